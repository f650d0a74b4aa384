theorem dX10_part_1 : decode cX10_part 1 = .ok (.iload_n 1, 1) := by decide +kernel
theorem dX10_part_2 : decode cX10_part 2 = .ok (.invokevirtual 142, 3) := by decide +kernel
theorem dX10_part_5 : decode cX10_part 5 = .ok (.aload_n 0, 1) := by decide +kernel
theorem dX10_part_6 : decode cX10_part 6 = .ok (.invokevirtual 243, 3) := by decide +kernel
theorem dX10_part_9 : decode cX10_part 9 = .ok (.iload_n 2, 1) := by decide +kernel
theorem dX10_part_10 : decode cX10_part 10 = .ok (.ifCond .lt 16, 3) := by decide +kernel
theorem dX10_part_13 : decode cX10_part 13 = .ok (.iload_n 2, 1) := by decide +kernel
theorem dX10_part_14 : decode cX10_part 14 = .ok (.aload_n 0, 1) := by decide +kernel
theorem dX10_part_15 : decode cX10_part 15 = .ok (.getfield 43, 3) := by decide +kernel
theorem dX10_part_18 : decode cX10_part 18 = .ok (.getfield 246, 3) := by decide +kernel
theorem dX10_part_21 : decode cX10_part 21 = .ok (.iload_n 1, 1) := by decide +kernel
theorem dX10_part_22 : decode cX10_part 22 = .ok (.iaload, 1) := by decide +kernel
theorem dX10_part_23 : decode cX10_part 23 = .ok (.if_icmp .lt 7, 3) := by decide +kernel
theorem dX10_part_26 : decode cX10_part 26 = .ok (.aload_n 0, 1) := by decide +kernel
theorem dX10_part_27 : decode cX10_part 27 = .ok (.invokevirtual 249, 3) := by decide +kernel
theorem dX10_part_30 : decode cX10_part 30 = .ok (.aload_n 0, 1) := by decide +kernel
theorem dX10_part_31 : decode cX10_part 31 = .ok (.iload_n 3, 1) := by decide +kernel
theorem dX10_part_32 : decode cX10_part 32 = .ok (.iconst 0, 1) := by decide +kernel
theorem dX10_part_33 : decode cX10_part 33 = .ok (.iconst 1, 1) := by decide +kernel
theorem dX10_part_34 : decode cX10_part 34 = .ok (.invokevirtual 83, 3) := by decide +kernel
theorem dX10_part_37 : decode cX10_part 37 = .ok (.aload_n 0, 1) := by decide +kernel
theorem dX10_part_38 : decode cX10_part 38 = .ok (.getfield 43, 3) := by decide +kernel
theorem dX10_part_41 : decode cX10_part 41 = .ok (.getfield 252, 3) := by decide +kernel
theorem dX10_part_44 : decode cX10_part 44 = .ok (.iload_n 1, 1) := by decide +kernel
theorem dX10_part_45 : decode cX10_part 45 = .ok (.iaload, 1) := by decide +kernel
theorem dX10_part_46 : decode cX10_part 46 = .ok (.iload_n 2, 1) := by decide +kernel
theorem dX10_part_47 : decode cX10_part 47 = .ok (.iadd, 1) := by decide +kernel
theorem dX10_part_48 : decode cX10_part 48 = .ok (.istore 4, 2) := by decide +kernel
theorem dX10_part_50 : decode cX10_part 50 = .ok (.iload_n 3, 1) := by decide +kernel
theorem dX10_part_51 : decode cX10_part 51 = .ok (.ifCond .ne 16, 3) := by decide +kernel
theorem dX10_part_54 : decode cX10_part 54 = .ok (.aload_n 0, 1) := by decide +kernel
theorem dX10_part_55 : decode cX10_part 55 = .ok (.getfield 43, 3) := by decide +kernel
theorem dX10_part_58 : decode cX10_part 58 = .ok (.getfield 255, 3) := by decide +kernel
theorem dX10_part_61 : decode cX10_part 61 = .ok (.iload 4, 2) := by decide +kernel
theorem dX10_part_63 : decode cX10_part 63 = .ok (.iaload, 1) := by decide +kernel
theorem dX10_part_64 : decode cX10_part 64 = .ok (.goto 13, 3) := by decide +kernel
theorem dX10_part_67 : decode cX10_part 67 = .ok (.aload_n 0, 1) := by decide +kernel
theorem dX10_part_68 : decode cX10_part 68 = .ok (.getfield 43, 3) := by decide +kernel
theorem dX10_part_71 : decode cX10_part 71 = .ok (.getfield 258, 3) := by decide +kernel
theorem dX10_part_74 : decode cX10_part 74 = .ok (.iload 4, 2) := by decide +kernel
theorem dX10_part_76 : decode cX10_part 76 = .ok (.iaload, 1) := by decide +kernel
theorem dX10_part_77 : decode cX10_part 77 = .ok (.ireturn, 1) := by decide +kernel
theorem dX10_parts_0 : decode cX10_parts 0 = .ok (.aload_n 0, 1) := by decide +kernel
theorem dX10_parts_1 : decode cX10_parts 1 = .ok (.iload_n 1, 1) := by decide +kernel
theorem dX10_parts_2 : decode cX10_parts 2 = .ok (.invokevirtual 142, 3) := by decide +kernel
theorem dX10_parts_5 : decode cX10_parts 5 = .ok (.aload_n 0, 1) := by decide +kernel
theorem dX10_parts_6 : decode cX10_parts 6 = .ok (.invokevirtual 243, 3) := by decide +kernel
theorem dX10_parts_9 : decode cX10_parts 9 = .ok (.aload_n 0, 1) := by decide +kernel
theorem dX10_parts_10 : decode cX10_parts 10 = .ok (.getfield 43, 3) := by decide +kernel
theorem dX10_parts_13 : decode cX10_parts 13 = .ok (.getfield 246, 3) := by decide +kernel
theorem dX10_parts_16 : decode cX10_parts 16 = .ok (.iload_n 1, 1) := by decide +kernel
theorem dX10_parts_17 : decode cX10_parts 17 = .ok (.iaload, 1) := by decide +kernel
theorem dX10_parts_18 : decode cX10_parts 18 = .ok (.ireturn, 1) := by decide +kernel
theorem dX10_chain_0 : decode cX10_chain 0 = .ok (.aload_n 0, 1) := by decide +kernel
theorem dX10_chain_1 : decode cX10_chain 1 = .ok (.iload_n 1, 1) := by decide +kernel
theorem dX10_chain_2 : decode cX10_chain 2 = .ok (.invokevirtual 142, 3) := by decide +kernel
theorem dX10_chain_5 : decode cX10_chain 5 = .ok (.iload_n 2, 1) := by decide +kernel
theorem dX10_chain_6 : decode cX10_chain 6 = .ok (.ifCond .lt 14, 3) := by decide +kernel
theorem dX10_chain_9 : decode cX10_chain 9 = .ok (.aload_n 0, 1) := by decide +kernel
theorem dX10_chain_10 : decode cX10_chain 10 = .ok (.getfield 26, 3) := by decide +kernel
theorem dX10_chain_13 : decode cX10_chain 13 = .ok (.iload_n 1, 1) := by decide +kernel
theorem dX10_chain_14 : decode cX10_chain 14 = .ok (.invokevirtual 145, 3) := by decide +kernel
theorem dX10_chain_17 : decode cX10_chain 17 = .ok (.ifCond .ne 7, 3) := by decide +kernel
theorem dX10_chain_20 : decode cX10_chain 20 = .ok (.aload_n 0, 1) := by decide +kernel
theorem dX10_chain_21 : decode cX10_chain 21 = .ok (.invokevirtual 249, 3) := by decide +kernel
theorem dX10_chain_24 : decode cX10_chain 24 = .ok (.aload_n 0, 1) := by decide +kernel
theorem dX10_chain_25 : decode cX10_chain 25 = .ok (.invokevirtual 243, 3) := by decide +kernel
theorem dX10_chain_28 : decode cX10_chain 28 = .ok (.aload_n 0, 1) := by decide +kernel
theorem dX10_chain_29 : decode cX10_chain 29 = .ok (.getfield 43, 3) := by decide +kernel
theorem dX10_chain_32 : decode cX10_chain 32 = .ok (.iload_n 1, 1) := by decide +kernel
theorem dX10_chain_33 : decode cX10_chain 33 = .ok (.iload_n 2, 1) := by decide +kernel
theorem dX10_chain_34 : decode cX10_chain 34 = .ok (.invokevirtual 260, 3) := by decide +kernel
theorem dX10_chain_37 : decode cX10_chain 37 = .ok (.istore_n 3, 1) := by decide +kernel
theorem dX10_chain_38 : decode cX10_chain 38 = .ok (.iload_n 3, 1) := by decide +kernel
theorem dX10_chain_39 : decode cX10_chain 39 = .ok (.iconst (-1), 1) := by decide +kernel
theorem dX10_chain_40 : decode cX10_chain 40 = .ok (.if_icmp .ne 7, 3) := by decide +kernel
theorem dX10_chain_43 : decode cX10_chain 43 = .ok (.aload_n 0, 1) := by decide +kernel
theorem dX10_chain_44 : decode cX10_chain 44 = .ok (.invokevirtual 249, 3) := by decide +kernel
theorem dX10_chain_47 : decode cX10_chain 47 = .ok (.iload_n 3, 1) := by decide +kernel
theorem dX10_chain_48 : decode cX10_chain 48 = .ok (.ireturn, 1) := by decide +kernel
theorem dX10_ring_0 : decode cX10_ring 0 = .ok (.aload_n 0, 1) := by decide +kernel
theorem dX10_ring_1 : decode cX10_ring 1 = .ok (.iload_n 1, 1) := by decide +kernel
theorem dX10_ring_2 : decode cX10_ring 2 = .ok (.iconst 0, 1) := by decide +kernel
theorem dX10_ring_3 : decode cX10_ring 3 = .ok (.bipush 9, 2) := by decide +kernel
theorem dX10_ring_5 : decode cX10_ring 5 = .ok (.invokevirtual 83, 3) := by decide +kernel
theorem dX10_ring_8 : decode cX10_ring 8 = .ok (.aload_n 0, 1) := by decide +kernel
theorem dX10_ring_9 : decode cX10_ring 9 = .ok (.getfield 36, 3) := by decide +kernel
theorem dX10_ring_12 : decode cX10_ring 12 = .ok (.aload_n 0, 1) := by decide +kernel
theorem dX10_ring_13 : decode cX10_ring 13 = .ok (.getfield 26, 3) := by decide +kernel
theorem dX10_ring_16 : decode cX10_ring 16 = .ok (.invokevirtual 158, 3) := by decide +kernel
theorem dX10_ring_19 : decode cX10_ring 19 = .ok (.aload_n 0, 1) := by decide +kernel
theorem dX10_ring_20 : decode cX10_ring 20 = .ok (.getfield 50, 3) := by decide +kernel
theorem dX10_ring_23 : decode cX10_ring 23 = .ok (.aload_n 0, 1) := by decide +kernel
theorem dX10_ring_24 : decode cX10_ring 24 = .ok (.getfield 26, 3) := by decide +kernel
theorem dX10_ring_27 : decode cX10_ring 27 = .ok (.aload_n 0, 1) := by decide +kernel
theorem dX10_ring_28 : decode cX10_ring 28 = .ok (.getfield 36, 3) := by decide +kernel
theorem dX10_ring_31 : decode cX10_ring 31 = .ok (.invokevirtual 263, 3) := by decide +kernel
theorem dX10_ring_34 : decode cX10_ring 34 = .ok (.ifCond .ne 5, 3) := by decide +kernel
theorem dX10_ring_37 : decode cX10_ring 37 = .ok (.iconst (-1), 1) := by decide +kernel
theorem dX10_ring_38 : decode cX10_ring 38 = .ok (.ireturn, 1) := by decide +kernel
theorem dX10_ring_39 : decode cX10_ring 39 = .ok (.iload_n 1, 1) := by decide +kernel
theorem dX10_ring_40 : decode cX10_ring 40 = .ok (.ifCond .ne 11, 3) := by decide +kernel
theorem dX10_ring_43 : decode cX10_ring 43 = .ok (.aload_n 0, 1) := by decide +kernel
theorem dX10_ring_44 : decode cX10_ring 44 = .ok (.getfield 50, 3) := by decide +kernel
theorem dX10_ring_47 : decode cX10_ring 47 = .ok (.getfield 267, 3) := by decide +kernel
theorem dX10_ring_50 : decode cX10_ring 50 = .ok (.ireturn, 1) := by decide +kernel
theorem dX10_ring_51 : decode cX10_ring 51 = .ok (.iload_n 1, 1) := by decide +kernel
theorem dX10_ring_52 : decode cX10_ring 52 = .ok (.iconst 1, 1) := by decide +kernel
theorem dX10_ring_53 : decode cX10_ring 53 = .ok (.if_icmp .ne 11, 3) := by decide +kernel
theorem dX10_ring_56 : decode cX10_ring 56 = .ok (.aload_n 0, 1) := by decide +kernel
theorem dX10_ring_57 : decode cX10_ring 57 = .ok (.getfield 50, 3) := by decide +kernel
theorem dX10_ring_60 : decode cX10_ring 60 = .ok (.getfield 270, 3) := by decide +kernel
theorem dX10_ring_63 : decode cX10_ring 63 = .ok (.ireturn, 1) := by decide +kernel
theorem dX10_ring_64 : decode cX10_ring 64 = .ok (.iload_n 1, 1) := by decide +kernel
theorem dX10_ring_65 : decode cX10_ring 65 = .ok (.iconst 2, 1) := by decide +kernel
theorem dX10_ring_66 : decode cX10_ring 66 = .ok (.isub, 1) := by decide +kernel
theorem dX10_ring_67 : decode cX10_ring 67 = .ok (.istore_n 2, 1) := by decide +kernel
theorem dX10_ring_68 : decode cX10_ring 68 = .ok (.iload_n 2, 1) := by decide +kernel
theorem dX10_ring_69 : decode cX10_ring 69 = .ok (.aload_n 0, 1) := by decide +kernel
theorem dX10_ring_70 : decode cX10_ring 70 = .ok (.getfield 50, 3) := by decide +kernel
theorem dX10_ring_73 : decode cX10_ring 73 = .ok (.getfield 267, 3) := by decide +kernel
theorem dX10_ring_76 : decode cX10_ring 76 = .ok (.if_icmp .ge 15, 3) := by decide +kernel
theorem dX10_ring_79 : decode cX10_ring 79 = .ok (.aload_n 0, 1) := by decide +kernel
theorem dX10_ring_80 : decode cX10_ring 80 = .ok (.getfield 50, 3) := by decide +kernel
theorem dX10_ring_83 : decode cX10_ring 83 = .ok (.getfield 271, 3) := by decide +kernel
theorem dX10_ring_86 : decode cX10_ring 86 = .ok (.iload_n 2, 1) := by decide +kernel
theorem dX10_ring_87 : decode cX10_ring 87 = .ok (.iaload, 1) := by decide +kernel
theorem dX10_ring_88 : decode cX10_ring 88 = .ok (.goto 4, 3) := by decide +kernel
theorem dX10_ring_91 : decode cX10_ring 91 = .ok (.iconst (-1), 1) := by decide +kernel
theorem dX10_ring_92 : decode cX10_ring 92 = .ok (.ireturn, 1) := by decide +kernel
theorem dX10_most_0 : decode cX10_most 0 = .ok (.aload_n 0, 1) := by decide +kernel
theorem dX10_most_1 : decode cX10_most 1 = .ok (.iload_n 1, 1) := by decide +kernel
theorem dX10_most_2 : decode cX10_most 2 = .ok (.iconst 0, 1) := by decide +kernel
theorem dX10_most_3 : decode cX10_most 3 = .ok (.iconst 1, 1) := by decide +kernel
theorem dX10_most_4 : decode cX10_most 4 = .ok (.invokevirtual 83, 3) := by decide +kernel
theorem dX10_most_7 : decode cX10_most 7 = .ok (.aload_n 0, 1) := by decide +kernel
theorem dX10_most_8 : decode cX10_most 8 = .ok (.getfield 57, 3) := by decide +kernel
theorem dX10_most_11 : decode cX10_most 11 = .ok (.aload_n 0, 1) := by decide +kernel
theorem dX10_most_12 : decode cX10_most 12 = .ok (.getfield 26, 3) := by decide +kernel
theorem dX10_most_15 : decode cX10_most 15 = .ok (.iload_n 1, 1) := by decide +kernel
theorem dX10_most_16 : decode cX10_most 16 = .ok (.iconst 1, 1) := by decide +kernel
theorem dX10_most_17 : decode cX10_most 17 = .ok (.if_icmp .ne 7, 3) := by decide +kernel
theorem dX10_most_20 : decode cX10_most 20 = .ok (.iconst 1, 1) := by decide +kernel
theorem dX10_most_21 : decode cX10_most 21 = .ok (.goto 4, 3) := by decide +kernel
theorem dX10_most_24 : decode cX10_most 24 = .ok (.iconst 0, 1) := by decide +kernel
theorem dX10_most_25 : decode cX10_most 25 = .ok (.invokevirtual 274, 3) := by decide +kernel
theorem dX10_most_28 : decode cX10_most 28 = .ok (.lreturn, 1) := by decide +kernel
theorem dX10_foretold_0 : decode cX10_foretold 0 = .ok (.aload_n 0, 1) := by decide +kernel
theorem dX10_foretold_1 : decode cX10_foretold 1 = .ok (.iload_n 1, 1) := by decide +kernel
theorem dX10_foretold_2 : decode cX10_foretold 2 = .ok (.iconst 1, 1) := by decide +kernel
theorem dX10_foretold_3 : decode cX10_foretold 3 = .ok (.bipush 30, 2) := by decide +kernel
theorem dX10_foretold_5 : decode cX10_foretold 5 = .ok (.invokevirtual 83, 3) := by decide +kernel
theorem dX10_foretold_8 : decode cX10_foretold 8 = .ok (.aload_n 0, 1) := by decide +kernel
theorem dX10_foretold_9 : decode cX10_foretold 9 = .ok (.getfield 30, 3) := by decide +kernel
theorem dX10_foretold_12 : decode cX10_foretold 12 = .ok (.aload_n 0, 1) := by decide +kernel
theorem dX10_foretold_13 : decode cX10_foretold 13 = .ok (.getfield 26, 3) := by decide +kernel
theorem dX10_foretold_16 : decode cX10_foretold 16 = .ok (.invokevirtual 101, 3) := by decide +kernel
theorem dX10_foretold_19 : decode cX10_foretold 19 = .ok (.iconst 0, 1) := by decide +kernel
theorem dX10_foretold_20 : decode cX10_foretold 20 = .ok (.istore_n 2, 1) := by decide +kernel
theorem dX10_foretold_21 : decode cX10_foretold 21 = .ok (.iload_n 2, 1) := by decide +kernel
theorem dX10_foretold_22 : decode cX10_foretold 22 = .ok (.iload_n 1, 1) := by decide +kernel
theorem dX10_foretold_23 : decode cX10_foretold 23 = .ok (.if_icmp .ge 35, 3) := by decide +kernel
theorem dX10_foretold_26 : decode cX10_foretold 26 = .ok (.aload_n 0, 1) := by decide +kernel
theorem dX10_foretold_27 : decode cX10_foretold 27 = .ok (.getfield 30, 3) := by decide +kernel
theorem dX10_foretold_30 : decode cX10_foretold 30 = .ok (.getfield 133, 3) := by decide +kernel
theorem dX10_foretold_33 : decode cX10_foretold 33 = .ok (.sipush 5000, 3) := by decide +kernel
theorem dX10_foretold_36 : decode cX10_foretold 36 = .ok (.if_icmp .lt 5, 3) := by decide +kernel
theorem dX10_foretold_39 : decode cX10_foretold 39 = .ok (.iconst 0, 1) := by decide +kernel
theorem dX10_foretold_40 : decode cX10_foretold 40 = .ok (.ireturn, 1) := by decide +kernel
theorem dX10_foretold_41 : decode cX10_foretold 41 = .ok (.aload_n 0, 1) := by decide +kernel
theorem dX10_foretold_42 : decode cX10_foretold 42 = .ok (.getfield 64, 3) := by decide +kernel
theorem dX10_foretold_45 : decode cX10_foretold 45 = .ok (.aload_n 0, 1) := by decide +kernel
theorem dX10_foretold_46 : decode cX10_foretold 46 = .ok (.getfield 30, 3) := by decide +kernel
theorem dX10_foretold_49 : decode cX10_foretold 49 = .ok (.invokevirtual 136, 3) := by decide +kernel
theorem dX10_foretold_52 : decode cX10_foretold 52 = .ok (.iinc 2 1, 3) := by decide +kernel
theorem dX10_foretold_55 : decode cX10_foretold 55 = .ok (.goto (-34), 3) := by decide +kernel
theorem dX10_foretold_58 : decode cX10_foretold 58 = .ok (.aload_n 0, 1) := by decide +kernel
theorem dX10_foretold_59 : decode cX10_foretold 59 = .ok (.getfield 64, 3) := by decide +kernel
theorem dX10_foretold_62 : decode cX10_foretold 62 = .ok (.getfield 278, 3) := by decide +kernel
theorem dX10_foretold_65 : decode cX10_foretold 65 = .ok (.ireturn, 1) := by decide +kernel
theorem dX10_without_0 : decode cX10_without 0 = .ok (.iload_n 1, 1) := by decide +kernel
theorem dX10_without_1 : decode cX10_without 1 = .ok (.iconst (-1), 1) := by decide +kernel
theorem dX10_without_2 : decode cX10_without 2 = .ok (.if_icmp .eq 8, 3) := by decide +kernel
theorem dX10_without_5 : decode cX10_without 5 = .ok (.aload_n 0, 1) := by decide +kernel
theorem dX10_without_6 : decode cX10_without 6 = .ok (.iload_n 1, 1) := by decide +kernel
theorem dX10_without_7 : decode cX10_without 7 = .ok (.invokevirtual 142, 3) := by decide +kernel
theorem dX10_without_10 : decode cX10_without 10 = .ok (.aload_n 0, 1) := by decide +kernel
theorem dX10_without_11 : decode cX10_without 11 = .ok (.getfield 26, 3) := by decide +kernel
theorem dX10_without_14 : decode cX10_without 14 = .ok (.getfield 133, 3) := by decide +kernel
theorem dX10_without_17 : decode cX10_without 17 = .ok (.sipush 5000, 3) := by decide +kernel
theorem dX10_without_20 : decode cX10_without 20 = .ok (.if_icmp .lt 5, 3) := by decide +kernel
theorem dX10_without_23 : decode cX10_without 23 = .ok (.lconst 0, 1) := by decide +kernel
theorem dX10_without_24 : decode cX10_without 24 = .ok (.lreturn, 1) := by decide +kernel
theorem dX10_without_25 : decode cX10_without 25 = .ok (.aload_n 0, 1) := by decide +kernel
theorem dX10_without_26 : decode cX10_without 26 = .ok (.getfield 30, 3) := by decide +kernel
theorem dX10_without_29 : decode cX10_without 29 = .ok (.aload_n 0, 1) := by decide +kernel
theorem dX10_without_30 : decode cX10_without 30 = .ok (.getfield 26, 3) := by decide +kernel
theorem dX10_without_33 : decode cX10_without 33 = .ok (.invokevirtual 101, 3) := by decide +kernel
theorem dX10_without_36 : decode cX10_without 36 = .ok (.iload_n 1, 1) := by decide +kernel
theorem dX10_without_37 : decode cX10_without 37 = .ok (.iconst (-1), 1) := by decide +kernel
theorem dX10_without_38 : decode cX10_without 38 = .ok (.if_icmp .eq 11, 3) := by decide +kernel
theorem dX10_without_41 : decode cX10_without 41 = .ok (.aload_n 0, 1) := by decide +kernel
theorem dX10_without_42 : decode cX10_without 42 = .ok (.getfield 30, 3) := by decide +kernel
theorem dX10_without_45 : decode cX10_without 45 = .ok (.iload_n 1, 1) := by decide +kernel
theorem dX10_without_46 : decode cX10_without 46 = .ok (.invokevirtual 281, 3) := by decide +kernel
theorem dX10_without_49 : decode cX10_without 49 = .ok (.aload_n 0, 1) := by decide +kernel
theorem dX10_without_50 : decode cX10_without 50 = .ok (.getfield 64, 3) := by decide +kernel
theorem dX10_without_53 : decode cX10_without 53 = .ok (.aload_n 0, 1) := by decide +kernel
theorem dX10_without_54 : decode cX10_without 54 = .ok (.getfield 30, 3) := by decide +kernel
theorem dX10_without_57 : decode cX10_without 57 = .ok (.invokevirtual 136, 3) := by decide +kernel
theorem dX10_without_60 : decode cX10_without 60 = .ok (.aload_n 0, 1) := by decide +kernel
theorem dX10_without_61 : decode cX10_without 61 = .ok (.getfield 64, 3) := by decide +kernel
theorem dX10_without_64 : decode cX10_without 64 = .ok (.getfield 284, 3) := by decide +kernel
theorem dX10_without_67 : decode cX10_without 67 = .ok (.lreturn, 1) := by decide +kernel
theorem dX10_between_0 : decode cX10_between 0 = .ok (.aload_n 0, 1) := by decide +kernel
theorem dX10_between_1 : decode cX10_between 1 = .ok (.iload_n 1, 1) := by decide +kernel
theorem dX10_between_2 : decode cX10_between 2 = .ok (.invokevirtual 107, 3) := by decide +kernel
theorem dX10_between_5 : decode cX10_between 5 = .ok (.aload_n 0, 1) := by decide +kernel
theorem dX10_between_6 : decode cX10_between 6 = .ok (.iload_n 2, 1) := by decide +kernel
theorem dX10_between_7 : decode cX10_between 7 = .ok (.invokevirtual 107, 3) := by decide +kernel
theorem dX10_between_10 : decode cX10_between 10 = .ok (.aload_n 0, 1) := by decide +kernel
theorem dX10_between_11 : decode cX10_between 11 = .ok (.getfield 26, 3) := by decide +kernel
theorem dX10_between_14 : decode cX10_between 14 = .ok (.iload_n 1, 1) := by decide +kernel
theorem dX10_between_15 : decode cX10_between 15 = .ok (.iload_n 2, 1) := by decide +kernel
theorem dX10_between_16 : decode cX10_between 16 = .ok (.invokevirtual 185, 3) := by decide +kernel
theorem dX10_between_19 : decode cX10_between 19 = .ok (.ireturn, 1) := by decide +kernel
theorem dX10_mean_0 : decode cX10_mean 0 = .ok (.aload_n 0, 1) := by decide +kernel
theorem dX10_mean_1 : decode cX10_mean 1 = .ok (.getfield 26, 3) := by decide +kernel
theorem dX10_mean_4 : decode cX10_mean 4 = .ok (.iconst (-1), 1) := by decide +kernel
theorem dX10_mean_5 : decode cX10_mean 5 = .ok (.iconst (-1), 1) := by decide +kernel
theorem dX10_mean_6 : decode cX10_mean 6 = .ok (.invokevirtual 185, 3) := by decide +kernel
theorem dX10_mean_9 : decode cX10_mean 9 = .ok (.istore_n 1, 1) := by decide +kernel
theorem dX10_mean_10 : decode cX10_mean 10 = .ok (.iload_n 1, 1) := by decide +kernel
theorem dX10_mean_11 : decode cX10_mean 11 = .ok (.ifCond .gt 5, 3) := by decide +kernel
theorem dX10_mean_14 : decode cX10_mean 14 = .ok (.lconst 0, 1) := by decide +kernel
theorem dX10_mean_15 : decode cX10_mean 15 = .ok (.lreturn, 1) := by decide +kernel
theorem dX10_mean_16 : decode cX10_mean 16 = .ok (.aload_n 0, 1) := by decide +kernel
theorem dX10_mean_17 : decode cX10_mean 17 = .ok (.getfield 26, 3) := by decide +kernel
theorem dX10_mean_20 : decode cX10_mean 20 = .ok (.invokevirtual 287, 3) := by decide +kernel
theorem dX10_mean_23 : decode cX10_mean 23 = .ok (.l2d, 1) := by decide +kernel
theorem dX10_mean_24 : decode cX10_mean 24 = .ok (.iload_n 1, 1) := by decide +kernel
theorem dX10_mean_25 : decode cX10_mean 25 = .ok (.i2d, 1) := by decide +kernel
theorem dX10_mean_26 : decode cX10_mean 26 = .ok (.ddiv, 1) := by decide +kernel
theorem dX10_mean_27 : decode cX10_mean 27 = .ok (.invokestatic 291, 3) := by decide +kernel
theorem dX10_mean_30 : decode cX10_mean 30 = .ok (.lreturn, 1) := by decide +kernel
theorem dX10_outside_0 : decode cX10_outside 0 = .ok (.aload_n 0, 1) := by decide +kernel
theorem dX10_outside_1 : decode cX10_outside 1 = .ok (.getfield 26, 3) := by decide +kernel
theorem dX10_outside_4 : decode cX10_outside 4 = .ok (.getfield 295, 3) := by decide +kernel
theorem dX10_outside_7 : decode cX10_outside 7 = .ok (.lreturn, 1) := by decide +kernel
theorem dX10_print_0 : decode cX10_print 0 = .ok (.lconst 0, 1) := by decide +kernel
theorem dX10_print_1 : decode cX10_print 1 = .ok (.lstore_n 1, 1) := by decide +kernel
theorem dX10_print_2 : decode cX10_print 2 = .ok (.iconst 0, 1) := by decide +kernel
theorem dX10_print_3 : decode cX10_print 3 = .ok (.istore_n 3, 1) := by decide +kernel
theorem dX10_print_4 : decode cX10_print 4 = .ok (.iload_n 3, 1) := by decide +kernel
theorem dX10_print_5 : decode cX10_print 5 = .ok (.aload_n 0, 1) := by decide +kernel
theorem dX10_print_6 : decode cX10_print 6 = .ok (.getfield 26, 3) := by decide +kernel
theorem dX10_print_9 : decode cX10_print 9 = .ok (.getfield 169, 3) := by decide +kernel
theorem dX10_print_12 : decode cX10_print 12 = .ok (.if_icmp .ge 48, 3) := by decide +kernel
theorem dX10_print_15 : decode cX10_print 15 = .ok (.ldc2_w 298, 3) := by decide +kernel
theorem dX10_print_18 : decode cX10_print 18 = .ok (.lload_n 1, 1) := by decide +kernel
theorem dX10_print_19 : decode cX10_print 19 = .ok (.lmul, 1) := by decide +kernel
theorem dX10_print_20 : decode cX10_print 20 = .ok (.aload_n 0, 1) := by decide +kernel
theorem dX10_print_21 : decode cX10_print 21 = .ok (.getfield 26, 3) := by decide +kernel
theorem dX10_print_24 : decode cX10_print 24 = .ok (.getfield 121, 3) := by decide +kernel
theorem dX10_print_27 : decode cX10_print 27 = .ok (.iload_n 3, 1) := by decide +kernel
theorem dX10_print_28 : decode cX10_print 28 = .ok (.aaload, 1) := by decide +kernel
theorem dX10_print_29 : decode cX10_print 29 = .ok (.getfield 125, 3) := by decide +kernel
theorem dX10_print_32 : decode cX10_print 32 = .ok (.i2l, 1) := by decide +kernel
theorem dX10_print_33 : decode cX10_print 33 = .ok (.ladd, 1) := by decide +kernel
theorem dX10_print_34 : decode cX10_print 34 = .ok (.lstore_n 1, 1) := by decide +kernel
theorem dX10_print_35 : decode cX10_print 35 = .ok (.ldc2_w 298, 3) := by decide +kernel
theorem dX10_print_38 : decode cX10_print 38 = .ok (.lload_n 1, 1) := by decide +kernel
theorem dX10_print_39 : decode cX10_print 39 = .ok (.lmul, 1) := by decide +kernel
theorem dX10_print_40 : decode cX10_print 40 = .ok (.aload_n 0, 1) := by decide +kernel
theorem dX10_print_41 : decode cX10_print 41 = .ok (.getfield 26, 3) := by decide +kernel
theorem dX10_print_44 : decode cX10_print 44 = .ok (.getfield 121, 3) := by decide +kernel
theorem dX10_print_47 : decode cX10_print 47 = .ok (.iload_n 3, 1) := by decide +kernel
theorem dX10_print_48 : decode cX10_print 48 = .ok (.aaload, 1) := by decide +kernel
theorem dX10_print_49 : decode cX10_print 49 = .ok (.getfield 192, 3) := by decide +kernel
theorem dX10_print_52 : decode cX10_print 52 = .ok (.ladd, 1) := by decide +kernel
theorem dX10_print_53 : decode cX10_print 53 = .ok (.lstore_n 1, 1) := by decide +kernel
theorem dX10_print_54 : decode cX10_print 54 = .ok (.iinc 3 1, 3) := by decide +kernel
theorem dX10_print_57 : decode cX10_print 57 = .ok (.goto (-53), 3) := by decide +kernel
theorem dX10_print_60 : decode cX10_print 60 = .ok (.iconst 0, 1) := by decide +kernel
theorem dX10_print_61 : decode cX10_print 61 = .ok (.istore_n 3, 1) := by decide +kernel
theorem dX10_print_62 : decode cX10_print 62 = .ok (.iload_n 3, 1) := by decide +kernel
theorem dX10_print_63 : decode cX10_print 63 = .ok (.aload_n 0, 1) := by decide +kernel
theorem dX10_print_64 : decode cX10_print 64 = .ok (.getfield 26, 3) := by decide +kernel
theorem dX10_print_67 : decode cX10_print 67 = .ok (.getfield 104, 3) := by decide +kernel
theorem dX10_print_70 : decode cX10_print 70 = .ok (.if_icmp .ge 29, 3) := by decide +kernel
theorem dX10_print_73 : decode cX10_print 73 = .ok (.ldc2_w 298, 3) := by decide +kernel
theorem dX10_print_76 : decode cX10_print 76 = .ok (.lload_n 1, 1) := by decide +kernel
theorem dX10_print_77 : decode cX10_print 77 = .ok (.lmul, 1) := by decide +kernel
theorem dX10_print_78 : decode cX10_print 78 = .ok (.aload_n 0, 1) := by decide +kernel
theorem dX10_print_79 : decode cX10_print 79 = .ok (.getfield 26, 3) := by decide +kernel
theorem dX10_print_82 : decode cX10_print 82 = .ok (.getfield 149, 3) := by decide +kernel
theorem dX10_print_85 : decode cX10_print 85 = .ok (.iload_n 3, 1) := by decide +kernel
theorem dX10_print_86 : decode cX10_print 86 = .ok (.aaload, 1) := by decide +kernel
theorem dX10_print_87 : decode cX10_print 87 = .ok (.getfield 153, 3) := by decide +kernel
theorem dX10_print_90 : decode cX10_print 90 = .ok (.i2l, 1) := by decide +kernel
theorem dX10_print_91 : decode cX10_print 91 = .ok (.ladd, 1) := by decide +kernel
theorem dX10_print_92 : decode cX10_print 92 = .ok (.lstore_n 1, 1) := by decide +kernel
theorem dX10_print_93 : decode cX10_print 93 = .ok (.iinc 3 1, 3) := by decide +kernel
theorem dX10_print_96 : decode cX10_print 96 = .ok (.goto (-34), 3) := by decide +kernel
theorem dX10_print_99 : decode cX10_print 99 = .ok (.lload_n 1, 1) := by decide +kernel
theorem dX10_print_100 : decode cX10_print 100 = .ok (.lreturn, 1) := by decide +kernel
theorem dX10_status_0 : decode cX10_status 0 = .ok (.iload_n 1, 1) := by decide +kernel
theorem dX10_status_1 : decode cX10_status 1 = .ok (.ifCond .lt 8, 3) := by decide +kernel
theorem dX10_status_4 : decode cX10_status 4 = .ok (.iload_n 1, 1) := by decide +kernel
theorem dX10_status_5 : decode cX10_status 5 = .ok (.iconst 2, 1) := by decide +kernel
theorem dX10_status_6 : decode cX10_status 6 = .ok (.if_icmp .le 7, 3) := by decide +kernel
theorem dX10_status_9 : decode cX10_status 9 = .ok (.iconst (-1), 1) := by decide +kernel
theorem dX10_status_10 : decode cX10_status 10 = .ok (.goto 9, 3) := by decide +kernel
theorem dX10_status_13 : decode cX10_status 13 = .ok (.aload_n 0, 1) := by decide +kernel
theorem dX10_status_14 : decode cX10_status 14 = .ok (.getfield 68, 3) := by decide +kernel
theorem dX10_status_17 : decode cX10_status 17 = .ok (.iload_n 1, 1) := by decide +kernel
theorem dX10_status_18 : decode cX10_status 18 = .ok (.iaload, 1) := by decide +kernel
theorem dX10_status_19 : decode cX10_status 19 = .ok (.ireturn, 1) := by decide +kernel
theorem dX10_standNow_0 : decode cX10_standNow 0 = .ok (.aload_n 0, 1) := by decide +kernel
theorem dX10_standNow_1 : decode cX10_standNow 1 = .ok (.getfield 36, 3) := by decide +kernel
theorem dX10_standNow_4 : decode cX10_standNow 4 = .ok (.aload_n 0, 1) := by decide +kernel
theorem dX10_standNow_5 : decode cX10_standNow 5 = .ok (.getfield 26, 3) := by decide +kernel
theorem dX10_standNow_8 : decode cX10_standNow 8 = .ok (.invokevirtual 158, 3) := by decide +kernel
theorem dX10_standNow_11 : decode cX10_standNow 11 = .ok (.aload_n 0, 1) := by decide +kernel
theorem dX10_standNow_12 : decode cX10_standNow 12 = .ok (.getfield 43, 3) := by decide +kernel
theorem dX10_standNow_15 : decode cX10_standNow 15 = .ok (.aload_n 0, 1) := by decide +kernel
theorem dX10_standNow_16 : decode cX10_standNow 16 = .ok (.getfield 26, 3) := by decide +kernel
theorem dX10_standNow_19 : decode cX10_standNow 19 = .ok (.aload_n 0, 1) := by decide +kernel
theorem dX10_standNow_20 : decode cX10_standNow 20 = .ok (.getfield 36, 3) := by decide +kernel
theorem dX10_standNow_23 : decode cX10_standNow 23 = .ok (.invokevirtual 300, 3) := by decide +kernel
theorem dX10_standNow_26 : decode cX10_standNow 26 = .ok (.return_, 1) := by decide +kernel
theorem dX10_ownFaultOf_0 : decode cX10_ownFaultOf 0 = .ok (.aload_n 0, 1) := by decide +kernel
theorem dX10_ownFaultOf_1 : decode cX10_ownFaultOf 1 = .ok (.invokevirtual 243, 3) := by decide +kernel
theorem dX10_ownFaultOf_4 : decode cX10_ownFaultOf 4 = .ok (.aload_n 0, 1) := by decide +kernel
theorem dX10_ownFaultOf_5 : decode cX10_ownFaultOf 5 = .ok (.getfield 43, 3) := by decide +kernel
theorem dX10_ownFaultOf_8 : decode cX10_ownFaultOf 8 = .ok (.getfield 304, 3) := by decide +kernel
theorem dX10_ownFaultOf_11 : decode cX10_ownFaultOf 11 = .ok (.iload_n 1, 1) := by decide +kernel
theorem dX10_ownFaultOf_12 : decode cX10_ownFaultOf 12 = .ok (.iaload, 1) := by decide +kernel
theorem dX10_ownFaultOf_13 : decode cX10_ownFaultOf 13 = .ok (.ireturn, 1) := by decide +kernel
theorem dX10_placeOf_0 : decode cX10_placeOf 0 = .ok (.aload_n 0, 1) := by decide +kernel
theorem dX10_placeOf_1 : decode cX10_placeOf 1 = .ok (.getfield 36, 3) := by decide +kernel
theorem dX10_placeOf_4 : decode cX10_placeOf 4 = .ok (.aload_n 0, 1) := by decide +kernel
theorem dX10_placeOf_5 : decode cX10_placeOf 5 = .ok (.getfield 26, 3) := by decide +kernel
theorem dX10_placeOf_8 : decode cX10_placeOf 8 = .ok (.invokevirtual 158, 3) := by decide +kernel
theorem dX10_placeOf_11 : decode cX10_placeOf 11 = .ok (.aload_n 0, 1) := by decide +kernel
theorem dX10_placeOf_12 : decode cX10_placeOf 12 = .ok (.getfield 36, 3) := by decide +kernel
theorem dX10_placeOf_15 : decode cX10_placeOf 15 = .ok (.iload_n 1, 1) := by decide +kernel
theorem dX10_placeOf_16 : decode cX10_placeOf 16 = .ok (.invokevirtual 307, 3) := by decide +kernel
theorem dX10_placeOf_19 : decode cX10_placeOf 19 = .ok (.ireturn, 1) := by decide +kernel
theorem dX10_needDealer_0 : decode cX10_needDealer 0 = .ok (.iload_n 1, 1) := by decide +kernel
theorem dX10_needDealer_1 : decode cX10_needDealer 1 = .ok (.ifCond .lt 14, 3) := by decide +kernel
theorem dX10_needDealer_4 : decode cX10_needDealer 4 = .ok (.iload_n 1, 1) := by decide +kernel
theorem dX10_needDealer_5 : decode cX10_needDealer 5 = .ok (.aload_n 0, 1) := by decide +kernel
theorem dX10_needDealer_6 : decode cX10_needDealer 6 = .ok (.getfield 26, 3) := by decide +kernel
theorem dX10_needDealer_9 : decode cX10_needDealer 9 = .ok (.getfield 169, 3) := by decide +kernel
theorem dX10_needDealer_12 : decode cX10_needDealer 12 = .ok (.if_icmp .lt 7, 3) := by decide +kernel
theorem dX10_needDealer_15 : decode cX10_needDealer 15 = .ok (.aload_n 0, 1) := by decide +kernel
theorem dX10_needDealer_16 : decode cX10_needDealer 16 = .ok (.invokevirtual 249, 3) := by decide +kernel
theorem dX10_needDealer_19 : decode cX10_needDealer 19 = .ok (.return_, 1) := by decide +kernel
theorem dX10_needSale_0 : decode cX10_needSale 0 = .ok (.iload_n 1, 1) := by decide +kernel
theorem dX10_needSale_1 : decode cX10_needSale 1 = .ok (.ifCond .lt 14, 3) := by decide +kernel
theorem dX10_needSale_4 : decode cX10_needSale 4 = .ok (.iload_n 1, 1) := by decide +kernel
theorem dX10_needSale_5 : decode cX10_needSale 5 = .ok (.aload_n 0, 1) := by decide +kernel
theorem dX10_needSale_6 : decode cX10_needSale 6 = .ok (.getfield 26, 3) := by decide +kernel
theorem dX10_needSale_9 : decode cX10_needSale 9 = .ok (.getfield 104, 3) := by decide +kernel
theorem dX10_needSale_12 : decode cX10_needSale 12 = .ok (.if_icmp .lt 7, 3) := by decide +kernel
theorem dX10_needSale_15 : decode cX10_needSale 15 = .ok (.aload_n 0, 1) := by decide +kernel
theorem dX10_needSale_16 : decode cX10_needSale 16 = .ok (.invokevirtual 249, 3) := by decide +kernel
theorem dX10_needSale_19 : decode cX10_needSale 19 = .ok (.return_, 1) := by decide +kernel
theorem dX10_needWithin_0 : decode cX10_needWithin 0 = .ok (.iload_n 1, 1) := by decide +kernel
theorem dX10_needWithin_1 : decode cX10_needWithin 1 = .ok (.iload_n 2, 1) := by decide +kernel
theorem dX10_needWithin_2 : decode cX10_needWithin 2 = .ok (.if_icmp .lt 8, 3) := by decide +kernel
theorem dX10_needWithin_5 : decode cX10_needWithin 5 = .ok (.iload_n 1, 1) := by decide +kernel
theorem dX10_needWithin_6 : decode cX10_needWithin 6 = .ok (.iload_n 3, 1) := by decide +kernel
theorem dX10_needWithin_7 : decode cX10_needWithin 7 = .ok (.if_icmp .le 7, 3) := by decide +kernel
theorem dX10_needWithin_10 : decode cX10_needWithin 10 = .ok (.aload_n 0, 1) := by decide +kernel
theorem dX10_needWithin_11 : decode cX10_needWithin 11 = .ok (.invokevirtual 110, 3) := by decide +kernel
theorem dX10_needWithin_14 : decode cX10_needWithin 14 = .ok (.return_, 1) := by decide +kernel
theorem dX10_refuseMissing_0 : decode cX10_refuseMissing 0 = .ok (.aload_n 0, 1) := by decide +kernel
theorem dX10_refuseMissing_1 : decode cX10_refuseMissing 1 = .ok (.getfield 68, 3) := by decide +kernel
theorem dX10_refuseMissing_4 : decode cX10_refuseMissing 4 = .ok (.iconst 0, 1) := by decide +kernel
theorem dX10_refuseMissing_5 : decode cX10_refuseMissing 5 = .ok (.dup2, 1) := by decide +kernel
theorem dX10_refuseMissing_6 : decode cX10_refuseMissing 6 = .ok (.iaload, 1) := by decide +kernel
theorem dX10_refuseMissing_7 : decode cX10_refuseMissing 7 = .ok (.iconst 1, 1) := by decide +kernel
theorem dX10_refuseMissing_8 : decode cX10_refuseMissing 8 = .ok (.iadd, 1) := by decide +kernel
theorem dX10_refuseMissing_9 : decode cX10_refuseMissing 9 = .ok (.iastore, 1) := by decide +kernel
theorem dX10_refuseMissing_10 : decode cX10_refuseMissing 10 = .ok (.new 308, 3) := by decide +kernel
theorem dX10_refuseMissing_13 : decode cX10_refuseMissing 13 = .ok (.dup, 1) := by decide +kernel
theorem dX10_refuseMissing_14 : decode cX10_refuseMissing 14 = .ok (.invokespecial 310, 3) := by decide +kernel
theorem dX10_refuseMissing_17 : decode cX10_refuseMissing 17 = .ok (.athrow, 1) := by decide +kernel
theorem dX10_refuseUnfit_0 : decode cX10_refuseUnfit 0 = .ok (.aload_n 0, 1) := by decide +kernel
theorem dX10_refuseUnfit_1 : decode cX10_refuseUnfit 1 = .ok (.getfield 68, 3) := by decide +kernel
theorem dX10_refuseUnfit_4 : decode cX10_refuseUnfit 4 = .ok (.iconst 1, 1) := by decide +kernel
theorem dX10_refuseUnfit_5 : decode cX10_refuseUnfit 5 = .ok (.dup2, 1) := by decide +kernel
theorem dX10_refuseUnfit_6 : decode cX10_refuseUnfit 6 = .ok (.iaload, 1) := by decide +kernel
theorem dX10_refuseUnfit_7 : decode cX10_refuseUnfit 7 = .ok (.iconst 1, 1) := by decide +kernel
theorem dX10_refuseUnfit_8 : decode cX10_refuseUnfit 8 = .ok (.iadd, 1) := by decide +kernel
theorem dX10_refuseUnfit_9 : decode cX10_refuseUnfit 9 = .ok (.iastore, 1) := by decide +kernel
theorem dX10_refuseUnfit_10 : decode cX10_refuseUnfit 10 = .ok (.new 311, 3) := by decide +kernel
theorem dX10_refuseUnfit_13 : decode cX10_refuseUnfit 13 = .ok (.dup, 1) := by decide +kernel
theorem dX10_refuseUnfit_14 : decode cX10_refuseUnfit 14 = .ok (.invokespecial 313, 3) := by decide +kernel
theorem dX10_refuseUnfit_17 : decode cX10_refuseUnfit 17 = .ok (.athrow, 1) := by decide +kernel
theorem dX10_refuseUntimely_0 : decode cX10_refuseUntimely 0 = .ok (.aload_n 0, 1) := by decide +kernel
theorem dX10_refuseUntimely_1 : decode cX10_refuseUntimely 1 = .ok (.getfield 68, 3) := by decide +kernel
theorem dX10_refuseUntimely_4 : decode cX10_refuseUntimely 4 = .ok (.iconst 2, 1) := by decide +kernel
theorem dX10_refuseUntimely_5 : decode cX10_refuseUntimely 5 = .ok (.dup2, 1) := by decide +kernel
theorem dX10_refuseUntimely_6 : decode cX10_refuseUntimely 6 = .ok (.iaload, 1) := by decide +kernel
theorem dX10_refuseUntimely_7 : decode cX10_refuseUntimely 7 = .ok (.iconst 1, 1) := by decide +kernel
theorem dX10_refuseUntimely_8 : decode cX10_refuseUntimely 8 = .ok (.iadd, 1) := by decide +kernel
theorem dX10_refuseUntimely_9 : decode cX10_refuseUntimely 9 = .ok (.iastore, 1) := by decide +kernel
theorem dX10_refuseUntimely_10 : decode cX10_refuseUntimely 10 = .ok (.new 314, 3) := by decide +kernel
theorem dX10_refuseUntimely_13 : decode cX10_refuseUntimely 13 = .ok (.dup, 1) := by decide +kernel
theorem dX10_refuseUntimely_14 : decode cX10_refuseUntimely 14 = .ok (.invokespecial 316, 3) := by decide +kernel
theorem dX10_refuseUntimely_17 : decode cX10_refuseUntimely 17 = .ok (.athrow, 1) := by decide +kernel
theorem dX10_bitsOf_0 : decode cX10_bitsOf 0 = .ok (.dload_n 0, 1) := by decide +kernel
theorem dX10_bitsOf_1 : decode cX10_bitsOf 1 = .ok (.dstore_n 2, 1) := by decide +kernel
theorem dX10_bitsOf_2 : decode cX10_bitsOf 2 = .ok (.iconst 0, 1) := by decide +kernel
theorem dX10_bitsOf_3 : decode cX10_bitsOf 3 = .ok (.istore 4, 2) := by decide +kernel
theorem dX10_bitsOf_5 : decode cX10_bitsOf 5 = .ok (.iconst 0, 1) := by decide +kernel
theorem dX10_bitsOf_6 : decode cX10_bitsOf 6 = .ok (.istore 5, 2) := by decide +kernel
theorem dX10_bitsOf_8 : decode cX10_bitsOf 8 = .ok (.iload 5, 2) := by decide +kernel
theorem dX10_bitsOf_10 : decode cX10_bitsOf 10 = .ok (.bipush 64, 2) := by decide +kernel
theorem dX10_bitsOf_12 : decode cX10_bitsOf 12 = .ok (.if_icmp .ge 26, 3) := by decide +kernel
theorem dX10_bitsOf_15 : decode cX10_bitsOf 15 = .ok (.dload_n 2, 1) := by decide +kernel
theorem dX10_bitsOf_16 : decode cX10_bitsOf 16 = .ok (.ldc2_w 317, 3) := by decide +kernel
theorem dX10_bitsOf_19 : decode cX10_bitsOf 19 = .ok (.dcmp .l, 1) := by decide +kernel
theorem dX10_bitsOf_20 : decode cX10_bitsOf 20 = .ok (.ifCond .lt 18, 3) := by decide +kernel
theorem dX10_bitsOf_23 : decode cX10_bitsOf 23 = .ok (.dload_n 2, 1) := by decide +kernel
theorem dX10_bitsOf_24 : decode cX10_bitsOf 24 = .ok (.ldc2_w 317, 3) := by decide +kernel
theorem dX10_bitsOf_27 : decode cX10_bitsOf 27 = .ok (.ddiv, 1) := by decide +kernel
theorem dX10_bitsOf_28 : decode cX10_bitsOf 28 = .ok (.dstore_n 2, 1) := by decide +kernel
theorem dX10_bitsOf_29 : decode cX10_bitsOf 29 = .ok (.iinc 4 1, 3) := by decide +kernel
theorem dX10_bitsOf_32 : decode cX10_bitsOf 32 = .ok (.iinc 5 1, 3) := by decide +kernel
theorem dX10_bitsOf_35 : decode cX10_bitsOf 35 = .ok (.goto (-27), 3) := by decide +kernel
theorem dX10_bitsOf_38 : decode cX10_bitsOf 38 = .ok (.ldc2_w 319, 3) := by decide +kernel
theorem dX10_bitsOf_41 : decode cX10_bitsOf 41 = .ok (.lstore 5, 2) := by decide +kernel
theorem dX10_bitsOf_43 : decode cX10_bitsOf 43 = .ok (.dload_n 2, 1) := by decide +kernel
theorem dX10_bitsOf_44 : decode cX10_bitsOf 44 = .ok (.lload 5, 2) := by decide +kernel
theorem dX10_bitsOf_46 : decode cX10_bitsOf 46 = .ok (.l2d, 1) := by decide +kernel
theorem dX10_bitsOf_47 : decode cX10_bitsOf 47 = .ok (.dmul, 1) := by decide +kernel
theorem dX10_bitsOf_48 : decode cX10_bitsOf 48 = .ok (.d2l, 1) := by decide +kernel
theorem dX10_bitsOf_49 : decode cX10_bitsOf 49 = .ok (.lload 5, 2) := by decide +kernel
theorem dX10_bitsOf_51 : decode cX10_bitsOf 51 = .ok (.lsub, 1) := by decide +kernel
theorem dX10_bitsOf_52 : decode cX10_bitsOf 52 = .ok (.lstore 7, 2) := by decide +kernel
theorem dX10_bitsOf_54 : decode cX10_bitsOf 54 = .ok (.iload 4, 2) := by decide +kernel
theorem dX10_bitsOf_56 : decode cX10_bitsOf 56 = .ok (.sipush 1023, 3) := by decide +kernel
theorem dX10_bitsOf_59 : decode cX10_bitsOf 59 = .ok (.iadd, 1) := by decide +kernel
theorem dX10_bitsOf_60 : decode cX10_bitsOf 60 = .ok (.i2l, 1) := by decide +kernel
theorem dX10_bitsOf_61 : decode cX10_bitsOf 61 = .ok (.bipush 52, 2) := by decide +kernel
theorem dX10_bitsOf_63 : decode cX10_bitsOf 63 = .ok (.lshl, 1) := by decide +kernel
theorem dX10_bitsOf_64 : decode cX10_bitsOf 64 = .ok (.lload 7, 2) := by decide +kernel
theorem dX10_bitsOf_66 : decode cX10_bitsOf 66 = .ok (.ladd, 1) := by decide +kernel
theorem dX10_bitsOf_67 : decode cX10_bitsOf 67 = .ok (.lreturn, 1) := by decide +kernel
theorem dX11_thrown_0 : decode cX11_thrown 0 = .ok (.aload_n 0, 1) := by decide +kernel
theorem dX11_thrown_1 : decode cX11_thrown 1 = .ok (.getfield 1, 3) := by decide +kernel
theorem dX11_thrown_4 : decode cX11_thrown 4 = .ok (.ireturn, 1) := by decide +kernel
theorem dX11_isFine_0 : decode cX11_isFine 0 = .ok (.iload_n 1, 1) := by decide +kernel
theorem dX11_isFine_1 : decode cX11_isFine 1 = .ok (.ifCond .ne 25, 3) := by decide +kernel
theorem dX11_isFine_4 : decode cX11_isFine 4 = .ok (.aload_n 0, 1) := by decide +kernel
theorem dX11_isFine_5 : decode cX11_isFine 5 = .ok (.getfield 1, 3) := by decide +kernel
theorem dX11_isFine_8 : decode cX11_isFine 8 = .ok (.ifCond .ne 18, 3) := by decide +kernel
theorem dX11_isFine_11 : decode cX11_isFine 11 = .ok (.aload_n 0, 1) := by decide +kernel
theorem dX11_isFine_12 : decode cX11_isFine 12 = .ok (.iload_n 2, 1) := by decide +kernel
theorem dX11_isFine_13 : decode cX11_isFine 13 = .ok (.putfield 1, 3) := by decide +kernel
theorem dX11_isFine_16 : decode cX11_isFine 16 = .ok (.aload_n 0, 1) := by decide +kernel
theorem dX11_isFine_17 : decode cX11_isFine 17 = .ok (.getfield 7, 3) := by decide +kernel
theorem dX11_isFine_20 : decode cX11_isFine 20 = .ok (.iload_n 3, 1) := by decide +kernel
theorem dX11_isFine_21 : decode cX11_isFine 21 = .ok (.dup2, 1) := by decide +kernel
theorem dX11_isFine_22 : decode cX11_isFine 22 = .ok (.iaload, 1) := by decide +kernel
theorem dX11_isFine_23 : decode cX11_isFine 23 = .ok (.iconst 1, 1) := by decide +kernel
theorem dX11_isFine_24 : decode cX11_isFine 24 = .ok (.iadd, 1) := by decide +kernel
theorem dX11_isFine_25 : decode cX11_isFine 25 = .ok (.iastore, 1) := by decide +kernel
theorem dX11_isFine_26 : decode cX11_isFine 26 = .ok (.aload_n 0, 1) := by decide +kernel
theorem dX11_isFine_27 : decode cX11_isFine 27 = .ok (.getfield 1, 3) := by decide +kernel
theorem dX11_isFine_30 : decode cX11_isFine 30 = .ok (.ifCond .ne 7, 3) := by decide +kernel
theorem dX11_isFine_33 : decode cX11_isFine 33 = .ok (.iconst 1, 1) := by decide +kernel
theorem dX11_isFine_34 : decode cX11_isFine 34 = .ok (.goto 4, 3) := by decide +kernel
theorem dX11_isFine_37 : decode cX11_isFine 37 = .ok (.iconst 0, 1) := by decide +kernel
theorem dX11_isFine_38 : decode cX11_isFine 38 = .ok (.ireturn, 1) := by decide +kernel
theorem dX11_lies_0 : decode cX11_lies 0 = .ok (.lload_n 0, 1) := by decide +kernel
theorem dX11_lies_1 : decode cX11_lies 1 = .ok (.lload_n 2, 1) := by decide +kernel
theorem dX11_lies_2 : decode cX11_lies 2 = .ok (.lcmp, 1) := by decide +kernel
theorem dX11_lies_3 : decode cX11_lies 3 = .ok (.ifCond .lt 14, 3) := by decide +kernel
theorem dX11_lies_6 : decode cX11_lies 6 = .ok (.lload_n 0, 1) := by decide +kernel
theorem dX11_lies_7 : decode cX11_lies 7 = .ok (.lload 4, 2) := by decide +kernel
theorem dX11_lies_9 : decode cX11_lies 9 = .ok (.lcmp, 1) := by decide +kernel
theorem dX11_lies_10 : decode cX11_lies 10 = .ok (.ifCond .gt 7, 3) := by decide +kernel
theorem dX11_lies_13 : decode cX11_lies 13 = .ok (.iconst 1, 1) := by decide +kernel
theorem dX11_lies_14 : decode cX11_lies 14 = .ok (.goto 4, 3) := by decide +kernel
theorem dX11_lies_17 : decode cX11_lies 17 = .ok (.iconst 0, 1) := by decide +kernel
theorem dX11_lies_18 : decode cX11_lies 18 = .ok (.ireturn, 1) := by decide +kernel
theorem dX11_init_0 : decode cX11_init 0 = .ok (.aload_n 0, 1) := by decide +kernel
theorem dX11_init_1 : decode cX11_init 1 = .ok (.invokespecial 11, 3) := by decide +kernel
theorem dX11_init_4 : decode cX11_init 4 = .ok (.aload_n 0, 1) := by decide +kernel
theorem dX11_init_5 : decode cX11_init 5 = .ok (.iconst 3, 1) := by decide +kernel
theorem dX11_init_6 : decode cX11_init 6 = .ok (.newarray .int, 2) := by decide +kernel
theorem dX11_init_8 : decode cX11_init 8 = .ok (.putfield 7, 3) := by decide +kernel
theorem dX11_init_11 : decode cX11_init 11 = .ok (.aload_n 0, 1) := by decide +kernel
theorem dX11_init_12 : decode cX11_init 12 = .ok (.sipush 773, 3) := by decide +kernel
theorem dX11_init_15 : decode cX11_init 15 = .ok (.newarray .long, 2) := by decide +kernel
theorem dX11_init_17 : decode cX11_init 17 = .ok (.putfield 17, 3) := by decide +kernel
theorem dX11_init_20 : decode cX11_init 20 = .ok (.aload_n 0, 1) := by decide +kernel
theorem dX11_init_21 : decode cX11_init 21 = .ok (.sipush 773, 3) := by decide +kernel
theorem dX11_init_24 : decode cX11_init 24 = .ok (.newarray .long, 2) := by decide +kernel
theorem dX11_init_26 : decode cX11_init 26 = .ok (.putfield 21, 3) := by decide +kernel
theorem dX11_init_29 : decode cX11_init 29 = .ok (.aload_n 0, 1) := by decide +kernel
theorem dX11_init_30 : decode cX11_init 30 = .ok (.sipush 773, 3) := by decide +kernel
theorem dX11_init_33 : decode cX11_init 33 = .ok (.newarray .long, 2) := by decide +kernel
theorem dX11_init_35 : decode cX11_init 35 = .ok (.putfield 24, 3) := by decide +kernel
theorem dX11_init_38 : decode cX11_init 38 = .ok (.aload_n 0, 1) := by decide +kernel
theorem dX11_init_39 : decode cX11_init 39 = .ok (.sipush 6184, 3) := by decide +kernel
theorem dX11_init_42 : decode cX11_init 42 = .ok (.newarray .long, 2) := by decide +kernel
theorem dX11_init_44 : decode cX11_init 44 = .ok (.putfield 27, 3) := by decide +kernel
theorem dX11_init_47 : decode cX11_init 47 = .ok (.aload_n 0, 1) := by decide +kernel
theorem dX11_init_48 : decode cX11_init 48 = .ok (.sipush 500, 3) := by decide +kernel
theorem dX11_init_51 : decode cX11_init 51 = .ok (.newarray .byte, 2) := by decide +kernel
theorem dX11_init_53 : decode cX11_init 53 = .ok (.putfield 30, 3) := by decide +kernel
theorem dX11_init_56 : decode cX11_init 56 = .ok (.aload_n 0, 1) := by decide +kernel
theorem dX11_init_57 : decode cX11_init 57 = .ok (.sipush 500, 3) := by decide +kernel
theorem dX11_init_60 : decode cX11_init 60 = .ok (.newarray .byte, 2) := by decide +kernel
theorem dX11_init_62 : decode cX11_init 62 = .ok (.putfield 34, 3) := by decide +kernel
theorem dX11_init_65 : decode cX11_init 65 = .ok (.aload_n 0, 1) := by decide +kernel
theorem dX11_init_66 : decode cX11_init 66 = .ok (.iconst (-1), 1) := by decide +kernel
theorem dX11_init_67 : decode cX11_init 67 = .ok (.putfield 37, 3) := by decide +kernel
theorem dX11_init_70 : decode cX11_init 70 = .ok (.aload_n 0, 1) := by decide +kernel
theorem dX11_init_71 : decode cX11_init 71 = .ok (.sipush 500, 3) := by decide +kernel
theorem dX11_init_74 : decode cX11_init 74 = .ok (.newarray .long, 2) := by decide +kernel
theorem dX11_init_76 : decode cX11_init 76 = .ok (.putfield 40, 3) := by decide +kernel
theorem dX11_init_79 : decode cX11_init 79 = .ok (.aload_n 0, 1) := by decide +kernel
theorem dX11_init_80 : decode cX11_init 80 = .ok (.bipush 24, 2) := by decide +kernel
theorem dX11_init_82 : decode cX11_init 82 = .ok (.newarray .int, 2) := by decide +kernel
theorem dX11_init_84 : decode cX11_init 84 = .ok (.putfield 43, 3) := by decide +kernel
theorem dX11_init_87 : decode cX11_init 87 = .ok (.aload_n 0, 1) := by decide +kernel
theorem dX11_init_88 : decode cX11_init 88 = .ok (.bipush 24, 2) := by decide +kernel
theorem dX11_init_90 : decode cX11_init 90 = .ok (.newarray .long, 2) := by decide +kernel
theorem dX11_init_92 : decode cX11_init 92 = .ok (.putfield 46, 3) := by decide +kernel
theorem dX11_init_95 : decode cX11_init 95 = .ok (.aload_n 0, 1) := by decide +kernel
theorem dX11_init_96 : decode cX11_init 96 = .ok (.bipush 8, 2) := by decide +kernel
theorem dX11_init_98 : decode cX11_init 98 = .ok (.newarray .int, 2) := by decide +kernel
theorem dX11_init_100 : decode cX11_init 100 = .ok (.putfield 49, 3) := by decide +kernel
theorem dX11_init_103 : decode cX11_init 103 = .ok (.aload_n 0, 1) := by decide +kernel
theorem dX11_init_104 : decode cX11_init 104 = .ok (.bipush 8, 2) := by decide +kernel
theorem dX11_init_106 : decode cX11_init 106 = .ok (.newarray .int, 2) := by decide +kernel
theorem dX11_init_108 : decode cX11_init 108 = .ok (.putfield 52, 3) := by decide +kernel
theorem dX11_init_111 : decode cX11_init 111 = .ok (.aload_n 0, 1) := by decide +kernel
theorem dX11_init_112 : decode cX11_init 112 = .ok (.sipush 576, 3) := by decide +kernel
theorem dX11_init_115 : decode cX11_init 115 = .ok (.newarray .int, 2) := by decide +kernel
theorem dX11_init_117 : decode cX11_init 117 = .ok (.putfield 55, 3) := by decide +kernel
theorem dX11_init_120 : decode cX11_init 120 = .ok (.aload_n 0, 1) := by decide +kernel
theorem dX11_init_121 : decode cX11_init 121 = .ok (.sipush 576, 3) := by decide +kernel
theorem dX11_init_124 : decode cX11_init 124 = .ok (.newarray .int, 2) := by decide +kernel
theorem dX11_init_126 : decode cX11_init 126 = .ok (.putfield 58, 3) := by decide +kernel
theorem dX11_init_129 : decode cX11_init 129 = .ok (.aload_n 0, 1) := by decide +kernel
theorem dX11_init_130 : decode cX11_init 130 = .ok (.bipush 24, 2) := by decide +kernel
theorem dX11_init_132 : decode cX11_init 132 = .ok (.newarray .int, 2) := by decide +kernel
theorem dX11_init_134 : decode cX11_init 134 = .ok (.putfield 61, 3) := by decide +kernel
theorem dX11_init_137 : decode cX11_init 137 = .ok (.aload_n 0, 1) := by decide +kernel
theorem dX11_init_138 : decode cX11_init 138 = .ok (.bipush 24, 2) := by decide +kernel
theorem dX11_init_140 : decode cX11_init 140 = .ok (.newarray .int, 2) := by decide +kernel
theorem dX11_init_142 : decode cX11_init 142 = .ok (.putfield 64, 3) := by decide +kernel
theorem dX11_init_145 : decode cX11_init 145 = .ok (.aload_n 0, 1) := by decide +kernel
theorem dX11_init_146 : decode cX11_init 146 = .ok (.bipush 24, 2) := by decide +kernel
theorem dX11_init_148 : decode cX11_init 148 = .ok (.newarray .boolean, 2) := by decide +kernel
theorem dX11_init_150 : decode cX11_init 150 = .ok (.putfield 67, 3) := by decide +kernel
theorem dX11_init_153 : decode cX11_init 153 = .ok (.aload_n 0, 1) := by decide +kernel
theorem dX11_init_154 : decode cX11_init 154 = .ok (.bipush 40, 2) := by decide +kernel
theorem dX11_init_156 : decode cX11_init 156 = .ok (.newarray .int, 2) := by decide +kernel
theorem dX11_init_158 : decode cX11_init 158 = .ok (.putfield 71, 3) := by decide +kernel
theorem dX11_init_161 : decode cX11_init 161 = .ok (.aload_n 0, 1) := by decide +kernel
theorem dX11_init_162 : decode cX11_init 162 = .ok (.bipush 40, 2) := by decide +kernel
theorem dX11_init_164 : decode cX11_init 164 = .ok (.newarray .int, 2) := by decide +kernel
theorem dX11_init_166 : decode cX11_init 166 = .ok (.putfield 74, 3) := by decide +kernel
theorem dX11_init_169 : decode cX11_init 169 = .ok (.aload_n 0, 1) := by decide +kernel
theorem dX11_init_170 : decode cX11_init 170 = .ok (.bipush 9, 2) := by decide +kernel
theorem dX11_init_172 : decode cX11_init 172 = .ok (.newarray .int, 2) := by decide +kernel
theorem dX11_init_174 : decode cX11_init 174 = .ok (.putfield 77, 3) := by decide +kernel
theorem dX11_init_177 : decode cX11_init 177 = .ok (.aload_n 0, 1) := by decide +kernel
theorem dX11_init_178 : decode cX11_init 178 = .ok (.bipush 40, 2) := by decide +kernel
theorem dX11_init_180 : decode cX11_init 180 = .ok (.newarray .long, 2) := by decide +kernel
theorem dX11_init_182 : decode cX11_init 182 = .ok (.putfield 80, 3) := by decide +kernel
theorem dX11_init_185 : decode cX11_init 185 = .ok (.aload_n 0, 1) := by decide +kernel
theorem dX11_init_186 : decode cX11_init 186 = .ok (.bipush 40, 2) := by decide +kernel
theorem dX11_init_188 : decode cX11_init 188 = .ok (.newarray .long, 2) := by decide +kernel
theorem dX11_init_190 : decode cX11_init 190 = .ok (.putfield 83, 3) := by decide +kernel
theorem dX11_init_193 : decode cX11_init 193 = .ok (.aload_n 0, 1) := by decide +kernel
theorem dX11_init_194 : decode cX11_init 194 = .ok (.bipush 40, 2) := by decide +kernel
theorem dX11_init_196 : decode cX11_init 196 = .ok (.newarray .long, 2) := by decide +kernel
theorem dX11_init_198 : decode cX11_init 198 = .ok (.putfield 86, 3) := by decide +kernel
theorem dX11_init_201 : decode cX11_init 201 = .ok (.aload_n 0, 1) := by decide +kernel
theorem dX11_init_202 : decode cX11_init 202 = .ok (.bipush 9, 2) := by decide +kernel
theorem dX11_init_204 : decode cX11_init 204 = .ok (.newarray .long, 2) := by decide +kernel
theorem dX11_init_206 : decode cX11_init 206 = .ok (.putfield 89, 3) := by decide +kernel
theorem dX11_init_209 : decode cX11_init 209 = .ok (.aload_n 0, 1) := by decide +kernel
theorem dX11_init_210 : decode cX11_init 210 = .ok (.getfield 17, 3) := by decide +kernel
theorem dX11_init_213 : decode cX11_init 213 = .ok (.iconst 3, 1) := by decide +kernel
theorem dX11_init_214 : decode cX11_init 214 = .ok (.ldc2_w 92, 3) := by decide +kernel
theorem dX11_init_217 : decode cX11_init 217 = .ok (.lastore, 1) := by decide +kernel
theorem dX11_init_218 : decode cX11_init 218 = .ok (.aload_n 0, 1) := by decide +kernel
theorem dX11_init_219 : decode cX11_init 219 = .ok (.getfield 17, 3) := by decide +kernel
theorem dX11_init_222 : decode cX11_init 222 = .ok (.iconst 5, 1) := by decide +kernel
theorem dX11_init_223 : decode cX11_init 223 = .ok (.lconst 1, 1) := by decide +kernel
theorem dX11_init_224 : decode cX11_init 224 = .ok (.lastore, 1) := by decide +kernel
theorem dX11_init_225 : decode cX11_init 225 = .ok (.aload_n 0, 1) := by decide +kernel
theorem dX11_init_226 : decode cX11_init 226 = .ok (.getfield 17, 3) := by decide +kernel
theorem dX11_init_229 : decode cX11_init 229 = .ok (.bipush 6, 2) := by decide +kernel
theorem dX11_init_231 : decode cX11_init 231 = .ok (.ldc2_w 94, 3) := by decide +kernel
theorem dX11_init_234 : decode cX11_init 234 = .ok (.lastore, 1) := by decide +kernel
theorem dX11_init_235 : decode cX11_init 235 = .ok (.return_, 1) := by decide +kernel
theorem dX11_dealers_0 : decode cX11_dealers 0 = .ok (.aload_n 0, 1) := by decide +kernel
theorem dX11_dealers_1 : decode cX11_dealers 1 = .ok (.getfield 17, 3) := by decide +kernel
theorem dX11_dealers_4 : decode cX11_dealers 4 = .ok (.iconst 0, 1) := by decide +kernel
theorem dX11_dealers_5 : decode cX11_dealers 5 = .ok (.laload, 1) := by decide +kernel
theorem dX11_dealers_6 : decode cX11_dealers 6 = .ok (.l2i, 1) := by decide +kernel
theorem dX11_dealers_7 : decode cX11_dealers 7 = .ok (.ireturn, 1) := by decide +kernel
theorem dX11_sales_0 : decode cX11_sales 0 = .ok (.aload_n 0, 1) := by decide +kernel
theorem dX11_sales_1 : decode cX11_sales 1 = .ok (.getfield 17, 3) := by decide +kernel
theorem dX11_sales_4 : decode cX11_sales 4 = .ok (.iconst 1, 1) := by decide +kernel
theorem dX11_sales_5 : decode cX11_sales 5 = .ok (.laload, 1) := by decide +kernel
theorem dX11_sales_6 : decode cX11_sales 6 = .ok (.l2i, 1) := by decide +kernel
theorem dX11_sales_7 : decode cX11_sales 7 = .ok (.ireturn, 1) := by decide +kernel
theorem dX11_of0_0 : decode cX11_of0 0 = .ok (.aload_n 0, 1) := by decide +kernel
theorem dX11_of0_1 : decode cX11_of0 1 = .ok (.getfield 17, 3) := by decide +kernel
theorem dX11_of0_4 : decode cX11_of0 4 = .ok (.bipush 57, 2) := by decide +kernel
theorem dX11_of0_6 : decode cX11_of0 6 = .ok (.bipush 9, 2) := by decide +kernel
theorem dX11_of0_8 : decode cX11_of0 8 = .ok (.iload_n 1, 1) := by decide +kernel
theorem dX11_of0_9 : decode cX11_of0 9 = .ok (.imul, 1) := by decide +kernel
theorem dX11_of0_10 : decode cX11_of0 10 = .ok (.iadd, 1) := by decide +kernel
theorem dX11_of0_11 : decode cX11_of0 11 = .ok (.iload_n 2, 1) := by decide +kernel
theorem dX11_of0_12 : decode cX11_of0 12 = .ok (.iadd, 1) := by decide +kernel
theorem dX11_of0_13 : decode cX11_of0 13 = .ok (.laload, 1) := by decide +kernel
theorem dX11_of0_14 : decode cX11_of0 14 = .ok (.l2i, 1) := by decide +kernel
theorem dX11_of0_15 : decode cX11_of0 15 = .ok (.ireturn, 1) := by decide +kernel
theorem dX11_adds_0 : decode cX11_adds 0 = .ok (.aload_n 0, 1) := by decide +kernel
theorem dX11_adds_1 : decode cX11_adds 1 = .ok (.getfield 17, 3) := by decide +kernel
theorem dX11_adds_4 : decode cX11_adds 4 = .ok (.bipush 57, 2) := by decide +kernel
theorem dX11_adds_6 : decode cX11_adds 6 = .ok (.bipush 9, 2) := by decide +kernel
theorem dX11_adds_8 : decode cX11_adds 8 = .ok (.iload_n 1, 1) := by decide +kernel
theorem dX11_adds_9 : decode cX11_adds 9 = .ok (.imul, 1) := by decide +kernel
theorem dX11_adds_10 : decode cX11_adds 10 = .ok (.iadd, 1) := by decide +kernel
theorem dX11_adds_11 : decode cX11_adds 11 = .ok (.iload_n 2, 1) := by decide +kernel
theorem dX11_adds_12 : decode cX11_adds 12 = .ok (.iadd, 1) := by decide +kernel
theorem dX11_adds_13 : decode cX11_adds 13 = .ok (.dup2, 1) := by decide +kernel
theorem dX11_adds_14 : decode cX11_adds 14 = .ok (.laload, 1) := by decide +kernel
theorem dX11_adds_15 : decode cX11_adds 15 = .ok (.lload_n 3, 1) := by decide +kernel
theorem dX11_adds_16 : decode cX11_adds 16 = .ok (.ladd, 1) := by decide +kernel
theorem dX11_adds_17 : decode cX11_adds 17 = .ok (.lastore, 1) := by decide +kernel
theorem dX11_adds_18 : decode cX11_adds 18 = .ok (.return_, 1) := by decide +kernel
theorem dX11_pays_0 : decode cX11_pays 0 = .ok (.aload_n 0, 1) := by decide +kernel
theorem dX11_pays_1 : decode cX11_pays 1 = .ok (.getfield 17, 3) := by decide +kernel
theorem dX11_pays_4 : decode cX11_pays 4 = .ok (.bipush 9, 2) := by decide +kernel
theorem dX11_pays_6 : decode cX11_pays 6 = .ok (.bipush 6, 2) := by decide +kernel
theorem dX11_pays_8 : decode cX11_pays 8 = .ok (.iload_n 1, 1) := by decide +kernel
theorem dX11_pays_9 : decode cX11_pays 9 = .ok (.imul, 1) := by decide +kernel
theorem dX11_pays_10 : decode cX11_pays 10 = .ok (.iadd, 1) := by decide +kernel
theorem dX11_pays_11 : decode cX11_pays 11 = .ok (.iconst 1, 1) := by decide +kernel
theorem dX11_pays_12 : decode cX11_pays 12 = .ok (.iadd, 1) := by decide +kernel
theorem dX11_pays_13 : decode cX11_pays 13 = .ok (.dup2, 1) := by decide +kernel
theorem dX11_pays_14 : decode cX11_pays 14 = .ok (.laload, 1) := by decide +kernel
theorem dX11_pays_15 : decode cX11_pays 15 = .ok (.lload_n 3, 1) := by decide +kernel
theorem dX11_pays_16 : decode cX11_pays 16 = .ok (.lsub, 1) := by decide +kernel
theorem dX11_pays_17 : decode cX11_pays 17 = .ok (.lastore, 1) := by decide +kernel
theorem dX11_pays_18 : decode cX11_pays 18 = .ok (.aload_n 0, 1) := by decide +kernel
theorem dX11_pays_19 : decode cX11_pays 19 = .ok (.getfield 17, 3) := by decide +kernel
theorem dX11_pays_22 : decode cX11_pays 22 = .ok (.bipush 9, 2) := by decide +kernel
theorem dX11_pays_24 : decode cX11_pays 24 = .ok (.bipush 6, 2) := by decide +kernel
theorem dX11_pays_26 : decode cX11_pays 26 = .ok (.iload_n 2, 1) := by decide +kernel
theorem dX11_pays_27 : decode cX11_pays 27 = .ok (.imul, 1) := by decide +kernel
theorem dX11_pays_28 : decode cX11_pays 28 = .ok (.iadd, 1) := by decide +kernel
theorem dX11_pays_29 : decode cX11_pays 29 = .ok (.iconst 1, 1) := by decide +kernel
theorem dX11_pays_30 : decode cX11_pays 30 = .ok (.iadd, 1) := by decide +kernel
theorem dX11_pays_31 : decode cX11_pays 31 = .ok (.dup2, 1) := by decide +kernel
theorem dX11_pays_32 : decode cX11_pays 32 = .ok (.laload, 1) := by decide +kernel
theorem dX11_pays_33 : decode cX11_pays 33 = .ok (.lload_n 3, 1) := by decide +kernel
theorem dX11_pays_34 : decode cX11_pays 34 = .ok (.ladd, 1) := by decide +kernel
theorem dX11_pays_35 : decode cX11_pays 35 = .ok (.lastore, 1) := by decide +kernel
theorem dX11_pays_36 : decode cX11_pays 36 = .ok (.return_, 1) := by decide +kernel
theorem dX11_keeps_0 : decode cX11_keeps 0 = .ok (.aload_n 0, 1) := by decide +kernel
theorem dX11_keeps_1 : decode cX11_keeps 1 = .ok (.getfield 96, 3) := by decide +kernel
theorem dX11_keeps_4 : decode cX11_keeps 4 = .ok (.bipush 8, 2) := by decide +kernel
theorem dX11_keeps_6 : decode cX11_keeps 6 = .ok (.if_icmp .ne 44, 3) := by decide +kernel
theorem dX11_keeps_9 : decode cX11_keeps 9 = .ok (.iconst 0, 1) := by decide +kernel
theorem dX11_keeps_10 : decode cX11_keeps 10 = .ok (.istore_n 1, 1) := by decide +kernel
theorem dX11_keeps_11 : decode cX11_keeps 11 = .ok (.iload_n 1, 1) := by decide +kernel
theorem dX11_keeps_12 : decode cX11_keeps 12 = .ok (.sipush 5411, 3) := by decide +kernel
theorem dX11_keeps_15 : decode cX11_keeps 15 = .ok (.if_icmp .ge 25, 3) := by decide +kernel
theorem dX11_keeps_18 : decode cX11_keeps 18 = .ok (.aload_n 0, 1) := by decide +kernel
theorem dX11_keeps_19 : decode cX11_keeps 19 = .ok (.getfield 27, 3) := by decide +kernel
theorem dX11_keeps_22 : decode cX11_keeps 22 = .ok (.iload_n 1, 1) := by decide +kernel
theorem dX11_keeps_23 : decode cX11_keeps 23 = .ok (.aload_n 0, 1) := by decide +kernel
theorem dX11_keeps_24 : decode cX11_keeps 24 = .ok (.getfield 27, 3) := by decide +kernel
theorem dX11_keeps_27 : decode cX11_keeps 27 = .ok (.iload_n 1, 1) := by decide +kernel
theorem dX11_keeps_28 : decode cX11_keeps 28 = .ok (.sipush 773, 3) := by decide +kernel
theorem dX11_keeps_31 : decode cX11_keeps 31 = .ok (.iadd, 1) := by decide +kernel
theorem dX11_keeps_32 : decode cX11_keeps 32 = .ok (.laload, 1) := by decide +kernel
theorem dX11_keeps_33 : decode cX11_keeps 33 = .ok (.lastore, 1) := by decide +kernel
theorem dX11_keeps_34 : decode cX11_keeps 34 = .ok (.iinc 1 1, 3) := by decide +kernel
theorem dX11_keeps_37 : decode cX11_keeps 37 = .ok (.goto (-26), 3) := by decide +kernel
theorem dX11_keeps_40 : decode cX11_keeps 40 = .ok (.aload_n 0, 1) := by decide +kernel
theorem dX11_keeps_41 : decode cX11_keeps 41 = .ok (.dup, 1) := by decide +kernel
theorem dX11_keeps_42 : decode cX11_keeps 42 = .ok (.getfield 96, 3) := by decide +kernel
theorem dX11_keeps_45 : decode cX11_keeps 45 = .ok (.iconst 1, 1) := by decide +kernel
theorem dX11_keeps_46 : decode cX11_keeps 46 = .ok (.isub, 1) := by decide +kernel
theorem dX11_keeps_47 : decode cX11_keeps 47 = .ok (.putfield 96, 3) := by decide +kernel
theorem dX11_keeps_50 : decode cX11_keeps 50 = .ok (.iconst 0, 1) := by decide +kernel
theorem dX11_keeps_51 : decode cX11_keeps 51 = .ok (.istore_n 1, 1) := by decide +kernel
theorem dX11_keeps_52 : decode cX11_keeps 52 = .ok (.iload_n 1, 1) := by decide +kernel
theorem dX11_keeps_53 : decode cX11_keeps 53 = .ok (.sipush 773, 3) := by decide +kernel
theorem dX11_keeps_56 : decode cX11_keeps 56 = .ok (.if_icmp .ge 30, 3) := by decide +kernel
theorem dX11_keeps_59 : decode cX11_keeps 59 = .ok (.aload_n 0, 1) := by decide +kernel
theorem dX11_keeps_60 : decode cX11_keeps 60 = .ok (.getfield 27, 3) := by decide +kernel
theorem dX11_keeps_63 : decode cX11_keeps 63 = .ok (.sipush 773, 3) := by decide +kernel
theorem dX11_keeps_66 : decode cX11_keeps 66 = .ok (.aload_n 0, 1) := by decide +kernel
theorem dX11_keeps_67 : decode cX11_keeps 67 = .ok (.getfield 96, 3) := by decide +kernel
theorem dX11_keeps_70 : decode cX11_keeps 70 = .ok (.imul, 1) := by decide +kernel
theorem dX11_keeps_71 : decode cX11_keeps 71 = .ok (.iload_n 1, 1) := by decide +kernel
theorem dX11_keeps_72 : decode cX11_keeps 72 = .ok (.iadd, 1) := by decide +kernel
theorem dX11_keeps_73 : decode cX11_keeps 73 = .ok (.aload_n 0, 1) := by decide +kernel
theorem dX11_keeps_74 : decode cX11_keeps 74 = .ok (.getfield 17, 3) := by decide +kernel
theorem dX11_keeps_77 : decode cX11_keeps 77 = .ok (.iload_n 1, 1) := by decide +kernel
theorem dX11_keeps_78 : decode cX11_keeps 78 = .ok (.laload, 1) := by decide +kernel
theorem dX11_keeps_79 : decode cX11_keeps 79 = .ok (.lastore, 1) := by decide +kernel
theorem dX11_keeps_80 : decode cX11_keeps 80 = .ok (.iinc 1 1, 3) := by decide +kernel
theorem dX11_keeps_83 : decode cX11_keeps 83 = .ok (.goto (-31), 3) := by decide +kernel
theorem dX11_keeps_86 : decode cX11_keeps 86 = .ok (.aload_n 0, 1) := by decide +kernel
theorem dX11_keeps_87 : decode cX11_keeps 87 = .ok (.dup, 1) := by decide +kernel
theorem dX11_keeps_88 : decode cX11_keeps 88 = .ok (.getfield 96, 3) := by decide +kernel
theorem dX11_keeps_91 : decode cX11_keeps 91 = .ok (.iconst 1, 1) := by decide +kernel
theorem dX11_keeps_92 : decode cX11_keeps 92 = .ok (.iadd, 1) := by decide +kernel
theorem dX11_keeps_93 : decode cX11_keeps 93 = .ok (.putfield 96, 3) := by decide +kernel
theorem dX11_keeps_96 : decode cX11_keeps 96 = .ok (.return_, 1) := by decide +kernel
theorem dX11_undo_0 : decode cX11_undo 0 = .ok (.aload_n 0, 1) := by decide +kernel
theorem dX11_undo_1 : decode cX11_undo 1 = .ok (.iconst 0, 1) := by decide +kernel
theorem dX11_undo_2 : decode cX11_undo 2 = .ok (.putfield 1, 3) := by decide +kernel
theorem dX11_undo_5 : decode cX11_undo 5 = .ok (.aload_n 0, 1) := by decide +kernel
theorem dX11_undo_6 : decode cX11_undo 6 = .ok (.getfield 96, 3) := by decide +kernel
theorem dX11_undo_9 : decode cX11_undo 9 = .ok (.ifCond .ne 5, 3) := by decide +kernel
theorem dX11_undo_12 : decode cX11_undo 12 = .ok (.iconst (-1), 1) := by decide +kernel
theorem dX11_undo_13 : decode cX11_undo 13 = .ok (.ireturn, 1) := by decide +kernel
theorem dX11_undo_14 : decode cX11_undo 14 = .ok (.aload_n 0, 1) := by decide +kernel
theorem dX11_undo_15 : decode cX11_undo 15 = .ok (.dup, 1) := by decide +kernel
theorem dX11_undo_16 : decode cX11_undo 16 = .ok (.getfield 96, 3) := by decide +kernel
theorem dX11_undo_19 : decode cX11_undo 19 = .ok (.iconst 1, 1) := by decide +kernel
theorem dX11_undo_20 : decode cX11_undo 20 = .ok (.isub, 1) := by decide +kernel
theorem dX11_undo_21 : decode cX11_undo 21 = .ok (.putfield 96, 3) := by decide +kernel
theorem dX11_undo_24 : decode cX11_undo 24 = .ok (.iconst 0, 1) := by decide +kernel
theorem dX11_undo_25 : decode cX11_undo 25 = .ok (.istore_n 1, 1) := by decide +kernel
theorem dX11_undo_26 : decode cX11_undo 26 = .ok (.iload_n 1, 1) := by decide +kernel
theorem dX11_undo_27 : decode cX11_undo 27 = .ok (.sipush 773, 3) := by decide +kernel
theorem dX11_undo_30 : decode cX11_undo 30 = .ok (.if_icmp .ge 30, 3) := by decide +kernel
theorem dX11_undo_33 : decode cX11_undo 33 = .ok (.aload_n 0, 1) := by decide +kernel
theorem dX11_undo_34 : decode cX11_undo 34 = .ok (.getfield 17, 3) := by decide +kernel
theorem dX11_undo_37 : decode cX11_undo 37 = .ok (.iload_n 1, 1) := by decide +kernel
theorem dX11_undo_38 : decode cX11_undo 38 = .ok (.aload_n 0, 1) := by decide +kernel
theorem dX11_undo_39 : decode cX11_undo 39 = .ok (.getfield 27, 3) := by decide +kernel
theorem dX11_undo_42 : decode cX11_undo 42 = .ok (.sipush 773, 3) := by decide +kernel
theorem dX11_undo_45 : decode cX11_undo 45 = .ok (.aload_n 0, 1) := by decide +kernel
theorem dX11_undo_46 : decode cX11_undo 46 = .ok (.getfield 96, 3) := by decide +kernel
theorem dX11_undo_49 : decode cX11_undo 49 = .ok (.imul, 1) := by decide +kernel
theorem dX11_undo_50 : decode cX11_undo 50 = .ok (.iload_n 1, 1) := by decide +kernel
theorem dX11_undo_51 : decode cX11_undo 51 = .ok (.iadd, 1) := by decide +kernel
theorem dX11_undo_52 : decode cX11_undo 52 = .ok (.laload, 1) := by decide +kernel
theorem dX11_undo_53 : decode cX11_undo 53 = .ok (.lastore, 1) := by decide +kernel
theorem dX11_undo_54 : decode cX11_undo 54 = .ok (.iinc 1 1, 3) := by decide +kernel
theorem dX11_undo_57 : decode cX11_undo 57 = .ok (.goto (-31), 3) := by decide +kernel
theorem dX11_undo_60 : decode cX11_undo 60 = .ok (.aload_n 0, 1) := by decide +kernel
theorem dX11_undo_61 : decode cX11_undo 61 = .ok (.getfield 96, 3) := by decide +kernel
theorem dX11_undo_64 : decode cX11_undo 64 = .ok (.ireturn, 1) := by decide +kernel
theorem dX11_feed_0 : decode cX11_feed 0 = .ok (.aload_n 0, 1) := by decide +kernel
theorem dX11_feed_1 : decode cX11_feed 1 = .ok (.iconst 0, 1) := by decide +kernel
theorem dX11_feed_2 : decode cX11_feed 2 = .ok (.putfield 1, 3) := by decide +kernel
theorem dX11_feed_5 : decode cX11_feed 5 = .ok (.aload_n 0, 1) := by decide +kernel
theorem dX11_feed_6 : decode cX11_feed 6 = .ok (.getfield 99, 3) := by decide +kernel
theorem dX11_feed_9 : decode cX11_feed 9 = .ok (.bipush 20, 2) := by decide +kernel
theorem dX11_feed_11 : decode cX11_feed 11 = .ok (.iadd, 1) := by decide +kernel
theorem dX11_feed_12 : decode cX11_feed 12 = .ok (.sipush 500, 3) := by decide +kernel
theorem dX11_feed_15 : decode cX11_feed 15 = .ok (.if_icmp .le 5, 3) := by decide +kernel
theorem dX11_feed_18 : decode cX11_feed 18 = .ok (.iconst (-1), 1) := by decide +kernel
theorem dX11_feed_19 : decode cX11_feed 19 = .ok (.ireturn, 1) := by decide +kernel
theorem dX11_feed_20 : decode cX11_feed 20 = .ok (.aload_n 0, 1) := by decide +kernel
theorem dX11_feed_21 : decode cX11_feed 21 = .ok (.iload_n 1, 1) := by decide +kernel
theorem dX11_feed_22 : decode cX11_feed 22 = .ok (.invokevirtual 102, 3) := by decide +kernel
theorem dX11_feed_25 : decode cX11_feed 25 = .ok (.aload_n 0, 1) := by decide +kernel
theorem dX11_feed_26 : decode cX11_feed 26 = .ok (.iload_n 2, 1) := by decide +kernel
theorem dX11_feed_27 : decode cX11_feed 27 = .ok (.invokevirtual 102, 3) := by decide +kernel
theorem dX11_feed_30 : decode cX11_feed 30 = .ok (.aload_n 0, 1) := by decide +kernel
theorem dX11_feed_31 : decode cX11_feed 31 = .ok (.iload_n 3, 1) := by decide +kernel
theorem dX11_feed_32 : decode cX11_feed 32 = .ok (.invokevirtual 102, 3) := by decide +kernel
theorem dX11_feed_35 : decode cX11_feed 35 = .ok (.aload_n 0, 1) := by decide +kernel
theorem dX11_feed_36 : decode cX11_feed 36 = .ok (.iload 4, 2) := by decide +kernel
theorem dX11_feed_38 : decode cX11_feed 38 = .ok (.invokevirtual 102, 3) := by decide +kernel
theorem dX11_feed_41 : decode cX11_feed 41 = .ok (.aload_n 0, 1) := by decide +kernel
theorem dX11_feed_42 : decode cX11_feed 42 = .ok (.iload 5, 2) := by decide +kernel
theorem dX11_feed_44 : decode cX11_feed 44 = .ok (.invokevirtual 102, 3) := by decide +kernel
theorem dX11_feed_47 : decode cX11_feed 47 = .ok (.aload_n 0, 1) := by decide +kernel
theorem dX11_feed_48 : decode cX11_feed 48 = .ok (.getfield 99, 3) := by decide +kernel
theorem dX11_feed_51 : decode cX11_feed 51 = .ok (.ireturn, 1) := by decide +kernel
theorem dX11_puts_0 : decode cX11_puts 0 = .ok (.bipush 24, 2) := by decide +kernel
theorem dX11_puts_2 : decode cX11_puts 2 = .ok (.istore_n 2, 1) := by decide +kernel
theorem dX11_puts_3 : decode cX11_puts 3 = .ok (.iload_n 2, 1) := by decide +kernel
theorem dX11_puts_4 : decode cX11_puts 4 = .ok (.ifCond .lt 32, 3) := by decide +kernel
theorem dX11_puts_7 : decode cX11_puts 7 = .ok (.aload_n 0, 1) := by decide +kernel
theorem dX11_puts_8 : decode cX11_puts 8 = .ok (.getfield 30, 3) := by decide +kernel
theorem dX11_puts_11 : decode cX11_puts 11 = .ok (.aload_n 0, 1) := by decide +kernel
theorem dX11_puts_12 : decode cX11_puts 12 = .ok (.getfield 99, 3) := by decide +kernel
theorem dX11_puts_15 : decode cX11_puts 15 = .ok (.iload_n 1, 1) := by decide +kernel
theorem dX11_puts_16 : decode cX11_puts 16 = .ok (.iload_n 2, 1) := by decide +kernel
theorem dX11_puts_17 : decode cX11_puts 17 = .ok (.ishr, 1) := by decide +kernel
theorem dX11_puts_18 : decode cX11_puts 18 = .ok (.i2b, 1) := by decide +kernel
theorem dX11_puts_19 : decode cX11_puts 19 = .ok (.bastore, 1) := by decide +kernel
theorem dX11_puts_20 : decode cX11_puts 20 = .ok (.aload_n 0, 1) := by decide +kernel
theorem dX11_puts_21 : decode cX11_puts 21 = .ok (.dup, 1) := by decide +kernel
theorem dX11_puts_22 : decode cX11_puts 22 = .ok (.getfield 99, 3) := by decide +kernel
theorem dX11_puts_25 : decode cX11_puts 25 = .ok (.iconst 1, 1) := by decide +kernel
theorem dX11_puts_26 : decode cX11_puts 26 = .ok (.iadd, 1) := by decide +kernel
theorem dX11_puts_27 : decode cX11_puts 27 = .ok (.putfield 99, 3) := by decide +kernel
theorem dX11_puts_30 : decode cX11_puts 30 = .ok (.iinc 2 (-8), 3) := by decide +kernel
theorem dX11_puts_33 : decode cX11_puts 33 = .ok (.goto (-30), 3) := by decide +kernel
theorem dX11_puts_36 : decode cX11_puts 36 = .ok (.return_, 1) := by decide +kernel
theorem dX11_wrong_0 : decode cX11_wrong 0 = .ok (.aload_n 0, 1) := by decide +kernel
theorem dX11_wrong_1 : decode cX11_wrong 1 = .ok (.getfield 106, 3) := by decide +kernel
theorem dX11_wrong_4 : decode cX11_wrong 4 = .ok (.ifCond .le 4, 3) := by decide +kernel
theorem dX11_wrong_7 : decode cX11_wrong 7 = .ok (.return_, 1) := by decide +kernel
theorem dX11_wrong_8 : decode cX11_wrong 8 = .ok (.aload_n 0, 1) := by decide +kernel
theorem dX11_wrong_9 : decode cX11_wrong 9 = .ok (.iload_n 1, 1) := by decide +kernel
theorem dX11_wrong_10 : decode cX11_wrong 10 = .ok (.putfield 106, 3) := by decide +kernel
theorem dX11_wrong_13 : decode cX11_wrong 13 = .ok (.aload_n 0, 1) := by decide +kernel
theorem dX11_wrong_14 : decode cX11_wrong 14 = .ok (.iload_n 2, 1) := by decide +kernel
theorem dX11_wrong_15 : decode cX11_wrong 15 = .ok (.putfield 109, 3) := by decide +kernel
theorem dX11_wrong_18 : decode cX11_wrong 18 = .ok (.return_, 1) := by decide +kernel
theorem dX11_sign_0 : decode cX11_sign 0 = .ok (.aload_n 0, 1) := by decide +kernel
theorem dX11_sign_1 : decode cX11_sign 1 = .ok (.getfield 112, 3) := by decide +kernel
theorem dX11_sign_4 : decode cX11_sign 4 = .ok (.aload_n 0, 1) := by decide +kernel
theorem dX11_sign_5 : decode cX11_sign 5 = .ok (.getfield 115, 3) := by decide +kernel
theorem dX11_sign_8 : decode cX11_sign 8 = .ok (.if_icmp .ge 30, 3) := by decide +kernel
theorem dX11_sign_11 : decode cX11_sign 11 = .ok (.aload_n 0, 1) := by decide +kernel
theorem dX11_sign_12 : decode cX11_sign 12 = .ok (.getfield 34, 3) := by decide +kernel
theorem dX11_sign_15 : decode cX11_sign 15 = .ok (.aload_n 0, 1) := by decide +kernel
theorem dX11_sign_16 : decode cX11_sign 16 = .ok (.getfield 112, 3) := by decide +kernel
theorem dX11_sign_19 : decode cX11_sign 19 = .ok (.baload, 1) := by decide +kernel
theorem dX11_sign_20 : decode cX11_sign 20 = .ok (.bipush 32, 2) := by decide +kernel
theorem dX11_sign_22 : decode cX11_sign 22 = .ok (.if_icmp .ne 16, 3) := by decide +kernel
theorem dX11_sign_25 : decode cX11_sign 25 = .ok (.aload_n 0, 1) := by decide +kernel
theorem dX11_sign_26 : decode cX11_sign 26 = .ok (.dup, 1) := by decide +kernel
theorem dX11_sign_27 : decode cX11_sign 27 = .ok (.getfield 112, 3) := by decide +kernel
theorem dX11_sign_30 : decode cX11_sign 30 = .ok (.iconst 1, 1) := by decide +kernel
theorem dX11_sign_31 : decode cX11_sign 31 = .ok (.iadd, 1) := by decide +kernel
theorem dX11_sign_32 : decode cX11_sign 32 = .ok (.putfield 112, 3) := by decide +kernel
theorem dX11_sign_35 : decode cX11_sign 35 = .ok (.goto (-35), 3) := by decide +kernel
theorem dX11_sign_38 : decode cX11_sign 38 = .ok (.aload_n 0, 1) := by decide +kernel
theorem dX11_sign_39 : decode cX11_sign 39 = .ok (.getfield 112, 3) := by decide +kernel
theorem dX11_sign_42 : decode cX11_sign 42 = .ok (.aload_n 0, 1) := by decide +kernel
theorem dX11_sign_43 : decode cX11_sign 43 = .ok (.getfield 115, 3) := by decide +kernel
theorem dX11_sign_46 : decode cX11_sign 46 = .ok (.if_icmp .ge 15, 3) := by decide +kernel
theorem dX11_sign_49 : decode cX11_sign 49 = .ok (.aload_n 0, 1) := by decide +kernel
theorem dX11_sign_50 : decode cX11_sign 50 = .ok (.getfield 34, 3) := by decide +kernel
theorem dX11_sign_53 : decode cX11_sign 53 = .ok (.aload_n 0, 1) := by decide +kernel
theorem dX11_sign_54 : decode cX11_sign 54 = .ok (.getfield 112, 3) := by decide +kernel
theorem dX11_sign_57 : decode cX11_sign 57 = .ok (.baload, 1) := by decide +kernel
theorem dX11_sign_58 : decode cX11_sign 58 = .ok (.goto 4, 3) := by decide +kernel
theorem dX11_sign_61 : decode cX11_sign 61 = .ok (.iconst 0, 1) := by decide +kernel
theorem dX11_sign_62 : decode cX11_sign 62 = .ok (.ireturn, 1) := by decide +kernel
theorem dX11_isSmall_0 : decode cX11_isSmall 0 = .ok (.iload_n 1, 1) := by decide +kernel
theorem dX11_isSmall_1 : decode cX11_isSmall 1 = .ok (.aload_n 0, 1) := by decide +kernel
theorem dX11_isSmall_2 : decode cX11_isSmall 2 = .ok (.getfield 115, 3) := by decide +kernel
theorem dX11_isSmall_5 : decode cX11_isSmall 5 = .ok (.if_icmp .ge 29, 3) := by decide +kernel
theorem dX11_isSmall_8 : decode cX11_isSmall 8 = .ok (.aload_n 0, 1) := by decide +kernel
theorem dX11_isSmall_9 : decode cX11_isSmall 9 = .ok (.getfield 34, 3) := by decide +kernel
theorem dX11_isSmall_12 : decode cX11_isSmall 12 = .ok (.iload_n 1, 1) := by decide +kernel
theorem dX11_isSmall_13 : decode cX11_isSmall 13 = .ok (.baload, 1) := by decide +kernel
theorem dX11_isSmall_14 : decode cX11_isSmall 14 = .ok (.bipush 97, 2) := by decide +kernel
theorem dX11_isSmall_16 : decode cX11_isSmall 16 = .ok (.if_icmp .lt 18, 3) := by decide +kernel
theorem dX11_isSmall_19 : decode cX11_isSmall 19 = .ok (.aload_n 0, 1) := by decide +kernel
theorem dX11_isSmall_20 : decode cX11_isSmall 20 = .ok (.getfield 34, 3) := by decide +kernel
theorem dX11_isSmall_23 : decode cX11_isSmall 23 = .ok (.iload_n 1, 1) := by decide +kernel
theorem dX11_isSmall_24 : decode cX11_isSmall 24 = .ok (.baload, 1) := by decide +kernel
theorem dX11_isSmall_25 : decode cX11_isSmall 25 = .ok (.bipush 122, 2) := by decide +kernel
theorem dX11_isSmall_27 : decode cX11_isSmall 27 = .ok (.if_icmp .gt 7, 3) := by decide +kernel
theorem dX11_isSmall_30 : decode cX11_isSmall 30 = .ok (.iconst 1, 1) := by decide +kernel
theorem dX11_isSmall_31 : decode cX11_isSmall 31 = .ok (.goto 4, 3) := by decide +kernel
theorem dX11_isSmall_34 : decode cX11_isSmall 34 = .ok (.iconst 0, 1) := by decide +kernel
theorem dX11_isSmall_35 : decode cX11_isSmall 35 = .ok (.ireturn, 1) := by decide +kernel
theorem dX11_isFigure_0 : decode cX11_isFigure 0 = .ok (.iload_n 1, 1) := by decide +kernel
theorem dX11_isFigure_1 : decode cX11_isFigure 1 = .ok (.aload_n 0, 1) := by decide +kernel
theorem dX11_isFigure_2 : decode cX11_isFigure 2 = .ok (.getfield 115, 3) := by decide +kernel
theorem dX11_isFigure_5 : decode cX11_isFigure 5 = .ok (.if_icmp .ge 29, 3) := by decide +kernel
theorem dX11_isFigure_8 : decode cX11_isFigure 8 = .ok (.aload_n 0, 1) := by decide +kernel
theorem dX11_isFigure_9 : decode cX11_isFigure 9 = .ok (.getfield 34, 3) := by decide +kernel
theorem dX11_isFigure_12 : decode cX11_isFigure 12 = .ok (.iload_n 1, 1) := by decide +kernel
theorem dX11_isFigure_13 : decode cX11_isFigure 13 = .ok (.baload, 1) := by decide +kernel
theorem dX11_isFigure_14 : decode cX11_isFigure 14 = .ok (.bipush 48, 2) := by decide +kernel
theorem dX11_isFigure_16 : decode cX11_isFigure 16 = .ok (.if_icmp .lt 18, 3) := by decide +kernel
theorem dX11_isFigure_19 : decode cX11_isFigure 19 = .ok (.aload_n 0, 1) := by decide +kernel
theorem dX11_isFigure_20 : decode cX11_isFigure 20 = .ok (.getfield 34, 3) := by decide +kernel
theorem dX11_isFigure_23 : decode cX11_isFigure 23 = .ok (.iload_n 1, 1) := by decide +kernel
theorem dX11_isFigure_24 : decode cX11_isFigure 24 = .ok (.baload, 1) := by decide +kernel
theorem dX11_isFigure_25 : decode cX11_isFigure 25 = .ok (.bipush 57, 2) := by decide +kernel
theorem dX11_isFigure_27 : decode cX11_isFigure 27 = .ok (.if_icmp .gt 7, 3) := by decide +kernel
theorem dX11_isFigure_30 : decode cX11_isFigure 30 = .ok (.iconst 1, 1) := by decide +kernel
theorem dX11_isFigure_31 : decode cX11_isFigure 31 = .ok (.goto 4, 3) := by decide +kernel
theorem dX11_isFigure_34 : decode cX11_isFigure 34 = .ok (.iconst 0, 1) := by decide +kernel
theorem dX11_isFigure_35 : decode cX11_isFigure 35 = .ok (.ireturn, 1) := by decide +kernel
theorem dX11_isHere_0 : decode cX11_isHere 0 = .ok (.aload_n 0, 1) := by decide +kernel
theorem dX11_isHere_1 : decode cX11_isHere 1 = .ok (.invokevirtual 118, 3) := by decide +kernel
theorem dX11_isHere_4 : decode cX11_isHere 4 = .ok (.pop, 1) := by decide +kernel
theorem dX11_isHere_5 : decode cX11_isHere 5 = .ok (.iconst 0, 1) := by decide +kernel
theorem dX11_isHere_6 : decode cX11_isHere 6 = .ok (.istore_n 2, 1) := by decide +kernel
theorem dX11_isHere_7 : decode cX11_isHere 7 = .ok (.iload_n 2, 1) := by decide +kernel
theorem dX11_isHere_8 : decode cX11_isHere 8 = .ok (.aload_n 1, 1) := by decide +kernel
theorem dX11_isHere_9 : decode cX11_isHere 9 = .ok (.invokevirtual 122, 3) := by decide +kernel
theorem dX11_isHere_12 : decode cX11_isHere 12 = .ok (.if_icmp .ge 43, 3) := by decide +kernel
theorem dX11_isHere_15 : decode cX11_isHere 15 = .ok (.aload_n 0, 1) := by decide +kernel
theorem dX11_isHere_16 : decode cX11_isHere 16 = .ok (.aload_n 0, 1) := by decide +kernel
theorem dX11_isHere_17 : decode cX11_isHere 17 = .ok (.getfield 112, 3) := by decide +kernel
theorem dX11_isHere_20 : decode cX11_isHere 20 = .ok (.iload_n 2, 1) := by decide +kernel
theorem dX11_isHere_21 : decode cX11_isHere 21 = .ok (.iadd, 1) := by decide +kernel
theorem dX11_isHere_22 : decode cX11_isHere 22 = .ok (.invokevirtual 127, 3) := by decide +kernel
theorem dX11_isHere_25 : decode cX11_isHere 25 = .ok (.ifCond .eq 22, 3) := by decide +kernel
theorem dX11_isHere_28 : decode cX11_isHere 28 = .ok (.aload_n 0, 1) := by decide +kernel
theorem dX11_isHere_29 : decode cX11_isHere 29 = .ok (.getfield 34, 3) := by decide +kernel
theorem dX11_isHere_32 : decode cX11_isHere 32 = .ok (.aload_n 0, 1) := by decide +kernel
theorem dX11_isHere_33 : decode cX11_isHere 33 = .ok (.getfield 112, 3) := by decide +kernel
theorem dX11_isHere_36 : decode cX11_isHere 36 = .ok (.iload_n 2, 1) := by decide +kernel
theorem dX11_isHere_37 : decode cX11_isHere 37 = .ok (.iadd, 1) := by decide +kernel
theorem dX11_isHere_38 : decode cX11_isHere 38 = .ok (.baload, 1) := by decide +kernel
theorem dX11_isHere_39 : decode cX11_isHere 39 = .ok (.aload_n 1, 1) := by decide +kernel
theorem dX11_isHere_40 : decode cX11_isHere 40 = .ok (.iload_n 2, 1) := by decide +kernel
theorem dX11_isHere_41 : decode cX11_isHere 41 = .ok (.invokevirtual 131, 3) := by decide +kernel
theorem dX11_isHere_44 : decode cX11_isHere 44 = .ok (.if_icmp .eq 5, 3) := by decide +kernel
theorem dX11_isHere_47 : decode cX11_isHere 47 = .ok (.iconst 0, 1) := by decide +kernel
theorem dX11_isHere_48 : decode cX11_isHere 48 = .ok (.ireturn, 1) := by decide +kernel
theorem dX11_isHere_49 : decode cX11_isHere 49 = .ok (.iinc 2 1, 3) := by decide +kernel
theorem dX11_isHere_52 : decode cX11_isHere 52 = .ok (.goto (-45), 3) := by decide +kernel
theorem dX11_isHere_55 : decode cX11_isHere 55 = .ok (.aload_n 0, 1) := by decide +kernel
theorem dX11_isHere_56 : decode cX11_isHere 56 = .ok (.aload_n 0, 1) := by decide +kernel
theorem dX11_isHere_57 : decode cX11_isHere 57 = .ok (.getfield 112, 3) := by decide +kernel
theorem dX11_isHere_60 : decode cX11_isHere 60 = .ok (.aload_n 1, 1) := by decide +kernel
theorem dX11_isHere_61 : decode cX11_isHere 61 = .ok (.invokevirtual 122, 3) := by decide +kernel
theorem dX11_isHere_64 : decode cX11_isHere 64 = .ok (.iadd, 1) := by decide +kernel
theorem dX11_isHere_65 : decode cX11_isHere 65 = .ok (.invokevirtual 127, 3) := by decide +kernel
theorem dX11_isHere_68 : decode cX11_isHere 68 = .ok (.ifCond .ne 7, 3) := by decide +kernel
theorem dX11_isHere_71 : decode cX11_isHere 71 = .ok (.iconst 1, 1) := by decide +kernel
theorem dX11_isHere_72 : decode cX11_isHere 72 = .ok (.goto 4, 3) := by decide +kernel
theorem dX11_isHere_75 : decode cX11_isHere 75 = .ok (.iconst 0, 1) := by decide +kernel
theorem dX11_isHere_76 : decode cX11_isHere 76 = .ok (.ireturn, 1) := by decide +kernel
theorem dX11_passesWord_0 : decode cX11_passesWord 0 = .ok (.aload_n 0, 1) := by decide +kernel
theorem dX11_passesWord_1 : decode cX11_passesWord 1 = .ok (.getfield 106, 3) := by decide +kernel
theorem dX11_passesWord_4 : decode cX11_passesWord 4 = .ok (.ifCond .gt 11, 3) := by decide +kernel
theorem dX11_passesWord_7 : decode cX11_passesWord 7 = .ok (.aload_n 0, 1) := by decide +kernel
theorem dX11_passesWord_8 : decode cX11_passesWord 8 = .ok (.aload_n 1, 1) := by decide +kernel
theorem dX11_passesWord_9 : decode cX11_passesWord 9 = .ok (.invokevirtual 135, 3) := by decide +kernel
theorem dX11_passesWord_12 : decode cX11_passesWord 12 = .ok (.ifCond .ne 5, 3) := by decide +kernel
theorem dX11_passesWord_15 : decode cX11_passesWord 15 = .ok (.iconst 0, 1) := by decide +kernel
theorem dX11_passesWord_16 : decode cX11_passesWord 16 = .ok (.ireturn, 1) := by decide +kernel
theorem dX11_passesWord_17 : decode cX11_passesWord 17 = .ok (.aload_n 0, 1) := by decide +kernel
theorem dX11_passesWord_18 : decode cX11_passesWord 18 = .ok (.dup, 1) := by decide +kernel
theorem dX11_passesWord_19 : decode cX11_passesWord 19 = .ok (.getfield 112, 3) := by decide +kernel
theorem dX11_passesWord_22 : decode cX11_passesWord 22 = .ok (.aload_n 1, 1) := by decide +kernel
theorem dX11_passesWord_23 : decode cX11_passesWord 23 = .ok (.invokevirtual 122, 3) := by decide +kernel
theorem dX11_passesWord_26 : decode cX11_passesWord 26 = .ok (.iadd, 1) := by decide +kernel
theorem dX11_passesWord_27 : decode cX11_passesWord 27 = .ok (.putfield 112, 3) := by decide +kernel
theorem dX11_passesWord_30 : decode cX11_passesWord 30 = .ok (.iconst 1, 1) := by decide +kernel
theorem dX11_passesWord_31 : decode cX11_passesWord 31 = .ok (.ireturn, 1) := by decide +kernel
theorem dX11_passes_0 : decode cX11_passes 0 = .ok (.aload_n 0, 1) := by decide +kernel
theorem dX11_passes_1 : decode cX11_passes 1 = .ok (.getfield 106, 3) := by decide +kernel
theorem dX11_passes_4 : decode cX11_passes 4 = .ok (.ifCond .gt 22, 3) := by decide +kernel
theorem dX11_passes_7 : decode cX11_passes 7 = .ok (.aload_n 0, 1) := by decide +kernel
theorem dX11_passes_8 : decode cX11_passes 8 = .ok (.invokevirtual 118, 3) := by decide +kernel
theorem dX11_passes_11 : decode cX11_passes 11 = .ok (.iload_n 1, 1) := by decide +kernel
theorem dX11_passes_12 : decode cX11_passes 12 = .ok (.if_icmp .ne 14, 3) := by decide +kernel
theorem dX11_passes_15 : decode cX11_passes 15 = .ok (.aload_n 0, 1) := by decide +kernel
theorem dX11_passes_16 : decode cX11_passes 16 = .ok (.getfield 112, 3) := by decide +kernel
theorem dX11_passes_19 : decode cX11_passes 19 = .ok (.aload_n 0, 1) := by decide +kernel
theorem dX11_passes_20 : decode cX11_passes 20 = .ok (.getfield 115, 3) := by decide +kernel
theorem dX11_passes_23 : decode cX11_passes 23 = .ok (.if_icmp .lt 5, 3) := by decide +kernel
theorem dX11_passes_26 : decode cX11_passes 26 = .ok (.iconst 0, 1) := by decide +kernel
theorem dX11_passes_27 : decode cX11_passes 27 = .ok (.ireturn, 1) := by decide +kernel
theorem dX11_passes_28 : decode cX11_passes 28 = .ok (.aload_n 0, 1) := by decide +kernel
theorem dX11_passes_29 : decode cX11_passes 29 = .ok (.dup, 1) := by decide +kernel
theorem dX11_passes_30 : decode cX11_passes 30 = .ok (.getfield 112, 3) := by decide +kernel
theorem dX11_passes_33 : decode cX11_passes 33 = .ok (.iconst 1, 1) := by decide +kernel
theorem dX11_passes_34 : decode cX11_passes 34 = .ok (.iadd, 1) := by decide +kernel
theorem dX11_passes_35 : decode cX11_passes 35 = .ok (.putfield 112, 3) := by decide +kernel
theorem dX11_passes_38 : decode cX11_passes 38 = .ok (.iconst 1, 1) := by decide +kernel
theorem dX11_passes_39 : decode cX11_passes 39 = .ok (.ireturn, 1) := by decide +kernel
theorem dX11_needs_0 : decode cX11_needs 0 = .ok (.aload_n 0, 1) := by decide +kernel
theorem dX11_needs_1 : decode cX11_needs 1 = .ok (.getfield 106, 3) := by decide +kernel
theorem dX11_needs_4 : decode cX11_needs 4 = .ok (.ifCond .ne 20, 3) := by decide +kernel
theorem dX11_needs_7 : decode cX11_needs 7 = .ok (.aload_n 0, 1) := by decide +kernel
theorem dX11_needs_8 : decode cX11_needs 8 = .ok (.iload_n 1, 1) := by decide +kernel
theorem dX11_needs_9 : decode cX11_needs 9 = .ok (.invokevirtual 139, 3) := by decide +kernel
theorem dX11_needs_12 : decode cX11_needs 12 = .ok (.ifCond .ne 12, 3) := by decide +kernel
theorem dX11_needs_15 : decode cX11_needs 15 = .ok (.aload_n 0, 1) := by decide +kernel
theorem dX11_needs_16 : decode cX11_needs 16 = .ok (.iconst 1, 1) := by decide +kernel
theorem dX11_needs_17 : decode cX11_needs 17 = .ok (.aload_n 0, 1) := by decide +kernel
theorem dX11_needs_18 : decode cX11_needs 18 = .ok (.getfield 112, 3) := by decide +kernel
theorem dX11_needs_21 : decode cX11_needs 21 = .ok (.invokevirtual 142, 3) := by decide +kernel
theorem dX11_needs_24 : decode cX11_needs 24 = .ok (.return_, 1) := by decide +kernel
theorem dX11_number_0 : decode cX11_number 0 = .ok (.aload_n 0, 1) := by decide +kernel
theorem dX11_number_1 : decode cX11_number 1 = .ok (.invokevirtual 118, 3) := by decide +kernel
theorem dX11_number_4 : decode cX11_number 4 = .ok (.pop, 1) := by decide +kernel
theorem dX11_number_5 : decode cX11_number 5 = .ok (.aload_n 0, 1) := by decide +kernel
theorem dX11_number_6 : decode cX11_number 6 = .ok (.getfield 106, 3) := by decide +kernel
theorem dX11_number_9 : decode cX11_number 9 = .ok (.ifCond .ne 23, 3) := by decide +kernel
theorem dX11_number_12 : decode cX11_number 12 = .ok (.aload_n 0, 1) := by decide +kernel
theorem dX11_number_13 : decode cX11_number 13 = .ok (.aload_n 0, 1) := by decide +kernel
theorem dX11_number_14 : decode cX11_number 14 = .ok (.getfield 112, 3) := by decide +kernel
theorem dX11_number_17 : decode cX11_number 17 = .ok (.invokevirtual 146, 3) := by decide +kernel
theorem dX11_number_20 : decode cX11_number 20 = .ok (.ifCond .ne 12, 3) := by decide +kernel
theorem dX11_number_23 : decode cX11_number 23 = .ok (.aload_n 0, 1) := by decide +kernel
theorem dX11_number_24 : decode cX11_number 24 = .ok (.iconst 1, 1) := by decide +kernel
theorem dX11_number_25 : decode cX11_number 25 = .ok (.aload_n 0, 1) := by decide +kernel
theorem dX11_number_26 : decode cX11_number 26 = .ok (.getfield 112, 3) := by decide +kernel
theorem dX11_number_29 : decode cX11_number 29 = .ok (.invokevirtual 142, 3) := by decide +kernel
theorem dX11_number_32 : decode cX11_number 32 = .ok (.aload_n 0, 1) := by decide +kernel
theorem dX11_number_33 : decode cX11_number 33 = .ok (.getfield 106, 3) := by decide +kernel
theorem dX11_number_36 : decode cX11_number 36 = .ok (.ifCond .le 5, 3) := by decide +kernel
theorem dX11_number_39 : decode cX11_number 39 = .ok (.lconst 0, 1) := by decide +kernel
theorem dX11_number_40 : decode cX11_number 40 = .ok (.lreturn, 1) := by decide +kernel
theorem dX11_number_41 : decode cX11_number 41 = .ok (.aload_n 0, 1) := by decide +kernel
theorem dX11_number_42 : decode cX11_number 42 = .ok (.aload_n 0, 1) := by decide +kernel
theorem dX11_number_43 : decode cX11_number 43 = .ok (.getfield 112, 3) := by decide +kernel
theorem dX11_number_46 : decode cX11_number 46 = .ok (.putfield 149, 3) := by decide +kernel
theorem dX11_number_49 : decode cX11_number 49 = .ok (.lconst 0, 1) := by decide +kernel
theorem dX11_number_50 : decode cX11_number 50 = .ok (.lstore 5, 2) := by decide +kernel
theorem dX11_number_52 : decode cX11_number 52 = .ok (.aload_n 0, 1) := by decide +kernel
theorem dX11_number_53 : decode cX11_number 53 = .ok (.aload_n 0, 1) := by decide +kernel
theorem dX11_number_54 : decode cX11_number 54 = .ok (.getfield 112, 3) := by decide +kernel
theorem dX11_number_57 : decode cX11_number 57 = .ok (.invokevirtual 146, 3) := by decide +kernel
theorem dX11_number_60 : decode cX11_number 60 = .ok (.ifCond .eq 45, 3) := by decide +kernel
theorem dX11_number_63 : decode cX11_number 63 = .ok (.ldc2_w 152, 3) := by decide +kernel
theorem dX11_number_66 : decode cX11_number 66 = .ok (.lload 5, 2) := by decide +kernel
theorem dX11_number_68 : decode cX11_number 68 = .ok (.lmul, 1) := by decide +kernel
theorem dX11_number_69 : decode cX11_number 69 = .ok (.aload_n 0, 1) := by decide +kernel
theorem dX11_number_70 : decode cX11_number 70 = .ok (.getfield 34, 3) := by decide +kernel
theorem dX11_number_73 : decode cX11_number 73 = .ok (.aload_n 0, 1) := by decide +kernel
theorem dX11_number_74 : decode cX11_number 74 = .ok (.getfield 112, 3) := by decide +kernel
theorem dX11_number_77 : decode cX11_number 77 = .ok (.baload, 1) := by decide +kernel
theorem dX11_number_78 : decode cX11_number 78 = .ok (.i2l, 1) := by decide +kernel
theorem dX11_number_79 : decode cX11_number 79 = .ok (.ladd, 1) := by decide +kernel
theorem dX11_number_80 : decode cX11_number 80 = .ok (.ldc2_w 154, 3) := by decide +kernel
theorem dX11_number_83 : decode cX11_number 83 = .ok (.lsub, 1) := by decide +kernel
theorem dX11_number_84 : decode cX11_number 84 = .ok (.ldc2_w 156, 3) := by decide +kernel
theorem dX11_number_87 : decode cX11_number 87 = .ok (.invokestatic 158, 3) := by decide +kernel
theorem dX11_number_90 : decode cX11_number 90 = .ok (.lstore 5, 2) := by decide +kernel
theorem dX11_number_92 : decode cX11_number 92 = .ok (.aload_n 0, 1) := by decide +kernel
theorem dX11_number_93 : decode cX11_number 93 = .ok (.dup, 1) := by decide +kernel
theorem dX11_number_94 : decode cX11_number 94 = .ok (.getfield 112, 3) := by decide +kernel
theorem dX11_number_97 : decode cX11_number 97 = .ok (.iconst 1, 1) := by decide +kernel
theorem dX11_number_98 : decode cX11_number 98 = .ok (.iadd, 1) := by decide +kernel
theorem dX11_number_99 : decode cX11_number 99 = .ok (.putfield 112, 3) := by decide +kernel
theorem dX11_number_102 : decode cX11_number 102 = .ok (.goto (-50), 3) := by decide +kernel
theorem dX11_number_105 : decode cX11_number 105 = .ok (.lload 5, 2) := by decide +kernel
theorem dX11_number_107 : decode cX11_number 107 = .ok (.lload_n 1, 1) := by decide +kernel
theorem dX11_number_108 : decode cX11_number 108 = .ok (.lload_n 3, 1) := by decide +kernel
theorem dX11_number_109 : decode cX11_number 109 = .ok (.invokestatic 164, 3) := by decide +kernel
theorem dX11_number_112 : decode cX11_number 112 = .ok (.ifCond .ne 12, 3) := by decide +kernel
theorem dX11_number_115 : decode cX11_number 115 = .ok (.aload_n 0, 1) := by decide +kernel
theorem dX11_number_116 : decode cX11_number 116 = .ok (.iconst 2, 1) := by decide +kernel
theorem dX11_number_117 : decode cX11_number 117 = .ok (.aload_n 0, 1) := by decide +kernel
theorem dX11_number_118 : decode cX11_number 118 = .ok (.getfield 149, 3) := by decide +kernel
theorem dX11_number_121 : decode cX11_number 121 = .ok (.invokevirtual 142, 3) := by decide +kernel
theorem dX11_number_124 : decode cX11_number 124 = .ok (.lload 5, 2) := by decide +kernel
theorem dX11_number_126 : decode cX11_number 126 = .ok (.lreturn, 1) := by decide +kernel
theorem dX11_code_0 : decode cX11_code 0 = .ok (.aload_n 0, 1) := by decide +kernel
theorem dX11_code_1 : decode cX11_code 1 = .ok (.getfield 106, 3) := by decide +kernel
theorem dX11_code_4 : decode cX11_code 4 = .ok (.ifCond .le 4, 3) := by decide +kernel
theorem dX11_code_7 : decode cX11_code 7 = .ok (.return_, 1) := by decide +kernel
theorem dX11_code_8 : decode cX11_code 8 = .ok (.aload_n 0, 1) := by decide +kernel
theorem dX11_code_9 : decode cX11_code 9 = .ok (.getfield 21, 3) := by decide +kernel
theorem dX11_code_12 : decode cX11_code 12 = .ok (.sipush 273, 3) := by decide +kernel
theorem dX11_code_15 : decode cX11_code 15 = .ok (.aload_n 0, 1) := by decide +kernel
theorem dX11_code_16 : decode cX11_code 16 = .ok (.getfield 21, 3) := by decide +kernel
theorem dX11_code_19 : decode cX11_code 19 = .ok (.bipush 7, 2) := by decide +kernel
theorem dX11_code_21 : decode cX11_code 21 = .ok (.laload, 1) := by decide +kernel
theorem dX11_code_22 : decode cX11_code 22 = .ok (.l2i, 1) := by decide +kernel
theorem dX11_code_23 : decode cX11_code 23 = .ok (.iadd, 1) := by decide +kernel
theorem dX11_code_24 : decode cX11_code 24 = .ok (.lload_n 1, 1) := by decide +kernel
theorem dX11_code_25 : decode cX11_code 25 = .ok (.lastore, 1) := by decide +kernel
theorem dX11_code_26 : decode cX11_code 26 = .ok (.aload_n 0, 1) := by decide +kernel
theorem dX11_code_27 : decode cX11_code 27 = .ok (.getfield 21, 3) := by decide +kernel
theorem dX11_code_30 : decode cX11_code 30 = .ok (.bipush 7, 2) := by decide +kernel
theorem dX11_code_32 : decode cX11_code 32 = .ok (.dup2, 1) := by decide +kernel
theorem dX11_code_33 : decode cX11_code 33 = .ok (.laload, 1) := by decide +kernel
theorem dX11_code_34 : decode cX11_code 34 = .ok (.lconst 1, 1) := by decide +kernel
theorem dX11_code_35 : decode cX11_code 35 = .ok (.ladd, 1) := by decide +kernel
theorem dX11_code_36 : decode cX11_code 36 = .ok (.lastore, 1) := by decide +kernel
theorem dX11_code_37 : decode cX11_code 37 = .ok (.return_, 1) := by decide +kernel
theorem dX11_partWord_0 : decode cX11_partWord 0 = .ok (.iload_n 0, 1) := by decide +kernel
theorem dX11_partWord_1 : decode cX11_partWord 1 = .ok (.tableswitch 57 0 5 #[39, 42, 45, 48, 51, 54], 39) := by decide +kernel
theorem dX11_partWord_40 : decode cX11_partWord 40 = .ok (.ldc 168, 2) := by decide +kernel
theorem dX11_partWord_42 : decode cX11_partWord 42 = .ok (.areturn, 1) := by decide +kernel
theorem dX11_partWord_43 : decode cX11_partWord 43 = .ok (.ldc 170, 2) := by decide +kernel
theorem dX11_partWord_45 : decode cX11_partWord 45 = .ok (.areturn, 1) := by decide +kernel
theorem dX11_partWord_46 : decode cX11_partWord 46 = .ok (.ldc 172, 2) := by decide +kernel
theorem dX11_partWord_48 : decode cX11_partWord 48 = .ok (.areturn, 1) := by decide +kernel
theorem dX11_partWord_49 : decode cX11_partWord 49 = .ok (.ldc 174, 2) := by decide +kernel
theorem dX11_partWord_51 : decode cX11_partWord 51 = .ok (.areturn, 1) := by decide +kernel
theorem dX11_partWord_52 : decode cX11_partWord 52 = .ok (.ldc 176, 2) := by decide +kernel
theorem dX11_partWord_54 : decode cX11_partWord 54 = .ok (.areturn, 1) := by decide +kernel
theorem dX11_partWord_55 : decode cX11_partWord 55 = .ok (.ldc 178, 2) := by decide +kernel
theorem dX11_partWord_57 : decode cX11_partWord 57 = .ok (.areturn, 1) := by decide +kernel
theorem dX11_partWord_58 : decode cX11_partWord 58 = .ok (.ldc 180, 2) := by decide +kernel
theorem dX11_partWord_60 : decode cX11_partWord 60 = .ok (.areturn, 1) := by decide +kernel
theorem dX11_expression_0 : decode cX11_expression 0 = .ok (.aload_n 0, 1) := by decide +kernel
theorem dX11_expression_1 : decode cX11_expression 1 = .ok (.invokevirtual 182, 3) := by decide +kernel
theorem dX11_expression_4 : decode cX11_expression 4 = .ok (.aload_n 0, 1) := by decide +kernel
theorem dX11_expression_5 : decode cX11_expression 5 = .ok (.getfield 106, 3) := by decide +kernel
theorem dX11_expression_8 : decode cX11_expression 8 = .ok (.ifCond .ne 64, 3) := by decide +kernel
theorem dX11_expression_11 : decode cX11_expression 11 = .ok (.aload_n 0, 1) := by decide +kernel
theorem dX11_expression_12 : decode cX11_expression 12 = .ok (.invokevirtual 118, 3) := by decide +kernel
theorem dX11_expression_15 : decode cX11_expression 15 = .ok (.bipush 43, 2) := by decide +kernel
theorem dX11_expression_17 : decode cX11_expression 17 = .ok (.if_icmp .eq 12, 3) := by decide +kernel
theorem dX11_expression_20 : decode cX11_expression 20 = .ok (.aload_n 0, 1) := by decide +kernel
theorem dX11_expression_21 : decode cX11_expression 21 = .ok (.invokevirtual 118, 3) := by decide +kernel
theorem dX11_expression_24 : decode cX11_expression 24 = .ok (.bipush 45, 2) := by decide +kernel
theorem dX11_expression_26 : decode cX11_expression 26 = .ok (.if_icmp .ne 46, 3) := by decide +kernel
theorem dX11_expression_29 : decode cX11_expression 29 = .ok (.aload_n 0, 1) := by decide +kernel
theorem dX11_expression_30 : decode cX11_expression 30 = .ok (.getfield 112, 3) := by decide +kernel
theorem dX11_expression_33 : decode cX11_expression 33 = .ok (.aload_n 0, 1) := by decide +kernel
theorem dX11_expression_34 : decode cX11_expression 34 = .ok (.getfield 115, 3) := by decide +kernel
theorem dX11_expression_37 : decode cX11_expression 37 = .ok (.if_icmp .ge 35, 3) := by decide +kernel
theorem dX11_expression_40 : decode cX11_expression 40 = .ok (.aload_n 0, 1) := by decide +kernel
theorem dX11_expression_41 : decode cX11_expression 41 = .ok (.invokevirtual 118, 3) := by decide +kernel
theorem dX11_expression_44 : decode cX11_expression 44 = .ok (.istore_n 1, 1) := by decide +kernel
theorem dX11_expression_45 : decode cX11_expression 45 = .ok (.aload_n 0, 1) := by decide +kernel
theorem dX11_expression_46 : decode cX11_expression 46 = .ok (.dup, 1) := by decide +kernel
theorem dX11_expression_47 : decode cX11_expression 47 = .ok (.getfield 112, 3) := by decide +kernel
theorem dX11_expression_50 : decode cX11_expression 50 = .ok (.iconst 1, 1) := by decide +kernel
theorem dX11_expression_51 : decode cX11_expression 51 = .ok (.iadd, 1) := by decide +kernel
theorem dX11_expression_52 : decode cX11_expression 52 = .ok (.putfield 112, 3) := by decide +kernel
theorem dX11_expression_55 : decode cX11_expression 55 = .ok (.aload_n 0, 1) := by decide +kernel
theorem dX11_expression_56 : decode cX11_expression 56 = .ok (.invokevirtual 182, 3) := by decide +kernel
theorem dX11_expression_59 : decode cX11_expression 59 = .ok (.aload_n 0, 1) := by decide +kernel
theorem dX11_expression_60 : decode cX11_expression 60 = .ok (.ldc2_w 185, 3) := by decide +kernel
theorem dX11_expression_63 : decode cX11_expression 63 = .ok (.iload_n 1, 1) := by decide +kernel
theorem dX11_expression_64 : decode cX11_expression 64 = .ok (.i2l, 1) := by decide +kernel
theorem dX11_expression_65 : decode cX11_expression 65 = .ok (.ladd, 1) := by decide +kernel
theorem dX11_expression_66 : decode cX11_expression 66 = .ok (.invokevirtual 187, 3) := by decide +kernel
theorem dX11_expression_69 : decode cX11_expression 69 = .ok (.goto (-65), 3) := by decide +kernel
theorem dX11_expression_72 : decode cX11_expression 72 = .ok (.return_, 1) := by decide +kernel
theorem dX11_term_0 : decode cX11_term 0 = .ok (.aload_n 0, 1) := by decide +kernel
theorem dX11_term_1 : decode cX11_term 1 = .ok (.invokevirtual 191, 3) := by decide +kernel
theorem dX11_term_4 : decode cX11_term 4 = .ok (.aload_n 0, 1) := by decide +kernel
theorem dX11_term_5 : decode cX11_term 5 = .ok (.bipush 42, 2) := by decide +kernel
theorem dX11_term_7 : decode cX11_term 7 = .ok (.invokevirtual 139, 3) := by decide +kernel
theorem dX11_term_10 : decode cX11_term 10 = .ok (.ifCond .eq 17, 3) := by decide +kernel
theorem dX11_term_13 : decode cX11_term 13 = .ok (.aload_n 0, 1) := by decide +kernel
theorem dX11_term_14 : decode cX11_term 14 = .ok (.invokevirtual 191, 3) := by decide +kernel
theorem dX11_term_17 : decode cX11_term 17 = .ok (.aload_n 0, 1) := by decide +kernel
theorem dX11_term_18 : decode cX11_term 18 = .ok (.ldc2_w 194, 3) := by decide +kernel
theorem dX11_term_21 : decode cX11_term 21 = .ok (.invokevirtual 187, 3) := by decide +kernel
theorem dX11_term_24 : decode cX11_term 24 = .ok (.goto (-20), 3) := by decide +kernel
theorem dX11_term_27 : decode cX11_term 27 = .ok (.return_, 1) := by decide +kernel
theorem dX11_opens_0 : decode cX11_opens 0 = .ok (.aload_n 0, 1) := by decide +kernel
theorem dX11_opens_1 : decode cX11_opens 1 = .ok (.getfield 196, 3) := by decide +kernel
theorem dX11_opens_4 : decode cX11_opens 4 = .ok (.iconst 5, 1) := by decide +kernel
theorem dX11_opens_5 : decode cX11_opens 5 = .ok (.if_icmp .ne 12, 3) := by decide +kernel
theorem dX11_opens_8 : decode cX11_opens 8 = .ok (.aload_n 0, 1) := by decide +kernel
theorem dX11_opens_9 : decode cX11_opens 9 = .ok (.iconst 4, 1) := by decide +kernel
theorem dX11_opens_10 : decode cX11_opens 10 = .ok (.aload_n 0, 1) := by decide +kernel
theorem dX11_opens_11 : decode cX11_opens 11 = .ok (.getfield 112, 3) := by decide +kernel
theorem dX11_opens_14 : decode cX11_opens 14 = .ok (.invokevirtual 142, 3) := by decide +kernel
theorem dX11_opens_17 : decode cX11_opens 17 = .ok (.aload_n 0, 1) := by decide +kernel
theorem dX11_opens_18 : decode cX11_opens 18 = .ok (.dup, 1) := by decide +kernel
theorem dX11_opens_19 : decode cX11_opens 19 = .ok (.getfield 196, 3) := by decide +kernel
theorem dX11_opens_22 : decode cX11_opens 22 = .ok (.iconst 1, 1) := by decide +kernel
theorem dX11_opens_23 : decode cX11_opens 23 = .ok (.iadd, 1) := by decide +kernel
theorem dX11_opens_24 : decode cX11_opens 24 = .ok (.putfield 196, 3) := by decide +kernel
theorem dX11_opens_27 : decode cX11_opens 27 = .ok (.aload_n 0, 1) := by decide +kernel
theorem dX11_opens_28 : decode cX11_opens 28 = .ok (.dup, 1) := by decide +kernel
theorem dX11_opens_29 : decode cX11_opens 29 = .ok (.getfield 112, 3) := by decide +kernel
theorem dX11_opens_32 : decode cX11_opens 32 = .ok (.iconst 1, 1) := by decide +kernel
theorem dX11_opens_33 : decode cX11_opens 33 = .ok (.iadd, 1) := by decide +kernel
theorem dX11_opens_34 : decode cX11_opens 34 = .ok (.putfield 112, 3) := by decide +kernel
theorem dX11_opens_37 : decode cX11_opens 37 = .ok (.aload_n 0, 1) := by decide +kernel
theorem dX11_opens_38 : decode cX11_opens 38 = .ok (.getfield 106, 3) := by decide +kernel
theorem dX11_opens_41 : decode cX11_opens 41 = .ok (.ifCond .ne 7, 3) := by decide +kernel
theorem dX11_opens_44 : decode cX11_opens 44 = .ok (.iconst 1, 1) := by decide +kernel
theorem dX11_opens_45 : decode cX11_opens 45 = .ok (.goto 4, 3) := by decide +kernel
theorem dX11_opens_48 : decode cX11_opens 48 = .ok (.iconst 0, 1) := by decide +kernel
theorem dX11_opens_49 : decode cX11_opens 49 = .ok (.ireturn, 1) := by decide +kernel
theorem dX11_factor_0 : decode cX11_factor 0 = .ok (.aload_n 0, 1) := by decide +kernel
theorem dX11_factor_1 : decode cX11_factor 1 = .ok (.getfield 106, 3) := by decide +kernel
theorem dX11_factor_4 : decode cX11_factor 4 = .ok (.ifCond .le 4, 3) := by decide +kernel
theorem dX11_factor_7 : decode cX11_factor 7 = .ok (.return_, 1) := by decide +kernel
theorem dX11_factor_8 : decode cX11_factor 8 = .ok (.aload_n 0, 1) := by decide +kernel
theorem dX11_factor_9 : decode cX11_factor 9 = .ok (.invokevirtual 118, 3) := by decide +kernel
theorem dX11_factor_12 : decode cX11_factor 12 = .ok (.istore_n 1, 1) := by decide +kernel
theorem dX11_factor_13 : decode cX11_factor 13 = .ok (.aload_n 0, 1) := by decide +kernel
theorem dX11_factor_14 : decode cX11_factor 14 = .ok (.aload_n 0, 1) := by decide +kernel
theorem dX11_factor_15 : decode cX11_factor 15 = .ok (.getfield 112, 3) := by decide +kernel
theorem dX11_factor_18 : decode cX11_factor 18 = .ok (.invokevirtual 146, 3) := by decide +kernel
theorem dX11_factor_21 : decode cX11_factor 21 = .ok (.ifCond .eq 16, 3) := by decide +kernel
theorem dX11_factor_24 : decode cX11_factor 24 = .ok (.aload_n 0, 1) := by decide +kernel
theorem dX11_factor_25 : decode cX11_factor 25 = .ok (.aload_n 0, 1) := by decide +kernel
theorem dX11_factor_26 : decode cX11_factor 26 = .ok (.lconst 0, 1) := by decide +kernel
theorem dX11_factor_27 : decode cX11_factor 27 = .ok (.ldc2_w 199, 3) := by decide +kernel
theorem dX11_factor_30 : decode cX11_factor 30 = .ok (.invokevirtual 201, 3) := by decide +kernel
theorem dX11_factor_33 : decode cX11_factor 33 = .ok (.invokevirtual 187, 3) := by decide +kernel
theorem dX11_factor_36 : decode cX11_factor 36 = .ok (.return_, 1) := by decide +kernel
theorem dX11_factor_37 : decode cX11_factor 37 = .ok (.iload_n 1, 1) := by decide +kernel
theorem dX11_factor_38 : decode cX11_factor 38 = .ok (.bipush 40, 2) := by decide +kernel
theorem dX11_factor_40 : decode cX11_factor 40 = .ok (.if_icmp .ne 43, 3) := by decide +kernel
theorem dX11_factor_43 : decode cX11_factor 43 = .ok (.aload_n 0, 1) := by decide +kernel
theorem dX11_factor_44 : decode cX11_factor 44 = .ok (.getfield 112, 3) := by decide +kernel
theorem dX11_factor_47 : decode cX11_factor 47 = .ok (.aload_n 0, 1) := by decide +kernel
theorem dX11_factor_48 : decode cX11_factor 48 = .ok (.getfield 115, 3) := by decide +kernel
theorem dX11_factor_51 : decode cX11_factor 51 = .ok (.if_icmp .ge 32, 3) := by decide +kernel
theorem dX11_factor_54 : decode cX11_factor 54 = .ok (.aload_n 0, 1) := by decide +kernel
theorem dX11_factor_55 : decode cX11_factor 55 = .ok (.invokevirtual 204, 3) := by decide +kernel
theorem dX11_factor_58 : decode cX11_factor 58 = .ok (.ifCond .ne 4, 3) := by decide +kernel
theorem dX11_factor_61 : decode cX11_factor 61 = .ok (.return_, 1) := by decide +kernel
theorem dX11_factor_62 : decode cX11_factor 62 = .ok (.aload_n 0, 1) := by decide +kernel
theorem dX11_factor_63 : decode cX11_factor 63 = .ok (.invokevirtual 208, 3) := by decide +kernel
theorem dX11_factor_66 : decode cX11_factor 66 = .ok (.aload_n 0, 1) := by decide +kernel
theorem dX11_factor_67 : decode cX11_factor 67 = .ok (.bipush 41, 2) := by decide +kernel
theorem dX11_factor_69 : decode cX11_factor 69 = .ok (.invokevirtual 211, 3) := by decide +kernel
theorem dX11_factor_72 : decode cX11_factor 72 = .ok (.aload_n 0, 1) := by decide +kernel
theorem dX11_factor_73 : decode cX11_factor 73 = .ok (.dup, 1) := by decide +kernel
theorem dX11_factor_74 : decode cX11_factor 74 = .ok (.getfield 196, 3) := by decide +kernel
theorem dX11_factor_77 : decode cX11_factor 77 = .ok (.iconst 1, 1) := by decide +kernel
theorem dX11_factor_78 : decode cX11_factor 78 = .ok (.isub, 1) := by decide +kernel
theorem dX11_factor_79 : decode cX11_factor 79 = .ok (.putfield 196, 3) := by decide +kernel
theorem dX11_factor_82 : decode cX11_factor 82 = .ok (.return_, 1) := by decide +kernel
theorem dX11_factor_83 : decode cX11_factor 83 = .ok (.iload_n 1, 1) := by decide +kernel
theorem dX11_factor_84 : decode cX11_factor 84 = .ok (.bipush 45, 2) := by decide +kernel
theorem dX11_factor_86 : decode cX11_factor 86 = .ok (.if_icmp .ne 44, 3) := by decide +kernel
theorem dX11_factor_89 : decode cX11_factor 89 = .ok (.aload_n 0, 1) := by decide +kernel
theorem dX11_factor_90 : decode cX11_factor 90 = .ok (.getfield 112, 3) := by decide +kernel
theorem dX11_factor_93 : decode cX11_factor 93 = .ok (.aload_n 0, 1) := by decide +kernel
theorem dX11_factor_94 : decode cX11_factor 94 = .ok (.getfield 115, 3) := by decide +kernel
theorem dX11_factor_97 : decode cX11_factor 97 = .ok (.if_icmp .ge 33, 3) := by decide +kernel
theorem dX11_factor_100 : decode cX11_factor 100 = .ok (.aload_n 0, 1) := by decide +kernel
theorem dX11_factor_101 : decode cX11_factor 101 = .ok (.invokevirtual 204, 3) := by decide +kernel
theorem dX11_factor_104 : decode cX11_factor 104 = .ok (.ifCond .ne 4, 3) := by decide +kernel
theorem dX11_factor_107 : decode cX11_factor 107 = .ok (.return_, 1) := by decide +kernel
theorem dX11_factor_108 : decode cX11_factor 108 = .ok (.aload_n 0, 1) := by decide +kernel
theorem dX11_factor_109 : decode cX11_factor 109 = .ok (.invokevirtual 191, 3) := by decide +kernel
theorem dX11_factor_112 : decode cX11_factor 112 = .ok (.aload_n 0, 1) := by decide +kernel
theorem dX11_factor_113 : decode cX11_factor 113 = .ok (.dup, 1) := by decide +kernel
theorem dX11_factor_114 : decode cX11_factor 114 = .ok (.getfield 196, 3) := by decide +kernel
theorem dX11_factor_117 : decode cX11_factor 117 = .ok (.iconst 1, 1) := by decide +kernel
theorem dX11_factor_118 : decode cX11_factor 118 = .ok (.isub, 1) := by decide +kernel
theorem dX11_factor_119 : decode cX11_factor 119 = .ok (.putfield 196, 3) := by decide +kernel
theorem dX11_factor_122 : decode cX11_factor 122 = .ok (.aload_n 0, 1) := by decide +kernel
theorem dX11_factor_123 : decode cX11_factor 123 = .ok (.ldc2_w 214, 3) := by decide +kernel
theorem dX11_factor_126 : decode cX11_factor 126 = .ok (.invokevirtual 187, 3) := by decide +kernel
theorem dX11_factor_129 : decode cX11_factor 129 = .ok (.return_, 1) := by decide +kernel
theorem dX11_factor_130 : decode cX11_factor 130 = .ok (.iconst 0, 1) := by decide +kernel
theorem dX11_factor_131 : decode cX11_factor 131 = .ok (.istore_n 2, 1) := by decide +kernel
theorem dX11_factor_132 : decode cX11_factor 132 = .ok (.iload_n 2, 1) := by decide +kernel
theorem dX11_factor_133 : decode cX11_factor 133 = .ok (.bipush 7, 2) := by decide +kernel
theorem dX11_factor_135 : decode cX11_factor 135 = .ok (.if_icmp .ge 34, 3) := by decide +kernel
theorem dX11_factor_138 : decode cX11_factor 138 = .ok (.aload_n 0, 1) := by decide +kernel
theorem dX11_factor_139 : decode cX11_factor 139 = .ok (.iload_n 2, 1) := by decide +kernel
theorem dX11_factor_140 : decode cX11_factor 140 = .ok (.invokestatic 216, 3) := by decide +kernel
theorem dX11_factor_143 : decode cX11_factor 143 = .ok (.invokevirtual 220, 3) := by decide +kernel
theorem dX11_factor_146 : decode cX11_factor 146 = .ok (.ifCond .ne 6, 3) := by decide +kernel
theorem dX11_factor_149 : decode cX11_factor 149 = .ok (.goto 14, 3) := by decide +kernel
theorem dX11_factor_152 : decode cX11_factor 152 = .ok (.aload_n 0, 1) := by decide +kernel
theorem dX11_factor_153 : decode cX11_factor 153 = .ok (.ldc2_w 223, 3) := by decide +kernel
theorem dX11_factor_156 : decode cX11_factor 156 = .ok (.iload_n 2, 1) := by decide +kernel
theorem dX11_factor_157 : decode cX11_factor 157 = .ok (.i2l, 1) := by decide +kernel
theorem dX11_factor_158 : decode cX11_factor 158 = .ok (.ladd, 1) := by decide +kernel
theorem dX11_factor_159 : decode cX11_factor 159 = .ok (.invokevirtual 187, 3) := by decide +kernel
theorem dX11_factor_162 : decode cX11_factor 162 = .ok (.return_, 1) := by decide +kernel
theorem dX11_factor_163 : decode cX11_factor 163 = .ok (.iinc 2 1, 3) := by decide +kernel
theorem dX11_factor_166 : decode cX11_factor 166 = .ok (.goto (-34), 3) := by decide +kernel
theorem dX11_factor_169 : decode cX11_factor 169 = .ok (.aload_n 0, 1) := by decide +kernel
theorem dX11_factor_170 : decode cX11_factor 170 = .ok (.iconst 1, 1) := by decide +kernel
theorem dX11_factor_171 : decode cX11_factor 171 = .ok (.aload_n 0, 1) := by decide +kernel
theorem dX11_factor_172 : decode cX11_factor 172 = .ok (.getfield 112, 3) := by decide +kernel
theorem dX11_factor_175 : decode cX11_factor 175 = .ok (.invokevirtual 142, 3) := by decide +kernel
theorem dX11_factor_178 : decode cX11_factor 178 = .ok (.return_, 1) := by decide +kernel
theorem dX11_isOnce_0 : decode cX11_isOnce 0 = .ok (.aload_n 0, 1) := by decide +kernel
theorem dX11_isOnce_1 : decode cX11_isOnce 1 = .ok (.getfield 106, 3) := by decide +kernel
theorem dX11_isOnce_4 : decode cX11_isOnce 4 = .ok (.ifCond .gt 11, 3) := by decide +kernel
theorem dX11_isOnce_7 : decode cX11_isOnce 7 = .ok (.aload_n 0, 1) := by decide +kernel
theorem dX11_isOnce_8 : decode cX11_isOnce 8 = .ok (.aload_n 1, 1) := by decide +kernel
theorem dX11_isOnce_9 : decode cX11_isOnce 9 = .ok (.invokevirtual 135, 3) := by decide +kernel
theorem dX11_isOnce_12 : decode cX11_isOnce 12 = .ok (.ifCond .ne 5, 3) := by decide +kernel
theorem dX11_isOnce_15 : decode cX11_isOnce 15 = .ok (.iconst 0, 1) := by decide +kernel
theorem dX11_isOnce_16 : decode cX11_isOnce 16 = .ok (.ireturn, 1) := by decide +kernel
theorem dX11_isOnce_17 : decode cX11_isOnce 17 = .ok (.aload_n 0, 1) := by decide +kernel
theorem dX11_isOnce_18 : decode cX11_isOnce 18 = .ok (.getfield 21, 3) := by decide +kernel
theorem dX11_isOnce_21 : decode cX11_isOnce 21 = .ok (.iload_n 2, 1) := by decide +kernel
theorem dX11_isOnce_22 : decode cX11_isOnce 22 = .ok (.laload, 1) := by decide +kernel
theorem dX11_isOnce_23 : decode cX11_isOnce 23 = .ok (.ldc2_w 225, 3) := by decide +kernel
theorem dX11_isOnce_26 : decode cX11_isOnce 26 = .ok (.lcmp, 1) := by decide +kernel
theorem dX11_isOnce_27 : decode cX11_isOnce 27 = .ok (.ifCond .eq 12, 3) := by decide +kernel
theorem dX11_isOnce_30 : decode cX11_isOnce 30 = .ok (.aload_n 0, 1) := by decide +kernel
theorem dX11_isOnce_31 : decode cX11_isOnce 31 = .ok (.iconst 1, 1) := by decide +kernel
theorem dX11_isOnce_32 : decode cX11_isOnce 32 = .ok (.aload_n 0, 1) := by decide +kernel
theorem dX11_isOnce_33 : decode cX11_isOnce 33 = .ok (.getfield 112, 3) := by decide +kernel
theorem dX11_isOnce_36 : decode cX11_isOnce 36 = .ok (.invokevirtual 142, 3) := by decide +kernel
theorem dX11_isOnce_39 : decode cX11_isOnce 39 = .ok (.aload_n 0, 1) := by decide +kernel
theorem dX11_isOnce_40 : decode cX11_isOnce 40 = .ok (.dup, 1) := by decide +kernel
theorem dX11_isOnce_41 : decode cX11_isOnce 41 = .ok (.getfield 112, 3) := by decide +kernel
theorem dX11_isOnce_44 : decode cX11_isOnce 44 = .ok (.aload_n 1, 1) := by decide +kernel
theorem dX11_isOnce_45 : decode cX11_isOnce 45 = .ok (.invokevirtual 122, 3) := by decide +kernel
