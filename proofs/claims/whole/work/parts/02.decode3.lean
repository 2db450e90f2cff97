theorem dX10_isBetter_8 : decode cX10_isBetter 8 = .ok (.iload_n 2, 1) := by decide +kernel
theorem dX10_isBetter_9 : decode cX10_isBetter 9 = .ok (.invokevirtual 204, 3) := by decide +kernel
theorem dX10_isBetter_12 : decode cX10_isBetter 12 = .ok (.istore 5, 2) := by decide +kernel
theorem dX10_isBetter_14 : decode cX10_isBetter 14 = .ok (.iload 4, 2) := by decide +kernel
theorem dX10_isBetter_16 : decode cX10_isBetter 16 = .ok (.iload 5, 2) := by decide +kernel
theorem dX10_isBetter_18 : decode cX10_isBetter 18 = .ok (.if_icmp .eq 35, 3) := by decide +kernel
theorem dX10_isBetter_21 : decode cX10_isBetter 21 = .ok (.iload_n 3, 1) := by decide +kernel
theorem dX10_isBetter_22 : decode cX10_isBetter 22 = .ok (.ifCond .eq 18, 3) := by decide +kernel
theorem dX10_isBetter_25 : decode cX10_isBetter 25 = .ok (.iload 4, 2) := by decide +kernel
theorem dX10_isBetter_27 : decode cX10_isBetter 27 = .ok (.iload 5, 2) := by decide +kernel
theorem dX10_isBetter_29 : decode cX10_isBetter 29 = .ok (.if_icmp .ge 7, 3) := by decide +kernel
theorem dX10_isBetter_32 : decode cX10_isBetter 32 = .ok (.iconst 1, 1) := by decide +kernel
theorem dX10_isBetter_33 : decode cX10_isBetter 33 = .ok (.goto 19, 3) := by decide +kernel
theorem dX10_isBetter_36 : decode cX10_isBetter 36 = .ok (.iconst 0, 1) := by decide +kernel
theorem dX10_isBetter_37 : decode cX10_isBetter 37 = .ok (.goto 15, 3) := by decide +kernel
theorem dX10_isBetter_40 : decode cX10_isBetter 40 = .ok (.iload 4, 2) := by decide +kernel
theorem dX10_isBetter_42 : decode cX10_isBetter 42 = .ok (.iload 5, 2) := by decide +kernel
theorem dX10_isBetter_44 : decode cX10_isBetter 44 = .ok (.if_icmp .le 7, 3) := by decide +kernel
theorem dX10_isBetter_47 : decode cX10_isBetter 47 = .ok (.iconst 1, 1) := by decide +kernel
theorem dX10_isBetter_48 : decode cX10_isBetter 48 = .ok (.goto 4, 3) := by decide +kernel
theorem dX10_isBetter_51 : decode cX10_isBetter 51 = .ok (.iconst 0, 1) := by decide +kernel
theorem dX10_isBetter_52 : decode cX10_isBetter 52 = .ok (.ireturn, 1) := by decide +kernel
theorem dX10_isBetter_53 : decode cX10_isBetter 53 = .ok (.iconst (-1), 1) := by decide +kernel
theorem dX10_isBetter_54 : decode cX10_isBetter 54 = .ok (.istore 6, 2) := by decide +kernel
theorem dX10_isBetter_56 : decode cX10_isBetter 56 = .ok (.iconst 0, 1) := by decide +kernel
theorem dX10_isBetter_57 : decode cX10_isBetter 57 = .ok (.istore 7, 2) := by decide +kernel
theorem dX10_isBetter_59 : decode cX10_isBetter 59 = .ok (.iload 7, 2) := by decide +kernel
theorem dX10_isBetter_61 : decode cX10_isBetter 61 = .ok (.aload_n 0, 1) := by decide +kernel
theorem dX10_isBetter_62 : decode cX10_isBetter 62 = .ok (.getfield 7, 3) := by decide +kernel
theorem dX10_isBetter_65 : decode cX10_isBetter 65 = .ok (.if_icmp .ge 84, 3) := by decide +kernel
theorem dX10_isBetter_68 : decode cX10_isBetter 68 = .ok (.iload_n 1, 1) := by decide +kernel
theorem dX10_isBetter_69 : decode cX10_isBetter 69 = .ok (.iload_n 2, 1) := by decide +kernel
theorem dX10_isBetter_70 : decode cX10_isBetter 70 = .ok (.ixor, 1) := by decide +kernel
theorem dX10_isBetter_71 : decode cX10_isBetter 71 = .ok (.iload 7, 2) := by decide +kernel
theorem dX10_isBetter_73 : decode cX10_isBetter 73 = .ok (.ishr, 1) := by decide +kernel
theorem dX10_isBetter_74 : decode cX10_isBetter 74 = .ok (.iconst 1, 1) := by decide +kernel
theorem dX10_isBetter_75 : decode cX10_isBetter 75 = .ok (.iand, 1) := by decide +kernel
theorem dX10_isBetter_76 : decode cX10_isBetter 76 = .ok (.iconst 1, 1) := by decide +kernel
theorem dX10_isBetter_77 : decode cX10_isBetter 77 = .ok (.if_icmp .ne 7, 3) := by decide +kernel
theorem dX10_isBetter_80 : decode cX10_isBetter 80 = .ok (.iconst 1, 1) := by decide +kernel
theorem dX10_isBetter_81 : decode cX10_isBetter 81 = .ok (.goto 4, 3) := by decide +kernel
theorem dX10_isBetter_84 : decode cX10_isBetter 84 = .ok (.iconst 0, 1) := by decide +kernel
theorem dX10_isBetter_85 : decode cX10_isBetter 85 = .ok (.istore 8, 2) := by decide +kernel
theorem dX10_isBetter_87 : decode cX10_isBetter 87 = .ok (.iload 8, 2) := by decide +kernel
theorem dX10_isBetter_89 : decode cX10_isBetter 89 = .ok (.ifCond .eq 54, 3) := by decide +kernel
theorem dX10_isBetter_92 : decode cX10_isBetter 92 = .ok (.iload 6, 2) := by decide +kernel
theorem dX10_isBetter_94 : decode cX10_isBetter 94 = .ok (.iconst (-1), 1) := by decide +kernel
theorem dX10_isBetter_95 : decode cX10_isBetter 95 = .ok (.if_icmp .eq 44, 3) := by decide +kernel
theorem dX10_isBetter_98 : decode cX10_isBetter 98 = .ok (.iload_n 3, 1) := by decide +kernel
theorem dX10_isBetter_99 : decode cX10_isBetter 99 = .ok (.ifCond .eq 23, 3) := by decide +kernel
theorem dX10_isBetter_102 : decode cX10_isBetter 102 = .ok (.aload_n 0, 1) := by decide +kernel
theorem dX10_isBetter_103 : decode cX10_isBetter 103 = .ok (.getfield 16, 3) := by decide +kernel
theorem dX10_isBetter_106 : decode cX10_isBetter 106 = .ok (.iload 7, 2) := by decide +kernel
theorem dX10_isBetter_108 : decode cX10_isBetter 108 = .ok (.iaload, 1) := by decide +kernel
theorem dX10_isBetter_109 : decode cX10_isBetter 109 = .ok (.aload_n 0, 1) := by decide +kernel
theorem dX10_isBetter_110 : decode cX10_isBetter 110 = .ok (.getfield 16, 3) := by decide +kernel
theorem dX10_isBetter_113 : decode cX10_isBetter 113 = .ok (.iload 6, 2) := by decide +kernel
theorem dX10_isBetter_115 : decode cX10_isBetter 115 = .ok (.iaload, 1) := by decide +kernel
theorem dX10_isBetter_116 : decode cX10_isBetter 116 = .ok (.if_icmp .ge 27, 3) := by decide +kernel
theorem dX10_isBetter_119 : decode cX10_isBetter 119 = .ok (.goto 20, 3) := by decide +kernel
theorem dX10_isBetter_122 : decode cX10_isBetter 122 = .ok (.aload_n 0, 1) := by decide +kernel
theorem dX10_isBetter_123 : decode cX10_isBetter 123 = .ok (.getfield 16, 3) := by decide +kernel
theorem dX10_isBetter_126 : decode cX10_isBetter 126 = .ok (.iload 7, 2) := by decide +kernel
theorem dX10_isBetter_128 : decode cX10_isBetter 128 = .ok (.iaload, 1) := by decide +kernel
theorem dX10_isBetter_129 : decode cX10_isBetter 129 = .ok (.aload_n 0, 1) := by decide +kernel
theorem dX10_isBetter_130 : decode cX10_isBetter 130 = .ok (.getfield 16, 3) := by decide +kernel
theorem dX10_isBetter_133 : decode cX10_isBetter 133 = .ok (.iload 6, 2) := by decide +kernel
theorem dX10_isBetter_135 : decode cX10_isBetter 135 = .ok (.iaload, 1) := by decide +kernel
theorem dX10_isBetter_136 : decode cX10_isBetter 136 = .ok (.if_icmp .le 7, 3) := by decide +kernel
theorem dX10_isBetter_139 : decode cX10_isBetter 139 = .ok (.iload 7, 2) := by decide +kernel
theorem dX10_isBetter_141 : decode cX10_isBetter 141 = .ok (.istore 6, 2) := by decide +kernel
theorem dX10_isBetter_143 : decode cX10_isBetter 143 = .ok (.iinc 7 1, 3) := by decide +kernel
theorem dX10_isBetter_146 : decode cX10_isBetter 146 = .ok (.goto (-87), 3) := by decide +kernel
theorem dX10_isBetter_149 : decode cX10_isBetter 149 = .ok (.iload 6, 2) := by decide +kernel
theorem dX10_isBetter_151 : decode cX10_isBetter 151 = .ok (.iconst (-1), 1) := by decide +kernel
theorem dX10_isBetter_152 : decode cX10_isBetter 152 = .ok (.if_icmp .eq 17, 3) := by decide +kernel
theorem dX10_isBetter_155 : decode cX10_isBetter 155 = .ok (.iload_n 1, 1) := by decide +kernel
theorem dX10_isBetter_156 : decode cX10_isBetter 156 = .ok (.iload 6, 2) := by decide +kernel
theorem dX10_isBetter_158 : decode cX10_isBetter 158 = .ok (.ishr, 1) := by decide +kernel
theorem dX10_isBetter_159 : decode cX10_isBetter 159 = .ok (.iconst 1, 1) := by decide +kernel
theorem dX10_isBetter_160 : decode cX10_isBetter 160 = .ok (.iand, 1) := by decide +kernel
theorem dX10_isBetter_161 : decode cX10_isBetter 161 = .ok (.iconst 1, 1) := by decide +kernel
theorem dX10_isBetter_162 : decode cX10_isBetter 162 = .ok (.if_icmp .ne 7, 3) := by decide +kernel
theorem dX10_isBetter_165 : decode cX10_isBetter 165 = .ok (.iconst 1, 1) := by decide +kernel
theorem dX10_isBetter_166 : decode cX10_isBetter 166 = .ok (.goto 4, 3) := by decide +kernel
theorem dX10_isBetter_169 : decode cX10_isBetter 169 = .ok (.iconst 0, 1) := by decide +kernel
theorem dX10_isBetter_170 : decode cX10_isBetter 170 = .ok (.ireturn, 1) := by decide +kernel
theorem dX10_isFull_0 : decode cX10_isFull 0 = .ok (.aload_n 0, 1) := by decide +kernel
theorem dX10_isFull_1 : decode cX10_isFull 1 = .ok (.iload_n 1, 1) := by decide +kernel
theorem dX10_isFull_2 : decode cX10_isFull 2 = .ok (.iload_n 2, 1) := by decide +kernel
theorem dX10_isFull_3 : decode cX10_isFull 3 = .ok (.invokevirtual 100, 3) := by decide +kernel
theorem dX10_isFull_6 : decode cX10_isFull 6 = .ok (.ifCond .eq 23, 3) := by decide +kernel
theorem dX10_isFull_9 : decode cX10_isFull 9 = .ok (.iload_n 2, 1) := by decide +kernel
theorem dX10_isFull_10 : decode cX10_isFull 10 = .ok (.invokestatic 104, 3) := by decide +kernel
theorem dX10_isFull_13 : decode cX10_isFull 13 = .ok (.aload_n 0, 1) := by decide +kernel
theorem dX10_isFull_14 : decode cX10_isFull 14 = .ok (.iload_n 1, 1) := by decide +kernel
theorem dX10_isFull_15 : decode cX10_isFull 15 = .ok (.aload_n 0, 1) := by decide +kernel
theorem dX10_isFull_16 : decode cX10_isFull 16 = .ok (.getfield 13, 3) := by decide +kernel
theorem dX10_isFull_19 : decode cX10_isFull 19 = .ok (.invokevirtual 108, 3) := by decide +kernel
theorem dX10_isFull_22 : decode cX10_isFull 22 = .ok (.if_icmp .ne 7, 3) := by decide +kernel
theorem dX10_isFull_25 : decode cX10_isFull 25 = .ok (.iconst 1, 1) := by decide +kernel
theorem dX10_isFull_26 : decode cX10_isFull 26 = .ok (.goto 4, 3) := by decide +kernel
theorem dX10_isFull_29 : decode cX10_isFull 29 = .ok (.iconst 0, 1) := by decide +kernel
theorem dX10_isFull_30 : decode cX10_isFull 30 = .ok (.ireturn, 1) := by decide +kernel
theorem dX10_full_0 : decode cX10_full 0 = .ok (.aload_n 0, 1) := by decide +kernel
theorem dX10_full_1 : decode cX10_full 1 = .ok (.iload_n 1, 1) := by decide +kernel
theorem dX10_full_2 : decode cX10_full 2 = .ok (.invokevirtual 191, 3) := by decide +kernel
theorem dX10_full_5 : decode cX10_full 5 = .ok (.ifCond .ne 5, 3) := by decide +kernel
theorem dX10_full_8 : decode cX10_full 8 = .ok (.iconst (-1), 1) := by decide +kernel
theorem dX10_full_9 : decode cX10_full 9 = .ok (.ireturn, 1) := by decide +kernel
theorem dX10_full_10 : decode cX10_full 10 = .ok (.iconst (-1), 1) := by decide +kernel
theorem dX10_full_11 : decode cX10_full 11 = .ok (.istore_n 3, 1) := by decide +kernel
theorem dX10_full_12 : decode cX10_full 12 = .ok (.iconst 0, 1) := by decide +kernel
theorem dX10_full_13 : decode cX10_full 13 = .ok (.istore 4, 2) := by decide +kernel
theorem dX10_full_15 : decode cX10_full 15 = .ok (.iload 4, 2) := by decide +kernel
theorem dX10_full_17 : decode cX10_full 17 = .ok (.aload_n 0, 1) := by decide +kernel
theorem dX10_full_18 : decode cX10_full 18 = .ok (.getfield 13, 3) := by decide +kernel
theorem dX10_full_21 : decode cX10_full 21 = .ok (.if_icmp .gt 38, 3) := by decide +kernel
theorem dX10_full_24 : decode cX10_full 24 = .ok (.aload_n 0, 1) := by decide +kernel
theorem dX10_full_25 : decode cX10_full 25 = .ok (.iload_n 1, 1) := by decide +kernel
theorem dX10_full_26 : decode cX10_full 26 = .ok (.iload 4, 2) := by decide +kernel
theorem dX10_full_28 : decode cX10_full 28 = .ok (.invokevirtual 207, 3) := by decide +kernel
theorem dX10_full_31 : decode cX10_full 31 = .ok (.ifCond .eq 22, 3) := by decide +kernel
theorem dX10_full_34 : decode cX10_full 34 = .ok (.iload_n 3, 1) := by decide +kernel
theorem dX10_full_35 : decode cX10_full 35 = .ok (.iconst (-1), 1) := by decide +kernel
theorem dX10_full_36 : decode cX10_full 36 = .ok (.if_icmp .eq 14, 3) := by decide +kernel
theorem dX10_full_39 : decode cX10_full 39 = .ok (.aload_n 0, 1) := by decide +kernel
theorem dX10_full_40 : decode cX10_full 40 = .ok (.iload 4, 2) := by decide +kernel
theorem dX10_full_42 : decode cX10_full 42 = .ok (.iload_n 3, 1) := by decide +kernel
theorem dX10_full_43 : decode cX10_full 43 = .ok (.iload_n 2, 1) := by decide +kernel
theorem dX10_full_44 : decode cX10_full 44 = .ok (.invokevirtual 210, 3) := by decide +kernel
theorem dX10_full_47 : decode cX10_full 47 = .ok (.ifCond .eq 6, 3) := by decide +kernel
theorem dX10_full_50 : decode cX10_full 50 = .ok (.iload 4, 2) := by decide +kernel
theorem dX10_full_52 : decode cX10_full 52 = .ok (.istore_n 3, 1) := by decide +kernel
theorem dX10_full_53 : decode cX10_full 53 = .ok (.iinc 4 1, 3) := by decide +kernel
theorem dX10_full_56 : decode cX10_full 56 = .ok (.goto (-41), 3) := by decide +kernel
theorem dX10_full_59 : decode cX10_full 59 = .ok (.iload_n 3, 1) := by decide +kernel
theorem dX10_full_60 : decode cX10_full 60 = .ok (.ireturn, 1) := by decide +kernel
theorem dX10_both_0 : decode cX10_both 0 = .ok (.aload_n 0, 1) := by decide +kernel
theorem dX10_both_1 : decode cX10_both 1 = .ok (.iload_n 1, 1) := by decide +kernel
theorem dX10_both_2 : decode cX10_both 2 = .ok (.invokevirtual 191, 3) := by decide +kernel
theorem dX10_both_5 : decode cX10_both 5 = .ok (.ifCond .eq 11, 3) := by decide +kernel
theorem dX10_both_8 : decode cX10_both 8 = .ok (.aload_n 0, 1) := by decide +kernel
theorem dX10_both_9 : decode cX10_both 9 = .ok (.iload_n 2, 1) := by decide +kernel
theorem dX10_both_10 : decode cX10_both 10 = .ok (.invokevirtual 191, 3) := by decide +kernel
theorem dX10_both_13 : decode cX10_both 13 = .ok (.ifCond .ne 5, 3) := by decide +kernel
theorem dX10_both_16 : decode cX10_both 16 = .ok (.iconst (-1), 1) := by decide +kernel
theorem dX10_both_17 : decode cX10_both 17 = .ok (.ireturn, 1) := by decide +kernel
theorem dX10_both_18 : decode cX10_both 18 = .ok (.iconst 0, 1) := by decide +kernel
theorem dX10_both_19 : decode cX10_both 19 = .ok (.istore_n 3, 1) := by decide +kernel
theorem dX10_both_20 : decode cX10_both 20 = .ok (.iconst 0, 1) := by decide +kernel
theorem dX10_both_21 : decode cX10_both 21 = .ok (.istore 4, 2) := by decide +kernel
theorem dX10_both_23 : decode cX10_both 23 = .ok (.iload 4, 2) := by decide +kernel
theorem dX10_both_25 : decode cX10_both 25 = .ok (.aload_n 0, 1) := by decide +kernel
theorem dX10_both_26 : decode cX10_both 26 = .ok (.getfield 13, 3) := by decide +kernel
theorem dX10_both_29 : decode cX10_both 29 = .ok (.if_icmp .gt 44, 3) := by decide +kernel
theorem dX10_both_32 : decode cX10_both 32 = .ok (.aload_n 0, 1) := by decide +kernel
theorem dX10_both_33 : decode cX10_both 33 = .ok (.iload_n 1, 1) := by decide +kernel
theorem dX10_both_34 : decode cX10_both 34 = .ok (.iload 4, 2) := by decide +kernel
theorem dX10_both_36 : decode cX10_both 36 = .ok (.invokevirtual 100, 3) := by decide +kernel
theorem dX10_both_39 : decode cX10_both 39 = .ok (.ifCond .eq 28, 3) := by decide +kernel
theorem dX10_both_42 : decode cX10_both 42 = .ok (.aload_n 0, 1) := by decide +kernel
theorem dX10_both_43 : decode cX10_both 43 = .ok (.iload_n 2, 1) := by decide +kernel
theorem dX10_both_44 : decode cX10_both 44 = .ok (.iload 4, 2) := by decide +kernel
theorem dX10_both_46 : decode cX10_both 46 = .ok (.invokevirtual 100, 3) := by decide +kernel
theorem dX10_both_49 : decode cX10_both 49 = .ok (.ifCond .eq 18, 3) := by decide +kernel
theorem dX10_both_52 : decode cX10_both 52 = .ok (.iload 4, 2) := by decide +kernel
theorem dX10_both_54 : decode cX10_both 54 = .ok (.invokestatic 104, 3) := by decide +kernel
theorem dX10_both_57 : decode cX10_both 57 = .ok (.iload_n 3, 1) := by decide +kernel
theorem dX10_both_58 : decode cX10_both 58 = .ok (.invokestatic 104, 3) := by decide +kernel
theorem dX10_both_61 : decode cX10_both 61 = .ok (.if_icmp .le 6, 3) := by decide +kernel
theorem dX10_both_64 : decode cX10_both 64 = .ok (.iload 4, 2) := by decide +kernel
theorem dX10_both_66 : decode cX10_both 66 = .ok (.istore_n 3, 1) := by decide +kernel
theorem dX10_both_67 : decode cX10_both 67 = .ok (.iinc 4 1, 3) := by decide +kernel
theorem dX10_both_70 : decode cX10_both 70 = .ok (.goto (-47), 3) := by decide +kernel
theorem dX10_both_73 : decode cX10_both 73 = .ok (.iload_n 3, 1) := by decide +kernel
theorem dX10_both_74 : decode cX10_both 74 = .ok (.ireturn, 1) := by decide +kernel
theorem dX10_split_0 : decode cX10_split 0 = .ok (.aload_n 0, 1) := by decide +kernel
theorem dX10_split_1 : decode cX10_split 1 = .ok (.iload_n 1, 1) := by decide +kernel
theorem dX10_split_2 : decode cX10_split 2 = .ok (.iload_n 2, 1) := by decide +kernel
theorem dX10_split_3 : decode cX10_split 3 = .ok (.invokevirtual 214, 3) := by decide +kernel
theorem dX10_split_6 : decode cX10_split 6 = .ok (.istore_n 3, 1) := by decide +kernel
theorem dX10_split_7 : decode cX10_split 7 = .ok (.iload_n 3, 1) := by decide +kernel
theorem dX10_split_8 : decode cX10_split 8 = .ok (.iconst (-1), 1) := by decide +kernel
theorem dX10_split_9 : decode cX10_split 9 = .ok (.if_icmp .ne 5, 3) := by decide +kernel
theorem dX10_split_12 : decode cX10_split 12 = .ok (.iconst (-1), 1) := by decide +kernel
theorem dX10_split_13 : decode cX10_split 13 = .ok (.ireturn, 1) := by decide +kernel
theorem dX10_split_14 : decode cX10_split 14 = .ok (.iconst 0, 1) := by decide +kernel
theorem dX10_split_15 : decode cX10_split 15 = .ok (.istore 4, 2) := by decide +kernel
theorem dX10_split_17 : decode cX10_split 17 = .ok (.iload 4, 2) := by decide +kernel
theorem dX10_split_19 : decode cX10_split 19 = .ok (.aload_n 0, 1) := by decide +kernel
theorem dX10_split_20 : decode cX10_split 20 = .ok (.getfield 13, 3) := by decide +kernel
theorem dX10_split_23 : decode cX10_split 23 = .ok (.if_icmp .gt 41, 3) := by decide +kernel
theorem dX10_split_26 : decode cX10_split 26 = .ok (.aload_n 0, 1) := by decide +kernel
theorem dX10_split_27 : decode cX10_split 27 = .ok (.iload_n 1, 1) := by decide +kernel
theorem dX10_split_28 : decode cX10_split 28 = .ok (.iload 4, 2) := by decide +kernel
theorem dX10_split_30 : decode cX10_split 30 = .ok (.invokevirtual 108, 3) := by decide +kernel
theorem dX10_split_33 : decode cX10_split 33 = .ok (.aload_n 0, 1) := by decide +kernel
theorem dX10_split_34 : decode cX10_split 34 = .ok (.iload_n 2, 1) := by decide +kernel
theorem dX10_split_35 : decode cX10_split 35 = .ok (.aload_n 0, 1) := by decide +kernel
theorem dX10_split_36 : decode cX10_split 36 = .ok (.getfield 13, 3) := by decide +kernel
theorem dX10_split_39 : decode cX10_split 39 = .ok (.iload 4, 2) := by decide +kernel
theorem dX10_split_41 : decode cX10_split 41 = .ok (.iconst (-1), 1) := by decide +kernel
theorem dX10_split_42 : decode cX10_split 42 = .ok (.ixor, 1) := by decide +kernel
theorem dX10_split_43 : decode cX10_split 43 = .ok (.iand, 1) := by decide +kernel
theorem dX10_split_44 : decode cX10_split 44 = .ok (.invokevirtual 108, 3) := by decide +kernel
theorem dX10_split_47 : decode cX10_split 47 = .ok (.iadd, 1) := by decide +kernel
theorem dX10_split_48 : decode cX10_split 48 = .ok (.iload_n 3, 1) := by decide +kernel
theorem dX10_split_49 : decode cX10_split 49 = .ok (.invokestatic 104, 3) := by decide +kernel
theorem dX10_split_52 : decode cX10_split 52 = .ok (.if_icmp .ne 6, 3) := by decide +kernel
theorem dX10_split_55 : decode cX10_split 55 = .ok (.iload 4, 2) := by decide +kernel
theorem dX10_split_57 : decode cX10_split 57 = .ok (.ireturn, 1) := by decide +kernel
theorem dX10_split_58 : decode cX10_split 58 = .ok (.iinc 4 1, 3) := by decide +kernel
theorem dX10_split_61 : decode cX10_split 61 = .ok (.goto (-44), 3) := by decide +kernel
theorem dX10_split_64 : decode cX10_split 64 = .ok (.iconst (-1), 1) := by decide +kernel
theorem dX10_split_65 : decode cX10_split 65 = .ok (.ireturn, 1) := by decide +kernel
theorem dX10_most_0 : decode cX10_most 0 = .ok (.iconst (-1), 1) := by decide +kernel
theorem dX10_most_1 : decode cX10_most 1 = .ok (.istore 4, 2) := by decide +kernel
theorem dX10_most_3 : decode cX10_most 3 = .ok (.iconst 0, 1) := by decide +kernel
theorem dX10_most_4 : decode cX10_most 4 = .ok (.istore 5, 2) := by decide +kernel
theorem dX10_most_6 : decode cX10_most 6 = .ok (.iload 5, 2) := by decide +kernel
theorem dX10_most_8 : decode cX10_most 8 = .ok (.aload_n 0, 1) := by decide +kernel
theorem dX10_most_9 : decode cX10_most 9 = .ok (.getfield 13, 3) := by decide +kernel
theorem dX10_most_12 : decode cX10_most 12 = .ok (.if_icmp .gt 67, 3) := by decide +kernel
theorem dX10_most_15 : decode cX10_most 15 = .ok (.aload_n 0, 1) := by decide +kernel
theorem dX10_most_16 : decode cX10_most 16 = .ok (.iload_n 1, 1) := by decide +kernel
theorem dX10_most_17 : decode cX10_most 17 = .ok (.invokevirtual 191, 3) := by decide +kernel
theorem dX10_most_20 : decode cX10_most 20 = .ok (.ifCond .eq 59, 3) := by decide +kernel
theorem dX10_most_23 : decode cX10_most 23 = .ok (.aload_n 0, 1) := by decide +kernel
theorem dX10_most_24 : decode cX10_most 24 = .ok (.iload_n 2, 1) := by decide +kernel
theorem dX10_most_25 : decode cX10_most 25 = .ok (.invokevirtual 191, 3) := by decide +kernel
theorem dX10_most_28 : decode cX10_most 28 = .ok (.ifCond .eq 51, 3) := by decide +kernel
theorem dX10_most_31 : decode cX10_most 31 = .ok (.aload_n 0, 1) := by decide +kernel
theorem dX10_most_32 : decode cX10_most 32 = .ok (.iload_n 1, 1) := by decide +kernel
theorem dX10_most_33 : decode cX10_most 33 = .ok (.iload 5, 2) := by decide +kernel
theorem dX10_most_35 : decode cX10_most 35 = .ok (.invokevirtual 100, 3) := by decide +kernel
theorem dX10_most_38 : decode cX10_most 38 = .ok (.ifCond .eq 35, 3) := by decide +kernel
theorem dX10_most_41 : decode cX10_most 41 = .ok (.aload_n 0, 1) := by decide +kernel
theorem dX10_most_42 : decode cX10_most 42 = .ok (.iload_n 2, 1) := by decide +kernel
theorem dX10_most_43 : decode cX10_most 43 = .ok (.iload 5, 2) := by decide +kernel
theorem dX10_most_45 : decode cX10_most 45 = .ok (.invokevirtual 100, 3) := by decide +kernel
theorem dX10_most_48 : decode cX10_most 48 = .ok (.ifCond .eq 25, 3) := by decide +kernel
theorem dX10_most_51 : decode cX10_most 51 = .ok (.iload 5, 2) := by decide +kernel
theorem dX10_most_53 : decode cX10_most 53 = .ok (.invokestatic 104, 3) := by decide +kernel
theorem dX10_most_56 : decode cX10_most 56 = .ok (.iload_n 3, 1) := by decide +kernel
theorem dX10_most_57 : decode cX10_most 57 = .ok (.if_icmp .ne 16, 3) := by decide +kernel
theorem dX10_most_60 : decode cX10_most 60 = .ok (.iload 4, 2) := by decide +kernel
theorem dX10_most_62 : decode cX10_most 62 = .ok (.aload_n 0, 1) := by decide +kernel
theorem dX10_most_63 : decode cX10_most 63 = .ok (.iload 5, 2) := by decide +kernel
theorem dX10_most_65 : decode cX10_most 65 = .ok (.invokevirtual 204, 3) := by decide +kernel
theorem dX10_most_68 : decode cX10_most 68 = .ok (.invokestatic 111, 3) := by decide +kernel
theorem dX10_most_71 : decode cX10_most 71 = .ok (.istore 4, 2) := by decide +kernel
theorem dX10_most_73 : decode cX10_most 73 = .ok (.iinc 5 1, 3) := by decide +kernel
theorem dX10_most_76 : decode cX10_most 76 = .ok (.goto (-70), 3) := by decide +kernel
theorem dX10_most_79 : decode cX10_most 79 = .ok (.iload 4, 2) := by decide +kernel
theorem dX10_most_81 : decode cX10_most 81 = .ok (.ireturn, 1) := by decide +kernel
theorem dX10_three_0 : decode cX10_three 0 = .ok (.aload_n 0, 1) := by decide +kernel
theorem dX10_three_1 : decode cX10_three 1 = .ok (.iload_n 1, 1) := by decide +kernel
theorem dX10_three_2 : decode cX10_three 2 = .ok (.invokevirtual 191, 3) := by decide +kernel
theorem dX10_three_5 : decode cX10_three 5 = .ok (.ifCond .eq 19, 3) := by decide +kernel
theorem dX10_three_8 : decode cX10_three 8 = .ok (.aload_n 0, 1) := by decide +kernel
theorem dX10_three_9 : decode cX10_three 9 = .ok (.iload_n 2, 1) := by decide +kernel
theorem dX10_three_10 : decode cX10_three 10 = .ok (.invokevirtual 191, 3) := by decide +kernel
theorem dX10_three_13 : decode cX10_three 13 = .ok (.ifCond .eq 11, 3) := by decide +kernel
theorem dX10_three_16 : decode cX10_three 16 = .ok (.aload_n 0, 1) := by decide +kernel
theorem dX10_three_17 : decode cX10_three 17 = .ok (.iload_n 3, 1) := by decide +kernel
theorem dX10_three_18 : decode cX10_three 18 = .ok (.invokevirtual 191, 3) := by decide +kernel
theorem dX10_three_21 : decode cX10_three 21 = .ok (.ifCond .ne 5, 3) := by decide +kernel
theorem dX10_three_24 : decode cX10_three 24 = .ok (.iconst (-1), 1) := by decide +kernel
theorem dX10_three_25 : decode cX10_three 25 = .ok (.ireturn, 1) := by decide +kernel
theorem dX10_three_26 : decode cX10_three 26 = .ok (.iconst 0, 1) := by decide +kernel
theorem dX10_three_27 : decode cX10_three 27 = .ok (.istore 4, 2) := by decide +kernel
theorem dX10_three_29 : decode cX10_three 29 = .ok (.iconst 0, 1) := by decide +kernel
theorem dX10_three_30 : decode cX10_three 30 = .ok (.istore 5, 2) := by decide +kernel
theorem dX10_three_32 : decode cX10_three 32 = .ok (.iload 5, 2) := by decide +kernel
theorem dX10_three_34 : decode cX10_three 34 = .ok (.aload_n 0, 1) := by decide +kernel
theorem dX10_three_35 : decode cX10_three 35 = .ok (.getfield 13, 3) := by decide +kernel
theorem dX10_three_38 : decode cX10_three 38 = .ok (.if_icmp .gt 51, 3) := by decide +kernel
theorem dX10_three_41 : decode cX10_three 41 = .ok (.aload_n 0, 1) := by decide +kernel
theorem dX10_three_42 : decode cX10_three 42 = .ok (.iload_n 1, 1) := by decide +kernel
theorem dX10_three_43 : decode cX10_three 43 = .ok (.iload 5, 2) := by decide +kernel
theorem dX10_three_45 : decode cX10_three 45 = .ok (.invokevirtual 100, 3) := by decide +kernel
theorem dX10_three_48 : decode cX10_three 48 = .ok (.ifCond .eq 35, 3) := by decide +kernel
theorem dX10_three_51 : decode cX10_three 51 = .ok (.aload_n 0, 1) := by decide +kernel
theorem dX10_three_52 : decode cX10_three 52 = .ok (.iload_n 2, 1) := by decide +kernel
theorem dX10_three_53 : decode cX10_three 53 = .ok (.iload 5, 2) := by decide +kernel
theorem dX10_three_55 : decode cX10_three 55 = .ok (.invokevirtual 100, 3) := by decide +kernel
theorem dX10_three_58 : decode cX10_three 58 = .ok (.ifCond .eq 25, 3) := by decide +kernel
theorem dX10_three_61 : decode cX10_three 61 = .ok (.aload_n 0, 1) := by decide +kernel
theorem dX10_three_62 : decode cX10_three 62 = .ok (.iload_n 3, 1) := by decide +kernel
theorem dX10_three_63 : decode cX10_three 63 = .ok (.iload 5, 2) := by decide +kernel
theorem dX10_three_65 : decode cX10_three 65 = .ok (.invokevirtual 100, 3) := by decide +kernel
theorem dX10_three_68 : decode cX10_three 68 = .ok (.ifCond .eq 15, 3) := by decide +kernel
theorem dX10_three_71 : decode cX10_three 71 = .ok (.iload 4, 2) := by decide +kernel
theorem dX10_three_73 : decode cX10_three 73 = .ok (.iload 5, 2) := by decide +kernel
theorem dX10_three_75 : decode cX10_three 75 = .ok (.invokestatic 104, 3) := by decide +kernel
theorem dX10_three_78 : decode cX10_three 78 = .ok (.invokestatic 111, 3) := by decide +kernel
theorem dX10_three_81 : decode cX10_three 81 = .ok (.istore 4, 2) := by decide +kernel
theorem dX10_three_83 : decode cX10_three 83 = .ok (.iinc 5 1, 3) := by decide +kernel
theorem dX10_three_86 : decode cX10_three 86 = .ok (.goto (-54), 3) := by decide +kernel
theorem dX10_three_89 : decode cX10_three 89 = .ok (.iload 4, 2) := by decide +kernel
theorem dX10_three_91 : decode cX10_three 91 = .ok (.ireturn, 1) := by decide +kernel
theorem dX10_undealt_0 : decode cX10_undealt 0 = .ok (.aload_n 0, 1) := by decide +kernel
theorem dX10_undealt_1 : decode cX10_undealt 1 = .ok (.iload_n 1, 1) := by decide +kernel
theorem dX10_undealt_2 : decode cX10_undealt 2 = .ok (.invokevirtual 191, 3) := by decide +kernel
theorem dX10_undealt_5 : decode cX10_undealt 5 = .ok (.ifCond .ne 5, 3) := by decide +kernel
theorem dX10_undealt_8 : decode cX10_undealt 8 = .ok (.iconst (-1), 1) := by decide +kernel
theorem dX10_undealt_9 : decode cX10_undealt 9 = .ok (.ireturn, 1) := by decide +kernel
theorem dX10_undealt_10 : decode cX10_undealt 10 = .ok (.iconst 0, 1) := by decide +kernel
theorem dX10_undealt_11 : decode cX10_undealt 11 = .ok (.istore_n 2, 1) := by decide +kernel
theorem dX10_undealt_12 : decode cX10_undealt 12 = .ok (.iload_n 2, 1) := by decide +kernel
theorem dX10_undealt_13 : decode cX10_undealt 13 = .ok (.aload_n 0, 1) := by decide +kernel
theorem dX10_undealt_14 : decode cX10_undealt 14 = .ok (.getfield 7, 3) := by decide +kernel
theorem dX10_undealt_17 : decode cX10_undealt 17 = .ok (.if_icmp .ge 23, 3) := by decide +kernel
theorem dX10_undealt_20 : decode cX10_undealt 20 = .ok (.aload_n 0, 1) := by decide +kernel
theorem dX10_undealt_21 : decode cX10_undealt 21 = .ok (.iload_n 1, 1) := by decide +kernel
theorem dX10_undealt_22 : decode cX10_undealt 22 = .ok (.iconst 1, 1) := by decide +kernel
theorem dX10_undealt_23 : decode cX10_undealt 23 = .ok (.iload_n 2, 1) := by decide +kernel
theorem dX10_undealt_24 : decode cX10_undealt 24 = .ok (.ishl, 1) := by decide +kernel
theorem dX10_undealt_25 : decode cX10_undealt 25 = .ok (.invokevirtual 100, 3) := by decide +kernel
theorem dX10_undealt_28 : decode cX10_undealt 28 = .ok (.ifCond .ne 6, 3) := by decide +kernel
theorem dX10_undealt_31 : decode cX10_undealt 31 = .ok (.bipush (-2), 2) := by decide +kernel
theorem dX10_undealt_33 : decode cX10_undealt 33 = .ok (.ireturn, 1) := by decide +kernel
theorem dX10_undealt_34 : decode cX10_undealt 34 = .ok (.iinc 2 1, 3) := by decide +kernel
theorem dX10_undealt_37 : decode cX10_undealt 37 = .ok (.goto (-25), 3) := by decide +kernel
theorem dX10_undealt_40 : decode cX10_undealt 40 = .ok (.iconst 0, 1) := by decide +kernel
theorem dX10_undealt_41 : decode cX10_undealt 41 = .ok (.ireturn, 1) := by decide +kernel
theorem dX10_fewestOf_0 : decode cX10_fewestOf 0 = .ok (.aload_n 0, 1) := by decide +kernel
theorem dX10_fewestOf_1 : decode cX10_fewestOf 1 = .ok (.getfield 72, 3) := by decide +kernel
theorem dX10_fewestOf_4 : decode cX10_fewestOf 4 = .ok (.iconst 0, 1) := by decide +kernel
theorem dX10_fewestOf_5 : decode cX10_fewestOf 5 = .ok (.iconst 0, 1) := by decide +kernel
theorem dX10_fewestOf_6 : decode cX10_fewestOf 6 = .ok (.bastore, 1) := by decide +kernel
theorem dX10_fewestOf_7 : decode cX10_fewestOf 7 = .ok (.iconst 1, 1) := by decide +kernel
theorem dX10_fewestOf_8 : decode cX10_fewestOf 8 = .ok (.istore_n 2, 1) := by decide +kernel
theorem dX10_fewestOf_9 : decode cX10_fewestOf 9 = .ok (.iload_n 2, 1) := by decide +kernel
theorem dX10_fewestOf_10 : decode cX10_fewestOf 10 = .ok (.aload_n 0, 1) := by decide +kernel
theorem dX10_fewestOf_11 : decode cX10_fewestOf 11 = .ok (.getfield 13, 3) := by decide +kernel
theorem dX10_fewestOf_14 : decode cX10_fewestOf 14 = .ok (.if_icmp .gt 97, 3) := by decide +kernel
theorem dX10_fewestOf_17 : decode cX10_fewestOf 17 = .ok (.iload_n 2, 1) := by decide +kernel
theorem dX10_fewestOf_18 : decode cX10_fewestOf 18 = .ok (.iload_n 2, 1) := by decide +kernel
theorem dX10_fewestOf_19 : decode cX10_fewestOf 19 = .ok (.ineg, 1) := by decide +kernel
theorem dX10_fewestOf_20 : decode cX10_fewestOf 20 = .ok (.iand, 1) := by decide +kernel
theorem dX10_fewestOf_21 : decode cX10_fewestOf 21 = .ok (.istore_n 3, 1) := by decide +kernel
theorem dX10_fewestOf_22 : decode cX10_fewestOf 22 = .ok (.iload_n 2, 1) := by decide +kernel
theorem dX10_fewestOf_23 : decode cX10_fewestOf 23 = .ok (.iload_n 3, 1) := by decide +kernel
theorem dX10_fewestOf_24 : decode cX10_fewestOf 24 = .ok (.iconst (-1), 1) := by decide +kernel
theorem dX10_fewestOf_25 : decode cX10_fewestOf 25 = .ok (.ixor, 1) := by decide +kernel
theorem dX10_fewestOf_26 : decode cX10_fewestOf 26 = .ok (.iand, 1) := by decide +kernel
theorem dX10_fewestOf_27 : decode cX10_fewestOf 27 = .ok (.istore 4, 2) := by decide +kernel
theorem dX10_fewestOf_29 : decode cX10_fewestOf 29 = .ok (.bipush 100, 2) := by decide +kernel
theorem dX10_fewestOf_31 : decode cX10_fewestOf 31 = .ok (.istore 5, 2) := by decide +kernel
theorem dX10_fewestOf_33 : decode cX10_fewestOf 33 = .ok (.iload 4, 2) := by decide +kernel
theorem dX10_fewestOf_35 : decode cX10_fewestOf 35 = .ok (.istore 6, 2) := by decide +kernel
theorem dX10_fewestOf_37 : decode cX10_fewestOf 37 = .ok (.iload 6, 2) := by decide +kernel
theorem dX10_fewestOf_39 : decode cX10_fewestOf 39 = .ok (.ifCond .lt 57, 3) := by decide +kernel
theorem dX10_fewestOf_42 : decode cX10_fewestOf 42 = .ok (.aload_n 0, 1) := by decide +kernel
theorem dX10_fewestOf_43 : decode cX10_fewestOf 43 = .ok (.iload_n 1, 1) := by decide +kernel
theorem dX10_fewestOf_44 : decode cX10_fewestOf 44 = .ok (.iload 6, 2) := by decide +kernel
theorem dX10_fewestOf_46 : decode cX10_fewestOf 46 = .ok (.iload_n 3, 1) := by decide +kernel
theorem dX10_fewestOf_47 : decode cX10_fewestOf 47 = .ok (.ior, 1) := by decide +kernel
theorem dX10_fewestOf_48 : decode cX10_fewestOf 48 = .ok (.invokevirtual 100, 3) := by decide +kernel
theorem dX10_fewestOf_51 : decode cX10_fewestOf 51 = .ok (.ifCond .eq 24, 3) := by decide +kernel
theorem dX10_fewestOf_54 : decode cX10_fewestOf 54 = .ok (.iload 5, 2) := by decide +kernel
theorem dX10_fewestOf_56 : decode cX10_fewestOf 56 = .ok (.iconst 1, 1) := by decide +kernel
theorem dX10_fewestOf_57 : decode cX10_fewestOf 57 = .ok (.aload_n 0, 1) := by decide +kernel
theorem dX10_fewestOf_58 : decode cX10_fewestOf 58 = .ok (.getfield 72, 3) := by decide +kernel
theorem dX10_fewestOf_61 : decode cX10_fewestOf 61 = .ok (.iload 4, 2) := by decide +kernel
theorem dX10_fewestOf_63 : decode cX10_fewestOf 63 = .ok (.iload 6, 2) := by decide +kernel
theorem dX10_fewestOf_65 : decode cX10_fewestOf 65 = .ok (.iconst (-1), 1) := by decide +kernel
theorem dX10_fewestOf_66 : decode cX10_fewestOf 66 = .ok (.ixor, 1) := by decide +kernel
theorem dX10_fewestOf_67 : decode cX10_fewestOf 67 = .ok (.iand, 1) := by decide +kernel
theorem dX10_fewestOf_68 : decode cX10_fewestOf 68 = .ok (.baload, 1) := by decide +kernel
theorem dX10_fewestOf_69 : decode cX10_fewestOf 69 = .ok (.iadd, 1) := by decide +kernel
theorem dX10_fewestOf_70 : decode cX10_fewestOf 70 = .ok (.invokestatic 217, 3) := by decide +kernel
theorem dX10_fewestOf_73 : decode cX10_fewestOf 73 = .ok (.istore 5, 2) := by decide +kernel
theorem dX10_fewestOf_75 : decode cX10_fewestOf 75 = .ok (.iload 6, 2) := by decide +kernel
theorem dX10_fewestOf_77 : decode cX10_fewestOf 77 = .ok (.ifCond .ne 7, 3) := by decide +kernel
theorem dX10_fewestOf_80 : decode cX10_fewestOf 80 = .ok (.iconst (-1), 1) := by decide +kernel
theorem dX10_fewestOf_81 : decode cX10_fewestOf 81 = .ok (.goto 10, 3) := by decide +kernel
theorem dX10_fewestOf_84 : decode cX10_fewestOf 84 = .ok (.iload 6, 2) := by decide +kernel
theorem dX10_fewestOf_86 : decode cX10_fewestOf 86 = .ok (.iconst 1, 1) := by decide +kernel
theorem dX10_fewestOf_87 : decode cX10_fewestOf 87 = .ok (.isub, 1) := by decide +kernel
theorem dX10_fewestOf_88 : decode cX10_fewestOf 88 = .ok (.iload 4, 2) := by decide +kernel
theorem dX10_fewestOf_90 : decode cX10_fewestOf 90 = .ok (.iand, 1) := by decide +kernel
theorem dX10_fewestOf_91 : decode cX10_fewestOf 91 = .ok (.istore 6, 2) := by decide +kernel
theorem dX10_fewestOf_93 : decode cX10_fewestOf 93 = .ok (.goto (-56), 3) := by decide +kernel
theorem dX10_fewestOf_96 : decode cX10_fewestOf 96 = .ok (.aload_n 0, 1) := by decide +kernel
theorem dX10_fewestOf_97 : decode cX10_fewestOf 97 = .ok (.getfield 72, 3) := by decide +kernel
theorem dX10_fewestOf_100 : decode cX10_fewestOf 100 = .ok (.iload_n 2, 1) := by decide +kernel
theorem dX10_fewestOf_101 : decode cX10_fewestOf 101 = .ok (.iload 5, 2) := by decide +kernel
theorem dX10_fewestOf_103 : decode cX10_fewestOf 103 = .ok (.i2b, 1) := by decide +kernel
theorem dX10_fewestOf_104 : decode cX10_fewestOf 104 = .ok (.bastore, 1) := by decide +kernel
theorem dX10_fewestOf_105 : decode cX10_fewestOf 105 = .ok (.iinc 2 1, 3) := by decide +kernel
theorem dX10_fewestOf_108 : decode cX10_fewestOf 108 = .ok (.goto (-99), 3) := by decide +kernel
theorem dX10_fewestOf_111 : decode cX10_fewestOf 111 = .ok (.aload_n 0, 1) := by decide +kernel
theorem dX10_fewestOf_112 : decode cX10_fewestOf 112 = .ok (.getfield 72, 3) := by decide +kernel
theorem dX10_fewestOf_115 : decode cX10_fewestOf 115 = .ok (.aload_n 0, 1) := by decide +kernel
theorem dX10_fewestOf_116 : decode cX10_fewestOf 116 = .ok (.getfield 13, 3) := by decide +kernel
theorem dX10_fewestOf_119 : decode cX10_fewestOf 119 = .ok (.baload, 1) := by decide +kernel
theorem dX10_fewestOf_120 : decode cX10_fewestOf 120 = .ok (.ireturn, 1) := by decide +kernel
theorem dX10_fewest_0 : decode cX10_fewest 0 = .ok (.aload_n 0, 1) := by decide +kernel
theorem dX10_fewest_1 : decode cX10_fewest 1 = .ok (.iload_n 1, 1) := by decide +kernel
theorem dX10_fewest_2 : decode cX10_fewest 2 = .ok (.invokevirtual 220, 3) := by decide +kernel
theorem dX10_fewest_5 : decode cX10_fewest 5 = .ok (.istore_n 2, 1) := by decide +kernel
theorem dX10_fewest_6 : decode cX10_fewest 6 = .ok (.iload_n 2, 1) := by decide +kernel
theorem dX10_fewest_7 : decode cX10_fewest 7 = .ok (.ifCond .eq 7, 3) := by decide +kernel
theorem dX10_fewest_10 : decode cX10_fewest 10 = .ok (.iload_n 2, 1) := by decide +kernel
theorem dX10_fewest_11 : decode cX10_fewest 11 = .ok (.goto 8, 3) := by decide +kernel
theorem dX10_fewest_14 : decode cX10_fewest 14 = .ok (.aload_n 0, 1) := by decide +kernel
theorem dX10_fewest_15 : decode cX10_fewest 15 = .ok (.iload_n 1, 1) := by decide +kernel
theorem dX10_fewest_16 : decode cX10_fewest 16 = .ok (.invokevirtual 223, 3) := by decide +kernel
theorem dX10_fewest_19 : decode cX10_fewest 19 = .ok (.ireturn, 1) := by decide +kernel
theorem dX10_deals_0 : decode cX10_deals 0 = .ok (.iload_n 2, 1) := by decide +kernel
theorem dX10_deals_1 : decode cX10_deals 1 = .ok (.aload_n 0, 1) := by decide +kernel
theorem dX10_deals_2 : decode cX10_deals 2 = .ok (.getfield 7, 3) := by decide +kernel
theorem dX10_deals_5 : decode cX10_deals 5 = .ok (.if_icmp .ne 5, 3) := by decide +kernel
theorem dX10_deals_8 : decode cX10_deals 8 = .ok (.iconst 1, 1) := by decide +kernel
theorem dX10_deals_9 : decode cX10_deals 9 = .ok (.ireturn, 1) := by decide +kernel
theorem dX10_deals_10 : decode cX10_deals 10 = .ok (.iconst 0, 1) := by decide +kernel
theorem dX10_deals_11 : decode cX10_deals 11 = .ok (.istore 4, 2) := by decide +kernel
theorem dX10_deals_13 : decode cX10_deals 13 = .ok (.iconst 0, 1) := by decide +kernel
theorem dX10_deals_14 : decode cX10_deals 14 = .ok (.istore 5, 2) := by decide +kernel
theorem dX10_deals_16 : decode cX10_deals 16 = .ok (.iload 5, 2) := by decide +kernel
theorem dX10_deals_18 : decode cX10_deals 18 = .ok (.iload_n 3, 1) := by decide +kernel
theorem dX10_deals_19 : decode cX10_deals 19 = .ok (.if_icmp .ge 100, 3) := by decide +kernel
theorem dX10_deals_22 : decode cX10_deals 22 = .ok (.iload 4, 2) := by decide +kernel
theorem dX10_deals_24 : decode cX10_deals 24 = .ok (.ifCond .ne 95, 3) := by decide +kernel
theorem dX10_deals_27 : decode cX10_deals 27 = .ok (.aload_n 0, 1) := by decide +kernel
theorem dX10_deals_28 : decode cX10_deals 28 = .ok (.getfield 78, 3) := by decide +kernel
theorem dX10_deals_31 : decode cX10_deals 31 = .ok (.iload 5, 2) := by decide +kernel
theorem dX10_deals_33 : decode cX10_deals 33 = .ok (.iaload, 1) := by decide +kernel
theorem dX10_deals_34 : decode cX10_deals 34 = .ok (.ifCond .ne 7, 3) := by decide +kernel
theorem dX10_deals_37 : decode cX10_deals 37 = .ok (.iconst 1, 1) := by decide +kernel
theorem dX10_deals_38 : decode cX10_deals 38 = .ok (.goto 4, 3) := by decide +kernel
theorem dX10_deals_41 : decode cX10_deals 41 = .ok (.iconst 0, 1) := by decide +kernel
theorem dX10_deals_42 : decode cX10_deals 42 = .ok (.istore 4, 2) := by decide +kernel
theorem dX10_deals_44 : decode cX10_deals 44 = .ok (.aload_n 0, 1) := by decide +kernel
theorem dX10_deals_45 : decode cX10_deals 45 = .ok (.iload_n 1, 1) := by decide +kernel
theorem dX10_deals_46 : decode cX10_deals 46 = .ok (.aload_n 0, 1) := by decide +kernel
theorem dX10_deals_47 : decode cX10_deals 47 = .ok (.getfield 78, 3) := by decide +kernel
theorem dX10_deals_50 : decode cX10_deals 50 = .ok (.iload 5, 2) := by decide +kernel
theorem dX10_deals_52 : decode cX10_deals 52 = .ok (.iaload, 1) := by decide +kernel
theorem dX10_deals_53 : decode cX10_deals 53 = .ok (.iconst 1, 1) := by decide +kernel
theorem dX10_deals_54 : decode cX10_deals 54 = .ok (.iload_n 2, 1) := by decide +kernel
theorem dX10_deals_55 : decode cX10_deals 55 = .ok (.ishl, 1) := by decide +kernel
theorem dX10_deals_56 : decode cX10_deals 56 = .ok (.ior, 1) := by decide +kernel
theorem dX10_deals_57 : decode cX10_deals 57 = .ok (.invokevirtual 100, 3) := by decide +kernel
theorem dX10_deals_60 : decode cX10_deals 60 = .ok (.ifCond .eq 53, 3) := by decide +kernel
theorem dX10_deals_63 : decode cX10_deals 63 = .ok (.aload_n 0, 1) := by decide +kernel
theorem dX10_deals_64 : decode cX10_deals 64 = .ok (.getfield 75, 3) := by decide +kernel
theorem dX10_deals_67 : decode cX10_deals 67 = .ok (.iload_n 2, 1) := by decide +kernel
theorem dX10_deals_68 : decode cX10_deals 68 = .ok (.iload 5, 2) := by decide +kernel
theorem dX10_deals_70 : decode cX10_deals 70 = .ok (.iastore, 1) := by decide +kernel
theorem dX10_deals_71 : decode cX10_deals 71 = .ok (.aload_n 0, 1) := by decide +kernel
theorem dX10_deals_72 : decode cX10_deals 72 = .ok (.getfield 78, 3) := by decide +kernel
theorem dX10_deals_75 : decode cX10_deals 75 = .ok (.iload 5, 2) := by decide +kernel
theorem dX10_deals_77 : decode cX10_deals 77 = .ok (.dup2, 1) := by decide +kernel
theorem dX10_deals_78 : decode cX10_deals 78 = .ok (.iaload, 1) := by decide +kernel
theorem dX10_deals_79 : decode cX10_deals 79 = .ok (.iconst 1, 1) := by decide +kernel
theorem dX10_deals_80 : decode cX10_deals 80 = .ok (.iload_n 2, 1) := by decide +kernel
theorem dX10_deals_81 : decode cX10_deals 81 = .ok (.ishl, 1) := by decide +kernel
theorem dX10_deals_82 : decode cX10_deals 82 = .ok (.ior, 1) := by decide +kernel
theorem dX10_deals_83 : decode cX10_deals 83 = .ok (.iastore, 1) := by decide +kernel
theorem dX10_deals_84 : decode cX10_deals 84 = .ok (.aload_n 0, 1) := by decide +kernel
theorem dX10_deals_85 : decode cX10_deals 85 = .ok (.iload_n 1, 1) := by decide +kernel
theorem dX10_deals_86 : decode cX10_deals 86 = .ok (.iload_n 2, 1) := by decide +kernel
theorem dX10_deals_87 : decode cX10_deals 87 = .ok (.iconst 1, 1) := by decide +kernel
theorem dX10_deals_88 : decode cX10_deals 88 = .ok (.iadd, 1) := by decide +kernel
theorem dX10_deals_89 : decode cX10_deals 89 = .ok (.iload_n 3, 1) := by decide +kernel
theorem dX10_deals_90 : decode cX10_deals 90 = .ok (.invokevirtual 226, 3) := by decide +kernel
theorem dX10_deals_93 : decode cX10_deals 93 = .ok (.ifCond .eq 5, 3) := by decide +kernel
theorem dX10_deals_96 : decode cX10_deals 96 = .ok (.iconst 1, 1) := by decide +kernel
theorem dX10_deals_97 : decode cX10_deals 97 = .ok (.ireturn, 1) := by decide +kernel
theorem dX10_deals_98 : decode cX10_deals 98 = .ok (.aload_n 0, 1) := by decide +kernel
theorem dX10_deals_99 : decode cX10_deals 99 = .ok (.getfield 78, 3) := by decide +kernel
theorem dX10_deals_102 : decode cX10_deals 102 = .ok (.iload 5, 2) := by decide +kernel
theorem dX10_deals_104 : decode cX10_deals 104 = .ok (.dup2, 1) := by decide +kernel
theorem dX10_deals_105 : decode cX10_deals 105 = .ok (.iaload, 1) := by decide +kernel
theorem dX10_deals_106 : decode cX10_deals 106 = .ok (.iconst 1, 1) := by decide +kernel
theorem dX10_deals_107 : decode cX10_deals 107 = .ok (.iload_n 2, 1) := by decide +kernel
theorem dX10_deals_108 : decode cX10_deals 108 = .ok (.ishl, 1) := by decide +kernel
theorem dX10_deals_109 : decode cX10_deals 109 = .ok (.iconst (-1), 1) := by decide +kernel
theorem dX10_deals_110 : decode cX10_deals 110 = .ok (.ixor, 1) := by decide +kernel
theorem dX10_deals_111 : decode cX10_deals 111 = .ok (.iand, 1) := by decide +kernel
theorem dX10_deals_112 : decode cX10_deals 112 = .ok (.iastore, 1) := by decide +kernel
theorem dX10_deals_113 : decode cX10_deals 113 = .ok (.iinc 5 1, 3) := by decide +kernel
theorem dX10_deals_116 : decode cX10_deals 116 = .ok (.goto (-100), 3) := by decide +kernel
theorem dX10_deals_119 : decode cX10_deals 119 = .ok (.iconst 0, 1) := by decide +kernel
theorem dX10_deals_120 : decode cX10_deals 120 = .ok (.ireturn, 1) := by decide +kernel
theorem dX10_dealt_0 : decode cX10_dealt 0 = .ok (.aload_n 0, 1) := by decide +kernel
theorem dX10_dealt_1 : decode cX10_dealt 1 = .ok (.iload_n 1, 1) := by decide +kernel
theorem dX10_dealt_2 : decode cX10_dealt 2 = .ok (.invokevirtual 220, 3) := by decide +kernel
theorem dX10_dealt_5 : decode cX10_dealt 5 = .ok (.istore_n 3, 1) := by decide +kernel
theorem dX10_dealt_6 : decode cX10_dealt 6 = .ok (.iload_n 3, 1) := by decide +kernel
theorem dX10_dealt_7 : decode cX10_dealt 7 = .ok (.iconst (-1), 1) := by decide +kernel
theorem dX10_dealt_8 : decode cX10_dealt 8 = .ok (.if_icmp .eq 11, 3) := by decide +kernel
theorem dX10_dealt_11 : decode cX10_dealt 11 = .ok (.aload_n 0, 1) := by decide +kernel
theorem dX10_dealt_12 : decode cX10_dealt 12 = .ok (.iload_n 2, 1) := by decide +kernel
theorem dX10_dealt_13 : decode cX10_dealt 13 = .ok (.invokevirtual 88, 3) := by decide +kernel
theorem dX10_dealt_16 : decode cX10_dealt 16 = .ok (.ifCond .ne 5, 3) := by decide +kernel
theorem dX10_dealt_19 : decode cX10_dealt 19 = .ok (.iconst (-1), 1) := by decide +kernel
theorem dX10_dealt_20 : decode cX10_dealt 20 = .ok (.ireturn, 1) := by decide +kernel
theorem dX10_dealt_21 : decode cX10_dealt 21 = .ok (.iload_n 3, 1) := by decide +kernel
theorem dX10_dealt_22 : decode cX10_dealt 22 = .ok (.ifCond .eq 5, 3) := by decide +kernel
theorem dX10_dealt_25 : decode cX10_dealt 25 = .ok (.iload_n 3, 1) := by decide +kernel
theorem dX10_dealt_26 : decode cX10_dealt 26 = .ok (.ireturn, 1) := by decide +kernel
theorem dX10_dealt_27 : decode cX10_dealt 27 = .ok (.aload_n 0, 1) := by decide +kernel
theorem dX10_dealt_28 : decode cX10_dealt 28 = .ok (.iload_n 1, 1) := by decide +kernel
theorem dX10_dealt_29 : decode cX10_dealt 29 = .ok (.invokevirtual 223, 3) := by decide +kernel
theorem dX10_dealt_32 : decode cX10_dealt 32 = .ok (.istore 4, 2) := by decide +kernel
theorem dX10_dealt_34 : decode cX10_dealt 34 = .ok (.iconst 0, 1) := by decide +kernel
theorem dX10_dealt_35 : decode cX10_dealt 35 = .ok (.istore 5, 2) := by decide +kernel
theorem dX10_dealt_37 : decode cX10_dealt 37 = .ok (.iload 5, 2) := by decide +kernel
theorem dX10_dealt_39 : decode cX10_dealt 39 = .ok (.bipush 12, 2) := by decide +kernel
theorem dX10_dealt_41 : decode cX10_dealt 41 = .ok (.if_icmp .ge 17, 3) := by decide +kernel
theorem dX10_dealt_44 : decode cX10_dealt 44 = .ok (.aload_n 0, 1) := by decide +kernel
theorem dX10_dealt_45 : decode cX10_dealt 45 = .ok (.getfield 78, 3) := by decide +kernel
theorem dX10_dealt_48 : decode cX10_dealt 48 = .ok (.iload 5, 2) := by decide +kernel
theorem dX10_dealt_50 : decode cX10_dealt 50 = .ok (.iconst 0, 1) := by decide +kernel
theorem dX10_dealt_51 : decode cX10_dealt 51 = .ok (.iastore, 1) := by decide +kernel
theorem dX10_dealt_52 : decode cX10_dealt 52 = .ok (.iinc 5 1, 3) := by decide +kernel
theorem dX10_dealt_55 : decode cX10_dealt 55 = .ok (.goto (-18), 3) := by decide +kernel
theorem dX10_dealt_58 : decode cX10_dealt 58 = .ok (.aload_n 0, 1) := by decide +kernel
theorem dX10_dealt_59 : decode cX10_dealt 59 = .ok (.iload_n 1, 1) := by decide +kernel
theorem dX10_dealt_60 : decode cX10_dealt 60 = .ok (.iconst 0, 1) := by decide +kernel
theorem dX10_dealt_61 : decode cX10_dealt 61 = .ok (.iload 4, 2) := by decide +kernel
theorem dX10_dealt_63 : decode cX10_dealt 63 = .ok (.invokevirtual 226, 3) := by decide +kernel
theorem dX10_dealt_66 : decode cX10_dealt 66 = .ok (.istore 5, 2) := by decide +kernel
theorem dX10_dealt_68 : decode cX10_dealt 68 = .ok (.iload 5, 2) := by decide +kernel
theorem dX10_dealt_70 : decode cX10_dealt 70 = .ok (.ifCond .eq 12, 3) := by decide +kernel
theorem dX10_dealt_73 : decode cX10_dealt 73 = .ok (.aload_n 0, 1) := by decide +kernel
theorem dX10_dealt_74 : decode cX10_dealt 74 = .ok (.getfield 75, 3) := by decide +kernel
theorem dX10_dealt_77 : decode cX10_dealt 77 = .ok (.iload_n 2, 1) := by decide +kernel
theorem dX10_dealt_78 : decode cX10_dealt 78 = .ok (.iaload, 1) := by decide +kernel
theorem dX10_dealt_79 : decode cX10_dealt 79 = .ok (.goto 4, 3) := by decide +kernel
theorem dX10_dealt_82 : decode cX10_dealt 82 = .ok (.iconst (-1), 1) := by decide +kernel
theorem dX10_dealt_83 : decode cX10_dealt 83 = .ok (.ireturn, 1) := by decide +kernel
theorem dX10_crowd_0 : decode cX10_crowd 0 = .ok (.aload_n 0, 1) := by decide +kernel
theorem dX10_crowd_1 : decode cX10_crowd 1 = .ok (.iload_n 1, 1) := by decide +kernel
theorem dX10_crowd_2 : decode cX10_crowd 2 = .ok (.invokevirtual 220, 3) := by decide +kernel
theorem dX10_crowd_5 : decode cX10_crowd 5 = .ok (.istore_n 2, 1) := by decide +kernel
theorem dX10_crowd_6 : decode cX10_crowd 6 = .ok (.iload_n 2, 1) := by decide +kernel
theorem dX10_crowd_7 : decode cX10_crowd 7 = .ok (.ifCond .eq 5, 3) := by decide +kernel
theorem dX10_crowd_10 : decode cX10_crowd 10 = .ok (.iload_n 2, 1) := by decide +kernel
theorem dX10_crowd_11 : decode cX10_crowd 11 = .ok (.ireturn, 1) := by decide +kernel
theorem dX10_crowd_12 : decode cX10_crowd 12 = .ok (.aload_n 0, 1) := by decide +kernel
theorem dX10_crowd_13 : decode cX10_crowd 13 = .ok (.iload_n 1, 1) := by decide +kernel
theorem dX10_crowd_14 : decode cX10_crowd 14 = .ok (.invokevirtual 223, 3) := by decide +kernel
theorem dX10_crowd_17 : decode cX10_crowd 17 = .ok (.istore_n 3, 1) := by decide +kernel
theorem dX10_crowd_18 : decode cX10_crowd 18 = .ok (.iconst 1, 1) := by decide +kernel
theorem dX10_crowd_19 : decode cX10_crowd 19 = .ok (.istore 4, 2) := by decide +kernel
theorem dX10_crowd_21 : decode cX10_crowd 21 = .ok (.iload 4, 2) := by decide +kernel
theorem dX10_crowd_23 : decode cX10_crowd 23 = .ok (.aload_n 0, 1) := by decide +kernel
theorem dX10_crowd_24 : decode cX10_crowd 24 = .ok (.getfield 13, 3) := by decide +kernel
theorem dX10_crowd_27 : decode cX10_crowd 27 = .ok (.if_icmp .gt 38, 3) := by decide +kernel
theorem dX10_crowd_30 : decode cX10_crowd 30 = .ok (.aload_n 0, 1) := by decide +kernel
theorem dX10_crowd_31 : decode cX10_crowd 31 = .ok (.iload_n 1, 1) := by decide +kernel
theorem dX10_crowd_32 : decode cX10_crowd 32 = .ok (.iload 4, 2) := by decide +kernel
theorem dX10_crowd_34 : decode cX10_crowd 34 = .ok (.invokevirtual 108, 3) := by decide +kernel
theorem dX10_crowd_37 : decode cX10_crowd 37 = .ok (.istore 5, 2) := by decide +kernel
theorem dX10_crowd_39 : decode cX10_crowd 39 = .ok (.iload 4, 2) := by decide +kernel
theorem dX10_crowd_41 : decode cX10_crowd 41 = .ok (.invokestatic 104, 3) := by decide +kernel
theorem dX10_crowd_44 : decode cX10_crowd 44 = .ok (.iload 5, 2) := by decide +kernel
theorem dX10_crowd_46 : decode cX10_crowd 46 = .ok (.iadd, 1) := by decide +kernel
theorem dX10_crowd_47 : decode cX10_crowd 47 = .ok (.iconst 1, 1) := by decide +kernel
theorem dX10_crowd_48 : decode cX10_crowd 48 = .ok (.isub, 1) := by decide +kernel
theorem dX10_crowd_49 : decode cX10_crowd 49 = .ok (.iload 5, 2) := by decide +kernel
theorem dX10_crowd_51 : decode cX10_crowd 51 = .ok (.idiv, 1) := by decide +kernel
theorem dX10_crowd_52 : decode cX10_crowd 52 = .ok (.iload_n 3, 1) := by decide +kernel
theorem dX10_crowd_53 : decode cX10_crowd 53 = .ok (.if_icmp .ne 6, 3) := by decide +kernel
theorem dX10_crowd_56 : decode cX10_crowd 56 = .ok (.iload 4, 2) := by decide +kernel
theorem dX10_crowd_58 : decode cX10_crowd 58 = .ok (.ireturn, 1) := by decide +kernel
theorem dX10_crowd_59 : decode cX10_crowd 59 = .ok (.iinc 4 1, 3) := by decide +kernel
theorem dX10_crowd_62 : decode cX10_crowd 62 = .ok (.goto (-41), 3) := by decide +kernel
theorem dX10_crowd_65 : decode cX10_crowd 65 = .ok (.iconst (-1), 1) := by decide +kernel
theorem dX10_crowd_66 : decode cX10_crowd 66 = .ok (.ireturn, 1) := by decide +kernel
theorem dX10_pack_0 : decode cX10_pack 0 = .ok (.aload_n 0, 1) := by decide +kernel
theorem dX10_pack_1 : decode cX10_pack 1 = .ok (.iload_n 1, 1) := by decide +kernel
theorem dX10_pack_2 : decode cX10_pack 2 = .ok (.invokevirtual 191, 3) := by decide +kernel
theorem dX10_pack_5 : decode cX10_pack 5 = .ok (.ifCond .ne 5, 3) := by decide +kernel
theorem dX10_pack_8 : decode cX10_pack 8 = .ok (.iconst (-1), 1) := by decide +kernel
theorem dX10_pack_9 : decode cX10_pack 9 = .ok (.ireturn, 1) := by decide +kernel
theorem dX10_pack_10 : decode cX10_pack 10 = .ok (.aload_n 0, 1) := by decide +kernel
theorem dX10_pack_11 : decode cX10_pack 11 = .ok (.iload_n 1, 1) := by decide +kernel
theorem dX10_pack_12 : decode cX10_pack 12 = .ok (.aload_n 0, 1) := by decide +kernel
theorem dX10_pack_13 : decode cX10_pack 13 = .ok (.getfield 13, 3) := by decide +kernel
theorem dX10_pack_16 : decode cX10_pack 16 = .ok (.invokevirtual 108, 3) := by decide +kernel
theorem dX10_pack_19 : decode cX10_pack 19 = .ok (.ifCond .ne 6, 3) := by decide +kernel
theorem dX10_pack_22 : decode cX10_pack 22 = .ok (.bipush (-2), 2) := by decide +kernel
theorem dX10_pack_24 : decode cX10_pack 24 = .ok (.ireturn, 1) := by decide +kernel
theorem dX10_pack_25 : decode cX10_pack 25 = .ok (.aload_n 0, 1) := by decide +kernel
theorem dX10_pack_26 : decode cX10_pack 26 = .ok (.getfield 72, 3) := by decide +kernel
theorem dX10_pack_29 : decode cX10_pack 29 = .ok (.iconst 0, 1) := by decide +kernel
theorem dX10_pack_30 : decode cX10_pack 30 = .ok (.iconst 0, 1) := by decide +kernel
theorem dX10_pack_31 : decode cX10_pack 31 = .ok (.bastore, 1) := by decide +kernel
theorem dX10_pack_32 : decode cX10_pack 32 = .ok (.iconst 1, 1) := by decide +kernel
theorem dX10_pack_33 : decode cX10_pack 33 = .ok (.istore_n 2, 1) := by decide +kernel
theorem dX10_pack_34 : decode cX10_pack 34 = .ok (.iload_n 2, 1) := by decide +kernel
theorem dX10_pack_35 : decode cX10_pack 35 = .ok (.aload_n 0, 1) := by decide +kernel
theorem dX10_pack_36 : decode cX10_pack 36 = .ok (.getfield 13, 3) := by decide +kernel
theorem dX10_pack_39 : decode cX10_pack 39 = .ok (.if_icmp .gt 102, 3) := by decide +kernel
theorem dX10_pack_42 : decode cX10_pack 42 = .ok (.iload_n 2, 1) := by decide +kernel
theorem dX10_pack_43 : decode cX10_pack 43 = .ok (.iload_n 2, 1) := by decide +kernel
theorem dX10_pack_44 : decode cX10_pack 44 = .ok (.ineg, 1) := by decide +kernel
theorem dX10_pack_45 : decode cX10_pack 45 = .ok (.iand, 1) := by decide +kernel
theorem dX10_pack_46 : decode cX10_pack 46 = .ok (.istore_n 3, 1) := by decide +kernel
theorem dX10_pack_47 : decode cX10_pack 47 = .ok (.iload_n 2, 1) := by decide +kernel
theorem dX10_pack_48 : decode cX10_pack 48 = .ok (.iload_n 3, 1) := by decide +kernel
theorem dX10_pack_49 : decode cX10_pack 49 = .ok (.iconst (-1), 1) := by decide +kernel
theorem dX10_pack_50 : decode cX10_pack 50 = .ok (.ixor, 1) := by decide +kernel
theorem dX10_pack_51 : decode cX10_pack 51 = .ok (.iand, 1) := by decide +kernel
theorem dX10_pack_52 : decode cX10_pack 52 = .ok (.istore 4, 2) := by decide +kernel
theorem dX10_pack_54 : decode cX10_pack 54 = .ok (.aload_n 0, 1) := by decide +kernel
theorem dX10_pack_55 : decode cX10_pack 55 = .ok (.getfield 72, 3) := by decide +kernel
theorem dX10_pack_58 : decode cX10_pack 58 = .ok (.iload 4, 2) := by decide +kernel
theorem dX10_pack_60 : decode cX10_pack 60 = .ok (.baload, 1) := by decide +kernel
theorem dX10_pack_61 : decode cX10_pack 61 = .ok (.istore 5, 2) := by decide +kernel
theorem dX10_pack_63 : decode cX10_pack 63 = .ok (.iload 4, 2) := by decide +kernel
theorem dX10_pack_65 : decode cX10_pack 65 = .ok (.istore 6, 2) := by decide +kernel
theorem dX10_pack_67 : decode cX10_pack 67 = .ok (.iload 6, 2) := by decide +kernel
theorem dX10_pack_69 : decode cX10_pack 69 = .ok (.ifCond .lt 57, 3) := by decide +kernel
theorem dX10_pack_72 : decode cX10_pack 72 = .ok (.aload_n 0, 1) := by decide +kernel
theorem dX10_pack_73 : decode cX10_pack 73 = .ok (.iload_n 1, 1) := by decide +kernel
theorem dX10_pack_74 : decode cX10_pack 74 = .ok (.iload 6, 2) := by decide +kernel
theorem dX10_pack_76 : decode cX10_pack 76 = .ok (.iload_n 3, 1) := by decide +kernel
theorem dX10_pack_77 : decode cX10_pack 77 = .ok (.ior, 1) := by decide +kernel
theorem dX10_pack_78 : decode cX10_pack 78 = .ok (.invokevirtual 207, 3) := by decide +kernel
theorem dX10_pack_81 : decode cX10_pack 81 = .ok (.ifCond .eq 24, 3) := by decide +kernel
theorem dX10_pack_84 : decode cX10_pack 84 = .ok (.iload 5, 2) := by decide +kernel
theorem dX10_pack_86 : decode cX10_pack 86 = .ok (.iconst 1, 1) := by decide +kernel
theorem dX10_pack_87 : decode cX10_pack 87 = .ok (.aload_n 0, 1) := by decide +kernel
theorem dX10_pack_88 : decode cX10_pack 88 = .ok (.getfield 72, 3) := by decide +kernel
theorem dX10_pack_91 : decode cX10_pack 91 = .ok (.iload 4, 2) := by decide +kernel
theorem dX10_pack_93 : decode cX10_pack 93 = .ok (.iload 6, 2) := by decide +kernel
theorem dX10_pack_95 : decode cX10_pack 95 = .ok (.iconst (-1), 1) := by decide +kernel
theorem dX10_pack_96 : decode cX10_pack 96 = .ok (.ixor, 1) := by decide +kernel
theorem dX10_pack_97 : decode cX10_pack 97 = .ok (.iand, 1) := by decide +kernel
theorem dX10_pack_98 : decode cX10_pack 98 = .ok (.baload, 1) := by decide +kernel
theorem dX10_pack_99 : decode cX10_pack 99 = .ok (.iadd, 1) := by decide +kernel
theorem dX10_pack_100 : decode cX10_pack 100 = .ok (.invokestatic 111, 3) := by decide +kernel
theorem dX10_pack_103 : decode cX10_pack 103 = .ok (.istore 5, 2) := by decide +kernel
theorem dX10_pack_105 : decode cX10_pack 105 = .ok (.iload 6, 2) := by decide +kernel
theorem dX10_pack_107 : decode cX10_pack 107 = .ok (.ifCond .ne 7, 3) := by decide +kernel
theorem dX10_pack_110 : decode cX10_pack 110 = .ok (.iconst (-1), 1) := by decide +kernel
theorem dX10_pack_111 : decode cX10_pack 111 = .ok (.goto 10, 3) := by decide +kernel
theorem dX10_pack_114 : decode cX10_pack 114 = .ok (.iload 6, 2) := by decide +kernel
theorem dX10_pack_116 : decode cX10_pack 116 = .ok (.iconst 1, 1) := by decide +kernel
theorem dX10_pack_117 : decode cX10_pack 117 = .ok (.isub, 1) := by decide +kernel
theorem dX10_pack_118 : decode cX10_pack 118 = .ok (.iload 4, 2) := by decide +kernel
theorem dX10_pack_120 : decode cX10_pack 120 = .ok (.iand, 1) := by decide +kernel
theorem dX10_pack_121 : decode cX10_pack 121 = .ok (.istore 6, 2) := by decide +kernel
theorem dX10_pack_123 : decode cX10_pack 123 = .ok (.goto (-56), 3) := by decide +kernel
theorem dX10_pack_126 : decode cX10_pack 126 = .ok (.aload_n 0, 1) := by decide +kernel
theorem dX10_pack_127 : decode cX10_pack 127 = .ok (.getfield 72, 3) := by decide +kernel
theorem dX10_pack_130 : decode cX10_pack 130 = .ok (.iload_n 2, 1) := by decide +kernel
theorem dX10_pack_131 : decode cX10_pack 131 = .ok (.iload 5, 2) := by decide +kernel
theorem dX10_pack_133 : decode cX10_pack 133 = .ok (.i2b, 1) := by decide +kernel
theorem dX10_pack_134 : decode cX10_pack 134 = .ok (.bastore, 1) := by decide +kernel
theorem dX10_pack_135 : decode cX10_pack 135 = .ok (.iinc 2 1, 3) := by decide +kernel
theorem dX10_pack_138 : decode cX10_pack 138 = .ok (.goto (-104), 3) := by decide +kernel
theorem dX10_pack_141 : decode cX10_pack 141 = .ok (.aload_n 0, 1) := by decide +kernel
theorem dX10_pack_142 : decode cX10_pack 142 = .ok (.getfield 72, 3) := by decide +kernel
theorem dX10_pack_145 : decode cX10_pack 145 = .ok (.aload_n 0, 1) := by decide +kernel
theorem dX10_pack_146 : decode cX10_pack 146 = .ok (.getfield 13, 3) := by decide +kernel
theorem dX10_pack_149 : decode cX10_pack 149 = .ok (.baload, 1) := by decide +kernel
theorem dX10_pack_150 : decode cX10_pack 150 = .ok (.ireturn, 1) := by decide +kernel
theorem dX10_same_0 : decode cX10_same 0 = .ok (.aload_n 0, 1) := by decide +kernel
theorem dX10_same_1 : decode cX10_same 1 = .ok (.iload_n 1, 1) := by decide +kernel
theorem dX10_same_2 : decode cX10_same 2 = .ok (.invokevirtual 191, 3) := by decide +kernel
theorem dX10_same_5 : decode cX10_same 5 = .ok (.ifCond .eq 11, 3) := by decide +kernel
theorem dX10_same_8 : decode cX10_same 8 = .ok (.aload_n 0, 1) := by decide +kernel
theorem dX10_same_9 : decode cX10_same 9 = .ok (.iload_n 2, 1) := by decide +kernel
theorem dX10_same_10 : decode cX10_same 10 = .ok (.invokevirtual 191, 3) := by decide +kernel
theorem dX10_same_13 : decode cX10_same 13 = .ok (.ifCond .ne 5, 3) := by decide +kernel
theorem dX10_same_16 : decode cX10_same 16 = .ok (.iconst (-1), 1) := by decide +kernel
theorem dX10_same_17 : decode cX10_same 17 = .ok (.ireturn, 1) := by decide +kernel
theorem dX10_same_18 : decode cX10_same 18 = .ok (.iconst 0, 1) := by decide +kernel
theorem dX10_same_19 : decode cX10_same 19 = .ok (.istore_n 3, 1) := by decide +kernel
theorem dX10_same_20 : decode cX10_same 20 = .ok (.iload_n 3, 1) := by decide +kernel
theorem dX10_same_21 : decode cX10_same 21 = .ok (.aload_n 0, 1) := by decide +kernel
theorem dX10_same_22 : decode cX10_same 22 = .ok (.getfield 13, 3) := by decide +kernel
theorem dX10_same_25 : decode cX10_same 25 = .ok (.if_icmp .gt 26, 3) := by decide +kernel
theorem dX10_same_28 : decode cX10_same 28 = .ok (.aload_n 0, 1) := by decide +kernel
theorem dX10_same_29 : decode cX10_same 29 = .ok (.iload_n 1, 1) := by decide +kernel
theorem dX10_same_30 : decode cX10_same 30 = .ok (.iload_n 3, 1) := by decide +kernel
theorem dX10_same_31 : decode cX10_same 31 = .ok (.invokevirtual 100, 3) := by decide +kernel
theorem dX10_same_34 : decode cX10_same 34 = .ok (.aload_n 0, 1) := by decide +kernel
theorem dX10_same_35 : decode cX10_same 35 = .ok (.iload_n 2, 1) := by decide +kernel
theorem dX10_same_36 : decode cX10_same 36 = .ok (.iload_n 3, 1) := by decide +kernel
theorem dX10_same_37 : decode cX10_same 37 = .ok (.invokevirtual 100, 3) := by decide +kernel
theorem dX10_same_40 : decode cX10_same 40 = .ok (.if_icmp .eq 5, 3) := by decide +kernel
theorem dX10_same_43 : decode cX10_same 43 = .ok (.iconst 0, 1) := by decide +kernel
theorem dX10_same_44 : decode cX10_same 44 = .ok (.ireturn, 1) := by decide +kernel
theorem dX10_same_45 : decode cX10_same 45 = .ok (.iinc 3 1, 3) := by decide +kernel
theorem dX10_same_48 : decode cX10_same 48 = .ok (.goto (-28), 3) := by decide +kernel
theorem dX10_same_51 : decode cX10_same 51 = .ok (.iconst 1, 1) := by decide +kernel
theorem dX10_same_52 : decode cX10_same 52 = .ok (.ireturn, 1) := by decide +kernel
theorem dX10_count_0 : decode cX10_count 0 = .ok (.iload_n 1, 1) := by decide +kernel
theorem dX10_count_1 : decode cX10_count 1 = .ok (.tableswitch 85 0 3 #[31, 36, 41, 76], 31) := by decide +kernel
theorem dX10_count_32 : decode cX10_count 32 = .ok (.aload_n 0, 1) := by decide +kernel
theorem dX10_count_33 : decode cX10_count 33 = .ok (.getfield 7, 3) := by decide +kernel
theorem dX10_count_36 : decode cX10_count 36 = .ok (.ireturn, 1) := by decide +kernel
theorem dX10_count_37 : decode cX10_count 37 = .ok (.aload_n 0, 1) := by decide +kernel
theorem dX10_count_38 : decode cX10_count 38 = .ok (.getfield 85, 3) := by decide +kernel
theorem dX10_count_41 : decode cX10_count 41 = .ok (.ireturn, 1) := by decide +kernel
theorem dX10_count_42 : decode cX10_count 42 = .ok (.iconst 0, 1) := by decide +kernel
theorem dX10_count_43 : decode cX10_count 43 = .ok (.istore_n 2, 1) := by decide +kernel
theorem dX10_count_44 : decode cX10_count 44 = .ok (.iconst 0, 1) := by decide +kernel
theorem dX10_count_45 : decode cX10_count 45 = .ok (.istore_n 3, 1) := by decide +kernel
theorem dX10_count_46 : decode cX10_count 46 = .ok (.iload_n 3, 1) := by decide +kernel
theorem dX10_count_47 : decode cX10_count 47 = .ok (.bipush 10, 2) := by decide +kernel
theorem dX10_count_49 : decode cX10_count 49 = .ok (.if_icmp .ge 26, 3) := by decide +kernel
theorem dX10_count_52 : decode cX10_count 52 = .ok (.iload_n 2, 1) := by decide +kernel
theorem dX10_count_53 : decode cX10_count 53 = .ok (.aload_n 0, 1) := by decide +kernel
theorem dX10_count_54 : decode cX10_count 54 = .ok (.getfield 44, 3) := by decide +kernel
theorem dX10_count_57 : decode cX10_count 57 = .ok (.iload_n 3, 1) := by decide +kernel
theorem dX10_count_58 : decode cX10_count 58 = .ok (.iaload, 1) := by decide +kernel
theorem dX10_count_59 : decode cX10_count 59 = .ok (.ifCond .ne 7, 3) := by decide +kernel
theorem dX10_count_62 : decode cX10_count 62 = .ok (.iconst 0, 1) := by decide +kernel
theorem dX10_count_63 : decode cX10_count 63 = .ok (.goto 4, 3) := by decide +kernel
theorem dX10_count_66 : decode cX10_count 66 = .ok (.iconst 1, 1) := by decide +kernel
theorem dX10_count_67 : decode cX10_count 67 = .ok (.iadd, 1) := by decide +kernel
theorem dX10_count_68 : decode cX10_count 68 = .ok (.istore_n 2, 1) := by decide +kernel
theorem dX10_count_69 : decode cX10_count 69 = .ok (.iinc 3 1, 3) := by decide +kernel
theorem dX10_count_72 : decode cX10_count 72 = .ok (.goto (-26), 3) := by decide +kernel
theorem dX10_count_75 : decode cX10_count 75 = .ok (.iload_n 2, 1) := by decide +kernel
theorem dX10_count_76 : decode cX10_count 76 = .ok (.ireturn, 1) := by decide +kernel
theorem dX10_count_77 : decode cX10_count 77 = .ok (.aload_n 0, 1) := by decide +kernel
theorem dX10_count_78 : decode cX10_count 78 = .ok (.aload_n 0, 1) := by decide +kernel
theorem dX10_count_79 : decode cX10_count 79 = .ok (.getfield 13, 3) := by decide +kernel
theorem dX10_count_82 : decode cX10_count 82 = .ok (.invokevirtual 204, 3) := by decide +kernel
theorem dX10_count_85 : decode cX10_count 85 = .ok (.ireturn, 1) := by decide +kernel
theorem dX10_count_86 : decode cX10_count 86 = .ok (.iconst (-1), 1) := by decide +kernel
theorem dX10_count_87 : decode cX10_count 87 = .ok (.ireturn, 1) := by decide +kernel
theorem dJ6_bitCount_0f7a4_0 : decode cJ6_bitCount_0f7a4 0 = .ok (.iload_n 0, 1) := by decide +kernel
theorem dJ6_bitCount_0f7a4_1 : decode cJ6_bitCount_0f7a4 1 = .ok (.iload_n 0, 1) := by decide +kernel
theorem dJ6_bitCount_0f7a4_2 : decode cJ6_bitCount_0f7a4 2 = .ok (.iconst 1, 1) := by decide +kernel
theorem dJ6_bitCount_0f7a4_3 : decode cJ6_bitCount_0f7a4 3 = .ok (.iushr, 1) := by decide +kernel
theorem dJ6_bitCount_0f7a4_4 : decode cJ6_bitCount_0f7a4 4 = .ok (.ldc_w 265, 3) := by decide +kernel
theorem dJ6_bitCount_0f7a4_7 : decode cJ6_bitCount_0f7a4 7 = .ok (.iand, 1) := by decide +kernel
theorem dJ6_bitCount_0f7a4_8 : decode cJ6_bitCount_0f7a4 8 = .ok (.isub, 1) := by decide +kernel
theorem dJ6_bitCount_0f7a4_9 : decode cJ6_bitCount_0f7a4 9 = .ok (.istore_n 0, 1) := by decide +kernel
theorem dJ6_bitCount_0f7a4_10 : decode cJ6_bitCount_0f7a4 10 = .ok (.iload_n 0, 1) := by decide +kernel
theorem dJ6_bitCount_0f7a4_11 : decode cJ6_bitCount_0f7a4 11 = .ok (.ldc_w 266, 3) := by decide +kernel
theorem dJ6_bitCount_0f7a4_14 : decode cJ6_bitCount_0f7a4 14 = .ok (.iand, 1) := by decide +kernel
theorem dJ6_bitCount_0f7a4_15 : decode cJ6_bitCount_0f7a4 15 = .ok (.iload_n 0, 1) := by decide +kernel
theorem dJ6_bitCount_0f7a4_16 : decode cJ6_bitCount_0f7a4 16 = .ok (.iconst 2, 1) := by decide +kernel
theorem dJ6_bitCount_0f7a4_17 : decode cJ6_bitCount_0f7a4 17 = .ok (.iushr, 1) := by decide +kernel
theorem dJ6_bitCount_0f7a4_18 : decode cJ6_bitCount_0f7a4 18 = .ok (.ldc_w 266, 3) := by decide +kernel
theorem dJ6_bitCount_0f7a4_21 : decode cJ6_bitCount_0f7a4 21 = .ok (.iand, 1) := by decide +kernel
theorem dJ6_bitCount_0f7a4_22 : decode cJ6_bitCount_0f7a4 22 = .ok (.iadd, 1) := by decide +kernel
theorem dJ6_bitCount_0f7a4_23 : decode cJ6_bitCount_0f7a4 23 = .ok (.istore_n 0, 1) := by decide +kernel
theorem dJ6_bitCount_0f7a4_24 : decode cJ6_bitCount_0f7a4 24 = .ok (.iload_n 0, 1) := by decide +kernel
theorem dJ6_bitCount_0f7a4_25 : decode cJ6_bitCount_0f7a4 25 = .ok (.iload_n 0, 1) := by decide +kernel
theorem dJ6_bitCount_0f7a4_26 : decode cJ6_bitCount_0f7a4 26 = .ok (.iconst 4, 1) := by decide +kernel
theorem dJ6_bitCount_0f7a4_27 : decode cJ6_bitCount_0f7a4 27 = .ok (.iushr, 1) := by decide +kernel
theorem dJ6_bitCount_0f7a4_28 : decode cJ6_bitCount_0f7a4 28 = .ok (.iadd, 1) := by decide +kernel
theorem dJ6_bitCount_0f7a4_29 : decode cJ6_bitCount_0f7a4 29 = .ok (.ldc_w 267, 3) := by decide +kernel
theorem dJ6_bitCount_0f7a4_32 : decode cJ6_bitCount_0f7a4 32 = .ok (.iand, 1) := by decide +kernel
theorem dJ6_bitCount_0f7a4_33 : decode cJ6_bitCount_0f7a4 33 = .ok (.istore_n 0, 1) := by decide +kernel
theorem dJ6_bitCount_0f7a4_34 : decode cJ6_bitCount_0f7a4 34 = .ok (.iload_n 0, 1) := by decide +kernel
theorem dJ6_bitCount_0f7a4_35 : decode cJ6_bitCount_0f7a4 35 = .ok (.iload_n 0, 1) := by decide +kernel
theorem dJ6_bitCount_0f7a4_36 : decode cJ6_bitCount_0f7a4 36 = .ok (.bipush 8, 2) := by decide +kernel
theorem dJ6_bitCount_0f7a4_38 : decode cJ6_bitCount_0f7a4 38 = .ok (.iushr, 1) := by decide +kernel
theorem dJ6_bitCount_0f7a4_39 : decode cJ6_bitCount_0f7a4 39 = .ok (.iadd, 1) := by decide +kernel
theorem dJ6_bitCount_0f7a4_40 : decode cJ6_bitCount_0f7a4 40 = .ok (.istore_n 0, 1) := by decide +kernel
theorem dJ6_bitCount_0f7a4_41 : decode cJ6_bitCount_0f7a4 41 = .ok (.iload_n 0, 1) := by decide +kernel
theorem dJ6_bitCount_0f7a4_42 : decode cJ6_bitCount_0f7a4 42 = .ok (.iload_n 0, 1) := by decide +kernel
theorem dJ6_bitCount_0f7a4_43 : decode cJ6_bitCount_0f7a4 43 = .ok (.bipush 16, 2) := by decide +kernel
theorem dJ6_bitCount_0f7a4_45 : decode cJ6_bitCount_0f7a4 45 = .ok (.iushr, 1) := by decide +kernel
theorem dJ6_bitCount_0f7a4_46 : decode cJ6_bitCount_0f7a4 46 = .ok (.iadd, 1) := by decide +kernel
theorem dJ6_bitCount_0f7a4_47 : decode cJ6_bitCount_0f7a4 47 = .ok (.istore_n 0, 1) := by decide +kernel
theorem dJ6_bitCount_0f7a4_48 : decode cJ6_bitCount_0f7a4 48 = .ok (.iload_n 0, 1) := by decide +kernel
theorem dJ6_bitCount_0f7a4_49 : decode cJ6_bitCount_0f7a4 49 = .ok (.bipush 63, 2) := by decide +kernel
theorem dJ6_bitCount_0f7a4_51 : decode cJ6_bitCount_0f7a4 51 = .ok (.iand, 1) := by decide +kernel
theorem dJ6_bitCount_0f7a4_52 : decode cJ6_bitCount_0f7a4 52 = .ok (.ireturn, 1) := by decide +kernel
theorem dJ9_floorMod_7cf53_0 : decode cJ9_floorMod_7cf53 0 = .ok (.iload_n 0, 1) := by decide +kernel
theorem dJ9_floorMod_7cf53_1 : decode cJ9_floorMod_7cf53 1 = .ok (.iload_n 1, 1) := by decide +kernel
theorem dJ9_floorMod_7cf53_2 : decode cJ9_floorMod_7cf53 2 = .ok (.irem, 1) := by decide +kernel
theorem dJ9_floorMod_7cf53_3 : decode cJ9_floorMod_7cf53 3 = .ok (.istore_n 2, 1) := by decide +kernel
theorem dJ9_floorMod_7cf53_4 : decode cJ9_floorMod_7cf53 4 = .ok (.iload_n 0, 1) := by decide +kernel
theorem dJ9_floorMod_7cf53_5 : decode cJ9_floorMod_7cf53 5 = .ok (.iload_n 1, 1) := by decide +kernel
theorem dJ9_floorMod_7cf53_6 : decode cJ9_floorMod_7cf53 6 = .ok (.ixor, 1) := by decide +kernel
theorem dJ9_floorMod_7cf53_7 : decode cJ9_floorMod_7cf53 7 = .ok (.ifCond .ge 11, 3) := by decide +kernel
theorem dJ9_floorMod_7cf53_10 : decode cJ9_floorMod_7cf53 10 = .ok (.iload_n 2, 1) := by decide +kernel
theorem dJ9_floorMod_7cf53_11 : decode cJ9_floorMod_7cf53 11 = .ok (.ifCond .eq 7, 3) := by decide +kernel
theorem dJ9_floorMod_7cf53_14 : decode cJ9_floorMod_7cf53 14 = .ok (.iload_n 2, 1) := by decide +kernel
theorem dJ9_floorMod_7cf53_15 : decode cJ9_floorMod_7cf53 15 = .ok (.iload_n 1, 1) := by decide +kernel
theorem dJ9_floorMod_7cf53_16 : decode cJ9_floorMod_7cf53 16 = .ok (.iadd, 1) := by decide +kernel
theorem dJ9_floorMod_7cf53_17 : decode cJ9_floorMod_7cf53 17 = .ok (.ireturn, 1) := by decide +kernel
theorem dJ9_floorMod_7cf53_18 : decode cJ9_floorMod_7cf53 18 = .ok (.iload_n 2, 1) := by decide +kernel
theorem dJ9_floorMod_7cf53_19 : decode cJ9_floorMod_7cf53 19 = .ok (.ireturn, 1) := by decide +kernel
theorem dJ9_max_7cf53_0 : decode cJ9_max_7cf53 0 = .ok (.iload_n 0, 1) := by decide +kernel
theorem dJ9_max_7cf53_1 : decode cJ9_max_7cf53 1 = .ok (.iload_n 1, 1) := by decide +kernel
theorem dJ9_max_7cf53_2 : decode cJ9_max_7cf53 2 = .ok (.if_icmp .lt 7, 3) := by decide +kernel
theorem dJ9_max_7cf53_5 : decode cJ9_max_7cf53 5 = .ok (.iload_n 0, 1) := by decide +kernel
theorem dJ9_max_7cf53_6 : decode cJ9_max_7cf53 6 = .ok (.goto 4, 3) := by decide +kernel
theorem dJ9_max_7cf53_9 : decode cJ9_max_7cf53 9 = .ok (.iload_n 1, 1) := by decide +kernel
theorem dJ9_max_7cf53_10 : decode cJ9_max_7cf53 10 = .ok (.ireturn, 1) := by decide +kernel
theorem dJ9_min_7cf53_0 : decode cJ9_min_7cf53 0 = .ok (.iload_n 0, 1) := by decide +kernel
theorem dJ9_min_7cf53_1 : decode cJ9_min_7cf53 1 = .ok (.iload_n 1, 1) := by decide +kernel
theorem dJ9_min_7cf53_2 : decode cJ9_min_7cf53 2 = .ok (.if_icmp .gt 7, 3) := by decide +kernel
theorem dJ9_min_7cf53_5 : decode cJ9_min_7cf53 5 = .ok (.iload_n 0, 1) := by decide +kernel
theorem dJ9_min_7cf53_6 : decode cJ9_min_7cf53 6 = .ok (.goto 4, 3) := by decide +kernel
theorem dJ9_min_7cf53_9 : decode cJ9_min_7cf53 9 = .ok (.iload_n 1, 1) := by decide +kernel
theorem dJ9_min_7cf53_10 : decode cJ9_min_7cf53 10 = .ok (.ireturn, 1) := by decide +kernel
theorem dL_law_0 : decode cL_law 0 = .ok (.new 7, 3) := by decide +kernel
theorem dL_law_3 : decode cL_law 3 = .ok (.dup, 1) := by decide +kernel
theorem dL_law_4 : decode cL_law 4 = .ok (.invokespecial 9, 3) := by decide +kernel
theorem dL_law_7 : decode cL_law 7 = .ok (.astore_n 1, 1) := by decide +kernel
theorem dL_law_8 : decode cL_law 8 = .ok (.new 10, 3) := by decide +kernel
theorem dL_law_11 : decode cL_law 11 = .ok (.dup, 1) := by decide +kernel
theorem dL_law_12 : decode cL_law 12 = .ok (.invokespecial 12, 3) := by decide +kernel
theorem dL_law_15 : decode cL_law 15 = .ok (.astore_n 2, 1) := by decide +kernel
theorem dL_law_16 : decode cL_law 16 = .ok (.iconst 0, 1) := by decide +kernel
theorem dL_law_17 : decode cL_law 17 = .ok (.istore_n 3, 1) := by decide +kernel
theorem dL_law_18 : decode cL_law 18 = .ok (.iload_n 3, 1) := by decide +kernel
theorem dL_law_19 : decode cL_law 19 = .ok (.aload_n 0, 1) := by decide +kernel
theorem dL_law_20 : decode cL_law 20 = .ok (.arraylength, 1) := by decide +kernel
theorem dL_law_21 : decode cL_law 21 = .ok (.bipush 6, 2) := by decide +kernel
theorem dL_law_23 : decode cL_law 23 = .ok (.isub, 1) := by decide +kernel
theorem dL_law_24 : decode cL_law 24 = .ok (.if_icmp .gt 1187, 3) := by decide +kernel
theorem dL_law_27 : decode cL_law 27 = .ok (.aload_n 0, 1) := by decide +kernel
theorem dL_law_28 : decode cL_law 28 = .ok (.iload_n 3, 1) := by decide +kernel
theorem dL_law_29 : decode cL_law 29 = .ok (.iaload, 1) := by decide +kernel
theorem dL_law_30 : decode cL_law 30 = .ok (.bipush 31, 2) := by decide +kernel
theorem dL_law_32 : decode cL_law 32 = .ok (.iand, 1) := by decide +kernel
theorem dL_law_33 : decode cL_law 33 = .ok (.tableswitch 1172 0 29 #[135, 158, 191, 234, 257, 330, 364, 427, 460, 493, 526, 549, 582, 605, 638, 671, 704, 737, 770, 813, 862, 895, 928, 971, 1014, 1037, 1070, 1093, 1116, 1149], 135) := by decide +kernel
theorem dL_law_168 : decode cL_law 168 = .ok (.aload_n 1, 1) := by decide +kernel
theorem dL_law_169 : decode cL_law 169 = .ok (.aload_n 0, 1) := by decide +kernel
theorem dL_law_170 : decode cL_law 170 = .ok (.iload_n 3, 1) := by decide +kernel
theorem dL_law_171 : decode cL_law 171 = .ok (.iconst 1, 1) := by decide +kernel
theorem dL_law_172 : decode cL_law 172 = .ok (.iadd, 1) := by decide +kernel
theorem dL_law_173 : decode cL_law 173 = .ok (.iaload, 1) := by decide +kernel
theorem dL_law_174 : decode cL_law 174 = .ok (.invokevirtual 13, 3) := by decide +kernel
theorem dL_law_177 : decode cL_law 177 = .ok (.aload_n 2, 1) := by decide +kernel
theorem dL_law_178 : decode cL_law 178 = .ok (.aload_n 0, 1) := by decide +kernel
theorem dL_law_179 : decode cL_law 179 = .ok (.iload_n 3, 1) := by decide +kernel
theorem dL_law_180 : decode cL_law 180 = .ok (.iconst 1, 1) := by decide +kernel
theorem dL_law_181 : decode cL_law 181 = .ok (.iadd, 1) := by decide +kernel
theorem dL_law_182 : decode cL_law 182 = .ok (.iaload, 1) := by decide +kernel
theorem dL_law_183 : decode cL_law 183 = .ok (.invokevirtual 17, 3) := by decide +kernel
theorem dL_law_186 : decode cL_law 186 = .ok (.if_icmp .eq 1019, 3) := by decide +kernel
theorem dL_law_189 : decode cL_law 189 = .ok (.iconst 0, 1) := by decide +kernel
theorem dL_law_190 : decode cL_law 190 = .ok (.ireturn, 1) := by decide +kernel
theorem dL_law_191 : decode cL_law 191 = .ok (.aload_n 1, 1) := by decide +kernel
theorem dL_law_192 : decode cL_law 192 = .ok (.aload_n 0, 1) := by decide +kernel
theorem dL_law_193 : decode cL_law 193 = .ok (.iload_n 3, 1) := by decide +kernel
theorem dL_law_194 : decode cL_law 194 = .ok (.iconst 1, 1) := by decide +kernel
theorem dL_law_195 : decode cL_law 195 = .ok (.iadd, 1) := by decide +kernel
theorem dL_law_196 : decode cL_law 196 = .ok (.iaload, 1) := by decide +kernel
theorem dL_law_197 : decode cL_law 197 = .ok (.aload_n 0, 1) := by decide +kernel
theorem dL_law_198 : decode cL_law 198 = .ok (.iload_n 3, 1) := by decide +kernel
theorem dL_law_199 : decode cL_law 199 = .ok (.iconst 2, 1) := by decide +kernel
theorem dL_law_200 : decode cL_law 200 = .ok (.iadd, 1) := by decide +kernel
theorem dL_law_201 : decode cL_law 201 = .ok (.iaload, 1) := by decide +kernel
theorem dL_law_202 : decode cL_law 202 = .ok (.invokevirtual 18, 3) := by decide +kernel
theorem dL_law_205 : decode cL_law 205 = .ok (.aload_n 2, 1) := by decide +kernel
theorem dL_law_206 : decode cL_law 206 = .ok (.aload_n 0, 1) := by decide +kernel
theorem dL_law_207 : decode cL_law 207 = .ok (.iload_n 3, 1) := by decide +kernel
theorem dL_law_208 : decode cL_law 208 = .ok (.iconst 1, 1) := by decide +kernel
theorem dL_law_209 : decode cL_law 209 = .ok (.iadd, 1) := by decide +kernel
theorem dL_law_210 : decode cL_law 210 = .ok (.iaload, 1) := by decide +kernel
theorem dL_law_211 : decode cL_law 211 = .ok (.aload_n 0, 1) := by decide +kernel
theorem dL_law_212 : decode cL_law 212 = .ok (.iload_n 3, 1) := by decide +kernel
theorem dL_law_213 : decode cL_law 213 = .ok (.iconst 2, 1) := by decide +kernel
theorem dL_law_214 : decode cL_law 214 = .ok (.iadd, 1) := by decide +kernel
theorem dL_law_215 : decode cL_law 215 = .ok (.iaload, 1) := by decide +kernel
theorem dL_law_216 : decode cL_law 216 = .ok (.invokevirtual 22, 3) := by decide +kernel
theorem dL_law_219 : decode cL_law 219 = .ok (.if_icmp .eq 986, 3) := by decide +kernel
theorem dL_law_222 : decode cL_law 222 = .ok (.iconst 0, 1) := by decide +kernel
theorem dL_law_223 : decode cL_law 223 = .ok (.ireturn, 1) := by decide +kernel
theorem dL_law_224 : decode cL_law 224 = .ok (.aload_n 1, 1) := by decide +kernel
theorem dL_law_225 : decode cL_law 225 = .ok (.aload_n 0, 1) := by decide +kernel
theorem dL_law_226 : decode cL_law 226 = .ok (.iload_n 3, 1) := by decide +kernel
theorem dL_law_227 : decode cL_law 227 = .ok (.iconst 1, 1) := by decide +kernel
theorem dL_law_228 : decode cL_law 228 = .ok (.iadd, 1) := by decide +kernel
theorem dL_law_229 : decode cL_law 229 = .ok (.iaload, 1) := by decide +kernel
theorem dL_law_230 : decode cL_law 230 = .ok (.aload_n 0, 1) := by decide +kernel
theorem dL_law_231 : decode cL_law 231 = .ok (.iload_n 3, 1) := by decide +kernel
theorem dL_law_232 : decode cL_law 232 = .ok (.iconst 2, 1) := by decide +kernel
theorem dL_law_233 : decode cL_law 233 = .ok (.iadd, 1) := by decide +kernel
theorem dL_law_234 : decode cL_law 234 = .ok (.iaload, 1) := by decide +kernel
theorem dL_law_235 : decode cL_law 235 = .ok (.aload_n 0, 1) := by decide +kernel
theorem dL_law_236 : decode cL_law 236 = .ok (.iload_n 3, 1) := by decide +kernel
theorem dL_law_237 : decode cL_law 237 = .ok (.iconst 3, 1) := by decide +kernel
theorem dL_law_238 : decode cL_law 238 = .ok (.iadd, 1) := by decide +kernel
theorem dL_law_239 : decode cL_law 239 = .ok (.iaload, 1) := by decide +kernel
theorem dL_law_240 : decode cL_law 240 = .ok (.invokevirtual 23, 3) := by decide +kernel
theorem dL_law_243 : decode cL_law 243 = .ok (.aload_n 2, 1) := by decide +kernel
theorem dL_law_244 : decode cL_law 244 = .ok (.aload_n 0, 1) := by decide +kernel
theorem dL_law_245 : decode cL_law 245 = .ok (.iload_n 3, 1) := by decide +kernel
theorem dL_law_246 : decode cL_law 246 = .ok (.iconst 1, 1) := by decide +kernel
theorem dL_law_247 : decode cL_law 247 = .ok (.iadd, 1) := by decide +kernel
theorem dL_law_248 : decode cL_law 248 = .ok (.iaload, 1) := by decide +kernel
theorem dL_law_249 : decode cL_law 249 = .ok (.aload_n 0, 1) := by decide +kernel
theorem dL_law_250 : decode cL_law 250 = .ok (.iload_n 3, 1) := by decide +kernel
theorem dL_law_251 : decode cL_law 251 = .ok (.iconst 2, 1) := by decide +kernel
theorem dL_law_252 : decode cL_law 252 = .ok (.iadd, 1) := by decide +kernel
theorem dL_law_253 : decode cL_law 253 = .ok (.iaload, 1) := by decide +kernel
theorem dL_law_254 : decode cL_law 254 = .ok (.aload_n 0, 1) := by decide +kernel
theorem dL_law_255 : decode cL_law 255 = .ok (.iload_n 3, 1) := by decide +kernel
theorem dL_law_256 : decode cL_law 256 = .ok (.iconst 3, 1) := by decide +kernel
theorem dL_law_257 : decode cL_law 257 = .ok (.iadd, 1) := by decide +kernel
theorem dL_law_258 : decode cL_law 258 = .ok (.iaload, 1) := by decide +kernel
theorem dL_law_259 : decode cL_law 259 = .ok (.invokevirtual 27, 3) := by decide +kernel
theorem dL_law_262 : decode cL_law 262 = .ok (.if_icmp .eq 943, 3) := by decide +kernel
theorem dL_law_265 : decode cL_law 265 = .ok (.iconst 0, 1) := by decide +kernel
theorem dL_law_266 : decode cL_law 266 = .ok (.ireturn, 1) := by decide +kernel
theorem dL_law_267 : decode cL_law 267 = .ok (.aload_n 1, 1) := by decide +kernel
theorem dL_law_268 : decode cL_law 268 = .ok (.aload_n 0, 1) := by decide +kernel
theorem dL_law_269 : decode cL_law 269 = .ok (.iload_n 3, 1) := by decide +kernel
theorem dL_law_270 : decode cL_law 270 = .ok (.iconst 1, 1) := by decide +kernel
theorem dL_law_271 : decode cL_law 271 = .ok (.iadd, 1) := by decide +kernel
theorem dL_law_272 : decode cL_law 272 = .ok (.iaload, 1) := by decide +kernel
theorem dL_law_273 : decode cL_law 273 = .ok (.invokevirtual 28, 3) := by decide +kernel
theorem dL_law_276 : decode cL_law 276 = .ok (.aload_n 2, 1) := by decide +kernel
theorem dL_law_277 : decode cL_law 277 = .ok (.aload_n 0, 1) := by decide +kernel
theorem dL_law_278 : decode cL_law 278 = .ok (.iload_n 3, 1) := by decide +kernel
theorem dL_law_279 : decode cL_law 279 = .ok (.iconst 1, 1) := by decide +kernel
theorem dL_law_280 : decode cL_law 280 = .ok (.iadd, 1) := by decide +kernel
theorem dL_law_281 : decode cL_law 281 = .ok (.iaload, 1) := by decide +kernel
theorem dL_law_282 : decode cL_law 282 = .ok (.invokevirtual 31, 3) := by decide +kernel
theorem dL_law_285 : decode cL_law 285 = .ok (.if_icmp .eq 920, 3) := by decide +kernel
theorem dL_law_288 : decode cL_law 288 = .ok (.iconst 0, 1) := by decide +kernel
theorem dL_law_289 : decode cL_law 289 = .ok (.ireturn, 1) := by decide +kernel
theorem dL_law_290 : decode cL_law 290 = .ok (.aload_n 1, 1) := by decide +kernel
theorem dL_law_291 : decode cL_law 291 = .ok (.aload_n 0, 1) := by decide +kernel
theorem dL_law_292 : decode cL_law 292 = .ok (.iload_n 3, 1) := by decide +kernel
theorem dL_law_293 : decode cL_law 293 = .ok (.iconst 1, 1) := by decide +kernel
theorem dL_law_294 : decode cL_law 294 = .ok (.iadd, 1) := by decide +kernel
theorem dL_law_295 : decode cL_law 295 = .ok (.iaload, 1) := by decide +kernel
theorem dL_law_296 : decode cL_law 296 = .ok (.aload_n 0, 1) := by decide +kernel
theorem dL_law_297 : decode cL_law 297 = .ok (.iload_n 3, 1) := by decide +kernel
theorem dL_law_298 : decode cL_law 298 = .ok (.iconst 2, 1) := by decide +kernel
theorem dL_law_299 : decode cL_law 299 = .ok (.iadd, 1) := by decide +kernel
theorem dL_law_300 : decode cL_law 300 = .ok (.iaload, 1) := by decide +kernel
theorem dL_law_301 : decode cL_law 301 = .ok (.aload_n 0, 1) := by decide +kernel
theorem dL_law_302 : decode cL_law 302 = .ok (.iload_n 3, 1) := by decide +kernel
theorem dL_law_303 : decode cL_law 303 = .ok (.iconst 3, 1) := by decide +kernel
theorem dL_law_304 : decode cL_law 304 = .ok (.iadd, 1) := by decide +kernel
theorem dL_law_305 : decode cL_law 305 = .ok (.iaload, 1) := by decide +kernel
theorem dL_law_306 : decode cL_law 306 = .ok (.i2l, 1) := by decide +kernel
theorem dL_law_307 : decode cL_law 307 = .ok (.bipush 32, 2) := by decide +kernel
theorem dL_law_309 : decode cL_law 309 = .ok (.lshl, 1) := by decide +kernel
theorem dL_law_310 : decode cL_law 310 = .ok (.aload_n 0, 1) := by decide +kernel
theorem dL_law_311 : decode cL_law 311 = .ok (.iload_n 3, 1) := by decide +kernel
theorem dL_law_312 : decode cL_law 312 = .ok (.iconst 4, 1) := by decide +kernel
theorem dL_law_313 : decode cL_law 313 = .ok (.iadd, 1) := by decide +kernel
theorem dL_law_314 : decode cL_law 314 = .ok (.iaload, 1) := by decide +kernel
theorem dL_law_315 : decode cL_law 315 = .ok (.i2l, 1) := by decide +kernel
theorem dL_law_316 : decode cL_law 316 = .ok (.ldc2_w 32, 3) := by decide +kernel
theorem dL_law_319 : decode cL_law 319 = .ok (.land, 1) := by decide +kernel
theorem dL_law_320 : decode cL_law 320 = .ok (.lor, 1) := by decide +kernel
theorem dL_law_321 : decode cL_law 321 = .ok (.invokevirtual 34, 3) := by decide +kernel
theorem dL_law_324 : decode cL_law 324 = .ok (.aload_n 2, 1) := by decide +kernel
theorem dL_law_325 : decode cL_law 325 = .ok (.aload_n 0, 1) := by decide +kernel
theorem dL_law_326 : decode cL_law 326 = .ok (.iload_n 3, 1) := by decide +kernel
theorem dL_law_327 : decode cL_law 327 = .ok (.iconst 1, 1) := by decide +kernel
theorem dL_law_328 : decode cL_law 328 = .ok (.iadd, 1) := by decide +kernel
theorem dL_law_329 : decode cL_law 329 = .ok (.iaload, 1) := by decide +kernel
theorem dL_law_330 : decode cL_law 330 = .ok (.aload_n 0, 1) := by decide +kernel
theorem dL_law_331 : decode cL_law 331 = .ok (.iload_n 3, 1) := by decide +kernel
theorem dL_law_332 : decode cL_law 332 = .ok (.iconst 2, 1) := by decide +kernel
theorem dL_law_333 : decode cL_law 333 = .ok (.iadd, 1) := by decide +kernel
theorem dL_law_334 : decode cL_law 334 = .ok (.iaload, 1) := by decide +kernel
theorem dL_law_335 : decode cL_law 335 = .ok (.aload_n 0, 1) := by decide +kernel
theorem dL_law_336 : decode cL_law 336 = .ok (.iload_n 3, 1) := by decide +kernel
theorem dL_law_337 : decode cL_law 337 = .ok (.iconst 3, 1) := by decide +kernel
theorem dL_law_338 : decode cL_law 338 = .ok (.iadd, 1) := by decide +kernel
theorem dL_law_339 : decode cL_law 339 = .ok (.iaload, 1) := by decide +kernel
theorem dL_law_340 : decode cL_law 340 = .ok (.i2l, 1) := by decide +kernel
theorem dL_law_341 : decode cL_law 341 = .ok (.bipush 32, 2) := by decide +kernel
theorem dL_law_343 : decode cL_law 343 = .ok (.lshl, 1) := by decide +kernel
theorem dL_law_344 : decode cL_law 344 = .ok (.aload_n 0, 1) := by decide +kernel
theorem dL_law_345 : decode cL_law 345 = .ok (.iload_n 3, 1) := by decide +kernel
theorem dL_law_346 : decode cL_law 346 = .ok (.iconst 4, 1) := by decide +kernel
theorem dL_law_347 : decode cL_law 347 = .ok (.iadd, 1) := by decide +kernel
theorem dL_law_348 : decode cL_law 348 = .ok (.iaload, 1) := by decide +kernel
theorem dL_law_349 : decode cL_law 349 = .ok (.i2l, 1) := by decide +kernel
theorem dL_law_350 : decode cL_law 350 = .ok (.ldc2_w 32, 3) := by decide +kernel
theorem dL_law_353 : decode cL_law 353 = .ok (.land, 1) := by decide +kernel
theorem dL_law_354 : decode cL_law 354 = .ok (.lor, 1) := by decide +kernel
theorem dL_law_355 : decode cL_law 355 = .ok (.invokevirtual 38, 3) := by decide +kernel
theorem dL_law_358 : decode cL_law 358 = .ok (.if_icmp .eq 847, 3) := by decide +kernel
theorem dL_law_361 : decode cL_law 361 = .ok (.iconst 0, 1) := by decide +kernel
theorem dL_law_362 : decode cL_law 362 = .ok (.ireturn, 1) := by decide +kernel
theorem dL_law_363 : decode cL_law 363 = .ok (.aload_n 1, 1) := by decide +kernel
theorem dL_law_364 : decode cL_law 364 = .ok (.aload_n 0, 1) := by decide +kernel
theorem dL_law_365 : decode cL_law 365 = .ok (.iload_n 3, 1) := by decide +kernel
theorem dL_law_366 : decode cL_law 366 = .ok (.iconst 1, 1) := by decide +kernel
theorem dL_law_367 : decode cL_law 367 = .ok (.iadd, 1) := by decide +kernel
theorem dL_law_368 : decode cL_law 368 = .ok (.iaload, 1) := by decide +kernel
theorem dL_law_369 : decode cL_law 369 = .ok (.aload_n 0, 1) := by decide +kernel
theorem dL_law_370 : decode cL_law 370 = .ok (.iload_n 3, 1) := by decide +kernel
theorem dL_law_371 : decode cL_law 371 = .ok (.iconst 2, 1) := by decide +kernel
theorem dL_law_372 : decode cL_law 372 = .ok (.iadd, 1) := by decide +kernel
theorem dL_law_373 : decode cL_law 373 = .ok (.iaload, 1) := by decide +kernel
theorem dL_law_374 : decode cL_law 374 = .ok (.invokevirtual 39, 3) := by decide +kernel
theorem dL_law_377 : decode cL_law 377 = .ok (.aload_n 2, 1) := by decide +kernel
theorem dL_law_378 : decode cL_law 378 = .ok (.aload_n 0, 1) := by decide +kernel
theorem dL_law_379 : decode cL_law 379 = .ok (.iload_n 3, 1) := by decide +kernel
theorem dL_law_380 : decode cL_law 380 = .ok (.iconst 1, 1) := by decide +kernel
theorem dL_law_381 : decode cL_law 381 = .ok (.iadd, 1) := by decide +kernel
theorem dL_law_382 : decode cL_law 382 = .ok (.iaload, 1) := by decide +kernel
theorem dL_law_383 : decode cL_law 383 = .ok (.aload_n 0, 1) := by decide +kernel
theorem dL_law_384 : decode cL_law 384 = .ok (.iload_n 3, 1) := by decide +kernel
theorem dL_law_385 : decode cL_law 385 = .ok (.iconst 2, 1) := by decide +kernel
theorem dL_law_386 : decode cL_law 386 = .ok (.iadd, 1) := by decide +kernel
theorem dL_law_387 : decode cL_law 387 = .ok (.iaload, 1) := by decide +kernel
theorem dL_law_388 : decode cL_law 388 = .ok (.invokevirtual 43, 3) := by decide +kernel
theorem dL_law_391 : decode cL_law 391 = .ok (.lcmp, 1) := by decide +kernel
theorem dL_law_392 : decode cL_law 392 = .ok (.ifCond .eq 813, 3) := by decide +kernel
theorem dL_law_395 : decode cL_law 395 = .ok (.iconst 0, 1) := by decide +kernel
theorem dL_law_396 : decode cL_law 396 = .ok (.ireturn, 1) := by decide +kernel
theorem dL_law_397 : decode cL_law 397 = .ok (.aload_n 1, 1) := by decide +kernel
theorem dL_law_398 : decode cL_law 398 = .ok (.aload_n 0, 1) := by decide +kernel
theorem dL_law_399 : decode cL_law 399 = .ok (.iload_n 3, 1) := by decide +kernel
theorem dL_law_400 : decode cL_law 400 = .ok (.iconst 1, 1) := by decide +kernel
theorem dL_law_401 : decode cL_law 401 = .ok (.iadd, 1) := by decide +kernel
theorem dL_law_402 : decode cL_law 402 = .ok (.iaload, 1) := by decide +kernel
theorem dL_law_403 : decode cL_law 403 = .ok (.aload_n 0, 1) := by decide +kernel
theorem dL_law_404 : decode cL_law 404 = .ok (.iload_n 3, 1) := by decide +kernel
theorem dL_law_405 : decode cL_law 405 = .ok (.iconst 2, 1) := by decide +kernel
theorem dL_law_406 : decode cL_law 406 = .ok (.iadd, 1) := by decide +kernel
theorem dL_law_407 : decode cL_law 407 = .ok (.iaload, 1) := by decide +kernel
theorem dL_law_408 : decode cL_law 408 = .ok (.aload_n 0, 1) := by decide +kernel
theorem dL_law_409 : decode cL_law 409 = .ok (.iload_n 3, 1) := by decide +kernel
theorem dL_law_410 : decode cL_law 410 = .ok (.iconst 3, 1) := by decide +kernel
theorem dL_law_411 : decode cL_law 411 = .ok (.iadd, 1) := by decide +kernel
theorem dL_law_412 : decode cL_law 412 = .ok (.iaload, 1) := by decide +kernel
theorem dL_law_413 : decode cL_law 413 = .ok (.aload_n 0, 1) := by decide +kernel
theorem dL_law_414 : decode cL_law 414 = .ok (.iload_n 3, 1) := by decide +kernel
theorem dL_law_415 : decode cL_law 415 = .ok (.iconst 4, 1) := by decide +kernel
theorem dL_law_416 : decode cL_law 416 = .ok (.iadd, 1) := by decide +kernel
theorem dL_law_417 : decode cL_law 417 = .ok (.iaload, 1) := by decide +kernel
theorem dL_law_418 : decode cL_law 418 = .ok (.aload_n 0, 1) := by decide +kernel
theorem dL_law_419 : decode cL_law 419 = .ok (.iload_n 3, 1) := by decide +kernel
theorem dL_law_420 : decode cL_law 420 = .ok (.iconst 5, 1) := by decide +kernel
theorem dL_law_421 : decode cL_law 421 = .ok (.iadd, 1) := by decide +kernel
theorem dL_law_422 : decode cL_law 422 = .ok (.iaload, 1) := by decide +kernel
theorem dL_law_423 : decode cL_law 423 = .ok (.invokevirtual 44, 3) := by decide +kernel
theorem dL_law_426 : decode cL_law 426 = .ok (.aload_n 2, 1) := by decide +kernel
theorem dL_law_427 : decode cL_law 427 = .ok (.aload_n 0, 1) := by decide +kernel
theorem dL_law_428 : decode cL_law 428 = .ok (.iload_n 3, 1) := by decide +kernel
theorem dL_law_429 : decode cL_law 429 = .ok (.iconst 1, 1) := by decide +kernel
theorem dL_law_430 : decode cL_law 430 = .ok (.iadd, 1) := by decide +kernel
theorem dL_law_431 : decode cL_law 431 = .ok (.iaload, 1) := by decide +kernel
theorem dL_law_432 : decode cL_law 432 = .ok (.aload_n 0, 1) := by decide +kernel
theorem dL_law_433 : decode cL_law 433 = .ok (.iload_n 3, 1) := by decide +kernel
theorem dL_law_434 : decode cL_law 434 = .ok (.iconst 2, 1) := by decide +kernel
theorem dL_law_435 : decode cL_law 435 = .ok (.iadd, 1) := by decide +kernel
theorem dL_law_436 : decode cL_law 436 = .ok (.iaload, 1) := by decide +kernel
theorem dL_law_437 : decode cL_law 437 = .ok (.aload_n 0, 1) := by decide +kernel
theorem dL_law_438 : decode cL_law 438 = .ok (.iload_n 3, 1) := by decide +kernel
theorem dL_law_439 : decode cL_law 439 = .ok (.iconst 3, 1) := by decide +kernel
theorem dL_law_440 : decode cL_law 440 = .ok (.iadd, 1) := by decide +kernel
theorem dL_law_441 : decode cL_law 441 = .ok (.iaload, 1) := by decide +kernel
theorem dL_law_442 : decode cL_law 442 = .ok (.aload_n 0, 1) := by decide +kernel
theorem dL_law_443 : decode cL_law 443 = .ok (.iload_n 3, 1) := by decide +kernel
theorem dL_law_444 : decode cL_law 444 = .ok (.iconst 4, 1) := by decide +kernel
theorem dL_law_445 : decode cL_law 445 = .ok (.iadd, 1) := by decide +kernel
theorem dL_law_446 : decode cL_law 446 = .ok (.iaload, 1) := by decide +kernel
theorem dL_law_447 : decode cL_law 447 = .ok (.aload_n 0, 1) := by decide +kernel
theorem dL_law_448 : decode cL_law 448 = .ok (.iload_n 3, 1) := by decide +kernel
theorem dL_law_449 : decode cL_law 449 = .ok (.iconst 5, 1) := by decide +kernel
theorem dL_law_450 : decode cL_law 450 = .ok (.iadd, 1) := by decide +kernel
theorem dL_law_451 : decode cL_law 451 = .ok (.iaload, 1) := by decide +kernel
theorem dL_law_452 : decode cL_law 452 = .ok (.invokevirtual 48, 3) := by decide +kernel
theorem dL_law_455 : decode cL_law 455 = .ok (.if_icmp .eq 750, 3) := by decide +kernel
theorem dL_law_458 : decode cL_law 458 = .ok (.iconst 0, 1) := by decide +kernel
theorem dL_law_459 : decode cL_law 459 = .ok (.ireturn, 1) := by decide +kernel
theorem dL_law_460 : decode cL_law 460 = .ok (.aload_n 1, 1) := by decide +kernel
theorem dL_law_461 : decode cL_law 461 = .ok (.aload_n 0, 1) := by decide +kernel
theorem dL_law_462 : decode cL_law 462 = .ok (.iload_n 3, 1) := by decide +kernel
theorem dL_law_463 : decode cL_law 463 = .ok (.iconst 1, 1) := by decide +kernel
theorem dL_law_464 : decode cL_law 464 = .ok (.iadd, 1) := by decide +kernel
theorem dL_law_465 : decode cL_law 465 = .ok (.iaload, 1) := by decide +kernel
theorem dL_law_466 : decode cL_law 466 = .ok (.aload_n 0, 1) := by decide +kernel
theorem dL_law_467 : decode cL_law 467 = .ok (.iload_n 3, 1) := by decide +kernel
theorem dL_law_468 : decode cL_law 468 = .ok (.iconst 2, 1) := by decide +kernel
theorem dL_law_469 : decode cL_law 469 = .ok (.iadd, 1) := by decide +kernel
theorem dL_law_470 : decode cL_law 470 = .ok (.iaload, 1) := by decide +kernel
theorem dL_law_471 : decode cL_law 471 = .ok (.invokevirtual 49, 3) := by decide +kernel
theorem dL_law_474 : decode cL_law 474 = .ok (.aload_n 2, 1) := by decide +kernel
theorem dL_law_475 : decode cL_law 475 = .ok (.aload_n 0, 1) := by decide +kernel
theorem dL_law_476 : decode cL_law 476 = .ok (.iload_n 3, 1) := by decide +kernel
theorem dL_law_477 : decode cL_law 477 = .ok (.iconst 1, 1) := by decide +kernel
theorem dL_law_478 : decode cL_law 478 = .ok (.iadd, 1) := by decide +kernel
theorem dL_law_479 : decode cL_law 479 = .ok (.iaload, 1) := by decide +kernel
theorem dL_law_480 : decode cL_law 480 = .ok (.aload_n 0, 1) := by decide +kernel
theorem dL_law_481 : decode cL_law 481 = .ok (.iload_n 3, 1) := by decide +kernel
theorem dL_law_482 : decode cL_law 482 = .ok (.iconst 2, 1) := by decide +kernel
theorem dL_law_483 : decode cL_law 483 = .ok (.iadd, 1) := by decide +kernel
theorem dL_law_484 : decode cL_law 484 = .ok (.iaload, 1) := by decide +kernel
theorem dL_law_485 : decode cL_law 485 = .ok (.invokevirtual 52, 3) := by decide +kernel
theorem dL_law_488 : decode cL_law 488 = .ok (.if_icmp .eq 717, 3) := by decide +kernel
theorem dL_law_491 : decode cL_law 491 = .ok (.iconst 0, 1) := by decide +kernel
theorem dL_law_492 : decode cL_law 492 = .ok (.ireturn, 1) := by decide +kernel
theorem dL_law_493 : decode cL_law 493 = .ok (.aload_n 1, 1) := by decide +kernel
theorem dL_law_494 : decode cL_law 494 = .ok (.aload_n 0, 1) := by decide +kernel
theorem dL_law_495 : decode cL_law 495 = .ok (.iload_n 3, 1) := by decide +kernel
theorem dL_law_496 : decode cL_law 496 = .ok (.iconst 1, 1) := by decide +kernel
theorem dL_law_497 : decode cL_law 497 = .ok (.iadd, 1) := by decide +kernel
theorem dL_law_498 : decode cL_law 498 = .ok (.iaload, 1) := by decide +kernel
theorem dL_law_499 : decode cL_law 499 = .ok (.aload_n 0, 1) := by decide +kernel
theorem dL_law_500 : decode cL_law 500 = .ok (.iload_n 3, 1) := by decide +kernel
theorem dL_law_501 : decode cL_law 501 = .ok (.iconst 2, 1) := by decide +kernel
theorem dL_law_502 : decode cL_law 502 = .ok (.iadd, 1) := by decide +kernel
theorem dL_law_503 : decode cL_law 503 = .ok (.iaload, 1) := by decide +kernel
theorem dL_law_504 : decode cL_law 504 = .ok (.invokevirtual 53, 3) := by decide +kernel
theorem dL_law_507 : decode cL_law 507 = .ok (.aload_n 2, 1) := by decide +kernel
theorem dL_law_508 : decode cL_law 508 = .ok (.aload_n 0, 1) := by decide +kernel
theorem dL_law_509 : decode cL_law 509 = .ok (.iload_n 3, 1) := by decide +kernel
theorem dL_law_510 : decode cL_law 510 = .ok (.iconst 1, 1) := by decide +kernel
theorem dL_law_511 : decode cL_law 511 = .ok (.iadd, 1) := by decide +kernel
theorem dL_law_512 : decode cL_law 512 = .ok (.iaload, 1) := by decide +kernel
theorem dL_law_513 : decode cL_law 513 = .ok (.aload_n 0, 1) := by decide +kernel
theorem dL_law_514 : decode cL_law 514 = .ok (.iload_n 3, 1) := by decide +kernel
theorem dL_law_515 : decode cL_law 515 = .ok (.iconst 2, 1) := by decide +kernel
theorem dL_law_516 : decode cL_law 516 = .ok (.iadd, 1) := by decide +kernel
theorem dL_law_517 : decode cL_law 517 = .ok (.iaload, 1) := by decide +kernel
theorem dL_law_518 : decode cL_law 518 = .ok (.invokevirtual 56, 3) := by decide +kernel
theorem dL_law_521 : decode cL_law 521 = .ok (.if_icmp .eq 684, 3) := by decide +kernel
theorem dL_law_524 : decode cL_law 524 = .ok (.iconst 0, 1) := by decide +kernel
theorem dL_law_525 : decode cL_law 525 = .ok (.ireturn, 1) := by decide +kernel
theorem dL_law_526 : decode cL_law 526 = .ok (.aload_n 1, 1) := by decide +kernel
theorem dL_law_527 : decode cL_law 527 = .ok (.aload_n 0, 1) := by decide +kernel
theorem dL_law_528 : decode cL_law 528 = .ok (.iload_n 3, 1) := by decide +kernel
theorem dL_law_529 : decode cL_law 529 = .ok (.iconst 1, 1) := by decide +kernel
theorem dL_law_530 : decode cL_law 530 = .ok (.iadd, 1) := by decide +kernel
theorem dL_law_531 : decode cL_law 531 = .ok (.iaload, 1) := by decide +kernel
theorem dL_law_532 : decode cL_law 532 = .ok (.aload_n 0, 1) := by decide +kernel
theorem dL_law_533 : decode cL_law 533 = .ok (.iload_n 3, 1) := by decide +kernel
theorem dL_law_534 : decode cL_law 534 = .ok (.iconst 2, 1) := by decide +kernel
theorem dL_law_535 : decode cL_law 535 = .ok (.iadd, 1) := by decide +kernel
theorem dL_law_536 : decode cL_law 536 = .ok (.iaload, 1) := by decide +kernel
theorem dL_law_537 : decode cL_law 537 = .ok (.invokevirtual 57, 3) := by decide +kernel
theorem dL_law_540 : decode cL_law 540 = .ok (.aload_n 2, 1) := by decide +kernel
theorem dL_law_541 : decode cL_law 541 = .ok (.aload_n 0, 1) := by decide +kernel
theorem dL_law_542 : decode cL_law 542 = .ok (.iload_n 3, 1) := by decide +kernel
theorem dL_law_543 : decode cL_law 543 = .ok (.iconst 1, 1) := by decide +kernel
theorem dL_law_544 : decode cL_law 544 = .ok (.iadd, 1) := by decide +kernel
theorem dL_law_545 : decode cL_law 545 = .ok (.iaload, 1) := by decide +kernel
theorem dL_law_546 : decode cL_law 546 = .ok (.aload_n 0, 1) := by decide +kernel
theorem dL_law_547 : decode cL_law 547 = .ok (.iload_n 3, 1) := by decide +kernel
theorem dL_law_548 : decode cL_law 548 = .ok (.iconst 2, 1) := by decide +kernel
theorem dL_law_549 : decode cL_law 549 = .ok (.iadd, 1) := by decide +kernel
theorem dL_law_550 : decode cL_law 550 = .ok (.iaload, 1) := by decide +kernel
theorem dL_law_551 : decode cL_law 551 = .ok (.invokevirtual 60, 3) := by decide +kernel
theorem dL_law_554 : decode cL_law 554 = .ok (.if_icmp .eq 651, 3) := by decide +kernel
theorem dL_law_557 : decode cL_law 557 = .ok (.iconst 0, 1) := by decide +kernel
theorem dL_law_558 : decode cL_law 558 = .ok (.ireturn, 1) := by decide +kernel
theorem dL_law_559 : decode cL_law 559 = .ok (.aload_n 1, 1) := by decide +kernel
theorem dL_law_560 : decode cL_law 560 = .ok (.aload_n 0, 1) := by decide +kernel
theorem dL_law_561 : decode cL_law 561 = .ok (.iload_n 3, 1) := by decide +kernel
theorem dL_law_562 : decode cL_law 562 = .ok (.iconst 1, 1) := by decide +kernel
theorem dL_law_563 : decode cL_law 563 = .ok (.iadd, 1) := by decide +kernel
theorem dL_law_564 : decode cL_law 564 = .ok (.iaload, 1) := by decide +kernel
theorem dL_law_565 : decode cL_law 565 = .ok (.invokevirtual 61, 3) := by decide +kernel
theorem dL_law_568 : decode cL_law 568 = .ok (.aload_n 2, 1) := by decide +kernel
theorem dL_law_569 : decode cL_law 569 = .ok (.aload_n 0, 1) := by decide +kernel
theorem dL_law_570 : decode cL_law 570 = .ok (.iload_n 3, 1) := by decide +kernel
theorem dL_law_571 : decode cL_law 571 = .ok (.iconst 1, 1) := by decide +kernel
theorem dL_law_572 : decode cL_law 572 = .ok (.iadd, 1) := by decide +kernel
theorem dL_law_573 : decode cL_law 573 = .ok (.iaload, 1) := by decide +kernel
theorem dL_law_574 : decode cL_law 574 = .ok (.invokevirtual 65, 3) := by decide +kernel
theorem dL_law_577 : decode cL_law 577 = .ok (.if_icmp .eq 628, 3) := by decide +kernel
theorem dL_law_580 : decode cL_law 580 = .ok (.iconst 0, 1) := by decide +kernel
theorem dL_law_581 : decode cL_law 581 = .ok (.ireturn, 1) := by decide +kernel
theorem dL_law_582 : decode cL_law 582 = .ok (.aload_n 1, 1) := by decide +kernel
theorem dL_law_583 : decode cL_law 583 = .ok (.aload_n 0, 1) := by decide +kernel
theorem dL_law_584 : decode cL_law 584 = .ok (.iload_n 3, 1) := by decide +kernel
theorem dL_law_585 : decode cL_law 585 = .ok (.iconst 1, 1) := by decide +kernel
theorem dL_law_586 : decode cL_law 586 = .ok (.iadd, 1) := by decide +kernel
theorem dL_law_587 : decode cL_law 587 = .ok (.iaload, 1) := by decide +kernel
theorem dL_law_588 : decode cL_law 588 = .ok (.aload_n 0, 1) := by decide +kernel
theorem dL_law_589 : decode cL_law 589 = .ok (.iload_n 3, 1) := by decide +kernel
theorem dL_law_590 : decode cL_law 590 = .ok (.iconst 2, 1) := by decide +kernel
theorem dL_law_591 : decode cL_law 591 = .ok (.iadd, 1) := by decide +kernel
theorem dL_law_592 : decode cL_law 592 = .ok (.iaload, 1) := by decide +kernel
theorem dL_law_593 : decode cL_law 593 = .ok (.invokevirtual 66, 3) := by decide +kernel
theorem dL_law_596 : decode cL_law 596 = .ok (.aload_n 2, 1) := by decide +kernel
theorem dL_law_597 : decode cL_law 597 = .ok (.aload_n 0, 1) := by decide +kernel
theorem dL_law_598 : decode cL_law 598 = .ok (.iload_n 3, 1) := by decide +kernel
theorem dL_law_599 : decode cL_law 599 = .ok (.iconst 1, 1) := by decide +kernel
theorem dL_law_600 : decode cL_law 600 = .ok (.iadd, 1) := by decide +kernel
theorem dL_law_601 : decode cL_law 601 = .ok (.iaload, 1) := by decide +kernel
theorem dL_law_602 : decode cL_law 602 = .ok (.aload_n 0, 1) := by decide +kernel
theorem dL_law_603 : decode cL_law 603 = .ok (.iload_n 3, 1) := by decide +kernel
theorem dL_law_604 : decode cL_law 604 = .ok (.iconst 2, 1) := by decide +kernel
theorem dL_law_605 : decode cL_law 605 = .ok (.iadd, 1) := by decide +kernel
theorem dL_law_606 : decode cL_law 606 = .ok (.iaload, 1) := by decide +kernel
theorem dL_law_607 : decode cL_law 607 = .ok (.invokevirtual 69, 3) := by decide +kernel
theorem dL_law_610 : decode cL_law 610 = .ok (.if_icmp .eq 595, 3) := by decide +kernel
theorem dL_law_613 : decode cL_law 613 = .ok (.iconst 0, 1) := by decide +kernel
theorem dL_law_614 : decode cL_law 614 = .ok (.ireturn, 1) := by decide +kernel
theorem dL_law_615 : decode cL_law 615 = .ok (.aload_n 1, 1) := by decide +kernel
theorem dL_law_616 : decode cL_law 616 = .ok (.aload_n 0, 1) := by decide +kernel
theorem dL_law_617 : decode cL_law 617 = .ok (.iload_n 3, 1) := by decide +kernel
theorem dL_law_618 : decode cL_law 618 = .ok (.iconst 1, 1) := by decide +kernel
theorem dL_law_619 : decode cL_law 619 = .ok (.iadd, 1) := by decide +kernel
theorem dL_law_620 : decode cL_law 620 = .ok (.iaload, 1) := by decide +kernel
theorem dL_law_621 : decode cL_law 621 = .ok (.invokevirtual 70, 3) := by decide +kernel
theorem dL_law_624 : decode cL_law 624 = .ok (.aload_n 2, 1) := by decide +kernel
theorem dL_law_625 : decode cL_law 625 = .ok (.aload_n 0, 1) := by decide +kernel
theorem dL_law_626 : decode cL_law 626 = .ok (.iload_n 3, 1) := by decide +kernel
theorem dL_law_627 : decode cL_law 627 = .ok (.iconst 1, 1) := by decide +kernel
theorem dL_law_628 : decode cL_law 628 = .ok (.iadd, 1) := by decide +kernel
theorem dL_law_629 : decode cL_law 629 = .ok (.iaload, 1) := by decide +kernel
theorem dL_law_630 : decode cL_law 630 = .ok (.invokevirtual 73, 3) := by decide +kernel
theorem dL_law_633 : decode cL_law 633 = .ok (.if_icmp .eq 572, 3) := by decide +kernel
theorem dL_law_636 : decode cL_law 636 = .ok (.iconst 0, 1) := by decide +kernel
theorem dL_law_637 : decode cL_law 637 = .ok (.ireturn, 1) := by decide +kernel
theorem dL_law_638 : decode cL_law 638 = .ok (.aload_n 1, 1) := by decide +kernel
theorem dL_law_639 : decode cL_law 639 = .ok (.aload_n 0, 1) := by decide +kernel
theorem dL_law_640 : decode cL_law 640 = .ok (.iload_n 3, 1) := by decide +kernel
theorem dL_law_641 : decode cL_law 641 = .ok (.iconst 1, 1) := by decide +kernel
theorem dL_law_642 : decode cL_law 642 = .ok (.iadd, 1) := by decide +kernel
theorem dL_law_643 : decode cL_law 643 = .ok (.iaload, 1) := by decide +kernel
theorem dL_law_644 : decode cL_law 644 = .ok (.aload_n 0, 1) := by decide +kernel
theorem dL_law_645 : decode cL_law 645 = .ok (.iload_n 3, 1) := by decide +kernel
theorem dL_law_646 : decode cL_law 646 = .ok (.iconst 2, 1) := by decide +kernel
theorem dL_law_647 : decode cL_law 647 = .ok (.iadd, 1) := by decide +kernel
theorem dL_law_648 : decode cL_law 648 = .ok (.iaload, 1) := by decide +kernel
theorem dL_law_649 : decode cL_law 649 = .ok (.invokevirtual 74, 3) := by decide +kernel
theorem dL_law_652 : decode cL_law 652 = .ok (.aload_n 2, 1) := by decide +kernel
theorem dL_law_653 : decode cL_law 653 = .ok (.aload_n 0, 1) := by decide +kernel
theorem dL_law_654 : decode cL_law 654 = .ok (.iload_n 3, 1) := by decide +kernel
theorem dL_law_655 : decode cL_law 655 = .ok (.iconst 1, 1) := by decide +kernel
theorem dL_law_656 : decode cL_law 656 = .ok (.iadd, 1) := by decide +kernel
theorem dL_law_657 : decode cL_law 657 = .ok (.iaload, 1) := by decide +kernel
theorem dL_law_658 : decode cL_law 658 = .ok (.aload_n 0, 1) := by decide +kernel
theorem dL_law_659 : decode cL_law 659 = .ok (.iload_n 3, 1) := by decide +kernel
theorem dL_law_660 : decode cL_law 660 = .ok (.iconst 2, 1) := by decide +kernel
theorem dL_law_661 : decode cL_law 661 = .ok (.iadd, 1) := by decide +kernel
theorem dL_law_662 : decode cL_law 662 = .ok (.iaload, 1) := by decide +kernel
theorem dL_law_663 : decode cL_law 663 = .ok (.invokevirtual 77, 3) := by decide +kernel
theorem dL_law_666 : decode cL_law 666 = .ok (.if_icmp .eq 539, 3) := by decide +kernel
theorem dL_law_669 : decode cL_law 669 = .ok (.iconst 0, 1) := by decide +kernel
theorem dL_law_670 : decode cL_law 670 = .ok (.ireturn, 1) := by decide +kernel
theorem dL_law_671 : decode cL_law 671 = .ok (.aload_n 1, 1) := by decide +kernel
theorem dL_law_672 : decode cL_law 672 = .ok (.aload_n 0, 1) := by decide +kernel
theorem dL_law_673 : decode cL_law 673 = .ok (.iload_n 3, 1) := by decide +kernel
theorem dL_law_674 : decode cL_law 674 = .ok (.iconst 1, 1) := by decide +kernel
theorem dL_law_675 : decode cL_law 675 = .ok (.iadd, 1) := by decide +kernel
theorem dL_law_676 : decode cL_law 676 = .ok (.iaload, 1) := by decide +kernel
theorem dL_law_677 : decode cL_law 677 = .ok (.aload_n 0, 1) := by decide +kernel
theorem dL_law_678 : decode cL_law 678 = .ok (.iload_n 3, 1) := by decide +kernel
theorem dL_law_679 : decode cL_law 679 = .ok (.iconst 2, 1) := by decide +kernel
theorem dL_law_680 : decode cL_law 680 = .ok (.iadd, 1) := by decide +kernel
theorem dL_law_681 : decode cL_law 681 = .ok (.iaload, 1) := by decide +kernel
theorem dL_law_682 : decode cL_law 682 = .ok (.invokevirtual 78, 3) := by decide +kernel
theorem dL_law_685 : decode cL_law 685 = .ok (.aload_n 2, 1) := by decide +kernel
theorem dL_law_686 : decode cL_law 686 = .ok (.aload_n 0, 1) := by decide +kernel
theorem dL_law_687 : decode cL_law 687 = .ok (.iload_n 3, 1) := by decide +kernel
theorem dL_law_688 : decode cL_law 688 = .ok (.iconst 1, 1) := by decide +kernel
theorem dL_law_689 : decode cL_law 689 = .ok (.iadd, 1) := by decide +kernel
theorem dL_law_690 : decode cL_law 690 = .ok (.iaload, 1) := by decide +kernel
theorem dL_law_691 : decode cL_law 691 = .ok (.aload_n 0, 1) := by decide +kernel
theorem dL_law_692 : decode cL_law 692 = .ok (.iload_n 3, 1) := by decide +kernel
theorem dL_law_693 : decode cL_law 693 = .ok (.iconst 2, 1) := by decide +kernel
theorem dL_law_694 : decode cL_law 694 = .ok (.iadd, 1) := by decide +kernel
theorem dL_law_695 : decode cL_law 695 = .ok (.iaload, 1) := by decide +kernel
theorem dL_law_696 : decode cL_law 696 = .ok (.invokevirtual 81, 3) := by decide +kernel
theorem dL_law_699 : decode cL_law 699 = .ok (.if_icmp .eq 506, 3) := by decide +kernel
theorem dL_law_702 : decode cL_law 702 = .ok (.iconst 0, 1) := by decide +kernel
theorem dL_law_703 : decode cL_law 703 = .ok (.ireturn, 1) := by decide +kernel
theorem dL_law_704 : decode cL_law 704 = .ok (.aload_n 1, 1) := by decide +kernel
theorem dL_law_705 : decode cL_law 705 = .ok (.aload_n 0, 1) := by decide +kernel
theorem dL_law_706 : decode cL_law 706 = .ok (.iload_n 3, 1) := by decide +kernel
theorem dL_law_707 : decode cL_law 707 = .ok (.iconst 1, 1) := by decide +kernel
theorem dL_law_708 : decode cL_law 708 = .ok (.iadd, 1) := by decide +kernel
theorem dL_law_709 : decode cL_law 709 = .ok (.iaload, 1) := by decide +kernel
theorem dL_law_710 : decode cL_law 710 = .ok (.aload_n 0, 1) := by decide +kernel
theorem dL_law_711 : decode cL_law 711 = .ok (.iload_n 3, 1) := by decide +kernel
theorem dL_law_712 : decode cL_law 712 = .ok (.iconst 2, 1) := by decide +kernel
theorem dL_law_713 : decode cL_law 713 = .ok (.iadd, 1) := by decide +kernel
theorem dL_law_714 : decode cL_law 714 = .ok (.iaload, 1) := by decide +kernel
theorem dL_law_715 : decode cL_law 715 = .ok (.invokevirtual 82, 3) := by decide +kernel
theorem dL_law_718 : decode cL_law 718 = .ok (.aload_n 2, 1) := by decide +kernel
theorem dL_law_719 : decode cL_law 719 = .ok (.aload_n 0, 1) := by decide +kernel
theorem dL_law_720 : decode cL_law 720 = .ok (.iload_n 3, 1) := by decide +kernel
theorem dL_law_721 : decode cL_law 721 = .ok (.iconst 1, 1) := by decide +kernel
theorem dL_law_722 : decode cL_law 722 = .ok (.iadd, 1) := by decide +kernel
theorem dL_law_723 : decode cL_law 723 = .ok (.iaload, 1) := by decide +kernel
theorem dL_law_724 : decode cL_law 724 = .ok (.aload_n 0, 1) := by decide +kernel
theorem dL_law_725 : decode cL_law 725 = .ok (.iload_n 3, 1) := by decide +kernel
theorem dL_law_726 : decode cL_law 726 = .ok (.iconst 2, 1) := by decide +kernel
theorem dL_law_727 : decode cL_law 727 = .ok (.iadd, 1) := by decide +kernel
theorem dL_law_728 : decode cL_law 728 = .ok (.iaload, 1) := by decide +kernel
theorem dL_law_729 : decode cL_law 729 = .ok (.invokevirtual 85, 3) := by decide +kernel
theorem dL_law_732 : decode cL_law 732 = .ok (.if_icmp .eq 473, 3) := by decide +kernel
theorem dL_law_735 : decode cL_law 735 = .ok (.iconst 0, 1) := by decide +kernel
theorem dL_law_736 : decode cL_law 736 = .ok (.ireturn, 1) := by decide +kernel
theorem dL_law_737 : decode cL_law 737 = .ok (.aload_n 1, 1) := by decide +kernel
theorem dL_law_738 : decode cL_law 738 = .ok (.aload_n 0, 1) := by decide +kernel
theorem dL_law_739 : decode cL_law 739 = .ok (.iload_n 3, 1) := by decide +kernel
theorem dL_law_740 : decode cL_law 740 = .ok (.iconst 1, 1) := by decide +kernel
theorem dL_law_741 : decode cL_law 741 = .ok (.iadd, 1) := by decide +kernel
theorem dL_law_742 : decode cL_law 742 = .ok (.iaload, 1) := by decide +kernel
theorem dL_law_743 : decode cL_law 743 = .ok (.aload_n 0, 1) := by decide +kernel
theorem dL_law_744 : decode cL_law 744 = .ok (.iload_n 3, 1) := by decide +kernel
theorem dL_law_745 : decode cL_law 745 = .ok (.iconst 2, 1) := by decide +kernel
theorem dL_law_746 : decode cL_law 746 = .ok (.iadd, 1) := by decide +kernel
theorem dL_law_747 : decode cL_law 747 = .ok (.iaload, 1) := by decide +kernel
theorem dL_law_748 : decode cL_law 748 = .ok (.invokevirtual 86, 3) := by decide +kernel
theorem dL_law_751 : decode cL_law 751 = .ok (.aload_n 2, 1) := by decide +kernel
theorem dL_law_752 : decode cL_law 752 = .ok (.aload_n 0, 1) := by decide +kernel
theorem dL_law_753 : decode cL_law 753 = .ok (.iload_n 3, 1) := by decide +kernel
theorem dL_law_754 : decode cL_law 754 = .ok (.iconst 1, 1) := by decide +kernel
theorem dL_law_755 : decode cL_law 755 = .ok (.iadd, 1) := by decide +kernel
theorem dL_law_756 : decode cL_law 756 = .ok (.iaload, 1) := by decide +kernel
theorem dL_law_757 : decode cL_law 757 = .ok (.aload_n 0, 1) := by decide +kernel
theorem dL_law_758 : decode cL_law 758 = .ok (.iload_n 3, 1) := by decide +kernel
theorem dL_law_759 : decode cL_law 759 = .ok (.iconst 2, 1) := by decide +kernel
theorem dL_law_760 : decode cL_law 760 = .ok (.iadd, 1) := by decide +kernel
theorem dL_law_761 : decode cL_law 761 = .ok (.iaload, 1) := by decide +kernel
theorem dL_law_762 : decode cL_law 762 = .ok (.invokevirtual 89, 3) := by decide +kernel
theorem dL_law_765 : decode cL_law 765 = .ok (.if_icmp .eq 440, 3) := by decide +kernel
theorem dL_law_768 : decode cL_law 768 = .ok (.iconst 0, 1) := by decide +kernel
theorem dL_law_769 : decode cL_law 769 = .ok (.ireturn, 1) := by decide +kernel
theorem dL_law_770 : decode cL_law 770 = .ok (.aload_n 1, 1) := by decide +kernel
theorem dL_law_771 : decode cL_law 771 = .ok (.aload_n 0, 1) := by decide +kernel
theorem dL_law_772 : decode cL_law 772 = .ok (.iload_n 3, 1) := by decide +kernel
theorem dL_law_773 : decode cL_law 773 = .ok (.iconst 1, 1) := by decide +kernel
theorem dL_law_774 : decode cL_law 774 = .ok (.iadd, 1) := by decide +kernel
theorem dL_law_775 : decode cL_law 775 = .ok (.iaload, 1) := by decide +kernel
theorem dL_law_776 : decode cL_law 776 = .ok (.aload_n 0, 1) := by decide +kernel
theorem dL_law_777 : decode cL_law 777 = .ok (.iload_n 3, 1) := by decide +kernel
theorem dL_law_778 : decode cL_law 778 = .ok (.iconst 2, 1) := by decide +kernel
theorem dL_law_779 : decode cL_law 779 = .ok (.iadd, 1) := by decide +kernel
theorem dL_law_780 : decode cL_law 780 = .ok (.iaload, 1) := by decide +kernel
theorem dL_law_781 : decode cL_law 781 = .ok (.invokevirtual 90, 3) := by decide +kernel
theorem dL_law_784 : decode cL_law 784 = .ok (.aload_n 2, 1) := by decide +kernel
theorem dL_law_785 : decode cL_law 785 = .ok (.aload_n 0, 1) := by decide +kernel
theorem dL_law_786 : decode cL_law 786 = .ok (.iload_n 3, 1) := by decide +kernel
theorem dL_law_787 : decode cL_law 787 = .ok (.iconst 1, 1) := by decide +kernel
theorem dL_law_788 : decode cL_law 788 = .ok (.iadd, 1) := by decide +kernel
theorem dL_law_789 : decode cL_law 789 = .ok (.iaload, 1) := by decide +kernel
theorem dL_law_790 : decode cL_law 790 = .ok (.aload_n 0, 1) := by decide +kernel
theorem dL_law_791 : decode cL_law 791 = .ok (.iload_n 3, 1) := by decide +kernel
theorem dL_law_792 : decode cL_law 792 = .ok (.iconst 2, 1) := by decide +kernel
theorem dL_law_793 : decode cL_law 793 = .ok (.iadd, 1) := by decide +kernel
theorem dL_law_794 : decode cL_law 794 = .ok (.iaload, 1) := by decide +kernel
theorem dL_law_795 : decode cL_law 795 = .ok (.invokevirtual 93, 3) := by decide +kernel
theorem dL_law_798 : decode cL_law 798 = .ok (.if_icmp .eq 407, 3) := by decide +kernel
theorem dL_law_801 : decode cL_law 801 = .ok (.iconst 0, 1) := by decide +kernel
theorem dL_law_802 : decode cL_law 802 = .ok (.ireturn, 1) := by decide +kernel
theorem dL_law_803 : decode cL_law 803 = .ok (.aload_n 1, 1) := by decide +kernel
theorem dL_law_804 : decode cL_law 804 = .ok (.aload_n 0, 1) := by decide +kernel
theorem dL_law_805 : decode cL_law 805 = .ok (.iload_n 3, 1) := by decide +kernel
theorem dL_law_806 : decode cL_law 806 = .ok (.iconst 1, 1) := by decide +kernel
theorem dL_law_807 : decode cL_law 807 = .ok (.iadd, 1) := by decide +kernel
theorem dL_law_808 : decode cL_law 808 = .ok (.iaload, 1) := by decide +kernel
theorem dL_law_809 : decode cL_law 809 = .ok (.aload_n 0, 1) := by decide +kernel
theorem dL_law_810 : decode cL_law 810 = .ok (.iload_n 3, 1) := by decide +kernel
theorem dL_law_811 : decode cL_law 811 = .ok (.iconst 2, 1) := by decide +kernel
theorem dL_law_812 : decode cL_law 812 = .ok (.iadd, 1) := by decide +kernel
theorem dL_law_813 : decode cL_law 813 = .ok (.iaload, 1) := by decide +kernel
theorem dL_law_814 : decode cL_law 814 = .ok (.aload_n 0, 1) := by decide +kernel
theorem dL_law_815 : decode cL_law 815 = .ok (.iload_n 3, 1) := by decide +kernel
theorem dL_law_816 : decode cL_law 816 = .ok (.iconst 3, 1) := by decide +kernel
theorem dL_law_817 : decode cL_law 817 = .ok (.iadd, 1) := by decide +kernel
theorem dL_law_818 : decode cL_law 818 = .ok (.iaload, 1) := by decide +kernel
theorem dL_law_819 : decode cL_law 819 = .ok (.invokevirtual 94, 3) := by decide +kernel
theorem dL_law_822 : decode cL_law 822 = .ok (.aload_n 2, 1) := by decide +kernel
theorem dL_law_823 : decode cL_law 823 = .ok (.aload_n 0, 1) := by decide +kernel
theorem dL_law_824 : decode cL_law 824 = .ok (.iload_n 3, 1) := by decide +kernel
theorem dL_law_825 : decode cL_law 825 = .ok (.iconst 1, 1) := by decide +kernel
theorem dL_law_826 : decode cL_law 826 = .ok (.iadd, 1) := by decide +kernel
theorem dL_law_827 : decode cL_law 827 = .ok (.iaload, 1) := by decide +kernel
theorem dL_law_828 : decode cL_law 828 = .ok (.aload_n 0, 1) := by decide +kernel
theorem dL_law_829 : decode cL_law 829 = .ok (.iload_n 3, 1) := by decide +kernel
theorem dL_law_830 : decode cL_law 830 = .ok (.iconst 2, 1) := by decide +kernel
theorem dL_law_831 : decode cL_law 831 = .ok (.iadd, 1) := by decide +kernel
theorem dL_law_832 : decode cL_law 832 = .ok (.iaload, 1) := by decide +kernel
theorem dL_law_833 : decode cL_law 833 = .ok (.aload_n 0, 1) := by decide +kernel
theorem dL_law_834 : decode cL_law 834 = .ok (.iload_n 3, 1) := by decide +kernel
theorem dL_law_835 : decode cL_law 835 = .ok (.iconst 3, 1) := by decide +kernel
theorem dL_law_836 : decode cL_law 836 = .ok (.iadd, 1) := by decide +kernel
theorem dL_law_837 : decode cL_law 837 = .ok (.iaload, 1) := by decide +kernel
theorem dL_law_838 : decode cL_law 838 = .ok (.invokevirtual 97, 3) := by decide +kernel
theorem dL_law_841 : decode cL_law 841 = .ok (.if_icmp .eq 364, 3) := by decide +kernel
theorem dL_law_844 : decode cL_law 844 = .ok (.iconst 0, 1) := by decide +kernel
theorem dL_law_845 : decode cL_law 845 = .ok (.ireturn, 1) := by decide +kernel
theorem dL_law_846 : decode cL_law 846 = .ok (.aload_n 1, 1) := by decide +kernel
theorem dL_law_847 : decode cL_law 847 = .ok (.aload_n 0, 1) := by decide +kernel
theorem dL_law_848 : decode cL_law 848 = .ok (.iload_n 3, 1) := by decide +kernel
theorem dL_law_849 : decode cL_law 849 = .ok (.iconst 1, 1) := by decide +kernel
theorem dL_law_850 : decode cL_law 850 = .ok (.iadd, 1) := by decide +kernel
theorem dL_law_851 : decode cL_law 851 = .ok (.iaload, 1) := by decide +kernel
theorem dL_law_852 : decode cL_law 852 = .ok (.aload_n 0, 1) := by decide +kernel
theorem dL_law_853 : decode cL_law 853 = .ok (.iload_n 3, 1) := by decide +kernel
theorem dL_law_854 : decode cL_law 854 = .ok (.iconst 2, 1) := by decide +kernel
theorem dL_law_855 : decode cL_law 855 = .ok (.iadd, 1) := by decide +kernel
theorem dL_law_856 : decode cL_law 856 = .ok (.iaload, 1) := by decide +kernel
theorem dL_law_857 : decode cL_law 857 = .ok (.ifCond .eq 7, 3) := by decide +kernel
theorem dL_law_860 : decode cL_law 860 = .ok (.iconst 1, 1) := by decide +kernel
theorem dL_law_861 : decode cL_law 861 = .ok (.goto 4, 3) := by decide +kernel
theorem dL_law_864 : decode cL_law 864 = .ok (.iconst 0, 1) := by decide +kernel
theorem dL_law_865 : decode cL_law 865 = .ok (.invokevirtual 98, 3) := by decide +kernel
theorem dL_law_868 : decode cL_law 868 = .ok (.aload_n 2, 1) := by decide +kernel
theorem dL_law_869 : decode cL_law 869 = .ok (.aload_n 0, 1) := by decide +kernel
theorem dL_law_870 : decode cL_law 870 = .ok (.iload_n 3, 1) := by decide +kernel
theorem dL_law_871 : decode cL_law 871 = .ok (.iconst 1, 1) := by decide +kernel
theorem dL_law_872 : decode cL_law 872 = .ok (.iadd, 1) := by decide +kernel
theorem dL_law_873 : decode cL_law 873 = .ok (.iaload, 1) := by decide +kernel
theorem dL_law_874 : decode cL_law 874 = .ok (.aload_n 0, 1) := by decide +kernel
theorem dL_law_875 : decode cL_law 875 = .ok (.iload_n 3, 1) := by decide +kernel
theorem dL_law_876 : decode cL_law 876 = .ok (.iconst 2, 1) := by decide +kernel
theorem dL_law_877 : decode cL_law 877 = .ok (.iadd, 1) := by decide +kernel
theorem dL_law_878 : decode cL_law 878 = .ok (.iaload, 1) := by decide +kernel
theorem dL_law_879 : decode cL_law 879 = .ok (.ifCond .eq 7, 3) := by decide +kernel
theorem dL_law_882 : decode cL_law 882 = .ok (.iconst 1, 1) := by decide +kernel
theorem dL_law_883 : decode cL_law 883 = .ok (.goto 4, 3) := by decide +kernel
theorem dL_law_886 : decode cL_law 886 = .ok (.iconst 0, 1) := by decide +kernel
theorem dL_law_887 : decode cL_law 887 = .ok (.invokevirtual 102, 3) := by decide +kernel
theorem dL_law_890 : decode cL_law 890 = .ok (.if_icmp .eq 315, 3) := by decide +kernel
theorem dL_law_893 : decode cL_law 893 = .ok (.iconst 0, 1) := by decide +kernel
theorem dL_law_894 : decode cL_law 894 = .ok (.ireturn, 1) := by decide +kernel
theorem dL_law_895 : decode cL_law 895 = .ok (.aload_n 1, 1) := by decide +kernel
theorem dL_law_896 : decode cL_law 896 = .ok (.aload_n 0, 1) := by decide +kernel
theorem dL_law_897 : decode cL_law 897 = .ok (.iload_n 3, 1) := by decide +kernel
theorem dL_law_898 : decode cL_law 898 = .ok (.iconst 1, 1) := by decide +kernel
theorem dL_law_899 : decode cL_law 899 = .ok (.iadd, 1) := by decide +kernel
theorem dL_law_900 : decode cL_law 900 = .ok (.iaload, 1) := by decide +kernel
theorem dL_law_901 : decode cL_law 901 = .ok (.aload_n 0, 1) := by decide +kernel
theorem dL_law_902 : decode cL_law 902 = .ok (.iload_n 3, 1) := by decide +kernel
theorem dL_law_903 : decode cL_law 903 = .ok (.iconst 2, 1) := by decide +kernel
theorem dL_law_904 : decode cL_law 904 = .ok (.iadd, 1) := by decide +kernel
theorem dL_law_905 : decode cL_law 905 = .ok (.iaload, 1) := by decide +kernel
theorem dL_law_906 : decode cL_law 906 = .ok (.invokevirtual 103, 3) := by decide +kernel
theorem dL_law_909 : decode cL_law 909 = .ok (.aload_n 2, 1) := by decide +kernel
theorem dL_law_910 : decode cL_law 910 = .ok (.aload_n 0, 1) := by decide +kernel
theorem dL_law_911 : decode cL_law 911 = .ok (.iload_n 3, 1) := by decide +kernel
theorem dL_law_912 : decode cL_law 912 = .ok (.iconst 1, 1) := by decide +kernel
theorem dL_law_913 : decode cL_law 913 = .ok (.iadd, 1) := by decide +kernel
theorem dL_law_914 : decode cL_law 914 = .ok (.iaload, 1) := by decide +kernel
theorem dL_law_915 : decode cL_law 915 = .ok (.aload_n 0, 1) := by decide +kernel
theorem dL_law_916 : decode cL_law 916 = .ok (.iload_n 3, 1) := by decide +kernel
theorem dL_law_917 : decode cL_law 917 = .ok (.iconst 2, 1) := by decide +kernel
theorem dL_law_918 : decode cL_law 918 = .ok (.iadd, 1) := by decide +kernel
theorem dL_law_919 : decode cL_law 919 = .ok (.iaload, 1) := by decide +kernel
theorem dL_law_920 : decode cL_law 920 = .ok (.invokevirtual 106, 3) := by decide +kernel
theorem dL_law_923 : decode cL_law 923 = .ok (.if_icmp .eq 282, 3) := by decide +kernel
theorem dL_law_926 : decode cL_law 926 = .ok (.iconst 0, 1) := by decide +kernel
theorem dL_law_927 : decode cL_law 927 = .ok (.ireturn, 1) := by decide +kernel
theorem dL_law_928 : decode cL_law 928 = .ok (.aload_n 1, 1) := by decide +kernel
theorem dL_law_929 : decode cL_law 929 = .ok (.aload_n 0, 1) := by decide +kernel
theorem dL_law_930 : decode cL_law 930 = .ok (.iload_n 3, 1) := by decide +kernel
theorem dL_law_931 : decode cL_law 931 = .ok (.iconst 1, 1) := by decide +kernel
theorem dL_law_932 : decode cL_law 932 = .ok (.iadd, 1) := by decide +kernel
theorem dL_law_933 : decode cL_law 933 = .ok (.iaload, 1) := by decide +kernel
theorem dL_law_934 : decode cL_law 934 = .ok (.aload_n 0, 1) := by decide +kernel
theorem dL_law_935 : decode cL_law 935 = .ok (.iload_n 3, 1) := by decide +kernel
theorem dL_law_936 : decode cL_law 936 = .ok (.iconst 2, 1) := by decide +kernel
theorem dL_law_937 : decode cL_law 937 = .ok (.iadd, 1) := by decide +kernel
theorem dL_law_938 : decode cL_law 938 = .ok (.iaload, 1) := by decide +kernel
theorem dL_law_939 : decode cL_law 939 = .ok (.invokevirtual 107, 3) := by decide +kernel
theorem dL_law_942 : decode cL_law 942 = .ok (.aload_n 2, 1) := by decide +kernel
theorem dL_law_943 : decode cL_law 943 = .ok (.aload_n 0, 1) := by decide +kernel
theorem dL_law_944 : decode cL_law 944 = .ok (.iload_n 3, 1) := by decide +kernel
theorem dL_law_945 : decode cL_law 945 = .ok (.iconst 1, 1) := by decide +kernel
theorem dL_law_946 : decode cL_law 946 = .ok (.iadd, 1) := by decide +kernel
theorem dL_law_947 : decode cL_law 947 = .ok (.iaload, 1) := by decide +kernel
theorem dL_law_948 : decode cL_law 948 = .ok (.aload_n 0, 1) := by decide +kernel
theorem dL_law_949 : decode cL_law 949 = .ok (.iload_n 3, 1) := by decide +kernel
theorem dL_law_950 : decode cL_law 950 = .ok (.iconst 2, 1) := by decide +kernel
theorem dL_law_951 : decode cL_law 951 = .ok (.iadd, 1) := by decide +kernel
theorem dL_law_952 : decode cL_law 952 = .ok (.iaload, 1) := by decide +kernel
theorem dL_law_953 : decode cL_law 953 = .ok (.invokevirtual 110, 3) := by decide +kernel
theorem dL_law_956 : decode cL_law 956 = .ok (.if_icmp .eq 249, 3) := by decide +kernel
theorem dL_law_959 : decode cL_law 959 = .ok (.iconst 0, 1) := by decide +kernel
theorem dL_law_960 : decode cL_law 960 = .ok (.ireturn, 1) := by decide +kernel
theorem dL_law_961 : decode cL_law 961 = .ok (.aload_n 1, 1) := by decide +kernel
theorem dL_law_962 : decode cL_law 962 = .ok (.aload_n 0, 1) := by decide +kernel
theorem dL_law_963 : decode cL_law 963 = .ok (.iload_n 3, 1) := by decide +kernel
theorem dL_law_964 : decode cL_law 964 = .ok (.iconst 1, 1) := by decide +kernel
theorem dL_law_965 : decode cL_law 965 = .ok (.iadd, 1) := by decide +kernel
theorem dL_law_966 : decode cL_law 966 = .ok (.iaload, 1) := by decide +kernel
theorem dL_law_967 : decode cL_law 967 = .ok (.aload_n 0, 1) := by decide +kernel
theorem dL_law_968 : decode cL_law 968 = .ok (.iload_n 3, 1) := by decide +kernel
theorem dL_law_969 : decode cL_law 969 = .ok (.iconst 2, 1) := by decide +kernel
theorem dL_law_970 : decode cL_law 970 = .ok (.iadd, 1) := by decide +kernel
theorem dL_law_971 : decode cL_law 971 = .ok (.iaload, 1) := by decide +kernel
theorem dL_law_972 : decode cL_law 972 = .ok (.aload_n 0, 1) := by decide +kernel
theorem dL_law_973 : decode cL_law 973 = .ok (.iload_n 3, 1) := by decide +kernel
theorem dL_law_974 : decode cL_law 974 = .ok (.iconst 3, 1) := by decide +kernel
theorem dL_law_975 : decode cL_law 975 = .ok (.iadd, 1) := by decide +kernel
theorem dL_law_976 : decode cL_law 976 = .ok (.iaload, 1) := by decide +kernel
theorem dL_law_977 : decode cL_law 977 = .ok (.invokevirtual 111, 3) := by decide +kernel
theorem dL_law_980 : decode cL_law 980 = .ok (.aload_n 2, 1) := by decide +kernel
theorem dL_law_981 : decode cL_law 981 = .ok (.aload_n 0, 1) := by decide +kernel
theorem dL_law_982 : decode cL_law 982 = .ok (.iload_n 3, 1) := by decide +kernel
theorem dL_law_983 : decode cL_law 983 = .ok (.iconst 1, 1) := by decide +kernel
theorem dL_law_984 : decode cL_law 984 = .ok (.iadd, 1) := by decide +kernel
theorem dL_law_985 : decode cL_law 985 = .ok (.iaload, 1) := by decide +kernel
theorem dL_law_986 : decode cL_law 986 = .ok (.aload_n 0, 1) := by decide +kernel
theorem dL_law_987 : decode cL_law 987 = .ok (.iload_n 3, 1) := by decide +kernel
theorem dL_law_988 : decode cL_law 988 = .ok (.iconst 2, 1) := by decide +kernel
theorem dL_law_989 : decode cL_law 989 = .ok (.iadd, 1) := by decide +kernel
theorem dL_law_990 : decode cL_law 990 = .ok (.iaload, 1) := by decide +kernel
theorem dL_law_991 : decode cL_law 991 = .ok (.aload_n 0, 1) := by decide +kernel
theorem dL_law_992 : decode cL_law 992 = .ok (.iload_n 3, 1) := by decide +kernel
theorem dL_law_993 : decode cL_law 993 = .ok (.iconst 3, 1) := by decide +kernel
theorem dL_law_994 : decode cL_law 994 = .ok (.iadd, 1) := by decide +kernel
theorem dL_law_995 : decode cL_law 995 = .ok (.iaload, 1) := by decide +kernel
theorem dL_law_996 : decode cL_law 996 = .ok (.invokevirtual 114, 3) := by decide +kernel
theorem dL_law_999 : decode cL_law 999 = .ok (.if_icmp .eq 206, 3) := by decide +kernel
theorem dL_law_1002 : decode cL_law 1002 = .ok (.iconst 0, 1) := by decide +kernel
theorem dL_law_1003 : decode cL_law 1003 = .ok (.ireturn, 1) := by decide +kernel
theorem dL_law_1004 : decode cL_law 1004 = .ok (.aload_n 1, 1) := by decide +kernel
theorem dL_law_1005 : decode cL_law 1005 = .ok (.aload_n 0, 1) := by decide +kernel
theorem dL_law_1006 : decode cL_law 1006 = .ok (.iload_n 3, 1) := by decide +kernel
theorem dL_law_1007 : decode cL_law 1007 = .ok (.iconst 1, 1) := by decide +kernel
theorem dL_law_1008 : decode cL_law 1008 = .ok (.iadd, 1) := by decide +kernel
theorem dL_law_1009 : decode cL_law 1009 = .ok (.iaload, 1) := by decide +kernel
theorem dL_law_1010 : decode cL_law 1010 = .ok (.aload_n 0, 1) := by decide +kernel
theorem dL_law_1011 : decode cL_law 1011 = .ok (.iload_n 3, 1) := by decide +kernel
theorem dL_law_1012 : decode cL_law 1012 = .ok (.iconst 2, 1) := by decide +kernel
theorem dL_law_1013 : decode cL_law 1013 = .ok (.iadd, 1) := by decide +kernel
theorem dL_law_1014 : decode cL_law 1014 = .ok (.iaload, 1) := by decide +kernel
theorem dL_law_1015 : decode cL_law 1015 = .ok (.aload_n 0, 1) := by decide +kernel
theorem dL_law_1016 : decode cL_law 1016 = .ok (.iload_n 3, 1) := by decide +kernel
theorem dL_law_1017 : decode cL_law 1017 = .ok (.iconst 3, 1) := by decide +kernel
theorem dL_law_1018 : decode cL_law 1018 = .ok (.iadd, 1) := by decide +kernel
theorem dL_law_1019 : decode cL_law 1019 = .ok (.iaload, 1) := by decide +kernel
theorem dL_law_1020 : decode cL_law 1020 = .ok (.invokevirtual 115, 3) := by decide +kernel
theorem dL_law_1023 : decode cL_law 1023 = .ok (.aload_n 2, 1) := by decide +kernel
theorem dL_law_1024 : decode cL_law 1024 = .ok (.aload_n 0, 1) := by decide +kernel
theorem dL_law_1025 : decode cL_law 1025 = .ok (.iload_n 3, 1) := by decide +kernel
theorem dL_law_1026 : decode cL_law 1026 = .ok (.iconst 1, 1) := by decide +kernel
theorem dL_law_1027 : decode cL_law 1027 = .ok (.iadd, 1) := by decide +kernel
theorem dL_law_1028 : decode cL_law 1028 = .ok (.iaload, 1) := by decide +kernel
theorem dL_law_1029 : decode cL_law 1029 = .ok (.aload_n 0, 1) := by decide +kernel
theorem dL_law_1030 : decode cL_law 1030 = .ok (.iload_n 3, 1) := by decide +kernel
theorem dL_law_1031 : decode cL_law 1031 = .ok (.iconst 2, 1) := by decide +kernel
theorem dL_law_1032 : decode cL_law 1032 = .ok (.iadd, 1) := by decide +kernel
theorem dL_law_1033 : decode cL_law 1033 = .ok (.iaload, 1) := by decide +kernel
theorem dL_law_1034 : decode cL_law 1034 = .ok (.aload_n 0, 1) := by decide +kernel
theorem dL_law_1035 : decode cL_law 1035 = .ok (.iload_n 3, 1) := by decide +kernel
theorem dL_law_1036 : decode cL_law 1036 = .ok (.iconst 3, 1) := by decide +kernel
theorem dL_law_1037 : decode cL_law 1037 = .ok (.iadd, 1) := by decide +kernel
theorem dL_law_1038 : decode cL_law 1038 = .ok (.iaload, 1) := by decide +kernel
theorem dL_law_1039 : decode cL_law 1039 = .ok (.invokevirtual 118, 3) := by decide +kernel
theorem dL_law_1042 : decode cL_law 1042 = .ok (.if_icmp .eq 163, 3) := by decide +kernel
theorem dL_law_1045 : decode cL_law 1045 = .ok (.iconst 0, 1) := by decide +kernel
theorem dL_law_1046 : decode cL_law 1046 = .ok (.ireturn, 1) := by decide +kernel
theorem dL_law_1047 : decode cL_law 1047 = .ok (.aload_n 1, 1) := by decide +kernel
theorem dL_law_1048 : decode cL_law 1048 = .ok (.aload_n 0, 1) := by decide +kernel
theorem dL_law_1049 : decode cL_law 1049 = .ok (.iload_n 3, 1) := by decide +kernel
theorem dL_law_1050 : decode cL_law 1050 = .ok (.iconst 1, 1) := by decide +kernel
theorem dL_law_1051 : decode cL_law 1051 = .ok (.iadd, 1) := by decide +kernel
theorem dL_law_1052 : decode cL_law 1052 = .ok (.iaload, 1) := by decide +kernel
theorem dL_law_1053 : decode cL_law 1053 = .ok (.invokevirtual 119, 3) := by decide +kernel
theorem dL_law_1056 : decode cL_law 1056 = .ok (.aload_n 2, 1) := by decide +kernel
theorem dL_law_1057 : decode cL_law 1057 = .ok (.aload_n 0, 1) := by decide +kernel
theorem dL_law_1058 : decode cL_law 1058 = .ok (.iload_n 3, 1) := by decide +kernel
theorem dL_law_1059 : decode cL_law 1059 = .ok (.iconst 1, 1) := by decide +kernel
theorem dL_law_1060 : decode cL_law 1060 = .ok (.iadd, 1) := by decide +kernel
theorem dL_law_1061 : decode cL_law 1061 = .ok (.iaload, 1) := by decide +kernel
theorem dL_law_1062 : decode cL_law 1062 = .ok (.invokevirtual 122, 3) := by decide +kernel
theorem dL_law_1065 : decode cL_law 1065 = .ok (.if_icmp .eq 140, 3) := by decide +kernel
theorem dL_law_1068 : decode cL_law 1068 = .ok (.iconst 0, 1) := by decide +kernel
theorem dL_law_1069 : decode cL_law 1069 = .ok (.ireturn, 1) := by decide +kernel
theorem dL_law_1070 : decode cL_law 1070 = .ok (.aload_n 1, 1) := by decide +kernel
theorem dL_law_1071 : decode cL_law 1071 = .ok (.aload_n 0, 1) := by decide +kernel
theorem dL_law_1072 : decode cL_law 1072 = .ok (.iload_n 3, 1) := by decide +kernel
theorem dL_law_1073 : decode cL_law 1073 = .ok (.iconst 1, 1) := by decide +kernel
theorem dL_law_1074 : decode cL_law 1074 = .ok (.iadd, 1) := by decide +kernel
theorem dL_law_1075 : decode cL_law 1075 = .ok (.iaload, 1) := by decide +kernel
theorem dL_law_1076 : decode cL_law 1076 = .ok (.aload_n 0, 1) := by decide +kernel
theorem dL_law_1077 : decode cL_law 1077 = .ok (.iload_n 3, 1) := by decide +kernel
theorem dL_law_1078 : decode cL_law 1078 = .ok (.iconst 2, 1) := by decide +kernel
theorem dL_law_1079 : decode cL_law 1079 = .ok (.iadd, 1) := by decide +kernel
theorem dL_law_1080 : decode cL_law 1080 = .ok (.iaload, 1) := by decide +kernel
theorem dL_law_1081 : decode cL_law 1081 = .ok (.invokevirtual 123, 3) := by decide +kernel
theorem dL_law_1084 : decode cL_law 1084 = .ok (.aload_n 2, 1) := by decide +kernel
theorem dL_law_1085 : decode cL_law 1085 = .ok (.aload_n 0, 1) := by decide +kernel
theorem dL_law_1086 : decode cL_law 1086 = .ok (.iload_n 3, 1) := by decide +kernel
theorem dL_law_1087 : decode cL_law 1087 = .ok (.iconst 1, 1) := by decide +kernel
theorem dL_law_1088 : decode cL_law 1088 = .ok (.iadd, 1) := by decide +kernel
theorem dL_law_1089 : decode cL_law 1089 = .ok (.iaload, 1) := by decide +kernel
theorem dL_law_1090 : decode cL_law 1090 = .ok (.aload_n 0, 1) := by decide +kernel
theorem dL_law_1091 : decode cL_law 1091 = .ok (.iload_n 3, 1) := by decide +kernel
theorem dL_law_1092 : decode cL_law 1092 = .ok (.iconst 2, 1) := by decide +kernel
theorem dL_law_1093 : decode cL_law 1093 = .ok (.iadd, 1) := by decide +kernel
theorem dL_law_1094 : decode cL_law 1094 = .ok (.iaload, 1) := by decide +kernel
theorem dL_law_1095 : decode cL_law 1095 = .ok (.invokevirtual 126, 3) := by decide +kernel
theorem dL_law_1098 : decode cL_law 1098 = .ok (.if_icmp .eq 107, 3) := by decide +kernel
theorem dL_law_1101 : decode cL_law 1101 = .ok (.iconst 0, 1) := by decide +kernel
theorem dL_law_1102 : decode cL_law 1102 = .ok (.ireturn, 1) := by decide +kernel
theorem dL_law_1103 : decode cL_law 1103 = .ok (.aload_n 1, 1) := by decide +kernel
theorem dL_law_1104 : decode cL_law 1104 = .ok (.aload_n 0, 1) := by decide +kernel
theorem dL_law_1105 : decode cL_law 1105 = .ok (.iload_n 3, 1) := by decide +kernel
theorem dL_law_1106 : decode cL_law 1106 = .ok (.iconst 1, 1) := by decide +kernel
theorem dL_law_1107 : decode cL_law 1107 = .ok (.iadd, 1) := by decide +kernel
theorem dL_law_1108 : decode cL_law 1108 = .ok (.iaload, 1) := by decide +kernel
theorem dL_law_1109 : decode cL_law 1109 = .ok (.invokevirtual 127, 3) := by decide +kernel
theorem dL_law_1112 : decode cL_law 1112 = .ok (.aload_n 2, 1) := by decide +kernel
theorem dL_law_1113 : decode cL_law 1113 = .ok (.aload_n 0, 1) := by decide +kernel
theorem dL_law_1114 : decode cL_law 1114 = .ok (.iload_n 3, 1) := by decide +kernel
theorem dL_law_1115 : decode cL_law 1115 = .ok (.iconst 1, 1) := by decide +kernel
theorem dL_law_1116 : decode cL_law 1116 = .ok (.iadd, 1) := by decide +kernel
theorem dL_law_1117 : decode cL_law 1117 = .ok (.iaload, 1) := by decide +kernel
theorem dL_law_1118 : decode cL_law 1118 = .ok (.invokevirtual 130, 3) := by decide +kernel
theorem dL_law_1121 : decode cL_law 1121 = .ok (.if_icmp .eq 84, 3) := by decide +kernel
theorem dL_law_1124 : decode cL_law 1124 = .ok (.iconst 0, 1) := by decide +kernel
theorem dL_law_1125 : decode cL_law 1125 = .ok (.ireturn, 1) := by decide +kernel
theorem dL_law_1126 : decode cL_law 1126 = .ok (.aload_n 1, 1) := by decide +kernel
theorem dL_law_1127 : decode cL_law 1127 = .ok (.aload_n 0, 1) := by decide +kernel
theorem dL_law_1128 : decode cL_law 1128 = .ok (.iload_n 3, 1) := by decide +kernel
theorem dL_law_1129 : decode cL_law 1129 = .ok (.iconst 1, 1) := by decide +kernel
theorem dL_law_1130 : decode cL_law 1130 = .ok (.iadd, 1) := by decide +kernel
theorem dL_law_1131 : decode cL_law 1131 = .ok (.iaload, 1) := by decide +kernel
theorem dL_law_1132 : decode cL_law 1132 = .ok (.invokevirtual 131, 3) := by decide +kernel
theorem dL_law_1135 : decode cL_law 1135 = .ok (.aload_n 2, 1) := by decide +kernel
theorem dL_law_1136 : decode cL_law 1136 = .ok (.aload_n 0, 1) := by decide +kernel
theorem dL_law_1137 : decode cL_law 1137 = .ok (.iload_n 3, 1) := by decide +kernel
theorem dL_law_1138 : decode cL_law 1138 = .ok (.iconst 1, 1) := by decide +kernel
theorem dL_law_1139 : decode cL_law 1139 = .ok (.iadd, 1) := by decide +kernel
theorem dL_law_1140 : decode cL_law 1140 = .ok (.iaload, 1) := by decide +kernel
theorem dL_law_1141 : decode cL_law 1141 = .ok (.invokevirtual 134, 3) := by decide +kernel
theorem dL_law_1144 : decode cL_law 1144 = .ok (.if_icmp .eq 61, 3) := by decide +kernel
theorem dL_law_1147 : decode cL_law 1147 = .ok (.iconst 0, 1) := by decide +kernel
theorem dL_law_1148 : decode cL_law 1148 = .ok (.ireturn, 1) := by decide +kernel
theorem dL_law_1149 : decode cL_law 1149 = .ok (.aload_n 1, 1) := by decide +kernel
theorem dL_law_1150 : decode cL_law 1150 = .ok (.aload_n 0, 1) := by decide +kernel
theorem dL_law_1151 : decode cL_law 1151 = .ok (.iload_n 3, 1) := by decide +kernel
theorem dL_law_1152 : decode cL_law 1152 = .ok (.iconst 1, 1) := by decide +kernel
theorem dL_law_1153 : decode cL_law 1153 = .ok (.iadd, 1) := by decide +kernel
theorem dL_law_1154 : decode cL_law 1154 = .ok (.iaload, 1) := by decide +kernel
theorem dL_law_1155 : decode cL_law 1155 = .ok (.aload_n 0, 1) := by decide +kernel
theorem dL_law_1156 : decode cL_law 1156 = .ok (.iload_n 3, 1) := by decide +kernel
theorem dL_law_1157 : decode cL_law 1157 = .ok (.iconst 2, 1) := by decide +kernel
theorem dL_law_1158 : decode cL_law 1158 = .ok (.iadd, 1) := by decide +kernel
theorem dL_law_1159 : decode cL_law 1159 = .ok (.iaload, 1) := by decide +kernel
theorem dL_law_1160 : decode cL_law 1160 = .ok (.invokevirtual 135, 3) := by decide +kernel
theorem dL_law_1163 : decode cL_law 1163 = .ok (.aload_n 2, 1) := by decide +kernel
theorem dL_law_1164 : decode cL_law 1164 = .ok (.aload_n 0, 1) := by decide +kernel
theorem dL_law_1165 : decode cL_law 1165 = .ok (.iload_n 3, 1) := by decide +kernel
theorem dL_law_1166 : decode cL_law 1166 = .ok (.iconst 1, 1) := by decide +kernel
theorem dL_law_1167 : decode cL_law 1167 = .ok (.iadd, 1) := by decide +kernel
theorem dL_law_1168 : decode cL_law 1168 = .ok (.iaload, 1) := by decide +kernel
theorem dL_law_1169 : decode cL_law 1169 = .ok (.aload_n 0, 1) := by decide +kernel
theorem dL_law_1170 : decode cL_law 1170 = .ok (.iload_n 3, 1) := by decide +kernel
theorem dL_law_1171 : decode cL_law 1171 = .ok (.iconst 2, 1) := by decide +kernel
theorem dL_law_1172 : decode cL_law 1172 = .ok (.iadd, 1) := by decide +kernel
theorem dL_law_1173 : decode cL_law 1173 = .ok (.iaload, 1) := by decide +kernel
theorem dL_law_1174 : decode cL_law 1174 = .ok (.invokevirtual 138, 3) := by decide +kernel
theorem dL_law_1177 : decode cL_law 1177 = .ok (.if_icmp .eq 28, 3) := by decide +kernel
theorem dL_law_1180 : decode cL_law 1180 = .ok (.iconst 0, 1) := by decide +kernel
theorem dL_law_1181 : decode cL_law 1181 = .ok (.ireturn, 1) := by decide +kernel
theorem dL_law_1182 : decode cL_law 1182 = .ok (.aload_n 1, 1) := by decide +kernel
theorem dL_law_1183 : decode cL_law 1183 = .ok (.aload_n 0, 1) := by decide +kernel
theorem dL_law_1184 : decode cL_law 1184 = .ok (.iload_n 3, 1) := by decide +kernel
theorem dL_law_1185 : decode cL_law 1185 = .ok (.iconst 1, 1) := by decide +kernel
theorem dL_law_1186 : decode cL_law 1186 = .ok (.iadd, 1) := by decide +kernel
theorem dL_law_1187 : decode cL_law 1187 = .ok (.iaload, 1) := by decide +kernel
theorem dL_law_1188 : decode cL_law 1188 = .ok (.invokevirtual 139, 3) := by decide +kernel
theorem dL_law_1191 : decode cL_law 1191 = .ok (.aload_n 2, 1) := by decide +kernel
theorem dL_law_1192 : decode cL_law 1192 = .ok (.aload_n 0, 1) := by decide +kernel
theorem dL_law_1193 : decode cL_law 1193 = .ok (.iload_n 3, 1) := by decide +kernel
theorem dL_law_1194 : decode cL_law 1194 = .ok (.iconst 1, 1) := by decide +kernel
theorem dL_law_1195 : decode cL_law 1195 = .ok (.iadd, 1) := by decide +kernel
theorem dL_law_1196 : decode cL_law 1196 = .ok (.iaload, 1) := by decide +kernel
theorem dL_law_1197 : decode cL_law 1197 = .ok (.invokevirtual 142, 3) := by decide +kernel
theorem dL_law_1200 : decode cL_law 1200 = .ok (.if_icmp .eq 5, 3) := by decide +kernel
theorem dL_law_1203 : decode cL_law 1203 = .ok (.iconst 0, 1) := by decide +kernel
theorem dL_law_1204 : decode cL_law 1204 = .ok (.ireturn, 1) := by decide +kernel
theorem dL_law_1205 : decode cL_law 1205 = .ok (.iinc 3 6, 3) := by decide +kernel
theorem dL_law_1208 : decode cL_law 1208 = .ok (.goto (-1190), 3) := by decide +kernel
theorem dL_law_1211 : decode cL_law 1211 = .ok (.iconst 1, 1) := by decide +kernel
theorem dL_law_1212 : decode cL_law 1212 = .ok (.ireturn, 1) := by decide +kernel
