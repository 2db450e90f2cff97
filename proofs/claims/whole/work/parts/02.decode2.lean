theorem dX10_made_56 : decode cX10_made 56 = .ok (.ishr, 1) := by decide +kernel
theorem dX10_made_57 : decode cX10_made 57 = .ok (.iconst 1, 1) := by decide +kernel
theorem dX10_made_58 : decode cX10_made 58 = .ok (.iand, 1) := by decide +kernel
theorem dX10_made_59 : decode cX10_made 59 = .ok (.iconst 1, 1) := by decide +kernel
theorem dX10_made_60 : decode cX10_made 60 = .ok (.if_icmp .ne 25, 3) := by decide +kernel
theorem dX10_made_63 : decode cX10_made 63 = .ok (.iload 7, 2) := by decide +kernel
theorem dX10_made_65 : decode cX10_made 65 = .ok (.aload_n 0, 1) := by decide +kernel
theorem dX10_made_66 : decode cX10_made 66 = .ok (.iload 5, 2) := by decide +kernel
theorem dX10_made_68 : decode cX10_made 68 = .ok (.iload 6, 2) := by decide +kernel
theorem dX10_made_70 : decode cX10_made 70 = .ok (.iconst 1, 1) := by decide +kernel
theorem dX10_made_71 : decode cX10_made 71 = .ok (.iload 8, 2) := by decide +kernel
theorem dX10_made_73 : decode cX10_made 73 = .ok (.ishl, 1) := by decide +kernel
theorem dX10_made_74 : decode cX10_made 74 = .ok (.iconst (-1), 1) := by decide +kernel
theorem dX10_made_75 : decode cX10_made 75 = .ok (.ixor, 1) := by decide +kernel
theorem dX10_made_76 : decode cX10_made 76 = .ok (.iand, 1) := by decide +kernel
theorem dX10_made_77 : decode cX10_made 77 = .ok (.invokevirtual 108, 3) := by decide +kernel
theorem dX10_made_80 : decode cX10_made 80 = .ok (.invokestatic 111, 3) := by decide +kernel
theorem dX10_made_83 : decode cX10_made 83 = .ok (.istore 7, 2) := by decide +kernel
theorem dX10_made_85 : decode cX10_made 85 = .ok (.iinc 8 1, 3) := by decide +kernel
theorem dX10_made_88 : decode cX10_made 88 = .ok (.goto (-45), 3) := by decide +kernel
theorem dX10_made_91 : decode cX10_made 91 = .ok (.aload_n 0, 1) := by decide +kernel
theorem dX10_made_92 : decode cX10_made 92 = .ok (.getfield 25, 3) := by decide +kernel
theorem dX10_made_95 : decode cX10_made 95 = .ok (.sipush 4096, 3) := by decide +kernel
theorem dX10_made_98 : decode cX10_made 98 = .ok (.iload 5, 2) := by decide +kernel
theorem dX10_made_100 : decode cX10_made 100 = .ok (.imul, 1) := by decide +kernel
theorem dX10_made_101 : decode cX10_made 101 = .ok (.iload 6, 2) := by decide +kernel
theorem dX10_made_103 : decode cX10_made 103 = .ok (.iadd, 1) := by decide +kernel
theorem dX10_made_104 : decode cX10_made 104 = .ok (.iload 7, 2) := by decide +kernel
theorem dX10_made_106 : decode cX10_made 106 = .ok (.i2b, 1) := by decide +kernel
theorem dX10_made_107 : decode cX10_made 107 = .ok (.bastore, 1) := by decide +kernel
theorem dX10_made_108 : decode cX10_made 108 = .ok (.iinc 6 1, 3) := by decide +kernel
theorem dX10_made_111 : decode cX10_made 111 = .ok (.goto (-102), 3) := by decide +kernel
theorem dX10_made_114 : decode cX10_made 114 = .ok (.aload_n 0, 1) := by decide +kernel
theorem dX10_made_115 : decode cX10_made 115 = .ok (.getfield 29, 3) := by decide +kernel
theorem dX10_made_118 : decode cX10_made 118 = .ok (.iload 5, 2) := by decide +kernel
theorem dX10_made_120 : decode cX10_made 120 = .ok (.iload_n 1, 1) := by decide +kernel
theorem dX10_made_121 : decode cX10_made 121 = .ok (.iastore, 1) := by decide +kernel
theorem dX10_made_122 : decode cX10_made 122 = .ok (.aload_n 0, 1) := by decide +kernel
theorem dX10_made_123 : decode cX10_made 123 = .ok (.getfield 32, 3) := by decide +kernel
theorem dX10_made_126 : decode cX10_made 126 = .ok (.iload 5, 2) := by decide +kernel
theorem dX10_made_128 : decode cX10_made 128 = .ok (.iload_n 2, 1) := by decide +kernel
theorem dX10_made_129 : decode cX10_made 129 = .ok (.iastore, 1) := by decide +kernel
theorem dX10_made_130 : decode cX10_made 130 = .ok (.aload_n 0, 1) := by decide +kernel
theorem dX10_made_131 : decode cX10_made 131 = .ok (.getfield 35, 3) := by decide +kernel
theorem dX10_made_134 : decode cX10_made 134 = .ok (.iload 5, 2) := by decide +kernel
theorem dX10_made_136 : decode cX10_made 136 = .ok (.iload_n 3, 1) := by decide +kernel
theorem dX10_made_137 : decode cX10_made 137 = .ok (.iastore, 1) := by decide +kernel
theorem dX10_made_138 : decode cX10_made 138 = .ok (.aload_n 0, 1) := by decide +kernel
theorem dX10_made_139 : decode cX10_made 139 = .ok (.getfield 38, 3) := by decide +kernel
theorem dX10_made_142 : decode cX10_made 142 = .ok (.iload 5, 2) := by decide +kernel
theorem dX10_made_144 : decode cX10_made 144 = .ok (.iload 4, 2) := by decide +kernel
theorem dX10_made_146 : decode cX10_made 146 = .ok (.iastore, 1) := by decide +kernel
theorem dX10_made_147 : decode cX10_made 147 = .ok (.aload_n 0, 1) := by decide +kernel
theorem dX10_made_148 : decode cX10_made 148 = .ok (.dup, 1) := by decide +kernel
theorem dX10_made_149 : decode cX10_made 149 = .ok (.getfield 85, 3) := by decide +kernel
theorem dX10_made_152 : decode cX10_made 152 = .ok (.iconst 1, 1) := by decide +kernel
theorem dX10_made_153 : decode cX10_made 153 = .ok (.iadd, 1) := by decide +kernel
theorem dX10_made_154 : decode cX10_made 154 = .ok (.putfield 85, 3) := by decide +kernel
theorem dX10_made_157 : decode cX10_made 157 = .ok (.iload 5, 2) := by decide +kernel
theorem dX10_made_159 : decode cX10_made 159 = .ok (.ireturn, 1) := by decide +kernel
theorem dX10_next_0 : decode cX10_next 0 = .ok (.aload_n 0, 1) := by decide +kernel
theorem dX10_next_1 : decode cX10_next 1 = .ok (.getfield 116, 3) := by decide +kernel
theorem dX10_next_4 : decode cX10_next 4 = .ok (.ifCond .eq 5, 3) := by decide +kernel
theorem dX10_next_7 : decode cX10_next 7 = .ok (.iconst 0, 1) := by decide +kernel
theorem dX10_next_8 : decode cX10_next 8 = .ok (.ireturn, 1) := by decide +kernel
theorem dX10_next_9 : decode cX10_next 9 = .ok (.aload_n 0, 1) := by decide +kernel
theorem dX10_next_10 : decode cX10_next 10 = .ok (.getfield 119, 3) := by decide +kernel
theorem dX10_next_13 : decode cX10_next 13 = .ok (.aload_n 0, 1) := by decide +kernel
theorem dX10_next_14 : decode cX10_next 14 = .ok (.getfield 44, 3) := by decide +kernel
theorem dX10_next_17 : decode cX10_next 17 = .ok (.aload_n 0, 1) := by decide +kernel
theorem dX10_next_18 : decode cX10_next 18 = .ok (.getfield 122, 3) := by decide +kernel
theorem dX10_next_21 : decode cX10_next 21 = .ok (.iaload, 1) := by decide +kernel
theorem dX10_next_22 : decode cX10_next 22 = .ok (.iconst 1, 1) := by decide +kernel
theorem dX10_next_23 : decode cX10_next 23 = .ok (.isub, 1) := by decide +kernel
theorem dX10_next_24 : decode cX10_next 24 = .ok (.if_icmp .lt 11, 3) := by decide +kernel
theorem dX10_next_27 : decode cX10_next 27 = .ok (.aload_n 0, 1) := by decide +kernel
theorem dX10_next_28 : decode cX10_next 28 = .ok (.bipush (-6), 2) := by decide +kernel
theorem dX10_next_30 : decode cX10_next 30 = .ok (.putfield 116, 3) := by decide +kernel
theorem dX10_next_33 : decode cX10_next 33 = .ok (.iconst 0, 1) := by decide +kernel
theorem dX10_next_34 : decode cX10_next 34 = .ok (.ireturn, 1) := by decide +kernel
theorem dX10_next_35 : decode cX10_next 35 = .ok (.aload_n 0, 1) := by decide +kernel
theorem dX10_next_36 : decode cX10_next 36 = .ok (.getfield 50, 3) := by decide +kernel
theorem dX10_next_39 : decode cX10_next 39 = .ok (.sipush 200, 3) := by decide +kernel
theorem dX10_next_42 : decode cX10_next 42 = .ok (.aload_n 0, 1) := by decide +kernel
theorem dX10_next_43 : decode cX10_next 43 = .ok (.getfield 122, 3) := by decide +kernel
theorem dX10_next_46 : decode cX10_next 46 = .ok (.imul, 1) := by decide +kernel
theorem dX10_next_47 : decode cX10_next 47 = .ok (.aload_n 0, 1) := by decide +kernel
theorem dX10_next_48 : decode cX10_next 48 = .ok (.getfield 119, 3) := by decide +kernel
theorem dX10_next_51 : decode cX10_next 51 = .ok (.iadd, 1) := by decide +kernel
theorem dX10_next_52 : decode cX10_next 52 = .ok (.laload, 1) := by decide +kernel
theorem dX10_next_53 : decode cX10_next 53 = .ok (.lstore 5, 2) := by decide +kernel
theorem dX10_next_55 : decode cX10_next 55 = .ok (.aload_n 0, 1) := by decide +kernel
theorem dX10_next_56 : decode cX10_next 56 = .ok (.dup, 1) := by decide +kernel
theorem dX10_next_57 : decode cX10_next 57 = .ok (.getfield 119, 3) := by decide +kernel
theorem dX10_next_60 : decode cX10_next 60 = .ok (.iconst 1, 1) := by decide +kernel
theorem dX10_next_61 : decode cX10_next 61 = .ok (.iadd, 1) := by decide +kernel
theorem dX10_next_62 : decode cX10_next 62 = .ok (.putfield 119, 3) := by decide +kernel
theorem dX10_next_65 : decode cX10_next 65 = .ok (.lload 5, 2) := by decide +kernel
theorem dX10_next_67 : decode cX10_next 67 = .ok (.lload_n 1, 1) := by decide +kernel
theorem dX10_next_68 : decode cX10_next 68 = .ok (.lcmp, 1) := by decide +kernel
theorem dX10_next_69 : decode cX10_next 69 = .ok (.ifCond .lt 10, 3) := by decide +kernel
theorem dX10_next_72 : decode cX10_next 72 = .ok (.lload 5, 2) := by decide +kernel
theorem dX10_next_74 : decode cX10_next 74 = .ok (.lload_n 3, 1) := by decide +kernel
theorem dX10_next_75 : decode cX10_next 75 = .ok (.lcmp, 1) := by decide +kernel
theorem dX10_next_76 : decode cX10_next 76 = .ok (.ifCond .le 11, 3) := by decide +kernel
theorem dX10_next_79 : decode cX10_next 79 = .ok (.aload_n 0, 1) := by decide +kernel
theorem dX10_next_80 : decode cX10_next 80 = .ok (.bipush (-4), 2) := by decide +kernel
theorem dX10_next_82 : decode cX10_next 82 = .ok (.putfield 116, 3) := by decide +kernel
theorem dX10_next_85 : decode cX10_next 85 = .ok (.iconst 0, 1) := by decide +kernel
theorem dX10_next_86 : decode cX10_next 86 = .ok (.ireturn, 1) := by decide +kernel
theorem dX10_next_87 : decode cX10_next 87 = .ok (.lload 5, 2) := by decide +kernel
theorem dX10_next_89 : decode cX10_next 89 = .ok (.l2i, 1) := by decide +kernel
theorem dX10_next_90 : decode cX10_next 90 = .ok (.ireturn, 1) := by decide +kernel
theorem dX10_rule_0 : decode cX10_rule 0 = .ok (.iload_n 2, 1) := by decide +kernel
theorem dX10_rule_1 : decode cX10_rule 1 = .ok (.invokestatic 93, 3) := by decide +kernel
theorem dX10_rule_4 : decode cX10_rule 4 = .ok (.ifCond .eq 13, 3) := by decide +kernel
theorem dX10_rule_7 : decode cX10_rule 7 = .ok (.iload_n 1, 1) := by decide +kernel
theorem dX10_rule_8 : decode cX10_rule 8 = .ok (.ifCond .lt 9, 3) := by decide +kernel
theorem dX10_rule_11 : decode cX10_rule 11 = .ok (.iload_n 1, 1) := by decide +kernel
theorem dX10_rule_12 : decode cX10_rule 12 = .ok (.bipush 6, 2) := by decide +kernel
theorem dX10_rule_14 : decode cX10_rule 14 = .ok (.if_icmp .le 6, 3) := by decide +kernel
theorem dX10_rule_17 : decode cX10_rule 17 = .ok (.bipush (-2), 2) := by decide +kernel
theorem dX10_rule_19 : decode cX10_rule 19 = .ok (.ireturn, 1) := by decide +kernel
theorem dX10_rule_20 : decode cX10_rule 20 = .ok (.aload_n 0, 1) := by decide +kernel
theorem dX10_rule_21 : decode cX10_rule 21 = .ok (.getfield 85, 3) := by decide +kernel
theorem dX10_rule_24 : decode cX10_rule 24 = .ok (.bipush 24, 2) := by decide +kernel
theorem dX10_rule_26 : decode cX10_rule 26 = .ok (.if_icmp .ne 6, 3) := by decide +kernel
theorem dX10_rule_29 : decode cX10_rule 29 = .ok (.bipush (-8), 2) := by decide +kernel
theorem dX10_rule_31 : decode cX10_rule 31 = .ok (.ireturn, 1) := by decide +kernel
theorem dX10_rule_32 : decode cX10_rule 32 = .ok (.aload_n 0, 1) := by decide +kernel
theorem dX10_rule_33 : decode cX10_rule 33 = .ok (.getfield 44, 3) := by decide +kernel
theorem dX10_rule_36 : decode cX10_rule 36 = .ok (.iload_n 2, 1) := by decide +kernel
theorem dX10_rule_37 : decode cX10_rule 37 = .ok (.iaload, 1) := by decide +kernel
theorem dX10_rule_38 : decode cX10_rule 38 = .ok (.ifCond .ne 6, 3) := by decide +kernel
theorem dX10_rule_41 : decode cX10_rule 41 = .ok (.bipush (-5), 2) := by decide +kernel
theorem dX10_rule_43 : decode cX10_rule 43 = .ok (.ireturn, 1) := by decide +kernel
theorem dX10_rule_44 : decode cX10_rule 44 = .ok (.aload_n 0, 1) := by decide +kernel
theorem dX10_rule_45 : decode cX10_rule 45 = .ok (.iload_n 2, 1) := by decide +kernel
theorem dX10_rule_46 : decode cX10_rule 46 = .ok (.putfield 122, 3) := by decide +kernel
theorem dX10_rule_49 : decode cX10_rule 49 = .ok (.aload_n 0, 1) := by decide +kernel
theorem dX10_rule_50 : decode cX10_rule 50 = .ok (.iconst 0, 1) := by decide +kernel
theorem dX10_rule_51 : decode cX10_rule 51 = .ok (.putfield 119, 3) := by decide +kernel
theorem dX10_rule_54 : decode cX10_rule 54 = .ok (.aload_n 0, 1) := by decide +kernel
theorem dX10_rule_55 : decode cX10_rule 55 = .ok (.iconst 0, 1) := by decide +kernel
theorem dX10_rule_56 : decode cX10_rule 56 = .ok (.putfield 116, 3) := by decide +kernel
theorem dX10_rule_59 : decode cX10_rule 59 = .ok (.iconst 0, 1) := by decide +kernel
theorem dX10_rule_60 : decode cX10_rule 60 = .ok (.istore_n 3, 1) := by decide +kernel
theorem dX10_rule_61 : decode cX10_rule 61 = .ok (.iload_n 3, 1) := by decide +kernel
theorem dX10_rule_62 : decode cX10_rule 62 = .ok (.aload_n 0, 1) := by decide +kernel
theorem dX10_rule_63 : decode cX10_rule 63 = .ok (.getfield 13, 3) := by decide +kernel
theorem dX10_rule_66 : decode cX10_rule 66 = .ok (.if_icmp .gt 25, 3) := by decide +kernel
theorem dX10_rule_69 : decode cX10_rule 69 = .ok (.aload_n 0, 1) := by decide +kernel
theorem dX10_rule_70 : decode cX10_rule 70 = .ok (.getfield 21, 3) := by decide +kernel
theorem dX10_rule_73 : decode cX10_rule 73 = .ok (.sipush 4096, 3) := by decide +kernel
theorem dX10_rule_76 : decode cX10_rule 76 = .ok (.aload_n 0, 1) := by decide +kernel
theorem dX10_rule_77 : decode cX10_rule 77 = .ok (.getfield 85, 3) := by decide +kernel
theorem dX10_rule_80 : decode cX10_rule 80 = .ok (.imul, 1) := by decide +kernel
theorem dX10_rule_81 : decode cX10_rule 81 = .ok (.iload_n 3, 1) := by decide +kernel
theorem dX10_rule_82 : decode cX10_rule 82 = .ok (.iadd, 1) := by decide +kernel
theorem dX10_rule_83 : decode cX10_rule 83 = .ok (.iconst 0, 1) := by decide +kernel
theorem dX10_rule_84 : decode cX10_rule 84 = .ok (.bastore, 1) := by decide +kernel
theorem dX10_rule_85 : decode cX10_rule 85 = .ok (.iinc 3 1, 3) := by decide +kernel
theorem dX10_rule_88 : decode cX10_rule 88 = .ok (.goto (-27), 3) := by decide +kernel
theorem dX10_rule_91 : decode cX10_rule 91 = .ok (.iload_n 1, 1) := by decide +kernel
theorem dX10_rule_92 : decode cX10_rule 92 = .ok (.tableswitch 82 0 5 #[40, 47, 54, 61, 68, 75], 40) := by decide +kernel
theorem dX10_rule_132 : decode cX10_rule 132 = .ok (.aload_n 0, 1) := by decide +kernel
theorem dX10_rule_133 : decode cX10_rule 133 = .ok (.invokevirtual 125, 3) := by decide +kernel
theorem dX10_rule_136 : decode cX10_rule 136 = .ok (.goto 42, 3) := by decide +kernel
theorem dX10_rule_139 : decode cX10_rule 139 = .ok (.aload_n 0, 1) := by decide +kernel
theorem dX10_rule_140 : decode cX10_rule 140 = .ok (.invokevirtual 128, 3) := by decide +kernel
theorem dX10_rule_143 : decode cX10_rule 143 = .ok (.goto 35, 3) := by decide +kernel
theorem dX10_rule_146 : decode cX10_rule 146 = .ok (.aload_n 0, 1) := by decide +kernel
theorem dX10_rule_147 : decode cX10_rule 147 = .ok (.invokevirtual 131, 3) := by decide +kernel
theorem dX10_rule_150 : decode cX10_rule 150 = .ok (.goto 28, 3) := by decide +kernel
theorem dX10_rule_153 : decode cX10_rule 153 = .ok (.aload_n 0, 1) := by decide +kernel
theorem dX10_rule_154 : decode cX10_rule 154 = .ok (.invokevirtual 134, 3) := by decide +kernel
theorem dX10_rule_157 : decode cX10_rule 157 = .ok (.goto 21, 3) := by decide +kernel
theorem dX10_rule_160 : decode cX10_rule 160 = .ok (.aload_n 0, 1) := by decide +kernel
theorem dX10_rule_161 : decode cX10_rule 161 = .ok (.invokevirtual 137, 3) := by decide +kernel
theorem dX10_rule_164 : decode cX10_rule 164 = .ok (.goto 14, 3) := by decide +kernel
theorem dX10_rule_167 : decode cX10_rule 167 = .ok (.aload_n 0, 1) := by decide +kernel
theorem dX10_rule_168 : decode cX10_rule 168 = .ok (.invokevirtual 140, 3) := by decide +kernel
theorem dX10_rule_171 : decode cX10_rule 171 = .ok (.goto 7, 3) := by decide +kernel
theorem dX10_rule_174 : decode cX10_rule 174 = .ok (.aload_n 0, 1) := by decide +kernel
theorem dX10_rule_175 : decode cX10_rule 175 = .ok (.invokevirtual 143, 3) := by decide +kernel
theorem dX10_rule_178 : decode cX10_rule 178 = .ok (.aload_n 0, 1) := by decide +kernel
theorem dX10_rule_179 : decode cX10_rule 179 = .ok (.getfield 116, 3) := by decide +kernel
theorem dX10_rule_182 : decode cX10_rule 182 = .ok (.ifCond .eq 10, 3) := by decide +kernel
theorem dX10_rule_185 : decode cX10_rule 185 = .ok (.aload_n 0, 1) := by decide +kernel
theorem dX10_rule_186 : decode cX10_rule 186 = .ok (.getfield 116, 3) := by decide +kernel
theorem dX10_rule_189 : decode cX10_rule 189 = .ok (.goto 11, 3) := by decide +kernel
theorem dX10_rule_192 : decode cX10_rule 192 = .ok (.aload_n 0, 1) := by decide +kernel
theorem dX10_rule_193 : decode cX10_rule 193 = .ok (.iload_n 1, 1) := by decide +kernel
theorem dX10_rule_194 : decode cX10_rule 194 = .ok (.iconst (-1), 1) := by decide +kernel
theorem dX10_rule_195 : decode cX10_rule 195 = .ok (.iconst (-1), 1) := by decide +kernel
theorem dX10_rule_196 : decode cX10_rule 196 = .ok (.iconst 1, 1) := by decide +kernel
theorem dX10_rule_197 : decode cX10_rule 197 = .ok (.invokevirtual 146, 3) := by decide +kernel
theorem dX10_rule_200 : decode cX10_rule 200 = .ok (.ireturn, 1) := by decide +kernel
theorem dX10_allow_0 : decode cX10_allow 0 = .ok (.aload_n 0, 1) := by decide +kernel
theorem dX10_allow_1 : decode cX10_allow 1 = .ok (.getfield 21, 3) := by decide +kernel
theorem dX10_allow_4 : decode cX10_allow 4 = .ok (.sipush 4096, 3) := by decide +kernel
theorem dX10_allow_7 : decode cX10_allow 7 = .ok (.aload_n 0, 1) := by decide +kernel
theorem dX10_allow_8 : decode cX10_allow 8 = .ok (.getfield 85, 3) := by decide +kernel
theorem dX10_allow_11 : decode cX10_allow 11 = .ok (.imul, 1) := by decide +kernel
theorem dX10_allow_12 : decode cX10_allow 12 = .ok (.iload_n 1, 1) := by decide +kernel
theorem dX10_allow_13 : decode cX10_allow 13 = .ok (.iadd, 1) := by decide +kernel
theorem dX10_allow_14 : decode cX10_allow 14 = .ok (.iconst 1, 1) := by decide +kernel
theorem dX10_allow_15 : decode cX10_allow 15 = .ok (.bastore, 1) := by decide +kernel
theorem dX10_allow_16 : decode cX10_allow 16 = .ok (.return_, 1) := by decide +kernel
theorem dX10_readsTold_0 : decode cX10_readsTold 0 = .ok (.aload_n 0, 1) := by decide +kernel
theorem dX10_readsTold_1 : decode cX10_readsTold 1 = .ok (.lconst 0, 1) := by decide +kernel
theorem dX10_readsTold_2 : decode cX10_readsTold 2 = .ok (.ldc2_w 150, 3) := by decide +kernel
theorem dX10_readsTold_5 : decode cX10_readsTold 5 = .ok (.invokevirtual 152, 3) := by decide +kernel
theorem dX10_readsTold_8 : decode cX10_readsTold 8 = .ok (.istore_n 1, 1) := by decide +kernel
theorem dX10_readsTold_9 : decode cX10_readsTold 9 = .ok (.iconst 0, 1) := by decide +kernel
theorem dX10_readsTold_10 : decode cX10_readsTold 10 = .ok (.istore_n 2, 1) := by decide +kernel
theorem dX10_readsTold_11 : decode cX10_readsTold 11 = .ok (.iload_n 2, 1) := by decide +kernel
theorem dX10_readsTold_12 : decode cX10_readsTold 12 = .ok (.iload_n 1, 1) := by decide +kernel
theorem dX10_readsTold_13 : decode cX10_readsTold 13 = .ok (.if_icmp .ge 39, 3) := by decide +kernel
theorem dX10_readsTold_16 : decode cX10_readsTold 16 = .ok (.aload_n 0, 1) := by decide +kernel
theorem dX10_readsTold_17 : decode cX10_readsTold 17 = .ok (.getfield 116, 3) := by decide +kernel
theorem dX10_readsTold_20 : decode cX10_readsTold 20 = .ok (.ifCond .ne 32, 3) := by decide +kernel
theorem dX10_readsTold_23 : decode cX10_readsTold 23 = .ok (.aload_n 0, 1) := by decide +kernel
theorem dX10_readsTold_24 : decode cX10_readsTold 24 = .ok (.lconst 0, 1) := by decide +kernel
theorem dX10_readsTold_25 : decode cX10_readsTold 25 = .ok (.aload_n 0, 1) := by decide +kernel
theorem dX10_readsTold_26 : decode cX10_readsTold 26 = .ok (.getfield 13, 3) := by decide +kernel
theorem dX10_readsTold_29 : decode cX10_readsTold 29 = .ok (.i2l, 1) := by decide +kernel
theorem dX10_readsTold_30 : decode cX10_readsTold 30 = .ok (.invokevirtual 152, 3) := by decide +kernel
theorem dX10_readsTold_33 : decode cX10_readsTold 33 = .ok (.istore_n 3, 1) := by decide +kernel
theorem dX10_readsTold_34 : decode cX10_readsTold 34 = .ok (.aload_n 0, 1) := by decide +kernel
theorem dX10_readsTold_35 : decode cX10_readsTold 35 = .ok (.getfield 116, 3) := by decide +kernel
theorem dX10_readsTold_38 : decode cX10_readsTold 38 = .ok (.ifCond .ne 8, 3) := by decide +kernel
theorem dX10_readsTold_41 : decode cX10_readsTold 41 = .ok (.aload_n 0, 1) := by decide +kernel
theorem dX10_readsTold_42 : decode cX10_readsTold 42 = .ok (.iload_n 3, 1) := by decide +kernel
theorem dX10_readsTold_43 : decode cX10_readsTold 43 = .ok (.invokevirtual 156, 3) := by decide +kernel
theorem dX10_readsTold_46 : decode cX10_readsTold 46 = .ok (.iinc 2 1, 3) := by decide +kernel
theorem dX10_readsTold_49 : decode cX10_readsTold 49 = .ok (.goto (-38), 3) := by decide +kernel
theorem dX10_readsTold_52 : decode cX10_readsTold 52 = .ok (.aload_n 0, 1) := by decide +kernel
theorem dX10_readsTold_53 : decode cX10_readsTold 53 = .ok (.getfield 116, 3) := by decide +kernel
theorem dX10_readsTold_56 : decode cX10_readsTold 56 = .ok (.ifCond .ne 16, 3) := by decide +kernel
theorem dX10_readsTold_59 : decode cX10_readsTold 59 = .ok (.aload_n 0, 1) := by decide +kernel
theorem dX10_readsTold_60 : decode cX10_readsTold 60 = .ok (.invokevirtual 159, 3) := by decide +kernel
theorem dX10_readsTold_63 : decode cX10_readsTold 63 = .ok (.ifCond .eq 9, 3) := by decide +kernel
theorem dX10_readsTold_66 : decode cX10_readsTold 66 = .ok (.aload_n 0, 1) := by decide +kernel
theorem dX10_readsTold_67 : decode cX10_readsTold 67 = .ok (.bipush (-9), 2) := by decide +kernel
theorem dX10_readsTold_69 : decode cX10_readsTold 69 = .ok (.putfield 116, 3) := by decide +kernel
theorem dX10_readsTold_72 : decode cX10_readsTold 72 = .ok (.return_, 1) := by decide +kernel
theorem dX10_breaks_0 : decode cX10_breaks 0 = .ok (.aload_n 0, 1) := by decide +kernel
theorem dX10_breaks_1 : decode cX10_breaks 1 = .ok (.getfield 41, 3) := by decide +kernel
theorem dX10_breaks_4 : decode cX10_breaks 4 = .ok (.iconst 0, 1) := by decide +kernel
theorem dX10_breaks_5 : decode cX10_breaks 5 = .ok (.iload_n 1, 1) := by decide +kernel
theorem dX10_breaks_6 : decode cX10_breaks 6 = .ok (.iastore, 1) := by decide +kernel
theorem dX10_breaks_7 : decode cX10_breaks 7 = .ok (.aload_n 0, 1) := by decide +kernel
theorem dX10_breaks_8 : decode cX10_breaks 8 = .ok (.getfield 41, 3) := by decide +kernel
theorem dX10_breaks_11 : decode cX10_breaks 11 = .ok (.iconst 1, 1) := by decide +kernel
theorem dX10_breaks_12 : decode cX10_breaks 12 = .ok (.iload_n 2, 1) := by decide +kernel
theorem dX10_breaks_13 : decode cX10_breaks 13 = .ok (.iastore, 1) := by decide +kernel
theorem dX10_breaks_14 : decode cX10_breaks 14 = .ok (.aload_n 0, 1) := by decide +kernel
theorem dX10_breaks_15 : decode cX10_breaks 15 = .ok (.getfield 41, 3) := by decide +kernel
theorem dX10_breaks_18 : decode cX10_breaks 18 = .ok (.iconst 2, 1) := by decide +kernel
theorem dX10_breaks_19 : decode cX10_breaks 19 = .ok (.iload_n 3, 1) := by decide +kernel
theorem dX10_breaks_20 : decode cX10_breaks 20 = .ok (.iastore, 1) := by decide +kernel
theorem dX10_breaks_21 : decode cX10_breaks 21 = .ok (.iconst 1, 1) := by decide +kernel
theorem dX10_breaks_22 : decode cX10_breaks 22 = .ok (.ireturn, 1) := by decide +kernel
theorem dX10_breaks__0 : decode cX10_breaks_ 0 = .ok (.aload_n 0, 1) := by decide +kernel
theorem dX10_breaks__1 : decode cX10_breaks_ 1 = .ok (.getfield 85, 3) := by decide +kernel
theorem dX10_breaks__4 : decode cX10_breaks_ 4 = .ok (.istore_n 1, 1) := by decide +kernel
theorem dX10_breaks__5 : decode cX10_breaks_ 5 = .ok (.aload_n 0, 1) := by decide +kernel
theorem dX10_breaks__6 : decode cX10_breaks_ 6 = .ok (.iload_n 1, 1) := by decide +kernel
theorem dX10_breaks__7 : decode cX10_breaks_ 7 = .ok (.iconst 0, 1) := by decide +kernel
theorem dX10_breaks__8 : decode cX10_breaks_ 8 = .ok (.invokevirtual 100, 3) := by decide +kernel
theorem dX10_breaks__11 : decode cX10_breaks_ 11 = .ok (.ifCond .ne 11, 3) := by decide +kernel
theorem dX10_breaks__14 : decode cX10_breaks_ 14 = .ok (.aload_n 0, 1) := by decide +kernel
theorem dX10_breaks__15 : decode cX10_breaks_ 15 = .ok (.iconst 1, 1) := by decide +kernel
theorem dX10_breaks__16 : decode cX10_breaks_ 16 = .ok (.iconst 0, 1) := by decide +kernel
theorem dX10_breaks__17 : decode cX10_breaks_ 17 = .ok (.iconst 0, 1) := by decide +kernel
theorem dX10_breaks__18 : decode cX10_breaks_ 18 = .ok (.invokevirtual 163, 3) := by decide +kernel
theorem dX10_breaks__21 : decode cX10_breaks_ 21 = .ok (.ireturn, 1) := by decide +kernel
theorem dX10_breaks__22 : decode cX10_breaks_ 22 = .ok (.iconst 0, 1) := by decide +kernel
theorem dX10_breaks__23 : decode cX10_breaks_ 23 = .ok (.istore_n 2, 1) := by decide +kernel
theorem dX10_breaks__24 : decode cX10_breaks_ 24 = .ok (.iload_n 2, 1) := by decide +kernel
theorem dX10_breaks__25 : decode cX10_breaks_ 25 = .ok (.aload_n 0, 1) := by decide +kernel
theorem dX10_breaks__26 : decode cX10_breaks_ 26 = .ok (.getfield 13, 3) := by decide +kernel
theorem dX10_breaks__29 : decode cX10_breaks_ 29 = .ok (.if_icmp .gt 56, 3) := by decide +kernel
theorem dX10_breaks__32 : decode cX10_breaks_ 32 = .ok (.iconst 0, 1) := by decide +kernel
theorem dX10_breaks__33 : decode cX10_breaks_ 33 = .ok (.istore_n 3, 1) := by decide +kernel
theorem dX10_breaks__34 : decode cX10_breaks_ 34 = .ok (.iload_n 3, 1) := by decide +kernel
theorem dX10_breaks__35 : decode cX10_breaks_ 35 = .ok (.iload_n 2, 1) := by decide +kernel
theorem dX10_breaks__36 : decode cX10_breaks_ 36 = .ok (.if_icmp .ge 43, 3) := by decide +kernel
theorem dX10_breaks__39 : decode cX10_breaks_ 39 = .ok (.aload_n 0, 1) := by decide +kernel
theorem dX10_breaks__40 : decode cX10_breaks_ 40 = .ok (.iload_n 1, 1) := by decide +kernel
theorem dX10_breaks__41 : decode cX10_breaks_ 41 = .ok (.iload_n 2, 1) := by decide +kernel
theorem dX10_breaks__42 : decode cX10_breaks_ 42 = .ok (.invokevirtual 100, 3) := by decide +kernel
theorem dX10_breaks__45 : decode cX10_breaks_ 45 = .ok (.ifCond .eq 34, 3) := by decide +kernel
theorem dX10_breaks__48 : decode cX10_breaks_ 48 = .ok (.iload_n 3, 1) := by decide +kernel
theorem dX10_breaks__49 : decode cX10_breaks_ 49 = .ok (.iload_n 2, 1) := by decide +kernel
theorem dX10_breaks__50 : decode cX10_breaks_ 50 = .ok (.iconst (-1), 1) := by decide +kernel
theorem dX10_breaks__51 : decode cX10_breaks_ 51 = .ok (.ixor, 1) := by decide +kernel
theorem dX10_breaks__52 : decode cX10_breaks_ 52 = .ok (.iand, 1) := by decide +kernel
theorem dX10_breaks__53 : decode cX10_breaks_ 53 = .ok (.ifCond .ne 20, 3) := by decide +kernel
theorem dX10_breaks__56 : decode cX10_breaks_ 56 = .ok (.aload_n 0, 1) := by decide +kernel
theorem dX10_breaks__57 : decode cX10_breaks_ 57 = .ok (.iload_n 1, 1) := by decide +kernel
theorem dX10_breaks__58 : decode cX10_breaks_ 58 = .ok (.iload_n 3, 1) := by decide +kernel
theorem dX10_breaks__59 : decode cX10_breaks_ 59 = .ok (.invokevirtual 100, 3) := by decide +kernel
theorem dX10_breaks__62 : decode cX10_breaks_ 62 = .ok (.ifCond .ne 11, 3) := by decide +kernel
theorem dX10_breaks__65 : decode cX10_breaks_ 65 = .ok (.aload_n 0, 1) := by decide +kernel
theorem dX10_breaks__66 : decode cX10_breaks_ 66 = .ok (.iconst 2, 1) := by decide +kernel
theorem dX10_breaks__67 : decode cX10_breaks_ 67 = .ok (.iload_n 2, 1) := by decide +kernel
theorem dX10_breaks__68 : decode cX10_breaks_ 68 = .ok (.iload_n 3, 1) := by decide +kernel
theorem dX10_breaks__69 : decode cX10_breaks_ 69 = .ok (.invokevirtual 163, 3) := by decide +kernel
theorem dX10_breaks__72 : decode cX10_breaks_ 72 = .ok (.ireturn, 1) := by decide +kernel
theorem dX10_breaks__73 : decode cX10_breaks_ 73 = .ok (.iinc 3 1, 3) := by decide +kernel
theorem dX10_breaks__76 : decode cX10_breaks_ 76 = .ok (.goto (-42), 3) := by decide +kernel
theorem dX10_breaks__79 : decode cX10_breaks_ 79 = .ok (.iinc 2 1, 3) := by decide +kernel
theorem dX10_breaks__82 : decode cX10_breaks_ 82 = .ok (.goto (-58), 3) := by decide +kernel
theorem dX10_breaks__85 : decode cX10_breaks_ 85 = .ok (.iconst 0, 1) := by decide +kernel
theorem dX10_breaks__86 : decode cX10_breaks_ 86 = .ok (.istore_n 2, 1) := by decide +kernel
theorem dX10_breaks__87 : decode cX10_breaks_ 87 = .ok (.iload_n 2, 1) := by decide +kernel
theorem dX10_breaks__88 : decode cX10_breaks_ 88 = .ok (.aload_n 0, 1) := by decide +kernel
theorem dX10_breaks__89 : decode cX10_breaks_ 89 = .ok (.getfield 13, 3) := by decide +kernel
theorem dX10_breaks__92 : decode cX10_breaks_ 92 = .ok (.if_icmp .gt 130, 3) := by decide +kernel
theorem dX10_breaks__95 : decode cX10_breaks_ 95 = .ok (.iconst 0, 1) := by decide +kernel
theorem dX10_breaks__96 : decode cX10_breaks_ 96 = .ok (.istore_n 3, 1) := by decide +kernel
theorem dX10_breaks__97 : decode cX10_breaks_ 97 = .ok (.iload_n 3, 1) := by decide +kernel
theorem dX10_breaks__98 : decode cX10_breaks_ 98 = .ok (.aload_n 0, 1) := by decide +kernel
theorem dX10_breaks__99 : decode cX10_breaks_ 99 = .ok (.getfield 13, 3) := by decide +kernel
theorem dX10_breaks__102 : decode cX10_breaks_ 102 = .ok (.if_icmp .gt 114, 3) := by decide +kernel
theorem dX10_breaks__105 : decode cX10_breaks_ 105 = .ok (.aload_n 0, 1) := by decide +kernel
theorem dX10_breaks__106 : decode cX10_breaks_ 106 = .ok (.iload_n 1, 1) := by decide +kernel
theorem dX10_breaks__107 : decode cX10_breaks_ 107 = .ok (.iload_n 2, 1) := by decide +kernel
theorem dX10_breaks__108 : decode cX10_breaks_ 108 = .ok (.invokevirtual 100, 3) := by decide +kernel
theorem dX10_breaks__111 : decode cX10_breaks_ 111 = .ok (.ifCond .eq 105, 3) := by decide +kernel
theorem dX10_breaks__114 : decode cX10_breaks_ 114 = .ok (.aload_n 0, 1) := by decide +kernel
theorem dX10_breaks__115 : decode cX10_breaks_ 115 = .ok (.iload_n 1, 1) := by decide +kernel
theorem dX10_breaks__116 : decode cX10_breaks_ 116 = .ok (.iload_n 3, 1) := by decide +kernel
theorem dX10_breaks__117 : decode cX10_breaks_ 117 = .ok (.invokevirtual 100, 3) := by decide +kernel
theorem dX10_breaks__120 : decode cX10_breaks_ 120 = .ok (.ifCond .eq 90, 3) := by decide +kernel
theorem dX10_breaks__123 : decode cX10_breaks_ 123 = .ok (.iload_n 3, 1) := by decide +kernel
theorem dX10_breaks__124 : decode cX10_breaks_ 124 = .ok (.invokestatic 104, 3) := by decide +kernel
theorem dX10_breaks__127 : decode cX10_breaks_ 127 = .ok (.iload_n 2, 1) := by decide +kernel
theorem dX10_breaks__128 : decode cX10_breaks_ 128 = .ok (.invokestatic 104, 3) := by decide +kernel
theorem dX10_breaks__131 : decode cX10_breaks_ 131 = .ok (.if_icmp .gt 6, 3) := by decide +kernel
theorem dX10_breaks__134 : decode cX10_breaks_ 134 = .ok (.goto 76, 3) := by decide +kernel
theorem dX10_breaks__137 : decode cX10_breaks_ 137 = .ok (.iconst 0, 1) := by decide +kernel
theorem dX10_breaks__138 : decode cX10_breaks_ 138 = .ok (.istore 4, 2) := by decide +kernel
theorem dX10_breaks__140 : decode cX10_breaks_ 140 = .ok (.iconst 0, 1) := by decide +kernel
theorem dX10_breaks__141 : decode cX10_breaks_ 141 = .ok (.istore 5, 2) := by decide +kernel
theorem dX10_breaks__143 : decode cX10_breaks_ 143 = .ok (.iload 5, 2) := by decide +kernel
theorem dX10_breaks__145 : decode cX10_breaks_ 145 = .ok (.aload_n 0, 1) := by decide +kernel
theorem dX10_breaks__146 : decode cX10_breaks_ 146 = .ok (.getfield 7, 3) := by decide +kernel
theorem dX10_breaks__149 : decode cX10_breaks_ 149 = .ok (.if_icmp .ge 48, 3) := by decide +kernel
theorem dX10_breaks__152 : decode cX10_breaks_ 152 = .ok (.iload 4, 2) := by decide +kernel
theorem dX10_breaks__154 : decode cX10_breaks_ 154 = .ok (.ifCond .ne 30, 3) := by decide +kernel
theorem dX10_breaks__157 : decode cX10_breaks_ 157 = .ok (.iload_n 3, 1) := by decide +kernel
theorem dX10_breaks__158 : decode cX10_breaks_ 158 = .ok (.iload_n 2, 1) := by decide +kernel
theorem dX10_breaks__159 : decode cX10_breaks_ 159 = .ok (.iconst (-1), 1) := by decide +kernel
theorem dX10_breaks__160 : decode cX10_breaks_ 160 = .ok (.ixor, 1) := by decide +kernel
theorem dX10_breaks__161 : decode cX10_breaks_ 161 = .ok (.iand, 1) := by decide +kernel
theorem dX10_breaks__162 : decode cX10_breaks_ 162 = .ok (.iconst 1, 1) := by decide +kernel
theorem dX10_breaks__163 : decode cX10_breaks_ 163 = .ok (.iload 5, 2) := by decide +kernel
theorem dX10_breaks__165 : decode cX10_breaks_ 165 = .ok (.ishl, 1) := by decide +kernel
theorem dX10_breaks__166 : decode cX10_breaks_ 166 = .ok (.iand, 1) := by decide +kernel
theorem dX10_breaks__167 : decode cX10_breaks_ 167 = .ok (.ifCond .eq 21, 3) := by decide +kernel
theorem dX10_breaks__170 : decode cX10_breaks_ 170 = .ok (.aload_n 0, 1) := by decide +kernel
theorem dX10_breaks__171 : decode cX10_breaks_ 171 = .ok (.iload_n 1, 1) := by decide +kernel
theorem dX10_breaks__172 : decode cX10_breaks_ 172 = .ok (.iload_n 2, 1) := by decide +kernel
theorem dX10_breaks__173 : decode cX10_breaks_ 173 = .ok (.iconst 1, 1) := by decide +kernel
theorem dX10_breaks__174 : decode cX10_breaks_ 174 = .ok (.iload 5, 2) := by decide +kernel
theorem dX10_breaks__176 : decode cX10_breaks_ 176 = .ok (.ishl, 1) := by decide +kernel
theorem dX10_breaks__177 : decode cX10_breaks_ 177 = .ok (.ior, 1) := by decide +kernel
theorem dX10_breaks__178 : decode cX10_breaks_ 178 = .ok (.invokevirtual 100, 3) := by decide +kernel
theorem dX10_breaks__181 : decode cX10_breaks_ 181 = .ok (.ifCond .eq 7, 3) := by decide +kernel
theorem dX10_breaks__184 : decode cX10_breaks_ 184 = .ok (.iconst 1, 1) := by decide +kernel
theorem dX10_breaks__185 : decode cX10_breaks_ 185 = .ok (.goto 4, 3) := by decide +kernel
theorem dX10_breaks__188 : decode cX10_breaks_ 188 = .ok (.iconst 0, 1) := by decide +kernel
theorem dX10_breaks__189 : decode cX10_breaks_ 189 = .ok (.istore 4, 2) := by decide +kernel
theorem dX10_breaks__191 : decode cX10_breaks_ 191 = .ok (.iinc 5 1, 3) := by decide +kernel
theorem dX10_breaks__194 : decode cX10_breaks_ 194 = .ok (.goto (-51), 3) := by decide +kernel
theorem dX10_breaks__197 : decode cX10_breaks_ 197 = .ok (.iload 4, 2) := by decide +kernel
theorem dX10_breaks__199 : decode cX10_breaks_ 199 = .ok (.ifCond .ne 11, 3) := by decide +kernel
theorem dX10_breaks__202 : decode cX10_breaks_ 202 = .ok (.aload_n 0, 1) := by decide +kernel
theorem dX10_breaks__203 : decode cX10_breaks_ 203 = .ok (.iconst 3, 1) := by decide +kernel
theorem dX10_breaks__204 : decode cX10_breaks_ 204 = .ok (.iload_n 2, 1) := by decide +kernel
theorem dX10_breaks__205 : decode cX10_breaks_ 205 = .ok (.iload_n 3, 1) := by decide +kernel
theorem dX10_breaks__206 : decode cX10_breaks_ 206 = .ok (.invokevirtual 163, 3) := by decide +kernel
theorem dX10_breaks__209 : decode cX10_breaks_ 209 = .ok (.ireturn, 1) := by decide +kernel
theorem dX10_breaks__210 : decode cX10_breaks_ 210 = .ok (.iinc 3 1, 3) := by decide +kernel
theorem dX10_breaks__213 : decode cX10_breaks_ 213 = .ok (.goto (-116), 3) := by decide +kernel
theorem dX10_breaks__216 : decode cX10_breaks_ 216 = .ok (.iinc 2 1, 3) := by decide +kernel
theorem dX10_breaks__219 : decode cX10_breaks_ 219 = .ok (.goto (-132), 3) := by decide +kernel
theorem dX10_breaks__222 : decode cX10_breaks_ 222 = .ok (.iconst 0, 1) := by decide +kernel
theorem dX10_breaks__223 : decode cX10_breaks_ 223 = .ok (.ireturn, 1) := by decide +kernel
theorem dX10_readsEven_0 : decode cX10_readsEven 0 = .ok (.aload_n 0, 1) := by decide +kernel
theorem dX10_readsEven_1 : decode cX10_readsEven 1 = .ok (.lconst 0, 1) := by decide +kernel
theorem dX10_readsEven_2 : decode cX10_readsEven 2 = .ok (.ldc2_w 166, 3) := by decide +kernel
theorem dX10_readsEven_5 : decode cX10_readsEven 5 = .ok (.invokevirtual 152, 3) := by decide +kernel
theorem dX10_readsEven_8 : decode cX10_readsEven 8 = .ok (.istore_n 1, 1) := by decide +kernel
theorem dX10_readsEven_9 : decode cX10_readsEven 9 = .ok (.iconst 0, 1) := by decide +kernel
theorem dX10_readsEven_10 : decode cX10_readsEven 10 = .ok (.istore_n 2, 1) := by decide +kernel
theorem dX10_readsEven_11 : decode cX10_readsEven 11 = .ok (.iload_n 2, 1) := by decide +kernel
theorem dX10_readsEven_12 : decode cX10_readsEven 12 = .ok (.aload_n 0, 1) := by decide +kernel
theorem dX10_readsEven_13 : decode cX10_readsEven 13 = .ok (.getfield 13, 3) := by decide +kernel
theorem dX10_readsEven_16 : decode cX10_readsEven 16 = .ok (.if_icmp .gt 29, 3) := by decide +kernel
theorem dX10_readsEven_19 : decode cX10_readsEven 19 = .ok (.aload_n 0, 1) := by decide +kernel
theorem dX10_readsEven_20 : decode cX10_readsEven 20 = .ok (.getfield 116, 3) := by decide +kernel
theorem dX10_readsEven_23 : decode cX10_readsEven 23 = .ok (.ifCond .ne 22, 3) := by decide +kernel
theorem dX10_readsEven_26 : decode cX10_readsEven 26 = .ok (.iload_n 2, 1) := by decide +kernel
theorem dX10_readsEven_27 : decode cX10_readsEven 27 = .ok (.invokestatic 104, 3) := by decide +kernel
theorem dX10_readsEven_30 : decode cX10_readsEven 30 = .ok (.iload_n 1, 1) := by decide +kernel
theorem dX10_readsEven_31 : decode cX10_readsEven 31 = .ok (.if_icmp .gt 8, 3) := by decide +kernel
theorem dX10_readsEven_34 : decode cX10_readsEven 34 = .ok (.aload_n 0, 1) := by decide +kernel
theorem dX10_readsEven_35 : decode cX10_readsEven 35 = .ok (.iload_n 2, 1) := by decide +kernel
theorem dX10_readsEven_36 : decode cX10_readsEven 36 = .ok (.invokevirtual 156, 3) := by decide +kernel
theorem dX10_readsEven_39 : decode cX10_readsEven 39 = .ok (.iinc 2 1, 3) := by decide +kernel
theorem dX10_readsEven_42 : decode cX10_readsEven 42 = .ok (.goto (-31), 3) := by decide +kernel
theorem dX10_readsEven_45 : decode cX10_readsEven 45 = .ok (.return_, 1) := by decide +kernel
theorem dX10_readsParts_0 : decode cX10_readsParts 0 = .ok (.iconst 0, 1) := by decide +kernel
theorem dX10_readsParts_1 : decode cX10_readsParts 1 = .ok (.istore_n 1, 1) := by decide +kernel
theorem dX10_readsParts_2 : decode cX10_readsParts 2 = .ok (.iconst 0, 1) := by decide +kernel
theorem dX10_readsParts_3 : decode cX10_readsParts 3 = .ok (.istore_n 2, 1) := by decide +kernel
theorem dX10_readsParts_4 : decode cX10_readsParts 4 = .ok (.iload_n 2, 1) := by decide +kernel
theorem dX10_readsParts_5 : decode cX10_readsParts 5 = .ok (.aload_n 0, 1) := by decide +kernel
theorem dX10_readsParts_6 : decode cX10_readsParts 6 = .ok (.getfield 7, 3) := by decide +kernel
theorem dX10_readsParts_9 : decode cX10_readsParts 9 = .ok (.if_icmp .ge 34, 3) := by decide +kernel
theorem dX10_readsParts_12 : decode cX10_readsParts 12 = .ok (.aload_n 0, 1) := by decide +kernel
theorem dX10_readsParts_13 : decode cX10_readsParts 13 = .ok (.getfield 57, 3) := by decide +kernel
theorem dX10_readsParts_16 : decode cX10_readsParts 16 = .ok (.iload_n 2, 1) := by decide +kernel
theorem dX10_readsParts_17 : decode cX10_readsParts 17 = .ok (.aload_n 0, 1) := by decide +kernel
theorem dX10_readsParts_18 : decode cX10_readsParts 18 = .ok (.lconst 0, 1) := by decide +kernel
theorem dX10_readsParts_19 : decode cX10_readsParts 19 = .ok (.ldc2_w 168, 3) := by decide +kernel
theorem dX10_readsParts_22 : decode cX10_readsParts 22 = .ok (.invokevirtual 152, 3) := by decide +kernel
theorem dX10_readsParts_25 : decode cX10_readsParts 25 = .ok (.iastore, 1) := by decide +kernel
theorem dX10_readsParts_26 : decode cX10_readsParts 26 = .ok (.iload_n 1, 1) := by decide +kernel
theorem dX10_readsParts_27 : decode cX10_readsParts 27 = .ok (.aload_n 0, 1) := by decide +kernel
theorem dX10_readsParts_28 : decode cX10_readsParts 28 = .ok (.getfield 57, 3) := by decide +kernel
theorem dX10_readsParts_31 : decode cX10_readsParts 31 = .ok (.iload_n 2, 1) := by decide +kernel
theorem dX10_readsParts_32 : decode cX10_readsParts 32 = .ok (.iaload, 1) := by decide +kernel
theorem dX10_readsParts_33 : decode cX10_readsParts 33 = .ok (.invokestatic 111, 3) := by decide +kernel
theorem dX10_readsParts_36 : decode cX10_readsParts 36 = .ok (.istore_n 1, 1) := by decide +kernel
theorem dX10_readsParts_37 : decode cX10_readsParts 37 = .ok (.iinc 2 1, 3) := by decide +kernel
theorem dX10_readsParts_40 : decode cX10_readsParts 40 = .ok (.goto (-36), 3) := by decide +kernel
theorem dX10_readsParts_43 : decode cX10_readsParts 43 = .ok (.iconst 0, 1) := by decide +kernel
theorem dX10_readsParts_44 : decode cX10_readsParts 44 = .ok (.istore_n 2, 1) := by decide +kernel
theorem dX10_readsParts_45 : decode cX10_readsParts 45 = .ok (.iload_n 2, 1) := by decide +kernel
theorem dX10_readsParts_46 : decode cX10_readsParts 46 = .ok (.iload_n 1, 1) := by decide +kernel
theorem dX10_readsParts_47 : decode cX10_readsParts 47 = .ok (.if_icmp .gt 23, 3) := by decide +kernel
theorem dX10_readsParts_50 : decode cX10_readsParts 50 = .ok (.aload_n 0, 1) := by decide +kernel
theorem dX10_readsParts_51 : decode cX10_readsParts 51 = .ok (.getfield 60, 3) := by decide +kernel
theorem dX10_readsParts_54 : decode cX10_readsParts 54 = .ok (.iload_n 2, 1) := by decide +kernel
theorem dX10_readsParts_55 : decode cX10_readsParts 55 = .ok (.aload_n 0, 1) := by decide +kernel
theorem dX10_readsParts_56 : decode cX10_readsParts 56 = .ok (.lconst 0, 1) := by decide +kernel
theorem dX10_readsParts_57 : decode cX10_readsParts 57 = .ok (.ldc2_w 166, 3) := by decide +kernel
theorem dX10_readsParts_60 : decode cX10_readsParts 60 = .ok (.invokevirtual 152, 3) := by decide +kernel
theorem dX10_readsParts_63 : decode cX10_readsParts 63 = .ok (.iastore, 1) := by decide +kernel
theorem dX10_readsParts_64 : decode cX10_readsParts 64 = .ok (.iinc 2 1, 3) := by decide +kernel
theorem dX10_readsParts_67 : decode cX10_readsParts 67 = .ok (.goto (-22), 3) := by decide +kernel
theorem dX10_readsParts_70 : decode cX10_readsParts 70 = .ok (.iconst 0, 1) := by decide +kernel
theorem dX10_readsParts_71 : decode cX10_readsParts 71 = .ok (.istore_n 2, 1) := by decide +kernel
theorem dX10_readsParts_72 : decode cX10_readsParts 72 = .ok (.iload_n 2, 1) := by decide +kernel
theorem dX10_readsParts_73 : decode cX10_readsParts 73 = .ok (.aload_n 0, 1) := by decide +kernel
theorem dX10_readsParts_74 : decode cX10_readsParts 74 = .ok (.getfield 13, 3) := by decide +kernel
theorem dX10_readsParts_77 : decode cX10_readsParts 77 = .ok (.if_icmp .gt 117, 3) := by decide +kernel
theorem dX10_readsParts_80 : decode cX10_readsParts 80 = .ok (.aload_n 0, 1) := by decide +kernel
theorem dX10_readsParts_81 : decode cX10_readsParts 81 = .ok (.getfield 116, 3) := by decide +kernel
theorem dX10_readsParts_84 : decode cX10_readsParts 84 = .ok (.ifCond .ne 110, 3) := by decide +kernel
theorem dX10_readsParts_87 : decode cX10_readsParts 87 = .ok (.iconst 1, 1) := by decide +kernel
theorem dX10_readsParts_88 : decode cX10_readsParts 88 = .ok (.istore_n 3, 1) := by decide +kernel
theorem dX10_readsParts_89 : decode cX10_readsParts 89 = .ok (.iconst 0, 1) := by decide +kernel
theorem dX10_readsParts_90 : decode cX10_readsParts 90 = .ok (.istore 4, 2) := by decide +kernel
theorem dX10_readsParts_92 : decode cX10_readsParts 92 = .ok (.iload 4, 2) := by decide +kernel
theorem dX10_readsParts_94 : decode cX10_readsParts 94 = .ok (.iload_n 1, 1) := by decide +kernel
theorem dX10_readsParts_95 : decode cX10_readsParts 95 = .ok (.if_icmp .gt 84, 3) := by decide +kernel
theorem dX10_readsParts_98 : decode cX10_readsParts 98 = .ok (.iconst 0, 1) := by decide +kernel
theorem dX10_readsParts_99 : decode cX10_readsParts 99 = .ok (.istore 5, 2) := by decide +kernel
theorem dX10_readsParts_101 : decode cX10_readsParts 101 = .ok (.iconst 0, 1) := by decide +kernel
theorem dX10_readsParts_102 : decode cX10_readsParts 102 = .ok (.istore 6, 2) := by decide +kernel
theorem dX10_readsParts_104 : decode cX10_readsParts 104 = .ok (.iload 6, 2) := by decide +kernel
theorem dX10_readsParts_106 : decode cX10_readsParts 106 = .ok (.aload_n 0, 1) := by decide +kernel
theorem dX10_readsParts_107 : decode cX10_readsParts 107 = .ok (.getfield 7, 3) := by decide +kernel
theorem dX10_readsParts_110 : decode cX10_readsParts 110 = .ok (.if_icmp .ge 41, 3) := by decide +kernel
theorem dX10_readsParts_113 : decode cX10_readsParts 113 = .ok (.iload 5, 2) := by decide +kernel
theorem dX10_readsParts_115 : decode cX10_readsParts 115 = .ok (.iload_n 2, 1) := by decide +kernel
theorem dX10_readsParts_116 : decode cX10_readsParts 116 = .ok (.iload 6, 2) := by decide +kernel
theorem dX10_readsParts_118 : decode cX10_readsParts 118 = .ok (.ishr, 1) := by decide +kernel
theorem dX10_readsParts_119 : decode cX10_readsParts 119 = .ok (.iconst 1, 1) := by decide +kernel
theorem dX10_readsParts_120 : decode cX10_readsParts 120 = .ok (.iand, 1) := by decide +kernel
theorem dX10_readsParts_121 : decode cX10_readsParts 121 = .ok (.iconst 1, 1) := by decide +kernel
theorem dX10_readsParts_122 : decode cX10_readsParts 122 = .ok (.if_icmp .ne 19, 3) := by decide +kernel
theorem dX10_readsParts_125 : decode cX10_readsParts 125 = .ok (.aload_n 0, 1) := by decide +kernel
theorem dX10_readsParts_126 : decode cX10_readsParts 126 = .ok (.getfield 57, 3) := by decide +kernel
theorem dX10_readsParts_129 : decode cX10_readsParts 129 = .ok (.iload 6, 2) := by decide +kernel
theorem dX10_readsParts_131 : decode cX10_readsParts 131 = .ok (.iaload, 1) := by decide +kernel
theorem dX10_readsParts_132 : decode cX10_readsParts 132 = .ok (.iload 4, 2) := by decide +kernel
theorem dX10_readsParts_134 : decode cX10_readsParts 134 = .ok (.if_icmp .ne 7, 3) := by decide +kernel
theorem dX10_readsParts_137 : decode cX10_readsParts 137 = .ok (.iconst 1, 1) := by decide +kernel
theorem dX10_readsParts_138 : decode cX10_readsParts 138 = .ok (.goto 4, 3) := by decide +kernel
theorem dX10_readsParts_141 : decode cX10_readsParts 141 = .ok (.iconst 0, 1) := by decide +kernel
theorem dX10_readsParts_142 : decode cX10_readsParts 142 = .ok (.iadd, 1) := by decide +kernel
theorem dX10_readsParts_143 : decode cX10_readsParts 143 = .ok (.istore 5, 2) := by decide +kernel
theorem dX10_readsParts_145 : decode cX10_readsParts 145 = .ok (.iinc 6 1, 3) := by decide +kernel
theorem dX10_readsParts_148 : decode cX10_readsParts 148 = .ok (.goto (-44), 3) := by decide +kernel
theorem dX10_readsParts_151 : decode cX10_readsParts 151 = .ok (.iload_n 3, 1) := by decide +kernel
theorem dX10_readsParts_152 : decode cX10_readsParts 152 = .ok (.ifCond .eq 19, 3) := by decide +kernel
theorem dX10_readsParts_155 : decode cX10_readsParts 155 = .ok (.iload 5, 2) := by decide +kernel
theorem dX10_readsParts_157 : decode cX10_readsParts 157 = .ok (.aload_n 0, 1) := by decide +kernel
theorem dX10_readsParts_158 : decode cX10_readsParts 158 = .ok (.getfield 60, 3) := by decide +kernel
theorem dX10_readsParts_161 : decode cX10_readsParts 161 = .ok (.iload 4, 2) := by decide +kernel
theorem dX10_readsParts_163 : decode cX10_readsParts 163 = .ok (.iaload, 1) := by decide +kernel
theorem dX10_readsParts_164 : decode cX10_readsParts 164 = .ok (.if_icmp .gt 7, 3) := by decide +kernel
theorem dX10_readsParts_167 : decode cX10_readsParts 167 = .ok (.iconst 1, 1) := by decide +kernel
theorem dX10_readsParts_168 : decode cX10_readsParts 168 = .ok (.goto 4, 3) := by decide +kernel
theorem dX10_readsParts_171 : decode cX10_readsParts 171 = .ok (.iconst 0, 1) := by decide +kernel
theorem dX10_readsParts_172 : decode cX10_readsParts 172 = .ok (.istore_n 3, 1) := by decide +kernel
theorem dX10_readsParts_173 : decode cX10_readsParts 173 = .ok (.iinc 4 1, 3) := by decide +kernel
theorem dX10_readsParts_176 : decode cX10_readsParts 176 = .ok (.goto (-84), 3) := by decide +kernel
theorem dX10_readsParts_179 : decode cX10_readsParts 179 = .ok (.iload_n 3, 1) := by decide +kernel
theorem dX10_readsParts_180 : decode cX10_readsParts 180 = .ok (.ifCond .eq 8, 3) := by decide +kernel
theorem dX10_readsParts_183 : decode cX10_readsParts 183 = .ok (.aload_n 0, 1) := by decide +kernel
theorem dX10_readsParts_184 : decode cX10_readsParts 184 = .ok (.iload_n 2, 1) := by decide +kernel
theorem dX10_readsParts_185 : decode cX10_readsParts 185 = .ok (.invokevirtual 156, 3) := by decide +kernel
theorem dX10_readsParts_188 : decode cX10_readsParts 188 = .ok (.iinc 2 1, 3) := by decide +kernel
theorem dX10_readsParts_191 : decode cX10_readsParts 191 = .ok (.goto (-119), 3) := by decide +kernel
theorem dX10_readsParts_194 : decode cX10_readsParts 194 = .ok (.return_, 1) := by decide +kernel
theorem dX10_readsNested_0 : decode cX10_readsNested 0 = .ok (.aload_n 0, 1) := by decide +kernel
theorem dX10_readsNested_1 : decode cX10_readsNested 1 = .ok (.lconst 0, 1) := by decide +kernel
theorem dX10_readsNested_2 : decode cX10_readsNested 2 = .ok (.ldc2_w 170, 3) := by decide +kernel
theorem dX10_readsNested_5 : decode cX10_readsNested 5 = .ok (.invokevirtual 152, 3) := by decide +kernel
theorem dX10_readsNested_8 : decode cX10_readsNested 8 = .ok (.istore_n 1, 1) := by decide +kernel
theorem dX10_readsNested_9 : decode cX10_readsNested 9 = .ok (.iconst 0, 1) := by decide +kernel
theorem dX10_readsNested_10 : decode cX10_readsNested 10 = .ok (.istore_n 2, 1) := by decide +kernel
theorem dX10_readsNested_11 : decode cX10_readsNested 11 = .ok (.iload_n 2, 1) := by decide +kernel
theorem dX10_readsNested_12 : decode cX10_readsNested 12 = .ok (.iload_n 1, 1) := by decide +kernel
theorem dX10_readsNested_13 : decode cX10_readsNested 13 = .ok (.if_icmp .ge 39, 3) := by decide +kernel
theorem dX10_readsNested_16 : decode cX10_readsNested 16 = .ok (.aload_n 0, 1) := by decide +kernel
theorem dX10_readsNested_17 : decode cX10_readsNested 17 = .ok (.getfield 57, 3) := by decide +kernel
theorem dX10_readsNested_20 : decode cX10_readsNested 20 = .ok (.iload_n 2, 1) := by decide +kernel
theorem dX10_readsNested_21 : decode cX10_readsNested 21 = .ok (.aload_n 0, 1) := by decide +kernel
theorem dX10_readsNested_22 : decode cX10_readsNested 22 = .ok (.lconst 0, 1) := by decide +kernel
theorem dX10_readsNested_23 : decode cX10_readsNested 23 = .ok (.aload_n 0, 1) := by decide +kernel
theorem dX10_readsNested_24 : decode cX10_readsNested 24 = .ok (.getfield 13, 3) := by decide +kernel
theorem dX10_readsNested_27 : decode cX10_readsNested 27 = .ok (.i2l, 1) := by decide +kernel
theorem dX10_readsNested_28 : decode cX10_readsNested 28 = .ok (.invokevirtual 152, 3) := by decide +kernel
theorem dX10_readsNested_31 : decode cX10_readsNested 31 = .ok (.iastore, 1) := by decide +kernel
theorem dX10_readsNested_32 : decode cX10_readsNested 32 = .ok (.aload_n 0, 1) := by decide +kernel
theorem dX10_readsNested_33 : decode cX10_readsNested 33 = .ok (.getfield 60, 3) := by decide +kernel
theorem dX10_readsNested_36 : decode cX10_readsNested 36 = .ok (.iload_n 2, 1) := by decide +kernel
theorem dX10_readsNested_37 : decode cX10_readsNested 37 = .ok (.aload_n 0, 1) := by decide +kernel
theorem dX10_readsNested_38 : decode cX10_readsNested 38 = .ok (.lconst 0, 1) := by decide +kernel
theorem dX10_readsNested_39 : decode cX10_readsNested 39 = .ok (.ldc2_w 166, 3) := by decide +kernel
theorem dX10_readsNested_42 : decode cX10_readsNested 42 = .ok (.invokevirtual 152, 3) := by decide +kernel
theorem dX10_readsNested_45 : decode cX10_readsNested 45 = .ok (.iastore, 1) := by decide +kernel
theorem dX10_readsNested_46 : decode cX10_readsNested 46 = .ok (.iinc 2 1, 3) := by decide +kernel
theorem dX10_readsNested_49 : decode cX10_readsNested 49 = .ok (.goto (-38), 3) := by decide +kernel
theorem dX10_readsNested_52 : decode cX10_readsNested 52 = .ok (.iconst 0, 1) := by decide +kernel
theorem dX10_readsNested_53 : decode cX10_readsNested 53 = .ok (.istore_n 2, 1) := by decide +kernel
theorem dX10_readsNested_54 : decode cX10_readsNested 54 = .ok (.iload_n 2, 1) := by decide +kernel
theorem dX10_readsNested_55 : decode cX10_readsNested 55 = .ok (.iload_n 1, 1) := by decide +kernel
theorem dX10_readsNested_56 : decode cX10_readsNested 56 = .ok (.if_icmp .ge 77, 3) := by decide +kernel
theorem dX10_readsNested_59 : decode cX10_readsNested 59 = .ok (.aload_n 0, 1) := by decide +kernel
theorem dX10_readsNested_60 : decode cX10_readsNested 60 = .ok (.getfield 116, 3) := by decide +kernel
theorem dX10_readsNested_63 : decode cX10_readsNested 63 = .ok (.ifCond .ne 70, 3) := by decide +kernel
theorem dX10_readsNested_66 : decode cX10_readsNested 66 = .ok (.iconst 0, 1) := by decide +kernel
theorem dX10_readsNested_67 : decode cX10_readsNested 67 = .ok (.istore_n 3, 1) := by decide +kernel
theorem dX10_readsNested_68 : decode cX10_readsNested 68 = .ok (.iload_n 3, 1) := by decide +kernel
theorem dX10_readsNested_69 : decode cX10_readsNested 69 = .ok (.iload_n 2, 1) := by decide +kernel
theorem dX10_readsNested_70 : decode cX10_readsNested 70 = .ok (.if_icmp .ge 57, 3) := by decide +kernel
theorem dX10_readsNested_73 : decode cX10_readsNested 73 = .ok (.aload_n 0, 1) := by decide +kernel
theorem dX10_readsNested_74 : decode cX10_readsNested 74 = .ok (.getfield 57, 3) := by decide +kernel
theorem dX10_readsNested_77 : decode cX10_readsNested 77 = .ok (.iload_n 2, 1) := by decide +kernel
theorem dX10_readsNested_78 : decode cX10_readsNested 78 = .ok (.iaload, 1) := by decide +kernel
theorem dX10_readsNested_79 : decode cX10_readsNested 79 = .ok (.aload_n 0, 1) := by decide +kernel
theorem dX10_readsNested_80 : decode cX10_readsNested 80 = .ok (.getfield 57, 3) := by decide +kernel
theorem dX10_readsNested_83 : decode cX10_readsNested 83 = .ok (.iload_n 3, 1) := by decide +kernel
theorem dX10_readsNested_84 : decode cX10_readsNested 84 = .ok (.iaload, 1) := by decide +kernel
theorem dX10_readsNested_85 : decode cX10_readsNested 85 = .ok (.iand, 1) := by decide +kernel
theorem dX10_readsNested_86 : decode cX10_readsNested 86 = .ok (.istore 4, 2) := by decide +kernel
theorem dX10_readsNested_88 : decode cX10_readsNested 88 = .ok (.iload 4, 2) := by decide +kernel
theorem dX10_readsNested_90 : decode cX10_readsNested 90 = .ok (.ifCond .eq 31, 3) := by decide +kernel
theorem dX10_readsNested_93 : decode cX10_readsNested 93 = .ok (.iload 4, 2) := by decide +kernel
theorem dX10_readsNested_95 : decode cX10_readsNested 95 = .ok (.aload_n 0, 1) := by decide +kernel
theorem dX10_readsNested_96 : decode cX10_readsNested 96 = .ok (.getfield 57, 3) := by decide +kernel
theorem dX10_readsNested_99 : decode cX10_readsNested 99 = .ok (.iload_n 2, 1) := by decide +kernel
theorem dX10_readsNested_100 : decode cX10_readsNested 100 = .ok (.iaload, 1) := by decide +kernel
theorem dX10_readsNested_101 : decode cX10_readsNested 101 = .ok (.if_icmp .eq 20, 3) := by decide +kernel
theorem dX10_readsNested_104 : decode cX10_readsNested 104 = .ok (.iload 4, 2) := by decide +kernel
theorem dX10_readsNested_106 : decode cX10_readsNested 106 = .ok (.aload_n 0, 1) := by decide +kernel
theorem dX10_readsNested_107 : decode cX10_readsNested 107 = .ok (.getfield 57, 3) := by decide +kernel
theorem dX10_readsNested_110 : decode cX10_readsNested 110 = .ok (.iload_n 3, 1) := by decide +kernel
theorem dX10_readsNested_111 : decode cX10_readsNested 111 = .ok (.iaload, 1) := by decide +kernel
theorem dX10_readsNested_112 : decode cX10_readsNested 112 = .ok (.if_icmp .eq 9, 3) := by decide +kernel
theorem dX10_readsNested_115 : decode cX10_readsNested 115 = .ok (.aload_n 0, 1) := by decide +kernel
theorem dX10_readsNested_116 : decode cX10_readsNested 116 = .ok (.bipush (-7), 2) := by decide +kernel
theorem dX10_readsNested_118 : decode cX10_readsNested 118 = .ok (.putfield 116, 3) := by decide +kernel
theorem dX10_readsNested_121 : decode cX10_readsNested 121 = .ok (.iinc 3 1, 3) := by decide +kernel
theorem dX10_readsNested_124 : decode cX10_readsNested 124 = .ok (.goto (-56), 3) := by decide +kernel
theorem dX10_readsNested_127 : decode cX10_readsNested 127 = .ok (.iinc 2 1, 3) := by decide +kernel
theorem dX10_readsNested_130 : decode cX10_readsNested 130 = .ok (.goto (-76), 3) := by decide +kernel
theorem dX10_readsNested_133 : decode cX10_readsNested 133 = .ok (.iconst 0, 1) := by decide +kernel
theorem dX10_readsNested_134 : decode cX10_readsNested 134 = .ok (.istore_n 2, 1) := by decide +kernel
theorem dX10_readsNested_135 : decode cX10_readsNested 135 = .ok (.iload_n 2, 1) := by decide +kernel
theorem dX10_readsNested_136 : decode cX10_readsNested 136 = .ok (.aload_n 0, 1) := by decide +kernel
theorem dX10_readsNested_137 : decode cX10_readsNested 137 = .ok (.getfield 13, 3) := by decide +kernel
theorem dX10_readsNested_140 : decode cX10_readsNested 140 = .ok (.if_icmp .gt 74, 3) := by decide +kernel
theorem dX10_readsNested_143 : decode cX10_readsNested 143 = .ok (.aload_n 0, 1) := by decide +kernel
theorem dX10_readsNested_144 : decode cX10_readsNested 144 = .ok (.getfield 116, 3) := by decide +kernel
theorem dX10_readsNested_147 : decode cX10_readsNested 147 = .ok (.ifCond .ne 67, 3) := by decide +kernel
theorem dX10_readsNested_150 : decode cX10_readsNested 150 = .ok (.iconst 1, 1) := by decide +kernel
theorem dX10_readsNested_151 : decode cX10_readsNested 151 = .ok (.istore_n 3, 1) := by decide +kernel
theorem dX10_readsNested_152 : decode cX10_readsNested 152 = .ok (.iconst 0, 1) := by decide +kernel
theorem dX10_readsNested_153 : decode cX10_readsNested 153 = .ok (.istore 4, 2) := by decide +kernel
theorem dX10_readsNested_155 : decode cX10_readsNested 155 = .ok (.iload 4, 2) := by decide +kernel
theorem dX10_readsNested_157 : decode cX10_readsNested 157 = .ok (.iload_n 1, 1) := by decide +kernel
theorem dX10_readsNested_158 : decode cX10_readsNested 158 = .ok (.if_icmp .ge 41, 3) := by decide +kernel
theorem dX10_readsNested_161 : decode cX10_readsNested 161 = .ok (.iload_n 3, 1) := by decide +kernel
theorem dX10_readsNested_162 : decode cX10_readsNested 162 = .ok (.ifCond .eq 29, 3) := by decide +kernel
theorem dX10_readsNested_165 : decode cX10_readsNested 165 = .ok (.iload_n 2, 1) := by decide +kernel
theorem dX10_readsNested_166 : decode cX10_readsNested 166 = .ok (.aload_n 0, 1) := by decide +kernel
theorem dX10_readsNested_167 : decode cX10_readsNested 167 = .ok (.getfield 57, 3) := by decide +kernel
theorem dX10_readsNested_170 : decode cX10_readsNested 170 = .ok (.iload 4, 2) := by decide +kernel
theorem dX10_readsNested_172 : decode cX10_readsNested 172 = .ok (.iaload, 1) := by decide +kernel
theorem dX10_readsNested_173 : decode cX10_readsNested 173 = .ok (.iand, 1) := by decide +kernel
theorem dX10_readsNested_174 : decode cX10_readsNested 174 = .ok (.invokestatic 104, 3) := by decide +kernel
theorem dX10_readsNested_177 : decode cX10_readsNested 177 = .ok (.aload_n 0, 1) := by decide +kernel
theorem dX10_readsNested_178 : decode cX10_readsNested 178 = .ok (.getfield 60, 3) := by decide +kernel
theorem dX10_readsNested_181 : decode cX10_readsNested 181 = .ok (.iload 4, 2) := by decide +kernel
theorem dX10_readsNested_183 : decode cX10_readsNested 183 = .ok (.iaload, 1) := by decide +kernel
theorem dX10_readsNested_184 : decode cX10_readsNested 184 = .ok (.if_icmp .gt 7, 3) := by decide +kernel
theorem dX10_readsNested_187 : decode cX10_readsNested 187 = .ok (.iconst 1, 1) := by decide +kernel
theorem dX10_readsNested_188 : decode cX10_readsNested 188 = .ok (.goto 4, 3) := by decide +kernel
theorem dX10_readsNested_191 : decode cX10_readsNested 191 = .ok (.iconst 0, 1) := by decide +kernel
theorem dX10_readsNested_192 : decode cX10_readsNested 192 = .ok (.istore_n 3, 1) := by decide +kernel
theorem dX10_readsNested_193 : decode cX10_readsNested 193 = .ok (.iinc 4 1, 3) := by decide +kernel
theorem dX10_readsNested_196 : decode cX10_readsNested 196 = .ok (.goto (-41), 3) := by decide +kernel
theorem dX10_readsNested_199 : decode cX10_readsNested 199 = .ok (.iload_n 3, 1) := by decide +kernel
theorem dX10_readsNested_200 : decode cX10_readsNested 200 = .ok (.ifCond .eq 8, 3) := by decide +kernel
theorem dX10_readsNested_203 : decode cX10_readsNested 203 = .ok (.aload_n 0, 1) := by decide +kernel
theorem dX10_readsNested_204 : decode cX10_readsNested 204 = .ok (.iload_n 2, 1) := by decide +kernel
theorem dX10_readsNested_205 : decode cX10_readsNested 205 = .ok (.invokevirtual 156, 3) := by decide +kernel
theorem dX10_readsNested_208 : decode cX10_readsNested 208 = .ok (.iinc 2 1, 3) := by decide +kernel
theorem dX10_readsNested_211 : decode cX10_readsNested 211 = .ok (.goto (-76), 3) := by decide +kernel
theorem dX10_readsNested_214 : decode cX10_readsNested 214 = .ok (.return_, 1) := by decide +kernel
theorem dX10_readsEdges_0 : decode cX10_readsEdges 0 = .ok (.iconst 0, 1) := by decide +kernel
theorem dX10_readsEdges_1 : decode cX10_readsEdges 1 = .ok (.istore_n 1, 1) := by decide +kernel
theorem dX10_readsEdges_2 : decode cX10_readsEdges 2 = .ok (.iload_n 1, 1) := by decide +kernel
theorem dX10_readsEdges_3 : decode cX10_readsEdges 3 = .ok (.aload_n 0, 1) := by decide +kernel
theorem dX10_readsEdges_4 : decode cX10_readsEdges 4 = .ok (.getfield 7, 3) := by decide +kernel
theorem dX10_readsEdges_7 : decode cX10_readsEdges 7 = .ok (.if_icmp .ge 37, 3) := by decide +kernel
theorem dX10_readsEdges_10 : decode cX10_readsEdges 10 = .ok (.aload_n 0, 1) := by decide +kernel
theorem dX10_readsEdges_11 : decode cX10_readsEdges 11 = .ok (.getfield 57, 3) := by decide +kernel
theorem dX10_readsEdges_14 : decode cX10_readsEdges 14 = .ok (.iload_n 1, 1) := by decide +kernel
theorem dX10_readsEdges_15 : decode cX10_readsEdges 15 = .ok (.aload_n 0, 1) := by decide +kernel
theorem dX10_readsEdges_16 : decode cX10_readsEdges 16 = .ok (.lconst 0, 1) := by decide +kernel
theorem dX10_readsEdges_17 : decode cX10_readsEdges 17 = .ok (.ldc2_w 172, 3) := by decide +kernel
theorem dX10_readsEdges_20 : decode cX10_readsEdges 20 = .ok (.invokevirtual 152, 3) := by decide +kernel
theorem dX10_readsEdges_23 : decode cX10_readsEdges 23 = .ok (.iastore, 1) := by decide +kernel
theorem dX10_readsEdges_24 : decode cX10_readsEdges 24 = .ok (.aload_n 0, 1) := by decide +kernel
theorem dX10_readsEdges_25 : decode cX10_readsEdges 25 = .ok (.getfield 60, 3) := by decide +kernel
theorem dX10_readsEdges_28 : decode cX10_readsEdges 28 = .ok (.iload_n 1, 1) := by decide +kernel
theorem dX10_readsEdges_29 : decode cX10_readsEdges 29 = .ok (.aload_n 0, 1) := by decide +kernel
theorem dX10_readsEdges_30 : decode cX10_readsEdges 30 = .ok (.lconst 0, 1) := by decide +kernel
theorem dX10_readsEdges_31 : decode cX10_readsEdges 31 = .ok (.ldc2_w 172, 3) := by decide +kernel
theorem dX10_readsEdges_34 : decode cX10_readsEdges 34 = .ok (.invokevirtual 152, 3) := by decide +kernel
theorem dX10_readsEdges_37 : decode cX10_readsEdges 37 = .ok (.iastore, 1) := by decide +kernel
theorem dX10_readsEdges_38 : decode cX10_readsEdges 38 = .ok (.iinc 1 1, 3) := by decide +kernel
theorem dX10_readsEdges_41 : decode cX10_readsEdges 41 = .ok (.goto (-39), 3) := by decide +kernel
theorem dX10_readsEdges_44 : decode cX10_readsEdges 44 = .ok (.iconst 0, 1) := by decide +kernel
theorem dX10_readsEdges_45 : decode cX10_readsEdges 45 = .ok (.istore_n 1, 1) := by decide +kernel
theorem dX10_readsEdges_46 : decode cX10_readsEdges 46 = .ok (.iload_n 1, 1) := by decide +kernel
theorem dX10_readsEdges_47 : decode cX10_readsEdges 47 = .ok (.aload_n 0, 1) := by decide +kernel
theorem dX10_readsEdges_48 : decode cX10_readsEdges 48 = .ok (.getfield 13, 3) := by decide +kernel
theorem dX10_readsEdges_51 : decode cX10_readsEdges 51 = .ok (.if_icmp .gt 165, 3) := by decide +kernel
theorem dX10_readsEdges_54 : decode cX10_readsEdges 54 = .ok (.aload_n 0, 1) := by decide +kernel
theorem dX10_readsEdges_55 : decode cX10_readsEdges 55 = .ok (.getfield 116, 3) := by decide +kernel
theorem dX10_readsEdges_58 : decode cX10_readsEdges 58 = .ok (.ifCond .ne 158, 3) := by decide +kernel
theorem dX10_readsEdges_61 : decode cX10_readsEdges 61 = .ok (.iconst 0, 1) := by decide +kernel
theorem dX10_readsEdges_62 : decode cX10_readsEdges 62 = .ok (.istore_n 2, 1) := by decide +kernel
theorem dX10_readsEdges_63 : decode cX10_readsEdges 63 = .ok (.iload_n 2, 1) := by decide +kernel
theorem dX10_readsEdges_64 : decode cX10_readsEdges 64 = .ok (.bipush 16, 2) := by decide +kernel
theorem dX10_readsEdges_66 : decode cX10_readsEdges 66 = .ok (.if_icmp .ge 16, 3) := by decide +kernel
theorem dX10_readsEdges_69 : decode cX10_readsEdges 69 = .ok (.aload_n 0, 1) := by decide +kernel
theorem dX10_readsEdges_70 : decode cX10_readsEdges 70 = .ok (.getfield 63, 3) := by decide +kernel
theorem dX10_readsEdges_73 : decode cX10_readsEdges 73 = .ok (.iload_n 2, 1) := by decide +kernel
theorem dX10_readsEdges_74 : decode cX10_readsEdges 74 = .ok (.iload_n 2, 1) := by decide +kernel
theorem dX10_readsEdges_75 : decode cX10_readsEdges 75 = .ok (.iastore, 1) := by decide +kernel
theorem dX10_readsEdges_76 : decode cX10_readsEdges 76 = .ok (.iinc 2 1, 3) := by decide +kernel
theorem dX10_readsEdges_79 : decode cX10_readsEdges 79 = .ok (.goto (-16), 3) := by decide +kernel
theorem dX10_readsEdges_82 : decode cX10_readsEdges 82 = .ok (.iconst 1, 1) := by decide +kernel
theorem dX10_readsEdges_83 : decode cX10_readsEdges 83 = .ok (.istore_n 2, 1) := by decide +kernel
theorem dX10_readsEdges_84 : decode cX10_readsEdges 84 = .ok (.iconst 0, 1) := by decide +kernel
theorem dX10_readsEdges_85 : decode cX10_readsEdges 85 = .ok (.istore_n 3, 1) := by decide +kernel
theorem dX10_readsEdges_86 : decode cX10_readsEdges 86 = .ok (.iload_n 3, 1) := by decide +kernel
theorem dX10_readsEdges_87 : decode cX10_readsEdges 87 = .ok (.aload_n 0, 1) := by decide +kernel
theorem dX10_readsEdges_88 : decode cX10_readsEdges 88 = .ok (.getfield 7, 3) := by decide +kernel
theorem dX10_readsEdges_91 : decode cX10_readsEdges 91 = .ok (.if_icmp .ge 110, 3) := by decide +kernel
theorem dX10_readsEdges_94 : decode cX10_readsEdges 94 = .ok (.iload_n 1, 1) := by decide +kernel
theorem dX10_readsEdges_95 : decode cX10_readsEdges 95 = .ok (.iload_n 3, 1) := by decide +kernel
theorem dX10_readsEdges_96 : decode cX10_readsEdges 96 = .ok (.ishr, 1) := by decide +kernel
theorem dX10_readsEdges_97 : decode cX10_readsEdges 97 = .ok (.iconst 1, 1) := by decide +kernel
theorem dX10_readsEdges_98 : decode cX10_readsEdges 98 = .ok (.iand, 1) := by decide +kernel
theorem dX10_readsEdges_99 : decode cX10_readsEdges 99 = .ok (.ifCond .ne 6, 3) := by decide +kernel
theorem dX10_readsEdges_102 : decode cX10_readsEdges 102 = .ok (.goto 93, 3) := by decide +kernel
theorem dX10_readsEdges_105 : decode cX10_readsEdges 105 = .ok (.aload_n 0, 1) := by decide +kernel
theorem dX10_readsEdges_106 : decode cX10_readsEdges 106 = .ok (.getfield 63, 3) := by decide +kernel
theorem dX10_readsEdges_109 : decode cX10_readsEdges 109 = .ok (.aload_n 0, 1) := by decide +kernel
theorem dX10_readsEdges_110 : decode cX10_readsEdges 110 = .ok (.getfield 57, 3) := by decide +kernel
theorem dX10_readsEdges_113 : decode cX10_readsEdges 113 = .ok (.iload_n 3, 1) := by decide +kernel
theorem dX10_readsEdges_114 : decode cX10_readsEdges 114 = .ok (.iaload, 1) := by decide +kernel
theorem dX10_readsEdges_115 : decode cX10_readsEdges 115 = .ok (.iaload, 1) := by decide +kernel
theorem dX10_readsEdges_116 : decode cX10_readsEdges 116 = .ok (.istore 4, 2) := by decide +kernel
theorem dX10_readsEdges_118 : decode cX10_readsEdges 118 = .ok (.aload_n 0, 1) := by decide +kernel
theorem dX10_readsEdges_119 : decode cX10_readsEdges 119 = .ok (.getfield 63, 3) := by decide +kernel
theorem dX10_readsEdges_122 : decode cX10_readsEdges 122 = .ok (.aload_n 0, 1) := by decide +kernel
theorem dX10_readsEdges_123 : decode cX10_readsEdges 123 = .ok (.getfield 60, 3) := by decide +kernel
theorem dX10_readsEdges_126 : decode cX10_readsEdges 126 = .ok (.iload_n 3, 1) := by decide +kernel
theorem dX10_readsEdges_127 : decode cX10_readsEdges 127 = .ok (.iaload, 1) := by decide +kernel
theorem dX10_readsEdges_128 : decode cX10_readsEdges 128 = .ok (.iaload, 1) := by decide +kernel
theorem dX10_readsEdges_129 : decode cX10_readsEdges 129 = .ok (.istore 5, 2) := by decide +kernel
theorem dX10_readsEdges_131 : decode cX10_readsEdges 131 = .ok (.iload_n 2, 1) := by decide +kernel
theorem dX10_readsEdges_132 : decode cX10_readsEdges 132 = .ok (.ifCond .eq 14, 3) := by decide +kernel
theorem dX10_readsEdges_135 : decode cX10_readsEdges 135 = .ok (.iload 4, 2) := by decide +kernel
theorem dX10_readsEdges_137 : decode cX10_readsEdges 137 = .ok (.iload 5, 2) := by decide +kernel
theorem dX10_readsEdges_139 : decode cX10_readsEdges 139 = .ok (.if_icmp .eq 7, 3) := by decide +kernel
theorem dX10_readsEdges_142 : decode cX10_readsEdges 142 = .ok (.iconst 1, 1) := by decide +kernel
theorem dX10_readsEdges_143 : decode cX10_readsEdges 143 = .ok (.goto 4, 3) := by decide +kernel
theorem dX10_readsEdges_146 : decode cX10_readsEdges 146 = .ok (.iconst 0, 1) := by decide +kernel
theorem dX10_readsEdges_147 : decode cX10_readsEdges 147 = .ok (.istore_n 2, 1) := by decide +kernel
theorem dX10_readsEdges_148 : decode cX10_readsEdges 148 = .ok (.iconst 0, 1) := by decide +kernel
theorem dX10_readsEdges_149 : decode cX10_readsEdges 149 = .ok (.istore 6, 2) := by decide +kernel
theorem dX10_readsEdges_151 : decode cX10_readsEdges 151 = .ok (.iload 6, 2) := by decide +kernel
theorem dX10_readsEdges_153 : decode cX10_readsEdges 153 = .ok (.bipush 16, 2) := by decide +kernel
theorem dX10_readsEdges_155 : decode cX10_readsEdges 155 = .ok (.if_icmp .ge 40, 3) := by decide +kernel
theorem dX10_readsEdges_158 : decode cX10_readsEdges 158 = .ok (.aload_n 0, 1) := by decide +kernel
theorem dX10_readsEdges_159 : decode cX10_readsEdges 159 = .ok (.getfield 63, 3) := by decide +kernel
theorem dX10_readsEdges_162 : decode cX10_readsEdges 162 = .ok (.iload 6, 2) := by decide +kernel
theorem dX10_readsEdges_164 : decode cX10_readsEdges 164 = .ok (.aload_n 0, 1) := by decide +kernel
theorem dX10_readsEdges_165 : decode cX10_readsEdges 165 = .ok (.getfield 63, 3) := by decide +kernel
theorem dX10_readsEdges_168 : decode cX10_readsEdges 168 = .ok (.iload 6, 2) := by decide +kernel
theorem dX10_readsEdges_170 : decode cX10_readsEdges 170 = .ok (.iaload, 1) := by decide +kernel
theorem dX10_readsEdges_171 : decode cX10_readsEdges 171 = .ok (.iload 4, 2) := by decide +kernel
theorem dX10_readsEdges_173 : decode cX10_readsEdges 173 = .ok (.if_icmp .ne 8, 3) := by decide +kernel
theorem dX10_readsEdges_176 : decode cX10_readsEdges 176 = .ok (.iload 5, 2) := by decide +kernel
theorem dX10_readsEdges_178 : decode cX10_readsEdges 178 = .ok (.goto 10, 3) := by decide +kernel
theorem dX10_readsEdges_181 : decode cX10_readsEdges 181 = .ok (.aload_n 0, 1) := by decide +kernel
theorem dX10_readsEdges_182 : decode cX10_readsEdges 182 = .ok (.getfield 63, 3) := by decide +kernel
theorem dX10_readsEdges_185 : decode cX10_readsEdges 185 = .ok (.iload 6, 2) := by decide +kernel
theorem dX10_readsEdges_187 : decode cX10_readsEdges 187 = .ok (.iaload, 1) := by decide +kernel
theorem dX10_readsEdges_188 : decode cX10_readsEdges 188 = .ok (.iastore, 1) := by decide +kernel
theorem dX10_readsEdges_189 : decode cX10_readsEdges 189 = .ok (.iinc 6 1, 3) := by decide +kernel
theorem dX10_readsEdges_192 : decode cX10_readsEdges 192 = .ok (.goto (-41), 3) := by decide +kernel
theorem dX10_readsEdges_195 : decode cX10_readsEdges 195 = .ok (.iinc 3 1, 3) := by decide +kernel
theorem dX10_readsEdges_198 : decode cX10_readsEdges 198 = .ok (.goto (-112), 3) := by decide +kernel
theorem dX10_readsEdges_201 : decode cX10_readsEdges 201 = .ok (.iload_n 2, 1) := by decide +kernel
theorem dX10_readsEdges_202 : decode cX10_readsEdges 202 = .ok (.ifCond .eq 8, 3) := by decide +kernel
theorem dX10_readsEdges_205 : decode cX10_readsEdges 205 = .ok (.aload_n 0, 1) := by decide +kernel
theorem dX10_readsEdges_206 : decode cX10_readsEdges 206 = .ok (.iload_n 1, 1) := by decide +kernel
theorem dX10_readsEdges_207 : decode cX10_readsEdges 207 = .ok (.invokevirtual 156, 3) := by decide +kernel
theorem dX10_readsEdges_210 : decode cX10_readsEdges 210 = .ok (.iinc 1 1, 3) := by decide +kernel
theorem dX10_readsEdges_213 : decode cX10_readsEdges 213 = .ok (.goto (-167), 3) := by decide +kernel
theorem dX10_readsEdges_216 : decode cX10_readsEdges 216 = .ok (.return_, 1) := by decide +kernel
theorem dX10_readsRows_0 : decode cX10_readsRows 0 = .ok (.aload_n 0, 1) := by decide +kernel
theorem dX10_readsRows_1 : decode cX10_readsRows 1 = .ok (.ldc2_w 174, 3) := by decide +kernel
theorem dX10_readsRows_4 : decode cX10_readsRows 4 = .ok (.ldc2_w 176, 3) := by decide +kernel
theorem dX10_readsRows_7 : decode cX10_readsRows 7 = .ok (.invokevirtual 152, 3) := by decide +kernel
theorem dX10_readsRows_10 : decode cX10_readsRows 10 = .ok (.istore_n 1, 1) := by decide +kernel
theorem dX10_readsRows_11 : decode cX10_readsRows 11 = .ok (.aload_n 0, 1) := by decide +kernel
theorem dX10_readsRows_12 : decode cX10_readsRows 12 = .ok (.getfield 116, 3) := by decide +kernel
theorem dX10_readsRows_15 : decode cX10_readsRows 15 = .ok (.ifCond .ne 30, 3) := by decide +kernel
theorem dX10_readsRows_18 : decode cX10_readsRows 18 = .ok (.iload_n 1, 1) := by decide +kernel
theorem dX10_readsRows_19 : decode cX10_readsRows 19 = .ok (.iconst 2, 1) := by decide +kernel
theorem dX10_readsRows_20 : decode cX10_readsRows 20 = .ok (.if_icmp .eq 25, 3) := by decide +kernel
theorem dX10_readsRows_23 : decode cX10_readsRows 23 = .ok (.iload_n 1, 1) := by decide +kernel
theorem dX10_readsRows_24 : decode cX10_readsRows 24 = .ok (.iconst 3, 1) := by decide +kernel
theorem dX10_readsRows_25 : decode cX10_readsRows 25 = .ok (.if_icmp .eq 20, 3) := by decide +kernel
theorem dX10_readsRows_28 : decode cX10_readsRows 28 = .ok (.iload_n 1, 1) := by decide +kernel
theorem dX10_readsRows_29 : decode cX10_readsRows 29 = .ok (.iconst 5, 1) := by decide +kernel
theorem dX10_readsRows_30 : decode cX10_readsRows 30 = .ok (.if_icmp .eq 15, 3) := by decide +kernel
theorem dX10_readsRows_33 : decode cX10_readsRows 33 = .ok (.iload_n 1, 1) := by decide +kernel
theorem dX10_readsRows_34 : decode cX10_readsRows 34 = .ok (.bipush 7, 2) := by decide +kernel
theorem dX10_readsRows_36 : decode cX10_readsRows 36 = .ok (.if_icmp .eq 9, 3) := by decide +kernel
theorem dX10_readsRows_39 : decode cX10_readsRows 39 = .ok (.aload_n 0, 1) := by decide +kernel
theorem dX10_readsRows_40 : decode cX10_readsRows 40 = .ok (.bipush (-4), 2) := by decide +kernel
theorem dX10_readsRows_42 : decode cX10_readsRows 42 = .ok (.putfield 116, 3) := by decide +kernel
theorem dX10_readsRows_45 : decode cX10_readsRows 45 = .ok (.aload_n 0, 1) := by decide +kernel
theorem dX10_readsRows_46 : decode cX10_readsRows 46 = .ok (.lconst 1, 1) := by decide +kernel
theorem dX10_readsRows_47 : decode cX10_readsRows 47 = .ok (.ldc2_w 178, 3) := by decide +kernel
theorem dX10_readsRows_50 : decode cX10_readsRows 50 = .ok (.invokevirtual 152, 3) := by decide +kernel
theorem dX10_readsRows_53 : decode cX10_readsRows 53 = .ok (.istore_n 2, 1) := by decide +kernel
theorem dX10_readsRows_54 : decode cX10_readsRows 54 = .ok (.iconst 0, 1) := by decide +kernel
theorem dX10_readsRows_55 : decode cX10_readsRows 55 = .ok (.istore_n 3, 1) := by decide +kernel
theorem dX10_readsRows_56 : decode cX10_readsRows 56 = .ok (.iload_n 3, 1) := by decide +kernel
theorem dX10_readsRows_57 : decode cX10_readsRows 57 = .ok (.aload_n 0, 1) := by decide +kernel
theorem dX10_readsRows_58 : decode cX10_readsRows 58 = .ok (.getfield 7, 3) := by decide +kernel
theorem dX10_readsRows_61 : decode cX10_readsRows 61 = .ok (.if_icmp .ge 45, 3) := by decide +kernel
theorem dX10_readsRows_64 : decode cX10_readsRows 64 = .ok (.iconst 0, 1) := by decide +kernel
theorem dX10_readsRows_65 : decode cX10_readsRows 65 = .ok (.istore 4, 2) := by decide +kernel
theorem dX10_readsRows_67 : decode cX10_readsRows 67 = .ok (.iload 4, 2) := by decide +kernel
theorem dX10_readsRows_69 : decode cX10_readsRows 69 = .ok (.iload_n 2, 1) := by decide +kernel
theorem dX10_readsRows_70 : decode cX10_readsRows 70 = .ok (.if_icmp .ge 30, 3) := by decide +kernel
theorem dX10_readsRows_73 : decode cX10_readsRows 73 = .ok (.aload_n 0, 1) := by decide +kernel
theorem dX10_readsRows_74 : decode cX10_readsRows 74 = .ok (.getfield 66, 3) := by decide +kernel
theorem dX10_readsRows_77 : decode cX10_readsRows 77 = .ok (.bipush 6, 2) := by decide +kernel
theorem dX10_readsRows_79 : decode cX10_readsRows 79 = .ok (.iload_n 3, 1) := by decide +kernel
theorem dX10_readsRows_80 : decode cX10_readsRows 80 = .ok (.imul, 1) := by decide +kernel
theorem dX10_readsRows_81 : decode cX10_readsRows 81 = .ok (.iload 4, 2) := by decide +kernel
theorem dX10_readsRows_83 : decode cX10_readsRows 83 = .ok (.iadd, 1) := by decide +kernel
theorem dX10_readsRows_84 : decode cX10_readsRows 84 = .ok (.aload_n 0, 1) := by decide +kernel
theorem dX10_readsRows_85 : decode cX10_readsRows 85 = .ok (.lconst 0, 1) := by decide +kernel
theorem dX10_readsRows_86 : decode cX10_readsRows 86 = .ok (.iload_n 1, 1) := by decide +kernel
theorem dX10_readsRows_87 : decode cX10_readsRows 87 = .ok (.iconst 1, 1) := by decide +kernel
theorem dX10_readsRows_88 : decode cX10_readsRows 88 = .ok (.isub, 1) := by decide +kernel
theorem dX10_readsRows_89 : decode cX10_readsRows 89 = .ok (.i2l, 1) := by decide +kernel
theorem dX10_readsRows_90 : decode cX10_readsRows 90 = .ok (.invokevirtual 152, 3) := by decide +kernel
theorem dX10_readsRows_93 : decode cX10_readsRows 93 = .ok (.iastore, 1) := by decide +kernel
theorem dX10_readsRows_94 : decode cX10_readsRows 94 = .ok (.iinc 4 1, 3) := by decide +kernel
theorem dX10_readsRows_97 : decode cX10_readsRows 97 = .ok (.goto (-30), 3) := by decide +kernel
theorem dX10_readsRows_100 : decode cX10_readsRows 100 = .ok (.iinc 3 1, 3) := by decide +kernel
theorem dX10_readsRows_103 : decode cX10_readsRows 103 = .ok (.goto (-47), 3) := by decide +kernel
theorem dX10_readsRows_106 : decode cX10_readsRows 106 = .ok (.iconst 0, 1) := by decide +kernel
theorem dX10_readsRows_107 : decode cX10_readsRows 107 = .ok (.istore_n 3, 1) := by decide +kernel
theorem dX10_readsRows_108 : decode cX10_readsRows 108 = .ok (.iload_n 3, 1) := by decide +kernel
theorem dX10_readsRows_109 : decode cX10_readsRows 109 = .ok (.aload_n 0, 1) := by decide +kernel
theorem dX10_readsRows_110 : decode cX10_readsRows 110 = .ok (.getfield 13, 3) := by decide +kernel
theorem dX10_readsRows_113 : decode cX10_readsRows 113 = .ok (.if_icmp .gt 31, 3) := by decide +kernel
theorem dX10_readsRows_116 : decode cX10_readsRows 116 = .ok (.aload_n 0, 1) := by decide +kernel
theorem dX10_readsRows_117 : decode cX10_readsRows 117 = .ok (.getfield 116, 3) := by decide +kernel
theorem dX10_readsRows_120 : decode cX10_readsRows 120 = .ok (.ifCond .ne 24, 3) := by decide +kernel
theorem dX10_readsRows_123 : decode cX10_readsRows 123 = .ok (.aload_n 0, 1) := by decide +kernel
theorem dX10_readsRows_124 : decode cX10_readsRows 124 = .ok (.iload_n 3, 1) := by decide +kernel
theorem dX10_readsRows_125 : decode cX10_readsRows 125 = .ok (.iload_n 1, 1) := by decide +kernel
theorem dX10_readsRows_126 : decode cX10_readsRows 126 = .ok (.iload_n 2, 1) := by decide +kernel
theorem dX10_readsRows_127 : decode cX10_readsRows 127 = .ok (.invokevirtual 180, 3) := by decide +kernel
theorem dX10_readsRows_130 : decode cX10_readsRows 130 = .ok (.ifCond .eq 8, 3) := by decide +kernel
theorem dX10_readsRows_133 : decode cX10_readsRows 133 = .ok (.aload_n 0, 1) := by decide +kernel
theorem dX10_readsRows_134 : decode cX10_readsRows 134 = .ok (.iload_n 3, 1) := by decide +kernel
theorem dX10_readsRows_135 : decode cX10_readsRows 135 = .ok (.invokevirtual 156, 3) := by decide +kernel
theorem dX10_readsRows_138 : decode cX10_readsRows 138 = .ok (.iinc 3 1, 3) := by decide +kernel
theorem dX10_readsRows_141 : decode cX10_readsRows 141 = .ok (.goto (-33), 3) := by decide +kernel
theorem dX10_readsRows_144 : decode cX10_readsRows 144 = .ok (.return_, 1) := by decide +kernel
theorem dX10_isFree_0 : decode cX10_isFree 0 = .ok (.iconst 0, 1) := by decide +kernel
theorem dX10_isFree_1 : decode cX10_isFree 1 = .ok (.istore 4, 2) := by decide +kernel
theorem dX10_isFree_3 : decode cX10_isFree 3 = .ok (.iconst 0, 1) := by decide +kernel
theorem dX10_isFree_4 : decode cX10_isFree 4 = .ok (.istore 5, 2) := by decide +kernel
theorem dX10_isFree_6 : decode cX10_isFree 6 = .ok (.iload 5, 2) := by decide +kernel
theorem dX10_isFree_8 : decode cX10_isFree 8 = .ok (.aload_n 0, 1) := by decide +kernel
theorem dX10_isFree_9 : decode cX10_isFree 9 = .ok (.getfield 7, 3) := by decide +kernel
theorem dX10_isFree_12 : decode cX10_isFree 12 = .ok (.if_icmp .ge 261, 3) := by decide +kernel
theorem dX10_isFree_15 : decode cX10_isFree 15 = .ok (.iload_n 1, 1) := by decide +kernel
theorem dX10_isFree_16 : decode cX10_isFree 16 = .ok (.iload 5, 2) := by decide +kernel
theorem dX10_isFree_18 : decode cX10_isFree 18 = .ok (.ishr, 1) := by decide +kernel
theorem dX10_isFree_19 : decode cX10_isFree 19 = .ok (.iconst 1, 1) := by decide +kernel
theorem dX10_isFree_20 : decode cX10_isFree 20 = .ok (.iand, 1) := by decide +kernel
theorem dX10_isFree_21 : decode cX10_isFree 21 = .ok (.ifCond .ne 6, 3) := by decide +kernel
theorem dX10_isFree_24 : decode cX10_isFree 24 = .ok (.goto 243, 3) := by decide +kernel
theorem dX10_isFree_27 : decode cX10_isFree 27 = .ok (.iconst 0, 1) := by decide +kernel
theorem dX10_isFree_28 : decode cX10_isFree 28 = .ok (.istore 6, 2) := by decide +kernel
theorem dX10_isFree_30 : decode cX10_isFree 30 = .ok (.iload 6, 2) := by decide +kernel
theorem dX10_isFree_32 : decode cX10_isFree 32 = .ok (.iload_n 3, 1) := by decide +kernel
theorem dX10_isFree_33 : decode cX10_isFree 33 = .ok (.if_icmp .ge 35, 3) := by decide +kernel
theorem dX10_isFree_36 : decode cX10_isFree 36 = .ok (.aload_n 0, 1) := by decide +kernel
theorem dX10_isFree_37 : decode cX10_isFree 37 = .ok (.getfield 69, 3) := by decide +kernel
theorem dX10_isFree_40 : decode cX10_isFree 40 = .ok (.bipush 6, 2) := by decide +kernel
theorem dX10_isFree_42 : decode cX10_isFree 42 = .ok (.iload 4, 2) := by decide +kernel
theorem dX10_isFree_44 : decode cX10_isFree 44 = .ok (.imul, 1) := by decide +kernel
theorem dX10_isFree_45 : decode cX10_isFree 45 = .ok (.iload 6, 2) := by decide +kernel
theorem dX10_isFree_47 : decode cX10_isFree 47 = .ok (.iadd, 1) := by decide +kernel
theorem dX10_isFree_48 : decode cX10_isFree 48 = .ok (.aload_n 0, 1) := by decide +kernel
theorem dX10_isFree_49 : decode cX10_isFree 49 = .ok (.getfield 66, 3) := by decide +kernel
theorem dX10_isFree_52 : decode cX10_isFree 52 = .ok (.bipush 6, 2) := by decide +kernel
theorem dX10_isFree_54 : decode cX10_isFree 54 = .ok (.iload 5, 2) := by decide +kernel
theorem dX10_isFree_56 : decode cX10_isFree 56 = .ok (.imul, 1) := by decide +kernel
theorem dX10_isFree_57 : decode cX10_isFree 57 = .ok (.iload 6, 2) := by decide +kernel
theorem dX10_isFree_59 : decode cX10_isFree 59 = .ok (.iadd, 1) := by decide +kernel
theorem dX10_isFree_60 : decode cX10_isFree 60 = .ok (.iaload, 1) := by decide +kernel
theorem dX10_isFree_61 : decode cX10_isFree 61 = .ok (.iastore, 1) := by decide +kernel
theorem dX10_isFree_62 : decode cX10_isFree 62 = .ok (.iinc 6 1, 3) := by decide +kernel
theorem dX10_isFree_65 : decode cX10_isFree 65 = .ok (.goto (-35), 3) := by decide +kernel
theorem dX10_isFree_68 : decode cX10_isFree 68 = .ok (.iconst 0, 1) := by decide +kernel
theorem dX10_isFree_69 : decode cX10_isFree 69 = .ok (.istore 6, 2) := by decide +kernel
theorem dX10_isFree_71 : decode cX10_isFree 71 = .ok (.iload 6, 2) := by decide +kernel
theorem dX10_isFree_73 : decode cX10_isFree 73 = .ok (.iload 4, 2) := by decide +kernel
theorem dX10_isFree_75 : decode cX10_isFree 75 = .ok (.if_icmp .ge 95, 3) := by decide +kernel
theorem dX10_isFree_78 : decode cX10_isFree 78 = .ok (.aload_n 0, 1) := by decide +kernel
theorem dX10_isFree_79 : decode cX10_isFree 79 = .ok (.iload 6, 2) := by decide +kernel
theorem dX10_isFree_81 : decode cX10_isFree 81 = .ok (.iload_n 3, 1) := by decide +kernel
theorem dX10_isFree_82 : decode cX10_isFree 82 = .ok (.invokevirtual 183, 3) := by decide +kernel
theorem dX10_isFree_85 : decode cX10_isFree 85 = .ok (.istore 7, 2) := by decide +kernel
theorem dX10_isFree_87 : decode cX10_isFree 87 = .ok (.aload_n 0, 1) := by decide +kernel
theorem dX10_isFree_88 : decode cX10_isFree 88 = .ok (.getfield 69, 3) := by decide +kernel
theorem dX10_isFree_91 : decode cX10_isFree 91 = .ok (.bipush 6, 2) := by decide +kernel
theorem dX10_isFree_93 : decode cX10_isFree 93 = .ok (.iload 4, 2) := by decide +kernel
theorem dX10_isFree_95 : decode cX10_isFree 95 = .ok (.imul, 1) := by decide +kernel
theorem dX10_isFree_96 : decode cX10_isFree 96 = .ok (.iload 7, 2) := by decide +kernel
theorem dX10_isFree_98 : decode cX10_isFree 98 = .ok (.iadd, 1) := by decide +kernel
theorem dX10_isFree_99 : decode cX10_isFree 99 = .ok (.iaload, 1) := by decide +kernel
theorem dX10_isFree_100 : decode cX10_isFree 100 = .ok (.istore 8, 2) := by decide +kernel
theorem dX10_isFree_102 : decode cX10_isFree 102 = .ok (.iconst 0, 1) := by decide +kernel
theorem dX10_isFree_103 : decode cX10_isFree 103 = .ok (.istore 9, 2) := by decide +kernel
theorem dX10_isFree_105 : decode cX10_isFree 105 = .ok (.iload 9, 2) := by decide +kernel
theorem dX10_isFree_107 : decode cX10_isFree 107 = .ok (.iload_n 3, 1) := by decide +kernel
theorem dX10_isFree_108 : decode cX10_isFree 108 = .ok (.if_icmp .ge 56, 3) := by decide +kernel
theorem dX10_isFree_111 : decode cX10_isFree 111 = .ok (.aload_n 0, 1) := by decide +kernel
theorem dX10_isFree_112 : decode cX10_isFree 112 = .ok (.getfield 69, 3) := by decide +kernel
theorem dX10_isFree_115 : decode cX10_isFree 115 = .ok (.bipush 6, 2) := by decide +kernel
theorem dX10_isFree_117 : decode cX10_isFree 117 = .ok (.iload 4, 2) := by decide +kernel
theorem dX10_isFree_119 : decode cX10_isFree 119 = .ok (.imul, 1) := by decide +kernel
theorem dX10_isFree_120 : decode cX10_isFree 120 = .ok (.iload 9, 2) := by decide +kernel
theorem dX10_isFree_122 : decode cX10_isFree 122 = .ok (.iadd, 1) := by decide +kernel
theorem dX10_isFree_123 : decode cX10_isFree 123 = .ok (.aload_n 0, 1) := by decide +kernel
theorem dX10_isFree_124 : decode cX10_isFree 124 = .ok (.getfield 69, 3) := by decide +kernel
theorem dX10_isFree_127 : decode cX10_isFree 127 = .ok (.bipush 6, 2) := by decide +kernel
theorem dX10_isFree_129 : decode cX10_isFree 129 = .ok (.iload 4, 2) := by decide +kernel
theorem dX10_isFree_131 : decode cX10_isFree 131 = .ok (.imul, 1) := by decide +kernel
theorem dX10_isFree_132 : decode cX10_isFree 132 = .ok (.iload 9, 2) := by decide +kernel
theorem dX10_isFree_134 : decode cX10_isFree 134 = .ok (.iadd, 1) := by decide +kernel
theorem dX10_isFree_135 : decode cX10_isFree 135 = .ok (.iaload, 1) := by decide +kernel
theorem dX10_isFree_136 : decode cX10_isFree 136 = .ok (.iload 8, 2) := by decide +kernel
theorem dX10_isFree_138 : decode cX10_isFree 138 = .ok (.aload_n 0, 1) := by decide +kernel
theorem dX10_isFree_139 : decode cX10_isFree 139 = .ok (.getfield 69, 3) := by decide +kernel
theorem dX10_isFree_142 : decode cX10_isFree 142 = .ok (.bipush 6, 2) := by decide +kernel
theorem dX10_isFree_144 : decode cX10_isFree 144 = .ok (.iload 6, 2) := by decide +kernel
theorem dX10_isFree_146 : decode cX10_isFree 146 = .ok (.imul, 1) := by decide +kernel
theorem dX10_isFree_147 : decode cX10_isFree 147 = .ok (.iload 9, 2) := by decide +kernel
theorem dX10_isFree_149 : decode cX10_isFree 149 = .ok (.iadd, 1) := by decide +kernel
theorem dX10_isFree_150 : decode cX10_isFree 150 = .ok (.iaload, 1) := by decide +kernel
theorem dX10_isFree_151 : decode cX10_isFree 151 = .ok (.imul, 1) := by decide +kernel
theorem dX10_isFree_152 : decode cX10_isFree 152 = .ok (.isub, 1) := by decide +kernel
theorem dX10_isFree_153 : decode cX10_isFree 153 = .ok (.iload_n 2, 1) := by decide +kernel
theorem dX10_isFree_154 : decode cX10_isFree 154 = .ok (.invokestatic 186, 3) := by decide +kernel
theorem dX10_isFree_157 : decode cX10_isFree 157 = .ok (.iastore, 1) := by decide +kernel
theorem dX10_isFree_158 : decode cX10_isFree 158 = .ok (.iinc 9 1, 3) := by decide +kernel
theorem dX10_isFree_161 : decode cX10_isFree 161 = .ok (.goto (-56), 3) := by decide +kernel
theorem dX10_isFree_164 : decode cX10_isFree 164 = .ok (.iinc 6 1, 3) := by decide +kernel
theorem dX10_isFree_167 : decode cX10_isFree 167 = .ok (.goto (-96), 3) := by decide +kernel
theorem dX10_isFree_170 : decode cX10_isFree 170 = .ok (.aload_n 0, 1) := by decide +kernel
theorem dX10_isFree_171 : decode cX10_isFree 171 = .ok (.iload 4, 2) := by decide +kernel
theorem dX10_isFree_173 : decode cX10_isFree 173 = .ok (.iload_n 3, 1) := by decide +kernel
theorem dX10_isFree_174 : decode cX10_isFree 174 = .ok (.invokevirtual 183, 3) := by decide +kernel
theorem dX10_isFree_177 : decode cX10_isFree 177 = .ok (.istore 6, 2) := by decide +kernel
theorem dX10_isFree_179 : decode cX10_isFree 179 = .ok (.iload 6, 2) := by decide +kernel
theorem dX10_isFree_181 : decode cX10_isFree 181 = .ok (.iload_n 3, 1) := by decide +kernel
theorem dX10_isFree_182 : decode cX10_isFree 182 = .ok (.if_icmp .ne 5, 3) := by decide +kernel
theorem dX10_isFree_185 : decode cX10_isFree 185 = .ok (.iconst 0, 1) := by decide +kernel
theorem dX10_isFree_186 : decode cX10_isFree 186 = .ok (.ireturn, 1) := by decide +kernel
theorem dX10_isFree_187 : decode cX10_isFree 187 = .ok (.iconst 1, 1) := by decide +kernel
theorem dX10_isFree_188 : decode cX10_isFree 188 = .ok (.istore 7, 2) := by decide +kernel
theorem dX10_isFree_190 : decode cX10_isFree 190 = .ok (.iload 7, 2) := by decide +kernel
theorem dX10_isFree_192 : decode cX10_isFree 192 = .ok (.aload_n 0, 1) := by decide +kernel
theorem dX10_isFree_193 : decode cX10_isFree 193 = .ok (.getfield 69, 3) := by decide +kernel
theorem dX10_isFree_196 : decode cX10_isFree 196 = .ok (.bipush 6, 2) := by decide +kernel
theorem dX10_isFree_198 : decode cX10_isFree 198 = .ok (.iload 4, 2) := by decide +kernel
theorem dX10_isFree_200 : decode cX10_isFree 200 = .ok (.imul, 1) := by decide +kernel
theorem dX10_isFree_201 : decode cX10_isFree 201 = .ok (.iload 6, 2) := by decide +kernel
theorem dX10_isFree_203 : decode cX10_isFree 203 = .ok (.iadd, 1) := by decide +kernel
theorem dX10_isFree_204 : decode cX10_isFree 204 = .ok (.iaload, 1) := by decide +kernel
theorem dX10_isFree_205 : decode cX10_isFree 205 = .ok (.imul, 1) := by decide +kernel
theorem dX10_isFree_206 : decode cX10_isFree 206 = .ok (.iload_n 2, 1) := by decide +kernel
theorem dX10_isFree_207 : decode cX10_isFree 207 = .ok (.irem, 1) := by decide +kernel
theorem dX10_isFree_208 : decode cX10_isFree 208 = .ok (.iconst 1, 1) := by decide +kernel
theorem dX10_isFree_209 : decode cX10_isFree 209 = .ok (.if_icmp .eq 9, 3) := by decide +kernel
theorem dX10_isFree_212 : decode cX10_isFree 212 = .ok (.iinc 7 1, 3) := by decide +kernel
theorem dX10_isFree_215 : decode cX10_isFree 215 = .ok (.goto (-25), 3) := by decide +kernel
theorem dX10_isFree_218 : decode cX10_isFree 218 = .ok (.iconst 0, 1) := by decide +kernel
theorem dX10_isFree_219 : decode cX10_isFree 219 = .ok (.istore 8, 2) := by decide +kernel
theorem dX10_isFree_221 : decode cX10_isFree 221 = .ok (.iload 8, 2) := by decide +kernel
theorem dX10_isFree_223 : decode cX10_isFree 223 = .ok (.iload_n 3, 1) := by decide +kernel
theorem dX10_isFree_224 : decode cX10_isFree 224 = .ok (.if_icmp .ge 40, 3) := by decide +kernel
theorem dX10_isFree_227 : decode cX10_isFree 227 = .ok (.aload_n 0, 1) := by decide +kernel
theorem dX10_isFree_228 : decode cX10_isFree 228 = .ok (.getfield 69, 3) := by decide +kernel
theorem dX10_isFree_231 : decode cX10_isFree 231 = .ok (.bipush 6, 2) := by decide +kernel
theorem dX10_isFree_233 : decode cX10_isFree 233 = .ok (.iload 4, 2) := by decide +kernel
theorem dX10_isFree_235 : decode cX10_isFree 235 = .ok (.imul, 1) := by decide +kernel
theorem dX10_isFree_236 : decode cX10_isFree 236 = .ok (.iload 8, 2) := by decide +kernel
theorem dX10_isFree_238 : decode cX10_isFree 238 = .ok (.iadd, 1) := by decide +kernel
theorem dX10_isFree_239 : decode cX10_isFree 239 = .ok (.iload 7, 2) := by decide +kernel
theorem dX10_isFree_241 : decode cX10_isFree 241 = .ok (.aload_n 0, 1) := by decide +kernel
theorem dX10_isFree_242 : decode cX10_isFree 242 = .ok (.getfield 69, 3) := by decide +kernel
theorem dX10_isFree_245 : decode cX10_isFree 245 = .ok (.bipush 6, 2) := by decide +kernel
theorem dX10_isFree_247 : decode cX10_isFree 247 = .ok (.iload 4, 2) := by decide +kernel
theorem dX10_isFree_249 : decode cX10_isFree 249 = .ok (.imul, 1) := by decide +kernel
theorem dX10_isFree_250 : decode cX10_isFree 250 = .ok (.iload 8, 2) := by decide +kernel
theorem dX10_isFree_252 : decode cX10_isFree 252 = .ok (.iadd, 1) := by decide +kernel
theorem dX10_isFree_253 : decode cX10_isFree 253 = .ok (.iaload, 1) := by decide +kernel
theorem dX10_isFree_254 : decode cX10_isFree 254 = .ok (.imul, 1) := by decide +kernel
theorem dX10_isFree_255 : decode cX10_isFree 255 = .ok (.iload_n 2, 1) := by decide +kernel
theorem dX10_isFree_256 : decode cX10_isFree 256 = .ok (.irem, 1) := by decide +kernel
theorem dX10_isFree_257 : decode cX10_isFree 257 = .ok (.iastore, 1) := by decide +kernel
theorem dX10_isFree_258 : decode cX10_isFree 258 = .ok (.iinc 8 1, 3) := by decide +kernel
theorem dX10_isFree_261 : decode cX10_isFree 261 = .ok (.goto (-40), 3) := by decide +kernel
theorem dX10_isFree_264 : decode cX10_isFree 264 = .ok (.iinc 4 1, 3) := by decide +kernel
theorem dX10_isFree_267 : decode cX10_isFree 267 = .ok (.iinc 5 1, 3) := by decide +kernel
theorem dX10_isFree_270 : decode cX10_isFree 270 = .ok (.goto (-264), 3) := by decide +kernel
theorem dX10_isFree_273 : decode cX10_isFree 273 = .ok (.iconst 1, 1) := by decide +kernel
theorem dX10_isFree_274 : decode cX10_isFree 274 = .ok (.ireturn, 1) := by decide +kernel
theorem dX10_lead_0 : decode cX10_lead 0 = .ok (.iconst 0, 1) := by decide +kernel
theorem dX10_lead_1 : decode cX10_lead 1 = .ok (.istore_n 3, 1) := by decide +kernel
theorem dX10_lead_2 : decode cX10_lead 2 = .ok (.iload_n 3, 1) := by decide +kernel
theorem dX10_lead_3 : decode cX10_lead 3 = .ok (.iload_n 2, 1) := by decide +kernel
theorem dX10_lead_4 : decode cX10_lead 4 = .ok (.if_icmp .ge 23, 3) := by decide +kernel
theorem dX10_lead_7 : decode cX10_lead 7 = .ok (.aload_n 0, 1) := by decide +kernel
theorem dX10_lead_8 : decode cX10_lead 8 = .ok (.getfield 69, 3) := by decide +kernel
theorem dX10_lead_11 : decode cX10_lead 11 = .ok (.bipush 6, 2) := by decide +kernel
theorem dX10_lead_13 : decode cX10_lead 13 = .ok (.iload_n 1, 1) := by decide +kernel
theorem dX10_lead_14 : decode cX10_lead 14 = .ok (.imul, 1) := by decide +kernel
theorem dX10_lead_15 : decode cX10_lead 15 = .ok (.iload_n 3, 1) := by decide +kernel
theorem dX10_lead_16 : decode cX10_lead 16 = .ok (.iadd, 1) := by decide +kernel
theorem dX10_lead_17 : decode cX10_lead 17 = .ok (.iaload, 1) := by decide +kernel
theorem dX10_lead_18 : decode cX10_lead 18 = .ok (.ifCond .ne 9, 3) := by decide +kernel
theorem dX10_lead_21 : decode cX10_lead 21 = .ok (.iinc 3 1, 3) := by decide +kernel
theorem dX10_lead_24 : decode cX10_lead 24 = .ok (.goto (-22), 3) := by decide +kernel
theorem dX10_lead_27 : decode cX10_lead 27 = .ok (.iload_n 3, 1) := by decide +kernel
theorem dX10_lead_28 : decode cX10_lead 28 = .ok (.ireturn, 1) := by decide +kernel
theorem dX10_readsPlaces_0 : decode cX10_readsPlaces 0 = .ok (.iconst 0, 1) := by decide +kernel
theorem dX10_readsPlaces_1 : decode cX10_readsPlaces 1 = .ok (.istore_n 1, 1) := by decide +kernel
theorem dX10_readsPlaces_2 : decode cX10_readsPlaces 2 = .ok (.iload_n 1, 1) := by decide +kernel
theorem dX10_readsPlaces_3 : decode cX10_readsPlaces 3 = .ok (.aload_n 0, 1) := by decide +kernel
theorem dX10_readsPlaces_4 : decode cX10_readsPlaces 4 = .ok (.getfield 7, 3) := by decide +kernel
theorem dX10_readsPlaces_7 : decode cX10_readsPlaces 7 = .ok (.if_icmp .ge 23, 3) := by decide +kernel
theorem dX10_readsPlaces_10 : decode cX10_readsPlaces 10 = .ok (.aload_n 0, 1) := by decide +kernel
theorem dX10_readsPlaces_11 : decode cX10_readsPlaces 11 = .ok (.getfield 57, 3) := by decide +kernel
theorem dX10_readsPlaces_14 : decode cX10_readsPlaces 14 = .ok (.iload_n 1, 1) := by decide +kernel
theorem dX10_readsPlaces_15 : decode cX10_readsPlaces 15 = .ok (.aload_n 0, 1) := by decide +kernel
theorem dX10_readsPlaces_16 : decode cX10_readsPlaces 16 = .ok (.lconst 0, 1) := by decide +kernel
theorem dX10_readsPlaces_17 : decode cX10_readsPlaces 17 = .ok (.ldc2_w 189, 3) := by decide +kernel
theorem dX10_readsPlaces_20 : decode cX10_readsPlaces 20 = .ok (.invokevirtual 152, 3) := by decide +kernel
theorem dX10_readsPlaces_23 : decode cX10_readsPlaces 23 = .ok (.iastore, 1) := by decide +kernel
theorem dX10_readsPlaces_24 : decode cX10_readsPlaces 24 = .ok (.iinc 1 1, 3) := by decide +kernel
theorem dX10_readsPlaces_27 : decode cX10_readsPlaces 27 = .ok (.goto (-25), 3) := by decide +kernel
theorem dX10_readsPlaces_30 : decode cX10_readsPlaces 30 = .ok (.iconst 0, 1) := by decide +kernel
theorem dX10_readsPlaces_31 : decode cX10_readsPlaces 31 = .ok (.istore_n 1, 1) := by decide +kernel
theorem dX10_readsPlaces_32 : decode cX10_readsPlaces 32 = .ok (.iload_n 1, 1) := by decide +kernel
theorem dX10_readsPlaces_33 : decode cX10_readsPlaces 33 = .ok (.aload_n 0, 1) := by decide +kernel
theorem dX10_readsPlaces_34 : decode cX10_readsPlaces 34 = .ok (.getfield 13, 3) := by decide +kernel
theorem dX10_readsPlaces_37 : decode cX10_readsPlaces 37 = .ok (.if_icmp .gt 111, 3) := by decide +kernel
theorem dX10_readsPlaces_40 : decode cX10_readsPlaces 40 = .ok (.aload_n 0, 1) := by decide +kernel
theorem dX10_readsPlaces_41 : decode cX10_readsPlaces 41 = .ok (.getfield 116, 3) := by decide +kernel
theorem dX10_readsPlaces_44 : decode cX10_readsPlaces 44 = .ok (.ifCond .ne 104, 3) := by decide +kernel
theorem dX10_readsPlaces_47 : decode cX10_readsPlaces 47 = .ok (.iconst 1, 1) := by decide +kernel
theorem dX10_readsPlaces_48 : decode cX10_readsPlaces 48 = .ok (.istore_n 2, 1) := by decide +kernel
theorem dX10_readsPlaces_49 : decode cX10_readsPlaces 49 = .ok (.iload_n 1, 1) := by decide +kernel
theorem dX10_readsPlaces_50 : decode cX10_readsPlaces 50 = .ok (.istore_n 3, 1) := by decide +kernel
theorem dX10_readsPlaces_51 : decode cX10_readsPlaces 51 = .ok (.iload_n 3, 1) := by decide +kernel
theorem dX10_readsPlaces_52 : decode cX10_readsPlaces 52 = .ok (.ifCond .le 81, 3) := by decide +kernel
theorem dX10_readsPlaces_55 : decode cX10_readsPlaces 55 = .ok (.iconst 0, 1) := by decide +kernel
theorem dX10_readsPlaces_56 : decode cX10_readsPlaces 56 = .ok (.istore 4, 2) := by decide +kernel
theorem dX10_readsPlaces_58 : decode cX10_readsPlaces 58 = .ok (.iconst 0, 1) := by decide +kernel
theorem dX10_readsPlaces_59 : decode cX10_readsPlaces 59 = .ok (.istore 5, 2) := by decide +kernel
theorem dX10_readsPlaces_61 : decode cX10_readsPlaces 61 = .ok (.iload 5, 2) := by decide +kernel
theorem dX10_readsPlaces_63 : decode cX10_readsPlaces 63 = .ok (.aload_n 0, 1) := by decide +kernel
theorem dX10_readsPlaces_64 : decode cX10_readsPlaces 64 = .ok (.getfield 7, 3) := by decide +kernel
theorem dX10_readsPlaces_67 : decode cX10_readsPlaces 67 = .ok (.if_icmp .ge 35, 3) := by decide +kernel
theorem dX10_readsPlaces_70 : decode cX10_readsPlaces 70 = .ok (.iload 4, 2) := by decide +kernel
theorem dX10_readsPlaces_72 : decode cX10_readsPlaces 72 = .ok (.iload_n 3, 1) := by decide +kernel
theorem dX10_readsPlaces_73 : decode cX10_readsPlaces 73 = .ok (.iload 5, 2) := by decide +kernel
theorem dX10_readsPlaces_75 : decode cX10_readsPlaces 75 = .ok (.ishr, 1) := by decide +kernel
theorem dX10_readsPlaces_76 : decode cX10_readsPlaces 76 = .ok (.iconst 1, 1) := by decide +kernel
theorem dX10_readsPlaces_77 : decode cX10_readsPlaces 77 = .ok (.iand, 1) := by decide +kernel
theorem dX10_readsPlaces_78 : decode cX10_readsPlaces 78 = .ok (.iconst 1, 1) := by decide +kernel
theorem dX10_readsPlaces_79 : decode cX10_readsPlaces 79 = .ok (.if_icmp .ne 13, 3) := by decide +kernel
theorem dX10_readsPlaces_82 : decode cX10_readsPlaces 82 = .ok (.aload_n 0, 1) := by decide +kernel
theorem dX10_readsPlaces_83 : decode cX10_readsPlaces 83 = .ok (.getfield 57, 3) := by decide +kernel
theorem dX10_readsPlaces_86 : decode cX10_readsPlaces 86 = .ok (.iload 5, 2) := by decide +kernel
theorem dX10_readsPlaces_88 : decode cX10_readsPlaces 88 = .ok (.iaload, 1) := by decide +kernel
theorem dX10_readsPlaces_89 : decode cX10_readsPlaces 89 = .ok (.goto 4, 3) := by decide +kernel
theorem dX10_readsPlaces_92 : decode cX10_readsPlaces 92 = .ok (.iconst 0, 1) := by decide +kernel
theorem dX10_readsPlaces_93 : decode cX10_readsPlaces 93 = .ok (.ior, 1) := by decide +kernel
theorem dX10_readsPlaces_94 : decode cX10_readsPlaces 94 = .ok (.istore 4, 2) := by decide +kernel
theorem dX10_readsPlaces_96 : decode cX10_readsPlaces 96 = .ok (.iinc 5 1, 3) := by decide +kernel
theorem dX10_readsPlaces_99 : decode cX10_readsPlaces 99 = .ok (.goto (-38), 3) := by decide +kernel
theorem dX10_readsPlaces_102 : decode cX10_readsPlaces 102 = .ok (.iload_n 2, 1) := by decide +kernel
theorem dX10_readsPlaces_103 : decode cX10_readsPlaces 103 = .ok (.ifCond .eq 19, 3) := by decide +kernel
theorem dX10_readsPlaces_106 : decode cX10_readsPlaces 106 = .ok (.iload 4, 2) := by decide +kernel
theorem dX10_readsPlaces_108 : decode cX10_readsPlaces 108 = .ok (.invokestatic 104, 3) := by decide +kernel
theorem dX10_readsPlaces_111 : decode cX10_readsPlaces 111 = .ok (.iload_n 3, 1) := by decide +kernel
theorem dX10_readsPlaces_112 : decode cX10_readsPlaces 112 = .ok (.invokestatic 104, 3) := by decide +kernel
theorem dX10_readsPlaces_115 : decode cX10_readsPlaces 115 = .ok (.if_icmp .lt 7, 3) := by decide +kernel
theorem dX10_readsPlaces_118 : decode cX10_readsPlaces 118 = .ok (.iconst 1, 1) := by decide +kernel
theorem dX10_readsPlaces_119 : decode cX10_readsPlaces 119 = .ok (.goto 4, 3) := by decide +kernel
theorem dX10_readsPlaces_122 : decode cX10_readsPlaces 122 = .ok (.iconst 0, 1) := by decide +kernel
theorem dX10_readsPlaces_123 : decode cX10_readsPlaces 123 = .ok (.istore_n 2, 1) := by decide +kernel
theorem dX10_readsPlaces_124 : decode cX10_readsPlaces 124 = .ok (.iload_n 3, 1) := by decide +kernel
theorem dX10_readsPlaces_125 : decode cX10_readsPlaces 125 = .ok (.iconst 1, 1) := by decide +kernel
theorem dX10_readsPlaces_126 : decode cX10_readsPlaces 126 = .ok (.isub, 1) := by decide +kernel
theorem dX10_readsPlaces_127 : decode cX10_readsPlaces 127 = .ok (.iload_n 1, 1) := by decide +kernel
theorem dX10_readsPlaces_128 : decode cX10_readsPlaces 128 = .ok (.iand, 1) := by decide +kernel
theorem dX10_readsPlaces_129 : decode cX10_readsPlaces 129 = .ok (.istore_n 3, 1) := by decide +kernel
theorem dX10_readsPlaces_130 : decode cX10_readsPlaces 130 = .ok (.goto (-79), 3) := by decide +kernel
theorem dX10_readsPlaces_133 : decode cX10_readsPlaces 133 = .ok (.iload_n 2, 1) := by decide +kernel
theorem dX10_readsPlaces_134 : decode cX10_readsPlaces 134 = .ok (.ifCond .eq 8, 3) := by decide +kernel
theorem dX10_readsPlaces_137 : decode cX10_readsPlaces 137 = .ok (.aload_n 0, 1) := by decide +kernel
theorem dX10_readsPlaces_138 : decode cX10_readsPlaces 138 = .ok (.iload_n 1, 1) := by decide +kernel
theorem dX10_readsPlaces_139 : decode cX10_readsPlaces 139 = .ok (.invokevirtual 156, 3) := by decide +kernel
theorem dX10_readsPlaces_142 : decode cX10_readsPlaces 142 = .ok (.iinc 1 1, 3) := by decide +kernel
theorem dX10_readsPlaces_145 : decode cX10_readsPlaces 145 = .ok (.goto (-113), 3) := by decide +kernel
theorem dX10_readsPlaces_148 : decode cX10_readsPlaces 148 = .ok (.return_, 1) := by decide +kernel
theorem dX10_refused_0 : decode cX10_refused 0 = .ok (.aload_n 0, 1) := by decide +kernel
theorem dX10_refused_1 : decode cX10_refused 1 = .ok (.iload_n 1, 1) := by decide +kernel
theorem dX10_refused_2 : decode cX10_refused 2 = .ok (.invokevirtual 191, 3) := by decide +kernel
theorem dX10_refused_5 : decode cX10_refused 5 = .ok (.ifCond .eq 11, 3) := by decide +kernel
theorem dX10_refused_8 : decode cX10_refused 8 = .ok (.aload_n 0, 1) := by decide +kernel
theorem dX10_refused_9 : decode cX10_refused 9 = .ok (.iload_n 2, 1) := by decide +kernel
theorem dX10_refused_10 : decode cX10_refused 10 = .ok (.invokevirtual 194, 3) := by decide +kernel
theorem dX10_refused_13 : decode cX10_refused 13 = .ok (.ifCond .ne 6, 3) := by decide +kernel
theorem dX10_refused_16 : decode cX10_refused 16 = .ok (.bipush (-2), 2) := by decide +kernel
theorem dX10_refused_18 : decode cX10_refused 18 = .ok (.ireturn, 1) := by decide +kernel
theorem dX10_refused_19 : decode cX10_refused 19 = .ok (.aload_n 0, 1) := by decide +kernel
theorem dX10_refused_20 : decode cX10_refused 20 = .ok (.getfield 85, 3) := by decide +kernel
theorem dX10_refused_23 : decode cX10_refused 23 = .ok (.bipush 24, 2) := by decide +kernel
theorem dX10_refused_25 : decode cX10_refused 25 = .ok (.if_icmp .ne 6, 3) := by decide +kernel
theorem dX10_refused_28 : decode cX10_refused 28 = .ok (.bipush (-8), 2) := by decide +kernel
theorem dX10_refused_30 : decode cX10_refused 30 = .ok (.ireturn, 1) := by decide +kernel
theorem dX10_refused_31 : decode cX10_refused 31 = .ok (.aload_n 0, 1) := by decide +kernel
theorem dX10_refused_32 : decode cX10_refused 32 = .ok (.getfield 38, 3) := by decide +kernel
theorem dX10_refused_35 : decode cX10_refused 35 = .ok (.iload_n 1, 1) := by decide +kernel
theorem dX10_refused_36 : decode cX10_refused 36 = .ok (.iaload, 1) := by decide +kernel
theorem dX10_refused_37 : decode cX10_refused 37 = .ok (.iconst 3, 1) := by decide +kernel
theorem dX10_refused_38 : decode cX10_refused 38 = .ok (.if_icmp .ne 8, 3) := by decide +kernel
theorem dX10_refused_41 : decode cX10_refused 41 = .ok (.bipush (-3), 2) := by decide +kernel
theorem dX10_refused_43 : decode cX10_refused 43 = .ok (.goto 4, 3) := by decide +kernel
theorem dX10_refused_46 : decode cX10_refused 46 = .ok (.iconst 0, 1) := by decide +kernel
theorem dX10_refused_47 : decode cX10_refused 47 = .ok (.ireturn, 1) := by decide +kernel
theorem dX10_table_0 : decode cX10_table 0 = .ok (.aload_n 0, 1) := by decide +kernel
theorem dX10_table_1 : decode cX10_table 1 = .ok (.getfield 21, 3) := by decide +kernel
theorem dX10_table_4 : decode cX10_table 4 = .ok (.sipush 4096, 3) := by decide +kernel
theorem dX10_table_7 : decode cX10_table 7 = .ok (.aload_n 0, 1) := by decide +kernel
theorem dX10_table_8 : decode cX10_table 8 = .ok (.getfield 85, 3) := by decide +kernel
theorem dX10_table_11 : decode cX10_table 11 = .ok (.imul, 1) := by decide +kernel
theorem dX10_table_12 : decode cX10_table 12 = .ok (.iload_n 1, 1) := by decide +kernel
theorem dX10_table_13 : decode cX10_table 13 = .ok (.iadd, 1) := by decide +kernel
theorem dX10_table_14 : decode cX10_table 14 = .ok (.iload_n 2, 1) := by decide +kernel
theorem dX10_table_15 : decode cX10_table 15 = .ok (.bastore, 1) := by decide +kernel
theorem dX10_table_16 : decode cX10_table 16 = .ok (.return_, 1) := by decide +kernel
theorem dX10_less_0 : decode cX10_less 0 = .ok (.aload_n 0, 1) := by decide +kernel
theorem dX10_less_1 : decode cX10_less 1 = .ok (.iload_n 1, 1) := by decide +kernel
theorem dX10_less_2 : decode cX10_less 2 = .ok (.iload_n 2, 1) := by decide +kernel
theorem dX10_less_3 : decode cX10_less 3 = .ok (.invokevirtual 197, 3) := by decide +kernel
theorem dX10_less_6 : decode cX10_less 6 = .ok (.istore_n 3, 1) := by decide +kernel
theorem dX10_less_7 : decode cX10_less 7 = .ok (.iload_n 3, 1) := by decide +kernel
theorem dX10_less_8 : decode cX10_less 8 = .ok (.ifCond .eq 5, 3) := by decide +kernel
theorem dX10_less_11 : decode cX10_less 11 = .ok (.iload_n 3, 1) := by decide +kernel
theorem dX10_less_12 : decode cX10_less 12 = .ok (.ireturn, 1) := by decide +kernel
theorem dX10_less_13 : decode cX10_less 13 = .ok (.iconst 0, 1) := by decide +kernel
theorem dX10_less_14 : decode cX10_less 14 = .ok (.istore 4, 2) := by decide +kernel
theorem dX10_less_16 : decode cX10_less 16 = .ok (.iload 4, 2) := by decide +kernel
theorem dX10_less_18 : decode cX10_less 18 = .ok (.aload_n 0, 1) := by decide +kernel
theorem dX10_less_19 : decode cX10_less 19 = .ok (.getfield 13, 3) := by decide +kernel
theorem dX10_less_22 : decode cX10_less 22 = .ok (.if_icmp .gt 37, 3) := by decide +kernel
theorem dX10_less_25 : decode cX10_less 25 = .ok (.aload_n 0, 1) := by decide +kernel
theorem dX10_less_26 : decode cX10_less 26 = .ok (.iload 4, 2) := by decide +kernel
theorem dX10_less_28 : decode cX10_less 28 = .ok (.iload 4, 2) := by decide +kernel
theorem dX10_less_30 : decode cX10_less 30 = .ok (.iload_n 2, 1) := by decide +kernel
theorem dX10_less_31 : decode cX10_less 31 = .ok (.iand, 1) := by decide +kernel
theorem dX10_less_32 : decode cX10_less 32 = .ok (.ifCond .ne 17, 3) := by decide +kernel
theorem dX10_less_35 : decode cX10_less 35 = .ok (.aload_n 0, 1) := by decide +kernel
theorem dX10_less_36 : decode cX10_less 36 = .ok (.iload_n 1, 1) := by decide +kernel
theorem dX10_less_37 : decode cX10_less 37 = .ok (.iload 4, 2) := by decide +kernel
theorem dX10_less_39 : decode cX10_less 39 = .ok (.invokevirtual 100, 3) := by decide +kernel
theorem dX10_less_42 : decode cX10_less 42 = .ok (.ifCond .eq 7, 3) := by decide +kernel
theorem dX10_less_45 : decode cX10_less 45 = .ok (.iconst 1, 1) := by decide +kernel
theorem dX10_less_46 : decode cX10_less 46 = .ok (.goto 4, 3) := by decide +kernel
theorem dX10_less_49 : decode cX10_less 49 = .ok (.iconst 0, 1) := by decide +kernel
theorem dX10_less_50 : decode cX10_less 50 = .ok (.invokevirtual 200, 3) := by decide +kernel
theorem dX10_less_53 : decode cX10_less 53 = .ok (.iinc 4 1, 3) := by decide +kernel
theorem dX10_less_56 : decode cX10_less 56 = .ok (.goto (-40), 3) := by decide +kernel
theorem dX10_less_59 : decode cX10_less 59 = .ok (.aload_n 0, 1) := by decide +kernel
theorem dX10_less_60 : decode cX10_less 60 = .ok (.bipush 7, 2) := by decide +kernel
theorem dX10_less_62 : decode cX10_less 62 = .ok (.iload_n 1, 1) := by decide +kernel
theorem dX10_less_63 : decode cX10_less 63 = .ok (.iconst (-1), 1) := by decide +kernel
theorem dX10_less_64 : decode cX10_less 64 = .ok (.aload_n 0, 1) := by decide +kernel
theorem dX10_less_65 : decode cX10_less 65 = .ok (.getfield 38, 3) := by decide +kernel
theorem dX10_less_68 : decode cX10_less 68 = .ok (.iload_n 1, 1) := by decide +kernel
theorem dX10_less_69 : decode cX10_less 69 = .ok (.iaload, 1) := by decide +kernel
theorem dX10_less_70 : decode cX10_less 70 = .ok (.iconst 1, 1) := by decide +kernel
theorem dX10_less_71 : decode cX10_less 71 = .ok (.iadd, 1) := by decide +kernel
theorem dX10_less_72 : decode cX10_less 72 = .ok (.invokevirtual 146, 3) := by decide +kernel
theorem dX10_less_75 : decode cX10_less 75 = .ok (.ireturn, 1) := by decide +kernel
theorem dX10_take_0 : decode cX10_take 0 = .ok (.aload_n 0, 1) := by decide +kernel
theorem dX10_take_1 : decode cX10_take 1 = .ok (.iload_n 1, 1) := by decide +kernel
theorem dX10_take_2 : decode cX10_take 2 = .ok (.iload_n 2, 1) := by decide +kernel
theorem dX10_take_3 : decode cX10_take 3 = .ok (.invokevirtual 197, 3) := by decide +kernel
theorem dX10_take_6 : decode cX10_take 6 = .ok (.istore_n 3, 1) := by decide +kernel
theorem dX10_take_7 : decode cX10_take 7 = .ok (.iload_n 3, 1) := by decide +kernel
theorem dX10_take_8 : decode cX10_take 8 = .ok (.ifCond .eq 5, 3) := by decide +kernel
theorem dX10_take_11 : decode cX10_take 11 = .ok (.iload_n 3, 1) := by decide +kernel
theorem dX10_take_12 : decode cX10_take 12 = .ok (.ireturn, 1) := by decide +kernel
theorem dX10_take_13 : decode cX10_take 13 = .ok (.iconst 0, 1) := by decide +kernel
theorem dX10_take_14 : decode cX10_take 14 = .ok (.istore 4, 2) := by decide +kernel
theorem dX10_take_16 : decode cX10_take 16 = .ok (.iload 4, 2) := by decide +kernel
theorem dX10_take_18 : decode cX10_take 18 = .ok (.aload_n 0, 1) := by decide +kernel
theorem dX10_take_19 : decode cX10_take 19 = .ok (.getfield 13, 3) := by decide +kernel
theorem dX10_take_22 : decode cX10_take 22 = .ok (.if_icmp .gt 51, 3) := by decide +kernel
theorem dX10_take_25 : decode cX10_take 25 = .ok (.aload_n 0, 1) := by decide +kernel
theorem dX10_take_26 : decode cX10_take 26 = .ok (.iload 4, 2) := by decide +kernel
theorem dX10_take_28 : decode cX10_take 28 = .ok (.iload 4, 2) := by decide +kernel
theorem dX10_take_30 : decode cX10_take 30 = .ok (.iload_n 2, 1) := by decide +kernel
theorem dX10_take_31 : decode cX10_take 31 = .ok (.iand, 1) := by decide +kernel
theorem dX10_take_32 : decode cX10_take 32 = .ok (.ifCond .ne 31, 3) := by decide +kernel
theorem dX10_take_35 : decode cX10_take 35 = .ok (.aload_n 0, 1) := by decide +kernel
theorem dX10_take_36 : decode cX10_take 36 = .ok (.iload_n 1, 1) := by decide +kernel
theorem dX10_take_37 : decode cX10_take 37 = .ok (.iload 4, 2) := by decide +kernel
theorem dX10_take_39 : decode cX10_take 39 = .ok (.iload_n 2, 1) := by decide +kernel
theorem dX10_take_40 : decode cX10_take 40 = .ok (.ior, 1) := by decide +kernel
theorem dX10_take_41 : decode cX10_take 41 = .ok (.invokevirtual 108, 3) := by decide +kernel
theorem dX10_take_44 : decode cX10_take 44 = .ok (.aload_n 0, 1) := by decide +kernel
theorem dX10_take_45 : decode cX10_take 45 = .ok (.iload_n 1, 1) := by decide +kernel
theorem dX10_take_46 : decode cX10_take 46 = .ok (.iload_n 2, 1) := by decide +kernel
theorem dX10_take_47 : decode cX10_take 47 = .ok (.invokevirtual 108, 3) := by decide +kernel
theorem dX10_take_50 : decode cX10_take 50 = .ok (.iload 4, 2) := by decide +kernel
theorem dX10_take_52 : decode cX10_take 52 = .ok (.invokestatic 104, 3) := by decide +kernel
theorem dX10_take_55 : decode cX10_take 55 = .ok (.iadd, 1) := by decide +kernel
theorem dX10_take_56 : decode cX10_take 56 = .ok (.if_icmp .ne 7, 3) := by decide +kernel
theorem dX10_take_59 : decode cX10_take 59 = .ok (.iconst 1, 1) := by decide +kernel
theorem dX10_take_60 : decode cX10_take 60 = .ok (.goto 4, 3) := by decide +kernel
theorem dX10_take_63 : decode cX10_take 63 = .ok (.iconst 0, 1) := by decide +kernel
theorem dX10_take_64 : decode cX10_take 64 = .ok (.invokevirtual 200, 3) := by decide +kernel
theorem dX10_take_67 : decode cX10_take 67 = .ok (.iinc 4 1, 3) := by decide +kernel
theorem dX10_take_70 : decode cX10_take 70 = .ok (.goto (-54), 3) := by decide +kernel
theorem dX10_take_73 : decode cX10_take 73 = .ok (.aload_n 0, 1) := by decide +kernel
theorem dX10_take_74 : decode cX10_take 74 = .ok (.bipush 8, 2) := by decide +kernel
theorem dX10_take_76 : decode cX10_take 76 = .ok (.iload_n 1, 1) := by decide +kernel
theorem dX10_take_77 : decode cX10_take 77 = .ok (.iconst (-1), 1) := by decide +kernel
theorem dX10_take_78 : decode cX10_take 78 = .ok (.aload_n 0, 1) := by decide +kernel
theorem dX10_take_79 : decode cX10_take 79 = .ok (.getfield 38, 3) := by decide +kernel
theorem dX10_take_82 : decode cX10_take 82 = .ok (.iload_n 1, 1) := by decide +kernel
theorem dX10_take_83 : decode cX10_take 83 = .ok (.iaload, 1) := by decide +kernel
theorem dX10_take_84 : decode cX10_take 84 = .ok (.iconst 1, 1) := by decide +kernel
theorem dX10_take_85 : decode cX10_take 85 = .ok (.iadd, 1) := by decide +kernel
theorem dX10_take_86 : decode cX10_take 86 = .ok (.invokevirtual 146, 3) := by decide +kernel
theorem dX10_take_89 : decode cX10_take 89 = .ok (.ireturn, 1) := by decide +kernel
theorem dX10_turn_0 : decode cX10_turn 0 = .ok (.aload_n 0, 1) := by decide +kernel
theorem dX10_turn_1 : decode cX10_turn 1 = .ok (.iload_n 1, 1) := by decide +kernel
theorem dX10_turn_2 : decode cX10_turn 2 = .ok (.iconst 0, 1) := by decide +kernel
theorem dX10_turn_3 : decode cX10_turn 3 = .ok (.invokevirtual 197, 3) := by decide +kernel
theorem dX10_turn_6 : decode cX10_turn 6 = .ok (.istore_n 2, 1) := by decide +kernel
theorem dX10_turn_7 : decode cX10_turn 7 = .ok (.iload_n 2, 1) := by decide +kernel
theorem dX10_turn_8 : decode cX10_turn 8 = .ok (.ifCond .eq 5, 3) := by decide +kernel
theorem dX10_turn_11 : decode cX10_turn 11 = .ok (.iload_n 2, 1) := by decide +kernel
theorem dX10_turn_12 : decode cX10_turn 12 = .ok (.ireturn, 1) := by decide +kernel
theorem dX10_turn_13 : decode cX10_turn 13 = .ok (.iconst 0, 1) := by decide +kernel
theorem dX10_turn_14 : decode cX10_turn 14 = .ok (.istore_n 3, 1) := by decide +kernel
theorem dX10_turn_15 : decode cX10_turn 15 = .ok (.iload_n 3, 1) := by decide +kernel
theorem dX10_turn_16 : decode cX10_turn 16 = .ok (.aload_n 0, 1) := by decide +kernel
theorem dX10_turn_17 : decode cX10_turn 17 = .ok (.getfield 13, 3) := by decide +kernel
theorem dX10_turn_20 : decode cX10_turn 20 = .ok (.if_icmp .gt 44, 3) := by decide +kernel
theorem dX10_turn_23 : decode cX10_turn 23 = .ok (.aload_n 0, 1) := by decide +kernel
theorem dX10_turn_24 : decode cX10_turn 24 = .ok (.iload_n 3, 1) := by decide +kernel
theorem dX10_turn_25 : decode cX10_turn 25 = .ok (.aload_n 0, 1) := by decide +kernel
theorem dX10_turn_26 : decode cX10_turn 26 = .ok (.iload_n 1, 1) := by decide +kernel
theorem dX10_turn_27 : decode cX10_turn 27 = .ok (.aload_n 0, 1) := by decide +kernel
theorem dX10_turn_28 : decode cX10_turn 28 = .ok (.getfield 13, 3) := by decide +kernel
theorem dX10_turn_31 : decode cX10_turn 31 = .ok (.iload_n 3, 1) := by decide +kernel
theorem dX10_turn_32 : decode cX10_turn 32 = .ok (.iconst (-1), 1) := by decide +kernel
theorem dX10_turn_33 : decode cX10_turn 33 = .ok (.ixor, 1) := by decide +kernel
theorem dX10_turn_34 : decode cX10_turn 34 = .ok (.iand, 1) := by decide +kernel
theorem dX10_turn_35 : decode cX10_turn 35 = .ok (.invokevirtual 108, 3) := by decide +kernel
theorem dX10_turn_38 : decode cX10_turn 38 = .ok (.aload_n 0, 1) := by decide +kernel
theorem dX10_turn_39 : decode cX10_turn 39 = .ok (.iload_n 1, 1) := by decide +kernel
theorem dX10_turn_40 : decode cX10_turn 40 = .ok (.aload_n 0, 1) := by decide +kernel
theorem dX10_turn_41 : decode cX10_turn 41 = .ok (.getfield 13, 3) := by decide +kernel
theorem dX10_turn_44 : decode cX10_turn 44 = .ok (.invokevirtual 108, 3) := by decide +kernel
theorem dX10_turn_47 : decode cX10_turn 47 = .ok (.if_icmp .ne 7, 3) := by decide +kernel
theorem dX10_turn_50 : decode cX10_turn 50 = .ok (.iconst 1, 1) := by decide +kernel
theorem dX10_turn_51 : decode cX10_turn 51 = .ok (.goto 4, 3) := by decide +kernel
theorem dX10_turn_54 : decode cX10_turn 54 = .ok (.iconst 0, 1) := by decide +kernel
theorem dX10_turn_55 : decode cX10_turn 55 = .ok (.invokevirtual 200, 3) := by decide +kernel
theorem dX10_turn_58 : decode cX10_turn 58 = .ok (.iinc 3 1, 3) := by decide +kernel
theorem dX10_turn_61 : decode cX10_turn 61 = .ok (.goto (-46), 3) := by decide +kernel
theorem dX10_turn_64 : decode cX10_turn 64 = .ok (.aload_n 0, 1) := by decide +kernel
theorem dX10_turn_65 : decode cX10_turn 65 = .ok (.bipush 9, 2) := by decide +kernel
theorem dX10_turn_67 : decode cX10_turn 67 = .ok (.iload_n 1, 1) := by decide +kernel
theorem dX10_turn_68 : decode cX10_turn 68 = .ok (.iconst (-1), 1) := by decide +kernel
theorem dX10_turn_69 : decode cX10_turn 69 = .ok (.aload_n 0, 1) := by decide +kernel
theorem dX10_turn_70 : decode cX10_turn 70 = .ok (.getfield 38, 3) := by decide +kernel
theorem dX10_turn_73 : decode cX10_turn 73 = .ok (.iload_n 1, 1) := by decide +kernel
theorem dX10_turn_74 : decode cX10_turn 74 = .ok (.iaload, 1) := by decide +kernel
theorem dX10_turn_75 : decode cX10_turn 75 = .ok (.iconst 1, 1) := by decide +kernel
theorem dX10_turn_76 : decode cX10_turn 76 = .ok (.iadd, 1) := by decide +kernel
theorem dX10_turn_77 : decode cX10_turn 77 = .ok (.invokevirtual 146, 3) := by decide +kernel
theorem dX10_turn_80 : decode cX10_turn 80 = .ok (.ireturn, 1) := by decide +kernel
theorem dX10_join_0 : decode cX10_join 0 = .ok (.aload_n 0, 1) := by decide +kernel
theorem dX10_join_1 : decode cX10_join 1 = .ok (.iload_n 1, 1) := by decide +kernel
theorem dX10_join_2 : decode cX10_join 2 = .ok (.invokevirtual 191, 3) := by decide +kernel
theorem dX10_join_5 : decode cX10_join 5 = .ok (.ifCond .eq 11, 3) := by decide +kernel
theorem dX10_join_8 : decode cX10_join 8 = .ok (.aload_n 0, 1) := by decide +kernel
theorem dX10_join_9 : decode cX10_join 9 = .ok (.iload_n 2, 1) := by decide +kernel
theorem dX10_join_10 : decode cX10_join 10 = .ok (.invokevirtual 191, 3) := by decide +kernel
theorem dX10_join_13 : decode cX10_join 13 = .ok (.ifCond .ne 6, 3) := by decide +kernel
theorem dX10_join_16 : decode cX10_join 16 = .ok (.bipush (-2), 2) := by decide +kernel
theorem dX10_join_18 : decode cX10_join 18 = .ok (.ireturn, 1) := by decide +kernel
theorem dX10_join_19 : decode cX10_join 19 = .ok (.aload_n 0, 1) := by decide +kernel
theorem dX10_join_20 : decode cX10_join 20 = .ok (.getfield 85, 3) := by decide +kernel
theorem dX10_join_23 : decode cX10_join 23 = .ok (.bipush 24, 2) := by decide +kernel
theorem dX10_join_25 : decode cX10_join 25 = .ok (.if_icmp .ne 6, 3) := by decide +kernel
theorem dX10_join_28 : decode cX10_join 28 = .ok (.bipush (-8), 2) := by decide +kernel
theorem dX10_join_30 : decode cX10_join 30 = .ok (.ireturn, 1) := by decide +kernel
theorem dX10_join_31 : decode cX10_join 31 = .ok (.aload_n 0, 1) := by decide +kernel
theorem dX10_join_32 : decode cX10_join 32 = .ok (.getfield 38, 3) := by decide +kernel
theorem dX10_join_35 : decode cX10_join 35 = .ok (.iload_n 1, 1) := by decide +kernel
theorem dX10_join_36 : decode cX10_join 36 = .ok (.iaload, 1) := by decide +kernel
theorem dX10_join_37 : decode cX10_join 37 = .ok (.iconst 3, 1) := by decide +kernel
theorem dX10_join_38 : decode cX10_join 38 = .ok (.if_icmp .eq 13, 3) := by decide +kernel
theorem dX10_join_41 : decode cX10_join 41 = .ok (.aload_n 0, 1) := by decide +kernel
theorem dX10_join_42 : decode cX10_join 42 = .ok (.getfield 38, 3) := by decide +kernel
theorem dX10_join_45 : decode cX10_join 45 = .ok (.iload_n 2, 1) := by decide +kernel
theorem dX10_join_46 : decode cX10_join 46 = .ok (.iaload, 1) := by decide +kernel
theorem dX10_join_47 : decode cX10_join 47 = .ok (.iconst 3, 1) := by decide +kernel
theorem dX10_join_48 : decode cX10_join 48 = .ok (.if_icmp .ne 6, 3) := by decide +kernel
theorem dX10_join_51 : decode cX10_join 51 = .ok (.bipush (-3), 2) := by decide +kernel
theorem dX10_join_53 : decode cX10_join 53 = .ok (.ireturn, 1) := by decide +kernel
theorem dX10_join_54 : decode cX10_join 54 = .ok (.iconst 0, 1) := by decide +kernel
theorem dX10_join_55 : decode cX10_join 55 = .ok (.istore_n 3, 1) := by decide +kernel
theorem dX10_join_56 : decode cX10_join 56 = .ok (.iload_n 3, 1) := by decide +kernel
theorem dX10_join_57 : decode cX10_join 57 = .ok (.aload_n 0, 1) := by decide +kernel
theorem dX10_join_58 : decode cX10_join 58 = .ok (.getfield 13, 3) := by decide +kernel
theorem dX10_join_61 : decode cX10_join 61 = .ok (.if_icmp .gt 96, 3) := by decide +kernel
theorem dX10_join_64 : decode cX10_join 64 = .ok (.aload_n 0, 1) := by decide +kernel
theorem dX10_join_65 : decode cX10_join 65 = .ok (.iload_n 2, 1) := by decide +kernel
theorem dX10_join_66 : decode cX10_join 66 = .ok (.iload_n 3, 1) := by decide +kernel
theorem dX10_join_67 : decode cX10_join 67 = .ok (.invokevirtual 100, 3) := by decide +kernel
theorem dX10_join_70 : decode cX10_join 70 = .ok (.ifCond .eq 16, 3) := by decide +kernel
theorem dX10_join_73 : decode cX10_join 73 = .ok (.aload_n 0, 1) := by decide +kernel
theorem dX10_join_74 : decode cX10_join 74 = .ok (.iload_n 1, 1) := by decide +kernel
theorem dX10_join_75 : decode cX10_join 75 = .ok (.iconst 0, 1) := by decide +kernel
theorem dX10_join_76 : decode cX10_join 76 = .ok (.invokevirtual 100, 3) := by decide +kernel
theorem dX10_join_79 : decode cX10_join 79 = .ok (.ifCond .eq 7, 3) := by decide +kernel
theorem dX10_join_82 : decode cX10_join 82 = .ok (.iconst 1, 1) := by decide +kernel
theorem dX10_join_83 : decode cX10_join 83 = .ok (.goto 4, 3) := by decide +kernel
theorem dX10_join_86 : decode cX10_join 86 = .ok (.iconst 0, 1) := by decide +kernel
theorem dX10_join_87 : decode cX10_join 87 = .ok (.istore 4, 2) := by decide +kernel
theorem dX10_join_89 : decode cX10_join 89 = .ok (.iload_n 3, 1) := by decide +kernel
theorem dX10_join_90 : decode cX10_join 90 = .ok (.istore 5, 2) := by decide +kernel
theorem dX10_join_92 : decode cX10_join 92 = .ok (.iload 5, 2) := by decide +kernel
theorem dX10_join_94 : decode cX10_join 94 = .ok (.ifCond .le 50, 3) := by decide +kernel
theorem dX10_join_97 : decode cX10_join 97 = .ok (.iload 4, 2) := by decide +kernel
theorem dX10_join_99 : decode cX10_join 99 = .ok (.ifCond .ne 45, 3) := by decide +kernel
theorem dX10_join_102 : decode cX10_join 102 = .ok (.aload_n 0, 1) := by decide +kernel
theorem dX10_join_103 : decode cX10_join 103 = .ok (.iload_n 1, 1) := by decide +kernel
theorem dX10_join_104 : decode cX10_join 104 = .ok (.iload 5, 2) := by decide +kernel
theorem dX10_join_106 : decode cX10_join 106 = .ok (.invokevirtual 100, 3) := by decide +kernel
theorem dX10_join_109 : decode cX10_join 109 = .ok (.ifCond .eq 21, 3) := by decide +kernel
theorem dX10_join_112 : decode cX10_join 112 = .ok (.aload_n 0, 1) := by decide +kernel
theorem dX10_join_113 : decode cX10_join 113 = .ok (.iload_n 2, 1) := by decide +kernel
theorem dX10_join_114 : decode cX10_join 114 = .ok (.iload_n 3, 1) := by decide +kernel
theorem dX10_join_115 : decode cX10_join 115 = .ok (.iload 5, 2) := by decide +kernel
theorem dX10_join_117 : decode cX10_join 117 = .ok (.iconst (-1), 1) := by decide +kernel
theorem dX10_join_118 : decode cX10_join 118 = .ok (.ixor, 1) := by decide +kernel
theorem dX10_join_119 : decode cX10_join 119 = .ok (.iand, 1) := by decide +kernel
theorem dX10_join_120 : decode cX10_join 120 = .ok (.invokevirtual 100, 3) := by decide +kernel
theorem dX10_join_123 : decode cX10_join 123 = .ok (.ifCond .eq 7, 3) := by decide +kernel
theorem dX10_join_126 : decode cX10_join 126 = .ok (.iconst 1, 1) := by decide +kernel
theorem dX10_join_127 : decode cX10_join 127 = .ok (.goto 4, 3) := by decide +kernel
theorem dX10_join_130 : decode cX10_join 130 = .ok (.iconst 0, 1) := by decide +kernel
theorem dX10_join_131 : decode cX10_join 131 = .ok (.istore 4, 2) := by decide +kernel
theorem dX10_join_133 : decode cX10_join 133 = .ok (.iload 5, 2) := by decide +kernel
theorem dX10_join_135 : decode cX10_join 135 = .ok (.iconst 1, 1) := by decide +kernel
theorem dX10_join_136 : decode cX10_join 136 = .ok (.isub, 1) := by decide +kernel
theorem dX10_join_137 : decode cX10_join 137 = .ok (.iload_n 3, 1) := by decide +kernel
theorem dX10_join_138 : decode cX10_join 138 = .ok (.iand, 1) := by decide +kernel
theorem dX10_join_139 : decode cX10_join 139 = .ok (.istore 5, 2) := by decide +kernel
theorem dX10_join_141 : decode cX10_join 141 = .ok (.goto (-49), 3) := by decide +kernel
theorem dX10_join_144 : decode cX10_join 144 = .ok (.aload_n 0, 1) := by decide +kernel
theorem dX10_join_145 : decode cX10_join 145 = .ok (.iload_n 3, 1) := by decide +kernel
theorem dX10_join_146 : decode cX10_join 146 = .ok (.iload 4, 2) := by decide +kernel
theorem dX10_join_148 : decode cX10_join 148 = .ok (.invokevirtual 200, 3) := by decide +kernel
theorem dX10_join_151 : decode cX10_join 151 = .ok (.iinc 3 1, 3) := by decide +kernel
theorem dX10_join_154 : decode cX10_join 154 = .ok (.goto (-98), 3) := by decide +kernel
theorem dX10_join_157 : decode cX10_join 157 = .ok (.aload_n 0, 1) := by decide +kernel
theorem dX10_join_158 : decode cX10_join 158 = .ok (.bipush 10, 2) := by decide +kernel
theorem dX10_join_160 : decode cX10_join 160 = .ok (.iload_n 1, 1) := by decide +kernel
theorem dX10_join_161 : decode cX10_join 161 = .ok (.iload_n 2, 1) := by decide +kernel
theorem dX10_join_162 : decode cX10_join 162 = .ok (.iconst 1, 1) := by decide +kernel
theorem dX10_join_163 : decode cX10_join 163 = .ok (.aload_n 0, 1) := by decide +kernel
theorem dX10_join_164 : decode cX10_join 164 = .ok (.getfield 38, 3) := by decide +kernel
theorem dX10_join_167 : decode cX10_join 167 = .ok (.iload_n 1, 1) := by decide +kernel
theorem dX10_join_168 : decode cX10_join 168 = .ok (.iaload, 1) := by decide +kernel
theorem dX10_join_169 : decode cX10_join 169 = .ok (.aload_n 0, 1) := by decide +kernel
theorem dX10_join_170 : decode cX10_join 170 = .ok (.getfield 38, 3) := by decide +kernel
theorem dX10_join_173 : decode cX10_join 173 = .ok (.iload_n 2, 1) := by decide +kernel
theorem dX10_join_174 : decode cX10_join 174 = .ok (.iaload, 1) := by decide +kernel
theorem dX10_join_175 : decode cX10_join 175 = .ok (.invokestatic 111, 3) := by decide +kernel
theorem dX10_join_178 : decode cX10_join 178 = .ok (.iadd, 1) := by decide +kernel
theorem dX10_join_179 : decode cX10_join 179 = .ok (.invokevirtual 146, 3) := by decide +kernel
theorem dX10_join_182 : decode cX10_join 182 = .ok (.ireturn, 1) := by decide +kernel
theorem dX10_broken_0 : decode cX10_broken 0 = .ok (.iload_n 1, 1) := by decide +kernel
theorem dX10_broken_1 : decode cX10_broken 1 = .ok (.ifCond .lt 8, 3) := by decide +kernel
theorem dX10_broken_4 : decode cX10_broken 4 = .ok (.iload_n 1, 1) := by decide +kernel
theorem dX10_broken_5 : decode cX10_broken 5 = .ok (.iconst 2, 1) := by decide +kernel
theorem dX10_broken_6 : decode cX10_broken 6 = .ok (.if_icmp .le 7, 3) := by decide +kernel
theorem dX10_broken_9 : decode cX10_broken 9 = .ok (.iconst (-1), 1) := by decide +kernel
theorem dX10_broken_10 : decode cX10_broken 10 = .ok (.goto 9, 3) := by decide +kernel
theorem dX10_broken_13 : decode cX10_broken 13 = .ok (.aload_n 0, 1) := by decide +kernel
theorem dX10_broken_14 : decode cX10_broken 14 = .ok (.getfield 41, 3) := by decide +kernel
theorem dX10_broken_17 : decode cX10_broken 17 = .ok (.iload_n 1, 1) := by decide +kernel
theorem dX10_broken_18 : decode cX10_broken 18 = .ok (.iaload, 1) := by decide +kernel
theorem dX10_broken_19 : decode cX10_broken 19 = .ok (.ireturn, 1) := by decide +kernel
theorem dX10_look_0 : decode cX10_look 0 = .ok (.aload_n 0, 1) := by decide +kernel
theorem dX10_look_1 : decode cX10_look 1 = .ok (.iload_n 1, 1) := by decide +kernel
theorem dX10_look_2 : decode cX10_look 2 = .ok (.invokevirtual 191, 3) := by decide +kernel
theorem dX10_look_5 : decode cX10_look 5 = .ok (.ifCond .ne 5, 3) := by decide +kernel
theorem dX10_look_8 : decode cX10_look 8 = .ok (.iconst (-1), 1) := by decide +kernel
theorem dX10_look_9 : decode cX10_look 9 = .ok (.ireturn, 1) := by decide +kernel
theorem dX10_look_10 : decode cX10_look 10 = .ok (.iload_n 2, 1) := by decide +kernel
theorem dX10_look_11 : decode cX10_look 11 = .ok (.tableswitch 115 0 5 #[37, 44, 54, 94, 101, 108], 37) := by decide +kernel
theorem dX10_look_48 : decode cX10_look 48 = .ok (.aload_n 0, 1) := by decide +kernel
theorem dX10_look_49 : decode cX10_look 49 = .ok (.getfield 29, 3) := by decide +kernel
theorem dX10_look_52 : decode cX10_look 52 = .ok (.iload_n 1, 1) := by decide +kernel
theorem dX10_look_53 : decode cX10_look 53 = .ok (.iaload, 1) := by decide +kernel
theorem dX10_look_54 : decode cX10_look 54 = .ok (.ireturn, 1) := by decide +kernel
theorem dX10_look_55 : decode cX10_look 55 = .ok (.aload_n 0, 1) := by decide +kernel
theorem dX10_look_56 : decode cX10_look 56 = .ok (.iload_n 1, 1) := by decide +kernel
theorem dX10_look_57 : decode cX10_look 57 = .ok (.aload_n 0, 1) := by decide +kernel
theorem dX10_look_58 : decode cX10_look 58 = .ok (.getfield 13, 3) := by decide +kernel
theorem dX10_look_61 : decode cX10_look 61 = .ok (.invokevirtual 108, 3) := by decide +kernel
theorem dX10_look_64 : decode cX10_look 64 = .ok (.ireturn, 1) := by decide +kernel
theorem dX10_look_65 : decode cX10_look 65 = .ok (.iconst 0, 1) := by decide +kernel
theorem dX10_look_66 : decode cX10_look 66 = .ok (.istore_n 3, 1) := by decide +kernel
theorem dX10_look_67 : decode cX10_look 67 = .ok (.iconst 0, 1) := by decide +kernel
theorem dX10_look_68 : decode cX10_look 68 = .ok (.istore 4, 2) := by decide +kernel
theorem dX10_look_70 : decode cX10_look 70 = .ok (.iload 4, 2) := by decide +kernel
theorem dX10_look_72 : decode cX10_look 72 = .ok (.aload_n 0, 1) := by decide +kernel
theorem dX10_look_73 : decode cX10_look 73 = .ok (.getfield 13, 3) := by decide +kernel
theorem dX10_look_76 : decode cX10_look 76 = .ok (.if_icmp .gt 27, 3) := by decide +kernel
theorem dX10_look_79 : decode cX10_look 79 = .ok (.iload_n 3, 1) := by decide +kernel
theorem dX10_look_80 : decode cX10_look 80 = .ok (.aload_n 0, 1) := by decide +kernel
theorem dX10_look_81 : decode cX10_look 81 = .ok (.iload_n 1, 1) := by decide +kernel
theorem dX10_look_82 : decode cX10_look 82 = .ok (.iload 4, 2) := by decide +kernel
theorem dX10_look_84 : decode cX10_look 84 = .ok (.invokevirtual 100, 3) := by decide +kernel
theorem dX10_look_87 : decode cX10_look 87 = .ok (.ifCond .eq 7, 3) := by decide +kernel
theorem dX10_look_90 : decode cX10_look 90 = .ok (.iconst 1, 1) := by decide +kernel
theorem dX10_look_91 : decode cX10_look 91 = .ok (.goto 4, 3) := by decide +kernel
theorem dX10_look_94 : decode cX10_look 94 = .ok (.iconst 0, 1) := by decide +kernel
theorem dX10_look_95 : decode cX10_look 95 = .ok (.iadd, 1) := by decide +kernel
theorem dX10_look_96 : decode cX10_look 96 = .ok (.istore_n 3, 1) := by decide +kernel
theorem dX10_look_97 : decode cX10_look 97 = .ok (.iinc 4 1, 3) := by decide +kernel
theorem dX10_look_100 : decode cX10_look 100 = .ok (.goto (-30), 3) := by decide +kernel
theorem dX10_look_103 : decode cX10_look 103 = .ok (.iload_n 3, 1) := by decide +kernel
theorem dX10_look_104 : decode cX10_look 104 = .ok (.ireturn, 1) := by decide +kernel
theorem dX10_look_105 : decode cX10_look 105 = .ok (.aload_n 0, 1) := by decide +kernel
theorem dX10_look_106 : decode cX10_look 106 = .ok (.getfield 32, 3) := by decide +kernel
theorem dX10_look_109 : decode cX10_look 109 = .ok (.iload_n 1, 1) := by decide +kernel
theorem dX10_look_110 : decode cX10_look 110 = .ok (.iaload, 1) := by decide +kernel
theorem dX10_look_111 : decode cX10_look 111 = .ok (.ireturn, 1) := by decide +kernel
theorem dX10_look_112 : decode cX10_look 112 = .ok (.aload_n 0, 1) := by decide +kernel
theorem dX10_look_113 : decode cX10_look 113 = .ok (.getfield 35, 3) := by decide +kernel
theorem dX10_look_116 : decode cX10_look 116 = .ok (.iload_n 1, 1) := by decide +kernel
theorem dX10_look_117 : decode cX10_look 117 = .ok (.iaload, 1) := by decide +kernel
theorem dX10_look_118 : decode cX10_look 118 = .ok (.ireturn, 1) := by decide +kernel
theorem dX10_look_119 : decode cX10_look 119 = .ok (.aload_n 0, 1) := by decide +kernel
theorem dX10_look_120 : decode cX10_look 120 = .ok (.getfield 38, 3) := by decide +kernel
theorem dX10_look_123 : decode cX10_look 123 = .ok (.iload_n 1, 1) := by decide +kernel
theorem dX10_look_124 : decode cX10_look 124 = .ok (.iaload, 1) := by decide +kernel
theorem dX10_look_125 : decode cX10_look 125 = .ok (.ireturn, 1) := by decide +kernel
theorem dX10_look_126 : decode cX10_look 126 = .ok (.iconst (-1), 1) := by decide +kernel
theorem dX10_look_127 : decode cX10_look 127 = .ok (.ireturn, 1) := by decide +kernel
theorem dX10_allows_0 : decode cX10_allows 0 = .ok (.aload_n 0, 1) := by decide +kernel
theorem dX10_allows_1 : decode cX10_allows 1 = .ok (.iload_n 1, 1) := by decide +kernel
theorem dX10_allows_2 : decode cX10_allows 2 = .ok (.invokevirtual 191, 3) := by decide +kernel
theorem dX10_allows_5 : decode cX10_allows 5 = .ok (.ifCond .eq 11, 3) := by decide +kernel
theorem dX10_allows_8 : decode cX10_allows 8 = .ok (.aload_n 0, 1) := by decide +kernel
theorem dX10_allows_9 : decode cX10_allows 9 = .ok (.iload_n 2, 1) := by decide +kernel
theorem dX10_allows_10 : decode cX10_allows 10 = .ok (.invokevirtual 194, 3) := by decide +kernel
theorem dX10_allows_13 : decode cX10_allows 13 = .ok (.ifCond .ne 7, 3) := by decide +kernel
theorem dX10_allows_16 : decode cX10_allows 16 = .ok (.iconst (-1), 1) := by decide +kernel
theorem dX10_allows_17 : decode cX10_allows 17 = .ok (.goto 17, 3) := by decide +kernel
theorem dX10_allows_20 : decode cX10_allows 20 = .ok (.aload_n 0, 1) := by decide +kernel
theorem dX10_allows_21 : decode cX10_allows 21 = .ok (.iload_n 1, 1) := by decide +kernel
theorem dX10_allows_22 : decode cX10_allows 22 = .ok (.iload_n 2, 1) := by decide +kernel
theorem dX10_allows_23 : decode cX10_allows 23 = .ok (.invokevirtual 100, 3) := by decide +kernel
theorem dX10_allows_26 : decode cX10_allows 26 = .ok (.ifCond .eq 7, 3) := by decide +kernel
theorem dX10_allows_29 : decode cX10_allows 29 = .ok (.iconst 1, 1) := by decide +kernel
theorem dX10_allows_30 : decode cX10_allows 30 = .ok (.goto 4, 3) := by decide +kernel
theorem dX10_allows_33 : decode cX10_allows 33 = .ok (.iconst 0, 1) := by decide +kernel
theorem dX10_allows_34 : decode cX10_allows 34 = .ok (.ireturn, 1) := by decide +kernel
theorem dX10_rank_0 : decode cX10_rank 0 = .ok (.aload_n 0, 1) := by decide +kernel
theorem dX10_rank_1 : decode cX10_rank 1 = .ok (.iload_n 1, 1) := by decide +kernel
theorem dX10_rank_2 : decode cX10_rank 2 = .ok (.invokevirtual 191, 3) := by decide +kernel
theorem dX10_rank_5 : decode cX10_rank 5 = .ok (.ifCond .eq 11, 3) := by decide +kernel
theorem dX10_rank_8 : decode cX10_rank 8 = .ok (.aload_n 0, 1) := by decide +kernel
theorem dX10_rank_9 : decode cX10_rank 9 = .ok (.iload_n 2, 1) := by decide +kernel
theorem dX10_rank_10 : decode cX10_rank 10 = .ok (.invokevirtual 194, 3) := by decide +kernel
theorem dX10_rank_13 : decode cX10_rank 13 = .ok (.ifCond .ne 7, 3) := by decide +kernel
theorem dX10_rank_16 : decode cX10_rank 16 = .ok (.iconst (-1), 1) := by decide +kernel
theorem dX10_rank_17 : decode cX10_rank 17 = .ok (.goto 9, 3) := by decide +kernel
theorem dX10_rank_20 : decode cX10_rank 20 = .ok (.aload_n 0, 1) := by decide +kernel
theorem dX10_rank_21 : decode cX10_rank 21 = .ok (.iload_n 1, 1) := by decide +kernel
theorem dX10_rank_22 : decode cX10_rank 22 = .ok (.iload_n 2, 1) := by decide +kernel
theorem dX10_rank_23 : decode cX10_rank 23 = .ok (.invokevirtual 108, 3) := by decide +kernel
theorem dX10_rank_26 : decode cX10_rank 26 = .ok (.ireturn, 1) := by decide +kernel
theorem dX10_span_0 : decode cX10_span 0 = .ok (.aload_n 0, 1) := by decide +kernel
theorem dX10_span_1 : decode cX10_span 1 = .ok (.iload_n 1, 1) := by decide +kernel
theorem dX10_span_2 : decode cX10_span 2 = .ok (.invokevirtual 191, 3) := by decide +kernel
theorem dX10_span_5 : decode cX10_span 5 = .ok (.ifCond .eq 11, 3) := by decide +kernel
theorem dX10_span_8 : decode cX10_span 8 = .ok (.aload_n 0, 1) := by decide +kernel
theorem dX10_span_9 : decode cX10_span 9 = .ok (.iload_n 2, 1) := by decide +kernel
theorem dX10_span_10 : decode cX10_span 10 = .ok (.invokevirtual 194, 3) := by decide +kernel
theorem dX10_span_13 : decode cX10_span 13 = .ok (.ifCond .ne 5, 3) := by decide +kernel
theorem dX10_span_16 : decode cX10_span 16 = .ok (.iconst (-1), 1) := by decide +kernel
theorem dX10_span_17 : decode cX10_span 17 = .ok (.ireturn, 1) := by decide +kernel
theorem dX10_span_18 : decode cX10_span 18 = .ok (.iconst 0, 1) := by decide +kernel
theorem dX10_span_19 : decode cX10_span 19 = .ok (.istore_n 3, 1) := by decide +kernel
theorem dX10_span_20 : decode cX10_span 20 = .ok (.iconst 0, 1) := by decide +kernel
theorem dX10_span_21 : decode cX10_span 21 = .ok (.istore 4, 2) := by decide +kernel
theorem dX10_span_23 : decode cX10_span 23 = .ok (.iload 4, 2) := by decide +kernel
theorem dX10_span_25 : decode cX10_span 25 = .ok (.aload_n 0, 1) := by decide +kernel
theorem dX10_span_26 : decode cX10_span 26 = .ok (.getfield 7, 3) := by decide +kernel
theorem dX10_span_29 : decode cX10_span 29 = .ok (.if_icmp .ge 40, 3) := by decide +kernel
theorem dX10_span_32 : decode cX10_span 32 = .ok (.iload_n 3, 1) := by decide +kernel
theorem dX10_span_33 : decode cX10_span 33 = .ok (.aload_n 0, 1) := by decide +kernel
theorem dX10_span_34 : decode cX10_span 34 = .ok (.iload_n 1, 1) := by decide +kernel
theorem dX10_span_35 : decode cX10_span 35 = .ok (.iload_n 2, 1) := by decide +kernel
theorem dX10_span_36 : decode cX10_span 36 = .ok (.iconst 1, 1) := by decide +kernel
theorem dX10_span_37 : decode cX10_span 37 = .ok (.iload 4, 2) := by decide +kernel
theorem dX10_span_39 : decode cX10_span 39 = .ok (.ishl, 1) := by decide +kernel
theorem dX10_span_40 : decode cX10_span 40 = .ok (.ior, 1) := by decide +kernel
theorem dX10_span_41 : decode cX10_span 41 = .ok (.invokevirtual 108, 3) := by decide +kernel
theorem dX10_span_44 : decode cX10_span 44 = .ok (.aload_n 0, 1) := by decide +kernel
theorem dX10_span_45 : decode cX10_span 45 = .ok (.iload_n 1, 1) := by decide +kernel
theorem dX10_span_46 : decode cX10_span 46 = .ok (.iload_n 2, 1) := by decide +kernel
theorem dX10_span_47 : decode cX10_span 47 = .ok (.invokevirtual 108, 3) := by decide +kernel
theorem dX10_span_50 : decode cX10_span 50 = .ok (.if_icmp .ne 10, 3) := by decide +kernel
theorem dX10_span_53 : decode cX10_span 53 = .ok (.iconst 1, 1) := by decide +kernel
theorem dX10_span_54 : decode cX10_span 54 = .ok (.iload 4, 2) := by decide +kernel
theorem dX10_span_56 : decode cX10_span 56 = .ok (.ishl, 1) := by decide +kernel
theorem dX10_span_57 : decode cX10_span 57 = .ok (.goto 4, 3) := by decide +kernel
theorem dX10_span_60 : decode cX10_span 60 = .ok (.iconst 0, 1) := by decide +kernel
theorem dX10_span_61 : decode cX10_span 61 = .ok (.ior, 1) := by decide +kernel
theorem dX10_span_62 : decode cX10_span 62 = .ok (.istore_n 3, 1) := by decide +kernel
theorem dX10_span_63 : decode cX10_span 63 = .ok (.iinc 4 1, 3) := by decide +kernel
theorem dX10_span_66 : decode cX10_span 66 = .ok (.goto (-43), 3) := by decide +kernel
theorem dX10_span_69 : decode cX10_span 69 = .ok (.iload_n 3, 1) := by decide +kernel
theorem dX10_span_70 : decode cX10_span 70 = .ok (.ireturn, 1) := by decide +kernel
theorem dX10_ring_0 : decode cX10_ring 0 = .ok (.aload_n 0, 1) := by decide +kernel
theorem dX10_ring_1 : decode cX10_ring 1 = .ok (.iload_n 1, 1) := by decide +kernel
theorem dX10_ring_2 : decode cX10_ring 2 = .ok (.invokevirtual 191, 3) := by decide +kernel
theorem dX10_ring_5 : decode cX10_ring 5 = .ok (.ifCond .eq 11, 3) := by decide +kernel
theorem dX10_ring_8 : decode cX10_ring 8 = .ok (.aload_n 0, 1) := by decide +kernel
theorem dX10_ring_9 : decode cX10_ring 9 = .ok (.iload_n 2, 1) := by decide +kernel
theorem dX10_ring_10 : decode cX10_ring 10 = .ok (.invokevirtual 194, 3) := by decide +kernel
theorem dX10_ring_13 : decode cX10_ring 13 = .ok (.ifCond .ne 5, 3) := by decide +kernel
theorem dX10_ring_16 : decode cX10_ring 16 = .ok (.iconst (-1), 1) := by decide +kernel
theorem dX10_ring_17 : decode cX10_ring 17 = .ok (.ireturn, 1) := by decide +kernel
theorem dX10_ring_18 : decode cX10_ring 18 = .ok (.iconst 0, 1) := by decide +kernel
theorem dX10_ring_19 : decode cX10_ring 19 = .ok (.istore_n 3, 1) := by decide +kernel
theorem dX10_ring_20 : decode cX10_ring 20 = .ok (.iload_n 3, 1) := by decide +kernel
theorem dX10_ring_21 : decode cX10_ring 21 = .ok (.iload_n 2, 1) := by decide +kernel
theorem dX10_ring_22 : decode cX10_ring 22 = .ok (.if_icmp .gt 37, 3) := by decide +kernel
theorem dX10_ring_25 : decode cX10_ring 25 = .ok (.aload_n 0, 1) := by decide +kernel
theorem dX10_ring_26 : decode cX10_ring 26 = .ok (.iload_n 1, 1) := by decide +kernel
theorem dX10_ring_27 : decode cX10_ring 27 = .ok (.iload_n 2, 1) := by decide +kernel
theorem dX10_ring_28 : decode cX10_ring 28 = .ok (.invokevirtual 100, 3) := by decide +kernel
theorem dX10_ring_31 : decode cX10_ring 31 = .ok (.ifCond .ne 28, 3) := by decide +kernel
theorem dX10_ring_34 : decode cX10_ring 34 = .ok (.iload_n 3, 1) := by decide +kernel
theorem dX10_ring_35 : decode cX10_ring 35 = .ok (.iload_n 2, 1) := by decide +kernel
theorem dX10_ring_36 : decode cX10_ring 36 = .ok (.iconst (-1), 1) := by decide +kernel
theorem dX10_ring_37 : decode cX10_ring 37 = .ok (.ixor, 1) := by decide +kernel
theorem dX10_ring_38 : decode cX10_ring 38 = .ok (.iand, 1) := by decide +kernel
theorem dX10_ring_39 : decode cX10_ring 39 = .ok (.ifCond .ne 14, 3) := by decide +kernel
theorem dX10_ring_42 : decode cX10_ring 42 = .ok (.aload_n 0, 1) := by decide +kernel
theorem dX10_ring_43 : decode cX10_ring 43 = .ok (.iload_n 1, 1) := by decide +kernel
theorem dX10_ring_44 : decode cX10_ring 44 = .ok (.iload_n 3, 1) := by decide +kernel
theorem dX10_ring_45 : decode cX10_ring 45 = .ok (.invokevirtual 100, 3) := by decide +kernel
theorem dX10_ring_48 : decode cX10_ring 48 = .ok (.ifCond .ne 5, 3) := by decide +kernel
theorem dX10_ring_51 : decode cX10_ring 51 = .ok (.iload_n 3, 1) := by decide +kernel
theorem dX10_ring_52 : decode cX10_ring 52 = .ok (.ireturn, 1) := by decide +kernel
theorem dX10_ring_53 : decode cX10_ring 53 = .ok (.iinc 3 1, 3) := by decide +kernel
theorem dX10_ring_56 : decode cX10_ring 56 = .ok (.goto (-36), 3) := by decide +kernel
theorem dX10_ring_59 : decode cX10_ring 59 = .ok (.iconst 0, 1) := by decide +kernel
theorem dX10_ring_60 : decode cX10_ring 60 = .ok (.ireturn, 1) := by decide +kernel
theorem dX10_exchange_0 : decode cX10_exchange 0 = .ok (.aload_n 0, 1) := by decide +kernel
theorem dX10_exchange_1 : decode cX10_exchange 1 = .ok (.iload_n 1, 1) := by decide +kernel
theorem dX10_exchange_2 : decode cX10_exchange 2 = .ok (.invokevirtual 191, 3) := by decide +kernel
theorem dX10_exchange_5 : decode cX10_exchange 5 = .ok (.ifCond .eq 37, 3) := by decide +kernel
theorem dX10_exchange_8 : decode cX10_exchange 8 = .ok (.aload_n 0, 1) := by decide +kernel
theorem dX10_exchange_9 : decode cX10_exchange 9 = .ok (.iload_n 2, 1) := by decide +kernel
theorem dX10_exchange_10 : decode cX10_exchange 10 = .ok (.invokevirtual 194, 3) := by decide +kernel
theorem dX10_exchange_13 : decode cX10_exchange 13 = .ok (.ifCond .eq 29, 3) := by decide +kernel
theorem dX10_exchange_16 : decode cX10_exchange 16 = .ok (.aload_n 0, 1) := by decide +kernel
theorem dX10_exchange_17 : decode cX10_exchange 17 = .ok (.iload_n 3, 1) := by decide +kernel
theorem dX10_exchange_18 : decode cX10_exchange 18 = .ok (.invokevirtual 88, 3) := by decide +kernel
theorem dX10_exchange_21 : decode cX10_exchange 21 = .ok (.ifCond .eq 21, 3) := by decide +kernel
theorem dX10_exchange_24 : decode cX10_exchange 24 = .ok (.aload_n 0, 1) := by decide +kernel
theorem dX10_exchange_25 : decode cX10_exchange 25 = .ok (.iload_n 1, 1) := by decide +kernel
theorem dX10_exchange_26 : decode cX10_exchange 26 = .ok (.iload_n 2, 1) := by decide +kernel
theorem dX10_exchange_27 : decode cX10_exchange 27 = .ok (.invokevirtual 100, 3) := by decide +kernel
theorem dX10_exchange_30 : decode cX10_exchange 30 = .ok (.ifCond .eq 12, 3) := by decide +kernel
theorem dX10_exchange_33 : decode cX10_exchange 33 = .ok (.iload_n 2, 1) := by decide +kernel
theorem dX10_exchange_34 : decode cX10_exchange 34 = .ok (.iload_n 3, 1) := by decide +kernel
theorem dX10_exchange_35 : decode cX10_exchange 35 = .ok (.ishr, 1) := by decide +kernel
theorem dX10_exchange_36 : decode cX10_exchange 36 = .ok (.iconst 1, 1) := by decide +kernel
theorem dX10_exchange_37 : decode cX10_exchange 37 = .ok (.iand, 1) := by decide +kernel
theorem dX10_exchange_38 : decode cX10_exchange 38 = .ok (.iconst 1, 1) := by decide +kernel
theorem dX10_exchange_39 : decode cX10_exchange 39 = .ok (.if_icmp .ne 5, 3) := by decide +kernel
theorem dX10_exchange_42 : decode cX10_exchange 42 = .ok (.iconst (-1), 1) := by decide +kernel
theorem dX10_exchange_43 : decode cX10_exchange 43 = .ok (.ireturn, 1) := by decide +kernel
theorem dX10_exchange_44 : decode cX10_exchange 44 = .ok (.iload_n 2, 1) := by decide +kernel
theorem dX10_exchange_45 : decode cX10_exchange 45 = .ok (.iconst 1, 1) := by decide +kernel
theorem dX10_exchange_46 : decode cX10_exchange 46 = .ok (.iload_n 3, 1) := by decide +kernel
theorem dX10_exchange_47 : decode cX10_exchange 47 = .ok (.ishl, 1) := by decide +kernel
theorem dX10_exchange_48 : decode cX10_exchange 48 = .ok (.ior, 1) := by decide +kernel
theorem dX10_exchange_49 : decode cX10_exchange 49 = .ok (.istore 4, 2) := by decide +kernel
theorem dX10_exchange_51 : decode cX10_exchange 51 = .ok (.aload_n 0, 1) := by decide +kernel
theorem dX10_exchange_52 : decode cX10_exchange 52 = .ok (.iload_n 1, 1) := by decide +kernel
theorem dX10_exchange_53 : decode cX10_exchange 53 = .ok (.iload 4, 2) := by decide +kernel
theorem dX10_exchange_55 : decode cX10_exchange 55 = .ok (.invokevirtual 100, 3) := by decide +kernel
theorem dX10_exchange_58 : decode cX10_exchange 58 = .ok (.ifCond .eq 5, 3) := by decide +kernel
theorem dX10_exchange_61 : decode cX10_exchange 61 = .ok (.iconst 0, 1) := by decide +kernel
theorem dX10_exchange_62 : decode cX10_exchange 62 = .ok (.ireturn, 1) := by decide +kernel
theorem dX10_exchange_63 : decode cX10_exchange 63 = .ok (.iconst 0, 1) := by decide +kernel
theorem dX10_exchange_64 : decode cX10_exchange 64 = .ok (.istore 5, 2) := by decide +kernel
theorem dX10_exchange_66 : decode cX10_exchange 66 = .ok (.iconst 0, 1) := by decide +kernel
theorem dX10_exchange_67 : decode cX10_exchange 67 = .ok (.istore 6, 2) := by decide +kernel
theorem dX10_exchange_69 : decode cX10_exchange 69 = .ok (.iload 6, 2) := by decide +kernel
theorem dX10_exchange_71 : decode cX10_exchange 71 = .ok (.aload_n 0, 1) := by decide +kernel
theorem dX10_exchange_72 : decode cX10_exchange 72 = .ok (.getfield 7, 3) := by decide +kernel
theorem dX10_exchange_75 : decode cX10_exchange 75 = .ok (.if_icmp .ge 49, 3) := by decide +kernel
theorem dX10_exchange_78 : decode cX10_exchange 78 = .ok (.iload 5, 2) := by decide +kernel
theorem dX10_exchange_80 : decode cX10_exchange 80 = .ok (.iload_n 2, 1) := by decide +kernel
theorem dX10_exchange_81 : decode cX10_exchange 81 = .ok (.iload 6, 2) := by decide +kernel
theorem dX10_exchange_83 : decode cX10_exchange 83 = .ok (.ishr, 1) := by decide +kernel
theorem dX10_exchange_84 : decode cX10_exchange 84 = .ok (.iconst 1, 1) := by decide +kernel
theorem dX10_exchange_85 : decode cX10_exchange 85 = .ok (.iand, 1) := by decide +kernel
theorem dX10_exchange_86 : decode cX10_exchange 86 = .ok (.iconst 1, 1) := by decide +kernel
theorem dX10_exchange_87 : decode cX10_exchange 87 = .ok (.if_icmp .ne 27, 3) := by decide +kernel
theorem dX10_exchange_90 : decode cX10_exchange 90 = .ok (.aload_n 0, 1) := by decide +kernel
theorem dX10_exchange_91 : decode cX10_exchange 91 = .ok (.iload_n 1, 1) := by decide +kernel
theorem dX10_exchange_92 : decode cX10_exchange 92 = .ok (.iload 4, 2) := by decide +kernel
theorem dX10_exchange_94 : decode cX10_exchange 94 = .ok (.iconst 1, 1) := by decide +kernel
theorem dX10_exchange_95 : decode cX10_exchange 95 = .ok (.iload 6, 2) := by decide +kernel
theorem dX10_exchange_97 : decode cX10_exchange 97 = .ok (.ishl, 1) := by decide +kernel
theorem dX10_exchange_98 : decode cX10_exchange 98 = .ok (.iconst (-1), 1) := by decide +kernel
theorem dX10_exchange_99 : decode cX10_exchange 99 = .ok (.ixor, 1) := by decide +kernel
theorem dX10_exchange_100 : decode cX10_exchange 100 = .ok (.iand, 1) := by decide +kernel
theorem dX10_exchange_101 : decode cX10_exchange 101 = .ok (.invokevirtual 100, 3) := by decide +kernel
theorem dX10_exchange_104 : decode cX10_exchange 104 = .ok (.ifCond .eq 10, 3) := by decide +kernel
theorem dX10_exchange_107 : decode cX10_exchange 107 = .ok (.iconst 1, 1) := by decide +kernel
theorem dX10_exchange_108 : decode cX10_exchange 108 = .ok (.iload 6, 2) := by decide +kernel
theorem dX10_exchange_110 : decode cX10_exchange 110 = .ok (.ishl, 1) := by decide +kernel
theorem dX10_exchange_111 : decode cX10_exchange 111 = .ok (.goto 4, 3) := by decide +kernel
theorem dX10_exchange_114 : decode cX10_exchange 114 = .ok (.iconst 0, 1) := by decide +kernel
theorem dX10_exchange_115 : decode cX10_exchange 115 = .ok (.ior, 1) := by decide +kernel
theorem dX10_exchange_116 : decode cX10_exchange 116 = .ok (.istore 5, 2) := by decide +kernel
theorem dX10_exchange_118 : decode cX10_exchange 118 = .ok (.iinc 6 1, 3) := by decide +kernel
theorem dX10_exchange_121 : decode cX10_exchange 121 = .ok (.goto (-52), 3) := by decide +kernel
theorem dX10_exchange_124 : decode cX10_exchange 124 = .ok (.iload 5, 2) := by decide +kernel
theorem dX10_exchange_126 : decode cX10_exchange 126 = .ok (.ireturn, 1) := by decide +kernel
theorem dX10_weightOf_0 : decode cX10_weightOf 0 = .ok (.iconst 0, 1) := by decide +kernel
theorem dX10_weightOf_1 : decode cX10_weightOf 1 = .ok (.istore_n 2, 1) := by decide +kernel
theorem dX10_weightOf_2 : decode cX10_weightOf 2 = .ok (.iconst 0, 1) := by decide +kernel
theorem dX10_weightOf_3 : decode cX10_weightOf 3 = .ok (.istore_n 3, 1) := by decide +kernel
theorem dX10_weightOf_4 : decode cX10_weightOf 4 = .ok (.iload_n 3, 1) := by decide +kernel
theorem dX10_weightOf_5 : decode cX10_weightOf 5 = .ok (.aload_n 0, 1) := by decide +kernel
theorem dX10_weightOf_6 : decode cX10_weightOf 6 = .ok (.getfield 7, 3) := by decide +kernel
theorem dX10_weightOf_9 : decode cX10_weightOf 9 = .ok (.if_icmp .ge 31, 3) := by decide +kernel
theorem dX10_weightOf_12 : decode cX10_weightOf 12 = .ok (.iload_n 2, 1) := by decide +kernel
theorem dX10_weightOf_13 : decode cX10_weightOf 13 = .ok (.iload_n 1, 1) := by decide +kernel
theorem dX10_weightOf_14 : decode cX10_weightOf 14 = .ok (.iload_n 3, 1) := by decide +kernel
theorem dX10_weightOf_15 : decode cX10_weightOf 15 = .ok (.ishr, 1) := by decide +kernel
theorem dX10_weightOf_16 : decode cX10_weightOf 16 = .ok (.iconst 1, 1) := by decide +kernel
theorem dX10_weightOf_17 : decode cX10_weightOf 17 = .ok (.iand, 1) := by decide +kernel
theorem dX10_weightOf_18 : decode cX10_weightOf 18 = .ok (.iconst 1, 1) := by decide +kernel
theorem dX10_weightOf_19 : decode cX10_weightOf 19 = .ok (.if_icmp .ne 12, 3) := by decide +kernel
theorem dX10_weightOf_22 : decode cX10_weightOf 22 = .ok (.aload_n 0, 1) := by decide +kernel
theorem dX10_weightOf_23 : decode cX10_weightOf 23 = .ok (.getfield 16, 3) := by decide +kernel
theorem dX10_weightOf_26 : decode cX10_weightOf 26 = .ok (.iload_n 3, 1) := by decide +kernel
theorem dX10_weightOf_27 : decode cX10_weightOf 27 = .ok (.iaload, 1) := by decide +kernel
theorem dX10_weightOf_28 : decode cX10_weightOf 28 = .ok (.goto 4, 3) := by decide +kernel
theorem dX10_weightOf_31 : decode cX10_weightOf 31 = .ok (.iconst 0, 1) := by decide +kernel
theorem dX10_weightOf_32 : decode cX10_weightOf 32 = .ok (.iadd, 1) := by decide +kernel
theorem dX10_weightOf_33 : decode cX10_weightOf 33 = .ok (.istore_n 2, 1) := by decide +kernel
theorem dX10_weightOf_34 : decode cX10_weightOf 34 = .ok (.iinc 3 1, 3) := by decide +kernel
theorem dX10_weightOf_37 : decode cX10_weightOf 37 = .ok (.goto (-33), 3) := by decide +kernel
theorem dX10_weightOf_40 : decode cX10_weightOf 40 = .ok (.iload_n 2, 1) := by decide +kernel
theorem dX10_weightOf_41 : decode cX10_weightOf 41 = .ok (.ireturn, 1) := by decide +kernel
theorem dX10_isBetter_0 : decode cX10_isBetter 0 = .ok (.aload_n 0, 1) := by decide +kernel
theorem dX10_isBetter_1 : decode cX10_isBetter 1 = .ok (.iload_n 1, 1) := by decide +kernel
theorem dX10_isBetter_2 : decode cX10_isBetter 2 = .ok (.invokevirtual 204, 3) := by decide +kernel
theorem dX10_isBetter_5 : decode cX10_isBetter 5 = .ok (.istore 4, 2) := by decide +kernel
theorem dX10_isBetter_7 : decode cX10_isBetter 7 = .ok (.aload_n 0, 1) := by decide +kernel
