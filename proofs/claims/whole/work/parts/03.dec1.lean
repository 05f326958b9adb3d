theorem dX8_lengths_18 : decode cX8_lengths 18 = .ok (.iload 4, 2) := by decide +kernel
theorem dX8_lengths_20 : decode cX8_lengths 20 = .ok (.iadd, 1) := by decide +kernel
theorem dX8_lengths_21 : decode cX8_lengths 21 = .ok (.iaload, 1) := by decide +kernel
theorem dX8_lengths_22 : decode cX8_lengths 22 = .ok (.invokevirtual 69, 3) := by decide +kernel
theorem dX8_lengths_25 : decode cX8_lengths 25 = .ok (.iadd, 1) := by decide +kernel
theorem dX8_lengths_26 : decode cX8_lengths 26 = .ok (.istore_n 3, 1) := by decide +kernel
theorem dX8_lengths_27 : decode cX8_lengths 27 = .ok (.iinc 4 1, 3) := by decide +kernel
theorem dX8_lengths_30 : decode cX8_lengths 30 = .ok (.goto (-25), 3) := by decide +kernel
theorem dX8_lengths_33 : decode cX8_lengths 33 = .ok (.iload_n 3, 1) := by decide +kernel
theorem dX8_lengths_34 : decode cX8_lengths 34 = .ok (.ireturn, 1) := by decide +kernel
theorem dX8_lengthOn_0 : decode cX8_lengthOn 0 = .ok (.aload_n 0, 1) := by decide +kernel
theorem dX8_lengthOn_1 : decode cX8_lengthOn 1 = .ok (.bipush 60, 2) := by decide +kernel
theorem dX8_lengthOn_3 : decode cX8_lengthOn 3 = .ok (.bipush 30, 2) := by decide +kernel
theorem dX8_lengthOn_5 : decode cX8_lengthOn 5 = .ok (.iload_n 1, 1) := by decide +kernel
theorem dX8_lengthOn_6 : decode cX8_lengthOn 6 = .ok (.imul, 1) := by decide +kernel
theorem dX8_lengthOn_7 : decode cX8_lengthOn 7 = .ok (.iadd, 1) := by decide +kernel
theorem dX8_lengthOn_8 : decode cX8_lengthOn 8 = .ok (.aload_n 0, 1) := by decide +kernel
theorem dX8_lengthOn_9 : decode cX8_lengthOn 9 = .ok (.iload_n 1, 1) := by decide +kernel
theorem dX8_lengthOn_10 : decode cX8_lengthOn 10 = .ok (.invokevirtual 72, 3) := by decide +kernel
theorem dX8_lengthOn_13 : decode cX8_lengthOn 13 = .ok (.invokevirtual 75, 3) := by decide +kernel
theorem dX8_lengthOn_16 : decode cX8_lengthOn 16 = .ok (.ireturn, 1) := by decide +kernel
theorem dX8_lengthAtEngine_0 : decode cX8_lengthAtEngine 0 = .ok (.aload_n 0, 1) := by decide +kernel
theorem dX8_lengthAtEngine_1 : decode cX8_lengthAtEngine 1 = .ok (.sipush 300, 3) := by decide +kernel
theorem dX8_lengthAtEngine_4 : decode cX8_lengthAtEngine 4 = .ok (.aload_n 0, 1) := by decide +kernel
theorem dX8_lengthAtEngine_5 : decode cX8_lengthAtEngine 5 = .ok (.getfield 7, 3) := by decide +kernel
theorem dX8_lengthAtEngine_8 : decode cX8_lengthAtEngine 8 = .ok (.bipush 9, 2) := by decide +kernel
theorem dX8_lengthAtEngine_10 : decode cX8_lengthAtEngine 10 = .ok (.iaload, 1) := by decide +kernel
theorem dX8_lengthAtEngine_11 : decode cX8_lengthAtEngine 11 = .ok (.invokevirtual 75, 3) := by decide +kernel
theorem dX8_lengthAtEngine_14 : decode cX8_lengthAtEngine 14 = .ok (.ireturn, 1) := by decide +kernel
theorem dX8_wagon_0 : decode cX8_wagon 0 = .ok (.aload_n 0, 1) := by decide +kernel
theorem dX8_wagon_1 : decode cX8_wagon 1 = .ok (.iload_n 1, 1) := by decide +kernel
theorem dX8_wagon_2 : decode cX8_wagon 2 = .ok (.invokevirtual 79, 3) := by decide +kernel
theorem dX8_wagon_5 : decode cX8_wagon 5 = .ok (.ifCond .ne 5, 3) := by decide +kernel
theorem dX8_wagon_8 : decode cX8_wagon 8 = .ok (.iconst (-1), 1) := by decide +kernel
theorem dX8_wagon_9 : decode cX8_wagon 9 = .ok (.ireturn, 1) := by decide +kernel
theorem dX8_wagon_10 : decode cX8_wagon 10 = .ok (.iload_n 2, 1) := by decide +kernel
theorem dX8_wagon_11 : decode cX8_wagon 11 = .ok (.iconst 1, 1) := by decide +kernel
theorem dX8_wagon_12 : decode cX8_wagon 12 = .ok (.iconst 4, 1) := by decide +kernel
theorem dX8_wagon_13 : decode cX8_wagon 13 = .ok (.invokestatic 55, 3) := by decide +kernel
theorem dX8_wagon_16 : decode cX8_wagon 16 = .ok (.ifCond .ne 6, 3) := by decide +kernel
theorem dX8_wagon_19 : decode cX8_wagon 19 = .ok (.bipush (-2), 2) := by decide +kernel
theorem dX8_wagon_21 : decode cX8_wagon 21 = .ok (.ireturn, 1) := by decide +kernel
theorem dX8_wagon_22 : decode cX8_wagon 22 = .ok (.aload_n 0, 1) := by decide +kernel
theorem dX8_wagon_23 : decode cX8_wagon 23 = .ok (.getfield 7, 3) := by decide +kernel
theorem dX8_wagon_26 : decode cX8_wagon 26 = .ok (.bipush 8, 2) := by decide +kernel
theorem dX8_wagon_28 : decode cX8_wagon 28 = .ok (.iaload, 1) := by decide +kernel
theorem dX8_wagon_29 : decode cX8_wagon 29 = .ok (.bipush 30, 2) := by decide +kernel
theorem dX8_wagon_31 : decode cX8_wagon 31 = .ok (.if_icmp .ne 6, 3) := by decide +kernel
theorem dX8_wagon_34 : decode cX8_wagon 34 = .ok (.bipush (-4), 2) := by decide +kernel
theorem dX8_wagon_36 : decode cX8_wagon 36 = .ok (.ireturn, 1) := by decide +kernel
theorem dX8_wagon_37 : decode cX8_wagon 37 = .ok (.aload_n 0, 1) := by decide +kernel
theorem dX8_wagon_38 : decode cX8_wagon 38 = .ok (.iload_n 1, 1) := by decide +kernel
theorem dX8_wagon_39 : decode cX8_wagon 39 = .ok (.invokevirtual 83, 3) := by decide +kernel
theorem dX8_wagon_42 : decode cX8_wagon 42 = .ok (.iload_n 2, 1) := by decide +kernel
theorem dX8_wagon_43 : decode cX8_wagon 43 = .ok (.iadd, 1) := by decide +kernel
theorem dX8_wagon_44 : decode cX8_wagon 44 = .ok (.aload_n 0, 1) := by decide +kernel
theorem dX8_wagon_45 : decode cX8_wagon 45 = .ok (.getfield 7, 3) := by decide +kernel
theorem dX8_wagon_48 : decode cX8_wagon 48 = .ok (.bipush 20, 2) := by decide +kernel
theorem dX8_wagon_50 : decode cX8_wagon 50 = .ok (.iconst 4, 1) := by decide +kernel
theorem dX8_wagon_51 : decode cX8_wagon 51 = .ok (.iload_n 1, 1) := by decide +kernel
theorem dX8_wagon_52 : decode cX8_wagon 52 = .ok (.imul, 1) := by decide +kernel
theorem dX8_wagon_53 : decode cX8_wagon 53 = .ok (.iadd, 1) := by decide +kernel
theorem dX8_wagon_54 : decode cX8_wagon 54 = .ok (.iaload, 1) := by decide +kernel
theorem dX8_wagon_55 : decode cX8_wagon 55 = .ok (.if_icmp .le 6, 3) := by decide +kernel
theorem dX8_wagon_58 : decode cX8_wagon 58 = .ok (.bipush (-5), 2) := by decide +kernel
theorem dX8_wagon_60 : decode cX8_wagon 60 = .ok (.ireturn, 1) := by decide +kernel
theorem dX8_wagon_61 : decode cX8_wagon 61 = .ok (.aload_n 0, 1) := by decide +kernel
theorem dX8_wagon_62 : decode cX8_wagon 62 = .ok (.invokevirtual 66, 3) := by decide +kernel
theorem dX8_wagon_65 : decode cX8_wagon 65 = .ok (.aload_n 0, 1) := by decide +kernel
theorem dX8_wagon_66 : decode cX8_wagon 66 = .ok (.getfield 7, 3) := by decide +kernel
theorem dX8_wagon_69 : decode cX8_wagon 69 = .ok (.bipush 8, 2) := by decide +kernel
theorem dX8_wagon_71 : decode cX8_wagon 71 = .ok (.iaload, 1) := by decide +kernel
theorem dX8_wagon_72 : decode cX8_wagon 72 = .ok (.istore_n 3, 1) := by decide +kernel
theorem dX8_wagon_73 : decode cX8_wagon 73 = .ok (.aload_n 0, 1) := by decide +kernel
theorem dX8_wagon_74 : decode cX8_wagon 74 = .ok (.getfield 7, 3) := by decide +kernel
theorem dX8_wagon_77 : decode cX8_wagon 77 = .ok (.sipush 330, 3) := by decide +kernel
theorem dX8_wagon_80 : decode cX8_wagon 80 = .ok (.iconst 4, 1) := by decide +kernel
theorem dX8_wagon_81 : decode cX8_wagon 81 = .ok (.iload_n 3, 1) := by decide +kernel
theorem dX8_wagon_82 : decode cX8_wagon 82 = .ok (.imul, 1) := by decide +kernel
theorem dX8_wagon_83 : decode cX8_wagon 83 = .ok (.iadd, 1) := by decide +kernel
theorem dX8_wagon_84 : decode cX8_wagon 84 = .ok (.iload_n 2, 1) := by decide +kernel
theorem dX8_wagon_85 : decode cX8_wagon 85 = .ok (.iastore, 1) := by decide +kernel
theorem dX8_wagon_86 : decode cX8_wagon 86 = .ok (.aload_n 0, 1) := by decide +kernel
theorem dX8_wagon_87 : decode cX8_wagon 87 = .ok (.getfield 7, 3) := by decide +kernel
theorem dX8_wagon_90 : decode cX8_wagon 90 = .ok (.sipush 330, 3) := by decide +kernel
theorem dX8_wagon_93 : decode cX8_wagon 93 = .ok (.iconst 4, 1) := by decide +kernel
theorem dX8_wagon_94 : decode cX8_wagon 94 = .ok (.iload_n 3, 1) := by decide +kernel
theorem dX8_wagon_95 : decode cX8_wagon 95 = .ok (.imul, 1) := by decide +kernel
theorem dX8_wagon_96 : decode cX8_wagon 96 = .ok (.iadd, 1) := by decide +kernel
theorem dX8_wagon_97 : decode cX8_wagon 97 = .ok (.iconst 1, 1) := by decide +kernel
theorem dX8_wagon_98 : decode cX8_wagon 98 = .ok (.iadd, 1) := by decide +kernel
theorem dX8_wagon_99 : decode cX8_wagon 99 = .ok (.bipush (-6), 2) := by decide +kernel
theorem dX8_wagon_101 : decode cX8_wagon 101 = .ok (.iastore, 1) := by decide +kernel
theorem dX8_wagon_102 : decode cX8_wagon 102 = .ok (.aload_n 0, 1) := by decide +kernel
theorem dX8_wagon_103 : decode cX8_wagon 103 = .ok (.getfield 7, 3) := by decide +kernel
theorem dX8_wagon_106 : decode cX8_wagon 106 = .ok (.bipush 8, 2) := by decide +kernel
theorem dX8_wagon_108 : decode cX8_wagon 108 = .ok (.dup2, 1) := by decide +kernel
theorem dX8_wagon_109 : decode cX8_wagon 109 = .ok (.iaload, 1) := by decide +kernel
theorem dX8_wagon_110 : decode cX8_wagon 110 = .ok (.iconst 1, 1) := by decide +kernel
theorem dX8_wagon_111 : decode cX8_wagon 111 = .ok (.iadd, 1) := by decide +kernel
theorem dX8_wagon_112 : decode cX8_wagon 112 = .ok (.iastore, 1) := by decide +kernel
theorem dX8_wagon_113 : decode cX8_wagon 113 = .ok (.bipush 60, 2) := by decide +kernel
theorem dX8_wagon_115 : decode cX8_wagon 115 = .ok (.bipush 30, 2) := by decide +kernel
theorem dX8_wagon_117 : decode cX8_wagon 117 = .ok (.iload_n 1, 1) := by decide +kernel
theorem dX8_wagon_118 : decode cX8_wagon 118 = .ok (.imul, 1) := by decide +kernel
theorem dX8_wagon_119 : decode cX8_wagon 119 = .ok (.iadd, 1) := by decide +kernel
theorem dX8_wagon_120 : decode cX8_wagon 120 = .ok (.istore 4, 2) := by decide +kernel
theorem dX8_wagon_122 : decode cX8_wagon 122 = .ok (.aload_n 0, 1) := by decide +kernel
theorem dX8_wagon_123 : decode cX8_wagon 123 = .ok (.iload_n 1, 1) := by decide +kernel
theorem dX8_wagon_124 : decode cX8_wagon 124 = .ok (.invokevirtual 72, 3) := by decide +kernel
theorem dX8_wagon_127 : decode cX8_wagon 127 = .ok (.istore 5, 2) := by decide +kernel
theorem dX8_wagon_129 : decode cX8_wagon 129 = .ok (.iload 5, 2) := by decide +kernel
theorem dX8_wagon_131 : decode cX8_wagon 131 = .ok (.ifCond .le 31, 3) := by decide +kernel
theorem dX8_wagon_134 : decode cX8_wagon 134 = .ok (.aload_n 0, 1) := by decide +kernel
theorem dX8_wagon_135 : decode cX8_wagon 135 = .ok (.getfield 7, 3) := by decide +kernel
theorem dX8_wagon_138 : decode cX8_wagon 138 = .ok (.iload 4, 2) := by decide +kernel
theorem dX8_wagon_140 : decode cX8_wagon 140 = .ok (.iload 5, 2) := by decide +kernel
theorem dX8_wagon_142 : decode cX8_wagon 142 = .ok (.iadd, 1) := by decide +kernel
theorem dX8_wagon_143 : decode cX8_wagon 143 = .ok (.aload_n 0, 1) := by decide +kernel
theorem dX8_wagon_144 : decode cX8_wagon 144 = .ok (.getfield 7, 3) := by decide +kernel
theorem dX8_wagon_147 : decode cX8_wagon 147 = .ok (.iload 4, 2) := by decide +kernel
theorem dX8_wagon_149 : decode cX8_wagon 149 = .ok (.iload 5, 2) := by decide +kernel
theorem dX8_wagon_151 : decode cX8_wagon 151 = .ok (.iadd, 1) := by decide +kernel
theorem dX8_wagon_152 : decode cX8_wagon 152 = .ok (.iconst 1, 1) := by decide +kernel
theorem dX8_wagon_153 : decode cX8_wagon 153 = .ok (.isub, 1) := by decide +kernel
theorem dX8_wagon_154 : decode cX8_wagon 154 = .ok (.iaload, 1) := by decide +kernel
theorem dX8_wagon_155 : decode cX8_wagon 155 = .ok (.iastore, 1) := by decide +kernel
theorem dX8_wagon_156 : decode cX8_wagon 156 = .ok (.iinc 5 (-1), 3) := by decide +kernel
theorem dX8_wagon_159 : decode cX8_wagon 159 = .ok (.goto (-30), 3) := by decide +kernel
theorem dX8_wagon_162 : decode cX8_wagon 162 = .ok (.aload_n 0, 1) := by decide +kernel
theorem dX8_wagon_163 : decode cX8_wagon 163 = .ok (.getfield 7, 3) := by decide +kernel
theorem dX8_wagon_166 : decode cX8_wagon 166 = .ok (.iload 4, 2) := by decide +kernel
theorem dX8_wagon_168 : decode cX8_wagon 168 = .ok (.iload_n 3, 1) := by decide +kernel
theorem dX8_wagon_169 : decode cX8_wagon 169 = .ok (.iastore, 1) := by decide +kernel
theorem dX8_wagon_170 : decode cX8_wagon 170 = .ok (.aload_n 0, 1) := by decide +kernel
theorem dX8_wagon_171 : decode cX8_wagon 171 = .ok (.getfield 7, 3) := by decide +kernel
theorem dX8_wagon_174 : decode cX8_wagon 174 = .ok (.bipush 20, 2) := by decide +kernel
theorem dX8_wagon_176 : decode cX8_wagon 176 = .ok (.iconst 4, 1) := by decide +kernel
theorem dX8_wagon_177 : decode cX8_wagon 177 = .ok (.iload_n 1, 1) := by decide +kernel
theorem dX8_wagon_178 : decode cX8_wagon 178 = .ok (.imul, 1) := by decide +kernel
theorem dX8_wagon_179 : decode cX8_wagon 179 = .ok (.iadd, 1) := by decide +kernel
theorem dX8_wagon_180 : decode cX8_wagon 180 = .ok (.iconst 1, 1) := by decide +kernel
theorem dX8_wagon_181 : decode cX8_wagon 181 = .ok (.iadd, 1) := by decide +kernel
theorem dX8_wagon_182 : decode cX8_wagon 182 = .ok (.dup2, 1) := by decide +kernel
theorem dX8_wagon_183 : decode cX8_wagon 183 = .ok (.iaload, 1) := by decide +kernel
theorem dX8_wagon_184 : decode cX8_wagon 184 = .ok (.iconst 1, 1) := by decide +kernel
theorem dX8_wagon_185 : decode cX8_wagon 185 = .ok (.iadd, 1) := by decide +kernel
theorem dX8_wagon_186 : decode cX8_wagon 186 = .ok (.iastore, 1) := by decide +kernel
theorem dX8_wagon_187 : decode cX8_wagon 187 = .ok (.iload_n 3, 1) := by decide +kernel
theorem dX8_wagon_188 : decode cX8_wagon 188 = .ok (.ireturn, 1) := by decide +kernel
theorem dX8_block_0 : decode cX8_block 0 = .ok (.iload_n 1, 1) := by decide +kernel
theorem dX8_block_1 : decode cX8_block 1 = .ok (.aload_n 0, 1) := by decide +kernel
theorem dX8_block_2 : decode cX8_block 2 = .ok (.getfield 7, 3) := by decide +kernel
theorem dX8_block_5 : decode cX8_block 5 = .ok (.bipush 6, 2) := by decide +kernel
theorem dX8_block_7 : decode cX8_block 7 = .ok (.iaload, 1) := by decide +kernel
theorem dX8_block_8 : decode cX8_block 8 = .ok (.aload_n 0, 1) := by decide +kernel
theorem dX8_block_9 : decode cX8_block 9 = .ok (.getfield 7, 3) := by decide +kernel
theorem dX8_block_12 : decode cX8_block 12 = .ok (.bipush 6, 2) := by decide +kernel
theorem dX8_block_14 : decode cX8_block 14 = .ok (.iaload, 1) := by decide +kernel
theorem dX8_block_15 : decode cX8_block 15 = .ok (.sipush 2000, 3) := by decide +kernel
theorem dX8_block_18 : decode cX8_block 18 = .ok (.iadd, 1) := by decide +kernel
theorem dX8_block_19 : decode cX8_block 19 = .ok (.invokestatic 55, 3) := by decide +kernel
theorem dX8_block_22 : decode cX8_block 22 = .ok (.ifCond .eq 14, 3) := by decide +kernel
theorem dX8_block_25 : decode cX8_block 25 = .ok (.iload_n 2, 1) := by decide +kernel
theorem dX8_block_26 : decode cX8_block 26 = .ok (.iconst 1, 1) := by decide +kernel
theorem dX8_block_27 : decode cX8_block 27 = .ok (.sipush 500, 3) := by decide +kernel
theorem dX8_block_30 : decode cX8_block 30 = .ok (.invokestatic 55, 3) := by decide +kernel
theorem dX8_block_33 : decode cX8_block 33 = .ok (.ifCond .ne 6, 3) := by decide +kernel
theorem dX8_block_36 : decode cX8_block 36 = .ok (.bipush (-2), 2) := by decide +kernel
theorem dX8_block_38 : decode cX8_block 38 = .ok (.ireturn, 1) := by decide +kernel
theorem dX8_block_39 : decode cX8_block 39 = .ok (.aload_n 0, 1) := by decide +kernel
theorem dX8_block_40 : decode cX8_block 40 = .ok (.getfield 7, 3) := by decide +kernel
theorem dX8_block_43 : decode cX8_block 43 = .ok (.bipush 13, 2) := by decide +kernel
theorem dX8_block_45 : decode cX8_block 45 = .ok (.iaload, 1) := by decide +kernel
theorem dX8_block_46 : decode cX8_block 46 = .ok (.bipush 10, 2) := by decide +kernel
theorem dX8_block_48 : decode cX8_block 48 = .ok (.if_icmp .ne 6, 3) := by decide +kernel
theorem dX8_block_51 : decode cX8_block 51 = .ok (.bipush (-4), 2) := by decide +kernel
theorem dX8_block_53 : decode cX8_block 53 = .ok (.ireturn, 1) := by decide +kernel
theorem dX8_block_54 : decode cX8_block 54 = .ok (.aload_n 0, 1) := by decide +kernel
theorem dX8_block_55 : decode cX8_block 55 = .ok (.invokevirtual 66, 3) := by decide +kernel
theorem dX8_block_58 : decode cX8_block 58 = .ok (.aload_n 0, 1) := by decide +kernel
theorem dX8_block_59 : decode cX8_block 59 = .ok (.getfield 7, 3) := by decide +kernel
theorem dX8_block_62 : decode cX8_block 62 = .ok (.sipush 530, 3) := by decide +kernel
theorem dX8_block_65 : decode cX8_block 65 = .ok (.iconst 2, 1) := by decide +kernel
theorem dX8_block_66 : decode cX8_block 66 = .ok (.aload_n 0, 1) := by decide +kernel
theorem dX8_block_67 : decode cX8_block 67 = .ok (.getfield 7, 3) := by decide +kernel
theorem dX8_block_70 : decode cX8_block 70 = .ok (.bipush 13, 2) := by decide +kernel
theorem dX8_block_72 : decode cX8_block 72 = .ok (.iaload, 1) := by decide +kernel
theorem dX8_block_73 : decode cX8_block 73 = .ok (.imul, 1) := by decide +kernel
theorem dX8_block_74 : decode cX8_block 74 = .ok (.iadd, 1) := by decide +kernel
theorem dX8_block_75 : decode cX8_block 75 = .ok (.iload_n 1, 1) := by decide +kernel
theorem dX8_block_76 : decode cX8_block 76 = .ok (.iastore, 1) := by decide +kernel
theorem dX8_block_77 : decode cX8_block 77 = .ok (.aload_n 0, 1) := by decide +kernel
theorem dX8_block_78 : decode cX8_block 78 = .ok (.getfield 7, 3) := by decide +kernel
theorem dX8_block_81 : decode cX8_block 81 = .ok (.sipush 530, 3) := by decide +kernel
theorem dX8_block_84 : decode cX8_block 84 = .ok (.iconst 2, 1) := by decide +kernel
theorem dX8_block_85 : decode cX8_block 85 = .ok (.aload_n 0, 1) := by decide +kernel
theorem dX8_block_86 : decode cX8_block 86 = .ok (.getfield 7, 3) := by decide +kernel
theorem dX8_block_89 : decode cX8_block 89 = .ok (.bipush 13, 2) := by decide +kernel
theorem dX8_block_91 : decode cX8_block 91 = .ok (.iaload, 1) := by decide +kernel
theorem dX8_block_92 : decode cX8_block 92 = .ok (.imul, 1) := by decide +kernel
theorem dX8_block_93 : decode cX8_block 93 = .ok (.iadd, 1) := by decide +kernel
theorem dX8_block_94 : decode cX8_block 94 = .ok (.iconst 1, 1) := by decide +kernel
theorem dX8_block_95 : decode cX8_block 95 = .ok (.iadd, 1) := by decide +kernel
theorem dX8_block_96 : decode cX8_block 96 = .ok (.iload_n 1, 1) := by decide +kernel
theorem dX8_block_97 : decode cX8_block 97 = .ok (.iload_n 2, 1) := by decide +kernel
theorem dX8_block_98 : decode cX8_block 98 = .ok (.iadd, 1) := by decide +kernel
theorem dX8_block_99 : decode cX8_block 99 = .ok (.iastore, 1) := by decide +kernel
theorem dX8_block_100 : decode cX8_block 100 = .ok (.aload_n 0, 1) := by decide +kernel
theorem dX8_block_101 : decode cX8_block 101 = .ok (.getfield 7, 3) := by decide +kernel
theorem dX8_block_104 : decode cX8_block 104 = .ok (.bipush 13, 2) := by decide +kernel
theorem dX8_block_106 : decode cX8_block 106 = .ok (.dup2, 1) := by decide +kernel
theorem dX8_block_107 : decode cX8_block 107 = .ok (.iaload, 1) := by decide +kernel
theorem dX8_block_108 : decode cX8_block 108 = .ok (.iconst 1, 1) := by decide +kernel
theorem dX8_block_109 : decode cX8_block 109 = .ok (.iadd, 1) := by decide +kernel
theorem dX8_block_110 : decode cX8_block 110 = .ok (.iastore, 1) := by decide +kernel
theorem dX8_block_111 : decode cX8_block 111 = .ok (.aload_n 0, 1) := by decide +kernel
theorem dX8_block_112 : decode cX8_block 112 = .ok (.getfield 7, 3) := by decide +kernel
theorem dX8_block_115 : decode cX8_block 115 = .ok (.bipush 13, 2) := by decide +kernel
theorem dX8_block_117 : decode cX8_block 117 = .ok (.iaload, 1) := by decide +kernel
theorem dX8_block_118 : decode cX8_block 118 = .ok (.ireturn, 1) := by decide +kernel
theorem dX8_freeAt_0 : decode cX8_freeAt 0 = .ok (.iload_n 1, 1) := by decide +kernel
theorem dX8_freeAt_1 : decode cX8_freeAt 1 = .ok (.istore_n 3, 1) := by decide +kernel
theorem dX8_freeAt_2 : decode cX8_freeAt 2 = .ok (.iconst 1, 1) := by decide +kernel
theorem dX8_freeAt_3 : decode cX8_freeAt 3 = .ok (.istore 4, 2) := by decide +kernel
theorem dX8_freeAt_5 : decode cX8_freeAt 5 = .ok (.iload 4, 2) := by decide +kernel
theorem dX8_freeAt_7 : decode cX8_freeAt 7 = .ok (.ifCond .eq 82, 3) := by decide +kernel
theorem dX8_freeAt_10 : decode cX8_freeAt 10 = .ok (.iconst 0, 1) := by decide +kernel
theorem dX8_freeAt_11 : decode cX8_freeAt 11 = .ok (.istore 4, 2) := by decide +kernel
theorem dX8_freeAt_13 : decode cX8_freeAt 13 = .ok (.iconst 0, 1) := by decide +kernel
theorem dX8_freeAt_14 : decode cX8_freeAt 14 = .ok (.istore 5, 2) := by decide +kernel
theorem dX8_freeAt_16 : decode cX8_freeAt 16 = .ok (.iload 5, 2) := by decide +kernel
theorem dX8_freeAt_18 : decode cX8_freeAt 18 = .ok (.aload_n 0, 1) := by decide +kernel
theorem dX8_freeAt_19 : decode cX8_freeAt 19 = .ok (.getfield 7, 3) := by decide +kernel
theorem dX8_freeAt_22 : decode cX8_freeAt 22 = .ok (.bipush 13, 2) := by decide +kernel
theorem dX8_freeAt_24 : decode cX8_freeAt 24 = .ok (.iaload, 1) := by decide +kernel
theorem dX8_freeAt_25 : decode cX8_freeAt 25 = .ok (.if_icmp .ge 61, 3) := by decide +kernel
theorem dX8_freeAt_28 : decode cX8_freeAt 28 = .ok (.aload_n 0, 1) := by decide +kernel
theorem dX8_freeAt_29 : decode cX8_freeAt 29 = .ok (.getfield 7, 3) := by decide +kernel
theorem dX8_freeAt_32 : decode cX8_freeAt 32 = .ok (.sipush 530, 3) := by decide +kernel
theorem dX8_freeAt_35 : decode cX8_freeAt 35 = .ok (.iconst 2, 1) := by decide +kernel
theorem dX8_freeAt_36 : decode cX8_freeAt 36 = .ok (.iload 5, 2) := by decide +kernel
theorem dX8_freeAt_38 : decode cX8_freeAt 38 = .ok (.imul, 1) := by decide +kernel
theorem dX8_freeAt_39 : decode cX8_freeAt 39 = .ok (.iadd, 1) := by decide +kernel
theorem dX8_freeAt_40 : decode cX8_freeAt 40 = .ok (.iaload, 1) := by decide +kernel
theorem dX8_freeAt_41 : decode cX8_freeAt 41 = .ok (.istore 6, 2) := by decide +kernel
theorem dX8_freeAt_43 : decode cX8_freeAt 43 = .ok (.aload_n 0, 1) := by decide +kernel
theorem dX8_freeAt_44 : decode cX8_freeAt 44 = .ok (.getfield 7, 3) := by decide +kernel
theorem dX8_freeAt_47 : decode cX8_freeAt 47 = .ok (.sipush 530, 3) := by decide +kernel
theorem dX8_freeAt_50 : decode cX8_freeAt 50 = .ok (.iconst 2, 1) := by decide +kernel
theorem dX8_freeAt_51 : decode cX8_freeAt 51 = .ok (.iload 5, 2) := by decide +kernel
theorem dX8_freeAt_53 : decode cX8_freeAt 53 = .ok (.imul, 1) := by decide +kernel
theorem dX8_freeAt_54 : decode cX8_freeAt 54 = .ok (.iadd, 1) := by decide +kernel
theorem dX8_freeAt_55 : decode cX8_freeAt 55 = .ok (.iconst 1, 1) := by decide +kernel
theorem dX8_freeAt_56 : decode cX8_freeAt 56 = .ok (.iadd, 1) := by decide +kernel
theorem dX8_freeAt_57 : decode cX8_freeAt 57 = .ok (.iaload, 1) := by decide +kernel
theorem dX8_freeAt_58 : decode cX8_freeAt 58 = .ok (.istore 7, 2) := by decide +kernel
theorem dX8_freeAt_60 : decode cX8_freeAt 60 = .ok (.iload 6, 2) := by decide +kernel
theorem dX8_freeAt_62 : decode cX8_freeAt 62 = .ok (.iload_n 3, 1) := by decide +kernel
theorem dX8_freeAt_63 : decode cX8_freeAt 63 = .ok (.iload_n 2, 1) := by decide +kernel
theorem dX8_freeAt_64 : decode cX8_freeAt 64 = .ok (.iadd, 1) := by decide +kernel
theorem dX8_freeAt_65 : decode cX8_freeAt 65 = .ok (.if_icmp .ge 15, 3) := by decide +kernel
theorem dX8_freeAt_68 : decode cX8_freeAt 68 = .ok (.iload 7, 2) := by decide +kernel
theorem dX8_freeAt_70 : decode cX8_freeAt 70 = .ok (.iload_n 3, 1) := by decide +kernel
theorem dX8_freeAt_71 : decode cX8_freeAt 71 = .ok (.if_icmp .le 9, 3) := by decide +kernel
theorem dX8_freeAt_74 : decode cX8_freeAt 74 = .ok (.iload 7, 2) := by decide +kernel
theorem dX8_freeAt_76 : decode cX8_freeAt 76 = .ok (.istore_n 3, 1) := by decide +kernel
theorem dX8_freeAt_77 : decode cX8_freeAt 77 = .ok (.iconst 1, 1) := by decide +kernel
theorem dX8_freeAt_78 : decode cX8_freeAt 78 = .ok (.istore 4, 2) := by decide +kernel
theorem dX8_freeAt_80 : decode cX8_freeAt 80 = .ok (.iinc 5 1, 3) := by decide +kernel
theorem dX8_freeAt_83 : decode cX8_freeAt 83 = .ok (.goto (-67), 3) := by decide +kernel
theorem dX8_freeAt_86 : decode cX8_freeAt 86 = .ok (.goto (-81), 3) := by decide +kernel
theorem dX8_freeAt_89 : decode cX8_freeAt 89 = .ok (.iload_n 3, 1) := by decide +kernel
theorem dX8_freeAt_90 : decode cX8_freeAt 90 = .ok (.ireturn, 1) := by decide +kernel
theorem dX8_comeTo_0 : decode cX8_comeTo 0 = .ok (.aload_n 0, 1) := by decide +kernel
theorem dX8_comeTo_1 : decode cX8_comeTo 1 = .ok (.getfield 7, 3) := by decide +kernel
theorem dX8_comeTo_4 : decode cX8_comeTo 4 = .ok (.bipush 6, 2) := by decide +kernel
theorem dX8_comeTo_6 : decode cX8_comeTo 6 = .ok (.iload_n 1, 1) := by decide +kernel
theorem dX8_comeTo_7 : decode cX8_comeTo 7 = .ok (.iastore, 1) := by decide +kernel
theorem dX8_comeTo_8 : decode cX8_comeTo 8 = .ok (.iconst 0, 1) := by decide +kernel
theorem dX8_comeTo_9 : decode cX8_comeTo 9 = .ok (.istore_n 2, 1) := by decide +kernel
theorem dX8_comeTo_10 : decode cX8_comeTo 10 = .ok (.iconst 0, 1) := by decide +kernel
theorem dX8_comeTo_11 : decode cX8_comeTo 11 = .ok (.istore_n 3, 1) := by decide +kernel
theorem dX8_comeTo_12 : decode cX8_comeTo 12 = .ok (.iload_n 3, 1) := by decide +kernel
theorem dX8_comeTo_13 : decode cX8_comeTo 13 = .ok (.aload_n 0, 1) := by decide +kernel
theorem dX8_comeTo_14 : decode cX8_comeTo 14 = .ok (.getfield 7, 3) := by decide +kernel
theorem dX8_comeTo_17 : decode cX8_comeTo 17 = .ok (.bipush 13, 2) := by decide +kernel
theorem dX8_comeTo_19 : decode cX8_comeTo 19 = .ok (.iaload, 1) := by decide +kernel
theorem dX8_comeTo_20 : decode cX8_comeTo 20 = .ok (.if_icmp .ge 82, 3) := by decide +kernel
theorem dX8_comeTo_23 : decode cX8_comeTo 23 = .ok (.aload_n 0, 1) := by decide +kernel
theorem dX8_comeTo_24 : decode cX8_comeTo 24 = .ok (.getfield 7, 3) := by decide +kernel
theorem dX8_comeTo_27 : decode cX8_comeTo 27 = .ok (.sipush 530, 3) := by decide +kernel
theorem dX8_comeTo_30 : decode cX8_comeTo 30 = .ok (.iconst 2, 1) := by decide +kernel
theorem dX8_comeTo_31 : decode cX8_comeTo 31 = .ok (.iload_n 3, 1) := by decide +kernel
theorem dX8_comeTo_32 : decode cX8_comeTo 32 = .ok (.imul, 1) := by decide +kernel
theorem dX8_comeTo_33 : decode cX8_comeTo 33 = .ok (.iadd, 1) := by decide +kernel
theorem dX8_comeTo_34 : decode cX8_comeTo 34 = .ok (.iconst 1, 1) := by decide +kernel
theorem dX8_comeTo_35 : decode cX8_comeTo 35 = .ok (.iadd, 1) := by decide +kernel
theorem dX8_comeTo_36 : decode cX8_comeTo 36 = .ok (.iaload, 1) := by decide +kernel
theorem dX8_comeTo_37 : decode cX8_comeTo 37 = .ok (.iload_n 1, 1) := by decide +kernel
theorem dX8_comeTo_38 : decode cX8_comeTo 38 = .ok (.if_icmp .le 58, 3) := by decide +kernel
theorem dX8_comeTo_41 : decode cX8_comeTo 41 = .ok (.aload_n 0, 1) := by decide +kernel
theorem dX8_comeTo_42 : decode cX8_comeTo 42 = .ok (.getfield 7, 3) := by decide +kernel
theorem dX8_comeTo_45 : decode cX8_comeTo 45 = .ok (.sipush 530, 3) := by decide +kernel
theorem dX8_comeTo_48 : decode cX8_comeTo 48 = .ok (.iconst 2, 1) := by decide +kernel
theorem dX8_comeTo_49 : decode cX8_comeTo 49 = .ok (.iload_n 2, 1) := by decide +kernel
theorem dX8_comeTo_50 : decode cX8_comeTo 50 = .ok (.imul, 1) := by decide +kernel
theorem dX8_comeTo_51 : decode cX8_comeTo 51 = .ok (.iadd, 1) := by decide +kernel
theorem dX8_comeTo_52 : decode cX8_comeTo 52 = .ok (.aload_n 0, 1) := by decide +kernel
theorem dX8_comeTo_53 : decode cX8_comeTo 53 = .ok (.getfield 7, 3) := by decide +kernel
theorem dX8_comeTo_56 : decode cX8_comeTo 56 = .ok (.sipush 530, 3) := by decide +kernel
theorem dX8_comeTo_59 : decode cX8_comeTo 59 = .ok (.iconst 2, 1) := by decide +kernel
theorem dX8_comeTo_60 : decode cX8_comeTo 60 = .ok (.iload_n 3, 1) := by decide +kernel
theorem dX8_comeTo_61 : decode cX8_comeTo 61 = .ok (.imul, 1) := by decide +kernel
theorem dX8_comeTo_62 : decode cX8_comeTo 62 = .ok (.iadd, 1) := by decide +kernel
theorem dX8_comeTo_63 : decode cX8_comeTo 63 = .ok (.iaload, 1) := by decide +kernel
theorem dX8_comeTo_64 : decode cX8_comeTo 64 = .ok (.iastore, 1) := by decide +kernel
theorem dX8_comeTo_65 : decode cX8_comeTo 65 = .ok (.aload_n 0, 1) := by decide +kernel
theorem dX8_comeTo_66 : decode cX8_comeTo 66 = .ok (.getfield 7, 3) := by decide +kernel
theorem dX8_comeTo_69 : decode cX8_comeTo 69 = .ok (.sipush 530, 3) := by decide +kernel
theorem dX8_comeTo_72 : decode cX8_comeTo 72 = .ok (.iconst 2, 1) := by decide +kernel
theorem dX8_comeTo_73 : decode cX8_comeTo 73 = .ok (.iload_n 2, 1) := by decide +kernel
theorem dX8_comeTo_74 : decode cX8_comeTo 74 = .ok (.imul, 1) := by decide +kernel
theorem dX8_comeTo_75 : decode cX8_comeTo 75 = .ok (.iadd, 1) := by decide +kernel
theorem dX8_comeTo_76 : decode cX8_comeTo 76 = .ok (.iconst 1, 1) := by decide +kernel
theorem dX8_comeTo_77 : decode cX8_comeTo 77 = .ok (.iadd, 1) := by decide +kernel
theorem dX8_comeTo_78 : decode cX8_comeTo 78 = .ok (.aload_n 0, 1) := by decide +kernel
theorem dX8_comeTo_79 : decode cX8_comeTo 79 = .ok (.getfield 7, 3) := by decide +kernel
theorem dX8_comeTo_82 : decode cX8_comeTo 82 = .ok (.sipush 530, 3) := by decide +kernel
theorem dX8_comeTo_85 : decode cX8_comeTo 85 = .ok (.iconst 2, 1) := by decide +kernel
theorem dX8_comeTo_86 : decode cX8_comeTo 86 = .ok (.iload_n 3, 1) := by decide +kernel
theorem dX8_comeTo_87 : decode cX8_comeTo 87 = .ok (.imul, 1) := by decide +kernel
theorem dX8_comeTo_88 : decode cX8_comeTo 88 = .ok (.iadd, 1) := by decide +kernel
theorem dX8_comeTo_89 : decode cX8_comeTo 89 = .ok (.iconst 1, 1) := by decide +kernel
theorem dX8_comeTo_90 : decode cX8_comeTo 90 = .ok (.iadd, 1) := by decide +kernel
theorem dX8_comeTo_91 : decode cX8_comeTo 91 = .ok (.iaload, 1) := by decide +kernel
theorem dX8_comeTo_92 : decode cX8_comeTo 92 = .ok (.iastore, 1) := by decide +kernel
theorem dX8_comeTo_93 : decode cX8_comeTo 93 = .ok (.iinc 2 1, 3) := by decide +kernel
theorem dX8_comeTo_96 : decode cX8_comeTo 96 = .ok (.iinc 3 1, 3) := by decide +kernel
theorem dX8_comeTo_99 : decode cX8_comeTo 99 = .ok (.goto (-87), 3) := by decide +kernel
theorem dX8_comeTo_102 : decode cX8_comeTo 102 = .ok (.aload_n 0, 1) := by decide +kernel
theorem dX8_comeTo_103 : decode cX8_comeTo 103 = .ok (.getfield 7, 3) := by decide +kernel
theorem dX8_comeTo_106 : decode cX8_comeTo 106 = .ok (.bipush 13, 2) := by decide +kernel
theorem dX8_comeTo_108 : decode cX8_comeTo 108 = .ok (.iload_n 2, 1) := by decide +kernel
theorem dX8_comeTo_109 : decode cX8_comeTo 109 = .ok (.iastore, 1) := by decide +kernel
theorem dX8_comeTo_110 : decode cX8_comeTo 110 = .ok (.return_, 1) := by decide +kernel
theorem dX8_take_0 : decode cX8_take 0 = .ok (.iload_n 1, 1) := by decide +kernel
theorem dX8_take_1 : decode cX8_take 1 = .ok (.iload_n 2, 1) := by decide +kernel
theorem dX8_take_2 : decode cX8_take 2 = .ok (.aload_n 0, 1) := by decide +kernel
theorem dX8_take_3 : decode cX8_take 3 = .ok (.getfield 7, 3) := by decide +kernel
theorem dX8_take_6 : decode cX8_take 6 = .ok (.iconst 3, 1) := by decide +kernel
theorem dX8_take_7 : decode cX8_take 7 = .ok (.iaload, 1) := by decide +kernel
theorem dX8_take_8 : decode cX8_take 8 = .ok (.imul, 1) := by decide +kernel
theorem dX8_take_9 : decode cX8_take 9 = .ok (.iadd, 1) := by decide +kernel
theorem dX8_take_10 : decode cX8_take 10 = .ok (.istore_n 3, 1) := by decide +kernel
theorem dX8_take_11 : decode cX8_take 11 = .ok (.aload_n 0, 1) := by decide +kernel
theorem dX8_take_12 : decode cX8_take 12 = .ok (.aload_n 0, 1) := by decide +kernel
theorem dX8_take_13 : decode cX8_take 13 = .ok (.getfield 7, 3) := by decide +kernel
theorem dX8_take_16 : decode cX8_take 16 = .ok (.bipush 6, 2) := by decide +kernel
theorem dX8_take_18 : decode cX8_take 18 = .ok (.iaload, 1) := by decide +kernel
theorem dX8_take_19 : decode cX8_take 19 = .ok (.iload_n 3, 1) := by decide +kernel
theorem dX8_take_20 : decode cX8_take 20 = .ok (.invokevirtual 86, 3) := by decide +kernel
theorem dX8_take_23 : decode cX8_take 23 = .ok (.istore 4, 2) := by decide +kernel
theorem dX8_take_25 : decode cX8_take 25 = .ok (.aload_n 0, 1) := by decide +kernel
theorem dX8_take_26 : decode cX8_take 26 = .ok (.getfield 7, 3) := by decide +kernel
theorem dX8_take_29 : decode cX8_take 29 = .ok (.bipush 16, 2) := by decide +kernel
theorem dX8_take_31 : decode cX8_take 31 = .ok (.dup2, 1) := by decide +kernel
theorem dX8_take_32 : decode cX8_take 32 = .ok (.iaload, 1) := by decide +kernel
theorem dX8_take_33 : decode cX8_take 33 = .ok (.iload 4, 2) := by decide +kernel
theorem dX8_take_35 : decode cX8_take 35 = .ok (.aload_n 0, 1) := by decide +kernel
theorem dX8_take_36 : decode cX8_take 36 = .ok (.getfield 7, 3) := by decide +kernel
theorem dX8_take_39 : decode cX8_take 39 = .ok (.bipush 6, 2) := by decide +kernel
theorem dX8_take_41 : decode cX8_take 41 = .ok (.iaload, 1) := by decide +kernel
theorem dX8_take_42 : decode cX8_take 42 = .ok (.isub, 1) := by decide +kernel
theorem dX8_take_43 : decode cX8_take 43 = .ok (.iadd, 1) := by decide +kernel
theorem dX8_take_44 : decode cX8_take 44 = .ok (.iastore, 1) := by decide +kernel
theorem dX8_take_45 : decode cX8_take 45 = .ok (.aload_n 0, 1) := by decide +kernel
theorem dX8_take_46 : decode cX8_take 46 = .ok (.getfield 7, 3) := by decide +kernel
theorem dX8_take_49 : decode cX8_take 49 = .ok (.bipush 14, 2) := by decide +kernel
theorem dX8_take_51 : decode cX8_take 51 = .ok (.dup2, 1) := by decide +kernel
theorem dX8_take_52 : decode cX8_take 52 = .ok (.iaload, 1) := by decide +kernel
theorem dX8_take_53 : decode cX8_take 53 = .ok (.iload_n 2, 1) := by decide +kernel
theorem dX8_take_54 : decode cX8_take 54 = .ok (.iadd, 1) := by decide +kernel
theorem dX8_take_55 : decode cX8_take 55 = .ok (.iastore, 1) := by decide +kernel
theorem dX8_take_56 : decode cX8_take 56 = .ok (.aload_n 0, 1) := by decide +kernel
theorem dX8_take_57 : decode cX8_take 57 = .ok (.getfield 7, 3) := by decide +kernel
theorem dX8_take_60 : decode cX8_take 60 = .ok (.bipush 15, 2) := by decide +kernel
theorem dX8_take_62 : decode cX8_take 62 = .ok (.dup2, 1) := by decide +kernel
theorem dX8_take_63 : decode cX8_take 63 = .ok (.iaload, 1) := by decide +kernel
theorem dX8_take_64 : decode cX8_take 64 = .ok (.iconst 1, 1) := by decide +kernel
theorem dX8_take_65 : decode cX8_take 65 = .ok (.iadd, 1) := by decide +kernel
theorem dX8_take_66 : decode cX8_take 66 = .ok (.iastore, 1) := by decide +kernel
theorem dX8_take_67 : decode cX8_take 67 = .ok (.aload_n 0, 1) := by decide +kernel
theorem dX8_take_68 : decode cX8_take 68 = .ok (.iload 4, 2) := by decide +kernel
theorem dX8_take_70 : decode cX8_take 70 = .ok (.iload_n 3, 1) := by decide +kernel
theorem dX8_take_71 : decode cX8_take 71 = .ok (.iadd, 1) := by decide +kernel
theorem dX8_take_72 : decode cX8_take 72 = .ok (.invokevirtual 89, 3) := by decide +kernel
theorem dX8_take_75 : decode cX8_take 75 = .ok (.return_, 1) := by decide +kernel
theorem dX8_drawOut_0 : decode cX8_drawOut 0 = .ok (.bipush 60, 2) := by decide +kernel
theorem dX8_drawOut_2 : decode cX8_drawOut 2 = .ok (.bipush 30, 2) := by decide +kernel
theorem dX8_drawOut_4 : decode cX8_drawOut 4 = .ok (.iload_n 1, 1) := by decide +kernel
theorem dX8_drawOut_5 : decode cX8_drawOut 5 = .ok (.imul, 1) := by decide +kernel
theorem dX8_drawOut_6 : decode cX8_drawOut 6 = .ok (.iadd, 1) := by decide +kernel
theorem dX8_drawOut_7 : decode cX8_drawOut 7 = .ok (.istore_n 3, 1) := by decide +kernel
theorem dX8_drawOut_8 : decode cX8_drawOut 8 = .ok (.aload_n 0, 1) := by decide +kernel
theorem dX8_drawOut_9 : decode cX8_drawOut 9 = .ok (.iload_n 1, 1) := by decide +kernel
theorem dX8_drawOut_10 : decode cX8_drawOut 10 = .ok (.invokevirtual 72, 3) := by decide +kernel
theorem dX8_drawOut_13 : decode cX8_drawOut 13 = .ok (.iload_n 2, 1) := by decide +kernel
theorem dX8_drawOut_14 : decode cX8_drawOut 14 = .ok (.isub, 1) := by decide +kernel
theorem dX8_drawOut_15 : decode cX8_drawOut 15 = .ok (.istore 4, 2) := by decide +kernel
theorem dX8_drawOut_17 : decode cX8_drawOut 17 = .ok (.iconst 0, 1) := by decide +kernel
theorem dX8_drawOut_18 : decode cX8_drawOut 18 = .ok (.istore 5, 2) := by decide +kernel
theorem dX8_drawOut_20 : decode cX8_drawOut 20 = .ok (.iload 5, 2) := by decide +kernel
theorem dX8_drawOut_22 : decode cX8_drawOut 22 = .ok (.iload_n 2, 1) := by decide +kernel
theorem dX8_drawOut_23 : decode cX8_drawOut 23 = .ok (.if_icmp .ge 63, 3) := by decide +kernel
theorem dX8_drawOut_26 : decode cX8_drawOut 26 = .ok (.aload_n 0, 1) := by decide +kernel
theorem dX8_drawOut_27 : decode cX8_drawOut 27 = .ok (.getfield 7, 3) := by decide +kernel
theorem dX8_drawOut_30 : decode cX8_drawOut 30 = .ok (.sipush 300, 3) := by decide +kernel
theorem dX8_drawOut_33 : decode cX8_drawOut 33 = .ok (.aload_n 0, 1) := by decide +kernel
theorem dX8_drawOut_34 : decode cX8_drawOut 34 = .ok (.getfield 7, 3) := by decide +kernel
theorem dX8_drawOut_37 : decode cX8_drawOut 37 = .ok (.bipush 9, 2) := by decide +kernel
theorem dX8_drawOut_39 : decode cX8_drawOut 39 = .ok (.iaload, 1) := by decide +kernel
theorem dX8_drawOut_40 : decode cX8_drawOut 40 = .ok (.iadd, 1) := by decide +kernel
theorem dX8_drawOut_41 : decode cX8_drawOut 41 = .ok (.iload 5, 2) := by decide +kernel
theorem dX8_drawOut_43 : decode cX8_drawOut 43 = .ok (.iadd, 1) := by decide +kernel
theorem dX8_drawOut_44 : decode cX8_drawOut 44 = .ok (.aload_n 0, 1) := by decide +kernel
theorem dX8_drawOut_45 : decode cX8_drawOut 45 = .ok (.getfield 7, 3) := by decide +kernel
theorem dX8_drawOut_48 : decode cX8_drawOut 48 = .ok (.iload_n 3, 1) := by decide +kernel
theorem dX8_drawOut_49 : decode cX8_drawOut 49 = .ok (.iload 5, 2) := by decide +kernel
theorem dX8_drawOut_51 : decode cX8_drawOut 51 = .ok (.iadd, 1) := by decide +kernel
theorem dX8_drawOut_52 : decode cX8_drawOut 52 = .ok (.iaload, 1) := by decide +kernel
theorem dX8_drawOut_53 : decode cX8_drawOut 53 = .ok (.iastore, 1) := by decide +kernel
theorem dX8_drawOut_54 : decode cX8_drawOut 54 = .ok (.aload_n 0, 1) := by decide +kernel
theorem dX8_drawOut_55 : decode cX8_drawOut 55 = .ok (.getfield 7, 3) := by decide +kernel
theorem dX8_drawOut_58 : decode cX8_drawOut 58 = .ok (.sipush 330, 3) := by decide +kernel
theorem dX8_drawOut_61 : decode cX8_drawOut 61 = .ok (.iconst 4, 1) := by decide +kernel
theorem dX8_drawOut_62 : decode cX8_drawOut 62 = .ok (.aload_n 0, 1) := by decide +kernel
theorem dX8_drawOut_63 : decode cX8_drawOut 63 = .ok (.getfield 7, 3) := by decide +kernel
theorem dX8_drawOut_66 : decode cX8_drawOut 66 = .ok (.iload_n 3, 1) := by decide +kernel
theorem dX8_drawOut_67 : decode cX8_drawOut 67 = .ok (.iload 5, 2) := by decide +kernel
theorem dX8_drawOut_69 : decode cX8_drawOut 69 = .ok (.iadd, 1) := by decide +kernel
theorem dX8_drawOut_70 : decode cX8_drawOut 70 = .ok (.iaload, 1) := by decide +kernel
theorem dX8_drawOut_71 : decode cX8_drawOut 71 = .ok (.imul, 1) := by decide +kernel
theorem dX8_drawOut_72 : decode cX8_drawOut 72 = .ok (.iadd, 1) := by decide +kernel
theorem dX8_drawOut_73 : decode cX8_drawOut 73 = .ok (.iconst 2, 1) := by decide +kernel
theorem dX8_drawOut_74 : decode cX8_drawOut 74 = .ok (.iadd, 1) := by decide +kernel
theorem dX8_drawOut_75 : decode cX8_drawOut 75 = .ok (.dup2, 1) := by decide +kernel
theorem dX8_drawOut_76 : decode cX8_drawOut 76 = .ok (.iaload, 1) := by decide +kernel
theorem dX8_drawOut_77 : decode cX8_drawOut 77 = .ok (.iconst 1, 1) := by decide +kernel
theorem dX8_drawOut_78 : decode cX8_drawOut 78 = .ok (.iadd, 1) := by decide +kernel
theorem dX8_drawOut_79 : decode cX8_drawOut 79 = .ok (.iastore, 1) := by decide +kernel
theorem dX8_drawOut_80 : decode cX8_drawOut 80 = .ok (.iinc 5 1, 3) := by decide +kernel
theorem dX8_drawOut_83 : decode cX8_drawOut 83 = .ok (.goto (-63), 3) := by decide +kernel
theorem dX8_drawOut_86 : decode cX8_drawOut 86 = .ok (.iconst 0, 1) := by decide +kernel
theorem dX8_drawOut_87 : decode cX8_drawOut 87 = .ok (.istore 5, 2) := by decide +kernel
theorem dX8_drawOut_89 : decode cX8_drawOut 89 = .ok (.iload 5, 2) := by decide +kernel
theorem dX8_drawOut_91 : decode cX8_drawOut 91 = .ok (.iload 4, 2) := by decide +kernel
theorem dX8_drawOut_93 : decode cX8_drawOut 93 = .ok (.if_icmp .ge 29, 3) := by decide +kernel
theorem dX8_drawOut_96 : decode cX8_drawOut 96 = .ok (.aload_n 0, 1) := by decide +kernel
theorem dX8_drawOut_97 : decode cX8_drawOut 97 = .ok (.getfield 7, 3) := by decide +kernel
theorem dX8_drawOut_100 : decode cX8_drawOut 100 = .ok (.iload_n 3, 1) := by decide +kernel
theorem dX8_drawOut_101 : decode cX8_drawOut 101 = .ok (.iload 5, 2) := by decide +kernel
theorem dX8_drawOut_103 : decode cX8_drawOut 103 = .ok (.iadd, 1) := by decide +kernel
theorem dX8_drawOut_104 : decode cX8_drawOut 104 = .ok (.aload_n 0, 1) := by decide +kernel
theorem dX8_drawOut_105 : decode cX8_drawOut 105 = .ok (.getfield 7, 3) := by decide +kernel
theorem dX8_drawOut_108 : decode cX8_drawOut 108 = .ok (.iload_n 3, 1) := by decide +kernel
theorem dX8_drawOut_109 : decode cX8_drawOut 109 = .ok (.iload 5, 2) := by decide +kernel
theorem dX8_drawOut_111 : decode cX8_drawOut 111 = .ok (.iadd, 1) := by decide +kernel
theorem dX8_drawOut_112 : decode cX8_drawOut 112 = .ok (.iload_n 2, 1) := by decide +kernel
theorem dX8_drawOut_113 : decode cX8_drawOut 113 = .ok (.iadd, 1) := by decide +kernel
theorem dX8_drawOut_114 : decode cX8_drawOut 114 = .ok (.iaload, 1) := by decide +kernel
theorem dX8_drawOut_115 : decode cX8_drawOut 115 = .ok (.iastore, 1) := by decide +kernel
theorem dX8_drawOut_116 : decode cX8_drawOut 116 = .ok (.iinc 5 1, 3) := by decide +kernel
theorem dX8_drawOut_119 : decode cX8_drawOut 119 = .ok (.goto (-30), 3) := by decide +kernel
theorem dX8_drawOut_122 : decode cX8_drawOut 122 = .ok (.aload_n 0, 1) := by decide +kernel
theorem dX8_drawOut_123 : decode cX8_drawOut 123 = .ok (.getfield 7, 3) := by decide +kernel
theorem dX8_drawOut_126 : decode cX8_drawOut 126 = .ok (.bipush 9, 2) := by decide +kernel
theorem dX8_drawOut_128 : decode cX8_drawOut 128 = .ok (.dup2, 1) := by decide +kernel
theorem dX8_drawOut_129 : decode cX8_drawOut 129 = .ok (.iaload, 1) := by decide +kernel
theorem dX8_drawOut_130 : decode cX8_drawOut 130 = .ok (.iload_n 2, 1) := by decide +kernel
theorem dX8_drawOut_131 : decode cX8_drawOut 131 = .ok (.iadd, 1) := by decide +kernel
theorem dX8_drawOut_132 : decode cX8_drawOut 132 = .ok (.iastore, 1) := by decide +kernel
theorem dX8_drawOut_133 : decode cX8_drawOut 133 = .ok (.aload_n 0, 1) := by decide +kernel
theorem dX8_drawOut_134 : decode cX8_drawOut 134 = .ok (.getfield 7, 3) := by decide +kernel
theorem dX8_drawOut_137 : decode cX8_drawOut 137 = .ok (.bipush 20, 2) := by decide +kernel
theorem dX8_drawOut_139 : decode cX8_drawOut 139 = .ok (.iconst 4, 1) := by decide +kernel
theorem dX8_drawOut_140 : decode cX8_drawOut 140 = .ok (.iload_n 1, 1) := by decide +kernel
theorem dX8_drawOut_141 : decode cX8_drawOut 141 = .ok (.imul, 1) := by decide +kernel
theorem dX8_drawOut_142 : decode cX8_drawOut 142 = .ok (.iadd, 1) := by decide +kernel
theorem dX8_drawOut_143 : decode cX8_drawOut 143 = .ok (.iconst 1, 1) := by decide +kernel
theorem dX8_drawOut_144 : decode cX8_drawOut 144 = .ok (.iadd, 1) := by decide +kernel
theorem dX8_drawOut_145 : decode cX8_drawOut 145 = .ok (.iload 4, 2) := by decide +kernel
theorem dX8_drawOut_147 : decode cX8_drawOut 147 = .ok (.iastore, 1) := by decide +kernel
theorem dX8_drawOut_148 : decode cX8_drawOut 148 = .ok (.aload_n 0, 1) := by decide +kernel
theorem dX8_drawOut_149 : decode cX8_drawOut 149 = .ok (.getfield 7, 3) := by decide +kernel
theorem dX8_drawOut_152 : decode cX8_drawOut 152 = .ok (.bipush 20, 2) := by decide +kernel
theorem dX8_drawOut_154 : decode cX8_drawOut 154 = .ok (.iconst 4, 1) := by decide +kernel
theorem dX8_drawOut_155 : decode cX8_drawOut 155 = .ok (.iload_n 1, 1) := by decide +kernel
theorem dX8_drawOut_156 : decode cX8_drawOut 156 = .ok (.imul, 1) := by decide +kernel
theorem dX8_drawOut_157 : decode cX8_drawOut 157 = .ok (.iadd, 1) := by decide +kernel
theorem dX8_drawOut_158 : decode cX8_drawOut 158 = .ok (.iconst 2, 1) := by decide +kernel
theorem dX8_drawOut_159 : decode cX8_drawOut 159 = .ok (.iadd, 1) := by decide +kernel
theorem dX8_drawOut_160 : decode cX8_drawOut 160 = .ok (.dup2, 1) := by decide +kernel
theorem dX8_drawOut_161 : decode cX8_drawOut 161 = .ok (.iaload, 1) := by decide +kernel
theorem dX8_drawOut_162 : decode cX8_drawOut 162 = .ok (.iload_n 2, 1) := by decide +kernel
theorem dX8_drawOut_163 : decode cX8_drawOut 163 = .ok (.iadd, 1) := by decide +kernel
theorem dX8_drawOut_164 : decode cX8_drawOut 164 = .ok (.iastore, 1) := by decide +kernel
theorem dX8_drawOut_165 : decode cX8_drawOut 165 = .ok (.iload 4, 2) := by decide +kernel
theorem dX8_drawOut_167 : decode cX8_drawOut 167 = .ok (.ifCond .le 7, 3) := by decide +kernel
theorem dX8_drawOut_170 : decode cX8_drawOut 170 = .ok (.iconst 2, 1) := by decide +kernel
theorem dX8_drawOut_171 : decode cX8_drawOut 171 = .ok (.goto 4, 3) := by decide +kernel
theorem dX8_drawOut_174 : decode cX8_drawOut 174 = .ok (.iconst 1, 1) := by decide +kernel
theorem dX8_drawOut_175 : decode cX8_drawOut 175 = .ok (.ireturn, 1) := by decide +kernel
theorem dX8_setBack_0 : decode cX8_setBack 0 = .ok (.bipush 60, 2) := by decide +kernel
theorem dX8_setBack_2 : decode cX8_setBack 2 = .ok (.bipush 30, 2) := by decide +kernel
theorem dX8_setBack_4 : decode cX8_setBack 4 = .ok (.iload_n 1, 1) := by decide +kernel
theorem dX8_setBack_5 : decode cX8_setBack 5 = .ok (.imul, 1) := by decide +kernel
theorem dX8_setBack_6 : decode cX8_setBack 6 = .ok (.iadd, 1) := by decide +kernel
theorem dX8_setBack_7 : decode cX8_setBack 7 = .ok (.istore_n 3, 1) := by decide +kernel
theorem dX8_setBack_8 : decode cX8_setBack 8 = .ok (.aload_n 0, 1) := by decide +kernel
theorem dX8_setBack_9 : decode cX8_setBack 9 = .ok (.iload_n 1, 1) := by decide +kernel
theorem dX8_setBack_10 : decode cX8_setBack 10 = .ok (.invokevirtual 72, 3) := by decide +kernel
theorem dX8_setBack_13 : decode cX8_setBack 13 = .ok (.istore 4, 2) := by decide +kernel
theorem dX8_setBack_15 : decode cX8_setBack 15 = .ok (.iload 4, 2) := by decide +kernel
theorem dX8_setBack_17 : decode cX8_setBack 17 = .ok (.iconst 1, 1) := by decide +kernel
theorem dX8_setBack_18 : decode cX8_setBack 18 = .ok (.isub, 1) := by decide +kernel
theorem dX8_setBack_19 : decode cX8_setBack 19 = .ok (.istore 5, 2) := by decide +kernel
theorem dX8_setBack_21 : decode cX8_setBack 21 = .ok (.iload 5, 2) := by decide +kernel
theorem dX8_setBack_23 : decode cX8_setBack 23 = .ok (.ifCond .lt 29, 3) := by decide +kernel
theorem dX8_setBack_26 : decode cX8_setBack 26 = .ok (.aload_n 0, 1) := by decide +kernel
theorem dX8_setBack_27 : decode cX8_setBack 27 = .ok (.getfield 7, 3) := by decide +kernel
theorem dX8_setBack_30 : decode cX8_setBack 30 = .ok (.iload_n 3, 1) := by decide +kernel
theorem dX8_setBack_31 : decode cX8_setBack 31 = .ok (.iload 5, 2) := by decide +kernel
theorem dX8_setBack_33 : decode cX8_setBack 33 = .ok (.iadd, 1) := by decide +kernel
theorem dX8_setBack_34 : decode cX8_setBack 34 = .ok (.iload_n 2, 1) := by decide +kernel
theorem dX8_setBack_35 : decode cX8_setBack 35 = .ok (.iadd, 1) := by decide +kernel
theorem dX8_setBack_36 : decode cX8_setBack 36 = .ok (.aload_n 0, 1) := by decide +kernel
theorem dX8_setBack_37 : decode cX8_setBack 37 = .ok (.getfield 7, 3) := by decide +kernel
theorem dX8_setBack_40 : decode cX8_setBack 40 = .ok (.iload_n 3, 1) := by decide +kernel
theorem dX8_setBack_41 : decode cX8_setBack 41 = .ok (.iload 5, 2) := by decide +kernel
theorem dX8_setBack_43 : decode cX8_setBack 43 = .ok (.iadd, 1) := by decide +kernel
theorem dX8_setBack_44 : decode cX8_setBack 44 = .ok (.iaload, 1) := by decide +kernel
theorem dX8_setBack_45 : decode cX8_setBack 45 = .ok (.iastore, 1) := by decide +kernel
theorem dX8_setBack_46 : decode cX8_setBack 46 = .ok (.iinc 5 (-1), 3) := by decide +kernel
theorem dX8_setBack_49 : decode cX8_setBack 49 = .ok (.goto (-28), 3) := by decide +kernel
theorem dX8_setBack_52 : decode cX8_setBack 52 = .ok (.aload_n 0, 1) := by decide +kernel
theorem dX8_setBack_53 : decode cX8_setBack 53 = .ok (.getfield 7, 3) := by decide +kernel
theorem dX8_setBack_56 : decode cX8_setBack 56 = .ok (.bipush 9, 2) := by decide +kernel
theorem dX8_setBack_58 : decode cX8_setBack 58 = .ok (.dup2, 1) := by decide +kernel
theorem dX8_setBack_59 : decode cX8_setBack 59 = .ok (.iaload, 1) := by decide +kernel
theorem dX8_setBack_60 : decode cX8_setBack 60 = .ok (.iload_n 2, 1) := by decide +kernel
theorem dX8_setBack_61 : decode cX8_setBack 61 = .ok (.isub, 1) := by decide +kernel
theorem dX8_setBack_62 : decode cX8_setBack 62 = .ok (.iastore, 1) := by decide +kernel
theorem dX8_setBack_63 : decode cX8_setBack 63 = .ok (.iconst 0, 1) := by decide +kernel
theorem dX8_setBack_64 : decode cX8_setBack 64 = .ok (.istore 5, 2) := by decide +kernel
theorem dX8_setBack_66 : decode cX8_setBack 66 = .ok (.iload 5, 2) := by decide +kernel
theorem dX8_setBack_68 : decode cX8_setBack 68 = .ok (.iload_n 2, 1) := by decide +kernel
theorem dX8_setBack_69 : decode cX8_setBack 69 = .ok (.if_icmp .ge 37, 3) := by decide +kernel
theorem dX8_setBack_72 : decode cX8_setBack 72 = .ok (.aload_n 0, 1) := by decide +kernel
theorem dX8_setBack_73 : decode cX8_setBack 73 = .ok (.getfield 7, 3) := by decide +kernel
theorem dX8_setBack_76 : decode cX8_setBack 76 = .ok (.iload_n 3, 1) := by decide +kernel
theorem dX8_setBack_77 : decode cX8_setBack 77 = .ok (.iload 5, 2) := by decide +kernel
theorem dX8_setBack_79 : decode cX8_setBack 79 = .ok (.iadd, 1) := by decide +kernel
theorem dX8_setBack_80 : decode cX8_setBack 80 = .ok (.aload_n 0, 1) := by decide +kernel
theorem dX8_setBack_81 : decode cX8_setBack 81 = .ok (.getfield 7, 3) := by decide +kernel
theorem dX8_setBack_84 : decode cX8_setBack 84 = .ok (.sipush 300, 3) := by decide +kernel
theorem dX8_setBack_87 : decode cX8_setBack 87 = .ok (.aload_n 0, 1) := by decide +kernel
theorem dX8_setBack_88 : decode cX8_setBack 88 = .ok (.getfield 7, 3) := by decide +kernel
theorem dX8_setBack_91 : decode cX8_setBack 91 = .ok (.bipush 9, 2) := by decide +kernel
theorem dX8_setBack_93 : decode cX8_setBack 93 = .ok (.iaload, 1) := by decide +kernel
theorem dX8_setBack_94 : decode cX8_setBack 94 = .ok (.iadd, 1) := by decide +kernel
theorem dX8_setBack_95 : decode cX8_setBack 95 = .ok (.iload 5, 2) := by decide +kernel
theorem dX8_setBack_97 : decode cX8_setBack 97 = .ok (.iadd, 1) := by decide +kernel
theorem dX8_setBack_98 : decode cX8_setBack 98 = .ok (.iaload, 1) := by decide +kernel
theorem dX8_setBack_99 : decode cX8_setBack 99 = .ok (.iastore, 1) := by decide +kernel
theorem dX8_setBack_100 : decode cX8_setBack 100 = .ok (.iinc 5 1, 3) := by decide +kernel
theorem dX8_setBack_103 : decode cX8_setBack 103 = .ok (.goto (-37), 3) := by decide +kernel
theorem dX8_setBack_106 : decode cX8_setBack 106 = .ok (.aload_n 0, 1) := by decide +kernel
theorem dX8_setBack_107 : decode cX8_setBack 107 = .ok (.getfield 7, 3) := by decide +kernel
theorem dX8_setBack_110 : decode cX8_setBack 110 = .ok (.bipush 20, 2) := by decide +kernel
theorem dX8_setBack_112 : decode cX8_setBack 112 = .ok (.iconst 4, 1) := by decide +kernel
theorem dX8_setBack_113 : decode cX8_setBack 113 = .ok (.iload_n 1, 1) := by decide +kernel
theorem dX8_setBack_114 : decode cX8_setBack 114 = .ok (.imul, 1) := by decide +kernel
theorem dX8_setBack_115 : decode cX8_setBack 115 = .ok (.iadd, 1) := by decide +kernel
theorem dX8_setBack_116 : decode cX8_setBack 116 = .ok (.iconst 1, 1) := by decide +kernel
theorem dX8_setBack_117 : decode cX8_setBack 117 = .ok (.iadd, 1) := by decide +kernel
theorem dX8_setBack_118 : decode cX8_setBack 118 = .ok (.iload 4, 2) := by decide +kernel
theorem dX8_setBack_120 : decode cX8_setBack 120 = .ok (.iload_n 2, 1) := by decide +kernel
theorem dX8_setBack_121 : decode cX8_setBack 121 = .ok (.iadd, 1) := by decide +kernel
theorem dX8_setBack_122 : decode cX8_setBack 122 = .ok (.iastore, 1) := by decide +kernel
theorem dX8_setBack_123 : decode cX8_setBack 123 = .ok (.aload_n 0, 1) := by decide +kernel
theorem dX8_setBack_124 : decode cX8_setBack 124 = .ok (.getfield 7, 3) := by decide +kernel
theorem dX8_setBack_127 : decode cX8_setBack 127 = .ok (.bipush 20, 2) := by decide +kernel
theorem dX8_setBack_129 : decode cX8_setBack 129 = .ok (.iconst 4, 1) := by decide +kernel
theorem dX8_setBack_130 : decode cX8_setBack 130 = .ok (.iload_n 1, 1) := by decide +kernel
theorem dX8_setBack_131 : decode cX8_setBack 131 = .ok (.imul, 1) := by decide +kernel
theorem dX8_setBack_132 : decode cX8_setBack 132 = .ok (.iadd, 1) := by decide +kernel
theorem dX8_setBack_133 : decode cX8_setBack 133 = .ok (.iconst 3, 1) := by decide +kernel
theorem dX8_setBack_134 : decode cX8_setBack 134 = .ok (.iadd, 1) := by decide +kernel
theorem dX8_setBack_135 : decode cX8_setBack 135 = .ok (.dup2, 1) := by decide +kernel
theorem dX8_setBack_136 : decode cX8_setBack 136 = .ok (.iaload, 1) := by decide +kernel
theorem dX8_setBack_137 : decode cX8_setBack 137 = .ok (.iload_n 2, 1) := by decide +kernel
theorem dX8_setBack_138 : decode cX8_setBack 138 = .ok (.iadd, 1) := by decide +kernel
theorem dX8_setBack_139 : decode cX8_setBack 139 = .ok (.iastore, 1) := by decide +kernel
theorem dX8_setBack_140 : decode cX8_setBack 140 = .ok (.iload 4, 2) := by decide +kernel
theorem dX8_setBack_142 : decode cX8_setBack 142 = .ok (.ifCond .le 7, 3) := by decide +kernel
theorem dX8_setBack_145 : decode cX8_setBack 145 = .ok (.iconst 2, 1) := by decide +kernel
theorem dX8_setBack_146 : decode cX8_setBack 146 = .ok (.goto 4, 3) := by decide +kernel
theorem dX8_setBack_149 : decode cX8_setBack 149 = .ok (.iconst 1, 1) := by decide +kernel
theorem dX8_setBack_150 : decode cX8_setBack 150 = .ok (.ireturn, 1) := by decide +kernel
theorem dX8_turnRound_0 : decode cX8_turnRound 0 = .ok (.aload_n 0, 1) := by decide +kernel
theorem dX8_turnRound_1 : decode cX8_turnRound 1 = .ok (.getfield 7, 3) := by decide +kernel
theorem dX8_turnRound_4 : decode cX8_turnRound 4 = .ok (.bipush 9, 2) := by decide +kernel
theorem dX8_turnRound_6 : decode cX8_turnRound 6 = .ok (.iaload, 1) := by decide +kernel
theorem dX8_turnRound_7 : decode cX8_turnRound 7 = .ok (.istore_n 1, 1) := by decide +kernel
theorem dX8_turnRound_8 : decode cX8_turnRound 8 = .ok (.iconst 0, 1) := by decide +kernel
theorem dX8_turnRound_9 : decode cX8_turnRound 9 = .ok (.istore_n 2, 1) := by decide +kernel
theorem dX8_turnRound_10 : decode cX8_turnRound 10 = .ok (.iconst 2, 1) := by decide +kernel
theorem dX8_turnRound_11 : decode cX8_turnRound 11 = .ok (.iload_n 2, 1) := by decide +kernel
theorem dX8_turnRound_12 : decode cX8_turnRound 12 = .ok (.imul, 1) := by decide +kernel
theorem dX8_turnRound_13 : decode cX8_turnRound 13 = .ok (.iload_n 1, 1) := by decide +kernel
theorem dX8_turnRound_14 : decode cX8_turnRound 14 = .ok (.iconst 1, 1) := by decide +kernel
theorem dX8_turnRound_15 : decode cX8_turnRound 15 = .ok (.isub, 1) := by decide +kernel
theorem dX8_turnRound_16 : decode cX8_turnRound 16 = .ok (.if_icmp .ge 59, 3) := by decide +kernel
theorem dX8_turnRound_19 : decode cX8_turnRound 19 = .ok (.aload_n 0, 1) := by decide +kernel
theorem dX8_turnRound_20 : decode cX8_turnRound 20 = .ok (.getfield 7, 3) := by decide +kernel
theorem dX8_turnRound_23 : decode cX8_turnRound 23 = .ok (.sipush 300, 3) := by decide +kernel
theorem dX8_turnRound_26 : decode cX8_turnRound 26 = .ok (.iload_n 2, 1) := by decide +kernel
theorem dX8_turnRound_27 : decode cX8_turnRound 27 = .ok (.iadd, 1) := by decide +kernel
theorem dX8_turnRound_28 : decode cX8_turnRound 28 = .ok (.iaload, 1) := by decide +kernel
theorem dX8_turnRound_29 : decode cX8_turnRound 29 = .ok (.istore_n 3, 1) := by decide +kernel
theorem dX8_turnRound_30 : decode cX8_turnRound 30 = .ok (.aload_n 0, 1) := by decide +kernel
theorem dX8_turnRound_31 : decode cX8_turnRound 31 = .ok (.getfield 7, 3) := by decide +kernel
theorem dX8_turnRound_34 : decode cX8_turnRound 34 = .ok (.sipush 300, 3) := by decide +kernel
theorem dX8_turnRound_37 : decode cX8_turnRound 37 = .ok (.iload_n 2, 1) := by decide +kernel
theorem dX8_turnRound_38 : decode cX8_turnRound 38 = .ok (.iadd, 1) := by decide +kernel
theorem dX8_turnRound_39 : decode cX8_turnRound 39 = .ok (.aload_n 0, 1) := by decide +kernel
theorem dX8_turnRound_40 : decode cX8_turnRound 40 = .ok (.getfield 7, 3) := by decide +kernel
theorem dX8_turnRound_43 : decode cX8_turnRound 43 = .ok (.sipush 300, 3) := by decide +kernel
theorem dX8_turnRound_46 : decode cX8_turnRound 46 = .ok (.iload_n 1, 1) := by decide +kernel
theorem dX8_turnRound_47 : decode cX8_turnRound 47 = .ok (.iadd, 1) := by decide +kernel
theorem dX8_turnRound_48 : decode cX8_turnRound 48 = .ok (.iconst 1, 1) := by decide +kernel
theorem dX8_turnRound_49 : decode cX8_turnRound 49 = .ok (.isub, 1) := by decide +kernel
theorem dX8_turnRound_50 : decode cX8_turnRound 50 = .ok (.iload_n 2, 1) := by decide +kernel
theorem dX8_turnRound_51 : decode cX8_turnRound 51 = .ok (.isub, 1) := by decide +kernel
theorem dX8_turnRound_52 : decode cX8_turnRound 52 = .ok (.iaload, 1) := by decide +kernel
theorem dX8_turnRound_53 : decode cX8_turnRound 53 = .ok (.iastore, 1) := by decide +kernel
theorem dX8_turnRound_54 : decode cX8_turnRound 54 = .ok (.aload_n 0, 1) := by decide +kernel
theorem dX8_turnRound_55 : decode cX8_turnRound 55 = .ok (.getfield 7, 3) := by decide +kernel
theorem dX8_turnRound_58 : decode cX8_turnRound 58 = .ok (.sipush 300, 3) := by decide +kernel
theorem dX8_turnRound_61 : decode cX8_turnRound 61 = .ok (.iload_n 1, 1) := by decide +kernel
theorem dX8_turnRound_62 : decode cX8_turnRound 62 = .ok (.iadd, 1) := by decide +kernel
theorem dX8_turnRound_63 : decode cX8_turnRound 63 = .ok (.iconst 1, 1) := by decide +kernel
theorem dX8_turnRound_64 : decode cX8_turnRound 64 = .ok (.isub, 1) := by decide +kernel
theorem dX8_turnRound_65 : decode cX8_turnRound 65 = .ok (.iload_n 2, 1) := by decide +kernel
theorem dX8_turnRound_66 : decode cX8_turnRound 66 = .ok (.isub, 1) := by decide +kernel
theorem dX8_turnRound_67 : decode cX8_turnRound 67 = .ok (.iload_n 3, 1) := by decide +kernel
theorem dX8_turnRound_68 : decode cX8_turnRound 68 = .ok (.iastore, 1) := by decide +kernel
theorem dX8_turnRound_69 : decode cX8_turnRound 69 = .ok (.iinc 2 1, 3) := by decide +kernel
theorem dX8_turnRound_72 : decode cX8_turnRound 72 = .ok (.goto (-62), 3) := by decide +kernel
theorem dX8_turnRound_75 : decode cX8_turnRound 75 = .ok (.return_, 1) := by decide +kernel
theorem dX8_canPull_0 : decode cX8_canPull 0 = .ok (.iload_n 2, 1) := by decide +kernel
theorem dX8_canPull_1 : decode cX8_canPull 1 = .ok (.aload_n 0, 1) := by decide +kernel
theorem dX8_canPull_2 : decode cX8_canPull 2 = .ok (.iload_n 1, 1) := by decide +kernel
theorem dX8_canPull_3 : decode cX8_canPull 3 = .ok (.invokevirtual 72, 3) := by decide +kernel
theorem dX8_canPull_6 : decode cX8_canPull 6 = .ok (.if_icmp .gt 33, 3) := by decide +kernel
theorem dX8_canPull_9 : decode cX8_canPull 9 = .ok (.aload_n 0, 1) := by decide +kernel
theorem dX8_canPull_10 : decode cX8_canPull 10 = .ok (.invokevirtual 93, 3) := by decide +kernel
theorem dX8_canPull_13 : decode cX8_canPull 13 = .ok (.aload_n 0, 1) := by decide +kernel
theorem dX8_canPull_14 : decode cX8_canPull 14 = .ok (.bipush 60, 2) := by decide +kernel
theorem dX8_canPull_16 : decode cX8_canPull 16 = .ok (.bipush 30, 2) := by decide +kernel
theorem dX8_canPull_18 : decode cX8_canPull 18 = .ok (.iload_n 1, 1) := by decide +kernel
theorem dX8_canPull_19 : decode cX8_canPull 19 = .ok (.imul, 1) := by decide +kernel
theorem dX8_canPull_20 : decode cX8_canPull 20 = .ok (.iadd, 1) := by decide +kernel
theorem dX8_canPull_21 : decode cX8_canPull 21 = .ok (.iload_n 2, 1) := by decide +kernel
theorem dX8_canPull_22 : decode cX8_canPull 22 = .ok (.invokevirtual 75, 3) := by decide +kernel
theorem dX8_canPull_25 : decode cX8_canPull 25 = .ok (.iadd, 1) := by decide +kernel
theorem dX8_canPull_26 : decode cX8_canPull 26 = .ok (.aload_n 0, 1) := by decide +kernel
theorem dX8_canPull_27 : decode cX8_canPull 27 = .ok (.getfield 7, 3) := by decide +kernel
theorem dX8_canPull_30 : decode cX8_canPull 30 = .ok (.iconst 0, 1) := by decide +kernel
theorem dX8_canPull_31 : decode cX8_canPull 31 = .ok (.iaload, 1) := by decide +kernel
theorem dX8_canPull_32 : decode cX8_canPull 32 = .ok (.if_icmp .gt 7, 3) := by decide +kernel
theorem dX8_canPull_35 : decode cX8_canPull 35 = .ok (.iconst 1, 1) := by decide +kernel
theorem dX8_canPull_36 : decode cX8_canPull 36 = .ok (.goto 4, 3) := by decide +kernel
theorem dX8_canPull_39 : decode cX8_canPull 39 = .ok (.iconst 0, 1) := by decide +kernel
theorem dX8_canPull_40 : decode cX8_canPull 40 = .ok (.ireturn, 1) := by decide +kernel
theorem dX8_canPush_0 : decode cX8_canPush 0 = .ok (.iload_n 2, 1) := by decide +kernel
theorem dX8_canPush_1 : decode cX8_canPush 1 = .ok (.aload_n 0, 1) := by decide +kernel
theorem dX8_canPush_2 : decode cX8_canPush 2 = .ok (.getfield 7, 3) := by decide +kernel
theorem dX8_canPush_5 : decode cX8_canPush 5 = .ok (.bipush 9, 2) := by decide +kernel
theorem dX8_canPush_7 : decode cX8_canPush 7 = .ok (.iaload, 1) := by decide +kernel
theorem dX8_canPush_8 : decode cX8_canPush 8 = .ok (.if_icmp .gt 45, 3) := by decide +kernel
theorem dX8_canPush_11 : decode cX8_canPush 11 = .ok (.aload_n 0, 1) := by decide +kernel
theorem dX8_canPush_12 : decode cX8_canPush 12 = .ok (.iload_n 1, 1) := by decide +kernel
theorem dX8_canPush_13 : decode cX8_canPush 13 = .ok (.invokevirtual 83, 3) := by decide +kernel
theorem dX8_canPush_16 : decode cX8_canPush 16 = .ok (.aload_n 0, 1) := by decide +kernel
theorem dX8_canPush_17 : decode cX8_canPush 17 = .ok (.sipush 300, 3) := by decide +kernel
theorem dX8_canPush_20 : decode cX8_canPush 20 = .ok (.aload_n 0, 1) := by decide +kernel
theorem dX8_canPush_21 : decode cX8_canPush 21 = .ok (.getfield 7, 3) := by decide +kernel
theorem dX8_canPush_24 : decode cX8_canPush 24 = .ok (.bipush 9, 2) := by decide +kernel
theorem dX8_canPush_26 : decode cX8_canPush 26 = .ok (.iaload, 1) := by decide +kernel
theorem dX8_canPush_27 : decode cX8_canPush 27 = .ok (.iadd, 1) := by decide +kernel
theorem dX8_canPush_28 : decode cX8_canPush 28 = .ok (.iload_n 2, 1) := by decide +kernel
theorem dX8_canPush_29 : decode cX8_canPush 29 = .ok (.isub, 1) := by decide +kernel
theorem dX8_canPush_30 : decode cX8_canPush 30 = .ok (.iload_n 2, 1) := by decide +kernel
theorem dX8_canPush_31 : decode cX8_canPush 31 = .ok (.invokevirtual 75, 3) := by decide +kernel
theorem dX8_canPush_34 : decode cX8_canPush 34 = .ok (.iadd, 1) := by decide +kernel
theorem dX8_canPush_35 : decode cX8_canPush 35 = .ok (.aload_n 0, 1) := by decide +kernel
theorem dX8_canPush_36 : decode cX8_canPush 36 = .ok (.getfield 7, 3) := by decide +kernel
theorem dX8_canPush_39 : decode cX8_canPush 39 = .ok (.bipush 20, 2) := by decide +kernel
theorem dX8_canPush_41 : decode cX8_canPush 41 = .ok (.iconst 4, 1) := by decide +kernel
theorem dX8_canPush_42 : decode cX8_canPush 42 = .ok (.iload_n 1, 1) := by decide +kernel
theorem dX8_canPush_43 : decode cX8_canPush 43 = .ok (.imul, 1) := by decide +kernel
theorem dX8_canPush_44 : decode cX8_canPush 44 = .ok (.iadd, 1) := by decide +kernel
theorem dX8_canPush_45 : decode cX8_canPush 45 = .ok (.iaload, 1) := by decide +kernel
theorem dX8_canPush_46 : decode cX8_canPush 46 = .ok (.if_icmp .gt 7, 3) := by decide +kernel
theorem dX8_canPush_49 : decode cX8_canPush 49 = .ok (.iconst 1, 1) := by decide +kernel
theorem dX8_canPush_50 : decode cX8_canPush 50 = .ok (.goto 4, 3) := by decide +kernel
theorem dX8_canPush_53 : decode cX8_canPush 53 = .ok (.iconst 0, 1) := by decide +kernel
theorem dX8_canPush_54 : decode cX8_canPush 54 = .ok (.ireturn, 1) := by decide +kernel
theorem dX8_canRound_0 : decode cX8_canRound 0 = .ok (.aload_n 0, 1) := by decide +kernel
theorem dX8_canRound_1 : decode cX8_canRound 1 = .ok (.getfield 7, 3) := by decide +kernel
theorem dX8_canRound_4 : decode cX8_canRound 4 = .ok (.bipush 9, 2) := by decide +kernel
theorem dX8_canRound_6 : decode cX8_canRound 6 = .ok (.iaload, 1) := by decide +kernel
theorem dX8_canRound_7 : decode cX8_canRound 7 = .ok (.ifCond .le 20, 3) := by decide +kernel
theorem dX8_canRound_10 : decode cX8_canRound 10 = .ok (.aload_n 0, 1) := by decide +kernel
theorem dX8_canRound_11 : decode cX8_canRound 11 = .ok (.invokevirtual 93, 3) := by decide +kernel
theorem dX8_canRound_14 : decode cX8_canRound 14 = .ok (.aload_n 0, 1) := by decide +kernel
theorem dX8_canRound_15 : decode cX8_canRound 15 = .ok (.getfield 7, 3) := by decide +kernel
theorem dX8_canRound_18 : decode cX8_canRound 18 = .ok (.iconst 1, 1) := by decide +kernel
theorem dX8_canRound_19 : decode cX8_canRound 19 = .ok (.iaload, 1) := by decide +kernel
theorem dX8_canRound_20 : decode cX8_canRound 20 = .ok (.if_icmp .gt 7, 3) := by decide +kernel
theorem dX8_canRound_23 : decode cX8_canRound 23 = .ok (.iconst 1, 1) := by decide +kernel
theorem dX8_canRound_24 : decode cX8_canRound 24 = .ok (.goto 4, 3) := by decide +kernel
theorem dX8_canRound_27 : decode cX8_canRound 27 = .ok (.iconst 0, 1) := by decide +kernel
theorem dX8_canRound_28 : decode cX8_canRound 28 = .ok (.ireturn, 1) := by decide +kernel
theorem dX8_pull_0 : decode cX8_pull 0 = .ok (.aload_n 0, 1) := by decide +kernel
theorem dX8_pull_1 : decode cX8_pull 1 = .ok (.iload_n 1, 1) := by decide +kernel
theorem dX8_pull_2 : decode cX8_pull 2 = .ok (.invokevirtual 79, 3) := by decide +kernel
theorem dX8_pull_5 : decode cX8_pull 5 = .ok (.ifCond .ne 5, 3) := by decide +kernel
theorem dX8_pull_8 : decode cX8_pull 8 = .ok (.iconst (-1), 1) := by decide +kernel
theorem dX8_pull_9 : decode cX8_pull 9 = .ok (.ireturn, 1) := by decide +kernel
theorem dX8_pull_10 : decode cX8_pull 10 = .ok (.iload_n 2, 1) := by decide +kernel
theorem dX8_pull_11 : decode cX8_pull 11 = .ok (.iconst 1, 1) := by decide +kernel
theorem dX8_pull_12 : decode cX8_pull 12 = .ok (.bipush 30, 2) := by decide +kernel
theorem dX8_pull_14 : decode cX8_pull 14 = .ok (.invokestatic 55, 3) := by decide +kernel
theorem dX8_pull_17 : decode cX8_pull 17 = .ok (.ifCond .ne 6, 3) := by decide +kernel
theorem dX8_pull_20 : decode cX8_pull 20 = .ok (.bipush (-2), 2) := by decide +kernel
theorem dX8_pull_22 : decode cX8_pull 22 = .ok (.ireturn, 1) := by decide +kernel
theorem dX8_pull_23 : decode cX8_pull 23 = .ok (.aload_n 0, 1) := by decide +kernel
theorem dX8_pull_24 : decode cX8_pull 24 = .ok (.iload_n 1, 1) := by decide +kernel
theorem dX8_pull_25 : decode cX8_pull 25 = .ok (.iload_n 2, 1) := by decide +kernel
theorem dX8_pull_26 : decode cX8_pull 26 = .ok (.invokevirtual 97, 3) := by decide +kernel
theorem dX8_pull_29 : decode cX8_pull 29 = .ok (.ifCond .ne 6, 3) := by decide +kernel
theorem dX8_pull_32 : decode cX8_pull 32 = .ok (.bipush (-5), 2) := by decide +kernel
theorem dX8_pull_34 : decode cX8_pull 34 = .ok (.ireturn, 1) := by decide +kernel
theorem dX8_pull_35 : decode cX8_pull 35 = .ok (.aload_n 0, 1) := by decide +kernel
theorem dX8_pull_36 : decode cX8_pull 36 = .ok (.invokevirtual 66, 3) := by decide +kernel
theorem dX8_pull_39 : decode cX8_pull 39 = .ok (.aload_n 0, 1) := by decide +kernel
theorem dX8_pull_40 : decode cX8_pull 40 = .ok (.aload_n 0, 1) := by decide +kernel
theorem dX8_pull_41 : decode cX8_pull 41 = .ok (.getfield 7, 3) := by decide +kernel
theorem dX8_pull_44 : decode cX8_pull 44 = .ok (.iconst 2, 1) := by decide +kernel
theorem dX8_pull_45 : decode cX8_pull 45 = .ok (.iaload, 1) := by decide +kernel
theorem dX8_pull_46 : decode cX8_pull 46 = .ok (.aload_n 0, 1) := by decide +kernel
theorem dX8_pull_47 : decode cX8_pull 47 = .ok (.iload_n 1, 1) := by decide +kernel
theorem dX8_pull_48 : decode cX8_pull 48 = .ok (.iload_n 2, 1) := by decide +kernel
theorem dX8_pull_49 : decode cX8_pull 49 = .ok (.invokevirtual 101, 3) := by decide +kernel
theorem dX8_pull_52 : decode cX8_pull 52 = .ok (.invokevirtual 104, 3) := by decide +kernel
theorem dX8_pull_55 : decode cX8_pull 55 = .ok (.aload_n 0, 1) := by decide +kernel
theorem dX8_pull_56 : decode cX8_pull 56 = .ok (.getfield 7, 3) := by decide +kernel
theorem dX8_pull_59 : decode cX8_pull 59 = .ok (.bipush 9, 2) := by decide +kernel
theorem dX8_pull_61 : decode cX8_pull 61 = .ok (.iaload, 1) := by decide +kernel
theorem dX8_pull_62 : decode cX8_pull 62 = .ok (.ireturn, 1) := by decide +kernel
theorem dX8_push_0 : decode cX8_push 0 = .ok (.aload_n 0, 1) := by decide +kernel
theorem dX8_push_1 : decode cX8_push 1 = .ok (.iload_n 1, 1) := by decide +kernel
theorem dX8_push_2 : decode cX8_push 2 = .ok (.invokevirtual 79, 3) := by decide +kernel
theorem dX8_push_5 : decode cX8_push 5 = .ok (.ifCond .ne 5, 3) := by decide +kernel
theorem dX8_push_8 : decode cX8_push 8 = .ok (.iconst (-1), 1) := by decide +kernel
theorem dX8_push_9 : decode cX8_push 9 = .ok (.ireturn, 1) := by decide +kernel
theorem dX8_push_10 : decode cX8_push 10 = .ok (.iload_n 2, 1) := by decide +kernel
theorem dX8_push_11 : decode cX8_push 11 = .ok (.iconst 1, 1) := by decide +kernel
theorem dX8_push_12 : decode cX8_push 12 = .ok (.bipush 30, 2) := by decide +kernel
theorem dX8_push_14 : decode cX8_push 14 = .ok (.invokestatic 55, 3) := by decide +kernel
theorem dX8_push_17 : decode cX8_push 17 = .ok (.ifCond .ne 6, 3) := by decide +kernel
theorem dX8_push_20 : decode cX8_push 20 = .ok (.bipush (-2), 2) := by decide +kernel
theorem dX8_push_22 : decode cX8_push 22 = .ok (.ireturn, 1) := by decide +kernel
theorem dX8_push_23 : decode cX8_push 23 = .ok (.aload_n 0, 1) := by decide +kernel
theorem dX8_push_24 : decode cX8_push 24 = .ok (.iload_n 1, 1) := by decide +kernel
theorem dX8_push_25 : decode cX8_push 25 = .ok (.iload_n 2, 1) := by decide +kernel
theorem dX8_push_26 : decode cX8_push 26 = .ok (.invokevirtual 108, 3) := by decide +kernel
theorem dX8_push_29 : decode cX8_push 29 = .ok (.ifCond .ne 6, 3) := by decide +kernel
theorem dX8_push_32 : decode cX8_push 32 = .ok (.bipush (-5), 2) := by decide +kernel
theorem dX8_push_34 : decode cX8_push 34 = .ok (.ireturn, 1) := by decide +kernel
theorem dX8_push_35 : decode cX8_push 35 = .ok (.aload_n 0, 1) := by decide +kernel
theorem dX8_push_36 : decode cX8_push 36 = .ok (.invokevirtual 66, 3) := by decide +kernel
theorem dX8_push_39 : decode cX8_push 39 = .ok (.aload_n 0, 1) := by decide +kernel
theorem dX8_push_40 : decode cX8_push 40 = .ok (.aload_n 0, 1) := by decide +kernel
theorem dX8_push_41 : decode cX8_push 41 = .ok (.getfield 7, 3) := by decide +kernel
theorem dX8_push_44 : decode cX8_push 44 = .ok (.iconst 2, 1) := by decide +kernel
theorem dX8_push_45 : decode cX8_push 45 = .ok (.iaload, 1) := by decide +kernel
theorem dX8_push_46 : decode cX8_push 46 = .ok (.aload_n 0, 1) := by decide +kernel
theorem dX8_push_47 : decode cX8_push 47 = .ok (.iload_n 1, 1) := by decide +kernel
theorem dX8_push_48 : decode cX8_push 48 = .ok (.iload_n 2, 1) := by decide +kernel
theorem dX8_push_49 : decode cX8_push 49 = .ok (.invokevirtual 111, 3) := by decide +kernel
theorem dX8_push_52 : decode cX8_push 52 = .ok (.invokevirtual 104, 3) := by decide +kernel
theorem dX8_push_55 : decode cX8_push 55 = .ok (.aload_n 0, 1) := by decide +kernel
theorem dX8_push_56 : decode cX8_push 56 = .ok (.getfield 7, 3) := by decide +kernel
theorem dX8_push_59 : decode cX8_push 59 = .ok (.bipush 9, 2) := by decide +kernel
theorem dX8_push_61 : decode cX8_push 61 = .ok (.iaload, 1) := by decide +kernel
theorem dX8_push_62 : decode cX8_push 62 = .ok (.ireturn, 1) := by decide +kernel
theorem dX8_round_0 : decode cX8_round 0 = .ok (.aload_n 0, 1) := by decide +kernel
theorem dX8_round_1 : decode cX8_round 1 = .ok (.invokevirtual 114, 3) := by decide +kernel
theorem dX8_round_4 : decode cX8_round 4 = .ok (.ifCond .ne 6, 3) := by decide +kernel
theorem dX8_round_7 : decode cX8_round 7 = .ok (.bipush (-5), 2) := by decide +kernel
theorem dX8_round_9 : decode cX8_round 9 = .ok (.ireturn, 1) := by decide +kernel
theorem dX8_round_10 : decode cX8_round 10 = .ok (.aload_n 0, 1) := by decide +kernel
theorem dX8_round_11 : decode cX8_round 11 = .ok (.invokevirtual 66, 3) := by decide +kernel
theorem dX8_round_14 : decode cX8_round 14 = .ok (.aload_n 0, 1) := by decide +kernel
theorem dX8_round_15 : decode cX8_round 15 = .ok (.invokevirtual 118, 3) := by decide +kernel
theorem dX8_round_18 : decode cX8_round 18 = .ok (.aload_n 0, 1) := by decide +kernel
theorem dX8_round_19 : decode cX8_round 19 = .ok (.aload_n 0, 1) := by decide +kernel
theorem dX8_round_20 : decode cX8_round 20 = .ok (.getfield 7, 3) := by decide +kernel
theorem dX8_round_23 : decode cX8_round 23 = .ok (.iconst 4, 1) := by decide +kernel
theorem dX8_round_24 : decode cX8_round 24 = .ok (.iaload, 1) := by decide +kernel
theorem dX8_round_25 : decode cX8_round 25 = .ok (.iconst 2, 1) := by decide +kernel
theorem dX8_round_26 : decode cX8_round 26 = .ok (.invokevirtual 104, 3) := by decide +kernel
theorem dX8_round_29 : decode cX8_round 29 = .ok (.aload_n 0, 1) := by decide +kernel
theorem dX8_round_30 : decode cX8_round 30 = .ok (.getfield 7, 3) := by decide +kernel
theorem dX8_round_33 : decode cX8_round 33 = .ok (.bipush 6, 2) := by decide +kernel
theorem dX8_round_35 : decode cX8_round 35 = .ok (.iaload, 1) := by decide +kernel
theorem dX8_round_36 : decode cX8_round 36 = .ok (.ireturn, 1) := by decide +kernel
theorem dX8_pass_0 : decode cX8_pass 0 = .ok (.iload_n 1, 1) := by decide +kernel
theorem dX8_pass_1 : decode cX8_pass 1 = .ok (.iconst 1, 1) := by decide +kernel
theorem dX8_pass_2 : decode cX8_pass 2 = .ok (.sipush 999, 3) := by decide +kernel
theorem dX8_pass_5 : decode cX8_pass 5 = .ok (.invokestatic 55, 3) := by decide +kernel
theorem dX8_pass_8 : decode cX8_pass 8 = .ok (.ifCond .ne 6, 3) := by decide +kernel
theorem dX8_pass_11 : decode cX8_pass 11 = .ok (.bipush (-2), 2) := by decide +kernel
theorem dX8_pass_13 : decode cX8_pass 13 = .ok (.ireturn, 1) := by decide +kernel
theorem dX8_pass_14 : decode cX8_pass 14 = .ok (.aload_n 0, 1) := by decide +kernel
theorem dX8_pass_15 : decode cX8_pass 15 = .ok (.invokevirtual 66, 3) := by decide +kernel
theorem dX8_pass_18 : decode cX8_pass 18 = .ok (.aload_n 0, 1) := by decide +kernel
theorem dX8_pass_19 : decode cX8_pass 19 = .ok (.aload_n 0, 1) := by decide +kernel
theorem dX8_pass_20 : decode cX8_pass 20 = .ok (.getfield 7, 3) := by decide +kernel
theorem dX8_pass_23 : decode cX8_pass 23 = .ok (.bipush 6, 2) := by decide +kernel
theorem dX8_pass_25 : decode cX8_pass 25 = .ok (.iaload, 1) := by decide +kernel
theorem dX8_pass_26 : decode cX8_pass 26 = .ok (.iload_n 1, 1) := by decide +kernel
theorem dX8_pass_27 : decode cX8_pass 27 = .ok (.iadd, 1) := by decide +kernel
theorem dX8_pass_28 : decode cX8_pass 28 = .ok (.invokevirtual 89, 3) := by decide +kernel
theorem dX8_pass_31 : decode cX8_pass 31 = .ok (.aload_n 0, 1) := by decide +kernel
theorem dX8_pass_32 : decode cX8_pass 32 = .ok (.getfield 7, 3) := by decide +kernel
theorem dX8_pass_35 : decode cX8_pass 35 = .ok (.bipush 6, 2) := by decide +kernel
theorem dX8_pass_37 : decode cX8_pass 37 = .ok (.iaload, 1) := by decide +kernel
theorem dX8_pass_38 : decode cX8_pass 38 = .ok (.ireturn, 1) := by decide +kernel
theorem dX8_isTrain_0 : decode cX8_isTrain 0 = .ok (.iload_n 1, 1) := by decide +kernel
theorem dX8_isTrain_1 : decode cX8_isTrain 1 = .ok (.iconst 0, 1) := by decide +kernel
theorem dX8_isTrain_2 : decode cX8_isTrain 2 = .ok (.aload_n 0, 1) := by decide +kernel
theorem dX8_isTrain_3 : decode cX8_isTrain 3 = .ok (.getfield 7, 3) := by decide +kernel
theorem dX8_isTrain_6 : decode cX8_isTrain 6 = .ok (.bipush 11, 2) := by decide +kernel
theorem dX8_isTrain_8 : decode cX8_isTrain 8 = .ok (.iaload, 1) := by decide +kernel
theorem dX8_isTrain_9 : decode cX8_isTrain 9 = .ok (.iconst 1, 1) := by decide +kernel
theorem dX8_isTrain_10 : decode cX8_isTrain 10 = .ok (.isub, 1) := by decide +kernel
theorem dX8_isTrain_11 : decode cX8_isTrain 11 = .ok (.invokestatic 55, 3) := by decide +kernel
theorem dX8_isTrain_14 : decode cX8_isTrain 14 = .ok (.ireturn, 1) := by decide +kernel
theorem dX8_trainOf_0 : decode cX8_trainOf 0 = .ok (.iconst 0, 1) := by decide +kernel
theorem dX8_trainOf_1 : decode cX8_trainOf 1 = .ok (.istore_n 2, 1) := by decide +kernel
theorem dX8_trainOf_2 : decode cX8_trainOf 2 = .ok (.iload_n 2, 1) := by decide +kernel
theorem dX8_trainOf_3 : decode cX8_trainOf 3 = .ok (.aload_n 0, 1) := by decide +kernel
theorem dX8_trainOf_4 : decode cX8_trainOf 4 = .ok (.getfield 7, 3) := by decide +kernel
theorem dX8_trainOf_7 : decode cX8_trainOf 7 = .ok (.bipush 11, 2) := by decide +kernel
theorem dX8_trainOf_9 : decode cX8_trainOf 9 = .ok (.iaload, 1) := by decide +kernel
theorem dX8_trainOf_10 : decode cX8_trainOf 10 = .ok (.if_icmp .ge 59, 3) := by decide +kernel
theorem dX8_trainOf_13 : decode cX8_trainOf 13 = .ok (.iconst 0, 1) := by decide +kernel
theorem dX8_trainOf_14 : decode cX8_trainOf 14 = .ok (.istore_n 3, 1) := by decide +kernel
theorem dX8_trainOf_15 : decode cX8_trainOf 15 = .ok (.iload_n 3, 1) := by decide +kernel
theorem dX8_trainOf_16 : decode cX8_trainOf 16 = .ok (.aload_n 0, 1) := by decide +kernel
theorem dX8_trainOf_17 : decode cX8_trainOf 17 = .ok (.getfield 7, 3) := by decide +kernel
theorem dX8_trainOf_20 : decode cX8_trainOf 20 = .ok (.sipush 450, 3) := by decide +kernel
theorem dX8_trainOf_23 : decode cX8_trainOf 23 = .ok (.bipush 10, 2) := by decide +kernel
theorem dX8_trainOf_25 : decode cX8_trainOf 25 = .ok (.iload_n 2, 1) := by decide +kernel
theorem dX8_trainOf_26 : decode cX8_trainOf 26 = .ok (.imul, 1) := by decide +kernel
theorem dX8_trainOf_27 : decode cX8_trainOf 27 = .ok (.iadd, 1) := by decide +kernel
theorem dX8_trainOf_28 : decode cX8_trainOf 28 = .ok (.iconst 1, 1) := by decide +kernel
theorem dX8_trainOf_29 : decode cX8_trainOf 29 = .ok (.iadd, 1) := by decide +kernel
theorem dX8_trainOf_30 : decode cX8_trainOf 30 = .ok (.iaload, 1) := by decide +kernel
theorem dX8_trainOf_31 : decode cX8_trainOf 31 = .ok (.if_icmp .ge 32, 3) := by decide +kernel
theorem dX8_trainOf_34 : decode cX8_trainOf 34 = .ok (.aload_n 0, 1) := by decide +kernel
theorem dX8_trainOf_35 : decode cX8_trainOf 35 = .ok (.getfield 7, 3) := by decide +kernel
theorem dX8_trainOf_38 : decode cX8_trainOf 38 = .ok (.sipush 450, 3) := by decide +kernel
theorem dX8_trainOf_41 : decode cX8_trainOf 41 = .ok (.bipush 10, 2) := by decide +kernel
theorem dX8_trainOf_43 : decode cX8_trainOf 43 = .ok (.iload_n 2, 1) := by decide +kernel
theorem dX8_trainOf_44 : decode cX8_trainOf 44 = .ok (.imul, 1) := by decide +kernel
theorem dX8_trainOf_45 : decode cX8_trainOf 45 = .ok (.iadd, 1) := by decide +kernel
theorem dX8_trainOf_46 : decode cX8_trainOf 46 = .ok (.iconst 2, 1) := by decide +kernel
theorem dX8_trainOf_47 : decode cX8_trainOf 47 = .ok (.iadd, 1) := by decide +kernel
theorem dX8_trainOf_48 : decode cX8_trainOf 48 = .ok (.iload_n 3, 1) := by decide +kernel
theorem dX8_trainOf_49 : decode cX8_trainOf 49 = .ok (.iadd, 1) := by decide +kernel
theorem dX8_trainOf_50 : decode cX8_trainOf 50 = .ok (.iaload, 1) := by decide +kernel
theorem dX8_trainOf_51 : decode cX8_trainOf 51 = .ok (.iload_n 1, 1) := by decide +kernel
theorem dX8_trainOf_52 : decode cX8_trainOf 52 = .ok (.if_icmp .ne 5, 3) := by decide +kernel
theorem dX8_trainOf_55 : decode cX8_trainOf 55 = .ok (.iload_n 2, 1) := by decide +kernel
theorem dX8_trainOf_56 : decode cX8_trainOf 56 = .ok (.ireturn, 1) := by decide +kernel
theorem dX8_trainOf_57 : decode cX8_trainOf 57 = .ok (.iinc 3 1, 3) := by decide +kernel
theorem dX8_trainOf_60 : decode cX8_trainOf 60 = .ok (.goto (-45), 3) := by decide +kernel
theorem dX8_trainOf_63 : decode cX8_trainOf 63 = .ok (.iinc 2 1, 3) := by decide +kernel
theorem dX8_trainOf_66 : decode cX8_trainOf 66 = .ok (.goto (-64), 3) := by decide +kernel
theorem dX8_trainOf_69 : decode cX8_trainOf 69 = .ok (.bipush (-6), 2) := by decide +kernel
theorem dX8_trainOf_71 : decode cX8_trainOf 71 = .ok (.ireturn, 1) := by decide +kernel
theorem dX8_readList_0 : decode cX8_readList 0 = .ok (.lload_n 1, 1) := by decide +kernel
theorem dX8_readList_1 : decode cX8_readList 1 = .ok (.lstore_n 3, 1) := by decide +kernel
theorem dX8_readList_2 : decode cX8_readList 2 = .ok (.iconst 0, 1) := by decide +kernel
theorem dX8_readList_3 : decode cX8_readList 3 = .ok (.istore 5, 2) := by decide +kernel
theorem dX8_readList_5 : decode cX8_readList 5 = .ok (.iconst 0, 1) := by decide +kernel
theorem dX8_readList_6 : decode cX8_readList 6 = .ok (.istore 6, 2) := by decide +kernel
theorem dX8_readList_8 : decode cX8_readList 8 = .ok (.lload_n 3, 1) := by decide +kernel
theorem dX8_readList_9 : decode cX8_readList 9 = .ok (.lconst 0, 1) := by decide +kernel
theorem dX8_readList_10 : decode cX8_readList 10 = .ok (.lcmp, 1) := by decide +kernel
theorem dX8_readList_11 : decode cX8_readList 11 = .ok (.ifCond .le 90, 3) := by decide +kernel
theorem dX8_readList_14 : decode cX8_readList 14 = .ok (.lload_n 3, 1) := by decide +kernel
theorem dX8_readList_15 : decode cX8_readList 15 = .ok (.ldc2_w 121, 3) := by decide +kernel
theorem dX8_readList_18 : decode cX8_readList 18 = .ok (.lrem, 1) := by decide +kernel
theorem dX8_readList_19 : decode cX8_readList 19 = .ok (.l2i, 1) := by decide +kernel
theorem dX8_readList_20 : decode cX8_readList 20 = .ok (.iconst 1, 1) := by decide +kernel
theorem dX8_readList_21 : decode cX8_readList 21 = .ok (.isub, 1) := by decide +kernel
theorem dX8_readList_22 : decode cX8_readList 22 = .ok (.istore 7, 2) := by decide +kernel
theorem dX8_readList_24 : decode cX8_readList 24 = .ok (.iload 5, 2) := by decide +kernel
theorem dX8_readList_26 : decode cX8_readList 26 = .ok (.bipush 8, 2) := by decide +kernel
theorem dX8_readList_28 : decode cX8_readList 28 = .ok (.if_icmp .eq 41, 3) := by decide +kernel
theorem dX8_readList_31 : decode cX8_readList 31 = .ok (.aload_n 0, 1) := by decide +kernel
theorem dX8_readList_32 : decode cX8_readList 32 = .ok (.iload 7, 2) := by decide +kernel
theorem dX8_readList_34 : decode cX8_readList 34 = .ok (.invokevirtual 123, 3) := by decide +kernel
theorem dX8_readList_37 : decode cX8_readList 37 = .ok (.ifCond .eq 32, 3) := by decide +kernel
theorem dX8_readList_40 : decode cX8_readList 40 = .ok (.aload_n 0, 1) := by decide +kernel
theorem dX8_readList_41 : decode cX8_readList 41 = .ok (.getfield 7, 3) := by decide +kernel
theorem dX8_readList_44 : decode cX8_readList 44 = .ok (.sipush 330, 3) := by decide +kernel
theorem dX8_readList_47 : decode cX8_readList 47 = .ok (.iconst 4, 1) := by decide +kernel
theorem dX8_readList_48 : decode cX8_readList 48 = .ok (.iload 7, 2) := by decide +kernel
theorem dX8_readList_50 : decode cX8_readList 50 = .ok (.imul, 1) := by decide +kernel
theorem dX8_readList_51 : decode cX8_readList 51 = .ok (.iadd, 1) := by decide +kernel
theorem dX8_readList_52 : decode cX8_readList 52 = .ok (.iconst 1, 1) := by decide +kernel
theorem dX8_readList_53 : decode cX8_readList 53 = .ok (.iadd, 1) := by decide +kernel
theorem dX8_readList_54 : decode cX8_readList 54 = .ok (.iaload, 1) := by decide +kernel
theorem dX8_readList_55 : decode cX8_readList 55 = .ok (.ifCond .ge 14, 3) := by decide +kernel
theorem dX8_readList_58 : decode cX8_readList 58 = .ok (.iload 6, 2) := by decide +kernel
theorem dX8_readList_60 : decode cX8_readList 60 = .ok (.iload 7, 2) := by decide +kernel
theorem dX8_readList_62 : decode cX8_readList 62 = .ok (.ishr, 1) := by decide +kernel
theorem dX8_readList_63 : decode cX8_readList 63 = .ok (.iconst 1, 1) := by decide +kernel
theorem dX8_readList_64 : decode cX8_readList 64 = .ok (.iand, 1) := by decide +kernel
theorem dX8_readList_65 : decode cX8_readList 65 = .ok (.iconst 1, 1) := by decide +kernel
theorem dX8_readList_66 : decode cX8_readList 66 = .ok (.if_icmp .ne 5, 3) := by decide +kernel
theorem dX8_readList_69 : decode cX8_readList 69 = .ok (.iconst 0, 1) := by decide +kernel
theorem dX8_readList_70 : decode cX8_readList 70 = .ok (.ireturn, 1) := by decide +kernel
theorem dX8_readList_71 : decode cX8_readList 71 = .ok (.aload_n 0, 1) := by decide +kernel
theorem dX8_readList_72 : decode cX8_readList 72 = .ok (.getfield 32, 3) := by decide +kernel
theorem dX8_readList_75 : decode cX8_readList 75 = .ok (.iload 5, 2) := by decide +kernel
theorem dX8_readList_77 : decode cX8_readList 77 = .ok (.iload 7, 2) := by decide +kernel
theorem dX8_readList_79 : decode cX8_readList 79 = .ok (.iastore, 1) := by decide +kernel
theorem dX8_readList_80 : decode cX8_readList 80 = .ok (.iload 6, 2) := by decide +kernel
theorem dX8_readList_82 : decode cX8_readList 82 = .ok (.iconst 1, 1) := by decide +kernel
theorem dX8_readList_83 : decode cX8_readList 83 = .ok (.iload 7, 2) := by decide +kernel
theorem dX8_readList_85 : decode cX8_readList 85 = .ok (.ishl, 1) := by decide +kernel
theorem dX8_readList_86 : decode cX8_readList 86 = .ok (.ior, 1) := by decide +kernel
theorem dX8_readList_87 : decode cX8_readList 87 = .ok (.istore 6, 2) := by decide +kernel
theorem dX8_readList_89 : decode cX8_readList 89 = .ok (.iinc 5 1, 3) := by decide +kernel
theorem dX8_readList_92 : decode cX8_readList 92 = .ok (.lload_n 3, 1) := by decide +kernel
theorem dX8_readList_93 : decode cX8_readList 93 = .ok (.ldc2_w 121, 3) := by decide +kernel
theorem dX8_readList_96 : decode cX8_readList 96 = .ok (.ldiv, 1) := by decide +kernel
theorem dX8_readList_97 : decode cX8_readList 97 = .ok (.lstore_n 3, 1) := by decide +kernel
theorem dX8_readList_98 : decode cX8_readList 98 = .ok (.goto (-90), 3) := by decide +kernel
theorem dX8_readList_101 : decode cX8_readList 101 = .ok (.iload 5, 2) := by decide +kernel
theorem dX8_readList_103 : decode cX8_readList 103 = .ok (.ireturn, 1) := by decide +kernel
theorem dX8_train_0 : decode cX8_train 0 = .ok (.aload_n 0, 1) := by decide +kernel
theorem dX8_train_1 : decode cX8_train 1 = .ok (.lload_n 1, 1) := by decide +kernel
theorem dX8_train_2 : decode cX8_train 2 = .ok (.invokevirtual 126, 3) := by decide +kernel
theorem dX8_train_5 : decode cX8_train 5 = .ok (.istore 4, 2) := by decide +kernel
theorem dX8_train_7 : decode cX8_train 7 = .ok (.iload 4, 2) := by decide +kernel
theorem dX8_train_9 : decode cX8_train 9 = .ok (.iconst 1, 1) := by decide +kernel
theorem dX8_train_10 : decode cX8_train 10 = .ok (.if_icmp .lt 28, 3) := by decide +kernel
theorem dX8_train_13 : decode cX8_train 13 = .ok (.iload_n 3, 1) := by decide +kernel
theorem dX8_train_14 : decode cX8_train 14 = .ok (.aload_n 0, 1) := by decide +kernel
theorem dX8_train_15 : decode cX8_train 15 = .ok (.getfield 7, 3) := by decide +kernel
theorem dX8_train_18 : decode cX8_train 18 = .ok (.bipush 6, 2) := by decide +kernel
theorem dX8_train_20 : decode cX8_train 20 = .ok (.iaload, 1) := by decide +kernel
theorem dX8_train_21 : decode cX8_train 21 = .ok (.aload_n 0, 1) := by decide +kernel
theorem dX8_train_22 : decode cX8_train 22 = .ok (.getfield 7, 3) := by decide +kernel
theorem dX8_train_25 : decode cX8_train 25 = .ok (.bipush 6, 2) := by decide +kernel
theorem dX8_train_27 : decode cX8_train 27 = .ok (.iaload, 1) := by decide +kernel
theorem dX8_train_28 : decode cX8_train 28 = .ok (.sipush 5000, 3) := by decide +kernel
theorem dX8_train_31 : decode cX8_train 31 = .ok (.iadd, 1) := by decide +kernel
theorem dX8_train_32 : decode cX8_train 32 = .ok (.invokestatic 55, 3) := by decide +kernel
theorem dX8_train_35 : decode cX8_train 35 = .ok (.ifCond .ne 6, 3) := by decide +kernel
theorem dX8_train_38 : decode cX8_train 38 = .ok (.bipush (-2), 2) := by decide +kernel
theorem dX8_train_40 : decode cX8_train 40 = .ok (.ireturn, 1) := by decide +kernel
theorem dX8_train_41 : decode cX8_train 41 = .ok (.aload_n 0, 1) := by decide +kernel
theorem dX8_train_42 : decode cX8_train 42 = .ok (.getfield 7, 3) := by decide +kernel
theorem dX8_train_45 : decode cX8_train 45 = .ok (.bipush 11, 2) := by decide +kernel
theorem dX8_train_47 : decode cX8_train 47 = .ok (.iaload, 1) := by decide +kernel
theorem dX8_train_48 : decode cX8_train 48 = .ok (.bipush 8, 2) := by decide +kernel
theorem dX8_train_50 : decode cX8_train 50 = .ok (.if_icmp .ne 6, 3) := by decide +kernel
theorem dX8_train_53 : decode cX8_train 53 = .ok (.bipush (-4), 2) := by decide +kernel
theorem dX8_train_55 : decode cX8_train 55 = .ok (.ireturn, 1) := by decide +kernel
theorem dX8_train_56 : decode cX8_train 56 = .ok (.iconst 0, 1) := by decide +kernel
theorem dX8_train_57 : decode cX8_train 57 = .ok (.istore 5, 2) := by decide +kernel
theorem dX8_train_59 : decode cX8_train 59 = .ok (.iload 5, 2) := by decide +kernel
theorem dX8_train_61 : decode cX8_train 61 = .ok (.iload 4, 2) := by decide +kernel
theorem dX8_train_63 : decode cX8_train 63 = .ok (.if_icmp .ge 26, 3) := by decide +kernel
theorem dX8_train_66 : decode cX8_train 66 = .ok (.aload_n 0, 1) := by decide +kernel
theorem dX8_train_67 : decode cX8_train 67 = .ok (.aload_n 0, 1) := by decide +kernel
theorem dX8_train_68 : decode cX8_train 68 = .ok (.getfield 32, 3) := by decide +kernel
theorem dX8_train_71 : decode cX8_train 71 = .ok (.iload 5, 2) := by decide +kernel
theorem dX8_train_73 : decode cX8_train 73 = .ok (.iaload, 1) := by decide +kernel
theorem dX8_train_74 : decode cX8_train 74 = .ok (.invokevirtual 130, 3) := by decide +kernel
theorem dX8_train_77 : decode cX8_train 77 = .ok (.ifCond .lt 6, 3) := by decide +kernel
theorem dX8_train_80 : decode cX8_train 80 = .ok (.bipush (-5), 2) := by decide +kernel
theorem dX8_train_82 : decode cX8_train 82 = .ok (.ireturn, 1) := by decide +kernel
theorem dX8_train_83 : decode cX8_train 83 = .ok (.iinc 5 1, 3) := by decide +kernel
theorem dX8_train_86 : decode cX8_train 86 = .ok (.goto (-27), 3) := by decide +kernel
theorem dX8_train_89 : decode cX8_train 89 = .ok (.aload_n 0, 1) := by decide +kernel
theorem dX8_train_90 : decode cX8_train 90 = .ok (.invokevirtual 66, 3) := by decide +kernel
theorem dX8_train_93 : decode cX8_train 93 = .ok (.sipush 450, 3) := by decide +kernel
theorem dX8_train_96 : decode cX8_train 96 = .ok (.bipush 10, 2) := by decide +kernel
theorem dX8_train_98 : decode cX8_train 98 = .ok (.aload_n 0, 1) := by decide +kernel
theorem dX8_train_99 : decode cX8_train 99 = .ok (.getfield 7, 3) := by decide +kernel
theorem dX8_train_102 : decode cX8_train 102 = .ok (.bipush 11, 2) := by decide +kernel
theorem dX8_train_104 : decode cX8_train 104 = .ok (.iaload, 1) := by decide +kernel
theorem dX8_train_105 : decode cX8_train 105 = .ok (.imul, 1) := by decide +kernel
theorem dX8_train_106 : decode cX8_train 106 = .ok (.iadd, 1) := by decide +kernel
theorem dX8_train_107 : decode cX8_train 107 = .ok (.istore 5, 2) := by decide +kernel
theorem dX8_train_109 : decode cX8_train 109 = .ok (.aload_n 0, 1) := by decide +kernel
theorem dX8_train_110 : decode cX8_train 110 = .ok (.getfield 7, 3) := by decide +kernel
theorem dX8_train_113 : decode cX8_train 113 = .ok (.iload 5, 2) := by decide +kernel
theorem dX8_train_115 : decode cX8_train 115 = .ok (.iload_n 3, 1) := by decide +kernel
theorem dX8_train_116 : decode cX8_train 116 = .ok (.iastore, 1) := by decide +kernel
theorem dX8_train_117 : decode cX8_train 117 = .ok (.aload_n 0, 1) := by decide +kernel
theorem dX8_train_118 : decode cX8_train 118 = .ok (.getfield 7, 3) := by decide +kernel
theorem dX8_train_121 : decode cX8_train 121 = .ok (.iload 5, 2) := by decide +kernel
theorem dX8_train_123 : decode cX8_train 123 = .ok (.iconst 1, 1) := by decide +kernel
theorem dX8_train_124 : decode cX8_train 124 = .ok (.iadd, 1) := by decide +kernel
theorem dX8_train_125 : decode cX8_train 125 = .ok (.iload 4, 2) := by decide +kernel
theorem dX8_train_127 : decode cX8_train 127 = .ok (.iastore, 1) := by decide +kernel
theorem dX8_train_128 : decode cX8_train 128 = .ok (.iconst 0, 1) := by decide +kernel
theorem dX8_train_129 : decode cX8_train 129 = .ok (.istore 6, 2) := by decide +kernel
theorem dX8_train_131 : decode cX8_train 131 = .ok (.iload 6, 2) := by decide +kernel
theorem dX8_train_133 : decode cX8_train 133 = .ok (.iload 4, 2) := by decide +kernel
theorem dX8_train_135 : decode cX8_train 135 = .ok (.if_icmp .ge 28, 3) := by decide +kernel
theorem dX8_train_138 : decode cX8_train 138 = .ok (.aload_n 0, 1) := by decide +kernel
theorem dX8_train_139 : decode cX8_train 139 = .ok (.getfield 7, 3) := by decide +kernel
theorem dX8_train_142 : decode cX8_train 142 = .ok (.iload 5, 2) := by decide +kernel
theorem dX8_train_144 : decode cX8_train 144 = .ok (.iconst 2, 1) := by decide +kernel
theorem dX8_train_145 : decode cX8_train 145 = .ok (.iadd, 1) := by decide +kernel
theorem dX8_train_146 : decode cX8_train 146 = .ok (.iload 6, 2) := by decide +kernel
theorem dX8_train_148 : decode cX8_train 148 = .ok (.iadd, 1) := by decide +kernel
theorem dX8_train_149 : decode cX8_train 149 = .ok (.aload_n 0, 1) := by decide +kernel
theorem dX8_train_150 : decode cX8_train 150 = .ok (.getfield 32, 3) := by decide +kernel
theorem dX8_train_153 : decode cX8_train 153 = .ok (.iload 6, 2) := by decide +kernel
theorem dX8_train_155 : decode cX8_train 155 = .ok (.iaload, 1) := by decide +kernel
theorem dX8_train_156 : decode cX8_train 156 = .ok (.iastore, 1) := by decide +kernel
theorem dX8_train_157 : decode cX8_train 157 = .ok (.iinc 6 1, 3) := by decide +kernel
theorem dX8_train_160 : decode cX8_train 160 = .ok (.goto (-29), 3) := by decide +kernel
theorem dX8_train_163 : decode cX8_train 163 = .ok (.aload_n 0, 1) := by decide +kernel
theorem dX8_train_164 : decode cX8_train 164 = .ok (.getfield 7, 3) := by decide +kernel
theorem dX8_train_167 : decode cX8_train 167 = .ok (.bipush 11, 2) := by decide +kernel
theorem dX8_train_169 : decode cX8_train 169 = .ok (.dup2, 1) := by decide +kernel
theorem dX8_train_170 : decode cX8_train 170 = .ok (.iaload, 1) := by decide +kernel
theorem dX8_train_171 : decode cX8_train 171 = .ok (.iconst 1, 1) := by decide +kernel
theorem dX8_train_172 : decode cX8_train 172 = .ok (.iadd, 1) := by decide +kernel
theorem dX8_train_173 : decode cX8_train 173 = .ok (.iastore, 1) := by decide +kernel
theorem dX8_train_174 : decode cX8_train 174 = .ok (.aload_n 0, 1) := by decide +kernel
theorem dX8_train_175 : decode cX8_train 175 = .ok (.getfield 7, 3) := by decide +kernel
theorem dX8_train_178 : decode cX8_train 178 = .ok (.bipush 11, 2) := by decide +kernel
theorem dX8_train_180 : decode cX8_train 180 = .ok (.iaload, 1) := by decide +kernel
theorem dX8_train_181 : decode cX8_train 181 = .ok (.iconst 1, 1) := by decide +kernel
theorem dX8_train_182 : decode cX8_train 182 = .ok (.isub, 1) := by decide +kernel
theorem dX8_train_183 : decode cX8_train 183 = .ok (.ireturn, 1) := by decide +kernel
theorem dX8_dropTrain_0 : decode cX8_dropTrain 0 = .ok (.aload_n 0, 1) := by decide +kernel
theorem dX8_dropTrain_1 : decode cX8_dropTrain 1 = .ok (.getfield 7, 3) := by decide +kernel
theorem dX8_dropTrain_4 : decode cX8_dropTrain 4 = .ok (.bipush 11, 2) := by decide +kernel
theorem dX8_dropTrain_6 : decode cX8_dropTrain 6 = .ok (.dup2, 1) := by decide +kernel
theorem dX8_dropTrain_7 : decode cX8_dropTrain 7 = .ok (.iaload, 1) := by decide +kernel
theorem dX8_dropTrain_8 : decode cX8_dropTrain 8 = .ok (.iconst 1, 1) := by decide +kernel
theorem dX8_dropTrain_9 : decode cX8_dropTrain 9 = .ok (.isub, 1) := by decide +kernel
theorem dX8_dropTrain_10 : decode cX8_dropTrain 10 = .ok (.iastore, 1) := by decide +kernel
theorem dX8_dropTrain_11 : decode cX8_dropTrain 11 = .ok (.sipush 450, 3) := by decide +kernel
theorem dX8_dropTrain_14 : decode cX8_dropTrain 14 = .ok (.bipush 10, 2) := by decide +kernel
theorem dX8_dropTrain_16 : decode cX8_dropTrain 16 = .ok (.iload_n 1, 1) := by decide +kernel
theorem dX8_dropTrain_17 : decode cX8_dropTrain 17 = .ok (.imul, 1) := by decide +kernel
theorem dX8_dropTrain_18 : decode cX8_dropTrain 18 = .ok (.iadd, 1) := by decide +kernel
theorem dX8_dropTrain_19 : decode cX8_dropTrain 19 = .ok (.istore_n 2, 1) := by decide +kernel
theorem dX8_dropTrain_20 : decode cX8_dropTrain 20 = .ok (.iload_n 2, 1) := by decide +kernel
theorem dX8_dropTrain_21 : decode cX8_dropTrain 21 = .ok (.sipush 450, 3) := by decide +kernel
theorem dX8_dropTrain_24 : decode cX8_dropTrain 24 = .ok (.bipush 10, 2) := by decide +kernel
theorem dX8_dropTrain_26 : decode cX8_dropTrain 26 = .ok (.aload_n 0, 1) := by decide +kernel
theorem dX8_dropTrain_27 : decode cX8_dropTrain 27 = .ok (.getfield 7, 3) := by decide +kernel
theorem dX8_dropTrain_30 : decode cX8_dropTrain 30 = .ok (.bipush 11, 2) := by decide +kernel
theorem dX8_dropTrain_32 : decode cX8_dropTrain 32 = .ok (.iaload, 1) := by decide +kernel
theorem dX8_dropTrain_33 : decode cX8_dropTrain 33 = .ok (.imul, 1) := by decide +kernel
theorem dX8_dropTrain_34 : decode cX8_dropTrain 34 = .ok (.iadd, 1) := by decide +kernel
theorem dX8_dropTrain_35 : decode cX8_dropTrain 35 = .ok (.if_icmp .ge 24, 3) := by decide +kernel
theorem dX8_dropTrain_38 : decode cX8_dropTrain 38 = .ok (.aload_n 0, 1) := by decide +kernel
theorem dX8_dropTrain_39 : decode cX8_dropTrain 39 = .ok (.getfield 7, 3) := by decide +kernel
theorem dX8_dropTrain_42 : decode cX8_dropTrain 42 = .ok (.iload_n 2, 1) := by decide +kernel
theorem dX8_dropTrain_43 : decode cX8_dropTrain 43 = .ok (.aload_n 0, 1) := by decide +kernel
theorem dX8_dropTrain_44 : decode cX8_dropTrain 44 = .ok (.getfield 7, 3) := by decide +kernel
theorem dX8_dropTrain_47 : decode cX8_dropTrain 47 = .ok (.iload_n 2, 1) := by decide +kernel
theorem dX8_dropTrain_48 : decode cX8_dropTrain 48 = .ok (.bipush 10, 2) := by decide +kernel
theorem dX8_dropTrain_50 : decode cX8_dropTrain 50 = .ok (.iadd, 1) := by decide +kernel
theorem dX8_dropTrain_51 : decode cX8_dropTrain 51 = .ok (.iaload, 1) := by decide +kernel
theorem dX8_dropTrain_52 : decode cX8_dropTrain 52 = .ok (.iastore, 1) := by decide +kernel
theorem dX8_dropTrain_53 : decode cX8_dropTrain 53 = .ok (.iinc 2 1, 3) := by decide +kernel
theorem dX8_dropTrain_56 : decode cX8_dropTrain 56 = .ok (.goto (-36), 3) := by decide +kernel
theorem dX8_dropTrain_59 : decode cX8_dropTrain 59 = .ok (.return_, 1) := by decide +kernel
theorem dX8_strike_0 : decode cX8_strike 0 = .ok (.aload_n 0, 1) := by decide +kernel
theorem dX8_strike_1 : decode cX8_strike 1 = .ok (.iload_n 1, 1) := by decide +kernel
theorem dX8_strike_2 : decode cX8_strike 2 = .ok (.invokevirtual 133, 3) := by decide +kernel
theorem dX8_strike_5 : decode cX8_strike 5 = .ok (.ifCond .ne 5, 3) := by decide +kernel
theorem dX8_strike_8 : decode cX8_strike 8 = .ok (.iconst (-1), 1) := by decide +kernel
theorem dX8_strike_9 : decode cX8_strike 9 = .ok (.ireturn, 1) := by decide +kernel
theorem dX8_strike_10 : decode cX8_strike 10 = .ok (.aload_n 0, 1) := by decide +kernel
theorem dX8_strike_11 : decode cX8_strike 11 = .ok (.invokevirtual 66, 3) := by decide +kernel
theorem dX8_strike_14 : decode cX8_strike 14 = .ok (.aload_n 0, 1) := by decide +kernel
theorem dX8_strike_15 : decode cX8_strike 15 = .ok (.iload_n 1, 1) := by decide +kernel
theorem dX8_strike_16 : decode cX8_strike 16 = .ok (.invokevirtual 136, 3) := by decide +kernel
theorem dX8_strike_19 : decode cX8_strike 19 = .ok (.aload_n 0, 1) := by decide +kernel
theorem dX8_strike_20 : decode cX8_strike 20 = .ok (.getfield 7, 3) := by decide +kernel
theorem dX8_strike_23 : decode cX8_strike 23 = .ok (.bipush 11, 2) := by decide +kernel
theorem dX8_strike_25 : decode cX8_strike 25 = .ok (.iaload, 1) := by decide +kernel
theorem dX8_strike_26 : decode cX8_strike 26 = .ok (.ireturn, 1) := by decide +kernel
theorem dX8_canLeave_0 : decode cX8_canLeave 0 = .ok (.sipush 450, 3) := by decide +kernel
theorem dX8_canLeave_3 : decode cX8_canLeave 3 = .ok (.bipush 10, 2) := by decide +kernel
theorem dX8_canLeave_5 : decode cX8_canLeave 5 = .ok (.iload_n 1, 1) := by decide +kernel
theorem dX8_canLeave_6 : decode cX8_canLeave 6 = .ok (.imul, 1) := by decide +kernel
theorem dX8_canLeave_7 : decode cX8_canLeave 7 = .ok (.iadd, 1) := by decide +kernel
theorem dX8_canLeave_8 : decode cX8_canLeave 8 = .ok (.istore_n 2, 1) := by decide +kernel
theorem dX8_canLeave_9 : decode cX8_canLeave 9 = .ok (.aload_n 0, 1) := by decide +kernel
theorem dX8_canLeave_10 : decode cX8_canLeave 10 = .ok (.getfield 7, 3) := by decide +kernel
theorem dX8_canLeave_13 : decode cX8_canLeave 13 = .ok (.iload_n 2, 1) := by decide +kernel
theorem dX8_canLeave_14 : decode cX8_canLeave 14 = .ok (.iconst 1, 1) := by decide +kernel
theorem dX8_canLeave_15 : decode cX8_canLeave 15 = .ok (.iadd, 1) := by decide +kernel
theorem dX8_canLeave_16 : decode cX8_canLeave 16 = .ok (.iaload, 1) := by decide +kernel
theorem dX8_canLeave_17 : decode cX8_canLeave 17 = .ok (.aload_n 0, 1) := by decide +kernel
theorem dX8_canLeave_18 : decode cX8_canLeave 18 = .ok (.getfield 7, 3) := by decide +kernel
theorem dX8_canLeave_21 : decode cX8_canLeave 21 = .ok (.bipush 9, 2) := by decide +kernel
theorem dX8_canLeave_23 : decode cX8_canLeave 23 = .ok (.iaload, 1) := by decide +kernel
theorem dX8_canLeave_24 : decode cX8_canLeave 24 = .ok (.if_icmp .ne 7, 3) := by decide +kernel
theorem dX8_canLeave_27 : decode cX8_canLeave 27 = .ok (.iconst 1, 1) := by decide +kernel
theorem dX8_canLeave_28 : decode cX8_canLeave 28 = .ok (.goto 4, 3) := by decide +kernel
theorem dX8_canLeave_31 : decode cX8_canLeave 31 = .ok (.iconst 0, 1) := by decide +kernel
theorem dX8_canLeave_32 : decode cX8_canLeave 32 = .ok (.istore_n 3, 1) := by decide +kernel
theorem dX8_canLeave_33 : decode cX8_canLeave 33 = .ok (.iconst 0, 1) := by decide +kernel
theorem dX8_canLeave_34 : decode cX8_canLeave 34 = .ok (.istore 4, 2) := by decide +kernel
theorem dX8_canLeave_36 : decode cX8_canLeave 36 = .ok (.iload 4, 2) := by decide +kernel
theorem dX8_canLeave_38 : decode cX8_canLeave 38 = .ok (.aload_n 0, 1) := by decide +kernel
theorem dX8_canLeave_39 : decode cX8_canLeave 39 = .ok (.getfield 7, 3) := by decide +kernel
theorem dX8_canLeave_42 : decode cX8_canLeave 42 = .ok (.bipush 9, 2) := by decide +kernel
theorem dX8_canLeave_44 : decode cX8_canLeave 44 = .ok (.iaload, 1) := by decide +kernel
theorem dX8_canLeave_45 : decode cX8_canLeave 45 = .ok (.if_icmp .ge 44, 3) := by decide +kernel
theorem dX8_canLeave_48 : decode cX8_canLeave 48 = .ok (.iload_n 3, 1) := by decide +kernel
theorem dX8_canLeave_49 : decode cX8_canLeave 49 = .ok (.ifCond .eq 40, 3) := by decide +kernel
theorem dX8_canLeave_52 : decode cX8_canLeave 52 = .ok (.aload_n 0, 1) := by decide +kernel
theorem dX8_canLeave_53 : decode cX8_canLeave 53 = .ok (.getfield 7, 3) := by decide +kernel
theorem dX8_canLeave_56 : decode cX8_canLeave 56 = .ok (.iload_n 2, 1) := by decide +kernel
theorem dX8_canLeave_57 : decode cX8_canLeave 57 = .ok (.iconst 2, 1) := by decide +kernel
theorem dX8_canLeave_58 : decode cX8_canLeave 58 = .ok (.iadd, 1) := by decide +kernel
theorem dX8_canLeave_59 : decode cX8_canLeave 59 = .ok (.iload 4, 2) := by decide +kernel
theorem dX8_canLeave_61 : decode cX8_canLeave 61 = .ok (.iadd, 1) := by decide +kernel
theorem dX8_canLeave_62 : decode cX8_canLeave 62 = .ok (.iaload, 1) := by decide +kernel
theorem dX8_canLeave_63 : decode cX8_canLeave 63 = .ok (.aload_n 0, 1) := by decide +kernel
theorem dX8_canLeave_64 : decode cX8_canLeave 64 = .ok (.getfield 7, 3) := by decide +kernel
theorem dX8_canLeave_67 : decode cX8_canLeave 67 = .ok (.sipush 300, 3) := by decide +kernel
theorem dX8_canLeave_70 : decode cX8_canLeave 70 = .ok (.iload 4, 2) := by decide +kernel
theorem dX8_canLeave_72 : decode cX8_canLeave 72 = .ok (.iadd, 1) := by decide +kernel
theorem dX8_canLeave_73 : decode cX8_canLeave 73 = .ok (.iaload, 1) := by decide +kernel
theorem dX8_canLeave_74 : decode cX8_canLeave 74 = .ok (.if_icmp .ne 7, 3) := by decide +kernel
theorem dX8_canLeave_77 : decode cX8_canLeave 77 = .ok (.iconst 1, 1) := by decide +kernel
theorem dX8_canLeave_78 : decode cX8_canLeave 78 = .ok (.goto 4, 3) := by decide +kernel
theorem dX8_canLeave_81 : decode cX8_canLeave 81 = .ok (.iconst 0, 1) := by decide +kernel
theorem dX8_canLeave_82 : decode cX8_canLeave 82 = .ok (.istore_n 3, 1) := by decide +kernel
theorem dX8_canLeave_83 : decode cX8_canLeave 83 = .ok (.iinc 4 1, 3) := by decide +kernel
theorem dX8_canLeave_86 : decode cX8_canLeave 86 = .ok (.goto (-50), 3) := by decide +kernel
theorem dX8_canLeave_89 : decode cX8_canLeave 89 = .ok (.iload_n 3, 1) := by decide +kernel
theorem dX8_canLeave_90 : decode cX8_canLeave 90 = .ok (.ireturn, 1) := by decide +kernel
theorem dX8_leave_0 : decode cX8_leave 0 = .ok (.aload_n 0, 1) := by decide +kernel
theorem dX8_leave_1 : decode cX8_leave 1 = .ok (.iload_n 1, 1) := by decide +kernel
theorem dX8_leave_2 : decode cX8_leave 2 = .ok (.invokevirtual 133, 3) := by decide +kernel
theorem dX8_leave_5 : decode cX8_leave 5 = .ok (.ifCond .ne 5, 3) := by decide +kernel
theorem dX8_leave_8 : decode cX8_leave 8 = .ok (.iconst (-1), 1) := by decide +kernel
theorem dX8_leave_9 : decode cX8_leave 9 = .ok (.ireturn, 1) := by decide +kernel
theorem dX8_leave_10 : decode cX8_leave 10 = .ok (.aload_n 0, 1) := by decide +kernel
theorem dX8_leave_11 : decode cX8_leave 11 = .ok (.iload_n 1, 1) := by decide +kernel
theorem dX8_leave_12 : decode cX8_leave 12 = .ok (.invokevirtual 139, 3) := by decide +kernel
theorem dX8_leave_15 : decode cX8_leave 15 = .ok (.ifCond .ne 6, 3) := by decide +kernel
theorem dX8_leave_18 : decode cX8_leave 18 = .ok (.bipush (-5), 2) := by decide +kernel
theorem dX8_leave_20 : decode cX8_leave 20 = .ok (.ireturn, 1) := by decide +kernel
theorem dX8_leave_21 : decode cX8_leave 21 = .ok (.aload_n 0, 1) := by decide +kernel
theorem dX8_leave_22 : decode cX8_leave 22 = .ok (.invokevirtual 66, 3) := by decide +kernel
theorem dX8_leave_25 : decode cX8_leave 25 = .ok (.aload_n 0, 1) := by decide +kernel
theorem dX8_leave_26 : decode cX8_leave 26 = .ok (.getfield 7, 3) := by decide +kernel
theorem dX8_leave_29 : decode cX8_leave 29 = .ok (.sipush 450, 3) := by decide +kernel
theorem dX8_leave_32 : decode cX8_leave 32 = .ok (.bipush 10, 2) := by decide +kernel
theorem dX8_leave_34 : decode cX8_leave 34 = .ok (.iload_n 1, 1) := by decide +kernel
theorem dX8_leave_35 : decode cX8_leave 35 = .ok (.imul, 1) := by decide +kernel
theorem dX8_leave_36 : decode cX8_leave 36 = .ok (.iadd, 1) := by decide +kernel
theorem dX8_leave_37 : decode cX8_leave 37 = .ok (.iaload, 1) := by decide +kernel
theorem dX8_leave_38 : decode cX8_leave 38 = .ok (.istore_n 2, 1) := by decide +kernel
theorem dX8_leave_39 : decode cX8_leave 39 = .ok (.aload_n 0, 1) := by decide +kernel
theorem dX8_leave_40 : decode cX8_leave 40 = .ok (.getfield 7, 3) := by decide +kernel
theorem dX8_leave_43 : decode cX8_leave 43 = .ok (.bipush 6, 2) := by decide +kernel
theorem dX8_leave_45 : decode cX8_leave 45 = .ok (.iaload, 1) := by decide +kernel
theorem dX8_leave_46 : decode cX8_leave 46 = .ok (.iload_n 2, 1) := by decide +kernel
theorem dX8_leave_47 : decode cX8_leave 47 = .ok (.if_icmp .le 15, 3) := by decide +kernel
theorem dX8_leave_50 : decode cX8_leave 50 = .ok (.aload_n 0, 1) := by decide +kernel
theorem dX8_leave_51 : decode cX8_leave 51 = .ok (.getfield 7, 3) := by decide +kernel
theorem dX8_leave_54 : decode cX8_leave 54 = .ok (.bipush 6, 2) := by decide +kernel
theorem dX8_leave_56 : decode cX8_leave 56 = .ok (.iaload, 1) := by decide +kernel
theorem dX8_leave_57 : decode cX8_leave 57 = .ok (.iload_n 2, 1) := by decide +kernel
theorem dX8_leave_58 : decode cX8_leave 58 = .ok (.isub, 1) := by decide +kernel
theorem dX8_leave_59 : decode cX8_leave 59 = .ok (.goto 4, 3) := by decide +kernel
theorem dX8_leave_62 : decode cX8_leave 62 = .ok (.iconst 0, 1) := by decide +kernel
theorem dX8_leave_63 : decode cX8_leave 63 = .ok (.istore_n 3, 1) := by decide +kernel
theorem dX8_leave_64 : decode cX8_leave 64 = .ok (.iconst 0, 1) := by decide +kernel
theorem dX8_leave_65 : decode cX8_leave 65 = .ok (.istore 4, 2) := by decide +kernel
theorem dX8_leave_67 : decode cX8_leave 67 = .ok (.iload 4, 2) := by decide +kernel
theorem dX8_leave_69 : decode cX8_leave 69 = .ok (.aload_n 0, 1) := by decide +kernel
theorem dX8_leave_70 : decode cX8_leave 70 = .ok (.getfield 7, 3) := by decide +kernel
theorem dX8_leave_73 : decode cX8_leave 73 = .ok (.bipush 9, 2) := by decide +kernel
theorem dX8_leave_75 : decode cX8_leave 75 = .ok (.iaload, 1) := by decide +kernel
theorem dX8_leave_76 : decode cX8_leave 76 = .ok (.if_icmp .ge 40, 3) := by decide +kernel
theorem dX8_leave_79 : decode cX8_leave 79 = .ok (.aload_n 0, 1) := by decide +kernel
theorem dX8_leave_80 : decode cX8_leave 80 = .ok (.getfield 7, 3) := by decide +kernel
theorem dX8_leave_83 : decode cX8_leave 83 = .ok (.sipush 330, 3) := by decide +kernel
theorem dX8_leave_86 : decode cX8_leave 86 = .ok (.iconst 4, 1) := by decide +kernel
theorem dX8_leave_87 : decode cX8_leave 87 = .ok (.aload_n 0, 1) := by decide +kernel
theorem dX8_leave_88 : decode cX8_leave 88 = .ok (.getfield 7, 3) := by decide +kernel
theorem dX8_leave_91 : decode cX8_leave 91 = .ok (.sipush 300, 3) := by decide +kernel
theorem dX8_leave_94 : decode cX8_leave 94 = .ok (.iload 4, 2) := by decide +kernel
theorem dX8_leave_96 : decode cX8_leave 96 = .ok (.iadd, 1) := by decide +kernel
theorem dX8_leave_97 : decode cX8_leave 97 = .ok (.iaload, 1) := by decide +kernel
theorem dX8_leave_98 : decode cX8_leave 98 = .ok (.imul, 1) := by decide +kernel
theorem dX8_leave_99 : decode cX8_leave 99 = .ok (.iadd, 1) := by decide +kernel
theorem dX8_leave_100 : decode cX8_leave 100 = .ok (.iconst 1, 1) := by decide +kernel
theorem dX8_leave_101 : decode cX8_leave 101 = .ok (.iadd, 1) := by decide +kernel
theorem dX8_leave_102 : decode cX8_leave 102 = .ok (.aload_n 0, 1) := by decide +kernel
theorem dX8_leave_103 : decode cX8_leave 103 = .ok (.getfield 7, 3) := by decide +kernel
theorem dX8_leave_106 : decode cX8_leave 106 = .ok (.bipush 6, 2) := by decide +kernel
theorem dX8_leave_108 : decode cX8_leave 108 = .ok (.iaload, 1) := by decide +kernel
theorem dX8_leave_109 : decode cX8_leave 109 = .ok (.iastore, 1) := by decide +kernel
theorem dX8_leave_110 : decode cX8_leave 110 = .ok (.iinc 4 1, 3) := by decide +kernel
theorem dX8_leave_113 : decode cX8_leave 113 = .ok (.goto (-46), 3) := by decide +kernel
theorem dX8_leave_116 : decode cX8_leave 116 = .ok (.aload_n 0, 1) := by decide +kernel
theorem dX8_leave_117 : decode cX8_leave 117 = .ok (.getfield 7, 3) := by decide +kernel
theorem dX8_leave_120 : decode cX8_leave 120 = .ok (.bipush 10, 2) := by decide +kernel
theorem dX8_leave_122 : decode cX8_leave 122 = .ok (.dup2, 1) := by decide +kernel
theorem dX8_leave_123 : decode cX8_leave 123 = .ok (.iaload, 1) := by decide +kernel
theorem dX8_leave_124 : decode cX8_leave 124 = .ok (.aload_n 0, 1) := by decide +kernel
theorem dX8_leave_125 : decode cX8_leave 125 = .ok (.getfield 7, 3) := by decide +kernel
theorem dX8_leave_128 : decode cX8_leave 128 = .ok (.bipush 9, 2) := by decide +kernel
theorem dX8_leave_130 : decode cX8_leave 130 = .ok (.iaload, 1) := by decide +kernel
theorem dX8_leave_131 : decode cX8_leave 131 = .ok (.iadd, 1) := by decide +kernel
theorem dX8_leave_132 : decode cX8_leave 132 = .ok (.iastore, 1) := by decide +kernel
theorem dX8_leave_133 : decode cX8_leave 133 = .ok (.aload_n 0, 1) := by decide +kernel
theorem dX8_leave_134 : decode cX8_leave 134 = .ok (.getfield 7, 3) := by decide +kernel
theorem dX8_leave_137 : decode cX8_leave 137 = .ok (.bipush 9, 2) := by decide +kernel
theorem dX8_leave_139 : decode cX8_leave 139 = .ok (.iconst 0, 1) := by decide +kernel
theorem dX8_leave_140 : decode cX8_leave 140 = .ok (.iastore, 1) := by decide +kernel
theorem dX8_leave_141 : decode cX8_leave 141 = .ok (.aload_n 0, 1) := by decide +kernel
theorem dX8_leave_142 : decode cX8_leave 142 = .ok (.getfield 7, 3) := by decide +kernel
theorem dX8_leave_145 : decode cX8_leave 145 = .ok (.bipush 12, 2) := by decide +kernel
theorem dX8_leave_147 : decode cX8_leave 147 = .ok (.dup2, 1) := by decide +kernel
theorem dX8_leave_148 : decode cX8_leave 148 = .ok (.iaload, 1) := by decide +kernel
theorem dX8_leave_149 : decode cX8_leave 149 = .ok (.iconst 1, 1) := by decide +kernel
theorem dX8_leave_150 : decode cX8_leave 150 = .ok (.iadd, 1) := by decide +kernel
theorem dX8_leave_151 : decode cX8_leave 151 = .ok (.iastore, 1) := by decide +kernel
theorem dX8_leave_152 : decode cX8_leave 152 = .ok (.aload_n 0, 1) := by decide +kernel
theorem dX8_leave_153 : decode cX8_leave 153 = .ok (.getfield 7, 3) := by decide +kernel
theorem dX8_leave_156 : decode cX8_leave 156 = .ok (.bipush 17, 2) := by decide +kernel
theorem dX8_leave_158 : decode cX8_leave 158 = .ok (.dup2, 1) := by decide +kernel
theorem dX8_leave_159 : decode cX8_leave 159 = .ok (.iaload, 1) := by decide +kernel
theorem dX8_leave_160 : decode cX8_leave 160 = .ok (.aload_n 0, 1) := by decide +kernel
theorem dX8_leave_161 : decode cX8_leave 161 = .ok (.getfield 7, 3) := by decide +kernel
theorem dX8_leave_164 : decode cX8_leave 164 = .ok (.iconst 5, 1) := by decide +kernel
theorem dX8_leave_165 : decode cX8_leave 165 = .ok (.iaload, 1) := by decide +kernel
theorem dX8_leave_166 : decode cX8_leave 166 = .ok (.iload_n 3, 1) := by decide +kernel
theorem dX8_leave_167 : decode cX8_leave 167 = .ok (.imul, 1) := by decide +kernel
theorem dX8_leave_168 : decode cX8_leave 168 = .ok (.iadd, 1) := by decide +kernel
theorem dX8_leave_169 : decode cX8_leave 169 = .ok (.iastore, 1) := by decide +kernel
theorem dX8_leave_170 : decode cX8_leave 170 = .ok (.aload_n 0, 1) := by decide +kernel
theorem dX8_leave_171 : decode cX8_leave 171 = .ok (.iload_n 1, 1) := by decide +kernel
theorem dX8_leave_172 : decode cX8_leave 172 = .ok (.invokevirtual 136, 3) := by decide +kernel
theorem dX8_leave_175 : decode cX8_leave 175 = .ok (.iload_n 3, 1) := by decide +kernel
theorem dX8_leave_176 : decode cX8_leave 176 = .ok (.ireturn, 1) := by decide +kernel
theorem dX8_ofTrack_0 : decode cX8_ofTrack 0 = .ok (.aload_n 0, 1) := by decide +kernel
theorem dX8_ofTrack_1 : decode cX8_ofTrack 1 = .ok (.iload_n 1, 1) := by decide +kernel
theorem dX8_ofTrack_2 : decode cX8_ofTrack 2 = .ok (.invokevirtual 79, 3) := by decide +kernel
theorem dX8_ofTrack_5 : decode cX8_ofTrack 5 = .ok (.ifCond .ne 5, 3) := by decide +kernel
theorem dX8_ofTrack_8 : decode cX8_ofTrack 8 = .ok (.iconst (-1), 1) := by decide +kernel
theorem dX8_ofTrack_9 : decode cX8_ofTrack 9 = .ok (.ireturn, 1) := by decide +kernel
theorem dX8_ofTrack_10 : decode cX8_ofTrack 10 = .ok (.iload_n 2, 1) := by decide +kernel
theorem dX8_ofTrack_11 : decode cX8_ofTrack 11 = .ok (.tableswitch 69 0 4 #[33, 33, 47, 53, 53], 33) := by decide +kernel
theorem dX8_ofTrack_44 : decode cX8_ofTrack 44 = .ok (.aload_n 0, 1) := by decide +kernel
theorem dX8_ofTrack_45 : decode cX8_ofTrack 45 = .ok (.getfield 7, 3) := by decide +kernel
theorem dX8_ofTrack_48 : decode cX8_ofTrack 48 = .ok (.bipush 20, 2) := by decide +kernel
theorem dX8_ofTrack_50 : decode cX8_ofTrack 50 = .ok (.iconst 4, 1) := by decide +kernel
theorem dX8_ofTrack_51 : decode cX8_ofTrack 51 = .ok (.iload_n 1, 1) := by decide +kernel
theorem dX8_ofTrack_52 : decode cX8_ofTrack 52 = .ok (.imul, 1) := by decide +kernel
theorem dX8_ofTrack_53 : decode cX8_ofTrack 53 = .ok (.iadd, 1) := by decide +kernel
theorem dX8_ofTrack_54 : decode cX8_ofTrack 54 = .ok (.iload_n 2, 1) := by decide +kernel
theorem dX8_ofTrack_55 : decode cX8_ofTrack 55 = .ok (.iadd, 1) := by decide +kernel
theorem dX8_ofTrack_56 : decode cX8_ofTrack 56 = .ok (.iaload, 1) := by decide +kernel
theorem dX8_ofTrack_57 : decode cX8_ofTrack 57 = .ok (.ireturn, 1) := by decide +kernel
theorem dX8_ofTrack_58 : decode cX8_ofTrack 58 = .ok (.aload_n 0, 1) := by decide +kernel
theorem dX8_ofTrack_59 : decode cX8_ofTrack 59 = .ok (.iload_n 1, 1) := by decide +kernel
theorem dX8_ofTrack_60 : decode cX8_ofTrack 60 = .ok (.invokevirtual 83, 3) := by decide +kernel
theorem dX8_ofTrack_63 : decode cX8_ofTrack 63 = .ok (.ireturn, 1) := by decide +kernel
theorem dX8_ofTrack_64 : decode cX8_ofTrack 64 = .ok (.aload_n 0, 1) := by decide +kernel
theorem dX8_ofTrack_65 : decode cX8_ofTrack 65 = .ok (.getfield 7, 3) := by decide +kernel
theorem dX8_ofTrack_68 : decode cX8_ofTrack 68 = .ok (.bipush 20, 2) := by decide +kernel
theorem dX8_ofTrack_70 : decode cX8_ofTrack 70 = .ok (.iconst 4, 1) := by decide +kernel
theorem dX8_ofTrack_71 : decode cX8_ofTrack 71 = .ok (.iload_n 1, 1) := by decide +kernel
theorem dX8_ofTrack_72 : decode cX8_ofTrack 72 = .ok (.imul, 1) := by decide +kernel
theorem dX8_ofTrack_73 : decode cX8_ofTrack 73 = .ok (.iadd, 1) := by decide +kernel
theorem dX8_ofTrack_74 : decode cX8_ofTrack 74 = .ok (.iload_n 2, 1) := by decide +kernel
theorem dX8_ofTrack_75 : decode cX8_ofTrack 75 = .ok (.iadd, 1) := by decide +kernel
theorem dX8_ofTrack_76 : decode cX8_ofTrack 76 = .ok (.iconst 1, 1) := by decide +kernel
theorem dX8_ofTrack_77 : decode cX8_ofTrack 77 = .ok (.isub, 1) := by decide +kernel
theorem dX8_ofTrack_78 : decode cX8_ofTrack 78 = .ok (.iaload, 1) := by decide +kernel
theorem dX8_ofTrack_79 : decode cX8_ofTrack 79 = .ok (.ireturn, 1) := by decide +kernel
theorem dX8_ofTrack_80 : decode cX8_ofTrack 80 = .ok (.bipush (-2), 2) := by decide +kernel
theorem dX8_ofTrack_82 : decode cX8_ofTrack 82 = .ok (.ireturn, 1) := by decide +kernel
theorem dX8_at_0 : decode cX8_at 0 = .ok (.iload_n 1, 1) := by decide +kernel
theorem dX8_at_1 : decode cX8_at 1 = .ok (.bipush (-6), 2) := by decide +kernel
theorem dX8_at_3 : decode cX8_at 3 = .ok (.if_icmp .eq 13, 3) := by decide +kernel
theorem dX8_at_6 : decode cX8_at 6 = .ok (.aload_n 0, 1) := by decide +kernel
theorem dX8_at_7 : decode cX8_at 7 = .ok (.iload_n 1, 1) := by decide +kernel
theorem dX8_at_8 : decode cX8_at 8 = .ok (.invokevirtual 79, 3) := by decide +kernel
theorem dX8_at_11 : decode cX8_at 11 = .ok (.ifCond .ne 5, 3) := by decide +kernel
theorem dX8_at_14 : decode cX8_at 14 = .ok (.iconst (-1), 1) := by decide +kernel
theorem dX8_at_15 : decode cX8_at 15 = .ok (.ireturn, 1) := by decide +kernel
theorem dX8_at_16 : decode cX8_at 16 = .ok (.iload_n 1, 1) := by decide +kernel
theorem dX8_at_17 : decode cX8_at 17 = .ok (.ifCond .ge 36, 3) := by decide +kernel
theorem dX8_at_20 : decode cX8_at 20 = .ok (.iload_n 2, 1) := by decide +kernel
theorem dX8_at_21 : decode cX8_at 21 = .ok (.iconst 0, 1) := by decide +kernel
theorem dX8_at_22 : decode cX8_at 22 = .ok (.aload_n 0, 1) := by decide +kernel
theorem dX8_at_23 : decode cX8_at 23 = .ok (.getfield 7, 3) := by decide +kernel
theorem dX8_at_26 : decode cX8_at 26 = .ok (.bipush 9, 2) := by decide +kernel
theorem dX8_at_28 : decode cX8_at 28 = .ok (.iaload, 1) := by decide +kernel
theorem dX8_at_29 : decode cX8_at 29 = .ok (.iconst 1, 1) := by decide +kernel
theorem dX8_at_30 : decode cX8_at 30 = .ok (.isub, 1) := by decide +kernel
theorem dX8_at_31 : decode cX8_at 31 = .ok (.invokestatic 55, 3) := by decide +kernel
theorem dX8_at_34 : decode cX8_at 34 = .ok (.ifCond .eq 16, 3) := by decide +kernel
theorem dX8_at_37 : decode cX8_at 37 = .ok (.aload_n 0, 1) := by decide +kernel
theorem dX8_at_38 : decode cX8_at 38 = .ok (.getfield 7, 3) := by decide +kernel
theorem dX8_at_41 : decode cX8_at 41 = .ok (.sipush 300, 3) := by decide +kernel
theorem dX8_at_44 : decode cX8_at 44 = .ok (.iload_n 2, 1) := by decide +kernel
theorem dX8_at_45 : decode cX8_at 45 = .ok (.iadd, 1) := by decide +kernel
theorem dX8_at_46 : decode cX8_at 46 = .ok (.iaload, 1) := by decide +kernel
theorem dX8_at_47 : decode cX8_at 47 = .ok (.goto 5, 3) := by decide +kernel
theorem dX8_at_50 : decode cX8_at 50 = .ok (.bipush (-6), 2) := by decide +kernel
theorem dX8_at_52 : decode cX8_at 52 = .ok (.ireturn, 1) := by decide +kernel
theorem dX8_at_53 : decode cX8_at 53 = .ok (.iload_n 2, 1) := by decide +kernel
theorem dX8_at_54 : decode cX8_at 54 = .ok (.iconst 0, 1) := by decide +kernel
theorem dX8_at_55 : decode cX8_at 55 = .ok (.aload_n 0, 1) := by decide +kernel
theorem dX8_at_56 : decode cX8_at 56 = .ok (.iload_n 1, 1) := by decide +kernel
theorem dX8_at_57 : decode cX8_at 57 = .ok (.invokevirtual 72, 3) := by decide +kernel
theorem dX8_at_60 : decode cX8_at 60 = .ok (.iconst 1, 1) := by decide +kernel
theorem dX8_at_61 : decode cX8_at 61 = .ok (.isub, 1) := by decide +kernel
theorem dX8_at_62 : decode cX8_at 62 = .ok (.invokestatic 55, 3) := by decide +kernel
theorem dX8_at_65 : decode cX8_at 65 = .ok (.ifCond .eq 20, 3) := by decide +kernel
theorem dX8_at_68 : decode cX8_at 68 = .ok (.aload_n 0, 1) := by decide +kernel
theorem dX8_at_69 : decode cX8_at 69 = .ok (.getfield 7, 3) := by decide +kernel
theorem dX8_at_72 : decode cX8_at 72 = .ok (.bipush 60, 2) := by decide +kernel
theorem dX8_at_74 : decode cX8_at 74 = .ok (.bipush 30, 2) := by decide +kernel
theorem dX8_at_76 : decode cX8_at 76 = .ok (.iload_n 1, 1) := by decide +kernel
theorem dX8_at_77 : decode cX8_at 77 = .ok (.imul, 1) := by decide +kernel
theorem dX8_at_78 : decode cX8_at 78 = .ok (.iadd, 1) := by decide +kernel
theorem dX8_at_79 : decode cX8_at 79 = .ok (.iload_n 2, 1) := by decide +kernel
theorem dX8_at_80 : decode cX8_at 80 = .ok (.iadd, 1) := by decide +kernel
theorem dX8_at_81 : decode cX8_at 81 = .ok (.iaload, 1) := by decide +kernel
theorem dX8_at_82 : decode cX8_at 82 = .ok (.goto 5, 3) := by decide +kernel
theorem dX8_at_85 : decode cX8_at 85 = .ok (.bipush (-6), 2) := by decide +kernel
theorem dX8_at_87 : decode cX8_at 87 = .ok (.ireturn, 1) := by decide +kernel
theorem dX8_trackOf_0 : decode cX8_trackOf 0 = .ok (.iconst 0, 1) := by decide +kernel
theorem dX8_trackOf_1 : decode cX8_trackOf 1 = .ok (.istore_n 2, 1) := by decide +kernel
theorem dX8_trackOf_2 : decode cX8_trackOf 2 = .ok (.iload_n 2, 1) := by decide +kernel
theorem dX8_trackOf_3 : decode cX8_trackOf 3 = .ok (.aload_n 0, 1) := by decide +kernel
theorem dX8_trackOf_4 : decode cX8_trackOf 4 = .ok (.getfield 7, 3) := by decide +kernel
theorem dX8_trackOf_7 : decode cX8_trackOf 7 = .ok (.bipush 7, 2) := by decide +kernel
theorem dX8_trackOf_9 : decode cX8_trackOf 9 = .ok (.iaload, 1) := by decide +kernel
theorem dX8_trackOf_10 : decode cX8_trackOf 10 = .ok (.if_icmp .ge 31, 3) := by decide +kernel
theorem dX8_trackOf_13 : decode cX8_trackOf 13 = .ok (.aload_n 0, 1) := by decide +kernel
theorem dX8_trackOf_14 : decode cX8_trackOf 14 = .ok (.bipush 60, 2) := by decide +kernel
theorem dX8_trackOf_16 : decode cX8_trackOf 16 = .ok (.bipush 30, 2) := by decide +kernel
theorem dX8_trackOf_18 : decode cX8_trackOf 18 = .ok (.iload_n 2, 1) := by decide +kernel
theorem dX8_trackOf_19 : decode cX8_trackOf 19 = .ok (.imul, 1) := by decide +kernel
theorem dX8_trackOf_20 : decode cX8_trackOf 20 = .ok (.iadd, 1) := by decide +kernel
theorem dX8_trackOf_21 : decode cX8_trackOf 21 = .ok (.aload_n 0, 1) := by decide +kernel
theorem dX8_trackOf_22 : decode cX8_trackOf 22 = .ok (.iload_n 2, 1) := by decide +kernel
theorem dX8_trackOf_23 : decode cX8_trackOf 23 = .ok (.invokevirtual 72, 3) := by decide +kernel
theorem dX8_trackOf_26 : decode cX8_trackOf 26 = .ok (.iload_n 1, 1) := by decide +kernel
theorem dX8_trackOf_27 : decode cX8_trackOf 27 = .ok (.invokevirtual 142, 3) := by decide +kernel
theorem dX8_trackOf_30 : decode cX8_trackOf 30 = .ok (.ifCond .lt 5, 3) := by decide +kernel
theorem dX8_trackOf_33 : decode cX8_trackOf 33 = .ok (.iload_n 2, 1) := by decide +kernel
theorem dX8_trackOf_34 : decode cX8_trackOf 34 = .ok (.ireturn, 1) := by decide +kernel
theorem dX8_trackOf_35 : decode cX8_trackOf 35 = .ok (.iinc 2 1, 3) := by decide +kernel
theorem dX8_trackOf_38 : decode cX8_trackOf 38 = .ok (.goto (-36), 3) := by decide +kernel
theorem dX8_trackOf_41 : decode cX8_trackOf 41 = .ok (.bipush (-6), 2) := by decide +kernel
theorem dX8_trackOf_43 : decode cX8_trackOf 43 = .ok (.ireturn, 1) := by decide +kernel
theorem dX8_placeIn_0 : decode cX8_placeIn 0 = .ok (.iconst 0, 1) := by decide +kernel
theorem dX8_placeIn_1 : decode cX8_placeIn 1 = .ok (.istore 4, 2) := by decide +kernel
theorem dX8_placeIn_3 : decode cX8_placeIn 3 = .ok (.iload 4, 2) := by decide +kernel
theorem dX8_placeIn_5 : decode cX8_placeIn 5 = .ok (.iload_n 2, 1) := by decide +kernel
theorem dX8_placeIn_6 : decode cX8_placeIn 6 = .ok (.if_icmp .ge 25, 3) := by decide +kernel
theorem dX8_placeIn_9 : decode cX8_placeIn 9 = .ok (.aload_n 0, 1) := by decide +kernel
theorem dX8_placeIn_10 : decode cX8_placeIn 10 = .ok (.getfield 7, 3) := by decide +kernel
theorem dX8_placeIn_13 : decode cX8_placeIn 13 = .ok (.iload_n 1, 1) := by decide +kernel
theorem dX8_placeIn_14 : decode cX8_placeIn 14 = .ok (.iload 4, 2) := by decide +kernel
theorem dX8_placeIn_16 : decode cX8_placeIn 16 = .ok (.iadd, 1) := by decide +kernel
theorem dX8_placeIn_17 : decode cX8_placeIn 17 = .ok (.iaload, 1) := by decide +kernel
theorem dX8_placeIn_18 : decode cX8_placeIn 18 = .ok (.iload_n 3, 1) := by decide +kernel
theorem dX8_placeIn_19 : decode cX8_placeIn 19 = .ok (.if_icmp .ne 6, 3) := by decide +kernel
theorem dX8_placeIn_22 : decode cX8_placeIn 22 = .ok (.iload 4, 2) := by decide +kernel
theorem dX8_placeIn_24 : decode cX8_placeIn 24 = .ok (.ireturn, 1) := by decide +kernel
theorem dX8_placeIn_25 : decode cX8_placeIn 25 = .ok (.iinc 4 1, 3) := by decide +kernel
theorem dX8_placeIn_28 : decode cX8_placeIn 28 = .ok (.goto (-25), 3) := by decide +kernel
theorem dX8_placeIn_31 : decode cX8_placeIn 31 = .ok (.bipush (-6), 2) := by decide +kernel
theorem dX8_placeIn_33 : decode cX8_placeIn 33 = .ok (.ireturn, 1) := by decide +kernel
theorem dX8_ofWagon_0 : decode cX8_ofWagon 0 = .ok (.aload_n 0, 1) := by decide +kernel
theorem dX8_ofWagon_1 : decode cX8_ofWagon 1 = .ok (.iload_n 1, 1) := by decide +kernel
theorem dX8_ofWagon_2 : decode cX8_ofWagon 2 = .ok (.invokevirtual 123, 3) := by decide +kernel
theorem dX8_ofWagon_5 : decode cX8_ofWagon 5 = .ok (.ifCond .ne 5, 3) := by decide +kernel
theorem dX8_ofWagon_8 : decode cX8_ofWagon 8 = .ok (.iconst (-1), 1) := by decide +kernel
theorem dX8_ofWagon_9 : decode cX8_ofWagon 9 = .ok (.ireturn, 1) := by decide +kernel
theorem dX8_ofWagon_10 : decode cX8_ofWagon 10 = .ok (.aload_n 0, 1) := by decide +kernel
theorem dX8_ofWagon_11 : decode cX8_ofWagon 11 = .ok (.iload_n 1, 1) := by decide +kernel
theorem dX8_ofWagon_12 : decode cX8_ofWagon 12 = .ok (.invokevirtual 146, 3) := by decide +kernel
theorem dX8_ofWagon_15 : decode cX8_ofWagon 15 = .ok (.istore_n 3, 1) := by decide +kernel
theorem dX8_ofWagon_16 : decode cX8_ofWagon 16 = .ok (.aload_n 0, 1) := by decide +kernel
theorem dX8_ofWagon_17 : decode cX8_ofWagon 17 = .ok (.sipush 300, 3) := by decide +kernel
theorem dX8_ofWagon_20 : decode cX8_ofWagon 20 = .ok (.aload_n 0, 1) := by decide +kernel
theorem dX8_ofWagon_21 : decode cX8_ofWagon 21 = .ok (.getfield 7, 3) := by decide +kernel
theorem dX8_ofWagon_24 : decode cX8_ofWagon 24 = .ok (.bipush 9, 2) := by decide +kernel
theorem dX8_ofWagon_26 : decode cX8_ofWagon 26 = .ok (.iaload, 1) := by decide +kernel
theorem dX8_ofWagon_27 : decode cX8_ofWagon 27 = .ok (.iload_n 1, 1) := by decide +kernel
theorem dX8_ofWagon_28 : decode cX8_ofWagon 28 = .ok (.invokevirtual 142, 3) := by decide +kernel
theorem dX8_ofWagon_31 : decode cX8_ofWagon 31 = .ok (.istore 4, 2) := by decide +kernel
theorem dX8_ofWagon_33 : decode cX8_ofWagon 33 = .ok (.iload_n 3, 1) := by decide +kernel
theorem dX8_ofWagon_34 : decode cX8_ofWagon 34 = .ok (.ifCond .ge 8, 3) := by decide +kernel
theorem dX8_ofWagon_37 : decode cX8_ofWagon 37 = .ok (.bipush (-6), 2) := by decide +kernel
theorem dX8_ofWagon_39 : decode cX8_ofWagon 39 = .ok (.goto 20, 3) := by decide +kernel
theorem dX8_ofWagon_42 : decode cX8_ofWagon 42 = .ok (.aload_n 0, 1) := by decide +kernel
theorem dX8_ofWagon_43 : decode cX8_ofWagon 43 = .ok (.bipush 60, 2) := by decide +kernel
theorem dX8_ofWagon_45 : decode cX8_ofWagon 45 = .ok (.bipush 30, 2) := by decide +kernel
theorem dX8_ofWagon_47 : decode cX8_ofWagon 47 = .ok (.iload_n 3, 1) := by decide +kernel
theorem dX8_ofWagon_48 : decode cX8_ofWagon 48 = .ok (.imul, 1) := by decide +kernel
theorem dX8_ofWagon_49 : decode cX8_ofWagon 49 = .ok (.iadd, 1) := by decide +kernel
theorem dX8_ofWagon_50 : decode cX8_ofWagon 50 = .ok (.aload_n 0, 1) := by decide +kernel
theorem dX8_ofWagon_51 : decode cX8_ofWagon 51 = .ok (.iload_n 3, 1) := by decide +kernel
theorem dX8_ofWagon_52 : decode cX8_ofWagon 52 = .ok (.invokevirtual 72, 3) := by decide +kernel
theorem dX8_ofWagon_55 : decode cX8_ofWagon 55 = .ok (.iload_n 1, 1) := by decide +kernel
theorem dX8_ofWagon_56 : decode cX8_ofWagon 56 = .ok (.invokevirtual 142, 3) := by decide +kernel
theorem dX8_ofWagon_59 : decode cX8_ofWagon 59 = .ok (.istore 5, 2) := by decide +kernel
theorem dX8_ofWagon_61 : decode cX8_ofWagon 61 = .ok (.iload_n 2, 1) := by decide +kernel
theorem dX8_ofWagon_62 : decode cX8_ofWagon 62 = .ok (.tableswitch 109 0 6 #[42, 48, 50, 62, 73, 88, 103], 42) := by decide +kernel
theorem dX8_ofWagon_104 : decode cX8_ofWagon 104 = .ok (.aload_n 0, 1) := by decide +kernel
theorem dX8_ofWagon_105 : decode cX8_ofWagon 105 = .ok (.iload_n 1, 1) := by decide +kernel
theorem dX8_ofWagon_106 : decode cX8_ofWagon 106 = .ok (.invokevirtual 69, 3) := by decide +kernel
theorem dX8_ofWagon_109 : decode cX8_ofWagon 109 = .ok (.ireturn, 1) := by decide +kernel
theorem dX8_ofWagon_110 : decode cX8_ofWagon 110 = .ok (.iload_n 3, 1) := by decide +kernel
theorem dX8_ofWagon_111 : decode cX8_ofWagon 111 = .ok (.ireturn, 1) := by decide +kernel
theorem dX8_ofWagon_112 : decode cX8_ofWagon 112 = .ok (.iload_n 3, 1) := by decide +kernel
theorem dX8_ofWagon_113 : decode cX8_ofWagon 113 = .ok (.ifCond .ge 8, 3) := by decide +kernel
theorem dX8_ofWagon_116 : decode cX8_ofWagon 116 = .ok (.iload 4, 2) := by decide +kernel
theorem dX8_ofWagon_118 : decode cX8_ofWagon 118 = .ok (.goto 5, 3) := by decide +kernel
theorem dX8_ofWagon_121 : decode cX8_ofWagon 121 = .ok (.iload 5, 2) := by decide +kernel
theorem dX8_ofWagon_123 : decode cX8_ofWagon 123 = .ok (.ireturn, 1) := by decide +kernel
theorem dX8_ofWagon_124 : decode cX8_ofWagon 124 = .ok (.iload 4, 2) := by decide +kernel
theorem dX8_ofWagon_126 : decode cX8_ofWagon 126 = .ok (.ifCond .lt 7, 3) := by decide +kernel
theorem dX8_ofWagon_129 : decode cX8_ofWagon 129 = .ok (.iconst 1, 1) := by decide +kernel
theorem dX8_ofWagon_130 : decode cX8_ofWagon 130 = .ok (.goto 4, 3) := by decide +kernel
theorem dX8_ofWagon_133 : decode cX8_ofWagon 133 = .ok (.iconst 0, 1) := by decide +kernel
theorem dX8_ofWagon_134 : decode cX8_ofWagon 134 = .ok (.ireturn, 1) := by decide +kernel
theorem dX8_ofWagon_135 : decode cX8_ofWagon 135 = .ok (.aload_n 0, 1) := by decide +kernel
theorem dX8_ofWagon_136 : decode cX8_ofWagon 136 = .ok (.getfield 7, 3) := by decide +kernel
theorem dX8_ofWagon_139 : decode cX8_ofWagon 139 = .ok (.sipush 330, 3) := by decide +kernel
theorem dX8_ofWagon_142 : decode cX8_ofWagon 142 = .ok (.iconst 4, 1) := by decide +kernel
theorem dX8_ofWagon_143 : decode cX8_ofWagon 143 = .ok (.iload_n 1, 1) := by decide +kernel
theorem dX8_ofWagon_144 : decode cX8_ofWagon 144 = .ok (.imul, 1) := by decide +kernel
theorem dX8_ofWagon_145 : decode cX8_ofWagon 145 = .ok (.iadd, 1) := by decide +kernel
theorem dX8_ofWagon_146 : decode cX8_ofWagon 146 = .ok (.iconst 1, 1) := by decide +kernel
theorem dX8_ofWagon_147 : decode cX8_ofWagon 147 = .ok (.iadd, 1) := by decide +kernel
theorem dX8_ofWagon_148 : decode cX8_ofWagon 148 = .ok (.iaload, 1) := by decide +kernel
theorem dX8_ofWagon_149 : decode cX8_ofWagon 149 = .ok (.ireturn, 1) := by decide +kernel
theorem dX8_ofWagon_150 : decode cX8_ofWagon 150 = .ok (.aload_n 0, 1) := by decide +kernel
theorem dX8_ofWagon_151 : decode cX8_ofWagon 151 = .ok (.getfield 7, 3) := by decide +kernel
theorem dX8_ofWagon_154 : decode cX8_ofWagon 154 = .ok (.sipush 330, 3) := by decide +kernel
theorem dX8_ofWagon_157 : decode cX8_ofWagon 157 = .ok (.iconst 4, 1) := by decide +kernel
theorem dX8_ofWagon_158 : decode cX8_ofWagon 158 = .ok (.iload_n 1, 1) := by decide +kernel
theorem dX8_ofWagon_159 : decode cX8_ofWagon 159 = .ok (.imul, 1) := by decide +kernel
theorem dX8_ofWagon_160 : decode cX8_ofWagon 160 = .ok (.iadd, 1) := by decide +kernel
theorem dX8_ofWagon_161 : decode cX8_ofWagon 161 = .ok (.iconst 2, 1) := by decide +kernel
theorem dX8_ofWagon_162 : decode cX8_ofWagon 162 = .ok (.iadd, 1) := by decide +kernel
theorem dX8_ofWagon_163 : decode cX8_ofWagon 163 = .ok (.iaload, 1) := by decide +kernel
theorem dX8_ofWagon_164 : decode cX8_ofWagon 164 = .ok (.ireturn, 1) := by decide +kernel
theorem dX8_ofWagon_165 : decode cX8_ofWagon 165 = .ok (.aload_n 0, 1) := by decide +kernel
theorem dX8_ofWagon_166 : decode cX8_ofWagon 166 = .ok (.iload_n 1, 1) := by decide +kernel
theorem dX8_ofWagon_167 : decode cX8_ofWagon 167 = .ok (.invokevirtual 130, 3) := by decide +kernel
theorem dX8_ofWagon_170 : decode cX8_ofWagon 170 = .ok (.ireturn, 1) := by decide +kernel
theorem dX8_ofWagon_171 : decode cX8_ofWagon 171 = .ok (.iload_n 2, 1) := by decide +kernel
theorem dX8_ofWagon_172 : decode cX8_ofWagon 172 = .ok (.bipush 7, 2) := by decide +kernel
theorem dX8_ofWagon_174 : decode cX8_ofWagon 174 = .ok (.if_icmp .ne 8, 3) := by decide +kernel
theorem dX8_ofWagon_177 : decode cX8_ofWagon 177 = .ok (.iload 5, 2) := by decide +kernel
theorem dX8_ofWagon_179 : decode cX8_ofWagon 179 = .ok (.goto 5, 3) := by decide +kernel
theorem dX8_ofWagon_182 : decode cX8_ofWagon 182 = .ok (.bipush (-2), 2) := by decide +kernel
theorem dX8_ofWagon_184 : decode cX8_ofWagon 184 = .ok (.ireturn, 1) := by decide +kernel
theorem dX8_ofTrain_0 : decode cX8_ofTrain 0 = .ok (.aload_n 0, 1) := by decide +kernel
theorem dX8_ofTrain_1 : decode cX8_ofTrain 1 = .ok (.iload_n 1, 1) := by decide +kernel
theorem dX8_ofTrain_2 : decode cX8_ofTrain 2 = .ok (.invokevirtual 133, 3) := by decide +kernel
theorem dX8_ofTrain_5 : decode cX8_ofTrain 5 = .ok (.ifCond .ne 5, 3) := by decide +kernel
theorem dX8_ofTrain_8 : decode cX8_ofTrain 8 = .ok (.iconst (-1), 1) := by decide +kernel
theorem dX8_ofTrain_9 : decode cX8_ofTrain 9 = .ok (.ireturn, 1) := by decide +kernel
theorem dX8_ofTrain_10 : decode cX8_ofTrain 10 = .ok (.sipush 450, 3) := by decide +kernel
theorem dX8_ofTrain_13 : decode cX8_ofTrain 13 = .ok (.bipush 10, 2) := by decide +kernel
theorem dX8_ofTrain_15 : decode cX8_ofTrain 15 = .ok (.iload_n 1, 1) := by decide +kernel
theorem dX8_ofTrain_16 : decode cX8_ofTrain 16 = .ok (.imul, 1) := by decide +kernel
theorem dX8_ofTrain_17 : decode cX8_ofTrain 17 = .ok (.iadd, 1) := by decide +kernel
theorem dX8_ofTrain_18 : decode cX8_ofTrain 18 = .ok (.istore_n 3, 1) := by decide +kernel
theorem dX8_ofTrain_19 : decode cX8_ofTrain 19 = .ok (.iload_n 2, 1) := by decide +kernel
theorem dX8_ofTrain_20 : decode cX8_ofTrain 20 = .ok (.iconst 2, 1) := by decide +kernel
theorem dX8_ofTrain_21 : decode cX8_ofTrain 21 = .ok (.bipush 9, 2) := by decide +kernel
theorem dX8_ofTrain_23 : decode cX8_ofTrain 23 = .ok (.invokestatic 55, 3) := by decide +kernel
theorem dX8_ofTrain_26 : decode cX8_ofTrain 26 = .ok (.ifCond .eq 31, 3) := by decide +kernel
theorem dX8_ofTrain_29 : decode cX8_ofTrain 29 = .ok (.iload_n 2, 1) := by decide +kernel
theorem dX8_ofTrain_30 : decode cX8_ofTrain 30 = .ok (.iconst 2, 1) := by decide +kernel
theorem dX8_ofTrain_31 : decode cX8_ofTrain 31 = .ok (.isub, 1) := by decide +kernel
theorem dX8_ofTrain_32 : decode cX8_ofTrain 32 = .ok (.aload_n 0, 1) := by decide +kernel
theorem dX8_ofTrain_33 : decode cX8_ofTrain 33 = .ok (.getfield 7, 3) := by decide +kernel
theorem dX8_ofTrain_36 : decode cX8_ofTrain 36 = .ok (.iload_n 3, 1) := by decide +kernel
theorem dX8_ofTrain_37 : decode cX8_ofTrain 37 = .ok (.iconst 1, 1) := by decide +kernel
theorem dX8_ofTrain_38 : decode cX8_ofTrain 38 = .ok (.iadd, 1) := by decide +kernel
theorem dX8_ofTrain_39 : decode cX8_ofTrain 39 = .ok (.iaload, 1) := by decide +kernel
theorem dX8_ofTrain_40 : decode cX8_ofTrain 40 = .ok (.if_icmp .ge 14, 3) := by decide +kernel
theorem dX8_ofTrain_43 : decode cX8_ofTrain 43 = .ok (.aload_n 0, 1) := by decide +kernel
theorem dX8_ofTrain_44 : decode cX8_ofTrain 44 = .ok (.getfield 7, 3) := by decide +kernel
theorem dX8_ofTrain_47 : decode cX8_ofTrain 47 = .ok (.iload_n 3, 1) := by decide +kernel
theorem dX8_ofTrain_48 : decode cX8_ofTrain 48 = .ok (.iload_n 2, 1) := by decide +kernel
theorem dX8_ofTrain_49 : decode cX8_ofTrain 49 = .ok (.iadd, 1) := by decide +kernel
theorem dX8_ofTrain_50 : decode cX8_ofTrain 50 = .ok (.iaload, 1) := by decide +kernel
theorem dX8_ofTrain_51 : decode cX8_ofTrain 51 = .ok (.goto 5, 3) := by decide +kernel
theorem dX8_ofTrain_54 : decode cX8_ofTrain 54 = .ok (.bipush (-6), 2) := by decide +kernel
theorem dX8_ofTrain_56 : decode cX8_ofTrain 56 = .ok (.ireturn, 1) := by decide +kernel
theorem dX8_ofTrain_57 : decode cX8_ofTrain 57 = .ok (.iload_n 2, 1) := by decide +kernel
theorem dX8_ofTrain_58 : decode cX8_ofTrain 58 = .ok (.ifCond .ne 14, 3) := by decide +kernel
theorem dX8_ofTrain_61 : decode cX8_ofTrain 61 = .ok (.aload_n 0, 1) := by decide +kernel
theorem dX8_ofTrain_62 : decode cX8_ofTrain 62 = .ok (.getfield 7, 3) := by decide +kernel
theorem dX8_ofTrain_65 : decode cX8_ofTrain 65 = .ok (.iload_n 3, 1) := by decide +kernel
theorem dX8_ofTrain_66 : decode cX8_ofTrain 66 = .ok (.iconst 1, 1) := by decide +kernel
theorem dX8_ofTrain_67 : decode cX8_ofTrain 67 = .ok (.iadd, 1) := by decide +kernel
theorem dX8_ofTrain_68 : decode cX8_ofTrain 68 = .ok (.iaload, 1) := by decide +kernel
theorem dX8_ofTrain_69 : decode cX8_ofTrain 69 = .ok (.goto 43, 3) := by decide +kernel
theorem dX8_ofTrain_72 : decode cX8_ofTrain 72 = .ok (.iload_n 2, 1) := by decide +kernel
theorem dX8_ofTrain_73 : decode cX8_ofTrain 73 = .ok (.iconst 1, 1) := by decide +kernel
theorem dX8_ofTrain_74 : decode cX8_ofTrain 74 = .ok (.if_icmp .ne 12, 3) := by decide +kernel
theorem dX8_ofTrain_77 : decode cX8_ofTrain 77 = .ok (.aload_n 0, 1) := by decide +kernel
theorem dX8_ofTrain_78 : decode cX8_ofTrain 78 = .ok (.getfield 7, 3) := by decide +kernel
theorem dX8_ofTrain_81 : decode cX8_ofTrain 81 = .ok (.iload_n 3, 1) := by decide +kernel
theorem dX8_ofTrain_82 : decode cX8_ofTrain 82 = .ok (.iaload, 1) := by decide +kernel
theorem dX8_ofTrain_83 : decode cX8_ofTrain 83 = .ok (.goto 29, 3) := by decide +kernel
theorem dX8_ofTrain_86 : decode cX8_ofTrain 86 = .ok (.iload_n 2, 1) := by decide +kernel
theorem dX8_ofTrain_87 : decode cX8_ofTrain 87 = .ok (.bipush 10, 2) := by decide +kernel
theorem dX8_ofTrain_89 : decode cX8_ofTrain 89 = .ok (.if_icmp .ne 21, 3) := by decide +kernel
theorem dX8_ofTrain_92 : decode cX8_ofTrain 92 = .ok (.aload_n 0, 1) := by decide +kernel
theorem dX8_ofTrain_93 : decode cX8_ofTrain 93 = .ok (.iload_n 3, 1) := by decide +kernel
theorem dX8_ofTrain_94 : decode cX8_ofTrain 94 = .ok (.iconst 2, 1) := by decide +kernel
theorem dX8_ofTrain_95 : decode cX8_ofTrain 95 = .ok (.iadd, 1) := by decide +kernel
theorem dX8_ofTrain_96 : decode cX8_ofTrain 96 = .ok (.aload_n 0, 1) := by decide +kernel
theorem dX8_ofTrain_97 : decode cX8_ofTrain 97 = .ok (.getfield 7, 3) := by decide +kernel
theorem dX8_ofTrain_100 : decode cX8_ofTrain 100 = .ok (.iload_n 3, 1) := by decide +kernel
theorem dX8_ofTrain_101 : decode cX8_ofTrain 101 = .ok (.iconst 1, 1) := by decide +kernel
theorem dX8_ofTrain_102 : decode cX8_ofTrain 102 = .ok (.iadd, 1) := by decide +kernel
theorem dX8_ofTrain_103 : decode cX8_ofTrain 103 = .ok (.iaload, 1) := by decide +kernel
theorem dX8_ofTrain_104 : decode cX8_ofTrain 104 = .ok (.invokevirtual 75, 3) := by decide +kernel
theorem dX8_ofTrain_107 : decode cX8_ofTrain 107 = .ok (.goto 5, 3) := by decide +kernel
theorem dX8_ofTrain_110 : decode cX8_ofTrain 110 = .ok (.bipush (-2), 2) := by decide +kernel
theorem dX8_ofTrain_112 : decode cX8_ofTrain 112 = .ok (.ireturn, 1) := by decide +kernel
theorem dX8_count_0 : decode cX8_count 0 = .ok (.iload_n 1, 1) := by decide +kernel
theorem dX8_count_1 : decode cX8_count 1 = .ok (.bipush 15, 2) := by decide +kernel
theorem dX8_count_3 : decode cX8_count 3 = .ok (.bipush 20, 2) := by decide +kernel
theorem dX8_count_5 : decode cX8_count 5 = .ok (.invokestatic 55, 3) := by decide +kernel
theorem dX8_count_8 : decode cX8_count 8 = .ok (.ifCond .eq 13, 3) := by decide +kernel
theorem dX8_count_11 : decode cX8_count 11 = .ok (.aload_n 0, 1) := by decide +kernel
theorem dX8_count_12 : decode cX8_count 12 = .ok (.getfield 7, 3) := by decide +kernel
theorem dX8_count_15 : decode cX8_count 15 = .ok (.iload_n 1, 1) := by decide +kernel
theorem dX8_count_16 : decode cX8_count 16 = .ok (.bipush 15, 2) := by decide +kernel
theorem dX8_count_18 : decode cX8_count 18 = .ok (.isub, 1) := by decide +kernel
theorem dX8_count_19 : decode cX8_count 19 = .ok (.iaload, 1) := by decide +kernel
theorem dX8_count_20 : decode cX8_count 20 = .ok (.ireturn, 1) := by decide +kernel
theorem dX8_count_21 : decode cX8_count 21 = .ok (.iload_n 1, 1) := by decide +kernel
theorem dX8_count_22 : decode cX8_count 22 = .ok (.tableswitch 157 0 13 #[70, 78, 86, 94, 102, 107, 115, 123, 131, 139, 139, 139, 139, 152], 70) := by decide +kernel
theorem dX8_count_92 : decode cX8_count 92 = .ok (.aload_n 0, 1) := by decide +kernel
theorem dX8_count_93 : decode cX8_count 93 = .ok (.getfield 7, 3) := by decide +kernel
theorem dX8_count_96 : decode cX8_count 96 = .ok (.bipush 6, 2) := by decide +kernel
theorem dX8_count_98 : decode cX8_count 98 = .ok (.iaload, 1) := by decide +kernel
theorem dX8_count_99 : decode cX8_count 99 = .ok (.ireturn, 1) := by decide +kernel
theorem dX8_count_100 : decode cX8_count 100 = .ok (.aload_n 0, 1) := by decide +kernel
theorem dX8_count_101 : decode cX8_count 101 = .ok (.getfield 7, 3) := by decide +kernel
theorem dX8_count_104 : decode cX8_count 104 = .ok (.bipush 7, 2) := by decide +kernel
theorem dX8_count_106 : decode cX8_count 106 = .ok (.iaload, 1) := by decide +kernel
theorem dX8_count_107 : decode cX8_count 107 = .ok (.ireturn, 1) := by decide +kernel
theorem dX8_count_108 : decode cX8_count 108 = .ok (.aload_n 0, 1) := by decide +kernel
theorem dX8_count_109 : decode cX8_count 109 = .ok (.getfield 7, 3) := by decide +kernel
theorem dX8_count_112 : decode cX8_count 112 = .ok (.bipush 8, 2) := by decide +kernel
theorem dX8_count_114 : decode cX8_count 114 = .ok (.iaload, 1) := by decide +kernel
theorem dX8_count_115 : decode cX8_count 115 = .ok (.ireturn, 1) := by decide +kernel
theorem dX8_count_116 : decode cX8_count 116 = .ok (.aload_n 0, 1) := by decide +kernel
theorem dX8_count_117 : decode cX8_count 117 = .ok (.getfield 7, 3) := by decide +kernel
theorem dX8_count_120 : decode cX8_count 120 = .ok (.bipush 9, 2) := by decide +kernel
theorem dX8_count_122 : decode cX8_count 122 = .ok (.iaload, 1) := by decide +kernel
theorem dX8_count_123 : decode cX8_count 123 = .ok (.ireturn, 1) := by decide +kernel
theorem dX8_count_124 : decode cX8_count 124 = .ok (.aload_n 0, 1) := by decide +kernel
theorem dX8_count_125 : decode cX8_count 125 = .ok (.invokevirtual 93, 3) := by decide +kernel
theorem dX8_count_128 : decode cX8_count 128 = .ok (.ireturn, 1) := by decide +kernel
theorem dX8_count_129 : decode cX8_count 129 = .ok (.aload_n 0, 1) := by decide +kernel
theorem dX8_count_130 : decode cX8_count 130 = .ok (.getfield 7, 3) := by decide +kernel
theorem dX8_count_133 : decode cX8_count 133 = .ok (.bipush 10, 2) := by decide +kernel
theorem dX8_count_135 : decode cX8_count 135 = .ok (.iaload, 1) := by decide +kernel
theorem dX8_count_136 : decode cX8_count 136 = .ok (.ireturn, 1) := by decide +kernel
theorem dX8_count_137 : decode cX8_count 137 = .ok (.aload_n 0, 1) := by decide +kernel
theorem dX8_count_138 : decode cX8_count 138 = .ok (.getfield 7, 3) := by decide +kernel
theorem dX8_count_141 : decode cX8_count 141 = .ok (.bipush 11, 2) := by decide +kernel
theorem dX8_count_143 : decode cX8_count 143 = .ok (.iaload, 1) := by decide +kernel
theorem dX8_count_144 : decode cX8_count 144 = .ok (.ireturn, 1) := by decide +kernel
theorem dX8_count_145 : decode cX8_count 145 = .ok (.aload_n 0, 1) := by decide +kernel
theorem dX8_count_146 : decode cX8_count 146 = .ok (.getfield 7, 3) := by decide +kernel
theorem dX8_count_149 : decode cX8_count 149 = .ok (.bipush 12, 2) := by decide +kernel
theorem dX8_count_151 : decode cX8_count 151 = .ok (.iaload, 1) := by decide +kernel
theorem dX8_count_152 : decode cX8_count 152 = .ok (.ireturn, 1) := by decide +kernel
theorem dX8_count_153 : decode cX8_count 153 = .ok (.aload_n 0, 1) := by decide +kernel
theorem dX8_count_154 : decode cX8_count 154 = .ok (.getfield 7, 3) := by decide +kernel
theorem dX8_count_157 : decode cX8_count 157 = .ok (.bipush 13, 2) := by decide +kernel
theorem dX8_count_159 : decode cX8_count 159 = .ok (.iaload, 1) := by decide +kernel
theorem dX8_count_160 : decode cX8_count 160 = .ok (.ireturn, 1) := by decide +kernel
theorem dX8_count_161 : decode cX8_count 161 = .ok (.aload_n 0, 1) := by decide +kernel
theorem dX8_count_162 : decode cX8_count 162 = .ok (.getfield 7, 3) := by decide +kernel
theorem dX8_count_165 : decode cX8_count 165 = .ok (.bipush 14, 2) := by decide +kernel
theorem dX8_count_167 : decode cX8_count 167 = .ok (.iload_n 1, 1) := by decide +kernel
theorem dX8_count_168 : decode cX8_count 168 = .ok (.iadd, 1) := by decide +kernel
theorem dX8_count_169 : decode cX8_count 169 = .ok (.bipush 9, 2) := by decide +kernel
theorem dX8_count_171 : decode cX8_count 171 = .ok (.isub, 1) := by decide +kernel
theorem dX8_count_172 : decode cX8_count 172 = .ok (.iaload, 1) := by decide +kernel
theorem dX8_count_173 : decode cX8_count 173 = .ok (.ireturn, 1) := by decide +kernel
theorem dX8_count_174 : decode cX8_count 174 = .ok (.aload_n 0, 1) := by decide +kernel
theorem dX8_count_175 : decode cX8_count 175 = .ok (.getfield 149, 3) := by decide +kernel
theorem dX8_count_178 : decode cX8_count 178 = .ok (.ireturn, 1) := by decide +kernel
theorem dX8_count_179 : decode cX8_count 179 = .ok (.iload_n 1, 1) := by decide +kernel
theorem dX8_count_180 : decode cX8_count 180 = .ok (.bipush 14, 2) := by decide +kernel
theorem dX8_count_182 : decode cX8_count 182 = .ok (.if_icmp .ne 10, 3) := by decide +kernel
theorem dX8_count_185 : decode cX8_count 185 = .ok (.aload_n 0, 1) := by decide +kernel
theorem dX8_count_186 : decode cX8_count 186 = .ok (.getfield 51, 3) := by decide +kernel
theorem dX8_count_189 : decode cX8_count 189 = .ok (.goto 5, 3) := by decide +kernel
theorem dX8_count_192 : decode cX8_count 192 = .ok (.bipush (-2), 2) := by decide +kernel
theorem dX8_count_194 : decode cX8_count 194 = .ok (.ireturn, 1) := by decide +kernel
theorem dX8_freeFrom_0 : decode cX8_freeFrom 0 = .ok (.iload_n 1, 1) := by decide +kernel
theorem dX8_freeFrom_1 : decode cX8_freeFrom 1 = .ok (.iconst 1, 1) := by decide +kernel
theorem dX8_freeFrom_2 : decode cX8_freeFrom 2 = .ok (.sipush 500, 3) := by decide +kernel
theorem dX8_freeFrom_5 : decode cX8_freeFrom 5 = .ok (.invokestatic 55, 3) := by decide +kernel
theorem dX8_freeFrom_8 : decode cX8_freeFrom 8 = .ok (.ifCond .eq 18, 3) := by decide +kernel
theorem dX8_freeFrom_11 : decode cX8_freeFrom 11 = .ok (.aload_n 0, 1) := by decide +kernel
theorem dX8_freeFrom_12 : decode cX8_freeFrom 12 = .ok (.aload_n 0, 1) := by decide +kernel
theorem dX8_freeFrom_13 : decode cX8_freeFrom 13 = .ok (.getfield 7, 3) := by decide +kernel
theorem dX8_freeFrom_16 : decode cX8_freeFrom 16 = .ok (.bipush 6, 2) := by decide +kernel
theorem dX8_freeFrom_18 : decode cX8_freeFrom 18 = .ok (.iaload, 1) := by decide +kernel
theorem dX8_freeFrom_19 : decode cX8_freeFrom 19 = .ok (.iload_n 1, 1) := by decide +kernel
theorem dX8_freeFrom_20 : decode cX8_freeFrom 20 = .ok (.invokevirtual 86, 3) := by decide +kernel
theorem dX8_freeFrom_23 : decode cX8_freeFrom 23 = .ok (.goto 5, 3) := by decide +kernel
theorem dX8_freeFrom_26 : decode cX8_freeFrom 26 = .ok (.bipush (-2), 2) := by decide +kernel
theorem dX8_freeFrom_28 : decode cX8_freeFrom 28 = .ok (.ireturn, 1) := by decide +kernel
theorem dX8_layPulls_0 : decode cX8_layPulls 0 = .ok (.sipush 450, 3) := by decide +kernel
theorem dX8_layPulls_3 : decode cX8_layPulls 3 = .ok (.bipush 10, 2) := by decide +kernel
theorem dX8_layPulls_5 : decode cX8_layPulls 5 = .ok (.iload_n 1, 1) := by decide +kernel
theorem dX8_layPulls_6 : decode cX8_layPulls 6 = .ok (.imul, 1) := by decide +kernel
theorem dX8_layPulls_7 : decode cX8_layPulls 7 = .ok (.iadd, 1) := by decide +kernel
theorem dX8_layPulls_8 : decode cX8_layPulls 8 = .ok (.istore_n 2, 1) := by decide +kernel
theorem dX8_layPulls_9 : decode cX8_layPulls 9 = .ok (.aload_n 0, 1) := by decide +kernel
theorem dX8_layPulls_10 : decode cX8_layPulls 10 = .ok (.iconst 0, 1) := by decide +kernel
theorem dX8_layPulls_11 : decode cX8_layPulls 11 = .ok (.putfield 152, 3) := by decide +kernel
theorem dX8_layPulls_14 : decode cX8_layPulls 14 = .ok (.iconst 0, 1) := by decide +kernel
theorem dX8_layPulls_15 : decode cX8_layPulls 15 = .ok (.istore_n 3, 1) := by decide +kernel
theorem dX8_layPulls_16 : decode cX8_layPulls 16 = .ok (.iload_n 3, 1) := by decide +kernel
theorem dX8_layPulls_17 : decode cX8_layPulls 17 = .ok (.bipush 8, 2) := by decide +kernel
theorem dX8_layPulls_19 : decode cX8_layPulls 19 = .ok (.if_icmp .ge 16, 3) := by decide +kernel
theorem dX8_layPulls_22 : decode cX8_layPulls 22 = .ok (.aload_n 0, 1) := by decide +kernel
theorem dX8_layPulls_23 : decode cX8_layPulls 23 = .ok (.getfield 35, 3) := by decide +kernel
theorem dX8_layPulls_26 : decode cX8_layPulls 26 = .ok (.iload_n 3, 1) := by decide +kernel
theorem dX8_layPulls_27 : decode cX8_layPulls 27 = .ok (.iconst 0, 1) := by decide +kernel
theorem dX8_layPulls_28 : decode cX8_layPulls 28 = .ok (.iastore, 1) := by decide +kernel
theorem dX8_layPulls_29 : decode cX8_layPulls 29 = .ok (.iinc 3 1, 3) := by decide +kernel
theorem dX8_layPulls_32 : decode cX8_layPulls 32 = .ok (.goto (-16), 3) := by decide +kernel
theorem dX8_layPulls_35 : decode cX8_layPulls 35 = .ok (.aload_n 0, 1) := by decide +kernel
theorem dX8_layPulls_36 : decode cX8_layPulls 36 = .ok (.getfield 7, 3) := by decide +kernel
theorem dX8_layPulls_39 : decode cX8_layPulls 39 = .ok (.bipush 9, 2) := by decide +kernel
theorem dX8_layPulls_41 : decode cX8_layPulls 41 = .ok (.iaload, 1) := by decide +kernel
theorem dX8_layPulls_42 : decode cX8_layPulls 42 = .ok (.aload_n 0, 1) := by decide +kernel
theorem dX8_layPulls_43 : decode cX8_layPulls 43 = .ok (.getfield 7, 3) := by decide +kernel
theorem dX8_layPulls_46 : decode cX8_layPulls 46 = .ok (.iload_n 2, 1) := by decide +kernel
theorem dX8_layPulls_47 : decode cX8_layPulls 47 = .ok (.iconst 1, 1) := by decide +kernel
theorem dX8_layPulls_48 : decode cX8_layPulls 48 = .ok (.iadd, 1) := by decide +kernel
theorem dX8_layPulls_49 : decode cX8_layPulls 49 = .ok (.iaload, 1) := by decide +kernel
theorem dX8_layPulls_50 : decode cX8_layPulls 50 = .ok (.if_icmp .le 5, 3) := by decide +kernel
theorem dX8_layPulls_53 : decode cX8_layPulls 53 = .ok (.iconst 0, 1) := by decide +kernel
theorem dX8_layPulls_54 : decode cX8_layPulls 54 = .ok (.ireturn, 1) := by decide +kernel
theorem dX8_layPulls_55 : decode cX8_layPulls 55 = .ok (.iconst 0, 1) := by decide +kernel
theorem dX8_layPulls_56 : decode cX8_layPulls 56 = .ok (.istore_n 3, 1) := by decide +kernel
theorem dX8_layPulls_57 : decode cX8_layPulls 57 = .ok (.iload_n 3, 1) := by decide +kernel
theorem dX8_layPulls_58 : decode cX8_layPulls 58 = .ok (.aload_n 0, 1) := by decide +kernel
theorem dX8_layPulls_59 : decode cX8_layPulls 59 = .ok (.getfield 7, 3) := by decide +kernel
theorem dX8_layPulls_62 : decode cX8_layPulls 62 = .ok (.iload_n 2, 1) := by decide +kernel
theorem dX8_layPulls_63 : decode cX8_layPulls 63 = .ok (.iconst 1, 1) := by decide +kernel
theorem dX8_layPulls_64 : decode cX8_layPulls 64 = .ok (.iadd, 1) := by decide +kernel
theorem dX8_layPulls_65 : decode cX8_layPulls 65 = .ok (.iaload, 1) := by decide +kernel
theorem dX8_layPulls_66 : decode cX8_layPulls 66 = .ok (.if_icmp .ge 173, 3) := by decide +kernel
theorem dX8_layPulls_69 : decode cX8_layPulls 69 = .ok (.aload_n 0, 1) := by decide +kernel
theorem dX8_layPulls_70 : decode cX8_layPulls 70 = .ok (.getfield 7, 3) := by decide +kernel
theorem dX8_layPulls_73 : decode cX8_layPulls 73 = .ok (.iload_n 2, 1) := by decide +kernel
theorem dX8_layPulls_74 : decode cX8_layPulls 74 = .ok (.iconst 2, 1) := by decide +kernel
theorem dX8_layPulls_75 : decode cX8_layPulls 75 = .ok (.iadd, 1) := by decide +kernel
theorem dX8_layPulls_76 : decode cX8_layPulls 76 = .ok (.iload_n 3, 1) := by decide +kernel
theorem dX8_layPulls_77 : decode cX8_layPulls 77 = .ok (.iadd, 1) := by decide +kernel
theorem dX8_layPulls_78 : decode cX8_layPulls 78 = .ok (.iaload, 1) := by decide +kernel
theorem dX8_layPulls_79 : decode cX8_layPulls 79 = .ok (.istore 4, 2) := by decide +kernel
theorem dX8_layPulls_81 : decode cX8_layPulls 81 = .ok (.iload_n 3, 1) := by decide +kernel
theorem dX8_layPulls_82 : decode cX8_layPulls 82 = .ok (.aload_n 0, 1) := by decide +kernel
theorem dX8_layPulls_83 : decode cX8_layPulls 83 = .ok (.getfield 7, 3) := by decide +kernel
theorem dX8_layPulls_86 : decode cX8_layPulls 86 = .ok (.bipush 9, 2) := by decide +kernel
theorem dX8_layPulls_88 : decode cX8_layPulls 88 = .ok (.iaload, 1) := by decide +kernel
theorem dX8_layPulls_89 : decode cX8_layPulls 89 = .ok (.if_icmp .ge 20, 3) := by decide +kernel
theorem dX8_layPulls_92 : decode cX8_layPulls 92 = .ok (.aload_n 0, 1) := by decide +kernel
theorem dX8_layPulls_93 : decode cX8_layPulls 93 = .ok (.getfield 7, 3) := by decide +kernel
theorem dX8_layPulls_96 : decode cX8_layPulls 96 = .ok (.sipush 300, 3) := by decide +kernel
theorem dX8_layPulls_99 : decode cX8_layPulls 99 = .ok (.iload_n 3, 1) := by decide +kernel
theorem dX8_layPulls_100 : decode cX8_layPulls 100 = .ok (.iadd, 1) := by decide +kernel
theorem dX8_layPulls_101 : decode cX8_layPulls 101 = .ok (.iaload, 1) := by decide +kernel
theorem dX8_layPulls_102 : decode cX8_layPulls 102 = .ok (.iload 4, 2) := by decide +kernel
theorem dX8_layPulls_104 : decode cX8_layPulls 104 = .ok (.if_icmp .eq 129, 3) := by decide +kernel
theorem dX8_layPulls_107 : decode cX8_layPulls 107 = .ok (.iconst 0, 1) := by decide +kernel
theorem dX8_layPulls_108 : decode cX8_layPulls 108 = .ok (.ireturn, 1) := by decide +kernel
theorem dX8_layPulls_109 : decode cX8_layPulls 109 = .ok (.aload_n 0, 1) := by decide +kernel
theorem dX8_layPulls_110 : decode cX8_layPulls 110 = .ok (.iload 4, 2) := by decide +kernel
theorem dX8_layPulls_112 : decode cX8_layPulls 112 = .ok (.invokevirtual 146, 3) := by decide +kernel
theorem dX8_layPulls_115 : decode cX8_layPulls 115 = .ok (.istore 5, 2) := by decide +kernel
theorem dX8_layPulls_117 : decode cX8_layPulls 117 = .ok (.iload 5, 2) := by decide +kernel
theorem dX8_layPulls_119 : decode cX8_layPulls 119 = .ok (.ifCond .lt 29, 3) := by decide +kernel
theorem dX8_layPulls_122 : decode cX8_layPulls 122 = .ok (.aload_n 0, 1) := by decide +kernel
theorem dX8_layPulls_123 : decode cX8_layPulls 123 = .ok (.getfield 7, 3) := by decide +kernel
theorem dX8_layPulls_126 : decode cX8_layPulls 126 = .ok (.bipush 60, 2) := by decide +kernel
theorem dX8_layPulls_128 : decode cX8_layPulls 128 = .ok (.bipush 30, 2) := by decide +kernel
theorem dX8_layPulls_130 : decode cX8_layPulls 130 = .ok (.iload 5, 2) := by decide +kernel
theorem dX8_layPulls_132 : decode cX8_layPulls 132 = .ok (.imul, 1) := by decide +kernel
theorem dX8_layPulls_133 : decode cX8_layPulls 133 = .ok (.iadd, 1) := by decide +kernel
theorem dX8_layPulls_134 : decode cX8_layPulls 134 = .ok (.aload_n 0, 1) := by decide +kernel
theorem dX8_layPulls_135 : decode cX8_layPulls 135 = .ok (.getfield 35, 3) := by decide +kernel
theorem dX8_layPulls_138 : decode cX8_layPulls 138 = .ok (.iload 5, 2) := by decide +kernel
theorem dX8_layPulls_140 : decode cX8_layPulls 140 = .ok (.iaload, 1) := by decide +kernel
theorem dX8_layPulls_141 : decode cX8_layPulls 141 = .ok (.iadd, 1) := by decide +kernel
theorem dX8_layPulls_142 : decode cX8_layPulls 142 = .ok (.iaload, 1) := by decide +kernel
theorem dX8_layPulls_143 : decode cX8_layPulls 143 = .ok (.iload 4, 2) := by decide +kernel
theorem dX8_layPulls_145 : decode cX8_layPulls 145 = .ok (.if_icmp .eq 5, 3) := by decide +kernel
theorem dX8_layPulls_148 : decode cX8_layPulls 148 = .ok (.iconst 0, 1) := by decide +kernel
theorem dX8_layPulls_149 : decode cX8_layPulls 149 = .ok (.ireturn, 1) := by decide +kernel
theorem dX8_layPulls_150 : decode cX8_layPulls 150 = .ok (.aload_n 0, 1) := by decide +kernel
theorem dX8_layPulls_151 : decode cX8_layPulls 151 = .ok (.getfield 35, 3) := by decide +kernel
theorem dX8_layPulls_154 : decode cX8_layPulls 154 = .ok (.iload 5, 2) := by decide +kernel
theorem dX8_layPulls_156 : decode cX8_layPulls 156 = .ok (.dup2, 1) := by decide +kernel
theorem dX8_layPulls_157 : decode cX8_layPulls 157 = .ok (.iaload, 1) := by decide +kernel
theorem dX8_layPulls_158 : decode cX8_layPulls 158 = .ok (.iconst 1, 1) := by decide +kernel
theorem dX8_layPulls_159 : decode cX8_layPulls 159 = .ok (.iadd, 1) := by decide +kernel
theorem dX8_layPulls_160 : decode cX8_layPulls 160 = .ok (.iastore, 1) := by decide +kernel
theorem dX8_layPulls_161 : decode cX8_layPulls 161 = .ok (.aload_n 0, 1) := by decide +kernel
theorem dX8_layPulls_162 : decode cX8_layPulls 162 = .ok (.getfield 152, 3) := by decide +kernel
theorem dX8_layPulls_165 : decode cX8_layPulls 165 = .ok (.ifCond .le 37, 3) := by decide +kernel
theorem dX8_layPulls_168 : decode cX8_layPulls 168 = .ok (.aload_n 0, 1) := by decide +kernel
theorem dX8_layPulls_169 : decode cX8_layPulls 169 = .ok (.getfield 38, 3) := by decide +kernel
theorem dX8_layPulls_172 : decode cX8_layPulls 172 = .ok (.aload_n 0, 1) := by decide +kernel
theorem dX8_layPulls_173 : decode cX8_layPulls 173 = .ok (.getfield 152, 3) := by decide +kernel
theorem dX8_layPulls_176 : decode cX8_layPulls 176 = .ok (.iconst 1, 1) := by decide +kernel
theorem dX8_layPulls_177 : decode cX8_layPulls 177 = .ok (.isub, 1) := by decide +kernel
theorem dX8_layPulls_178 : decode cX8_layPulls 178 = .ok (.iaload, 1) := by decide +kernel
theorem dX8_layPulls_179 : decode cX8_layPulls 179 = .ok (.iload 5, 2) := by decide +kernel
theorem dX8_layPulls_181 : decode cX8_layPulls 181 = .ok (.if_icmp .ne 21, 3) := by decide +kernel
theorem dX8_layPulls_184 : decode cX8_layPulls 184 = .ok (.aload_n 0, 1) := by decide +kernel
theorem dX8_layPulls_185 : decode cX8_layPulls 185 = .ok (.getfield 41, 3) := by decide +kernel
theorem dX8_layPulls_188 : decode cX8_layPulls 188 = .ok (.aload_n 0, 1) := by decide +kernel
theorem dX8_layPulls_189 : decode cX8_layPulls 189 = .ok (.getfield 152, 3) := by decide +kernel
theorem dX8_layPulls_192 : decode cX8_layPulls 192 = .ok (.iconst 1, 1) := by decide +kernel
theorem dX8_layPulls_193 : decode cX8_layPulls 193 = .ok (.isub, 1) := by decide +kernel
theorem dX8_layPulls_194 : decode cX8_layPulls 194 = .ok (.dup2, 1) := by decide +kernel
theorem dX8_layPulls_195 : decode cX8_layPulls 195 = .ok (.iaload, 1) := by decide +kernel
theorem dX8_layPulls_196 : decode cX8_layPulls 196 = .ok (.iconst 1, 1) := by decide +kernel
theorem dX8_layPulls_197 : decode cX8_layPulls 197 = .ok (.iadd, 1) := by decide +kernel
theorem dX8_layPulls_198 : decode cX8_layPulls 198 = .ok (.iastore, 1) := by decide +kernel
theorem dX8_layPulls_199 : decode cX8_layPulls 199 = .ok (.goto 34, 3) := by decide +kernel
theorem dX8_layPulls_202 : decode cX8_layPulls 202 = .ok (.aload_n 0, 1) := by decide +kernel
theorem dX8_layPulls_203 : decode cX8_layPulls 203 = .ok (.getfield 38, 3) := by decide +kernel
theorem dX8_layPulls_206 : decode cX8_layPulls 206 = .ok (.aload_n 0, 1) := by decide +kernel
theorem dX8_layPulls_207 : decode cX8_layPulls 207 = .ok (.getfield 152, 3) := by decide +kernel
theorem dX8_layPulls_210 : decode cX8_layPulls 210 = .ok (.iload 5, 2) := by decide +kernel
theorem dX8_layPulls_212 : decode cX8_layPulls 212 = .ok (.iastore, 1) := by decide +kernel
theorem dX8_layPulls_213 : decode cX8_layPulls 213 = .ok (.aload_n 0, 1) := by decide +kernel
theorem dX8_layPulls_214 : decode cX8_layPulls 214 = .ok (.getfield 41, 3) := by decide +kernel
theorem dX8_layPulls_217 : decode cX8_layPulls 217 = .ok (.aload_n 0, 1) := by decide +kernel
theorem dX8_layPulls_218 : decode cX8_layPulls 218 = .ok (.getfield 152, 3) := by decide +kernel
theorem dX8_layPulls_221 : decode cX8_layPulls 221 = .ok (.iconst 1, 1) := by decide +kernel
theorem dX8_layPulls_222 : decode cX8_layPulls 222 = .ok (.iastore, 1) := by decide +kernel
theorem dX8_layPulls_223 : decode cX8_layPulls 223 = .ok (.aload_n 0, 1) := by decide +kernel
theorem dX8_layPulls_224 : decode cX8_layPulls 224 = .ok (.dup, 1) := by decide +kernel
theorem dX8_layPulls_225 : decode cX8_layPulls 225 = .ok (.getfield 152, 3) := by decide +kernel
theorem dX8_layPulls_228 : decode cX8_layPulls 228 = .ok (.iconst 1, 1) := by decide +kernel
theorem dX8_layPulls_229 : decode cX8_layPulls 229 = .ok (.iadd, 1) := by decide +kernel
theorem dX8_layPulls_230 : decode cX8_layPulls 230 = .ok (.putfield 152, 3) := by decide +kernel
theorem dX8_layPulls_233 : decode cX8_layPulls 233 = .ok (.iinc 3 1, 3) := by decide +kernel
theorem dX8_layPulls_236 : decode cX8_layPulls 236 = .ok (.goto (-179), 3) := by decide +kernel
theorem dX8_layPulls_239 : decode cX8_layPulls 239 = .ok (.iconst 1, 1) := by decide +kernel
theorem dX8_layPulls_240 : decode cX8_layPulls 240 = .ok (.ireturn, 1) := by decide +kernel
theorem dX8_straight_0 : decode cX8_straight 0 = .ok (.aload_n 0, 1) := by decide +kernel
theorem dX8_straight_1 : decode cX8_straight 1 = .ok (.iload_n 1, 1) := by decide +kernel
theorem dX8_straight_2 : decode cX8_straight 2 = .ok (.invokevirtual 133, 3) := by decide +kernel
theorem dX8_straight_5 : decode cX8_straight 5 = .ok (.ifCond .ne 7, 3) := by decide +kernel
theorem dX8_straight_8 : decode cX8_straight 8 = .ok (.iconst (-1), 1) := by decide +kernel
theorem dX8_straight_9 : decode cX8_straight 9 = .ok (.goto 16, 3) := by decide +kernel
theorem dX8_straight_12 : decode cX8_straight 12 = .ok (.aload_n 0, 1) := by decide +kernel
theorem dX8_straight_13 : decode cX8_straight 13 = .ok (.iload_n 1, 1) := by decide +kernel
theorem dX8_straight_14 : decode cX8_straight 14 = .ok (.invokevirtual 155, 3) := by decide +kernel
theorem dX8_straight_17 : decode cX8_straight 17 = .ok (.ifCond .eq 7, 3) := by decide +kernel
theorem dX8_straight_20 : decode cX8_straight 20 = .ok (.iconst 1, 1) := by decide +kernel
theorem dX8_straight_21 : decode cX8_straight 21 = .ok (.goto 4, 3) := by decide +kernel
theorem dX8_straight_24 : decode cX8_straight 24 = .ok (.iconst 0, 1) := by decide +kernel
theorem dX8_straight_25 : decode cX8_straight 25 = .ok (.ireturn, 1) := by decide +kernel
theorem dX8_pulls_0 : decode cX8_pulls 0 = .ok (.aload_n 0, 1) := by decide +kernel
theorem dX8_pulls_1 : decode cX8_pulls 1 = .ok (.iload_n 1, 1) := by decide +kernel
theorem dX8_pulls_2 : decode cX8_pulls 2 = .ok (.invokevirtual 133, 3) := by decide +kernel
theorem dX8_pulls_5 : decode cX8_pulls 5 = .ok (.ifCond .ne 7, 3) := by decide +kernel
theorem dX8_pulls_8 : decode cX8_pulls 8 = .ok (.iconst (-1), 1) := by decide +kernel
theorem dX8_pulls_9 : decode cX8_pulls 9 = .ok (.goto 20, 3) := by decide +kernel
theorem dX8_pulls_12 : decode cX8_pulls 12 = .ok (.aload_n 0, 1) := by decide +kernel
theorem dX8_pulls_13 : decode cX8_pulls 13 = .ok (.iload_n 1, 1) := by decide +kernel
theorem dX8_pulls_14 : decode cX8_pulls 14 = .ok (.invokevirtual 155, 3) := by decide +kernel
theorem dX8_pulls_17 : decode cX8_pulls 17 = .ok (.ifCond .eq 10, 3) := by decide +kernel
theorem dX8_pulls_20 : decode cX8_pulls 20 = .ok (.aload_n 0, 1) := by decide +kernel
theorem dX8_pulls_21 : decode cX8_pulls 21 = .ok (.getfield 152, 3) := by decide +kernel
theorem dX8_pulls_24 : decode cX8_pulls 24 = .ok (.goto 5, 3) := by decide +kernel
theorem dX8_pulls_27 : decode cX8_pulls 27 = .ok (.bipush (-6), 2) := by decide +kernel
theorem dX8_pulls_29 : decode cX8_pulls 29 = .ok (.ireturn, 1) := by decide +kernel
theorem dX8_wouldLeave_0 : decode cX8_wouldLeave 0 = .ok (.aload_n 0, 1) := by decide +kernel
theorem dX8_wouldLeave_1 : decode cX8_wouldLeave 1 = .ok (.iload_n 1, 1) := by decide +kernel
theorem dX8_wouldLeave_2 : decode cX8_wouldLeave 2 = .ok (.invokevirtual 133, 3) := by decide +kernel
theorem dX8_wouldLeave_5 : decode cX8_wouldLeave 5 = .ok (.ifCond .ne 5, 3) := by decide +kernel
theorem dX8_wouldLeave_8 : decode cX8_wouldLeave 8 = .ok (.iconst (-1), 1) := by decide +kernel
theorem dX8_wouldLeave_9 : decode cX8_wouldLeave 9 = .ok (.ireturn, 1) := by decide +kernel
theorem dX8_wouldLeave_10 : decode cX8_wouldLeave 10 = .ok (.aload_n 0, 1) := by decide +kernel
theorem dX8_wouldLeave_11 : decode cX8_wouldLeave 11 = .ok (.iload_n 1, 1) := by decide +kernel
theorem dX8_wouldLeave_12 : decode cX8_wouldLeave 12 = .ok (.invokevirtual 155, 3) := by decide +kernel
theorem dX8_wouldLeave_15 : decode cX8_wouldLeave 15 = .ok (.ifCond .ne 6, 3) := by decide +kernel
theorem dX8_wouldLeave_18 : decode cX8_wouldLeave 18 = .ok (.bipush (-6), 2) := by decide +kernel
theorem dX8_wouldLeave_20 : decode cX8_wouldLeave 20 = .ok (.ireturn, 1) := by decide +kernel
theorem dX8_wouldLeave_21 : decode cX8_wouldLeave 21 = .ok (.iconst 0, 1) := by decide +kernel
theorem dX8_wouldLeave_22 : decode cX8_wouldLeave 22 = .ok (.istore_n 2, 1) := by decide +kernel
theorem dX8_wouldLeave_23 : decode cX8_wouldLeave 23 = .ok (.iload_n 2, 1) := by decide +kernel
theorem dX8_wouldLeave_24 : decode cX8_wouldLeave 24 = .ok (.bipush 8, 2) := by decide +kernel
theorem dX8_wouldLeave_26 : decode cX8_wouldLeave 26 = .ok (.if_icmp .ge 16, 3) := by decide +kernel
theorem dX8_wouldLeave_29 : decode cX8_wouldLeave 29 = .ok (.aload_n 0, 1) := by decide +kernel
theorem dX8_wouldLeave_30 : decode cX8_wouldLeave 30 = .ok (.getfield 35, 3) := by decide +kernel
theorem dX8_wouldLeave_33 : decode cX8_wouldLeave 33 = .ok (.iload_n 2, 1) := by decide +kernel
theorem dX8_wouldLeave_34 : decode cX8_wouldLeave 34 = .ok (.iconst 0, 1) := by decide +kernel
theorem dX8_wouldLeave_35 : decode cX8_wouldLeave 35 = .ok (.iastore, 1) := by decide +kernel
theorem dX8_wouldLeave_36 : decode cX8_wouldLeave 36 = .ok (.iinc 2 1, 3) := by decide +kernel
theorem dX8_wouldLeave_39 : decode cX8_wouldLeave 39 = .ok (.goto (-16), 3) := by decide +kernel
theorem dX8_wouldLeave_42 : decode cX8_wouldLeave 42 = .ok (.aload_n 0, 1) := by decide +kernel
theorem dX8_wouldLeave_43 : decode cX8_wouldLeave 43 = .ok (.getfield 7, 3) := by decide +kernel
theorem dX8_wouldLeave_46 : decode cX8_wouldLeave 46 = .ok (.bipush 6, 2) := by decide +kernel
theorem dX8_wouldLeave_48 : decode cX8_wouldLeave 48 = .ok (.iaload, 1) := by decide +kernel
theorem dX8_wouldLeave_49 : decode cX8_wouldLeave 49 = .ok (.istore_n 2, 1) := by decide +kernel
theorem dX8_wouldLeave_50 : decode cX8_wouldLeave 50 = .ok (.iconst 0, 1) := by decide +kernel
theorem dX8_wouldLeave_51 : decode cX8_wouldLeave 51 = .ok (.istore_n 3, 1) := by decide +kernel
theorem dX8_wouldLeave_52 : decode cX8_wouldLeave 52 = .ok (.iload_n 3, 1) := by decide +kernel
theorem dX8_wouldLeave_53 : decode cX8_wouldLeave 53 = .ok (.aload_n 0, 1) := by decide +kernel
theorem dX8_wouldLeave_54 : decode cX8_wouldLeave 54 = .ok (.getfield 152, 3) := by decide +kernel
theorem dX8_wouldLeave_57 : decode cX8_wouldLeave 57 = .ok (.if_icmp .ge 81, 3) := by decide +kernel
theorem dX8_wouldLeave_60 : decode cX8_wouldLeave 60 = .ok (.aload_n 0, 1) := by decide +kernel
theorem dX8_wouldLeave_61 : decode cX8_wouldLeave 61 = .ok (.getfield 38, 3) := by decide +kernel
theorem dX8_wouldLeave_64 : decode cX8_wouldLeave 64 = .ok (.iload_n 3, 1) := by decide +kernel
theorem dX8_wouldLeave_65 : decode cX8_wouldLeave 65 = .ok (.iaload, 1) := by decide +kernel
theorem dX8_wouldLeave_66 : decode cX8_wouldLeave 66 = .ok (.istore 4, 2) := by decide +kernel
theorem dX8_wouldLeave_68 : decode cX8_wouldLeave 68 = .ok (.aload_n 0, 1) := by decide +kernel
theorem dX8_wouldLeave_69 : decode cX8_wouldLeave 69 = .ok (.getfield 35, 3) := by decide +kernel
theorem dX8_wouldLeave_72 : decode cX8_wouldLeave 72 = .ok (.iload 4, 2) := by decide +kernel
theorem dX8_wouldLeave_74 : decode cX8_wouldLeave 74 = .ok (.dup2, 1) := by decide +kernel
theorem dX8_wouldLeave_75 : decode cX8_wouldLeave 75 = .ok (.iaload, 1) := by decide +kernel
theorem dX8_wouldLeave_76 : decode cX8_wouldLeave 76 = .ok (.aload_n 0, 1) := by decide +kernel
theorem dX8_wouldLeave_77 : decode cX8_wouldLeave 77 = .ok (.getfield 41, 3) := by decide +kernel
theorem dX8_wouldLeave_80 : decode cX8_wouldLeave 80 = .ok (.iload_n 3, 1) := by decide +kernel
theorem dX8_wouldLeave_81 : decode cX8_wouldLeave 81 = .ok (.iaload, 1) := by decide +kernel
theorem dX8_wouldLeave_82 : decode cX8_wouldLeave 82 = .ok (.iadd, 1) := by decide +kernel
theorem dX8_wouldLeave_83 : decode cX8_wouldLeave 83 = .ok (.iastore, 1) := by decide +kernel
theorem dX8_wouldLeave_84 : decode cX8_wouldLeave 84 = .ok (.aload_n 0, 1) := by decide +kernel
theorem dX8_wouldLeave_85 : decode cX8_wouldLeave 85 = .ok (.getfield 7, 3) := by decide +kernel
theorem dX8_wouldLeave_88 : decode cX8_wouldLeave 88 = .ok (.iconst 2, 1) := by decide +kernel
theorem dX8_wouldLeave_89 : decode cX8_wouldLeave 89 = .ok (.iaload, 1) := by decide +kernel
theorem dX8_wouldLeave_90 : decode cX8_wouldLeave 90 = .ok (.aload_n 0, 1) := by decide +kernel
theorem dX8_wouldLeave_91 : decode cX8_wouldLeave 91 = .ok (.getfield 7, 3) := by decide +kernel
theorem dX8_wouldLeave_94 : decode cX8_wouldLeave 94 = .ok (.iconst 3, 1) := by decide +kernel
theorem dX8_wouldLeave_95 : decode cX8_wouldLeave 95 = .ok (.iaload, 1) := by decide +kernel
theorem dX8_wouldLeave_96 : decode cX8_wouldLeave 96 = .ok (.aload_n 0, 1) := by decide +kernel
theorem dX8_wouldLeave_97 : decode cX8_wouldLeave 97 = .ok (.iload 4, 2) := by decide +kernel
theorem dX8_wouldLeave_99 : decode cX8_wouldLeave 99 = .ok (.invokevirtual 72, 3) := by decide +kernel
theorem dX8_wouldLeave_102 : decode cX8_wouldLeave 102 = .ok (.aload_n 0, 1) := by decide +kernel
theorem dX8_wouldLeave_103 : decode cX8_wouldLeave 103 = .ok (.getfield 35, 3) := by decide +kernel
theorem dX8_wouldLeave_106 : decode cX8_wouldLeave 106 = .ok (.iload 4, 2) := by decide +kernel
theorem dX8_wouldLeave_108 : decode cX8_wouldLeave 108 = .ok (.iaload, 1) := by decide +kernel
theorem dX8_wouldLeave_109 : decode cX8_wouldLeave 109 = .ok (.if_icmp .le 7, 3) := by decide +kernel
theorem dX8_wouldLeave_112 : decode cX8_wouldLeave 112 = .ok (.iconst 2, 1) := by decide +kernel
theorem dX8_wouldLeave_113 : decode cX8_wouldLeave 113 = .ok (.goto 4, 3) := by decide +kernel
theorem dX8_wouldLeave_116 : decode cX8_wouldLeave 116 = .ok (.iconst 1, 1) := by decide +kernel
theorem dX8_wouldLeave_117 : decode cX8_wouldLeave 117 = .ok (.imul, 1) := by decide +kernel
theorem dX8_wouldLeave_118 : decode cX8_wouldLeave 118 = .ok (.iadd, 1) := by decide +kernel
theorem dX8_wouldLeave_119 : decode cX8_wouldLeave 119 = .ok (.istore 5, 2) := by decide +kernel
theorem dX8_wouldLeave_121 : decode cX8_wouldLeave 121 = .ok (.aload_n 0, 1) := by decide +kernel
theorem dX8_wouldLeave_122 : decode cX8_wouldLeave 122 = .ok (.iload_n 2, 1) := by decide +kernel
theorem dX8_wouldLeave_123 : decode cX8_wouldLeave 123 = .ok (.iload 5, 2) := by decide +kernel
theorem dX8_wouldLeave_125 : decode cX8_wouldLeave 125 = .ok (.invokevirtual 86, 3) := by decide +kernel
theorem dX8_wouldLeave_128 : decode cX8_wouldLeave 128 = .ok (.iload 5, 2) := by decide +kernel
theorem dX8_wouldLeave_130 : decode cX8_wouldLeave 130 = .ok (.iadd, 1) := by decide +kernel
theorem dX8_wouldLeave_131 : decode cX8_wouldLeave 131 = .ok (.istore_n 2, 1) := by decide +kernel
theorem dX8_wouldLeave_132 : decode cX8_wouldLeave 132 = .ok (.iinc 3 1, 3) := by decide +kernel
theorem dX8_wouldLeave_135 : decode cX8_wouldLeave 135 = .ok (.goto (-83), 3) := by decide +kernel
theorem dX8_wouldLeave_138 : decode cX8_wouldLeave 138 = .ok (.iload_n 2, 1) := by decide +kernel
theorem dX8_wouldLeave_139 : decode cX8_wouldLeave 139 = .ok (.ireturn, 1) := by decide +kernel
theorem dX8_oneMore_0 : decode cX8_oneMore 0 = .ok (.iconst 0, 1) := by decide +kernel
theorem dX8_oneMore_1 : decode cX8_oneMore 1 = .ok (.istore_n 2, 1) := by decide +kernel
theorem dX8_oneMore_2 : decode cX8_oneMore 2 = .ok (.iconst 0, 1) := by decide +kernel
theorem dX8_oneMore_3 : decode cX8_oneMore 3 = .ok (.istore_n 3, 1) := by decide +kernel
theorem dX8_oneMore_4 : decode cX8_oneMore 4 = .ok (.iload_n 3, 1) := by decide +kernel
theorem dX8_oneMore_5 : decode cX8_oneMore 5 = .ok (.sipush 560, 3) := by decide +kernel
theorem dX8_oneMore_8 : decode cX8_oneMore 8 = .ok (.if_icmp .ge 21, 3) := by decide +kernel
theorem dX8_oneMore_11 : decode cX8_oneMore 11 = .ok (.aload_n 0, 1) := by decide +kernel
theorem dX8_oneMore_12 : decode cX8_oneMore 12 = .ok (.getfield 16, 3) := by decide +kernel
theorem dX8_oneMore_15 : decode cX8_oneMore 15 = .ok (.iload_n 3, 1) := by decide +kernel
theorem dX8_oneMore_16 : decode cX8_oneMore 16 = .ok (.aload_n 0, 1) := by decide +kernel
theorem dX8_oneMore_17 : decode cX8_oneMore 17 = .ok (.getfield 7, 3) := by decide +kernel
theorem dX8_oneMore_20 : decode cX8_oneMore 20 = .ok (.iload_n 3, 1) := by decide +kernel
theorem dX8_oneMore_21 : decode cX8_oneMore 21 = .ok (.iaload, 1) := by decide +kernel
theorem dX8_oneMore_22 : decode cX8_oneMore 22 = .ok (.iastore, 1) := by decide +kernel
theorem dX8_oneMore_23 : decode cX8_oneMore 23 = .ok (.iinc 3 1, 3) := by decide +kernel
theorem dX8_oneMore_26 : decode cX8_oneMore 26 = .ok (.goto (-22), 3) := by decide +kernel
theorem dX8_oneMore_29 : decode cX8_oneMore 29 = .ok (.iconst 0, 1) := by decide +kernel
theorem dX8_oneMore_30 : decode cX8_oneMore 30 = .ok (.istore_n 3, 1) := by decide +kernel
theorem dX8_oneMore_31 : decode cX8_oneMore 31 = .ok (.iload_n 3, 1) := by decide +kernel
theorem dX8_oneMore_32 : decode cX8_oneMore 32 = .ok (.aload_n 0, 1) := by decide +kernel
theorem dX8_oneMore_33 : decode cX8_oneMore 33 = .ok (.getfield 7, 3) := by decide +kernel
theorem dX8_oneMore_36 : decode cX8_oneMore 36 = .ok (.bipush 7, 2) := by decide +kernel
theorem dX8_oneMore_38 : decode cX8_oneMore 38 = .ok (.iaload, 1) := by decide +kernel
theorem dX8_oneMore_39 : decode cX8_oneMore 39 = .ok (.if_icmp .ge 93, 3) := by decide +kernel
theorem dX8_oneMore_42 : decode cX8_oneMore 42 = .ok (.iload_n 2, 1) := by decide +kernel
theorem dX8_oneMore_43 : decode cX8_oneMore 43 = .ok (.ifCond .ne 89, 3) := by decide +kernel
theorem dX8_oneMore_46 : decode cX8_oneMore 46 = .ok (.iconst 1, 1) := by decide +kernel
theorem dX8_oneMore_47 : decode cX8_oneMore 47 = .ok (.istore 4, 2) := by decide +kernel
theorem dX8_oneMore_49 : decode cX8_oneMore 49 = .ok (.iload 4, 2) := by decide +kernel
theorem dX8_oneMore_51 : decode cX8_oneMore 51 = .ok (.bipush 31, 2) := by decide +kernel
theorem dX8_oneMore_53 : decode cX8_oneMore 53 = .ok (.if_icmp .ge 73, 3) := by decide +kernel
theorem dX8_oneMore_56 : decode cX8_oneMore 56 = .ok (.iload_n 2, 1) := by decide +kernel
theorem dX8_oneMore_57 : decode cX8_oneMore 57 = .ok (.ifCond .ne 69, 3) := by decide +kernel
theorem dX8_oneMore_60 : decode cX8_oneMore 60 = .ok (.aload_n 0, 1) := by decide +kernel
theorem dX8_oneMore_61 : decode cX8_oneMore 61 = .ok (.iload_n 3, 1) := by decide +kernel
theorem dX8_oneMore_62 : decode cX8_oneMore 62 = .ok (.iload 4, 2) := by decide +kernel
theorem dX8_oneMore_64 : decode cX8_oneMore 64 = .ok (.invokevirtual 97, 3) := by decide +kernel
theorem dX8_oneMore_67 : decode cX8_oneMore 67 = .ok (.ifCond .eq 21, 3) := by decide +kernel
theorem dX8_oneMore_70 : decode cX8_oneMore 70 = .ok (.aload_n 0, 1) := by decide +kernel
theorem dX8_oneMore_71 : decode cX8_oneMore 71 = .ok (.iload_n 3, 1) := by decide +kernel
theorem dX8_oneMore_72 : decode cX8_oneMore 72 = .ok (.iload 4, 2) := by decide +kernel
theorem dX8_oneMore_74 : decode cX8_oneMore 74 = .ok (.invokevirtual 101, 3) := by decide +kernel
theorem dX8_oneMore_77 : decode cX8_oneMore 77 = .ok (.pop, 1) := by decide +kernel
theorem dX8_oneMore_78 : decode cX8_oneMore 78 = .ok (.aload_n 0, 1) := by decide +kernel
theorem dX8_oneMore_79 : decode cX8_oneMore 79 = .ok (.iload_n 1, 1) := by decide +kernel
theorem dX8_oneMore_80 : decode cX8_oneMore 80 = .ok (.invokevirtual 139, 3) := by decide +kernel
theorem dX8_oneMore_83 : decode cX8_oneMore 83 = .ok (.istore_n 2, 1) := by decide +kernel
theorem dX8_oneMore_84 : decode cX8_oneMore 84 = .ok (.aload_n 0, 1) := by decide +kernel
theorem dX8_oneMore_85 : decode cX8_oneMore 85 = .ok (.invokevirtual 158, 3) := by decide +kernel
theorem dX8_oneMore_88 : decode cX8_oneMore 88 = .ok (.iload_n 2, 1) := by decide +kernel
theorem dX8_oneMore_89 : decode cX8_oneMore 89 = .ok (.ifCond .ne 31, 3) := by decide +kernel
theorem dX8_oneMore_92 : decode cX8_oneMore 92 = .ok (.aload_n 0, 1) := by decide +kernel
theorem dX8_oneMore_93 : decode cX8_oneMore 93 = .ok (.iload_n 3, 1) := by decide +kernel
theorem dX8_oneMore_94 : decode cX8_oneMore 94 = .ok (.iload 4, 2) := by decide +kernel
theorem dX8_oneMore_96 : decode cX8_oneMore 96 = .ok (.invokevirtual 108, 3) := by decide +kernel
theorem dX8_oneMore_99 : decode cX8_oneMore 99 = .ok (.ifCond .eq 21, 3) := by decide +kernel
theorem dX8_oneMore_102 : decode cX8_oneMore 102 = .ok (.aload_n 0, 1) := by decide +kernel
theorem dX8_oneMore_103 : decode cX8_oneMore 103 = .ok (.iload_n 3, 1) := by decide +kernel
theorem dX8_oneMore_104 : decode cX8_oneMore 104 = .ok (.iload 4, 2) := by decide +kernel
theorem dX8_oneMore_106 : decode cX8_oneMore 106 = .ok (.invokevirtual 111, 3) := by decide +kernel
theorem dX8_oneMore_109 : decode cX8_oneMore 109 = .ok (.pop, 1) := by decide +kernel
theorem dX8_oneMore_110 : decode cX8_oneMore 110 = .ok (.aload_n 0, 1) := by decide +kernel
theorem dX8_oneMore_111 : decode cX8_oneMore 111 = .ok (.iload_n 1, 1) := by decide +kernel
theorem dX8_oneMore_112 : decode cX8_oneMore 112 = .ok (.invokevirtual 139, 3) := by decide +kernel
theorem dX8_oneMore_115 : decode cX8_oneMore 115 = .ok (.istore_n 2, 1) := by decide +kernel
theorem dX8_oneMore_116 : decode cX8_oneMore 116 = .ok (.aload_n 0, 1) := by decide +kernel
theorem dX8_oneMore_117 : decode cX8_oneMore 117 = .ok (.invokevirtual 158, 3) := by decide +kernel
theorem dX8_oneMore_120 : decode cX8_oneMore 120 = .ok (.iinc 4 1, 3) := by decide +kernel
theorem dX8_oneMore_123 : decode cX8_oneMore 123 = .ok (.goto (-74), 3) := by decide +kernel
theorem dX8_oneMore_126 : decode cX8_oneMore 126 = .ok (.iinc 3 1, 3) := by decide +kernel
theorem dX8_oneMore_129 : decode cX8_oneMore 129 = .ok (.goto (-98), 3) := by decide +kernel
theorem dX8_oneMore_132 : decode cX8_oneMore 132 = .ok (.iload_n 2, 1) := by decide +kernel
theorem dX8_oneMore_133 : decode cX8_oneMore 133 = .ok (.ifCond .ne 24, 3) := by decide +kernel
theorem dX8_oneMore_136 : decode cX8_oneMore 136 = .ok (.aload_n 0, 1) := by decide +kernel
theorem dX8_oneMore_137 : decode cX8_oneMore 137 = .ok (.invokevirtual 114, 3) := by decide +kernel
theorem dX8_oneMore_140 : decode cX8_oneMore 140 = .ok (.ifCond .eq 17, 3) := by decide +kernel
theorem dX8_oneMore_143 : decode cX8_oneMore 143 = .ok (.aload_n 0, 1) := by decide +kernel
theorem dX8_oneMore_144 : decode cX8_oneMore 144 = .ok (.invokevirtual 118, 3) := by decide +kernel
theorem dX8_oneMore_147 : decode cX8_oneMore 147 = .ok (.aload_n 0, 1) := by decide +kernel
theorem dX8_oneMore_148 : decode cX8_oneMore 148 = .ok (.iload_n 1, 1) := by decide +kernel
theorem dX8_oneMore_149 : decode cX8_oneMore 149 = .ok (.invokevirtual 139, 3) := by decide +kernel
theorem dX8_oneMore_152 : decode cX8_oneMore 152 = .ok (.istore_n 2, 1) := by decide +kernel
theorem dX8_oneMore_153 : decode cX8_oneMore 153 = .ok (.aload_n 0, 1) := by decide +kernel
theorem dX8_oneMore_154 : decode cX8_oneMore 154 = .ok (.invokevirtual 158, 3) := by decide +kernel
theorem dX8_oneMore_157 : decode cX8_oneMore 157 = .ok (.iload_n 2, 1) := by decide +kernel
theorem dX8_oneMore_158 : decode cX8_oneMore 158 = .ok (.ireturn, 1) := by decide +kernel
theorem dX8_comeBack2_0 : decode cX8_comeBack2 0 = .ok (.iconst 0, 1) := by decide +kernel
theorem dX8_comeBack2_1 : decode cX8_comeBack2 1 = .ok (.istore_n 1, 1) := by decide +kernel
theorem dX8_comeBack2_2 : decode cX8_comeBack2 2 = .ok (.iload_n 1, 1) := by decide +kernel
theorem dX8_comeBack2_3 : decode cX8_comeBack2 3 = .ok (.sipush 560, 3) := by decide +kernel
theorem dX8_comeBack2_6 : decode cX8_comeBack2 6 = .ok (.if_icmp .ge 21, 3) := by decide +kernel
theorem dX8_comeBack2_9 : decode cX8_comeBack2 9 = .ok (.aload_n 0, 1) := by decide +kernel
theorem dX8_comeBack2_10 : decode cX8_comeBack2 10 = .ok (.getfield 7, 3) := by decide +kernel
theorem dX8_comeBack2_13 : decode cX8_comeBack2 13 = .ok (.iload_n 1, 1) := by decide +kernel
theorem dX8_comeBack2_14 : decode cX8_comeBack2 14 = .ok (.aload_n 0, 1) := by decide +kernel
theorem dX8_comeBack2_15 : decode cX8_comeBack2 15 = .ok (.getfield 16, 3) := by decide +kernel
theorem dX8_comeBack2_18 : decode cX8_comeBack2 18 = .ok (.iload_n 1, 1) := by decide +kernel
theorem dX8_comeBack2_19 : decode cX8_comeBack2 19 = .ok (.iaload, 1) := by decide +kernel
theorem dX8_comeBack2_20 : decode cX8_comeBack2 20 = .ok (.iastore, 1) := by decide +kernel
theorem dX8_comeBack2_21 : decode cX8_comeBack2 21 = .ok (.iinc 1 1, 3) := by decide +kernel
theorem dX8_comeBack2_24 : decode cX8_comeBack2 24 = .ok (.goto (-22), 3) := by decide +kernel
theorem dX8_comeBack2_27 : decode cX8_comeBack2 27 = .ok (.return_, 1) := by decide +kernel
theorem dX8_comeBack_0 : decode cX8_comeBack 0 = .ok (.iconst 0, 1) := by decide +kernel
theorem dX8_comeBack_1 : decode cX8_comeBack 1 = .ok (.istore_n 1, 1) := by decide +kernel
theorem dX8_comeBack_2 : decode cX8_comeBack 2 = .ok (.iload_n 1, 1) := by decide +kernel
theorem dX8_comeBack_3 : decode cX8_comeBack 3 = .ok (.sipush 560, 3) := by decide +kernel
theorem dX8_comeBack_6 : decode cX8_comeBack 6 = .ok (.if_icmp .ge 21, 3) := by decide +kernel
theorem dX8_comeBack_9 : decode cX8_comeBack 9 = .ok (.aload_n 0, 1) := by decide +kernel
theorem dX8_comeBack_10 : decode cX8_comeBack 10 = .ok (.getfield 7, 3) := by decide +kernel
theorem dX8_comeBack_13 : decode cX8_comeBack 13 = .ok (.iload_n 1, 1) := by decide +kernel
theorem dX8_comeBack_14 : decode cX8_comeBack 14 = .ok (.aload_n 0, 1) := by decide +kernel
theorem dX8_comeBack_15 : decode cX8_comeBack 15 = .ok (.getfield 13, 3) := by decide +kernel
theorem dX8_comeBack_18 : decode cX8_comeBack 18 = .ok (.iload_n 1, 1) := by decide +kernel
theorem dX8_comeBack_19 : decode cX8_comeBack 19 = .ok (.iaload, 1) := by decide +kernel
theorem dX8_comeBack_20 : decode cX8_comeBack 20 = .ok (.iastore, 1) := by decide +kernel
theorem dX8_comeBack_21 : decode cX8_comeBack 21 = .ok (.iinc 1 1, 3) := by decide +kernel
theorem dX8_comeBack_24 : decode cX8_comeBack 24 = .ok (.goto (-22), 3) := by decide +kernel
theorem dX8_comeBack_27 : decode cX8_comeBack 27 = .ok (.return_, 1) := by decide +kernel
theorem dX8_moves_0 : decode cX8_moves 0 = .ok (.aload_n 0, 1) := by decide +kernel
theorem dX8_moves_1 : decode cX8_moves 1 = .ok (.iload_n 1, 1) := by decide +kernel
theorem dX8_moves_2 : decode cX8_moves 2 = .ok (.invokevirtual 133, 3) := by decide +kernel
theorem dX8_moves_5 : decode cX8_moves 5 = .ok (.ifCond .ne 5, 3) := by decide +kernel
theorem dX8_moves_8 : decode cX8_moves 8 = .ok (.iconst (-1), 1) := by decide +kernel
theorem dX8_moves_9 : decode cX8_moves 9 = .ok (.ireturn, 1) := by decide +kernel
theorem dX8_moves_10 : decode cX8_moves 10 = .ok (.aload_n 0, 1) := by decide +kernel
theorem dX8_moves_11 : decode cX8_moves 11 = .ok (.iload_n 1, 1) := by decide +kernel
theorem dX8_moves_12 : decode cX8_moves 12 = .ok (.invokevirtual 139, 3) := by decide +kernel
theorem dX8_moves_15 : decode cX8_moves 15 = .ok (.ifCond .eq 5, 3) := by decide +kernel
theorem dX8_moves_18 : decode cX8_moves 18 = .ok (.iconst 0, 1) := by decide +kernel
theorem dX8_moves_19 : decode cX8_moves 19 = .ok (.ireturn, 1) := by decide +kernel
theorem dX8_moves_20 : decode cX8_moves 20 = .ok (.aload_n 0, 1) := by decide +kernel
theorem dX8_moves_21 : decode cX8_moves 21 = .ok (.iload_n 1, 1) := by decide +kernel
theorem dX8_moves_22 : decode cX8_moves 22 = .ok (.invokevirtual 161, 3) := by decide +kernel
theorem dX8_moves_25 : decode cX8_moves 25 = .ok (.ifCond .eq 5, 3) := by decide +kernel
theorem dX8_moves_28 : decode cX8_moves 28 = .ok (.iconst 1, 1) := by decide +kernel
theorem dX8_moves_29 : decode cX8_moves 29 = .ok (.ireturn, 1) := by decide +kernel
theorem dX8_moves_30 : decode cX8_moves 30 = .ok (.iconst 0, 1) := by decide +kernel
theorem dX8_moves_31 : decode cX8_moves 31 = .ok (.istore_n 2, 1) := by decide +kernel
theorem dX8_moves_32 : decode cX8_moves 32 = .ok (.iconst 0, 1) := by decide +kernel
theorem dX8_moves_33 : decode cX8_moves 33 = .ok (.istore_n 3, 1) := by decide +kernel
theorem dX8_moves_34 : decode cX8_moves 34 = .ok (.iload_n 3, 1) := by decide +kernel
theorem dX8_moves_35 : decode cX8_moves 35 = .ok (.sipush 560, 3) := by decide +kernel
theorem dX8_moves_38 : decode cX8_moves 38 = .ok (.if_icmp .ge 21, 3) := by decide +kernel
theorem dX8_moves_41 : decode cX8_moves 41 = .ok (.aload_n 0, 1) := by decide +kernel
theorem dX8_moves_42 : decode cX8_moves 42 = .ok (.getfield 13, 3) := by decide +kernel
theorem dX8_moves_45 : decode cX8_moves 45 = .ok (.iload_n 3, 1) := by decide +kernel
theorem dX8_moves_46 : decode cX8_moves 46 = .ok (.aload_n 0, 1) := by decide +kernel
theorem dX8_moves_47 : decode cX8_moves 47 = .ok (.getfield 7, 3) := by decide +kernel
theorem dX8_moves_50 : decode cX8_moves 50 = .ok (.iload_n 3, 1) := by decide +kernel
theorem dX8_moves_51 : decode cX8_moves 51 = .ok (.iaload, 1) := by decide +kernel
theorem dX8_moves_52 : decode cX8_moves 52 = .ok (.iastore, 1) := by decide +kernel
theorem dX8_moves_53 : decode cX8_moves 53 = .ok (.iinc 3 1, 3) := by decide +kernel
theorem dX8_moves_56 : decode cX8_moves 56 = .ok (.goto (-22), 3) := by decide +kernel
theorem dX8_moves_59 : decode cX8_moves 59 = .ok (.iconst 0, 1) := by decide +kernel
theorem dX8_moves_60 : decode cX8_moves 60 = .ok (.istore_n 3, 1) := by decide +kernel
theorem dX8_moves_61 : decode cX8_moves 61 = .ok (.iload_n 3, 1) := by decide +kernel
theorem dX8_moves_62 : decode cX8_moves 62 = .ok (.aload_n 0, 1) := by decide +kernel
theorem dX8_moves_63 : decode cX8_moves 63 = .ok (.getfield 7, 3) := by decide +kernel
theorem dX8_moves_66 : decode cX8_moves 66 = .ok (.bipush 7, 2) := by decide +kernel
theorem dX8_moves_68 : decode cX8_moves 68 = .ok (.iaload, 1) := by decide +kernel
theorem dX8_moves_69 : decode cX8_moves 69 = .ok (.if_icmp .ge 93, 3) := by decide +kernel
theorem dX8_moves_72 : decode cX8_moves 72 = .ok (.iload_n 2, 1) := by decide +kernel
theorem dX8_moves_73 : decode cX8_moves 73 = .ok (.ifCond .ne 89, 3) := by decide +kernel
theorem dX8_moves_76 : decode cX8_moves 76 = .ok (.iconst 1, 1) := by decide +kernel
theorem dX8_moves_77 : decode cX8_moves 77 = .ok (.istore 4, 2) := by decide +kernel
theorem dX8_moves_79 : decode cX8_moves 79 = .ok (.iload 4, 2) := by decide +kernel
theorem dX8_moves_81 : decode cX8_moves 81 = .ok (.bipush 31, 2) := by decide +kernel
theorem dX8_moves_83 : decode cX8_moves 83 = .ok (.if_icmp .ge 73, 3) := by decide +kernel
theorem dX8_moves_86 : decode cX8_moves 86 = .ok (.iload_n 2, 1) := by decide +kernel
theorem dX8_moves_87 : decode cX8_moves 87 = .ok (.ifCond .ne 69, 3) := by decide +kernel
theorem dX8_moves_90 : decode cX8_moves 90 = .ok (.aload_n 0, 1) := by decide +kernel
theorem dX8_moves_91 : decode cX8_moves 91 = .ok (.iload_n 3, 1) := by decide +kernel
theorem dX8_moves_92 : decode cX8_moves 92 = .ok (.iload 4, 2) := by decide +kernel
theorem dX8_moves_94 : decode cX8_moves 94 = .ok (.invokevirtual 97, 3) := by decide +kernel
theorem dX8_moves_97 : decode cX8_moves 97 = .ok (.ifCond .eq 21, 3) := by decide +kernel
theorem dX8_moves_100 : decode cX8_moves 100 = .ok (.aload_n 0, 1) := by decide +kernel
theorem dX8_moves_101 : decode cX8_moves 101 = .ok (.iload_n 3, 1) := by decide +kernel
theorem dX8_moves_102 : decode cX8_moves 102 = .ok (.iload 4, 2) := by decide +kernel
theorem dX8_moves_104 : decode cX8_moves 104 = .ok (.invokevirtual 101, 3) := by decide +kernel
theorem dX8_moves_107 : decode cX8_moves 107 = .ok (.pop, 1) := by decide +kernel
theorem dX8_moves_108 : decode cX8_moves 108 = .ok (.aload_n 0, 1) := by decide +kernel
theorem dX8_moves_109 : decode cX8_moves 109 = .ok (.iload_n 1, 1) := by decide +kernel
theorem dX8_moves_110 : decode cX8_moves 110 = .ok (.invokevirtual 161, 3) := by decide +kernel
theorem dX8_moves_113 : decode cX8_moves 113 = .ok (.istore_n 2, 1) := by decide +kernel
theorem dX8_moves_114 : decode cX8_moves 114 = .ok (.aload_n 0, 1) := by decide +kernel
theorem dX8_moves_115 : decode cX8_moves 115 = .ok (.invokevirtual 164, 3) := by decide +kernel
theorem dX8_moves_118 : decode cX8_moves 118 = .ok (.iload_n 2, 1) := by decide +kernel
theorem dX8_moves_119 : decode cX8_moves 119 = .ok (.ifCond .ne 31, 3) := by decide +kernel
theorem dX8_moves_122 : decode cX8_moves 122 = .ok (.aload_n 0, 1) := by decide +kernel
theorem dX8_moves_123 : decode cX8_moves 123 = .ok (.iload_n 3, 1) := by decide +kernel
theorem dX8_moves_124 : decode cX8_moves 124 = .ok (.iload 4, 2) := by decide +kernel
theorem dX8_moves_126 : decode cX8_moves 126 = .ok (.invokevirtual 108, 3) := by decide +kernel
theorem dX8_moves_129 : decode cX8_moves 129 = .ok (.ifCond .eq 21, 3) := by decide +kernel
theorem dX8_moves_132 : decode cX8_moves 132 = .ok (.aload_n 0, 1) := by decide +kernel
theorem dX8_moves_133 : decode cX8_moves 133 = .ok (.iload_n 3, 1) := by decide +kernel
theorem dX8_moves_134 : decode cX8_moves 134 = .ok (.iload 4, 2) := by decide +kernel
theorem dX8_moves_136 : decode cX8_moves 136 = .ok (.invokevirtual 111, 3) := by decide +kernel
theorem dX8_moves_139 : decode cX8_moves 139 = .ok (.pop, 1) := by decide +kernel
theorem dX8_moves_140 : decode cX8_moves 140 = .ok (.aload_n 0, 1) := by decide +kernel
theorem dX8_moves_141 : decode cX8_moves 141 = .ok (.iload_n 1, 1) := by decide +kernel
theorem dX8_moves_142 : decode cX8_moves 142 = .ok (.invokevirtual 161, 3) := by decide +kernel
theorem dX8_moves_145 : decode cX8_moves 145 = .ok (.istore_n 2, 1) := by decide +kernel
theorem dX8_moves_146 : decode cX8_moves 146 = .ok (.aload_n 0, 1) := by decide +kernel
theorem dX8_moves_147 : decode cX8_moves 147 = .ok (.invokevirtual 164, 3) := by decide +kernel
theorem dX8_moves_150 : decode cX8_moves 150 = .ok (.iinc 4 1, 3) := by decide +kernel
theorem dX8_moves_153 : decode cX8_moves 153 = .ok (.goto (-74), 3) := by decide +kernel
theorem dX8_moves_156 : decode cX8_moves 156 = .ok (.iinc 3 1, 3) := by decide +kernel
theorem dX8_moves_159 : decode cX8_moves 159 = .ok (.goto (-98), 3) := by decide +kernel
theorem dX8_moves_162 : decode cX8_moves 162 = .ok (.iload_n 2, 1) := by decide +kernel
theorem dX8_moves_163 : decode cX8_moves 163 = .ok (.ifCond .ne 24, 3) := by decide +kernel
theorem dX8_moves_166 : decode cX8_moves 166 = .ok (.aload_n 0, 1) := by decide +kernel
theorem dX8_moves_167 : decode cX8_moves 167 = .ok (.invokevirtual 114, 3) := by decide +kernel
theorem dX8_moves_170 : decode cX8_moves 170 = .ok (.ifCond .eq 17, 3) := by decide +kernel
theorem dX8_moves_173 : decode cX8_moves 173 = .ok (.aload_n 0, 1) := by decide +kernel
theorem dX8_moves_174 : decode cX8_moves 174 = .ok (.invokevirtual 118, 3) := by decide +kernel
theorem dX8_moves_177 : decode cX8_moves 177 = .ok (.aload_n 0, 1) := by decide +kernel
theorem dX8_moves_178 : decode cX8_moves 178 = .ok (.iload_n 1, 1) := by decide +kernel
theorem dX8_moves_179 : decode cX8_moves 179 = .ok (.invokevirtual 161, 3) := by decide +kernel
theorem dX8_moves_182 : decode cX8_moves 182 = .ok (.istore_n 2, 1) := by decide +kernel
theorem dX8_moves_183 : decode cX8_moves 183 = .ok (.aload_n 0, 1) := by decide +kernel
theorem dX8_moves_184 : decode cX8_moves 184 = .ok (.invokevirtual 164, 3) := by decide +kernel
theorem dX8_moves_187 : decode cX8_moves 187 = .ok (.iload_n 2, 1) := by decide +kernel
theorem dX8_moves_188 : decode cX8_moves 188 = .ok (.ifCond .eq 7, 3) := by decide +kernel
theorem dX8_moves_191 : decode cX8_moves 191 = .ok (.iconst 2, 1) := by decide +kernel
theorem dX8_moves_192 : decode cX8_moves 192 = .ok (.goto 5, 3) := by decide +kernel
theorem dX8_moves_195 : decode cX8_moves 195 = .ok (.bipush (-6), 2) := by decide +kernel
theorem dX8_moves_197 : decode cX8_moves 197 = .ok (.ireturn, 1) := by decide +kernel
theorem dX8_roomFor_0 : decode cX8_roomFor 0 = .ok (.iconst 0, 1) := by decide +kernel
theorem dX8_roomFor_1 : decode cX8_roomFor 1 = .ok (.istore_n 1, 1) := by decide +kernel
theorem dX8_roomFor_2 : decode cX8_roomFor 2 = .ok (.iconst 0, 1) := by decide +kernel
theorem dX8_roomFor_3 : decode cX8_roomFor 3 = .ok (.istore_n 2, 1) := by decide +kernel
theorem dX8_roomFor_4 : decode cX8_roomFor 4 = .ok (.iload_n 2, 1) := by decide +kernel
theorem dX8_roomFor_5 : decode cX8_roomFor 5 = .ok (.aload_n 0, 1) := by decide +kernel
theorem dX8_roomFor_6 : decode cX8_roomFor 6 = .ok (.getfield 7, 3) := by decide +kernel
theorem dX8_roomFor_9 : decode cX8_roomFor 9 = .ok (.bipush 7, 2) := by decide +kernel
theorem dX8_roomFor_11 : decode cX8_roomFor 11 = .ok (.iaload, 1) := by decide +kernel
theorem dX8_roomFor_12 : decode cX8_roomFor 12 = .ok (.if_icmp .ge 44, 3) := by decide +kernel
theorem dX8_roomFor_15 : decode cX8_roomFor 15 = .ok (.iload_n 1, 1) := by decide +kernel
theorem dX8_roomFor_16 : decode cX8_roomFor 16 = .ok (.aload_n 0, 1) := by decide +kernel
theorem dX8_roomFor_17 : decode cX8_roomFor 17 = .ok (.getfield 7, 3) := by decide +kernel
theorem dX8_roomFor_20 : decode cX8_roomFor 20 = .ok (.bipush 9, 2) := by decide +kernel
theorem dX8_roomFor_22 : decode cX8_roomFor 22 = .ok (.iaload, 1) := by decide +kernel
theorem dX8_roomFor_23 : decode cX8_roomFor 23 = .ok (.ifCond .le 24, 3) := by decide +kernel
theorem dX8_roomFor_26 : decode cX8_roomFor 26 = .ok (.aload_n 0, 1) := by decide +kernel
theorem dX8_roomFor_27 : decode cX8_roomFor 27 = .ok (.iload_n 2, 1) := by decide +kernel
theorem dX8_roomFor_28 : decode cX8_roomFor 28 = .ok (.aload_n 0, 1) := by decide +kernel
theorem dX8_roomFor_29 : decode cX8_roomFor 29 = .ok (.getfield 7, 3) := by decide +kernel
theorem dX8_roomFor_32 : decode cX8_roomFor 32 = .ok (.bipush 9, 2) := by decide +kernel
theorem dX8_roomFor_34 : decode cX8_roomFor 34 = .ok (.iaload, 1) := by decide +kernel
theorem dX8_roomFor_35 : decode cX8_roomFor 35 = .ok (.invokevirtual 108, 3) := by decide +kernel
theorem dX8_roomFor_38 : decode cX8_roomFor 38 = .ok (.ifCond .eq 9, 3) := by decide +kernel
theorem dX8_roomFor_41 : decode cX8_roomFor 41 = .ok (.iconst 1, 1) := by decide +kernel
theorem dX8_roomFor_42 : decode cX8_roomFor 42 = .ok (.iload_n 2, 1) := by decide +kernel
theorem dX8_roomFor_43 : decode cX8_roomFor 43 = .ok (.ishl, 1) := by decide +kernel
theorem dX8_roomFor_44 : decode cX8_roomFor 44 = .ok (.goto 4, 3) := by decide +kernel
theorem dX8_roomFor_47 : decode cX8_roomFor 47 = .ok (.iconst 0, 1) := by decide +kernel
theorem dX8_roomFor_48 : decode cX8_roomFor 48 = .ok (.ior, 1) := by decide +kernel
theorem dX8_roomFor_49 : decode cX8_roomFor 49 = .ok (.istore_n 1, 1) := by decide +kernel
theorem dX8_roomFor_50 : decode cX8_roomFor 50 = .ok (.iinc 2 1, 3) := by decide +kernel
theorem dX8_roomFor_53 : decode cX8_roomFor 53 = .ok (.goto (-49), 3) := by decide +kernel
theorem dX8_roomFor_56 : decode cX8_roomFor 56 = .ok (.iload_n 1, 1) := by decide +kernel
theorem dX8_roomFor_57 : decode cX8_roomFor 57 = .ok (.ireturn, 1) := by decide +kernel
theorem dX8_buried_0 : decode cX8_buried 0 = .ok (.iconst 0, 1) := by decide +kernel
theorem dX8_buried_1 : decode cX8_buried 1 = .ok (.istore_n 1, 1) := by decide +kernel
theorem dX8_buried_2 : decode cX8_buried 2 = .ok (.iconst 0, 1) := by decide +kernel
theorem dX8_buried_3 : decode cX8_buried 3 = .ok (.istore_n 2, 1) := by decide +kernel
theorem dX8_buried_4 : decode cX8_buried 4 = .ok (.iload_n 2, 1) := by decide +kernel
theorem dX8_buried_5 : decode cX8_buried 5 = .ok (.aload_n 0, 1) := by decide +kernel
theorem dX8_buried_6 : decode cX8_buried 6 = .ok (.getfield 7, 3) := by decide +kernel
theorem dX8_buried_9 : decode cX8_buried 9 = .ok (.bipush 7, 2) := by decide +kernel
theorem dX8_buried_11 : decode cX8_buried 11 = .ok (.iaload, 1) := by decide +kernel
theorem dX8_buried_12 : decode cX8_buried 12 = .ok (.if_icmp .ge 118, 3) := by decide +kernel
theorem dX8_buried_15 : decode cX8_buried 15 = .ok (.bipush 60, 2) := by decide +kernel
theorem dX8_buried_17 : decode cX8_buried 17 = .ok (.bipush 30, 2) := by decide +kernel
theorem dX8_buried_19 : decode cX8_buried 19 = .ok (.iload_n 2, 1) := by decide +kernel
theorem dX8_buried_20 : decode cX8_buried 20 = .ok (.imul, 1) := by decide +kernel
theorem dX8_buried_21 : decode cX8_buried 21 = .ok (.iadd, 1) := by decide +kernel
theorem dX8_buried_22 : decode cX8_buried 22 = .ok (.istore_n 3, 1) := by decide +kernel
theorem dX8_buried_23 : decode cX8_buried 23 = .ok (.iconst 0, 1) := by decide +kernel
theorem dX8_buried_24 : decode cX8_buried 24 = .ok (.istore 4, 2) := by decide +kernel
theorem dX8_buried_26 : decode cX8_buried 26 = .ok (.iload 4, 2) := by decide +kernel
theorem dX8_buried_28 : decode cX8_buried 28 = .ok (.aload_n 0, 1) := by decide +kernel
theorem dX8_buried_29 : decode cX8_buried 29 = .ok (.iload_n 2, 1) := by decide +kernel
theorem dX8_buried_30 : decode cX8_buried 30 = .ok (.invokevirtual 72, 3) := by decide +kernel
theorem dX8_buried_33 : decode cX8_buried 33 = .ok (.if_icmp .ge 91, 3) := by decide +kernel
theorem dX8_buried_36 : decode cX8_buried 36 = .ok (.aload_n 0, 1) := by decide +kernel
theorem dX8_buried_37 : decode cX8_buried 37 = .ok (.aload_n 0, 1) := by decide +kernel
theorem dX8_buried_38 : decode cX8_buried 38 = .ok (.getfield 7, 3) := by decide +kernel
theorem dX8_buried_41 : decode cX8_buried 41 = .ok (.iload_n 3, 1) := by decide +kernel
theorem dX8_buried_42 : decode cX8_buried 42 = .ok (.iload 4, 2) := by decide +kernel
theorem dX8_buried_44 : decode cX8_buried 44 = .ok (.iadd, 1) := by decide +kernel
theorem dX8_buried_45 : decode cX8_buried 45 = .ok (.iaload, 1) := by decide +kernel
theorem dX8_buried_46 : decode cX8_buried 46 = .ok (.invokevirtual 130, 3) := by decide +kernel
theorem dX8_buried_49 : decode cX8_buried 49 = .ok (.istore 5, 2) := by decide +kernel
theorem dX8_buried_51 : decode cX8_buried 51 = .ok (.iconst 0, 1) := by decide +kernel
theorem dX8_buried_52 : decode cX8_buried 52 = .ok (.istore 6, 2) := by decide +kernel
theorem dX8_buried_54 : decode cX8_buried 54 = .ok (.iconst 0, 1) := by decide +kernel
theorem dX8_buried_55 : decode cX8_buried 55 = .ok (.istore 7, 2) := by decide +kernel
theorem dX8_buried_57 : decode cX8_buried 57 = .ok (.iload 7, 2) := by decide +kernel
theorem dX8_buried_59 : decode cX8_buried 59 = .ok (.iload 4, 2) := by decide +kernel
theorem dX8_buried_61 : decode cX8_buried 61 = .ok (.if_icmp .ge 39, 3) := by decide +kernel
theorem dX8_buried_64 : decode cX8_buried 64 = .ok (.iload 6, 2) := by decide +kernel
theorem dX8_buried_66 : decode cX8_buried 66 = .ok (.ifCond .ne 21, 3) := by decide +kernel
theorem dX8_buried_69 : decode cX8_buried 69 = .ok (.aload_n 0, 1) := by decide +kernel
theorem dX8_buried_70 : decode cX8_buried 70 = .ok (.aload_n 0, 1) := by decide +kernel
theorem dX8_buried_71 : decode cX8_buried 71 = .ok (.getfield 7, 3) := by decide +kernel
theorem dX8_buried_74 : decode cX8_buried 74 = .ok (.iload_n 3, 1) := by decide +kernel
theorem dX8_buried_75 : decode cX8_buried 75 = .ok (.iload 7, 2) := by decide +kernel
theorem dX8_buried_77 : decode cX8_buried 77 = .ok (.iadd, 1) := by decide +kernel
theorem dX8_buried_78 : decode cX8_buried 78 = .ok (.iaload, 1) := by decide +kernel
theorem dX8_buried_79 : decode cX8_buried 79 = .ok (.invokevirtual 130, 3) := by decide +kernel
theorem dX8_buried_82 : decode cX8_buried 82 = .ok (.iload 5, 2) := by decide +kernel
theorem dX8_buried_84 : decode cX8_buried 84 = .ok (.if_icmp .eq 7, 3) := by decide +kernel
theorem dX8_buried_87 : decode cX8_buried 87 = .ok (.iconst 1, 1) := by decide +kernel
theorem dX8_buried_88 : decode cX8_buried 88 = .ok (.goto 4, 3) := by decide +kernel
theorem dX8_buried_91 : decode cX8_buried 91 = .ok (.iconst 0, 1) := by decide +kernel
theorem dX8_buried_92 : decode cX8_buried 92 = .ok (.istore 6, 2) := by decide +kernel
theorem dX8_buried_94 : decode cX8_buried 94 = .ok (.iinc 7 1, 3) := by decide +kernel
theorem dX8_buried_97 : decode cX8_buried 97 = .ok (.goto (-40), 3) := by decide +kernel
theorem dX8_buried_100 : decode cX8_buried 100 = .ok (.iload_n 1, 1) := by decide +kernel
theorem dX8_buried_101 : decode cX8_buried 101 = .ok (.iload 5, 2) := by decide +kernel
theorem dX8_buried_103 : decode cX8_buried 103 = .ok (.ifCond .lt 12, 3) := by decide +kernel
theorem dX8_buried_106 : decode cX8_buried 106 = .ok (.iload 6, 2) := by decide +kernel
theorem dX8_buried_108 : decode cX8_buried 108 = .ok (.ifCond .eq 7, 3) := by decide +kernel
theorem dX8_buried_111 : decode cX8_buried 111 = .ok (.iconst 1, 1) := by decide +kernel
theorem dX8_buried_112 : decode cX8_buried 112 = .ok (.goto 4, 3) := by decide +kernel
theorem dX8_buried_115 : decode cX8_buried 115 = .ok (.iconst 0, 1) := by decide +kernel
theorem dX8_buried_116 : decode cX8_buried 116 = .ok (.iadd, 1) := by decide +kernel
theorem dX8_buried_117 : decode cX8_buried 117 = .ok (.istore_n 1, 1) := by decide +kernel
theorem dX8_buried_118 : decode cX8_buried 118 = .ok (.iinc 4 1, 3) := by decide +kernel
theorem dX8_buried_121 : decode cX8_buried 121 = .ok (.goto (-95), 3) := by decide +kernel
theorem dX8_buried_124 : decode cX8_buried 124 = .ok (.iinc 2 1, 3) := by decide +kernel
theorem dX8_buried_127 : decode cX8_buried 127 = .ok (.goto (-123), 3) := by decide +kernel
theorem dX8_buried_130 : decode cX8_buried 130 = .ok (.iload_n 1, 1) := by decide +kernel
theorem dX8_buried_131 : decode cX8_buried 131 = .ok (.ireturn, 1) := by decide +kernel
theorem dX8_sign_0 : decode cX8_sign 0 = .ok (.aload_n 0, 1) := by decide +kernel
theorem dX8_sign_1 : decode cX8_sign 1 = .ok (.getfield 167, 3) := by decide +kernel
theorem dX8_sign_4 : decode cX8_sign 4 = .ok (.aload_n 0, 1) := by decide +kernel
theorem dX8_sign_5 : decode cX8_sign 5 = .ok (.getfield 149, 3) := by decide +kernel
theorem dX8_sign_8 : decode cX8_sign 8 = .ok (.if_icmp .ge 15, 3) := by decide +kernel
theorem dX8_sign_11 : decode cX8_sign 11 = .ok (.aload_n 0, 1) := by decide +kernel
theorem dX8_sign_12 : decode cX8_sign 12 = .ok (.getfield 29, 3) := by decide +kernel
theorem dX8_sign_15 : decode cX8_sign 15 = .ok (.aload_n 0, 1) := by decide +kernel
theorem dX8_sign_16 : decode cX8_sign 16 = .ok (.getfield 167, 3) := by decide +kernel
theorem dX8_sign_19 : decode cX8_sign 19 = .ok (.iaload, 1) := by decide +kernel
theorem dX8_sign_20 : decode cX8_sign 20 = .ok (.goto 4, 3) := by decide +kernel
theorem dX8_sign_23 : decode cX8_sign 23 = .ok (.iconst 0, 1) := by decide +kernel
theorem dX8_sign_24 : decode cX8_sign 24 = .ok (.ireturn, 1) := by decide +kernel
theorem dX8_one_0 : decode cX8_one 0 = .ok (.aload_n 0, 1) := by decide +kernel
theorem dX8_one_1 : decode cX8_one 1 = .ok (.invokevirtual 170, 3) := by decide +kernel
theorem dX8_one_4 : decode cX8_one 4 = .ok (.iload_n 1, 1) := by decide +kernel
theorem dX8_one_5 : decode cX8_one 5 = .ok (.isub, 1) := by decide +kernel
theorem dX8_one_6 : decode cX8_one 6 = .ok (.istore_n 3, 1) := by decide +kernel
theorem dX8_one_7 : decode cX8_one 7 = .ok (.aload_n 0, 1) := by decide +kernel
theorem dX8_one_8 : decode cX8_one 8 = .ok (.aload_n 0, 1) := by decide +kernel
theorem dX8_one_9 : decode cX8_one 9 = .ok (.getfield 173, 3) := by decide +kernel
theorem dX8_one_12 : decode cX8_one 12 = .ok (.ifCond .ne 12, 3) := by decide +kernel
theorem dX8_one_15 : decode cX8_one 15 = .ok (.iload_n 3, 1) := by decide +kernel
theorem dX8_one_16 : decode cX8_one 16 = .ok (.iconst 0, 1) := by decide +kernel
theorem dX8_one_17 : decode cX8_one 17 = .ok (.iload_n 2, 1) := by decide +kernel
theorem dX8_one_18 : decode cX8_one 18 = .ok (.invokestatic 55, 3) := by decide +kernel
theorem dX8_one_21 : decode cX8_one 21 = .ok (.ifCond .ne 7, 3) := by decide +kernel
theorem dX8_one_24 : decode cX8_one 24 = .ok (.iconst 1, 1) := by decide +kernel
theorem dX8_one_25 : decode cX8_one 25 = .ok (.goto 4, 3) := by decide +kernel
theorem dX8_one_28 : decode cX8_one 28 = .ok (.iconst 0, 1) := by decide +kernel
theorem dX8_one_29 : decode cX8_one 29 = .ok (.putfield 173, 3) := by decide +kernel
theorem dX8_one_32 : decode cX8_one 32 = .ok (.aload_n 0, 1) := by decide +kernel
theorem dX8_one_33 : decode cX8_one 33 = .ok (.dup, 1) := by decide +kernel
theorem dX8_one_34 : decode cX8_one 34 = .ok (.getfield 167, 3) := by decide +kernel
theorem dX8_one_37 : decode cX8_one 37 = .ok (.aload_n 0, 1) := by decide +kernel
theorem dX8_one_38 : decode cX8_one 38 = .ok (.getfield 173, 3) := by decide +kernel
theorem dX8_one_41 : decode cX8_one 41 = .ok (.ifCond .eq 7, 3) := by decide +kernel
theorem dX8_one_44 : decode cX8_one 44 = .ok (.iconst 0, 1) := by decide +kernel
theorem dX8_one_45 : decode cX8_one 45 = .ok (.goto 4, 3) := by decide +kernel
theorem dX8_one_48 : decode cX8_one 48 = .ok (.iconst 1, 1) := by decide +kernel
theorem dX8_one_49 : decode cX8_one 49 = .ok (.iadd, 1) := by decide +kernel
theorem dX8_one_50 : decode cX8_one 50 = .ok (.putfield 167, 3) := by decide +kernel
theorem dX8_one_53 : decode cX8_one 53 = .ok (.iload_n 3, 1) := by decide +kernel
theorem dX8_one_54 : decode cX8_one 54 = .ok (.ireturn, 1) := by decide +kernel
theorem dX8_number_0 : decode cX8_number 0 = .ok (.aload_n 0, 1) := by decide +kernel
theorem dX8_number_1 : decode cX8_number 1 = .ok (.bipush 48, 2) := by decide +kernel
theorem dX8_number_3 : decode cX8_number 3 = .ok (.bipush 9, 2) := by decide +kernel
theorem dX8_number_5 : decode cX8_number 5 = .ok (.invokevirtual 176, 3) := by decide +kernel
theorem dX8_number_8 : decode cX8_number 8 = .ok (.istore_n 1, 1) := by decide +kernel
theorem dX8_number_9 : decode cX8_number 9 = .ok (.aload_n 0, 1) := by decide +kernel
theorem dX8_number_10 : decode cX8_number 10 = .ok (.getfield 173, 3) := by decide +kernel
theorem dX8_number_13 : decode cX8_number 13 = .ok (.ifCond .ne 64, 3) := by decide +kernel
theorem dX8_number_16 : decode cX8_number 16 = .ok (.iload_n 1, 1) := by decide +kernel
theorem dX8_number_17 : decode cX8_number 17 = .ok (.ifCond .le 60, 3) := by decide +kernel
theorem dX8_number_20 : decode cX8_number 20 = .ok (.aload_n 0, 1) := by decide +kernel
theorem dX8_number_21 : decode cX8_number 21 = .ok (.invokevirtual 170, 3) := by decide +kernel
theorem dX8_number_24 : decode cX8_number 24 = .ok (.bipush 48, 2) := by decide +kernel
theorem dX8_number_26 : decode cX8_number 26 = .ok (.bipush 57, 2) := by decide +kernel
theorem dX8_number_28 : decode cX8_number 28 = .ok (.invokestatic 55, 3) := by decide +kernel
theorem dX8_number_31 : decode cX8_number 31 = .ok (.ifCond .eq 46, 3) := by decide +kernel
theorem dX8_number_34 : decode cX8_number 34 = .ok (.bipush 10, 2) := by decide +kernel
theorem dX8_number_36 : decode cX8_number 36 = .ok (.iload_n 1, 1) := by decide +kernel
theorem dX8_number_37 : decode cX8_number 37 = .ok (.imul, 1) := by decide +kernel
theorem dX8_number_38 : decode cX8_number 38 = .ok (.aload_n 0, 1) := by decide +kernel
theorem dX8_number_39 : decode cX8_number 39 = .ok (.invokevirtual 170, 3) := by decide +kernel
theorem dX8_number_42 : decode cX8_number 42 = .ok (.iadd, 1) := by decide +kernel
theorem dX8_number_43 : decode cX8_number 43 = .ok (.bipush 48, 2) := by decide +kernel
theorem dX8_number_45 : decode cX8_number 45 = .ok (.isub, 1) := by decide +kernel
theorem dX8_number_46 : decode cX8_number 46 = .ok (.bipush 99, 2) := by decide +kernel
theorem dX8_number_48 : decode cX8_number 48 = .ok (.if_icmp .gt 29, 3) := by decide +kernel
theorem dX8_number_51 : decode cX8_number 51 = .ok (.bipush 10, 2) := by decide +kernel
theorem dX8_number_53 : decode cX8_number 53 = .ok (.iload_n 1, 1) := by decide +kernel
theorem dX8_number_54 : decode cX8_number 54 = .ok (.imul, 1) := by decide +kernel
theorem dX8_number_55 : decode cX8_number 55 = .ok (.aload_n 0, 1) := by decide +kernel
theorem dX8_number_56 : decode cX8_number 56 = .ok (.invokevirtual 170, 3) := by decide +kernel
theorem dX8_number_59 : decode cX8_number 59 = .ok (.iadd, 1) := by decide +kernel
theorem dX8_number_60 : decode cX8_number 60 = .ok (.bipush 48, 2) := by decide +kernel
theorem dX8_number_62 : decode cX8_number 62 = .ok (.isub, 1) := by decide +kernel
theorem dX8_number_63 : decode cX8_number 63 = .ok (.istore_n 1, 1) := by decide +kernel
theorem dX8_number_64 : decode cX8_number 64 = .ok (.aload_n 0, 1) := by decide +kernel
theorem dX8_number_65 : decode cX8_number 65 = .ok (.dup, 1) := by decide +kernel
theorem dX8_number_66 : decode cX8_number 66 = .ok (.getfield 167, 3) := by decide +kernel
theorem dX8_number_69 : decode cX8_number 69 = .ok (.iconst 1, 1) := by decide +kernel
theorem dX8_number_70 : decode cX8_number 70 = .ok (.iadd, 1) := by decide +kernel
theorem dX8_number_71 : decode cX8_number 71 = .ok (.putfield 167, 3) := by decide +kernel
theorem dX8_number_74 : decode cX8_number 74 = .ok (.goto (-65), 3) := by decide +kernel
theorem dX8_number_77 : decode cX8_number 77 = .ok (.iload_n 1, 1) := by decide +kernel
theorem dX8_number_78 : decode cX8_number 78 = .ok (.ireturn, 1) := by decide +kernel
theorem dX8_readOne_0 : decode cX8_readOne 0 = .ok (.iconst 3, 1) := by decide +kernel
theorem dX8_readOne_1 : decode cX8_readOne 1 = .ok (.aload_n 0, 1) := by decide +kernel
theorem dX8_readOne_2 : decode cX8_readOne 2 = .ok (.getfield 179, 3) := by decide +kernel
theorem dX8_readOne_5 : decode cX8_readOne 5 = .ok (.imul, 1) := by decide +kernel
theorem dX8_readOne_6 : decode cX8_readOne 6 = .ok (.istore_n 1, 1) := by decide +kernel
theorem dX8_readOne_7 : decode cX8_readOne 7 = .ok (.aload_n 0, 1) := by decide +kernel
theorem dX8_readOne_8 : decode cX8_readOne 8 = .ok (.invokevirtual 170, 3) := by decide +kernel
theorem dX8_readOne_11 : decode cX8_readOne 11 = .ok (.istore_n 2, 1) := by decide +kernel
theorem dX8_readOne_12 : decode cX8_readOne 12 = .ok (.aload_n 0, 1) := by decide +kernel
theorem dX8_readOne_13 : decode cX8_readOne 13 = .ok (.getfield 44, 3) := by decide +kernel
theorem dX8_readOne_16 : decode cX8_readOne 16 = .ok (.iload_n 1, 1) := by decide +kernel
theorem dX8_readOne_17 : decode cX8_readOne 17 = .ok (.iload_n 2, 1) := by decide +kernel
theorem dX8_readOne_18 : decode cX8_readOne 18 = .ok (.iastore, 1) := by decide +kernel
theorem dX8_readOne_19 : decode cX8_readOne 19 = .ok (.aload_n 0, 1) := by decide +kernel
theorem dX8_readOne_20 : decode cX8_readOne 20 = .ok (.getfield 44, 3) := by decide +kernel
theorem dX8_readOne_23 : decode cX8_readOne 23 = .ok (.iload_n 1, 1) := by decide +kernel
theorem dX8_readOne_24 : decode cX8_readOne 24 = .ok (.iconst 1, 1) := by decide +kernel
theorem dX8_readOne_25 : decode cX8_readOne 25 = .ok (.iadd, 1) := by decide +kernel
theorem dX8_readOne_26 : decode cX8_readOne 26 = .ok (.iconst 0, 1) := by decide +kernel
theorem dX8_readOne_27 : decode cX8_readOne 27 = .ok (.iastore, 1) := by decide +kernel
theorem dX8_readOne_28 : decode cX8_readOne 28 = .ok (.aload_n 0, 1) := by decide +kernel
theorem dX8_readOne_29 : decode cX8_readOne 29 = .ok (.iload_n 2, 1) := by decide +kernel
theorem dX8_readOne_30 : decode cX8_readOne 30 = .ok (.bipush 112, 2) := by decide +kernel
theorem dX8_readOne_32 : decode cX8_readOne 32 = .ok (.if_icmp .eq 31, 3) := by decide +kernel
theorem dX8_readOne_35 : decode cX8_readOne 35 = .ok (.iload_n 2, 1) := by decide +kernel
theorem dX8_readOne_36 : decode cX8_readOne 36 = .ok (.bipush 113, 2) := by decide +kernel
theorem dX8_readOne_38 : decode cX8_readOne 38 = .ok (.if_icmp .eq 25, 3) := by decide +kernel
theorem dX8_readOne_41 : decode cX8_readOne 41 = .ok (.iload_n 2, 1) := by decide +kernel
theorem dX8_readOne_42 : decode cX8_readOne 42 = .ok (.bipush 114, 2) := by decide +kernel
theorem dX8_readOne_44 : decode cX8_readOne 44 = .ok (.if_icmp .eq 19, 3) := by decide +kernel
theorem dX8_readOne_47 : decode cX8_readOne 47 = .ok (.iload_n 2, 1) := by decide +kernel
theorem dX8_readOne_48 : decode cX8_readOne 48 = .ok (.bipush 119, 2) := by decide +kernel
theorem dX8_readOne_50 : decode cX8_readOne 50 = .ok (.if_icmp .eq 13, 3) := by decide +kernel
theorem dX8_readOne_53 : decode cX8_readOne 53 = .ok (.iload_n 2, 1) := by decide +kernel
theorem dX8_readOne_54 : decode cX8_readOne 54 = .ok (.bipush 116, 2) := by decide +kernel
theorem dX8_readOne_56 : decode cX8_readOne 56 = .ok (.if_icmp .eq 7, 3) := by decide +kernel
theorem dX8_readOne_59 : decode cX8_readOne 59 = .ok (.iconst 1, 1) := by decide +kernel
theorem dX8_readOne_60 : decode cX8_readOne 60 = .ok (.goto 4, 3) := by decide +kernel
theorem dX8_readOne_63 : decode cX8_readOne 63 = .ok (.iconst 0, 1) := by decide +kernel
theorem dX8_readOne_64 : decode cX8_readOne 64 = .ok (.putfield 173, 3) := by decide +kernel
theorem dX8_readOne_67 : decode cX8_readOne 67 = .ok (.aload_n 0, 1) := by decide +kernel
theorem dX8_readOne_68 : decode cX8_readOne 68 = .ok (.getfield 173, 3) := by decide +kernel
theorem dX8_readOne_71 : decode cX8_readOne 71 = .ok (.ifCond .eq 4, 3) := by decide +kernel
theorem dX8_readOne_74 : decode cX8_readOne 74 = .ok (.return_, 1) := by decide +kernel
theorem dX8_readOne_75 : decode cX8_readOne 75 = .ok (.aload_n 0, 1) := by decide +kernel
theorem dX8_readOne_76 : decode cX8_readOne 76 = .ok (.dup, 1) := by decide +kernel
theorem dX8_readOne_77 : decode cX8_readOne 77 = .ok (.getfield 167, 3) := by decide +kernel
theorem dX8_readOne_80 : decode cX8_readOne 80 = .ok (.iconst 1, 1) := by decide +kernel
theorem dX8_readOne_81 : decode cX8_readOne 81 = .ok (.iadd, 1) := by decide +kernel
theorem dX8_readOne_82 : decode cX8_readOne 82 = .ok (.putfield 167, 3) := by decide +kernel
theorem dX8_readOne_85 : decode cX8_readOne 85 = .ok (.iload_n 2, 1) := by decide +kernel
theorem dX8_readOne_86 : decode cX8_readOne 86 = .ok (.bipush 112, 2) := by decide +kernel
theorem dX8_readOne_88 : decode cX8_readOne 88 = .ok (.if_icmp .eq 9, 3) := by decide +kernel
theorem dX8_readOne_91 : decode cX8_readOne 91 = .ok (.iload_n 2, 1) := by decide +kernel
theorem dX8_readOne_92 : decode cX8_readOne 92 = .ok (.bipush 113, 2) := by decide +kernel
theorem dX8_readOne_94 : decode cX8_readOne 94 = .ok (.if_icmp .ne 45, 3) := by decide +kernel
theorem dX8_readOne_97 : decode cX8_readOne 97 = .ok (.aload_n 0, 1) := by decide +kernel
theorem dX8_readOne_98 : decode cX8_readOne 98 = .ok (.getfield 44, 3) := by decide +kernel
theorem dX8_readOne_101 : decode cX8_readOne 101 = .ok (.iload_n 1, 1) := by decide +kernel
theorem dX8_readOne_102 : decode cX8_readOne 102 = .ok (.iconst 1, 1) := by decide +kernel
theorem dX8_readOne_103 : decode cX8_readOne 103 = .ok (.iadd, 1) := by decide +kernel
theorem dX8_readOne_104 : decode cX8_readOne 104 = .ok (.aload_n 0, 1) := by decide +kernel
theorem dX8_readOne_105 : decode cX8_readOne 105 = .ok (.bipush 65, 2) := by decide +kernel
theorem dX8_readOne_107 : decode cX8_readOne 107 = .ok (.bipush 7, 2) := by decide +kernel
theorem dX8_readOne_109 : decode cX8_readOne 109 = .ok (.invokevirtual 176, 3) := by decide +kernel
theorem dX8_readOne_112 : decode cX8_readOne 112 = .ok (.iastore, 1) := by decide +kernel
theorem dX8_readOne_113 : decode cX8_readOne 113 = .ok (.aload_n 0, 1) := by decide +kernel
theorem dX8_readOne_114 : decode cX8_readOne 114 = .ok (.getfield 44, 3) := by decide +kernel
theorem dX8_readOne_117 : decode cX8_readOne 117 = .ok (.iload_n 1, 1) := by decide +kernel
theorem dX8_readOne_118 : decode cX8_readOne 118 = .ok (.iconst 2, 1) := by decide +kernel
theorem dX8_readOne_119 : decode cX8_readOne 119 = .ok (.iadd, 1) := by decide +kernel
theorem dX8_readOne_120 : decode cX8_readOne 120 = .ok (.aload_n 0, 1) := by decide +kernel
theorem dX8_readOne_121 : decode cX8_readOne 121 = .ok (.getfield 173, 3) := by decide +kernel
theorem dX8_readOne_124 : decode cX8_readOne 124 = .ok (.ifCond .eq 7, 3) := by decide +kernel
theorem dX8_readOne_127 : decode cX8_readOne 127 = .ok (.iconst 0, 1) := by decide +kernel
theorem dX8_readOne_128 : decode cX8_readOne 128 = .ok (.goto 7, 3) := by decide +kernel
theorem dX8_readOne_131 : decode cX8_readOne 131 = .ok (.aload_n 0, 1) := by decide +kernel
theorem dX8_readOne_132 : decode cX8_readOne 132 = .ok (.invokevirtual 182, 3) := by decide +kernel
theorem dX8_readOne_135 : decode cX8_readOne 135 = .ok (.iastore, 1) := by decide +kernel
theorem dX8_readOne_136 : decode cX8_readOne 136 = .ok (.goto 21, 3) := by decide +kernel
theorem dX8_readOne_139 : decode cX8_readOne 139 = .ok (.iload_n 2, 1) := by decide +kernel
theorem dX8_readOne_140 : decode cX8_readOne 140 = .ok (.bipush 114, 2) := by decide +kernel
theorem dX8_readOne_142 : decode cX8_readOne 142 = .ok (.if_icmp .eq 15, 3) := by decide +kernel
theorem dX8_readOne_145 : decode cX8_readOne 145 = .ok (.aload_n 0, 1) := by decide +kernel
theorem dX8_readOne_146 : decode cX8_readOne 146 = .ok (.getfield 44, 3) := by decide +kernel
theorem dX8_readOne_149 : decode cX8_readOne 149 = .ok (.iload_n 1, 1) := by decide +kernel
theorem dX8_readOne_150 : decode cX8_readOne 150 = .ok (.iconst 1, 1) := by decide +kernel
theorem dX8_readOne_151 : decode cX8_readOne 151 = .ok (.iadd, 1) := by decide +kernel
theorem dX8_readOne_152 : decode cX8_readOne 152 = .ok (.aload_n 0, 1) := by decide +kernel
theorem dX8_readOne_153 : decode cX8_readOne 153 = .ok (.invokevirtual 182, 3) := by decide +kernel
theorem dX8_readOne_156 : decode cX8_readOne 156 = .ok (.iastore, 1) := by decide +kernel
theorem dX8_readOne_157 : decode cX8_readOne 157 = .ok (.aload_n 0, 1) := by decide +kernel
theorem dX8_readOne_158 : decode cX8_readOne 158 = .ok (.dup, 1) := by decide +kernel
theorem dX8_readOne_159 : decode cX8_readOne 159 = .ok (.getfield 179, 3) := by decide +kernel
theorem dX8_readOne_162 : decode cX8_readOne 162 = .ok (.iconst 1, 1) := by decide +kernel
theorem dX8_readOne_163 : decode cX8_readOne 163 = .ok (.iadd, 1) := by decide +kernel
theorem dX8_readOne_164 : decode cX8_readOne 164 = .ok (.putfield 179, 3) := by decide +kernel
theorem dX8_readOne_167 : decode cX8_readOne 167 = .ok (.return_, 1) := by decide +kernel
theorem dX8_faultOf_0 : decode cX8_faultOf 0 = .ok (.aload_n 0, 1) := by decide +kernel
theorem dX8_faultOf_1 : decode cX8_faultOf 1 = .ok (.iconst 0, 1) := by decide +kernel
theorem dX8_faultOf_2 : decode cX8_faultOf 2 = .ok (.putfield 167, 3) := by decide +kernel
theorem dX8_faultOf_5 : decode cX8_faultOf 5 = .ok (.aload_n 0, 1) := by decide +kernel
theorem dX8_faultOf_6 : decode cX8_faultOf 6 = .ok (.iconst 0, 1) := by decide +kernel
theorem dX8_faultOf_7 : decode cX8_faultOf 7 = .ok (.putfield 179, 3) := by decide +kernel
theorem dX8_faultOf_10 : decode cX8_faultOf 10 = .ok (.aload_n 0, 1) := by decide +kernel
theorem dX8_faultOf_11 : decode cX8_faultOf 11 = .ok (.iconst 0, 1) := by decide +kernel
theorem dX8_faultOf_12 : decode cX8_faultOf 12 = .ok (.putfield 173, 3) := by decide +kernel
theorem dX8_faultOf_15 : decode cX8_faultOf 15 = .ok (.aload_n 0, 1) := by decide +kernel
theorem dX8_faultOf_16 : decode cX8_faultOf 16 = .ok (.invokevirtual 185, 3) := by decide +kernel
theorem dX8_faultOf_19 : decode cX8_faultOf 19 = .ok (.aload_n 0, 1) := by decide +kernel
theorem dX8_faultOf_20 : decode cX8_faultOf 20 = .ok (.getfield 173, 3) := by decide +kernel
theorem dX8_faultOf_23 : decode cX8_faultOf 23 = .ok (.ifCond .ne 56, 3) := by decide +kernel
theorem dX8_faultOf_26 : decode cX8_faultOf 26 = .ok (.aload_n 0, 1) := by decide +kernel
theorem dX8_faultOf_27 : decode cX8_faultOf 27 = .ok (.getfield 167, 3) := by decide +kernel
theorem dX8_faultOf_30 : decode cX8_faultOf 30 = .ok (.aload_n 0, 1) := by decide +kernel
theorem dX8_faultOf_31 : decode cX8_faultOf 31 = .ok (.getfield 149, 3) := by decide +kernel
theorem dX8_faultOf_34 : decode cX8_faultOf 34 = .ok (.if_icmp .ge 45, 3) := by decide +kernel
theorem dX8_faultOf_37 : decode cX8_faultOf 37 = .ok (.aload_n 0, 1) := by decide +kernel
theorem dX8_faultOf_38 : decode cX8_faultOf 38 = .ok (.aload_n 0, 1) := by decide +kernel
theorem dX8_faultOf_39 : decode cX8_faultOf 39 = .ok (.invokevirtual 170, 3) := by decide +kernel
theorem dX8_faultOf_42 : decode cX8_faultOf 42 = .ok (.bipush 59, 2) := by decide +kernel
theorem dX8_faultOf_44 : decode cX8_faultOf 44 = .ok (.if_icmp .eq 7, 3) := by decide +kernel
theorem dX8_faultOf_47 : decode cX8_faultOf 47 = .ok (.iconst 1, 1) := by decide +kernel
theorem dX8_faultOf_48 : decode cX8_faultOf 48 = .ok (.goto 4, 3) := by decide +kernel
theorem dX8_faultOf_51 : decode cX8_faultOf 51 = .ok (.iconst 0, 1) := by decide +kernel
theorem dX8_faultOf_52 : decode cX8_faultOf 52 = .ok (.putfield 173, 3) := by decide +kernel
theorem dX8_faultOf_55 : decode cX8_faultOf 55 = .ok (.aload_n 0, 1) := by decide +kernel
theorem dX8_faultOf_56 : decode cX8_faultOf 56 = .ok (.getfield 173, 3) := by decide +kernel
theorem dX8_faultOf_59 : decode cX8_faultOf 59 = .ok (.ifCond .ne (-40), 3) := by decide +kernel
theorem dX8_faultOf_62 : decode cX8_faultOf 62 = .ok (.aload_n 0, 1) := by decide +kernel
theorem dX8_faultOf_63 : decode cX8_faultOf 63 = .ok (.dup, 1) := by decide +kernel
theorem dX8_faultOf_64 : decode cX8_faultOf 64 = .ok (.getfield 167, 3) := by decide +kernel
theorem dX8_faultOf_67 : decode cX8_faultOf 67 = .ok (.iconst 1, 1) := by decide +kernel
theorem dX8_faultOf_68 : decode cX8_faultOf 68 = .ok (.iadd, 1) := by decide +kernel
theorem dX8_faultOf_69 : decode cX8_faultOf 69 = .ok (.putfield 167, 3) := by decide +kernel
theorem dX8_faultOf_72 : decode cX8_faultOf 72 = .ok (.aload_n 0, 1) := by decide +kernel
theorem dX8_faultOf_73 : decode cX8_faultOf 73 = .ok (.invokevirtual 185, 3) := by decide +kernel
theorem dX8_faultOf_76 : decode cX8_faultOf 76 = .ok (.goto (-57), 3) := by decide +kernel
theorem dX8_faultOf_79 : decode cX8_faultOf 79 = .ok (.aload_n 0, 1) := by decide +kernel
theorem dX8_faultOf_80 : decode cX8_faultOf 80 = .ok (.getfield 173, 3) := by decide +kernel
theorem dX8_faultOf_83 : decode cX8_faultOf 83 = .ok (.ifCond .eq 10, 3) := by decide +kernel
theorem dX8_faultOf_86 : decode cX8_faultOf 86 = .ok (.aload_n 0, 1) := by decide +kernel
theorem dX8_faultOf_87 : decode cX8_faultOf 87 = .ok (.getfield 167, 3) := by decide +kernel
theorem dX8_faultOf_90 : decode cX8_faultOf 90 = .ok (.goto 5, 3) := by decide +kernel
theorem dX8_faultOf_93 : decode cX8_faultOf 93 = .ok (.bipush (-6), 2) := by decide +kernel
theorem dX8_faultOf_95 : decode cX8_faultOf 95 = .ok (.ireturn, 1) := by decide +kernel
theorem dX8_put_0 : decode cX8_put 0 = .ok (.iconst 0, 1) := by decide +kernel
theorem dX8_put_1 : decode cX8_put 1 = .ok (.istore_n 3, 1) := by decide +kernel
theorem dX8_put_2 : decode cX8_put 2 = .ok (.lload_n 1, 1) := by decide +kernel
theorem dX8_put_3 : decode cX8_put 3 = .ok (.lstore 4, 2) := by decide +kernel
theorem dX8_put_5 : decode cX8_put 5 = .ok (.lload 4, 2) := by decide +kernel
theorem dX8_put_7 : decode cX8_put 7 = .ok (.ldc2_w 188, 3) := by decide +kernel
theorem dX8_put_10 : decode cX8_put 10 = .ok (.land, 1) := by decide +kernel
theorem dX8_put_11 : decode cX8_put 11 = .ok (.lconst 0, 1) := by decide +kernel
theorem dX8_put_12 : decode cX8_put 12 = .ok (.lcmp, 1) := by decide +kernel
theorem dX8_put_13 : decode cX8_put 13 = .ok (.ifCond .eq 36, 3) := by decide +kernel
theorem dX8_put_16 : decode cX8_put 16 = .ok (.lload 4, 2) := by decide +kernel
theorem dX8_put_18 : decode cX8_put 18 = .ok (.ldc2_w 188, 3) := by decide +kernel
theorem dX8_put_21 : decode cX8_put 21 = .ok (.land, 1) := by decide +kernel
theorem dX8_put_22 : decode cX8_put 22 = .ok (.l2i, 1) := by decide +kernel
theorem dX8_put_23 : decode cX8_put 23 = .ok (.bipush 33, 2) := by decide +kernel
theorem dX8_put_25 : decode cX8_put 25 = .ok (.bipush 126, 2) := by decide +kernel
theorem dX8_put_27 : decode cX8_put 27 = .ok (.invokestatic 55, 3) := by decide +kernel
theorem dX8_put_30 : decode cX8_put 30 = .ok (.ifCond .ne 6, 3) := by decide +kernel
theorem dX8_put_33 : decode cX8_put 33 = .ok (.bipush (-2), 2) := by decide +kernel
theorem dX8_put_35 : decode cX8_put 35 = .ok (.ireturn, 1) := by decide +kernel
theorem dX8_put_36 : decode cX8_put 36 = .ok (.iinc 3 1, 3) := by decide +kernel
theorem dX8_put_39 : decode cX8_put 39 = .ok (.lload 4, 2) := by decide +kernel
theorem dX8_put_41 : decode cX8_put 41 = .ok (.bipush 8, 2) := by decide +kernel
theorem dX8_put_43 : decode cX8_put 43 = .ok (.lushr, 1) := by decide +kernel
theorem dX8_put_44 : decode cX8_put 44 = .ok (.lstore 4, 2) := by decide +kernel
theorem dX8_put_46 : decode cX8_put 46 = .ok (.goto (-41), 3) := by decide +kernel
theorem dX8_put_49 : decode cX8_put 49 = .ok (.lload 4, 2) := by decide +kernel
theorem dX8_put_51 : decode cX8_put 51 = .ok (.lconst 0, 1) := by decide +kernel
theorem dX8_put_52 : decode cX8_put 52 = .ok (.lcmp, 1) := by decide +kernel
theorem dX8_put_53 : decode cX8_put 53 = .ok (.ifCond .ne 7, 3) := by decide +kernel
theorem dX8_put_56 : decode cX8_put 56 = .ok (.iload_n 3, 1) := by decide +kernel
theorem dX8_put_57 : decode cX8_put 57 = .ok (.ifCond .ne 6, 3) := by decide +kernel
theorem dX8_put_60 : decode cX8_put 60 = .ok (.bipush (-2), 2) := by decide +kernel
theorem dX8_put_62 : decode cX8_put 62 = .ok (.ireturn, 1) := by decide +kernel
theorem dX8_put_63 : decode cX8_put 63 = .ok (.aload_n 0, 1) := by decide +kernel
theorem dX8_put_64 : decode cX8_put 64 = .ok (.getfield 149, 3) := by decide +kernel
theorem dX8_put_67 : decode cX8_put 67 = .ok (.iload_n 3, 1) := by decide +kernel
theorem dX8_put_68 : decode cX8_put 68 = .ok (.iadd, 1) := by decide +kernel
theorem dX8_put_69 : decode cX8_put 69 = .ok (.bipush 80, 2) := by decide +kernel
theorem dX8_put_71 : decode cX8_put 71 = .ok (.if_icmp .le 6, 3) := by decide +kernel
theorem dX8_put_74 : decode cX8_put 74 = .ok (.bipush (-4), 2) := by decide +kernel
theorem dX8_put_76 : decode cX8_put 76 = .ok (.ireturn, 1) := by decide +kernel
theorem dX8_put_77 : decode cX8_put 77 = .ok (.lload_n 1, 1) := by decide +kernel
theorem dX8_put_78 : decode cX8_put 78 = .ok (.lstore 4, 2) := by decide +kernel
theorem dX8_put_80 : decode cX8_put 80 = .ok (.iload_n 3, 1) := by decide +kernel
theorem dX8_put_81 : decode cX8_put 81 = .ok (.iconst 1, 1) := by decide +kernel
theorem dX8_put_82 : decode cX8_put 82 = .ok (.isub, 1) := by decide +kernel
theorem dX8_put_83 : decode cX8_put 83 = .ok (.istore 6, 2) := by decide +kernel
theorem dX8_put_85 : decode cX8_put 85 = .ok (.iload 6, 2) := by decide +kernel
theorem dX8_put_87 : decode cX8_put 87 = .ok (.ifCond .lt 35, 3) := by decide +kernel
theorem dX8_put_90 : decode cX8_put 90 = .ok (.aload_n 0, 1) := by decide +kernel
theorem dX8_put_91 : decode cX8_put 91 = .ok (.getfield 29, 3) := by decide +kernel
theorem dX8_put_94 : decode cX8_put 94 = .ok (.aload_n 0, 1) := by decide +kernel
theorem dX8_put_95 : decode cX8_put 95 = .ok (.getfield 149, 3) := by decide +kernel
theorem dX8_put_98 : decode cX8_put 98 = .ok (.iload 6, 2) := by decide +kernel
theorem dX8_put_100 : decode cX8_put 100 = .ok (.iadd, 1) := by decide +kernel
theorem dX8_put_101 : decode cX8_put 101 = .ok (.lload 4, 2) := by decide +kernel
theorem dX8_put_103 : decode cX8_put 103 = .ok (.ldc2_w 188, 3) := by decide +kernel
theorem dX8_put_106 : decode cX8_put 106 = .ok (.land, 1) := by decide +kernel
theorem dX8_put_107 : decode cX8_put 107 = .ok (.l2i, 1) := by decide +kernel
theorem dX8_put_108 : decode cX8_put 108 = .ok (.iastore, 1) := by decide +kernel
theorem dX8_put_109 : decode cX8_put 109 = .ok (.lload 4, 2) := by decide +kernel
theorem dX8_put_111 : decode cX8_put 111 = .ok (.bipush 8, 2) := by decide +kernel
theorem dX8_put_113 : decode cX8_put 113 = .ok (.lushr, 1) := by decide +kernel
theorem dX8_put_114 : decode cX8_put 114 = .ok (.lstore 4, 2) := by decide +kernel
theorem dX8_put_116 : decode cX8_put 116 = .ok (.iinc 6 (-1), 3) := by decide +kernel
theorem dX8_put_119 : decode cX8_put 119 = .ok (.goto (-34), 3) := by decide +kernel
theorem dX8_put_122 : decode cX8_put 122 = .ok (.aload_n 0, 1) := by decide +kernel
theorem dX8_put_123 : decode cX8_put 123 = .ok (.dup, 1) := by decide +kernel
theorem dX8_put_124 : decode cX8_put 124 = .ok (.getfield 149, 3) := by decide +kernel
theorem dX8_put_127 : decode cX8_put 127 = .ok (.iload_n 3, 1) := by decide +kernel
theorem dX8_put_128 : decode cX8_put 128 = .ok (.iadd, 1) := by decide +kernel
theorem dX8_put_129 : decode cX8_put 129 = .ok (.putfield 149, 3) := by decide +kernel
theorem dX8_put_132 : decode cX8_put 132 = .ok (.aload_n 0, 1) := by decide +kernel
theorem dX8_put_133 : decode cX8_put 133 = .ok (.getfield 149, 3) := by decide +kernel
theorem dX8_put_136 : decode cX8_put 136 = .ok (.ireturn, 1) := by decide +kernel
theorem dX8_wipe_0 : decode cX8_wipe 0 = .ok (.aload_n 0, 1) := by decide +kernel
theorem dX8_wipe_1 : decode cX8_wipe 1 = .ok (.getfield 149, 3) := by decide +kernel
theorem dX8_wipe_4 : decode cX8_wipe 4 = .ok (.istore_n 1, 1) := by decide +kernel
theorem dX8_wipe_5 : decode cX8_wipe 5 = .ok (.aload_n 0, 1) := by decide +kernel
theorem dX8_wipe_6 : decode cX8_wipe 6 = .ok (.iconst 0, 1) := by decide +kernel
theorem dX8_wipe_7 : decode cX8_wipe 7 = .ok (.putfield 149, 3) := by decide +kernel
theorem dX8_wipe_10 : decode cX8_wipe 10 = .ok (.iload_n 1, 1) := by decide +kernel
theorem dX8_wipe_11 : decode cX8_wipe 11 = .ok (.ireturn, 1) := by decide +kernel
theorem dX8_fault_0 : decode cX8_fault 0 = .ok (.aload_n 0, 1) := by decide +kernel
theorem dX8_fault_1 : decode cX8_fault 1 = .ok (.invokevirtual 190, 3) := by decide +kernel
theorem dX8_fault_4 : decode cX8_fault 4 = .ok (.ireturn, 1) := by decide +kernel
theorem dX8_carry_0 : decode cX8_carry 0 = .ok (.aload_n 0, 1) := by decide +kernel
theorem dX8_carry_1 : decode cX8_carry 1 = .ok (.getfield 44, 3) := by decide +kernel
theorem dX8_carry_4 : decode cX8_carry 4 = .ok (.iload_n 1, 1) := by decide +kernel
theorem dX8_carry_5 : decode cX8_carry 5 = .ok (.iconst 1, 1) := by decide +kernel
theorem dX8_carry_6 : decode cX8_carry 6 = .ok (.iadd, 1) := by decide +kernel
theorem dX8_carry_7 : decode cX8_carry 7 = .ok (.iaload, 1) := by decide +kernel
theorem dX8_carry_8 : decode cX8_carry 8 = .ok (.istore_n 2, 1) := by decide +kernel
theorem dX8_carry_9 : decode cX8_carry 9 = .ok (.aload_n 0, 1) := by decide +kernel
theorem dX8_carry_10 : decode cX8_carry 10 = .ok (.getfield 44, 3) := by decide +kernel
theorem dX8_carry_13 : decode cX8_carry 13 = .ok (.iload_n 1, 1) := by decide +kernel
theorem dX8_carry_14 : decode cX8_carry 14 = .ok (.iaload, 1) := by decide +kernel
theorem dX8_carry_15 : decode cX8_carry 15 = .ok (.tableswitch 84 112 119 #[45, 59, 73, 84, 84, 84, 84, 78], 45) := by decide +kernel
theorem dX8_carry_60 : decode cX8_carry 60 = .ok (.aload_n 0, 1) := by decide +kernel
theorem dX8_carry_61 : decode cX8_carry 61 = .ok (.iload_n 2, 1) := by decide +kernel
theorem dX8_carry_62 : decode cX8_carry 62 = .ok (.aload_n 0, 1) := by decide +kernel
theorem dX8_carry_63 : decode cX8_carry 63 = .ok (.getfield 44, 3) := by decide +kernel
theorem dX8_carry_66 : decode cX8_carry 66 = .ok (.iload_n 1, 1) := by decide +kernel
theorem dX8_carry_67 : decode cX8_carry 67 = .ok (.iconst 2, 1) := by decide +kernel
theorem dX8_carry_68 : decode cX8_carry 68 = .ok (.iadd, 1) := by decide +kernel
theorem dX8_carry_69 : decode cX8_carry 69 = .ok (.iaload, 1) := by decide +kernel
theorem dX8_carry_70 : decode cX8_carry 70 = .ok (.invokevirtual 193, 3) := by decide +kernel
theorem dX8_carry_73 : decode cX8_carry 73 = .ok (.ireturn, 1) := by decide +kernel
theorem dX8_carry_74 : decode cX8_carry 74 = .ok (.aload_n 0, 1) := by decide +kernel
theorem dX8_carry_75 : decode cX8_carry 75 = .ok (.iload_n 2, 1) := by decide +kernel
theorem dX8_carry_76 : decode cX8_carry 76 = .ok (.aload_n 0, 1) := by decide +kernel
theorem dX8_carry_77 : decode cX8_carry 77 = .ok (.getfield 44, 3) := by decide +kernel
theorem dX8_carry_80 : decode cX8_carry 80 = .ok (.iload_n 1, 1) := by decide +kernel
theorem dX8_carry_81 : decode cX8_carry 81 = .ok (.iconst 2, 1) := by decide +kernel
theorem dX8_carry_82 : decode cX8_carry 82 = .ok (.iadd, 1) := by decide +kernel
theorem dX8_carry_83 : decode cX8_carry 83 = .ok (.iaload, 1) := by decide +kernel
theorem dX8_carry_84 : decode cX8_carry 84 = .ok (.invokevirtual 196, 3) := by decide +kernel
theorem dX8_carry_87 : decode cX8_carry 87 = .ok (.ireturn, 1) := by decide +kernel
theorem dX8_carry_88 : decode cX8_carry 88 = .ok (.aload_n 0, 1) := by decide +kernel
theorem dX8_carry_89 : decode cX8_carry 89 = .ok (.invokevirtual 199, 3) := by decide +kernel
theorem dX8_carry_92 : decode cX8_carry 92 = .ok (.ireturn, 1) := by decide +kernel
theorem dX8_carry_93 : decode cX8_carry 93 = .ok (.aload_n 0, 1) := by decide +kernel
theorem dX8_carry_94 : decode cX8_carry 94 = .ok (.iload_n 2, 1) := by decide +kernel
theorem dX8_carry_95 : decode cX8_carry 95 = .ok (.invokevirtual 202, 3) := by decide +kernel
theorem dX8_carry_98 : decode cX8_carry 98 = .ok (.ireturn, 1) := by decide +kernel
theorem dX8_carry_99 : decode cX8_carry 99 = .ok (.aload_n 0, 1) := by decide +kernel
theorem dX8_carry_100 : decode cX8_carry 100 = .ok (.iload_n 2, 1) := by decide +kernel
theorem dX8_carry_101 : decode cX8_carry 101 = .ok (.invokevirtual 205, 3) := by decide +kernel
theorem dX8_carry_104 : decode cX8_carry 104 = .ok (.ireturn, 1) := by decide +kernel
theorem dX8_carryOut_0 : decode cX8_carryOut 0 = .ok (.aload_n 0, 1) := by decide +kernel
theorem dX8_carryOut_1 : decode cX8_carryOut 1 = .ok (.invokevirtual 190, 3) := by decide +kernel
theorem dX8_carryOut_4 : decode cX8_carryOut 4 = .ok (.bipush (-6), 2) := by decide +kernel
theorem dX8_carryOut_6 : decode cX8_carryOut 6 = .ok (.if_icmp .eq 6, 3) := by decide +kernel
theorem dX8_carryOut_9 : decode cX8_carryOut 9 = .ok (.bipush (-3), 2) := by decide +kernel
theorem dX8_carryOut_11 : decode cX8_carryOut 11 = .ok (.ireturn, 1) := by decide +kernel
theorem dX8_carryOut_12 : decode cX8_carryOut 12 = .ok (.aload_n 0, 1) := by decide +kernel
theorem dX8_carryOut_13 : decode cX8_carryOut 13 = .ok (.invokevirtual 66, 3) := by decide +kernel
theorem dX8_carryOut_16 : decode cX8_carryOut 16 = .ok (.aload_n 0, 1) := by decide +kernel
theorem dX8_carryOut_17 : decode cX8_carryOut 17 = .ok (.iconst 1, 1) := by decide +kernel
theorem dX8_carryOut_18 : decode cX8_carryOut 18 = .ok (.putfield 47, 3) := by decide +kernel
theorem dX8_carryOut_21 : decode cX8_carryOut 21 = .ok (.iconst 0, 1) := by decide +kernel
theorem dX8_carryOut_22 : decode cX8_carryOut 22 = .ok (.istore_n 1, 1) := by decide +kernel
theorem dX8_carryOut_23 : decode cX8_carryOut 23 = .ok (.iload_n 1, 1) := by decide +kernel
theorem dX8_carryOut_24 : decode cX8_carryOut 24 = .ok (.aload_n 0, 1) := by decide +kernel
theorem dX8_carryOut_25 : decode cX8_carryOut 25 = .ok (.getfield 179, 3) := by decide +kernel
theorem dX8_carryOut_28 : decode cX8_carryOut 28 = .ok (.if_icmp .ge 19, 3) := by decide +kernel
theorem dX8_carryOut_31 : decode cX8_carryOut 31 = .ok (.aload_n 0, 1) := by decide +kernel
theorem dX8_carryOut_32 : decode cX8_carryOut 32 = .ok (.iconst 3, 1) := by decide +kernel
theorem dX8_carryOut_33 : decode cX8_carryOut 33 = .ok (.iload_n 1, 1) := by decide +kernel
theorem dX8_carryOut_34 : decode cX8_carryOut 34 = .ok (.imul, 1) := by decide +kernel
theorem dX8_carryOut_35 : decode cX8_carryOut 35 = .ok (.invokevirtual 208, 3) := by decide +kernel
theorem dX8_carryOut_38 : decode cX8_carryOut 38 = .ok (.ifCond .lt 9, 3) := by decide +kernel
theorem dX8_carryOut_41 : decode cX8_carryOut 41 = .ok (.iinc 1 1, 3) := by decide +kernel
theorem dX8_carryOut_44 : decode cX8_carryOut 44 = .ok (.goto (-21), 3) := by decide +kernel
theorem dX8_carryOut_47 : decode cX8_carryOut 47 = .ok (.aload_n 0, 1) := by decide +kernel
theorem dX8_carryOut_48 : decode cX8_carryOut 48 = .ok (.iconst 0, 1) := by decide +kernel
theorem dX8_carryOut_49 : decode cX8_carryOut 49 = .ok (.putfield 47, 3) := by decide +kernel
theorem dX8_carryOut_52 : decode cX8_carryOut 52 = .ok (.aload_n 0, 1) := by decide +kernel
theorem dX8_carryOut_53 : decode cX8_carryOut 53 = .ok (.iconst 0, 1) := by decide +kernel
theorem dX8_carryOut_54 : decode cX8_carryOut 54 = .ok (.putfield 149, 3) := by decide +kernel
theorem dX8_carryOut_57 : decode cX8_carryOut 57 = .ok (.iload_n 1, 1) := by decide +kernel
theorem dX8_carryOut_58 : decode cX8_carryOut 58 = .ok (.ireturn, 1) := by decide +kernel
theorem dX8_undo_0 : decode cX8_undo 0 = .ok (.aload_n 0, 1) := by decide +kernel
theorem dX8_undo_1 : decode cX8_undo 1 = .ok (.getfield 51, 3) := by decide +kernel
theorem dX8_undo_4 : decode cX8_undo 4 = .ok (.ifCond .ne 6, 3) := by decide +kernel
theorem dX8_undo_7 : decode cX8_undo 7 = .ok (.bipush (-5), 2) := by decide +kernel
theorem dX8_undo_9 : decode cX8_undo 9 = .ok (.ireturn, 1) := by decide +kernel
theorem dX8_undo_10 : decode cX8_undo 10 = .ok (.aload_n 0, 1) := by decide +kernel
theorem dX8_undo_11 : decode cX8_undo 11 = .ok (.dup, 1) := by decide +kernel
theorem dX8_undo_12 : decode cX8_undo 12 = .ok (.getfield 51, 3) := by decide +kernel
theorem dX8_undo_15 : decode cX8_undo 15 = .ok (.iconst 1, 1) := by decide +kernel
theorem dX8_undo_16 : decode cX8_undo 16 = .ok (.isub, 1) := by decide +kernel
theorem dX8_undo_17 : decode cX8_undo 17 = .ok (.putfield 51, 3) := by decide +kernel
theorem dX8_undo_20 : decode cX8_undo 20 = .ok (.iconst 0, 1) := by decide +kernel
theorem dX8_undo_21 : decode cX8_undo 21 = .ok (.istore_n 1, 1) := by decide +kernel
theorem dX8_undo_22 : decode cX8_undo 22 = .ok (.iload_n 1, 1) := by decide +kernel
theorem dX8_undo_23 : decode cX8_undo 23 = .ok (.sipush 560, 3) := by decide +kernel
theorem dX8_undo_26 : decode cX8_undo 26 = .ok (.if_icmp .ge 30, 3) := by decide +kernel
theorem dX8_undo_29 : decode cX8_undo 29 = .ok (.aload_n 0, 1) := by decide +kernel
theorem dX8_undo_30 : decode cX8_undo 30 = .ok (.getfield 7, 3) := by decide +kernel
theorem dX8_undo_33 : decode cX8_undo 33 = .ok (.iload_n 1, 1) := by decide +kernel
theorem dX8_undo_34 : decode cX8_undo 34 = .ok (.aload_n 0, 1) := by decide +kernel
theorem dX8_undo_35 : decode cX8_undo 35 = .ok (.getfield 19, 3) := by decide +kernel
theorem dX8_undo_38 : decode cX8_undo 38 = .ok (.aload_n 0, 1) := by decide +kernel
theorem dX8_undo_39 : decode cX8_undo 39 = .ok (.getfield 51, 3) := by decide +kernel
theorem dX8_undo_42 : decode cX8_undo 42 = .ok (.sipush 560, 3) := by decide +kernel
theorem dX8_undo_45 : decode cX8_undo 45 = .ok (.imul, 1) := by decide +kernel
theorem dX8_undo_46 : decode cX8_undo 46 = .ok (.iload_n 1, 1) := by decide +kernel
theorem dX8_undo_47 : decode cX8_undo 47 = .ok (.iadd, 1) := by decide +kernel
theorem dX8_undo_48 : decode cX8_undo 48 = .ok (.iaload, 1) := by decide +kernel
theorem dX8_undo_49 : decode cX8_undo 49 = .ok (.iastore, 1) := by decide +kernel
theorem dX8_undo_50 : decode cX8_undo 50 = .ok (.iinc 1 1, 3) := by decide +kernel
theorem dX8_undo_53 : decode cX8_undo 53 = .ok (.goto (-31), 3) := by decide +kernel
theorem dX8_undo_56 : decode cX8_undo 56 = .ok (.aload_n 0, 1) := by decide +kernel
theorem dX8_undo_57 : decode cX8_undo 57 = .ok (.getfield 51, 3) := by decide +kernel
theorem dX8_undo_60 : decode cX8_undo 60 = .ok (.ireturn, 1) := by decide +kernel
theorem dX8_save_0 : decode cX8_save 0 = .ok (.iload_n 1, 1) := by decide +kernel
theorem dX8_save_1 : decode cX8_save 1 = .ok (.iconst 0, 1) := by decide +kernel
theorem dX8_save_2 : decode cX8_save 2 = .ok (.iconst 1, 1) := by decide +kernel
theorem dX8_save_3 : decode cX8_save 3 = .ok (.invokestatic 55, 3) := by decide +kernel
theorem dX8_save_6 : decode cX8_save 6 = .ok (.ifCond .ne 6, 3) := by decide +kernel
theorem dX8_save_9 : decode cX8_save 9 = .ok (.bipush (-2), 2) := by decide +kernel
theorem dX8_save_11 : decode cX8_save 11 = .ok (.ireturn, 1) := by decide +kernel
theorem dX8_save_12 : decode cX8_save 12 = .ok (.iconst 0, 1) := by decide +kernel
theorem dX8_save_13 : decode cX8_save 13 = .ok (.istore_n 2, 1) := by decide +kernel
theorem dX8_save_14 : decode cX8_save 14 = .ok (.iload_n 2, 1) := by decide +kernel
theorem dX8_save_15 : decode cX8_save 15 = .ok (.sipush 560, 3) := by decide +kernel
theorem dX8_save_18 : decode cX8_save 18 = .ok (.if_icmp .ge 27, 3) := by decide +kernel
theorem dX8_save_21 : decode cX8_save 21 = .ok (.aload_n 0, 1) := by decide +kernel
theorem dX8_save_22 : decode cX8_save 22 = .ok (.getfield 22, 3) := by decide +kernel
theorem dX8_save_25 : decode cX8_save 25 = .ok (.iload_n 1, 1) := by decide +kernel
theorem dX8_save_26 : decode cX8_save 26 = .ok (.sipush 560, 3) := by decide +kernel
theorem dX8_save_29 : decode cX8_save 29 = .ok (.imul, 1) := by decide +kernel
theorem dX8_save_30 : decode cX8_save 30 = .ok (.iload_n 2, 1) := by decide +kernel
theorem dX8_save_31 : decode cX8_save 31 = .ok (.iadd, 1) := by decide +kernel
theorem dX8_save_32 : decode cX8_save 32 = .ok (.aload_n 0, 1) := by decide +kernel
theorem dX8_save_33 : decode cX8_save 33 = .ok (.getfield 7, 3) := by decide +kernel
theorem dX8_save_36 : decode cX8_save 36 = .ok (.iload_n 2, 1) := by decide +kernel
theorem dX8_save_37 : decode cX8_save 37 = .ok (.iaload, 1) := by decide +kernel
theorem dX8_save_38 : decode cX8_save 38 = .ok (.iastore, 1) := by decide +kernel
theorem dX8_save_39 : decode cX8_save 39 = .ok (.iinc 2 1, 3) := by decide +kernel
theorem dX8_save_42 : decode cX8_save 42 = .ok (.goto (-28), 3) := by decide +kernel
theorem dX8_save_45 : decode cX8_save 45 = .ok (.aload_n 0, 1) := by decide +kernel
theorem dX8_save_46 : decode cX8_save 46 = .ok (.getfield 25, 3) := by decide +kernel
theorem dX8_save_49 : decode cX8_save 49 = .ok (.iload_n 1, 1) := by decide +kernel
theorem dX8_save_50 : decode cX8_save 50 = .ok (.iconst 1, 1) := by decide +kernel
theorem dX8_save_51 : decode cX8_save 51 = .ok (.bastore, 1) := by decide +kernel
theorem dX8_save_52 : decode cX8_save 52 = .ok (.aload_n 0, 1) := by decide +kernel
theorem dX8_save_53 : decode cX8_save 53 = .ok (.getfield 7, 3) := by decide +kernel
theorem dX8_save_56 : decode cX8_save 56 = .ok (.bipush 6, 2) := by decide +kernel
theorem dX8_save_58 : decode cX8_save 58 = .ok (.iaload, 1) := by decide +kernel
theorem dX8_save_59 : decode cX8_save 59 = .ok (.ireturn, 1) := by decide +kernel
theorem dX8_restore_0 : decode cX8_restore 0 = .ok (.iload_n 1, 1) := by decide +kernel
theorem dX8_restore_1 : decode cX8_restore 1 = .ok (.iconst 0, 1) := by decide +kernel
theorem dX8_restore_2 : decode cX8_restore 2 = .ok (.iconst 1, 1) := by decide +kernel
theorem dX8_restore_3 : decode cX8_restore 3 = .ok (.invokestatic 55, 3) := by decide +kernel
theorem dX8_restore_6 : decode cX8_restore 6 = .ok (.ifCond .ne 6, 3) := by decide +kernel
theorem dX8_restore_9 : decode cX8_restore 9 = .ok (.bipush (-2), 2) := by decide +kernel
theorem dX8_restore_11 : decode cX8_restore 11 = .ok (.ireturn, 1) := by decide +kernel
theorem dX8_restore_12 : decode cX8_restore 12 = .ok (.aload_n 0, 1) := by decide +kernel
theorem dX8_restore_13 : decode cX8_restore 13 = .ok (.getfield 25, 3) := by decide +kernel
theorem dX8_restore_16 : decode cX8_restore 16 = .ok (.iload_n 1, 1) := by decide +kernel
theorem dX8_restore_17 : decode cX8_restore 17 = .ok (.baload, 1) := by decide +kernel
theorem dX8_restore_18 : decode cX8_restore 18 = .ok (.ifCond .ne 6, 3) := by decide +kernel
theorem dX8_restore_21 : decode cX8_restore 21 = .ok (.bipush (-5), 2) := by decide +kernel
theorem dX8_restore_23 : decode cX8_restore 23 = .ok (.ireturn, 1) := by decide +kernel
theorem dX8_restore_24 : decode cX8_restore 24 = .ok (.aload_n 0, 1) := by decide +kernel
theorem dX8_restore_25 : decode cX8_restore 25 = .ok (.invokevirtual 66, 3) := by decide +kernel
theorem dX8_restore_28 : decode cX8_restore 28 = .ok (.iconst 0, 1) := by decide +kernel
theorem dX8_restore_29 : decode cX8_restore 29 = .ok (.istore_n 2, 1) := by decide +kernel
theorem dX8_restore_30 : decode cX8_restore 30 = .ok (.iload_n 2, 1) := by decide +kernel
theorem dX8_restore_31 : decode cX8_restore 31 = .ok (.sipush 560, 3) := by decide +kernel
theorem dX8_restore_34 : decode cX8_restore 34 = .ok (.if_icmp .ge 27, 3) := by decide +kernel
theorem dX8_restore_37 : decode cX8_restore 37 = .ok (.aload_n 0, 1) := by decide +kernel
theorem dX8_restore_38 : decode cX8_restore 38 = .ok (.getfield 7, 3) := by decide +kernel
theorem dX8_restore_41 : decode cX8_restore 41 = .ok (.iload_n 2, 1) := by decide +kernel
theorem dX8_restore_42 : decode cX8_restore 42 = .ok (.aload_n 0, 1) := by decide +kernel
theorem dX8_restore_43 : decode cX8_restore 43 = .ok (.getfield 22, 3) := by decide +kernel
theorem dX8_restore_46 : decode cX8_restore 46 = .ok (.iload_n 1, 1) := by decide +kernel
theorem dX8_restore_47 : decode cX8_restore 47 = .ok (.sipush 560, 3) := by decide +kernel
theorem dX8_restore_50 : decode cX8_restore 50 = .ok (.imul, 1) := by decide +kernel
theorem dX8_restore_51 : decode cX8_restore 51 = .ok (.iload_n 2, 1) := by decide +kernel
theorem dX8_restore_52 : decode cX8_restore 52 = .ok (.iadd, 1) := by decide +kernel
theorem dX8_restore_53 : decode cX8_restore 53 = .ok (.iaload, 1) := by decide +kernel
theorem dX8_restore_54 : decode cX8_restore 54 = .ok (.iastore, 1) := by decide +kernel
theorem dX8_restore_55 : decode cX8_restore 55 = .ok (.iinc 2 1, 3) := by decide +kernel
theorem dX8_restore_58 : decode cX8_restore 58 = .ok (.goto (-28), 3) := by decide +kernel
theorem dX8_restore_61 : decode cX8_restore 61 = .ok (.aload_n 0, 1) := by decide +kernel
theorem dX8_restore_62 : decode cX8_restore 62 = .ok (.getfield 7, 3) := by decide +kernel
theorem dX8_restore_65 : decode cX8_restore 65 = .ok (.bipush 6, 2) := by decide +kernel
theorem dX8_restore_67 : decode cX8_restore 67 = .ok (.iaload, 1) := by decide +kernel
theorem dX8_restore_68 : decode cX8_restore 68 = .ok (.ireturn, 1) := by decide +kernel
theorem dL_law_0 : decode cL_law 0 = .ok (.new 7, 3) := by decide +kernel
theorem dL_law_3 : decode cL_law 3 = .ok (.dup, 1) := by decide +kernel
theorem dL_law_4 : decode cL_law 4 = .ok (.invokespecial 9, 3) := by decide +kernel
theorem dL_law_7 : decode cL_law 7 = .ok (.astore_n 1, 1) := by decide +kernel
theorem dL_law_8 : decode cL_law 8 = .ok (.new 10, 3) := by decide +kernel
theorem dL_law_11 : decode cL_law 11 = .ok (.dup, 1) := by decide +kernel
theorem dL_law_12 : decode cL_law 12 = .ok (.invokespecial 12, 3) := by decide +kernel
theorem dL_law_15 : decode cL_law 15 = .ok (.astore_n 2, 1) := by decide +kernel
theorem dL_law_16 : decode cL_law 16 = .ok (.iconst 0, 1) := by decide +kernel
theorem dL_law_17 : decode cL_law 17 = .ok (.istore_n 3, 1) := by decide +kernel
theorem dL_law_18 : decode cL_law 18 = .ok (.iload_n 3, 1) := by decide +kernel
theorem dL_law_19 : decode cL_law 19 = .ok (.aload_n 0, 1) := by decide +kernel
theorem dL_law_20 : decode cL_law 20 = .ok (.arraylength, 1) := by decide +kernel
theorem dL_law_21 : decode cL_law 21 = .ok (.iconst 4, 1) := by decide +kernel
theorem dL_law_22 : decode cL_law 22 = .ok (.isub, 1) := by decide +kernel
theorem dL_law_23 : decode cL_law 23 = .ok (.if_icmp .gt 931, 3) := by decide +kernel
theorem dL_law_26 : decode cL_law 26 = .ok (.aload_n 0, 1) := by decide +kernel
theorem dL_law_27 : decode cL_law 27 = .ok (.iload_n 3, 1) := by decide +kernel
theorem dL_law_28 : decode cL_law 28 = .ok (.iaload, 1) := by decide +kernel
theorem dL_law_29 : decode cL_law 29 = .ok (.bipush 31, 2) := by decide +kernel
theorem dL_law_31 : decode cL_law 31 = .ok (.iand, 1) := by decide +kernel
theorem dL_law_32 : decode cL_law 32 = .ok (.tableswitch 916 0 29 #[136, 169, 192, 225, 258, 291, 324, 337, 360, 423, 446, 469, 502, 535, 568, 601, 624, 647, 670, 693, 716, 739, 752, 765, 818, 831, 844, 857, 870, 893], 136) := by decide +kernel
theorem dL_law_168 : decode cL_law 168 = .ok (.aload_n 1, 1) := by decide +kernel
theorem dL_law_169 : decode cL_law 169 = .ok (.aload_n 0, 1) := by decide +kernel
theorem dL_law_170 : decode cL_law 170 = .ok (.iload_n 3, 1) := by decide +kernel
theorem dL_law_171 : decode cL_law 171 = .ok (.iconst 1, 1) := by decide +kernel
theorem dL_law_172 : decode cL_law 172 = .ok (.iadd, 1) := by decide +kernel
theorem dL_law_173 : decode cL_law 173 = .ok (.iaload, 1) := by decide +kernel
theorem dL_law_174 : decode cL_law 174 = .ok (.aload_n 0, 1) := by decide +kernel
theorem dL_law_175 : decode cL_law 175 = .ok (.iload_n 3, 1) := by decide +kernel
theorem dL_law_176 : decode cL_law 176 = .ok (.iconst 2, 1) := by decide +kernel
theorem dL_law_177 : decode cL_law 177 = .ok (.iadd, 1) := by decide +kernel
theorem dL_law_178 : decode cL_law 178 = .ok (.iaload, 1) := by decide +kernel
theorem dL_law_179 : decode cL_law 179 = .ok (.invokevirtual 13, 3) := by decide +kernel
theorem dL_law_182 : decode cL_law 182 = .ok (.aload_n 2, 1) := by decide +kernel
theorem dL_law_183 : decode cL_law 183 = .ok (.aload_n 0, 1) := by decide +kernel
theorem dL_law_184 : decode cL_law 184 = .ok (.iload_n 3, 1) := by decide +kernel
theorem dL_law_185 : decode cL_law 185 = .ok (.iconst 1, 1) := by decide +kernel
theorem dL_law_186 : decode cL_law 186 = .ok (.iadd, 1) := by decide +kernel
theorem dL_law_187 : decode cL_law 187 = .ok (.iaload, 1) := by decide +kernel
theorem dL_law_188 : decode cL_law 188 = .ok (.aload_n 0, 1) := by decide +kernel
theorem dL_law_189 : decode cL_law 189 = .ok (.iload_n 3, 1) := by decide +kernel
theorem dL_law_190 : decode cL_law 190 = .ok (.iconst 2, 1) := by decide +kernel
theorem dL_law_191 : decode cL_law 191 = .ok (.iadd, 1) := by decide +kernel
theorem dL_law_192 : decode cL_law 192 = .ok (.iaload, 1) := by decide +kernel
theorem dL_law_193 : decode cL_law 193 = .ok (.invokevirtual 17, 3) := by decide +kernel
theorem dL_law_196 : decode cL_law 196 = .ok (.if_icmp .eq 752, 3) := by decide +kernel
theorem dL_law_199 : decode cL_law 199 = .ok (.iconst 0, 1) := by decide +kernel
theorem dL_law_200 : decode cL_law 200 = .ok (.ireturn, 1) := by decide +kernel
theorem dL_law_201 : decode cL_law 201 = .ok (.aload_n 1, 1) := by decide +kernel
theorem dL_law_202 : decode cL_law 202 = .ok (.aload_n 0, 1) := by decide +kernel
theorem dL_law_203 : decode cL_law 203 = .ok (.iload_n 3, 1) := by decide +kernel
theorem dL_law_204 : decode cL_law 204 = .ok (.iconst 1, 1) := by decide +kernel
theorem dL_law_205 : decode cL_law 205 = .ok (.iadd, 1) := by decide +kernel
theorem dL_law_206 : decode cL_law 206 = .ok (.iaload, 1) := by decide +kernel
theorem dL_law_207 : decode cL_law 207 = .ok (.invokevirtual 18, 3) := by decide +kernel
theorem dL_law_210 : decode cL_law 210 = .ok (.aload_n 2, 1) := by decide +kernel
theorem dL_law_211 : decode cL_law 211 = .ok (.aload_n 0, 1) := by decide +kernel
theorem dL_law_212 : decode cL_law 212 = .ok (.iload_n 3, 1) := by decide +kernel
theorem dL_law_213 : decode cL_law 213 = .ok (.iconst 1, 1) := by decide +kernel
theorem dL_law_214 : decode cL_law 214 = .ok (.iadd, 1) := by decide +kernel
theorem dL_law_215 : decode cL_law 215 = .ok (.iaload, 1) := by decide +kernel
theorem dL_law_216 : decode cL_law 216 = .ok (.invokevirtual 22, 3) := by decide +kernel
theorem dL_law_219 : decode cL_law 219 = .ok (.if_icmp .eq 729, 3) := by decide +kernel
theorem dL_law_222 : decode cL_law 222 = .ok (.iconst 0, 1) := by decide +kernel
theorem dL_law_223 : decode cL_law 223 = .ok (.ireturn, 1) := by decide +kernel
theorem dL_law_224 : decode cL_law 224 = .ok (.aload_n 1, 1) := by decide +kernel
theorem dL_law_225 : decode cL_law 225 = .ok (.aload_n 0, 1) := by decide +kernel
theorem dL_law_226 : decode cL_law 226 = .ok (.iload_n 3, 1) := by decide +kernel
theorem dL_law_227 : decode cL_law 227 = .ok (.iconst 1, 1) := by decide +kernel
theorem dL_law_228 : decode cL_law 228 = .ok (.iadd, 1) := by decide +kernel
theorem dL_law_229 : decode cL_law 229 = .ok (.iaload, 1) := by decide +kernel
theorem dL_law_230 : decode cL_law 230 = .ok (.aload_n 0, 1) := by decide +kernel
theorem dL_law_231 : decode cL_law 231 = .ok (.iload_n 3, 1) := by decide +kernel
theorem dL_law_232 : decode cL_law 232 = .ok (.iconst 2, 1) := by decide +kernel
theorem dL_law_233 : decode cL_law 233 = .ok (.iadd, 1) := by decide +kernel
theorem dL_law_234 : decode cL_law 234 = .ok (.iaload, 1) := by decide +kernel
theorem dL_law_235 : decode cL_law 235 = .ok (.invokevirtual 23, 3) := by decide +kernel
theorem dL_law_238 : decode cL_law 238 = .ok (.aload_n 2, 1) := by decide +kernel
theorem dL_law_239 : decode cL_law 239 = .ok (.aload_n 0, 1) := by decide +kernel
theorem dL_law_240 : decode cL_law 240 = .ok (.iload_n 3, 1) := by decide +kernel
theorem dL_law_241 : decode cL_law 241 = .ok (.iconst 1, 1) := by decide +kernel
theorem dL_law_242 : decode cL_law 242 = .ok (.iadd, 1) := by decide +kernel
theorem dL_law_243 : decode cL_law 243 = .ok (.iaload, 1) := by decide +kernel
theorem dL_law_244 : decode cL_law 244 = .ok (.aload_n 0, 1) := by decide +kernel
theorem dL_law_245 : decode cL_law 245 = .ok (.iload_n 3, 1) := by decide +kernel
theorem dL_law_246 : decode cL_law 246 = .ok (.iconst 2, 1) := by decide +kernel
theorem dL_law_247 : decode cL_law 247 = .ok (.iadd, 1) := by decide +kernel
theorem dL_law_248 : decode cL_law 248 = .ok (.iaload, 1) := by decide +kernel
theorem dL_law_249 : decode cL_law 249 = .ok (.invokevirtual 26, 3) := by decide +kernel
theorem dL_law_252 : decode cL_law 252 = .ok (.if_icmp .eq 696, 3) := by decide +kernel
theorem dL_law_255 : decode cL_law 255 = .ok (.iconst 0, 1) := by decide +kernel
theorem dL_law_256 : decode cL_law 256 = .ok (.ireturn, 1) := by decide +kernel
theorem dL_law_257 : decode cL_law 257 = .ok (.aload_n 1, 1) := by decide +kernel
theorem dL_law_258 : decode cL_law 258 = .ok (.aload_n 0, 1) := by decide +kernel
theorem dL_law_259 : decode cL_law 259 = .ok (.iload_n 3, 1) := by decide +kernel
theorem dL_law_260 : decode cL_law 260 = .ok (.iconst 1, 1) := by decide +kernel
theorem dL_law_261 : decode cL_law 261 = .ok (.iadd, 1) := by decide +kernel
theorem dL_law_262 : decode cL_law 262 = .ok (.iaload, 1) := by decide +kernel
theorem dL_law_263 : decode cL_law 263 = .ok (.aload_n 0, 1) := by decide +kernel
theorem dL_law_264 : decode cL_law 264 = .ok (.iload_n 3, 1) := by decide +kernel
theorem dL_law_265 : decode cL_law 265 = .ok (.iconst 2, 1) := by decide +kernel
theorem dL_law_266 : decode cL_law 266 = .ok (.iadd, 1) := by decide +kernel
theorem dL_law_267 : decode cL_law 267 = .ok (.iaload, 1) := by decide +kernel
theorem dL_law_268 : decode cL_law 268 = .ok (.invokevirtual 27, 3) := by decide +kernel
theorem dL_law_271 : decode cL_law 271 = .ok (.aload_n 2, 1) := by decide +kernel
theorem dL_law_272 : decode cL_law 272 = .ok (.aload_n 0, 1) := by decide +kernel
theorem dL_law_273 : decode cL_law 273 = .ok (.iload_n 3, 1) := by decide +kernel
theorem dL_law_274 : decode cL_law 274 = .ok (.iconst 1, 1) := by decide +kernel
theorem dL_law_275 : decode cL_law 275 = .ok (.iadd, 1) := by decide +kernel
theorem dL_law_276 : decode cL_law 276 = .ok (.iaload, 1) := by decide +kernel
theorem dL_law_277 : decode cL_law 277 = .ok (.aload_n 0, 1) := by decide +kernel
theorem dL_law_278 : decode cL_law 278 = .ok (.iload_n 3, 1) := by decide +kernel
theorem dL_law_279 : decode cL_law 279 = .ok (.iconst 2, 1) := by decide +kernel
theorem dL_law_280 : decode cL_law 280 = .ok (.iadd, 1) := by decide +kernel
theorem dL_law_281 : decode cL_law 281 = .ok (.iaload, 1) := by decide +kernel
theorem dL_law_282 : decode cL_law 282 = .ok (.invokevirtual 30, 3) := by decide +kernel
theorem dL_law_285 : decode cL_law 285 = .ok (.if_icmp .eq 663, 3) := by decide +kernel
theorem dL_law_288 : decode cL_law 288 = .ok (.iconst 0, 1) := by decide +kernel
theorem dL_law_289 : decode cL_law 289 = .ok (.ireturn, 1) := by decide +kernel
theorem dL_law_290 : decode cL_law 290 = .ok (.aload_n 1, 1) := by decide +kernel
theorem dL_law_291 : decode cL_law 291 = .ok (.aload_n 0, 1) := by decide +kernel
theorem dL_law_292 : decode cL_law 292 = .ok (.iload_n 3, 1) := by decide +kernel
theorem dL_law_293 : decode cL_law 293 = .ok (.iconst 1, 1) := by decide +kernel
theorem dL_law_294 : decode cL_law 294 = .ok (.iadd, 1) := by decide +kernel
theorem dL_law_295 : decode cL_law 295 = .ok (.iaload, 1) := by decide +kernel
theorem dL_law_296 : decode cL_law 296 = .ok (.aload_n 0, 1) := by decide +kernel
theorem dL_law_297 : decode cL_law 297 = .ok (.iload_n 3, 1) := by decide +kernel
theorem dL_law_298 : decode cL_law 298 = .ok (.iconst 2, 1) := by decide +kernel
theorem dL_law_299 : decode cL_law 299 = .ok (.iadd, 1) := by decide +kernel
theorem dL_law_300 : decode cL_law 300 = .ok (.iaload, 1) := by decide +kernel
theorem dL_law_301 : decode cL_law 301 = .ok (.invokevirtual 31, 3) := by decide +kernel
theorem dL_law_304 : decode cL_law 304 = .ok (.aload_n 2, 1) := by decide +kernel
theorem dL_law_305 : decode cL_law 305 = .ok (.aload_n 0, 1) := by decide +kernel
theorem dL_law_306 : decode cL_law 306 = .ok (.iload_n 3, 1) := by decide +kernel
theorem dL_law_307 : decode cL_law 307 = .ok (.iconst 1, 1) := by decide +kernel
theorem dL_law_308 : decode cL_law 308 = .ok (.iadd, 1) := by decide +kernel
theorem dL_law_309 : decode cL_law 309 = .ok (.iaload, 1) := by decide +kernel
theorem dL_law_310 : decode cL_law 310 = .ok (.aload_n 0, 1) := by decide +kernel
theorem dL_law_311 : decode cL_law 311 = .ok (.iload_n 3, 1) := by decide +kernel
theorem dL_law_312 : decode cL_law 312 = .ok (.iconst 2, 1) := by decide +kernel
theorem dL_law_313 : decode cL_law 313 = .ok (.iadd, 1) := by decide +kernel
theorem dL_law_314 : decode cL_law 314 = .ok (.iaload, 1) := by decide +kernel
theorem dL_law_315 : decode cL_law 315 = .ok (.invokevirtual 34, 3) := by decide +kernel
theorem dL_law_318 : decode cL_law 318 = .ok (.if_icmp .eq 630, 3) := by decide +kernel
theorem dL_law_321 : decode cL_law 321 = .ok (.iconst 0, 1) := by decide +kernel
theorem dL_law_322 : decode cL_law 322 = .ok (.ireturn, 1) := by decide +kernel
theorem dL_law_323 : decode cL_law 323 = .ok (.aload_n 1, 1) := by decide +kernel
theorem dL_law_324 : decode cL_law 324 = .ok (.aload_n 0, 1) := by decide +kernel
theorem dL_law_325 : decode cL_law 325 = .ok (.iload_n 3, 1) := by decide +kernel
theorem dL_law_326 : decode cL_law 326 = .ok (.iconst 1, 1) := by decide +kernel
theorem dL_law_327 : decode cL_law 327 = .ok (.iadd, 1) := by decide +kernel
theorem dL_law_328 : decode cL_law 328 = .ok (.iaload, 1) := by decide +kernel
theorem dL_law_329 : decode cL_law 329 = .ok (.aload_n 0, 1) := by decide +kernel
theorem dL_law_330 : decode cL_law 330 = .ok (.iload_n 3, 1) := by decide +kernel
theorem dL_law_331 : decode cL_law 331 = .ok (.iconst 2, 1) := by decide +kernel
theorem dL_law_332 : decode cL_law 332 = .ok (.iadd, 1) := by decide +kernel
theorem dL_law_333 : decode cL_law 333 = .ok (.iaload, 1) := by decide +kernel
theorem dL_law_334 : decode cL_law 334 = .ok (.invokevirtual 35, 3) := by decide +kernel
theorem dL_law_337 : decode cL_law 337 = .ok (.aload_n 2, 1) := by decide +kernel
theorem dL_law_338 : decode cL_law 338 = .ok (.aload_n 0, 1) := by decide +kernel
theorem dL_law_339 : decode cL_law 339 = .ok (.iload_n 3, 1) := by decide +kernel
theorem dL_law_340 : decode cL_law 340 = .ok (.iconst 1, 1) := by decide +kernel
theorem dL_law_341 : decode cL_law 341 = .ok (.iadd, 1) := by decide +kernel
theorem dL_law_342 : decode cL_law 342 = .ok (.iaload, 1) := by decide +kernel
theorem dL_law_343 : decode cL_law 343 = .ok (.aload_n 0, 1) := by decide +kernel
theorem dL_law_344 : decode cL_law 344 = .ok (.iload_n 3, 1) := by decide +kernel
theorem dL_law_345 : decode cL_law 345 = .ok (.iconst 2, 1) := by decide +kernel
theorem dL_law_346 : decode cL_law 346 = .ok (.iadd, 1) := by decide +kernel
theorem dL_law_347 : decode cL_law 347 = .ok (.iaload, 1) := by decide +kernel
theorem dL_law_348 : decode cL_law 348 = .ok (.invokevirtual 38, 3) := by decide +kernel
theorem dL_law_351 : decode cL_law 351 = .ok (.if_icmp .eq 597, 3) := by decide +kernel
theorem dL_law_354 : decode cL_law 354 = .ok (.iconst 0, 1) := by decide +kernel
theorem dL_law_355 : decode cL_law 355 = .ok (.ireturn, 1) := by decide +kernel
theorem dL_law_356 : decode cL_law 356 = .ok (.aload_n 1, 1) := by decide +kernel
theorem dL_law_357 : decode cL_law 357 = .ok (.invokevirtual 39, 3) := by decide +kernel
theorem dL_law_360 : decode cL_law 360 = .ok (.aload_n 2, 1) := by decide +kernel
theorem dL_law_361 : decode cL_law 361 = .ok (.invokevirtual 43, 3) := by decide +kernel
theorem dL_law_364 : decode cL_law 364 = .ok (.if_icmp .eq 584, 3) := by decide +kernel
theorem dL_law_367 : decode cL_law 367 = .ok (.iconst 0, 1) := by decide +kernel
theorem dL_law_368 : decode cL_law 368 = .ok (.ireturn, 1) := by decide +kernel
theorem dL_law_369 : decode cL_law 369 = .ok (.aload_n 1, 1) := by decide +kernel
theorem dL_law_370 : decode cL_law 370 = .ok (.aload_n 0, 1) := by decide +kernel
theorem dL_law_371 : decode cL_law 371 = .ok (.iload_n 3, 1) := by decide +kernel
theorem dL_law_372 : decode cL_law 372 = .ok (.iconst 1, 1) := by decide +kernel
theorem dL_law_373 : decode cL_law 373 = .ok (.iadd, 1) := by decide +kernel
theorem dL_law_374 : decode cL_law 374 = .ok (.iaload, 1) := by decide +kernel
theorem dL_law_375 : decode cL_law 375 = .ok (.invokevirtual 44, 3) := by decide +kernel
theorem dL_law_378 : decode cL_law 378 = .ok (.aload_n 2, 1) := by decide +kernel
theorem dL_law_379 : decode cL_law 379 = .ok (.aload_n 0, 1) := by decide +kernel
theorem dL_law_380 : decode cL_law 380 = .ok (.iload_n 3, 1) := by decide +kernel
theorem dL_law_381 : decode cL_law 381 = .ok (.iconst 1, 1) := by decide +kernel
theorem dL_law_382 : decode cL_law 382 = .ok (.iadd, 1) := by decide +kernel
theorem dL_law_383 : decode cL_law 383 = .ok (.iaload, 1) := by decide +kernel
theorem dL_law_384 : decode cL_law 384 = .ok (.invokevirtual 47, 3) := by decide +kernel
theorem dL_law_387 : decode cL_law 387 = .ok (.if_icmp .eq 561, 3) := by decide +kernel
theorem dL_law_390 : decode cL_law 390 = .ok (.iconst 0, 1) := by decide +kernel
theorem dL_law_391 : decode cL_law 391 = .ok (.ireturn, 1) := by decide +kernel
theorem dL_law_392 : decode cL_law 392 = .ok (.aload_n 1, 1) := by decide +kernel
theorem dL_law_393 : decode cL_law 393 = .ok (.aload_n 0, 1) := by decide +kernel
theorem dL_law_394 : decode cL_law 394 = .ok (.iload_n 3, 1) := by decide +kernel
theorem dL_law_395 : decode cL_law 395 = .ok (.iconst 1, 1) := by decide +kernel
theorem dL_law_396 : decode cL_law 396 = .ok (.iadd, 1) := by decide +kernel
theorem dL_law_397 : decode cL_law 397 = .ok (.iaload, 1) := by decide +kernel
theorem dL_law_398 : decode cL_law 398 = .ok (.i2l, 1) := by decide +kernel
theorem dL_law_399 : decode cL_law 399 = .ok (.bipush 32, 2) := by decide +kernel
theorem dL_law_401 : decode cL_law 401 = .ok (.lshl, 1) := by decide +kernel
theorem dL_law_402 : decode cL_law 402 = .ok (.aload_n 0, 1) := by decide +kernel
theorem dL_law_403 : decode cL_law 403 = .ok (.iload_n 3, 1) := by decide +kernel
theorem dL_law_404 : decode cL_law 404 = .ok (.iconst 2, 1) := by decide +kernel
theorem dL_law_405 : decode cL_law 405 = .ok (.iadd, 1) := by decide +kernel
theorem dL_law_406 : decode cL_law 406 = .ok (.iaload, 1) := by decide +kernel
theorem dL_law_407 : decode cL_law 407 = .ok (.i2l, 1) := by decide +kernel
theorem dL_law_408 : decode cL_law 408 = .ok (.ldc2_w 48, 3) := by decide +kernel
theorem dL_law_411 : decode cL_law 411 = .ok (.land, 1) := by decide +kernel
theorem dL_law_412 : decode cL_law 412 = .ok (.lor, 1) := by decide +kernel
theorem dL_law_413 : decode cL_law 413 = .ok (.aload_n 0, 1) := by decide +kernel
theorem dL_law_414 : decode cL_law 414 = .ok (.iload_n 3, 1) := by decide +kernel
theorem dL_law_415 : decode cL_law 415 = .ok (.iconst 3, 1) := by decide +kernel
theorem dL_law_416 : decode cL_law 416 = .ok (.iadd, 1) := by decide +kernel
theorem dL_law_417 : decode cL_law 417 = .ok (.iaload, 1) := by decide +kernel
theorem dL_law_418 : decode cL_law 418 = .ok (.invokevirtual 50, 3) := by decide +kernel
theorem dL_law_421 : decode cL_law 421 = .ok (.aload_n 2, 1) := by decide +kernel
theorem dL_law_422 : decode cL_law 422 = .ok (.aload_n 0, 1) := by decide +kernel
theorem dL_law_423 : decode cL_law 423 = .ok (.iload_n 3, 1) := by decide +kernel
theorem dL_law_424 : decode cL_law 424 = .ok (.iconst 1, 1) := by decide +kernel
theorem dL_law_425 : decode cL_law 425 = .ok (.iadd, 1) := by decide +kernel
theorem dL_law_426 : decode cL_law 426 = .ok (.iaload, 1) := by decide +kernel
theorem dL_law_427 : decode cL_law 427 = .ok (.i2l, 1) := by decide +kernel
theorem dL_law_428 : decode cL_law 428 = .ok (.bipush 32, 2) := by decide +kernel
theorem dL_law_430 : decode cL_law 430 = .ok (.lshl, 1) := by decide +kernel
theorem dL_law_431 : decode cL_law 431 = .ok (.aload_n 0, 1) := by decide +kernel
theorem dL_law_432 : decode cL_law 432 = .ok (.iload_n 3, 1) := by decide +kernel
theorem dL_law_433 : decode cL_law 433 = .ok (.iconst 2, 1) := by decide +kernel
theorem dL_law_434 : decode cL_law 434 = .ok (.iadd, 1) := by decide +kernel
theorem dL_law_435 : decode cL_law 435 = .ok (.iaload, 1) := by decide +kernel
theorem dL_law_436 : decode cL_law 436 = .ok (.i2l, 1) := by decide +kernel
theorem dL_law_437 : decode cL_law 437 = .ok (.ldc2_w 48, 3) := by decide +kernel
theorem dL_law_440 : decode cL_law 440 = .ok (.land, 1) := by decide +kernel
theorem dL_law_441 : decode cL_law 441 = .ok (.lor, 1) := by decide +kernel
theorem dL_law_442 : decode cL_law 442 = .ok (.aload_n 0, 1) := by decide +kernel
theorem dL_law_443 : decode cL_law 443 = .ok (.iload_n 3, 1) := by decide +kernel
theorem dL_law_444 : decode cL_law 444 = .ok (.iconst 3, 1) := by decide +kernel
theorem dL_law_445 : decode cL_law 445 = .ok (.iadd, 1) := by decide +kernel
theorem dL_law_446 : decode cL_law 446 = .ok (.iaload, 1) := by decide +kernel
theorem dL_law_447 : decode cL_law 447 = .ok (.invokevirtual 54, 3) := by decide +kernel
theorem dL_law_450 : decode cL_law 450 = .ok (.if_icmp .eq 498, 3) := by decide +kernel
theorem dL_law_453 : decode cL_law 453 = .ok (.iconst 0, 1) := by decide +kernel
theorem dL_law_454 : decode cL_law 454 = .ok (.ireturn, 1) := by decide +kernel
theorem dL_law_455 : decode cL_law 455 = .ok (.aload_n 1, 1) := by decide +kernel
theorem dL_law_456 : decode cL_law 456 = .ok (.aload_n 0, 1) := by decide +kernel
theorem dL_law_457 : decode cL_law 457 = .ok (.iload_n 3, 1) := by decide +kernel
theorem dL_law_458 : decode cL_law 458 = .ok (.iconst 1, 1) := by decide +kernel
theorem dL_law_459 : decode cL_law 459 = .ok (.iadd, 1) := by decide +kernel
theorem dL_law_460 : decode cL_law 460 = .ok (.iaload, 1) := by decide +kernel
theorem dL_law_461 : decode cL_law 461 = .ok (.invokevirtual 55, 3) := by decide +kernel
theorem dL_law_464 : decode cL_law 464 = .ok (.aload_n 2, 1) := by decide +kernel
theorem dL_law_465 : decode cL_law 465 = .ok (.aload_n 0, 1) := by decide +kernel
theorem dL_law_466 : decode cL_law 466 = .ok (.iload_n 3, 1) := by decide +kernel
theorem dL_law_467 : decode cL_law 467 = .ok (.iconst 1, 1) := by decide +kernel
theorem dL_law_468 : decode cL_law 468 = .ok (.iadd, 1) := by decide +kernel
theorem dL_law_469 : decode cL_law 469 = .ok (.iaload, 1) := by decide +kernel
theorem dL_law_470 : decode cL_law 470 = .ok (.invokevirtual 58, 3) := by decide +kernel
theorem dL_law_473 : decode cL_law 473 = .ok (.if_icmp .eq 475, 3) := by decide +kernel
theorem dL_law_476 : decode cL_law 476 = .ok (.iconst 0, 1) := by decide +kernel
theorem dL_law_477 : decode cL_law 477 = .ok (.ireturn, 1) := by decide +kernel
theorem dL_law_478 : decode cL_law 478 = .ok (.aload_n 1, 1) := by decide +kernel
theorem dL_law_479 : decode cL_law 479 = .ok (.aload_n 0, 1) := by decide +kernel
theorem dL_law_480 : decode cL_law 480 = .ok (.iload_n 3, 1) := by decide +kernel
theorem dL_law_481 : decode cL_law 481 = .ok (.iconst 1, 1) := by decide +kernel
theorem dL_law_482 : decode cL_law 482 = .ok (.iadd, 1) := by decide +kernel
theorem dL_law_483 : decode cL_law 483 = .ok (.iaload, 1) := by decide +kernel
theorem dL_law_484 : decode cL_law 484 = .ok (.invokevirtual 59, 3) := by decide +kernel
theorem dL_law_487 : decode cL_law 487 = .ok (.aload_n 2, 1) := by decide +kernel
theorem dL_law_488 : decode cL_law 488 = .ok (.aload_n 0, 1) := by decide +kernel
theorem dL_law_489 : decode cL_law 489 = .ok (.iload_n 3, 1) := by decide +kernel
theorem dL_law_490 : decode cL_law 490 = .ok (.iconst 1, 1) := by decide +kernel
theorem dL_law_491 : decode cL_law 491 = .ok (.iadd, 1) := by decide +kernel
theorem dL_law_492 : decode cL_law 492 = .ok (.iaload, 1) := by decide +kernel
theorem dL_law_493 : decode cL_law 493 = .ok (.invokevirtual 62, 3) := by decide +kernel
theorem dL_law_496 : decode cL_law 496 = .ok (.if_icmp .eq 452, 3) := by decide +kernel
theorem dL_law_499 : decode cL_law 499 = .ok (.iconst 0, 1) := by decide +kernel
theorem dL_law_500 : decode cL_law 500 = .ok (.ireturn, 1) := by decide +kernel
theorem dL_law_501 : decode cL_law 501 = .ok (.aload_n 1, 1) := by decide +kernel
theorem dL_law_502 : decode cL_law 502 = .ok (.aload_n 0, 1) := by decide +kernel
theorem dL_law_503 : decode cL_law 503 = .ok (.iload_n 3, 1) := by decide +kernel
theorem dL_law_504 : decode cL_law 504 = .ok (.iconst 1, 1) := by decide +kernel
theorem dL_law_505 : decode cL_law 505 = .ok (.iadd, 1) := by decide +kernel
theorem dL_law_506 : decode cL_law 506 = .ok (.iaload, 1) := by decide +kernel
theorem dL_law_507 : decode cL_law 507 = .ok (.aload_n 0, 1) := by decide +kernel
theorem dL_law_508 : decode cL_law 508 = .ok (.iload_n 3, 1) := by decide +kernel
theorem dL_law_509 : decode cL_law 509 = .ok (.iconst 2, 1) := by decide +kernel
theorem dL_law_510 : decode cL_law 510 = .ok (.iadd, 1) := by decide +kernel
theorem dL_law_511 : decode cL_law 511 = .ok (.iaload, 1) := by decide +kernel
theorem dL_law_512 : decode cL_law 512 = .ok (.invokevirtual 63, 3) := by decide +kernel
theorem dL_law_515 : decode cL_law 515 = .ok (.aload_n 2, 1) := by decide +kernel
theorem dL_law_516 : decode cL_law 516 = .ok (.aload_n 0, 1) := by decide +kernel
theorem dL_law_517 : decode cL_law 517 = .ok (.iload_n 3, 1) := by decide +kernel
theorem dL_law_518 : decode cL_law 518 = .ok (.iconst 1, 1) := by decide +kernel
theorem dL_law_519 : decode cL_law 519 = .ok (.iadd, 1) := by decide +kernel
theorem dL_law_520 : decode cL_law 520 = .ok (.iaload, 1) := by decide +kernel
theorem dL_law_521 : decode cL_law 521 = .ok (.aload_n 0, 1) := by decide +kernel
theorem dL_law_522 : decode cL_law 522 = .ok (.iload_n 3, 1) := by decide +kernel
theorem dL_law_523 : decode cL_law 523 = .ok (.iconst 2, 1) := by decide +kernel
theorem dL_law_524 : decode cL_law 524 = .ok (.iadd, 1) := by decide +kernel
theorem dL_law_525 : decode cL_law 525 = .ok (.iaload, 1) := by decide +kernel
theorem dL_law_526 : decode cL_law 526 = .ok (.invokevirtual 66, 3) := by decide +kernel
theorem dL_law_529 : decode cL_law 529 = .ok (.if_icmp .eq 419, 3) := by decide +kernel
theorem dL_law_532 : decode cL_law 532 = .ok (.iconst 0, 1) := by decide +kernel
theorem dL_law_533 : decode cL_law 533 = .ok (.ireturn, 1) := by decide +kernel
theorem dL_law_534 : decode cL_law 534 = .ok (.aload_n 1, 1) := by decide +kernel
theorem dL_law_535 : decode cL_law 535 = .ok (.aload_n 0, 1) := by decide +kernel
theorem dL_law_536 : decode cL_law 536 = .ok (.iload_n 3, 1) := by decide +kernel
theorem dL_law_537 : decode cL_law 537 = .ok (.iconst 1, 1) := by decide +kernel
theorem dL_law_538 : decode cL_law 538 = .ok (.iadd, 1) := by decide +kernel
theorem dL_law_539 : decode cL_law 539 = .ok (.iaload, 1) := by decide +kernel
theorem dL_law_540 : decode cL_law 540 = .ok (.aload_n 0, 1) := by decide +kernel
theorem dL_law_541 : decode cL_law 541 = .ok (.iload_n 3, 1) := by decide +kernel
theorem dL_law_542 : decode cL_law 542 = .ok (.iconst 2, 1) := by decide +kernel
theorem dL_law_543 : decode cL_law 543 = .ok (.iadd, 1) := by decide +kernel
theorem dL_law_544 : decode cL_law 544 = .ok (.iaload, 1) := by decide +kernel
theorem dL_law_545 : decode cL_law 545 = .ok (.invokevirtual 67, 3) := by decide +kernel
theorem dL_law_548 : decode cL_law 548 = .ok (.aload_n 2, 1) := by decide +kernel
theorem dL_law_549 : decode cL_law 549 = .ok (.aload_n 0, 1) := by decide +kernel
theorem dL_law_550 : decode cL_law 550 = .ok (.iload_n 3, 1) := by decide +kernel
theorem dL_law_551 : decode cL_law 551 = .ok (.iconst 1, 1) := by decide +kernel
theorem dL_law_552 : decode cL_law 552 = .ok (.iadd, 1) := by decide +kernel
theorem dL_law_553 : decode cL_law 553 = .ok (.iaload, 1) := by decide +kernel
theorem dL_law_554 : decode cL_law 554 = .ok (.aload_n 0, 1) := by decide +kernel
theorem dL_law_555 : decode cL_law 555 = .ok (.iload_n 3, 1) := by decide +kernel
theorem dL_law_556 : decode cL_law 556 = .ok (.iconst 2, 1) := by decide +kernel
theorem dL_law_557 : decode cL_law 557 = .ok (.iadd, 1) := by decide +kernel
theorem dL_law_558 : decode cL_law 558 = .ok (.iaload, 1) := by decide +kernel
theorem dL_law_559 : decode cL_law 559 = .ok (.invokevirtual 70, 3) := by decide +kernel
theorem dL_law_562 : decode cL_law 562 = .ok (.if_icmp .eq 386, 3) := by decide +kernel
theorem dL_law_565 : decode cL_law 565 = .ok (.iconst 0, 1) := by decide +kernel
theorem dL_law_566 : decode cL_law 566 = .ok (.ireturn, 1) := by decide +kernel
theorem dL_law_567 : decode cL_law 567 = .ok (.aload_n 1, 1) := by decide +kernel
theorem dL_law_568 : decode cL_law 568 = .ok (.aload_n 0, 1) := by decide +kernel
theorem dL_law_569 : decode cL_law 569 = .ok (.iload_n 3, 1) := by decide +kernel
theorem dL_law_570 : decode cL_law 570 = .ok (.iconst 1, 1) := by decide +kernel
theorem dL_law_571 : decode cL_law 571 = .ok (.iadd, 1) := by decide +kernel
theorem dL_law_572 : decode cL_law 572 = .ok (.iaload, 1) := by decide +kernel
theorem dL_law_573 : decode cL_law 573 = .ok (.aload_n 0, 1) := by decide +kernel
theorem dL_law_574 : decode cL_law 574 = .ok (.iload_n 3, 1) := by decide +kernel
theorem dL_law_575 : decode cL_law 575 = .ok (.iconst 2, 1) := by decide +kernel
theorem dL_law_576 : decode cL_law 576 = .ok (.iadd, 1) := by decide +kernel
theorem dL_law_577 : decode cL_law 577 = .ok (.iaload, 1) := by decide +kernel
theorem dL_law_578 : decode cL_law 578 = .ok (.invokevirtual 71, 3) := by decide +kernel
theorem dL_law_581 : decode cL_law 581 = .ok (.aload_n 2, 1) := by decide +kernel
theorem dL_law_582 : decode cL_law 582 = .ok (.aload_n 0, 1) := by decide +kernel
theorem dL_law_583 : decode cL_law 583 = .ok (.iload_n 3, 1) := by decide +kernel
theorem dL_law_584 : decode cL_law 584 = .ok (.iconst 1, 1) := by decide +kernel
theorem dL_law_585 : decode cL_law 585 = .ok (.iadd, 1) := by decide +kernel
theorem dL_law_586 : decode cL_law 586 = .ok (.iaload, 1) := by decide +kernel
theorem dL_law_587 : decode cL_law 587 = .ok (.aload_n 0, 1) := by decide +kernel
theorem dL_law_588 : decode cL_law 588 = .ok (.iload_n 3, 1) := by decide +kernel
theorem dL_law_589 : decode cL_law 589 = .ok (.iconst 2, 1) := by decide +kernel
theorem dL_law_590 : decode cL_law 590 = .ok (.iadd, 1) := by decide +kernel
theorem dL_law_591 : decode cL_law 591 = .ok (.iaload, 1) := by decide +kernel
theorem dL_law_592 : decode cL_law 592 = .ok (.invokevirtual 74, 3) := by decide +kernel
theorem dL_law_595 : decode cL_law 595 = .ok (.if_icmp .eq 353, 3) := by decide +kernel
theorem dL_law_598 : decode cL_law 598 = .ok (.iconst 0, 1) := by decide +kernel
theorem dL_law_599 : decode cL_law 599 = .ok (.ireturn, 1) := by decide +kernel
theorem dL_law_600 : decode cL_law 600 = .ok (.aload_n 1, 1) := by decide +kernel
theorem dL_law_601 : decode cL_law 601 = .ok (.aload_n 0, 1) := by decide +kernel
theorem dL_law_602 : decode cL_law 602 = .ok (.iload_n 3, 1) := by decide +kernel
theorem dL_law_603 : decode cL_law 603 = .ok (.iconst 1, 1) := by decide +kernel
theorem dL_law_604 : decode cL_law 604 = .ok (.iadd, 1) := by decide +kernel
theorem dL_law_605 : decode cL_law 605 = .ok (.iaload, 1) := by decide +kernel
theorem dL_law_606 : decode cL_law 606 = .ok (.aload_n 0, 1) := by decide +kernel
theorem dL_law_607 : decode cL_law 607 = .ok (.iload_n 3, 1) := by decide +kernel
theorem dL_law_608 : decode cL_law 608 = .ok (.iconst 2, 1) := by decide +kernel
theorem dL_law_609 : decode cL_law 609 = .ok (.iadd, 1) := by decide +kernel
theorem dL_law_610 : decode cL_law 610 = .ok (.iaload, 1) := by decide +kernel
theorem dL_law_611 : decode cL_law 611 = .ok (.invokevirtual 75, 3) := by decide +kernel
theorem dL_law_614 : decode cL_law 614 = .ok (.aload_n 2, 1) := by decide +kernel
theorem dL_law_615 : decode cL_law 615 = .ok (.aload_n 0, 1) := by decide +kernel
theorem dL_law_616 : decode cL_law 616 = .ok (.iload_n 3, 1) := by decide +kernel
theorem dL_law_617 : decode cL_law 617 = .ok (.iconst 1, 1) := by decide +kernel
theorem dL_law_618 : decode cL_law 618 = .ok (.iadd, 1) := by decide +kernel
theorem dL_law_619 : decode cL_law 619 = .ok (.iaload, 1) := by decide +kernel
theorem dL_law_620 : decode cL_law 620 = .ok (.aload_n 0, 1) := by decide +kernel
theorem dL_law_621 : decode cL_law 621 = .ok (.iload_n 3, 1) := by decide +kernel
theorem dL_law_622 : decode cL_law 622 = .ok (.iconst 2, 1) := by decide +kernel
theorem dL_law_623 : decode cL_law 623 = .ok (.iadd, 1) := by decide +kernel
theorem dL_law_624 : decode cL_law 624 = .ok (.iaload, 1) := by decide +kernel
theorem dL_law_625 : decode cL_law 625 = .ok (.invokevirtual 78, 3) := by decide +kernel
theorem dL_law_628 : decode cL_law 628 = .ok (.if_icmp .eq 320, 3) := by decide +kernel
theorem dL_law_631 : decode cL_law 631 = .ok (.iconst 0, 1) := by decide +kernel
theorem dL_law_632 : decode cL_law 632 = .ok (.ireturn, 1) := by decide +kernel
theorem dL_law_633 : decode cL_law 633 = .ok (.aload_n 1, 1) := by decide +kernel
theorem dL_law_634 : decode cL_law 634 = .ok (.aload_n 0, 1) := by decide +kernel
theorem dL_law_635 : decode cL_law 635 = .ok (.iload_n 3, 1) := by decide +kernel
theorem dL_law_636 : decode cL_law 636 = .ok (.iconst 1, 1) := by decide +kernel
theorem dL_law_637 : decode cL_law 637 = .ok (.iadd, 1) := by decide +kernel
theorem dL_law_638 : decode cL_law 638 = .ok (.iaload, 1) := by decide +kernel
theorem dL_law_639 : decode cL_law 639 = .ok (.invokevirtual 79, 3) := by decide +kernel
theorem dL_law_642 : decode cL_law 642 = .ok (.aload_n 2, 1) := by decide +kernel
theorem dL_law_643 : decode cL_law 643 = .ok (.aload_n 0, 1) := by decide +kernel
theorem dL_law_644 : decode cL_law 644 = .ok (.iload_n 3, 1) := by decide +kernel
theorem dL_law_645 : decode cL_law 645 = .ok (.iconst 1, 1) := by decide +kernel
theorem dL_law_646 : decode cL_law 646 = .ok (.iadd, 1) := by decide +kernel
theorem dL_law_647 : decode cL_law 647 = .ok (.iaload, 1) := by decide +kernel
theorem dL_law_648 : decode cL_law 648 = .ok (.invokevirtual 82, 3) := by decide +kernel
theorem dL_law_651 : decode cL_law 651 = .ok (.if_icmp .eq 297, 3) := by decide +kernel
theorem dL_law_654 : decode cL_law 654 = .ok (.iconst 0, 1) := by decide +kernel
theorem dL_law_655 : decode cL_law 655 = .ok (.ireturn, 1) := by decide +kernel
theorem dL_law_656 : decode cL_law 656 = .ok (.aload_n 1, 1) := by decide +kernel
theorem dL_law_657 : decode cL_law 657 = .ok (.aload_n 0, 1) := by decide +kernel
theorem dL_law_658 : decode cL_law 658 = .ok (.iload_n 3, 1) := by decide +kernel
theorem dL_law_659 : decode cL_law 659 = .ok (.iconst 1, 1) := by decide +kernel
theorem dL_law_660 : decode cL_law 660 = .ok (.iadd, 1) := by decide +kernel
theorem dL_law_661 : decode cL_law 661 = .ok (.iaload, 1) := by decide +kernel
theorem dL_law_662 : decode cL_law 662 = .ok (.invokevirtual 83, 3) := by decide +kernel
theorem dL_law_665 : decode cL_law 665 = .ok (.aload_n 2, 1) := by decide +kernel
theorem dL_law_666 : decode cL_law 666 = .ok (.aload_n 0, 1) := by decide +kernel
theorem dL_law_667 : decode cL_law 667 = .ok (.iload_n 3, 1) := by decide +kernel
theorem dL_law_668 : decode cL_law 668 = .ok (.iconst 1, 1) := by decide +kernel
theorem dL_law_669 : decode cL_law 669 = .ok (.iadd, 1) := by decide +kernel
theorem dL_law_670 : decode cL_law 670 = .ok (.iaload, 1) := by decide +kernel
theorem dL_law_671 : decode cL_law 671 = .ok (.invokevirtual 86, 3) := by decide +kernel
theorem dL_law_674 : decode cL_law 674 = .ok (.if_icmp .eq 274, 3) := by decide +kernel
theorem dL_law_677 : decode cL_law 677 = .ok (.iconst 0, 1) := by decide +kernel
theorem dL_law_678 : decode cL_law 678 = .ok (.ireturn, 1) := by decide +kernel
theorem dL_law_679 : decode cL_law 679 = .ok (.aload_n 1, 1) := by decide +kernel
theorem dL_law_680 : decode cL_law 680 = .ok (.aload_n 0, 1) := by decide +kernel
theorem dL_law_681 : decode cL_law 681 = .ok (.iload_n 3, 1) := by decide +kernel
theorem dL_law_682 : decode cL_law 682 = .ok (.iconst 1, 1) := by decide +kernel
theorem dL_law_683 : decode cL_law 683 = .ok (.iadd, 1) := by decide +kernel
theorem dL_law_684 : decode cL_law 684 = .ok (.iaload, 1) := by decide +kernel
theorem dL_law_685 : decode cL_law 685 = .ok (.invokevirtual 87, 3) := by decide +kernel
theorem dL_law_688 : decode cL_law 688 = .ok (.aload_n 2, 1) := by decide +kernel
theorem dL_law_689 : decode cL_law 689 = .ok (.aload_n 0, 1) := by decide +kernel
theorem dL_law_690 : decode cL_law 690 = .ok (.iload_n 3, 1) := by decide +kernel
theorem dL_law_691 : decode cL_law 691 = .ok (.iconst 1, 1) := by decide +kernel
theorem dL_law_692 : decode cL_law 692 = .ok (.iadd, 1) := by decide +kernel
theorem dL_law_693 : decode cL_law 693 = .ok (.iaload, 1) := by decide +kernel
theorem dL_law_694 : decode cL_law 694 = .ok (.invokevirtual 90, 3) := by decide +kernel
theorem dL_law_697 : decode cL_law 697 = .ok (.if_icmp .eq 251, 3) := by decide +kernel
theorem dL_law_700 : decode cL_law 700 = .ok (.iconst 0, 1) := by decide +kernel
theorem dL_law_701 : decode cL_law 701 = .ok (.ireturn, 1) := by decide +kernel
theorem dL_law_702 : decode cL_law 702 = .ok (.aload_n 1, 1) := by decide +kernel
theorem dL_law_703 : decode cL_law 703 = .ok (.aload_n 0, 1) := by decide +kernel
theorem dL_law_704 : decode cL_law 704 = .ok (.iload_n 3, 1) := by decide +kernel
theorem dL_law_705 : decode cL_law 705 = .ok (.iconst 1, 1) := by decide +kernel
theorem dL_law_706 : decode cL_law 706 = .ok (.iadd, 1) := by decide +kernel
theorem dL_law_707 : decode cL_law 707 = .ok (.iaload, 1) := by decide +kernel
theorem dL_law_708 : decode cL_law 708 = .ok (.invokevirtual 91, 3) := by decide +kernel
theorem dL_law_711 : decode cL_law 711 = .ok (.aload_n 2, 1) := by decide +kernel
theorem dL_law_712 : decode cL_law 712 = .ok (.aload_n 0, 1) := by decide +kernel
theorem dL_law_713 : decode cL_law 713 = .ok (.iload_n 3, 1) := by decide +kernel
theorem dL_law_714 : decode cL_law 714 = .ok (.iconst 1, 1) := by decide +kernel
theorem dL_law_715 : decode cL_law 715 = .ok (.iadd, 1) := by decide +kernel
theorem dL_law_716 : decode cL_law 716 = .ok (.iaload, 1) := by decide +kernel
theorem dL_law_717 : decode cL_law 717 = .ok (.invokevirtual 94, 3) := by decide +kernel
theorem dL_law_720 : decode cL_law 720 = .ok (.if_icmp .eq 228, 3) := by decide +kernel
theorem dL_law_723 : decode cL_law 723 = .ok (.iconst 0, 1) := by decide +kernel
theorem dL_law_724 : decode cL_law 724 = .ok (.ireturn, 1) := by decide +kernel
theorem dL_law_725 : decode cL_law 725 = .ok (.aload_n 1, 1) := by decide +kernel
theorem dL_law_726 : decode cL_law 726 = .ok (.aload_n 0, 1) := by decide +kernel
theorem dL_law_727 : decode cL_law 727 = .ok (.iload_n 3, 1) := by decide +kernel
theorem dL_law_728 : decode cL_law 728 = .ok (.iconst 1, 1) := by decide +kernel
theorem dL_law_729 : decode cL_law 729 = .ok (.iadd, 1) := by decide +kernel
theorem dL_law_730 : decode cL_law 730 = .ok (.iaload, 1) := by decide +kernel
theorem dL_law_731 : decode cL_law 731 = .ok (.invokevirtual 95, 3) := by decide +kernel
theorem dL_law_734 : decode cL_law 734 = .ok (.aload_n 2, 1) := by decide +kernel
theorem dL_law_735 : decode cL_law 735 = .ok (.aload_n 0, 1) := by decide +kernel
theorem dL_law_736 : decode cL_law 736 = .ok (.iload_n 3, 1) := by decide +kernel
theorem dL_law_737 : decode cL_law 737 = .ok (.iconst 1, 1) := by decide +kernel
theorem dL_law_738 : decode cL_law 738 = .ok (.iadd, 1) := by decide +kernel
theorem dL_law_739 : decode cL_law 739 = .ok (.iaload, 1) := by decide +kernel
theorem dL_law_740 : decode cL_law 740 = .ok (.invokevirtual 98, 3) := by decide +kernel
theorem dL_law_743 : decode cL_law 743 = .ok (.if_icmp .eq 205, 3) := by decide +kernel
theorem dL_law_746 : decode cL_law 746 = .ok (.iconst 0, 1) := by decide +kernel
theorem dL_law_747 : decode cL_law 747 = .ok (.ireturn, 1) := by decide +kernel
theorem dL_law_748 : decode cL_law 748 = .ok (.aload_n 1, 1) := by decide +kernel
theorem dL_law_749 : decode cL_law 749 = .ok (.aload_n 0, 1) := by decide +kernel
theorem dL_law_750 : decode cL_law 750 = .ok (.iload_n 3, 1) := by decide +kernel
theorem dL_law_751 : decode cL_law 751 = .ok (.iconst 1, 1) := by decide +kernel
theorem dL_law_752 : decode cL_law 752 = .ok (.iadd, 1) := by decide +kernel
theorem dL_law_753 : decode cL_law 753 = .ok (.iaload, 1) := by decide +kernel
theorem dL_law_754 : decode cL_law 754 = .ok (.invokevirtual 99, 3) := by decide +kernel
theorem dL_law_757 : decode cL_law 757 = .ok (.aload_n 2, 1) := by decide +kernel
theorem dL_law_758 : decode cL_law 758 = .ok (.aload_n 0, 1) := by decide +kernel
theorem dL_law_759 : decode cL_law 759 = .ok (.iload_n 3, 1) := by decide +kernel
theorem dL_law_760 : decode cL_law 760 = .ok (.iconst 1, 1) := by decide +kernel
theorem dL_law_761 : decode cL_law 761 = .ok (.iadd, 1) := by decide +kernel
theorem dL_law_762 : decode cL_law 762 = .ok (.iaload, 1) := by decide +kernel
theorem dL_law_763 : decode cL_law 763 = .ok (.invokevirtual 102, 3) := by decide +kernel
theorem dL_law_766 : decode cL_law 766 = .ok (.if_icmp .eq 182, 3) := by decide +kernel
theorem dL_law_769 : decode cL_law 769 = .ok (.iconst 0, 1) := by decide +kernel
theorem dL_law_770 : decode cL_law 770 = .ok (.ireturn, 1) := by decide +kernel
theorem dL_law_771 : decode cL_law 771 = .ok (.aload_n 1, 1) := by decide +kernel
theorem dL_law_772 : decode cL_law 772 = .ok (.invokevirtual 103, 3) := by decide +kernel
theorem dL_law_775 : decode cL_law 775 = .ok (.aload_n 2, 1) := by decide +kernel
theorem dL_law_776 : decode cL_law 776 = .ok (.invokevirtual 106, 3) := by decide +kernel
theorem dL_law_779 : decode cL_law 779 = .ok (.if_icmp .eq 169, 3) := by decide +kernel
theorem dL_law_782 : decode cL_law 782 = .ok (.iconst 0, 1) := by decide +kernel
theorem dL_law_783 : decode cL_law 783 = .ok (.ireturn, 1) := by decide +kernel
theorem dL_law_784 : decode cL_law 784 = .ok (.aload_n 1, 1) := by decide +kernel
theorem dL_law_785 : decode cL_law 785 = .ok (.invokevirtual 107, 3) := by decide +kernel
theorem dL_law_788 : decode cL_law 788 = .ok (.aload_n 2, 1) := by decide +kernel
theorem dL_law_789 : decode cL_law 789 = .ok (.invokevirtual 110, 3) := by decide +kernel
theorem dL_law_792 : decode cL_law 792 = .ok (.if_icmp .eq 156, 3) := by decide +kernel
theorem dL_law_795 : decode cL_law 795 = .ok (.iconst 0, 1) := by decide +kernel
theorem dL_law_796 : decode cL_law 796 = .ok (.ireturn, 1) := by decide +kernel
theorem dL_law_797 : decode cL_law 797 = .ok (.aload_n 1, 1) := by decide +kernel
theorem dL_law_798 : decode cL_law 798 = .ok (.aload_n 0, 1) := by decide +kernel
theorem dL_law_799 : decode cL_law 799 = .ok (.iload_n 3, 1) := by decide +kernel
theorem dL_law_800 : decode cL_law 800 = .ok (.iconst 1, 1) := by decide +kernel
theorem dL_law_801 : decode cL_law 801 = .ok (.iadd, 1) := by decide +kernel
theorem dL_law_802 : decode cL_law 802 = .ok (.iaload, 1) := by decide +kernel
theorem dL_law_803 : decode cL_law 803 = .ok (.i2l, 1) := by decide +kernel
theorem dL_law_804 : decode cL_law 804 = .ok (.bipush 32, 2) := by decide +kernel
theorem dL_law_806 : decode cL_law 806 = .ok (.lshl, 1) := by decide +kernel
theorem dL_law_807 : decode cL_law 807 = .ok (.aload_n 0, 1) := by decide +kernel
theorem dL_law_808 : decode cL_law 808 = .ok (.iload_n 3, 1) := by decide +kernel
theorem dL_law_809 : decode cL_law 809 = .ok (.iconst 2, 1) := by decide +kernel
theorem dL_law_810 : decode cL_law 810 = .ok (.iadd, 1) := by decide +kernel
theorem dL_law_811 : decode cL_law 811 = .ok (.iaload, 1) := by decide +kernel
theorem dL_law_812 : decode cL_law 812 = .ok (.i2l, 1) := by decide +kernel
theorem dL_law_813 : decode cL_law 813 = .ok (.ldc2_w 48, 3) := by decide +kernel
theorem dL_law_816 : decode cL_law 816 = .ok (.land, 1) := by decide +kernel
theorem dL_law_817 : decode cL_law 817 = .ok (.lor, 1) := by decide +kernel
theorem dL_law_818 : decode cL_law 818 = .ok (.invokevirtual 111, 3) := by decide +kernel
theorem dL_law_821 : decode cL_law 821 = .ok (.aload_n 2, 1) := by decide +kernel
theorem dL_law_822 : decode cL_law 822 = .ok (.aload_n 0, 1) := by decide +kernel
theorem dL_law_823 : decode cL_law 823 = .ok (.iload_n 3, 1) := by decide +kernel
theorem dL_law_824 : decode cL_law 824 = .ok (.iconst 1, 1) := by decide +kernel
theorem dL_law_825 : decode cL_law 825 = .ok (.iadd, 1) := by decide +kernel
theorem dL_law_826 : decode cL_law 826 = .ok (.iaload, 1) := by decide +kernel
theorem dL_law_827 : decode cL_law 827 = .ok (.i2l, 1) := by decide +kernel
theorem dL_law_828 : decode cL_law 828 = .ok (.bipush 32, 2) := by decide +kernel
theorem dL_law_830 : decode cL_law 830 = .ok (.lshl, 1) := by decide +kernel
theorem dL_law_831 : decode cL_law 831 = .ok (.aload_n 0, 1) := by decide +kernel
theorem dL_law_832 : decode cL_law 832 = .ok (.iload_n 3, 1) := by decide +kernel
theorem dL_law_833 : decode cL_law 833 = .ok (.iconst 2, 1) := by decide +kernel
theorem dL_law_834 : decode cL_law 834 = .ok (.iadd, 1) := by decide +kernel
theorem dL_law_835 : decode cL_law 835 = .ok (.iaload, 1) := by decide +kernel
theorem dL_law_836 : decode cL_law 836 = .ok (.i2l, 1) := by decide +kernel
theorem dL_law_837 : decode cL_law 837 = .ok (.ldc2_w 48, 3) := by decide +kernel
theorem dL_law_840 : decode cL_law 840 = .ok (.land, 1) := by decide +kernel
theorem dL_law_841 : decode cL_law 841 = .ok (.lor, 1) := by decide +kernel
theorem dL_law_842 : decode cL_law 842 = .ok (.invokevirtual 115, 3) := by decide +kernel
theorem dL_law_845 : decode cL_law 845 = .ok (.if_icmp .eq 103, 3) := by decide +kernel
theorem dL_law_848 : decode cL_law 848 = .ok (.iconst 0, 1) := by decide +kernel
theorem dL_law_849 : decode cL_law 849 = .ok (.ireturn, 1) := by decide +kernel
theorem dL_law_850 : decode cL_law 850 = .ok (.aload_n 1, 1) := by decide +kernel
theorem dL_law_851 : decode cL_law 851 = .ok (.invokevirtual 116, 3) := by decide +kernel
theorem dL_law_854 : decode cL_law 854 = .ok (.aload_n 2, 1) := by decide +kernel
theorem dL_law_855 : decode cL_law 855 = .ok (.invokevirtual 119, 3) := by decide +kernel
theorem dL_law_858 : decode cL_law 858 = .ok (.if_icmp .eq 90, 3) := by decide +kernel
theorem dL_law_861 : decode cL_law 861 = .ok (.iconst 0, 1) := by decide +kernel
theorem dL_law_862 : decode cL_law 862 = .ok (.ireturn, 1) := by decide +kernel
theorem dL_law_863 : decode cL_law 863 = .ok (.aload_n 1, 1) := by decide +kernel
theorem dL_law_864 : decode cL_law 864 = .ok (.invokevirtual 120, 3) := by decide +kernel
theorem dL_law_867 : decode cL_law 867 = .ok (.aload_n 2, 1) := by decide +kernel
theorem dL_law_868 : decode cL_law 868 = .ok (.invokevirtual 123, 3) := by decide +kernel
theorem dL_law_871 : decode cL_law 871 = .ok (.if_icmp .eq 77, 3) := by decide +kernel
theorem dL_law_874 : decode cL_law 874 = .ok (.iconst 0, 1) := by decide +kernel
theorem dL_law_875 : decode cL_law 875 = .ok (.ireturn, 1) := by decide +kernel
theorem dL_law_876 : decode cL_law 876 = .ok (.aload_n 1, 1) := by decide +kernel
theorem dL_law_877 : decode cL_law 877 = .ok (.invokevirtual 124, 3) := by decide +kernel
theorem dL_law_880 : decode cL_law 880 = .ok (.aload_n 2, 1) := by decide +kernel
theorem dL_law_881 : decode cL_law 881 = .ok (.invokevirtual 127, 3) := by decide +kernel
theorem dL_law_884 : decode cL_law 884 = .ok (.if_icmp .eq 64, 3) := by decide +kernel
theorem dL_law_887 : decode cL_law 887 = .ok (.iconst 0, 1) := by decide +kernel
theorem dL_law_888 : decode cL_law 888 = .ok (.ireturn, 1) := by decide +kernel
theorem dL_law_889 : decode cL_law 889 = .ok (.aload_n 1, 1) := by decide +kernel
theorem dL_law_890 : decode cL_law 890 = .ok (.invokevirtual 128, 3) := by decide +kernel
theorem dL_law_893 : decode cL_law 893 = .ok (.aload_n 2, 1) := by decide +kernel
theorem dL_law_894 : decode cL_law 894 = .ok (.invokevirtual 131, 3) := by decide +kernel
theorem dL_law_897 : decode cL_law 897 = .ok (.if_icmp .eq 51, 3) := by decide +kernel
theorem dL_law_900 : decode cL_law 900 = .ok (.iconst 0, 1) := by decide +kernel
theorem dL_law_901 : decode cL_law 901 = .ok (.ireturn, 1) := by decide +kernel
theorem dL_law_902 : decode cL_law 902 = .ok (.aload_n 1, 1) := by decide +kernel
theorem dL_law_903 : decode cL_law 903 = .ok (.aload_n 0, 1) := by decide +kernel
theorem dL_law_904 : decode cL_law 904 = .ok (.iload_n 3, 1) := by decide +kernel
theorem dL_law_905 : decode cL_law 905 = .ok (.iconst 1, 1) := by decide +kernel
theorem dL_law_906 : decode cL_law 906 = .ok (.iadd, 1) := by decide +kernel
theorem dL_law_907 : decode cL_law 907 = .ok (.iaload, 1) := by decide +kernel
theorem dL_law_908 : decode cL_law 908 = .ok (.invokevirtual 132, 3) := by decide +kernel
theorem dL_law_911 : decode cL_law 911 = .ok (.aload_n 2, 1) := by decide +kernel
theorem dL_law_912 : decode cL_law 912 = .ok (.aload_n 0, 1) := by decide +kernel
theorem dL_law_913 : decode cL_law 913 = .ok (.iload_n 3, 1) := by decide +kernel
theorem dL_law_914 : decode cL_law 914 = .ok (.iconst 1, 1) := by decide +kernel
theorem dL_law_915 : decode cL_law 915 = .ok (.iadd, 1) := by decide +kernel
theorem dL_law_916 : decode cL_law 916 = .ok (.iaload, 1) := by decide +kernel
theorem dL_law_917 : decode cL_law 917 = .ok (.invokevirtual 135, 3) := by decide +kernel
theorem dL_law_920 : decode cL_law 920 = .ok (.if_icmp .eq 28, 3) := by decide +kernel
theorem dL_law_923 : decode cL_law 923 = .ok (.iconst 0, 1) := by decide +kernel
theorem dL_law_924 : decode cL_law 924 = .ok (.ireturn, 1) := by decide +kernel
theorem dL_law_925 : decode cL_law 925 = .ok (.aload_n 1, 1) := by decide +kernel
theorem dL_law_926 : decode cL_law 926 = .ok (.aload_n 0, 1) := by decide +kernel
theorem dL_law_927 : decode cL_law 927 = .ok (.iload_n 3, 1) := by decide +kernel
theorem dL_law_928 : decode cL_law 928 = .ok (.iconst 1, 1) := by decide +kernel
theorem dL_law_929 : decode cL_law 929 = .ok (.iadd, 1) := by decide +kernel
theorem dL_law_930 : decode cL_law 930 = .ok (.iaload, 1) := by decide +kernel
theorem dL_law_931 : decode cL_law 931 = .ok (.invokevirtual 136, 3) := by decide +kernel
theorem dL_law_934 : decode cL_law 934 = .ok (.aload_n 2, 1) := by decide +kernel
theorem dL_law_935 : decode cL_law 935 = .ok (.aload_n 0, 1) := by decide +kernel
theorem dL_law_936 : decode cL_law 936 = .ok (.iload_n 3, 1) := by decide +kernel
theorem dL_law_937 : decode cL_law 937 = .ok (.iconst 1, 1) := by decide +kernel
theorem dL_law_938 : decode cL_law 938 = .ok (.iadd, 1) := by decide +kernel
theorem dL_law_939 : decode cL_law 939 = .ok (.iaload, 1) := by decide +kernel
theorem dL_law_940 : decode cL_law 940 = .ok (.invokevirtual 139, 3) := by decide +kernel
theorem dL_law_943 : decode cL_law 943 = .ok (.if_icmp .eq 5, 3) := by decide +kernel
theorem dL_law_946 : decode cL_law 946 = .ok (.iconst 0, 1) := by decide +kernel
theorem dL_law_947 : decode cL_law 947 = .ok (.ireturn, 1) := by decide +kernel
theorem dL_law_948 : decode cL_law 948 = .ok (.iinc 3 4, 3) := by decide +kernel
theorem dL_law_951 : decode cL_law 951 = .ok (.goto (-933), 3) := by decide +kernel
theorem dL_law_954 : decode cL_law 954 = .ok (.iconst 1, 1) := by decide +kernel
theorem dL_law_955 : decode cL_law 955 = .ok (.ireturn, 1) := by decide +kernel
