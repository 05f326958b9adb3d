theorem dL_isRound_35 : decode cL_isRound 35 = .ok (.iconst 0, 1) := by decide +kernel
theorem dL_isRound_36 : decode cL_isRound 36 = .ok (.istore_n 3, 1) := by decide +kernel
theorem dL_isRound_37 : decode cL_isRound 37 = .ok (.aload_n 0, 1) := by decide +kernel
theorem dL_isRound_38 : decode cL_isRound 38 = .ok (.bipush 19, 2) := by decide +kernel
theorem dL_isRound_40 : decode cL_isRound 40 = .ok (.invokevirtual 8, 3) := by decide +kernel
theorem dL_isRound_43 : decode cL_isRound 43 = .ok (.iconst 2, 1) := by decide +kernel
theorem dL_isRound_44 : decode cL_isRound 44 = .ok (.aload_n 0, 1) := by decide +kernel
theorem dL_isRound_45 : decode cL_isRound 45 = .ok (.bipush 18, 2) := by decide +kernel
theorem dL_isRound_47 : decode cL_isRound 47 = .ok (.invokevirtual 8, 3) := by decide +kernel
theorem dL_isRound_50 : decode cL_isRound 50 = .ok (.imul, 1) := by decide +kernel
theorem dL_isRound_51 : decode cL_isRound 51 = .ok (.iadd, 1) := by decide +kernel
theorem dL_isRound_52 : decode cL_isRound 52 = .ok (.istore 4, 2) := by decide +kernel
theorem dL_isRound_54 : decode cL_isRound 54 = .ok (.aload_n 0, 1) := by decide +kernel
theorem dL_isRound_55 : decode cL_isRound 55 = .ok (.iconst 0, 1) := by decide +kernel
theorem dL_isRound_56 : decode cL_isRound 56 = .ok (.invokevirtual 8, 3) := by decide +kernel
theorem dL_isRound_59 : decode cL_isRound 59 = .ok (.istore 5, 2) := by decide +kernel
theorem dL_isRound_61 : decode cL_isRound 61 = .ok (.aload_n 0, 1) := by decide +kernel
theorem dL_isRound_62 : decode cL_isRound 62 = .ok (.iload 4, 2) := by decide +kernel
theorem dL_isRound_64 : decode cL_isRound 64 = .ok (.invokevirtual 37, 3) := by decide +kernel
theorem dL_isRound_67 : decode cL_isRound 67 = .ok (.istore 6, 2) := by decide +kernel
theorem dL_isRound_69 : decode cL_isRound 69 = .ok (.aload_n 0, 1) := by decide +kernel
theorem dL_isRound_70 : decode cL_isRound 70 = .ok (.bipush 9, 2) := by decide +kernel
theorem dL_isRound_72 : decode cL_isRound 72 = .ok (.invokevirtual 8, 3) := by decide +kernel
theorem dL_isRound_75 : decode cL_isRound 75 = .ok (.istore 7, 2) := by decide +kernel
theorem dL_isRound_77 : decode cL_isRound 77 = .ok (.aload_n 0, 1) := by decide +kernel
theorem dL_isRound_78 : decode cL_isRound 78 = .ok (.bipush 10, 2) := by decide +kernel
theorem dL_isRound_80 : decode cL_isRound 80 = .ok (.invokevirtual 8, 3) := by decide +kernel
theorem dL_isRound_83 : decode cL_isRound 83 = .ok (.istore 8, 2) := by decide +kernel
theorem dL_isRound_85 : decode cL_isRound 85 = .ok (.aload_n 0, 1) := by decide +kernel
theorem dL_isRound_86 : decode cL_isRound 86 = .ok (.bipush 11, 2) := by decide +kernel
theorem dL_isRound_88 : decode cL_isRound 88 = .ok (.invokevirtual 8, 3) := by decide +kernel
theorem dL_isRound_91 : decode cL_isRound 91 = .ok (.istore 9, 2) := by decide +kernel
theorem dL_isRound_93 : decode cL_isRound 93 = .ok (.aload_n 0, 1) := by decide +kernel
theorem dL_isRound_94 : decode cL_isRound 94 = .ok (.invokevirtual 51, 3) := by decide +kernel
theorem dL_isRound_97 : decode cL_isRound 97 = .ok (.istore 10, 2) := by decide +kernel
theorem dL_isRound_99 : decode cL_isRound 99 = .ok (.iload_n 3, 1) := by decide +kernel
theorem dL_isRound_100 : decode cL_isRound 100 = .ok (.ifCond .ne 26, 3) := by decide +kernel
theorem dL_isRound_103 : decode cL_isRound 103 = .ok (.iload 10, 2) := by decide +kernel
theorem dL_isRound_105 : decode cL_isRound 105 = .ok (.bipush (-5), 2) := by decide +kernel
theorem dL_isRound_107 : decode cL_isRound 107 = .ok (.if_icmp .ne 17, 3) := by decide +kernel
theorem dL_isRound_110 : decode cL_isRound 110 = .ok (.aload_n 0, 1) := by decide +kernel
theorem dL_isRound_111 : decode cL_isRound 111 = .ok (.iconst 0, 1) := by decide +kernel
theorem dL_isRound_112 : decode cL_isRound 112 = .ok (.invokevirtual 8, 3) := by decide +kernel
theorem dL_isRound_115 : decode cL_isRound 115 = .ok (.iload 5, 2) := by decide +kernel
theorem dL_isRound_117 : decode cL_isRound 117 = .ok (.if_icmp .ne 7, 3) := by decide +kernel
theorem dL_isRound_120 : decode cL_isRound 120 = .ok (.iconst 1, 1) := by decide +kernel
theorem dL_isRound_121 : decode cL_isRound 121 = .ok (.goto 4, 3) := by decide +kernel
theorem dL_isRound_124 : decode cL_isRound 124 = .ok (.iconst 0, 1) := by decide +kernel
theorem dL_isRound_125 : decode cL_isRound 125 = .ok (.ireturn, 1) := by decide +kernel
theorem dL_isRound_126 : decode cL_isRound 126 = .ok (.iconst 0, 1) := by decide +kernel
theorem dL_isRound_127 : decode cL_isRound 127 = .ok (.istore 11, 2) := by decide +kernel
theorem dL_isRound_129 : decode cL_isRound 129 = .ok (.iload 11, 2) := by decide +kernel
theorem dL_isRound_131 : decode cL_isRound 131 = .ok (.iload_n 2, 1) := by decide +kernel
theorem dL_isRound_132 : decode cL_isRound 132 = .ok (.if_icmp .ge 30, 3) := by decide +kernel
theorem dL_isRound_135 : decode cL_isRound 135 = .ok (.aload_n 0, 1) := by decide +kernel
theorem dL_isRound_136 : decode cL_isRound 136 = .ok (.bipush (-6), 2) := by decide +kernel
theorem dL_isRound_138 : decode cL_isRound 138 = .ok (.iload 11, 2) := by decide +kernel
theorem dL_isRound_140 : decode cL_isRound 140 = .ok (.invokevirtual 18, 3) := by decide +kernel
theorem dL_isRound_143 : decode cL_isRound 143 = .ok (.aload_n 1, 1) := by decide +kernel
theorem dL_isRound_144 : decode cL_isRound 144 = .ok (.iload_n 2, 1) := by decide +kernel
theorem dL_isRound_145 : decode cL_isRound 145 = .ok (.iconst 1, 1) := by decide +kernel
theorem dL_isRound_146 : decode cL_isRound 146 = .ok (.isub, 1) := by decide +kernel
theorem dL_isRound_147 : decode cL_isRound 147 = .ok (.iload 11, 2) := by decide +kernel
theorem dL_isRound_149 : decode cL_isRound 149 = .ok (.isub, 1) := by decide +kernel
theorem dL_isRound_150 : decode cL_isRound 150 = .ok (.iaload, 1) := by decide +kernel
theorem dL_isRound_151 : decode cL_isRound 151 = .ok (.if_icmp .eq 5, 3) := by decide +kernel
theorem dL_isRound_154 : decode cL_isRound 154 = .ok (.iconst 0, 1) := by decide +kernel
theorem dL_isRound_155 : decode cL_isRound 155 = .ok (.ireturn, 1) := by decide +kernel
theorem dL_isRound_156 : decode cL_isRound 156 = .ok (.iinc 11 1, 3) := by decide +kernel
theorem dL_isRound_159 : decode cL_isRound 159 = .ok (.goto (-30), 3) := by decide +kernel
theorem dL_isRound_162 : decode cL_isRound 162 = .ok (.iload 10, 2) := by decide +kernel
theorem dL_isRound_164 : decode cL_isRound 164 = .ok (.aload_n 0, 1) := by decide +kernel
theorem dL_isRound_165 : decode cL_isRound 165 = .ok (.iconst 0, 1) := by decide +kernel
theorem dL_isRound_166 : decode cL_isRound 166 = .ok (.invokevirtual 8, 3) := by decide +kernel
theorem dL_isRound_169 : decode cL_isRound 169 = .ok (.if_icmp .ne 36, 3) := by decide +kernel
theorem dL_isRound_172 : decode cL_isRound 172 = .ok (.aload_n 0, 1) := by decide +kernel
theorem dL_isRound_173 : decode cL_isRound 173 = .ok (.iconst 3, 1) := by decide +kernel
theorem dL_isRound_174 : decode cL_isRound 174 = .ok (.invokevirtual 8, 3) := by decide +kernel
theorem dL_isRound_177 : decode cL_isRound 177 = .ok (.iload_n 2, 1) := by decide +kernel
theorem dL_isRound_178 : decode cL_isRound 178 = .ok (.if_icmp .ne 27, 3) := by decide +kernel
theorem dL_isRound_181 : decode cL_isRound 181 = .ok (.aload_n 0, 1) := by decide +kernel
theorem dL_isRound_182 : decode cL_isRound 182 = .ok (.iload 5, 2) := by decide +kernel
theorem dL_isRound_184 : decode cL_isRound 184 = .ok (.iload 6, 2) := by decide +kernel
theorem dL_isRound_186 : decode cL_isRound 186 = .ok (.iload 4, 2) := by decide +kernel
theorem dL_isRound_188 : decode cL_isRound 188 = .ok (.iconst 2, 1) := by decide +kernel
theorem dL_isRound_189 : decode cL_isRound 189 = .ok (.iload 7, 2) := by decide +kernel
theorem dL_isRound_191 : decode cL_isRound 191 = .ok (.iload 8, 2) := by decide +kernel
theorem dL_isRound_193 : decode cL_isRound 193 = .ok (.iload 9, 2) := by decide +kernel
theorem dL_isRound_195 : decode cL_isRound 195 = .ok (.invokestatic 40, 3) := by decide +kernel
theorem dL_isRound_198 : decode cL_isRound 198 = .ok (.ifCond .eq 7, 3) := by decide +kernel
theorem dL_isRound_201 : decode cL_isRound 201 = .ok (.iconst 1, 1) := by decide +kernel
theorem dL_isRound_202 : decode cL_isRound 202 = .ok (.goto 4, 3) := by decide +kernel
theorem dL_isRound_205 : decode cL_isRound 205 = .ok (.iconst 0, 1) := by decide +kernel
theorem dL_isRound_206 : decode cL_isRound 206 = .ok (.ireturn, 1) := by decide +kernel
theorem dL_isWagon_0 : decode cL_isWagon 0 = .ok (.aload_n 0, 1) := by decide +kernel
theorem dL_isWagon_1 : decode cL_isWagon 1 = .ok (.iconst 2, 1) := by decide +kernel
theorem dL_isWagon_2 : decode cL_isWagon 2 = .ok (.invokevirtual 8, 3) := by decide +kernel
theorem dL_isWagon_5 : decode cL_isWagon 5 = .ok (.istore_n 3, 1) := by decide +kernel
theorem dL_isWagon_6 : decode cL_isWagon 6 = .ok (.aload_n 0, 1) := by decide +kernel
theorem dL_isWagon_7 : decode cL_isWagon 7 = .ok (.iload_n 1, 1) := by decide +kernel
theorem dL_isWagon_8 : decode cL_isWagon 8 = .ok (.iconst 1, 1) := by decide +kernel
theorem dL_isWagon_9 : decode cL_isWagon 9 = .ok (.invokevirtual 14, 3) := by decide +kernel
theorem dL_isWagon_12 : decode cL_isWagon 12 = .ok (.istore 4, 2) := by decide +kernel
theorem dL_isWagon_14 : decode cL_isWagon 14 = .ok (.aload_n 0, 1) := by decide +kernel
theorem dL_isWagon_15 : decode cL_isWagon 15 = .ok (.iload_n 1, 1) := by decide +kernel
theorem dL_isWagon_16 : decode cL_isWagon 16 = .ok (.iconst 2, 1) := by decide +kernel
theorem dL_isWagon_17 : decode cL_isWagon 17 = .ok (.invokevirtual 14, 3) := by decide +kernel
theorem dL_isWagon_20 : decode cL_isWagon 20 = .ok (.iload_n 2, 1) := by decide +kernel
theorem dL_isWagon_21 : decode cL_isWagon 21 = .ok (.iadd, 1) := by decide +kernel
theorem dL_isWagon_22 : decode cL_isWagon 22 = .ok (.aload_n 0, 1) := by decide +kernel
theorem dL_isWagon_23 : decode cL_isWagon 23 = .ok (.iload_n 1, 1) := by decide +kernel
theorem dL_isWagon_24 : decode cL_isWagon 24 = .ok (.iconst 0, 1) := by decide +kernel
theorem dL_isWagon_25 : decode cL_isWagon 25 = .ok (.invokevirtual 14, 3) := by decide +kernel
theorem dL_isWagon_28 : decode cL_isWagon 28 = .ok (.if_icmp .gt 7, 3) := by decide +kernel
theorem dL_isWagon_31 : decode cL_isWagon 31 = .ok (.iconst 1, 1) := by decide +kernel
theorem dL_isWagon_32 : decode cL_isWagon 32 = .ok (.goto 4, 3) := by decide +kernel
theorem dL_isWagon_35 : decode cL_isWagon 35 = .ok (.iconst 0, 1) := by decide +kernel
theorem dL_isWagon_36 : decode cL_isWagon 36 = .ok (.istore 5, 2) := by decide +kernel
theorem dL_isWagon_38 : decode cL_isWagon 38 = .ok (.aload_n 0, 1) := by decide +kernel
theorem dL_isWagon_39 : decode cL_isWagon 39 = .ok (.iload_n 1, 1) := by decide +kernel
theorem dL_isWagon_40 : decode cL_isWagon 40 = .ok (.iload_n 2, 1) := by decide +kernel
theorem dL_isWagon_41 : decode cL_isWagon 41 = .ok (.invokevirtual 54, 3) := by decide +kernel
theorem dL_isWagon_44 : decode cL_isWagon 44 = .ok (.istore 6, 2) := by decide +kernel
theorem dL_isWagon_46 : decode cL_isWagon 46 = .ok (.iload_n 3, 1) := by decide +kernel
theorem dL_isWagon_47 : decode cL_isWagon 47 = .ok (.bipush 30, 2) := by decide +kernel
theorem dL_isWagon_49 : decode cL_isWagon 49 = .ok (.if_icmp .eq 8, 3) := by decide +kernel
theorem dL_isWagon_52 : decode cL_isWagon 52 = .ok (.iload 5, 2) := by decide +kernel
theorem dL_isWagon_54 : decode cL_isWagon 54 = .ok (.ifCond .ne 38, 3) := by decide +kernel
theorem dL_isWagon_57 : decode cL_isWagon 57 = .ok (.iload 6, 2) := by decide +kernel
theorem dL_isWagon_59 : decode cL_isWagon 59 = .ok (.iload_n 3, 1) := by decide +kernel
theorem dL_isWagon_60 : decode cL_isWagon 60 = .ok (.bipush 30, 2) := by decide +kernel
theorem dL_isWagon_62 : decode cL_isWagon 62 = .ok (.if_icmp .ne 8, 3) := by decide +kernel
theorem dL_isWagon_65 : decode cL_isWagon 65 = .ok (.bipush (-4), 2) := by decide +kernel
theorem dL_isWagon_67 : decode cL_isWagon 67 = .ok (.goto 5, 3) := by decide +kernel
theorem dL_isWagon_70 : decode cL_isWagon 70 = .ok (.bipush (-5), 2) := by decide +kernel
theorem dL_isWagon_72 : decode cL_isWagon 72 = .ok (.if_icmp .ne 18, 3) := by decide +kernel
theorem dL_isWagon_75 : decode cL_isWagon 75 = .ok (.aload_n 0, 1) := by decide +kernel
theorem dL_isWagon_76 : decode cL_isWagon 76 = .ok (.iload_n 1, 1) := by decide +kernel
theorem dL_isWagon_77 : decode cL_isWagon 77 = .ok (.iconst 1, 1) := by decide +kernel
theorem dL_isWagon_78 : decode cL_isWagon 78 = .ok (.invokevirtual 14, 3) := by decide +kernel
theorem dL_isWagon_81 : decode cL_isWagon 81 = .ok (.iload 4, 2) := by decide +kernel
theorem dL_isWagon_83 : decode cL_isWagon 83 = .ok (.if_icmp .ne 7, 3) := by decide +kernel
theorem dL_isWagon_86 : decode cL_isWagon 86 = .ok (.iconst 1, 1) := by decide +kernel
theorem dL_isWagon_87 : decode cL_isWagon 87 = .ok (.goto 4, 3) := by decide +kernel
theorem dL_isWagon_90 : decode cL_isWagon 90 = .ok (.iconst 0, 1) := by decide +kernel
theorem dL_isWagon_91 : decode cL_isWagon 91 = .ok (.ireturn, 1) := by decide +kernel
theorem dL_isWagon_92 : decode cL_isWagon 92 = .ok (.iload 6, 2) := by decide +kernel
theorem dL_isWagon_94 : decode cL_isWagon 94 = .ok (.iload_n 3, 1) := by decide +kernel
theorem dL_isWagon_95 : decode cL_isWagon 95 = .ok (.if_icmp .ne 61, 3) := by decide +kernel
theorem dL_isWagon_98 : decode cL_isWagon 98 = .ok (.aload_n 0, 1) := by decide +kernel
theorem dL_isWagon_99 : decode cL_isWagon 99 = .ok (.iload_n 1, 1) := by decide +kernel
theorem dL_isWagon_100 : decode cL_isWagon 100 = .ok (.iconst 0, 1) := by decide +kernel
theorem dL_isWagon_101 : decode cL_isWagon 101 = .ok (.invokevirtual 18, 3) := by decide +kernel
theorem dL_isWagon_104 : decode cL_isWagon 104 = .ok (.iload_n 3, 1) := by decide +kernel
theorem dL_isWagon_105 : decode cL_isWagon 105 = .ok (.if_icmp .ne 51, 3) := by decide +kernel
theorem dL_isWagon_108 : decode cL_isWagon 108 = .ok (.aload_n 0, 1) := by decide +kernel
theorem dL_isWagon_109 : decode cL_isWagon 109 = .ok (.iload_n 1, 1) := by decide +kernel
theorem dL_isWagon_110 : decode cL_isWagon 110 = .ok (.iconst 1, 1) := by decide +kernel
theorem dL_isWagon_111 : decode cL_isWagon 111 = .ok (.invokevirtual 14, 3) := by decide +kernel
theorem dL_isWagon_114 : decode cL_isWagon 114 = .ok (.iload 4, 2) := by decide +kernel
theorem dL_isWagon_116 : decode cL_isWagon 116 = .ok (.iconst 1, 1) := by decide +kernel
theorem dL_isWagon_117 : decode cL_isWagon 117 = .ok (.iadd, 1) := by decide +kernel
theorem dL_isWagon_118 : decode cL_isWagon 118 = .ok (.if_icmp .ne 38, 3) := by decide +kernel
theorem dL_isWagon_121 : decode cL_isWagon 121 = .ok (.aload_n 0, 1) := by decide +kernel
theorem dL_isWagon_122 : decode cL_isWagon 122 = .ok (.iload_n 3, 1) := by decide +kernel
theorem dL_isWagon_123 : decode cL_isWagon 123 = .ok (.iconst 0, 1) := by decide +kernel
theorem dL_isWagon_124 : decode cL_isWagon 124 = .ok (.invokevirtual 21, 3) := by decide +kernel
theorem dL_isWagon_127 : decode cL_isWagon 127 = .ok (.iload_n 2, 1) := by decide +kernel
theorem dL_isWagon_128 : decode cL_isWagon 128 = .ok (.if_icmp .ne 28, 3) := by decide +kernel
theorem dL_isWagon_131 : decode cL_isWagon 131 = .ok (.aload_n 0, 1) := by decide +kernel
theorem dL_isWagon_132 : decode cL_isWagon 132 = .ok (.iload_n 3, 1) := by decide +kernel
theorem dL_isWagon_133 : decode cL_isWagon 133 = .ok (.iconst 5, 1) := by decide +kernel
theorem dL_isWagon_134 : decode cL_isWagon 134 = .ok (.invokevirtual 21, 3) := by decide +kernel
theorem dL_isWagon_137 : decode cL_isWagon 137 = .ok (.ifCond .ne 19, 3) := by decide +kernel
theorem dL_isWagon_140 : decode cL_isWagon 140 = .ok (.aload_n 0, 1) := by decide +kernel
theorem dL_isWagon_141 : decode cL_isWagon 141 = .ok (.iload_n 3, 1) := by decide +kernel
theorem dL_isWagon_142 : decode cL_isWagon 142 = .ok (.bipush 6, 2) := by decide +kernel
theorem dL_isWagon_144 : decode cL_isWagon 144 = .ok (.invokevirtual 21, 3) := by decide +kernel
theorem dL_isWagon_147 : decode cL_isWagon 147 = .ok (.bipush (-6), 2) := by decide +kernel
theorem dL_isWagon_149 : decode cL_isWagon 149 = .ok (.if_icmp .ne 7, 3) := by decide +kernel
theorem dL_isWagon_152 : decode cL_isWagon 152 = .ok (.iconst 1, 1) := by decide +kernel
theorem dL_isWagon_153 : decode cL_isWagon 153 = .ok (.goto 4, 3) := by decide +kernel
theorem dL_isWagon_156 : decode cL_isWagon 156 = .ok (.iconst 0, 1) := by decide +kernel
theorem dL_isWagon_157 : decode cL_isWagon 157 = .ok (.ireturn, 1) := by decide +kernel
theorem dL_isTrain_0 : decode cL_isTrain 0 = .ok (.aload_n 0, 1) := by decide +kernel
theorem dL_isTrain_1 : decode cL_isTrain 1 = .ok (.iconst 2, 1) := by decide +kernel
theorem dL_isTrain_2 : decode cL_isTrain 2 = .ok (.invokevirtual 8, 3) := by decide +kernel
theorem dL_isTrain_5 : decode cL_isTrain 5 = .ok (.istore 5, 2) := by decide +kernel
theorem dL_isTrain_7 : decode cL_isTrain 7 = .ok (.lconst 0, 1) := by decide +kernel
theorem dL_isTrain_8 : decode cL_isTrain 8 = .ok (.lstore 6, 2) := by decide +kernel
theorem dL_isTrain_10 : decode cL_isTrain 10 = .ok (.iconst 1, 1) := by decide +kernel
theorem dL_isTrain_11 : decode cL_isTrain 11 = .ok (.istore 8, 2) := by decide +kernel
theorem dL_isTrain_13 : decode cL_isTrain 13 = .ok (.iconst 1, 1) := by decide +kernel
theorem dL_isTrain_14 : decode cL_isTrain 14 = .ok (.istore 9, 2) := by decide +kernel
theorem dL_isTrain_16 : decode cL_isTrain 16 = .ok (.iload_n 3, 1) := by decide +kernel
theorem dL_isTrain_17 : decode cL_isTrain 17 = .ok (.iconst 1, 1) := by decide +kernel
theorem dL_isTrain_18 : decode cL_isTrain 18 = .ok (.isub, 1) := by decide +kernel
theorem dL_isTrain_19 : decode cL_isTrain 19 = .ok (.istore 10, 2) := by decide +kernel
theorem dL_isTrain_21 : decode cL_isTrain 21 = .ok (.iload 10, 2) := by decide +kernel
theorem dL_isTrain_23 : decode cL_isTrain 23 = .ok (.ifCond .lt 93, 3) := by decide +kernel
theorem dL_isTrain_26 : decode cL_isTrain 26 = .ok (.iload_n 1, 1) := by decide +kernel
theorem dL_isTrain_27 : decode cL_isTrain 27 = .ok (.iload_n 2, 1) := by decide +kernel
theorem dL_isTrain_28 : decode cL_isTrain 28 = .ok (.iload 10, 2) := by decide +kernel
theorem dL_isTrain_30 : decode cL_isTrain 30 = .ok (.imul, 1) := by decide +kernel
theorem dL_isTrain_31 : decode cL_isTrain 31 = .ok (.iadd, 1) := by decide +kernel
theorem dL_isTrain_32 : decode cL_isTrain 32 = .ok (.bipush 30, 2) := by decide +kernel
theorem dL_isTrain_34 : decode cL_isTrain 34 = .ok (.irem, 1) := by decide +kernel
theorem dL_isTrain_35 : decode cL_isTrain 35 = .ok (.istore 11, 2) := by decide +kernel
theorem dL_isTrain_37 : decode cL_isTrain 37 = .ok (.iload 8, 2) := by decide +kernel
theorem dL_isTrain_39 : decode cL_isTrain 39 = .ok (.ifCond .eq 24, 3) := by decide +kernel
theorem dL_isTrain_42 : decode cL_isTrain 42 = .ok (.iload 11, 2) := by decide +kernel
theorem dL_isTrain_44 : decode cL_isTrain 44 = .ok (.iload 5, 2) := by decide +kernel
theorem dL_isTrain_46 : decode cL_isTrain 46 = .ok (.if_icmp .ge 17, 3) := by decide +kernel
theorem dL_isTrain_49 : decode cL_isTrain 49 = .ok (.aload_n 0, 1) := by decide +kernel
theorem dL_isTrain_50 : decode cL_isTrain 50 = .ok (.iload 11, 2) := by decide +kernel
theorem dL_isTrain_52 : decode cL_isTrain 52 = .ok (.iconst 4, 1) := by decide +kernel
theorem dL_isTrain_53 : decode cL_isTrain 53 = .ok (.invokevirtual 21, 3) := by decide +kernel
theorem dL_isTrain_56 : decode cL_isTrain 56 = .ok (.ifCond .ge 7, 3) := by decide +kernel
theorem dL_isTrain_59 : decode cL_isTrain 59 = .ok (.iconst 1, 1) := by decide +kernel
theorem dL_isTrain_60 : decode cL_isTrain 60 = .ok (.goto 4, 3) := by decide +kernel
theorem dL_isTrain_63 : decode cL_isTrain 63 = .ok (.iconst 0, 1) := by decide +kernel
theorem dL_isTrain_64 : decode cL_isTrain 64 = .ok (.istore 8, 2) := by decide +kernel
theorem dL_isTrain_66 : decode cL_isTrain 66 = .ok (.iload 9, 2) := by decide +kernel
theorem dL_isTrain_68 : decode cL_isTrain 68 = .ok (.ifCond .eq 25, 3) := by decide +kernel
theorem dL_isTrain_71 : decode cL_isTrain 71 = .ok (.iload 11, 2) := by decide +kernel
theorem dL_isTrain_73 : decode cL_isTrain 73 = .ok (.iload 5, 2) := by decide +kernel
theorem dL_isTrain_75 : decode cL_isTrain 75 = .ok (.if_icmp .ge 14, 3) := by decide +kernel
theorem dL_isTrain_78 : decode cL_isTrain 78 = .ok (.aload_n 0, 1) := by decide +kernel
theorem dL_isTrain_79 : decode cL_isTrain 79 = .ok (.iload 11, 2) := by decide +kernel
theorem dL_isTrain_81 : decode cL_isTrain 81 = .ok (.bipush 6, 2) := by decide +kernel
theorem dL_isTrain_83 : decode cL_isTrain 83 = .ok (.invokevirtual 21, 3) := by decide +kernel
theorem dL_isTrain_86 : decode cL_isTrain 86 = .ok (.ifCond .ge 7, 3) := by decide +kernel
theorem dL_isTrain_89 : decode cL_isTrain 89 = .ok (.iconst 1, 1) := by decide +kernel
theorem dL_isTrain_90 : decode cL_isTrain 90 = .ok (.goto 4, 3) := by decide +kernel
theorem dL_isTrain_93 : decode cL_isTrain 93 = .ok (.iconst 0, 1) := by decide +kernel
theorem dL_isTrain_94 : decode cL_isTrain 94 = .ok (.istore 9, 2) := by decide +kernel
theorem dL_isTrain_96 : decode cL_isTrain 96 = .ok (.ldc2_w 57, 3) := by decide +kernel
theorem dL_isTrain_99 : decode cL_isTrain 99 = .ok (.lload 6, 2) := by decide +kernel
theorem dL_isTrain_101 : decode cL_isTrain 101 = .ok (.lmul, 1) := by decide +kernel
theorem dL_isTrain_102 : decode cL_isTrain 102 = .ok (.iload 11, 2) := by decide +kernel
theorem dL_isTrain_104 : decode cL_isTrain 104 = .ok (.i2l, 1) := by decide +kernel
theorem dL_isTrain_105 : decode cL_isTrain 105 = .ok (.ladd, 1) := by decide +kernel
theorem dL_isTrain_106 : decode cL_isTrain 106 = .ok (.lconst 1, 1) := by decide +kernel
theorem dL_isTrain_107 : decode cL_isTrain 107 = .ok (.ladd, 1) := by decide +kernel
theorem dL_isTrain_108 : decode cL_isTrain 108 = .ok (.lstore 6, 2) := by decide +kernel
theorem dL_isTrain_110 : decode cL_isTrain 110 = .ok (.iinc 10 (-1), 3) := by decide +kernel
theorem dL_isTrain_113 : decode cL_isTrain 113 = .ok (.goto (-92), 3) := by decide +kernel
theorem dL_isTrain_116 : decode cL_isTrain 116 = .ok (.aload_n 0, 1) := by decide +kernel
theorem dL_isTrain_117 : decode cL_isTrain 117 = .ok (.bipush 6, 2) := by decide +kernel
theorem dL_isTrain_119 : decode cL_isTrain 119 = .ok (.invokevirtual 8, 3) := by decide +kernel
theorem dL_isTrain_122 : decode cL_isTrain 122 = .ok (.istore 10, 2) := by decide +kernel
theorem dL_isTrain_124 : decode cL_isTrain 124 = .ok (.aload_n 0, 1) := by decide +kernel
theorem dL_isTrain_125 : decode cL_isTrain 125 = .ok (.lload 6, 2) := by decide +kernel
theorem dL_isTrain_127 : decode cL_isTrain 127 = .ok (.aload_n 0, 1) := by decide +kernel
theorem dL_isTrain_128 : decode cL_isTrain 128 = .ok (.iconst 0, 1) := by decide +kernel
theorem dL_isTrain_129 : decode cL_isTrain 129 = .ok (.invokevirtual 8, 3) := by decide +kernel
theorem dL_isTrain_132 : decode cL_isTrain 132 = .ok (.iload 4, 2) := by decide +kernel
theorem dL_isTrain_134 : decode cL_isTrain 134 = .ok (.iadd, 1) := by decide +kernel
theorem dL_isTrain_135 : decode cL_isTrain 135 = .ok (.invokevirtual 59, 3) := by decide +kernel
theorem dL_isTrain_138 : decode cL_isTrain 138 = .ok (.istore 11, 2) := by decide +kernel
theorem dL_isTrain_140 : decode cL_isTrain 140 = .ok (.iload 8, 2) := by decide +kernel
theorem dL_isTrain_142 : decode cL_isTrain 142 = .ok (.ifCond .eq 15, 3) := by decide +kernel
theorem dL_isTrain_145 : decode cL_isTrain 145 = .ok (.iload 10, 2) := by decide +kernel
theorem dL_isTrain_147 : decode cL_isTrain 147 = .ok (.bipush 8, 2) := by decide +kernel
theorem dL_isTrain_149 : decode cL_isTrain 149 = .ok (.if_icmp .eq 8, 3) := by decide +kernel
theorem dL_isTrain_152 : decode cL_isTrain 152 = .ok (.iload 9, 2) := by decide +kernel
theorem dL_isTrain_154 : decode cL_isTrain 154 = .ok (.ifCond .ne 49, 3) := by decide +kernel
theorem dL_isTrain_157 : decode cL_isTrain 157 = .ok (.iload 11, 2) := by decide +kernel
theorem dL_isTrain_159 : decode cL_isTrain 159 = .ok (.iload 8, 2) := by decide +kernel
theorem dL_isTrain_161 : decode cL_isTrain 161 = .ok (.ifCond .ne 8, 3) := by decide +kernel
theorem dL_isTrain_164 : decode cL_isTrain 164 = .ok (.bipush (-2), 2) := by decide +kernel
theorem dL_isTrain_166 : decode cL_isTrain 166 = .ok (.goto 17, 3) := by decide +kernel
theorem dL_isTrain_169 : decode cL_isTrain 169 = .ok (.iload 10, 2) := by decide +kernel
theorem dL_isTrain_171 : decode cL_isTrain 171 = .ok (.bipush 8, 2) := by decide +kernel
theorem dL_isTrain_173 : decode cL_isTrain 173 = .ok (.if_icmp .ne 8, 3) := by decide +kernel
theorem dL_isTrain_176 : decode cL_isTrain 176 = .ok (.bipush (-4), 2) := by decide +kernel
theorem dL_isTrain_178 : decode cL_isTrain 178 = .ok (.goto 5, 3) := by decide +kernel
theorem dL_isTrain_181 : decode cL_isTrain 181 = .ok (.bipush (-5), 2) := by decide +kernel
theorem dL_isTrain_183 : decode cL_isTrain 183 = .ok (.if_icmp .ne 18, 3) := by decide +kernel
theorem dL_isTrain_186 : decode cL_isTrain 186 = .ok (.aload_n 0, 1) := by decide +kernel
theorem dL_isTrain_187 : decode cL_isTrain 187 = .ok (.bipush 6, 2) := by decide +kernel
theorem dL_isTrain_189 : decode cL_isTrain 189 = .ok (.invokevirtual 8, 3) := by decide +kernel
theorem dL_isTrain_192 : decode cL_isTrain 192 = .ok (.iload 10, 2) := by decide +kernel
theorem dL_isTrain_194 : decode cL_isTrain 194 = .ok (.if_icmp .ne 7, 3) := by decide +kernel
theorem dL_isTrain_197 : decode cL_isTrain 197 = .ok (.iconst 1, 1) := by decide +kernel
theorem dL_isTrain_198 : decode cL_isTrain 198 = .ok (.goto 4, 3) := by decide +kernel
theorem dL_isTrain_201 : decode cL_isTrain 201 = .ok (.iconst 0, 1) := by decide +kernel
theorem dL_isTrain_202 : decode cL_isTrain 202 = .ok (.ireturn, 1) := by decide +kernel
theorem dL_isTrain_203 : decode cL_isTrain 203 = .ok (.iload 11, 2) := by decide +kernel
theorem dL_isTrain_205 : decode cL_isTrain 205 = .ok (.iload 10, 2) := by decide +kernel
theorem dL_isTrain_207 : decode cL_isTrain 207 = .ok (.if_icmp .ne 32, 3) := by decide +kernel
theorem dL_isTrain_210 : decode cL_isTrain 210 = .ok (.aload_n 0, 1) := by decide +kernel
theorem dL_isTrain_211 : decode cL_isTrain 211 = .ok (.iload 10, 2) := by decide +kernel
theorem dL_isTrain_213 : decode cL_isTrain 213 = .ok (.iconst 0, 1) := by decide +kernel
theorem dL_isTrain_214 : decode cL_isTrain 214 = .ok (.invokevirtual 63, 3) := by decide +kernel
theorem dL_isTrain_217 : decode cL_isTrain 217 = .ok (.iload_n 3, 1) := by decide +kernel
theorem dL_isTrain_218 : decode cL_isTrain 218 = .ok (.if_icmp .ne 21, 3) := by decide +kernel
theorem dL_isTrain_221 : decode cL_isTrain 221 = .ok (.aload_n 0, 1) := by decide +kernel
theorem dL_isTrain_222 : decode cL_isTrain 222 = .ok (.iload 10, 2) := by decide +kernel
theorem dL_isTrain_224 : decode cL_isTrain 224 = .ok (.iconst 1, 1) := by decide +kernel
theorem dL_isTrain_225 : decode cL_isTrain 225 = .ok (.invokevirtual 63, 3) := by decide +kernel
theorem dL_isTrain_228 : decode cL_isTrain 228 = .ok (.aload_n 0, 1) := by decide +kernel
theorem dL_isTrain_229 : decode cL_isTrain 229 = .ok (.iconst 0, 1) := by decide +kernel
theorem dL_isTrain_230 : decode cL_isTrain 230 = .ok (.invokevirtual 8, 3) := by decide +kernel
theorem dL_isTrain_233 : decode cL_isTrain 233 = .ok (.iload 4, 2) := by decide +kernel
theorem dL_isTrain_235 : decode cL_isTrain 235 = .ok (.iadd, 1) := by decide +kernel
theorem dL_isTrain_236 : decode cL_isTrain 236 = .ok (.if_icmp .eq 5, 3) := by decide +kernel
theorem dL_isTrain_239 : decode cL_isTrain 239 = .ok (.iconst 0, 1) := by decide +kernel
theorem dL_isTrain_240 : decode cL_isTrain 240 = .ok (.ireturn, 1) := by decide +kernel
theorem dL_isTrain_241 : decode cL_isTrain 241 = .ok (.iconst 0, 1) := by decide +kernel
theorem dL_isTrain_242 : decode cL_isTrain 242 = .ok (.istore 12, 2) := by decide +kernel
theorem dL_isTrain_244 : decode cL_isTrain 244 = .ok (.iconst 0, 1) := by decide +kernel
theorem dL_isTrain_245 : decode cL_isTrain 245 = .ok (.istore 13, 2) := by decide +kernel
theorem dL_isTrain_247 : decode cL_isTrain 247 = .ok (.iload 13, 2) := by decide +kernel
theorem dL_isTrain_249 : decode cL_isTrain 249 = .ok (.bipush 8, 2) := by decide +kernel
theorem dL_isTrain_251 : decode cL_isTrain 251 = .ok (.if_icmp .ge 87, 3) := by decide +kernel
theorem dL_isTrain_254 : decode cL_isTrain 254 = .ok (.iload 13, 2) := by decide +kernel
theorem dL_isTrain_256 : decode cL_isTrain 256 = .ok (.iload_n 3, 1) := by decide +kernel
theorem dL_isTrain_257 : decode cL_isTrain 257 = .ok (.if_icmp .ge 15, 3) := by decide +kernel
theorem dL_isTrain_260 : decode cL_isTrain 260 = .ok (.iload_n 1, 1) := by decide +kernel
theorem dL_isTrain_261 : decode cL_isTrain 261 = .ok (.iload_n 2, 1) := by decide +kernel
theorem dL_isTrain_262 : decode cL_isTrain 262 = .ok (.iload 13, 2) := by decide +kernel
theorem dL_isTrain_264 : decode cL_isTrain 264 = .ok (.imul, 1) := by decide +kernel
theorem dL_isTrain_265 : decode cL_isTrain 265 = .ok (.iadd, 1) := by decide +kernel
theorem dL_isTrain_266 : decode cL_isTrain 266 = .ok (.bipush 30, 2) := by decide +kernel
theorem dL_isTrain_268 : decode cL_isTrain 268 = .ok (.irem, 1) := by decide +kernel
theorem dL_isTrain_269 : decode cL_isTrain 269 = .ok (.goto 5, 3) := by decide +kernel
theorem dL_isTrain_272 : decode cL_isTrain 272 = .ok (.bipush (-6), 2) := by decide +kernel
theorem dL_isTrain_274 : decode cL_isTrain 274 = .ok (.istore 14, 2) := by decide +kernel
theorem dL_isTrain_276 : decode cL_isTrain 276 = .ok (.iload 12, 2) := by decide +kernel
theorem dL_isTrain_278 : decode cL_isTrain 278 = .ok (.iload 14, 2) := by decide +kernel
theorem dL_isTrain_280 : decode cL_isTrain 280 = .ok (.ifCond .ge 7, 3) := by decide +kernel
theorem dL_isTrain_283 : decode cL_isTrain 283 = .ok (.iconst 0, 1) := by decide +kernel
theorem dL_isTrain_284 : decode cL_isTrain 284 = .ok (.goto 10, 3) := by decide +kernel
theorem dL_isTrain_287 : decode cL_isTrain 287 = .ok (.aload_n 0, 1) := by decide +kernel
theorem dL_isTrain_288 : decode cL_isTrain 288 = .ok (.iload 14, 2) := by decide +kernel
theorem dL_isTrain_290 : decode cL_isTrain 290 = .ok (.iconst 0, 1) := by decide +kernel
theorem dL_isTrain_291 : decode cL_isTrain 291 = .ok (.invokevirtual 21, 3) := by decide +kernel
theorem dL_isTrain_294 : decode cL_isTrain 294 = .ok (.iadd, 1) := by decide +kernel
theorem dL_isTrain_295 : decode cL_isTrain 295 = .ok (.istore 12, 2) := by decide +kernel
theorem dL_isTrain_297 : decode cL_isTrain 297 = .ok (.aload_n 0, 1) := by decide +kernel
theorem dL_isTrain_298 : decode cL_isTrain 298 = .ok (.iload 10, 2) := by decide +kernel
theorem dL_isTrain_300 : decode cL_isTrain 300 = .ok (.iconst 2, 1) := by decide +kernel
theorem dL_isTrain_301 : decode cL_isTrain 301 = .ok (.iload 13, 2) := by decide +kernel
theorem dL_isTrain_303 : decode cL_isTrain 303 = .ok (.iadd, 1) := by decide +kernel
theorem dL_isTrain_304 : decode cL_isTrain 304 = .ok (.invokevirtual 63, 3) := by decide +kernel
theorem dL_isTrain_307 : decode cL_isTrain 307 = .ok (.iload 14, 2) := by decide +kernel
theorem dL_isTrain_309 : decode cL_isTrain 309 = .ok (.if_icmp .ne 21, 3) := by decide +kernel
theorem dL_isTrain_312 : decode cL_isTrain 312 = .ok (.iload 14, 2) := by decide +kernel
theorem dL_isTrain_314 : decode cL_isTrain 314 = .ok (.ifCond .lt 18, 3) := by decide +kernel
theorem dL_isTrain_317 : decode cL_isTrain 317 = .ok (.aload_n 0, 1) := by decide +kernel
theorem dL_isTrain_318 : decode cL_isTrain 318 = .ok (.iload 14, 2) := by decide +kernel
theorem dL_isTrain_320 : decode cL_isTrain 320 = .ok (.bipush 6, 2) := by decide +kernel
theorem dL_isTrain_322 : decode cL_isTrain 322 = .ok (.invokevirtual 21, 3) := by decide +kernel
theorem dL_isTrain_325 : decode cL_isTrain 325 = .ok (.iload 10, 2) := by decide +kernel
theorem dL_isTrain_327 : decode cL_isTrain 327 = .ok (.if_icmp .eq 5, 3) := by decide +kernel
theorem dL_isTrain_330 : decode cL_isTrain 330 = .ok (.iconst 0, 1) := by decide +kernel
theorem dL_isTrain_331 : decode cL_isTrain 331 = .ok (.ireturn, 1) := by decide +kernel
theorem dL_isTrain_332 : decode cL_isTrain 332 = .ok (.iinc 13 1, 3) := by decide +kernel
theorem dL_isTrain_335 : decode cL_isTrain 335 = .ok (.goto (-88), 3) := by decide +kernel
theorem dL_isTrain_338 : decode cL_isTrain 338 = .ok (.aload_n 0, 1) := by decide +kernel
theorem dL_isTrain_339 : decode cL_isTrain 339 = .ok (.iload 10, 2) := by decide +kernel
theorem dL_isTrain_341 : decode cL_isTrain 341 = .ok (.bipush 10, 2) := by decide +kernel
theorem dL_isTrain_343 : decode cL_isTrain 343 = .ok (.invokevirtual 63, 3) := by decide +kernel
theorem dL_isTrain_346 : decode cL_isTrain 346 = .ok (.iload 12, 2) := by decide +kernel
theorem dL_isTrain_348 : decode cL_isTrain 348 = .ok (.if_icmp .ne 7, 3) := by decide +kernel
theorem dL_isTrain_351 : decode cL_isTrain 351 = .ok (.iconst 1, 1) := by decide +kernel
theorem dL_isTrain_352 : decode cL_isTrain 352 = .ok (.goto 4, 3) := by decide +kernel
theorem dL_isTrain_355 : decode cL_isTrain 355 = .ok (.iconst 0, 1) := by decide +kernel
theorem dL_isTrain_356 : decode cL_isTrain 356 = .ok (.ireturn, 1) := by decide +kernel
theorem dL_isLeft_0 : decode cL_isLeft 0 = .ok (.aload_n 0, 1) := by decide +kernel
theorem dL_isLeft_1 : decode cL_isLeft 1 = .ok (.bipush 6, 2) := by decide +kernel
theorem dL_isLeft_3 : decode cL_isLeft 3 = .ok (.invokevirtual 8, 3) := by decide +kernel
theorem dL_isLeft_6 : decode cL_isLeft 6 = .ok (.istore_n 2, 1) := by decide +kernel
theorem dL_isLeft_7 : decode cL_isLeft 7 = .ok (.iload_n 1, 1) := by decide +kernel
theorem dL_isLeft_8 : decode cL_isLeft 8 = .ok (.iload_n 2, 1) := by decide +kernel
theorem dL_isLeft_9 : decode cL_isLeft 9 = .ok (.if_icmp .lt 18, 3) := by decide +kernel
theorem dL_isLeft_12 : decode cL_isLeft 12 = .ok (.aload_n 0, 1) := by decide +kernel
theorem dL_isLeft_13 : decode cL_isLeft 13 = .ok (.iload_n 1, 1) := by decide +kernel
theorem dL_isLeft_14 : decode cL_isLeft 14 = .ok (.invokevirtual 66, 3) := by decide +kernel
theorem dL_isLeft_17 : decode cL_isLeft 17 = .ok (.iconst (-1), 1) := by decide +kernel
theorem dL_isLeft_18 : decode cL_isLeft 18 = .ok (.if_icmp .ne 7, 3) := by decide +kernel
theorem dL_isLeft_21 : decode cL_isLeft 21 = .ok (.iconst 1, 1) := by decide +kernel
theorem dL_isLeft_22 : decode cL_isLeft 22 = .ok (.goto 4, 3) := by decide +kernel
theorem dL_isLeft_25 : decode cL_isLeft 25 = .ok (.iconst 0, 1) := by decide +kernel
theorem dL_isLeft_26 : decode cL_isLeft 26 = .ok (.ireturn, 1) := by decide +kernel
theorem dL_isLeft_27 : decode cL_isLeft 27 = .ok (.aload_n 0, 1) := by decide +kernel
theorem dL_isLeft_28 : decode cL_isLeft 28 = .ok (.iload_n 1, 1) := by decide +kernel
theorem dL_isLeft_29 : decode cL_isLeft 29 = .ok (.iconst 0, 1) := by decide +kernel
theorem dL_isLeft_30 : decode cL_isLeft 30 = .ok (.invokevirtual 63, 3) := by decide +kernel
theorem dL_isLeft_33 : decode cL_isLeft 33 = .ok (.istore_n 3, 1) := by decide +kernel
theorem dL_isLeft_34 : decode cL_isLeft 34 = .ok (.iload_n 3, 1) := by decide +kernel
theorem dL_isLeft_35 : decode cL_isLeft 35 = .ok (.aload_n 0, 1) := by decide +kernel
theorem dL_isLeft_36 : decode cL_isLeft 36 = .ok (.iconst 3, 1) := by decide +kernel
theorem dL_isLeft_37 : decode cL_isLeft 37 = .ok (.invokevirtual 8, 3) := by decide +kernel
theorem dL_isLeft_40 : decode cL_isLeft 40 = .ok (.if_icmp .ne 7, 3) := by decide +kernel
theorem dL_isLeft_43 : decode cL_isLeft 43 = .ok (.iconst 1, 1) := by decide +kernel
theorem dL_isLeft_44 : decode cL_isLeft 44 = .ok (.goto 4, 3) := by decide +kernel
theorem dL_isLeft_47 : decode cL_isLeft 47 = .ok (.iconst 0, 1) := by decide +kernel
theorem dL_isLeft_48 : decode cL_isLeft 48 = .ok (.istore 4, 2) := by decide +kernel
theorem dL_isLeft_50 : decode cL_isLeft 50 = .ok (.iconst 0, 1) := by decide +kernel
theorem dL_isLeft_51 : decode cL_isLeft 51 = .ok (.istore 5, 2) := by decide +kernel
theorem dL_isLeft_53 : decode cL_isLeft 53 = .ok (.iload 5, 2) := by decide +kernel
theorem dL_isLeft_55 : decode cL_isLeft 55 = .ok (.iload_n 3, 1) := by decide +kernel
theorem dL_isLeft_56 : decode cL_isLeft 56 = .ok (.if_icmp .ge 41, 3) := by decide +kernel
theorem dL_isLeft_59 : decode cL_isLeft 59 = .ok (.iload 4, 2) := by decide +kernel
theorem dL_isLeft_61 : decode cL_isLeft 61 = .ok (.ifCond .eq 36, 3) := by decide +kernel
theorem dL_isLeft_64 : decode cL_isLeft 64 = .ok (.aload_n 0, 1) := by decide +kernel
theorem dL_isLeft_65 : decode cL_isLeft 65 = .ok (.iload_n 1, 1) := by decide +kernel
theorem dL_isLeft_66 : decode cL_isLeft 66 = .ok (.iconst 2, 1) := by decide +kernel
theorem dL_isLeft_67 : decode cL_isLeft 67 = .ok (.iload 5, 2) := by decide +kernel
theorem dL_isLeft_69 : decode cL_isLeft 69 = .ok (.iadd, 1) := by decide +kernel
theorem dL_isLeft_70 : decode cL_isLeft 70 = .ok (.invokevirtual 63, 3) := by decide +kernel
theorem dL_isLeft_73 : decode cL_isLeft 73 = .ok (.aload_n 0, 1) := by decide +kernel
theorem dL_isLeft_74 : decode cL_isLeft 74 = .ok (.bipush (-6), 2) := by decide +kernel
theorem dL_isLeft_76 : decode cL_isLeft 76 = .ok (.iload 5, 2) := by decide +kernel
theorem dL_isLeft_78 : decode cL_isLeft 78 = .ok (.invokevirtual 18, 3) := by decide +kernel
theorem dL_isLeft_81 : decode cL_isLeft 81 = .ok (.if_icmp .ne 7, 3) := by decide +kernel
theorem dL_isLeft_84 : decode cL_isLeft 84 = .ok (.iconst 1, 1) := by decide +kernel
theorem dL_isLeft_85 : decode cL_isLeft 85 = .ok (.goto 4, 3) := by decide +kernel
theorem dL_isLeft_88 : decode cL_isLeft 88 = .ok (.iconst 0, 1) := by decide +kernel
theorem dL_isLeft_89 : decode cL_isLeft 89 = .ok (.istore 4, 2) := by decide +kernel
theorem dL_isLeft_91 : decode cL_isLeft 91 = .ok (.iinc 5 1, 3) := by decide +kernel
theorem dL_isLeft_94 : decode cL_isLeft 94 = .ok (.goto (-41), 3) := by decide +kernel
theorem dL_isLeft_97 : decode cL_isLeft 97 = .ok (.aload_n 0, 1) := by decide +kernel
theorem dL_isLeft_98 : decode cL_isLeft 98 = .ok (.iconst 0, 1) := by decide +kernel
theorem dL_isLeft_99 : decode cL_isLeft 99 = .ok (.invokevirtual 8, 3) := by decide +kernel
theorem dL_isLeft_102 : decode cL_isLeft 102 = .ok (.aload_n 0, 1) := by decide +kernel
theorem dL_isLeft_103 : decode cL_isLeft 103 = .ok (.iload_n 1, 1) := by decide +kernel
theorem dL_isLeft_104 : decode cL_isLeft 104 = .ok (.iconst 1, 1) := by decide +kernel
theorem dL_isLeft_105 : decode cL_isLeft 105 = .ok (.invokevirtual 63, 3) := by decide +kernel
theorem dL_isLeft_108 : decode cL_isLeft 108 = .ok (.if_icmp .le 18, 3) := by decide +kernel
theorem dL_isLeft_111 : decode cL_isLeft 111 = .ok (.aload_n 0, 1) := by decide +kernel
theorem dL_isLeft_112 : decode cL_isLeft 112 = .ok (.iconst 0, 1) := by decide +kernel
theorem dL_isLeft_113 : decode cL_isLeft 113 = .ok (.invokevirtual 8, 3) := by decide +kernel
theorem dL_isLeft_116 : decode cL_isLeft 116 = .ok (.aload_n 0, 1) := by decide +kernel
theorem dL_isLeft_117 : decode cL_isLeft 117 = .ok (.iload_n 1, 1) := by decide +kernel
theorem dL_isLeft_118 : decode cL_isLeft 118 = .ok (.iconst 1, 1) := by decide +kernel
theorem dL_isLeft_119 : decode cL_isLeft 119 = .ok (.invokevirtual 63, 3) := by decide +kernel
theorem dL_isLeft_122 : decode cL_isLeft 122 = .ok (.isub, 1) := by decide +kernel
theorem dL_isLeft_123 : decode cL_isLeft 123 = .ok (.goto 4, 3) := by decide +kernel
theorem dL_isLeft_126 : decode cL_isLeft 126 = .ok (.iconst 0, 1) := by decide +kernel
theorem dL_isLeft_127 : decode cL_isLeft 127 = .ok (.istore 5, 2) := by decide +kernel
theorem dL_isLeft_129 : decode cL_isLeft 129 = .ok (.aload_n 0, 1) := by decide +kernel
theorem dL_isLeft_130 : decode cL_isLeft 130 = .ok (.bipush 12, 2) := by decide +kernel
theorem dL_isLeft_132 : decode cL_isLeft 132 = .ok (.invokevirtual 8, 3) := by decide +kernel
theorem dL_isLeft_135 : decode cL_isLeft 135 = .ok (.istore 6, 2) := by decide +kernel
theorem dL_isLeft_137 : decode cL_isLeft 137 = .ok (.aload_n 0, 1) := by decide +kernel
theorem dL_isLeft_138 : decode cL_isLeft 138 = .ok (.bipush 7, 2) := by decide +kernel
theorem dL_isLeft_140 : decode cL_isLeft 140 = .ok (.invokevirtual 8, 3) := by decide +kernel
theorem dL_isLeft_143 : decode cL_isLeft 143 = .ok (.istore 7, 2) := by decide +kernel
theorem dL_isLeft_145 : decode cL_isLeft 145 = .ok (.aload_n 0, 1) := by decide +kernel
theorem dL_isLeft_146 : decode cL_isLeft 146 = .ok (.iload_n 1, 1) := by decide +kernel
theorem dL_isLeft_147 : decode cL_isLeft 147 = .ok (.iconst 2, 1) := by decide +kernel
theorem dL_isLeft_148 : decode cL_isLeft 148 = .ok (.invokevirtual 63, 3) := by decide +kernel
theorem dL_isLeft_151 : decode cL_isLeft 151 = .ok (.istore 8, 2) := by decide +kernel
theorem dL_isLeft_153 : decode cL_isLeft 153 = .ok (.iload 4, 2) := by decide +kernel
theorem dL_isLeft_155 : decode cL_isLeft 155 = .ok (.ifCond .eq 34, 3) := by decide +kernel
theorem dL_isLeft_158 : decode cL_isLeft 158 = .ok (.aload_n 0, 1) := by decide +kernel
theorem dL_isLeft_159 : decode cL_isLeft 159 = .ok (.iload_n 1, 1) := by decide +kernel
theorem dL_isLeft_160 : decode cL_isLeft 160 = .ok (.invokevirtual 69, 3) := by decide +kernel
theorem dL_isLeft_163 : decode cL_isLeft 163 = .ok (.ifCond .ne 24, 3) := by decide +kernel
theorem dL_isLeft_166 : decode cL_isLeft 166 = .ok (.aload_n 0, 1) := by decide +kernel
theorem dL_isLeft_167 : decode cL_isLeft 167 = .ok (.iload_n 1, 1) := by decide +kernel
theorem dL_isLeft_168 : decode cL_isLeft 168 = .ok (.invokevirtual 72, 3) := by decide +kernel
theorem dL_isLeft_171 : decode cL_isLeft 171 = .ok (.ifCond .ne 16, 3) := by decide +kernel
theorem dL_isLeft_174 : decode cL_isLeft 174 = .ok (.aload_n 0, 1) := by decide +kernel
theorem dL_isLeft_175 : decode cL_isLeft 175 = .ok (.iload_n 1, 1) := by decide +kernel
theorem dL_isLeft_176 : decode cL_isLeft 176 = .ok (.invokevirtual 75, 3) := by decide +kernel
theorem dL_isLeft_179 : decode cL_isLeft 179 = .ok (.aload_n 0, 1) := by decide +kernel
theorem dL_isLeft_180 : decode cL_isLeft 180 = .ok (.iconst 0, 1) := by decide +kernel
theorem dL_isLeft_181 : decode cL_isLeft 181 = .ok (.invokevirtual 8, 3) := by decide +kernel
theorem dL_isLeft_184 : decode cL_isLeft 184 = .ok (.if_icmp .eq 5, 3) := by decide +kernel
theorem dL_isLeft_187 : decode cL_isLeft 187 = .ok (.iconst 0, 1) := by decide +kernel
theorem dL_isLeft_188 : decode cL_isLeft 188 = .ok (.ireturn, 1) := by decide +kernel
theorem dL_isLeft_189 : decode cL_isLeft 189 = .ok (.aload_n 0, 1) := by decide +kernel
theorem dL_isLeft_190 : decode cL_isLeft 190 = .ok (.iload_n 1, 1) := by decide +kernel
theorem dL_isLeft_191 : decode cL_isLeft 191 = .ok (.invokevirtual 66, 3) := by decide +kernel
theorem dL_isLeft_194 : decode cL_isLeft 194 = .ok (.istore 9, 2) := by decide +kernel
theorem dL_isLeft_196 : decode cL_isLeft 196 = .ok (.iload 4, 2) := by decide +kernel
theorem dL_isLeft_198 : decode cL_isLeft 198 = .ok (.ifCond .ne 37, 3) := by decide +kernel
theorem dL_isLeft_201 : decode cL_isLeft 201 = .ok (.iload 9, 2) := by decide +kernel
theorem dL_isLeft_203 : decode cL_isLeft 203 = .ok (.bipush (-5), 2) := by decide +kernel
theorem dL_isLeft_205 : decode cL_isLeft 205 = .ok (.if_icmp .ne 28, 3) := by decide +kernel
theorem dL_isLeft_208 : decode cL_isLeft 208 = .ok (.aload_n 0, 1) := by decide +kernel
theorem dL_isLeft_209 : decode cL_isLeft 209 = .ok (.bipush 6, 2) := by decide +kernel
theorem dL_isLeft_211 : decode cL_isLeft 211 = .ok (.invokevirtual 8, 3) := by decide +kernel
theorem dL_isLeft_214 : decode cL_isLeft 214 = .ok (.iload_n 2, 1) := by decide +kernel
theorem dL_isLeft_215 : decode cL_isLeft 215 = .ok (.if_icmp .ne 18, 3) := by decide +kernel
theorem dL_isLeft_218 : decode cL_isLeft 218 = .ok (.aload_n 0, 1) := by decide +kernel
theorem dL_isLeft_219 : decode cL_isLeft 219 = .ok (.bipush 7, 2) := by decide +kernel
theorem dL_isLeft_221 : decode cL_isLeft 221 = .ok (.invokevirtual 8, 3) := by decide +kernel
theorem dL_isLeft_224 : decode cL_isLeft 224 = .ok (.iload 7, 2) := by decide +kernel
theorem dL_isLeft_226 : decode cL_isLeft 226 = .ok (.if_icmp .ne 7, 3) := by decide +kernel
theorem dL_isLeft_229 : decode cL_isLeft 229 = .ok (.iconst 1, 1) := by decide +kernel
theorem dL_isLeft_230 : decode cL_isLeft 230 = .ok (.goto 4, 3) := by decide +kernel
theorem dL_isLeft_233 : decode cL_isLeft 233 = .ok (.iconst 0, 1) := by decide +kernel
theorem dL_isLeft_234 : decode cL_isLeft 234 = .ok (.ireturn, 1) := by decide +kernel
theorem dL_isLeft_235 : decode cL_isLeft 235 = .ok (.iload 9, 2) := by decide +kernel
theorem dL_isLeft_237 : decode cL_isLeft 237 = .ok (.iload 5, 2) := by decide +kernel
theorem dL_isLeft_239 : decode cL_isLeft 239 = .ok (.if_icmp .ne 76, 3) := by decide +kernel
theorem dL_isLeft_242 : decode cL_isLeft 242 = .ok (.aload_n 0, 1) := by decide +kernel
theorem dL_isLeft_243 : decode cL_isLeft 243 = .ok (.bipush 12, 2) := by decide +kernel
theorem dL_isLeft_245 : decode cL_isLeft 245 = .ok (.invokevirtual 8, 3) := by decide +kernel
theorem dL_isLeft_248 : decode cL_isLeft 248 = .ok (.iload 6, 2) := by decide +kernel
theorem dL_isLeft_250 : decode cL_isLeft 250 = .ok (.iload 5, 2) := by decide +kernel
theorem dL_isLeft_252 : decode cL_isLeft 252 = .ok (.aload_n 0, 1) := by decide +kernel
theorem dL_isLeft_253 : decode cL_isLeft 253 = .ok (.bipush 20, 2) := by decide +kernel
theorem dL_isLeft_255 : decode cL_isLeft 255 = .ok (.invokevirtual 8, 3) := by decide +kernel
theorem dL_isLeft_258 : decode cL_isLeft 258 = .ok (.imul, 1) := by decide +kernel
theorem dL_isLeft_259 : decode cL_isLeft 259 = .ok (.iadd, 1) := by decide +kernel
theorem dL_isLeft_260 : decode cL_isLeft 260 = .ok (.if_icmp .ne 55, 3) := by decide +kernel
theorem dL_isLeft_263 : decode cL_isLeft 263 = .ok (.aload_n 0, 1) := by decide +kernel
theorem dL_isLeft_264 : decode cL_isLeft 264 = .ok (.bipush 6, 2) := by decide +kernel
theorem dL_isLeft_266 : decode cL_isLeft 266 = .ok (.invokevirtual 8, 3) := by decide +kernel
theorem dL_isLeft_269 : decode cL_isLeft 269 = .ok (.iload_n 2, 1) := by decide +kernel
theorem dL_isLeft_270 : decode cL_isLeft 270 = .ok (.iconst 1, 1) := by decide +kernel
theorem dL_isLeft_271 : decode cL_isLeft 271 = .ok (.isub, 1) := by decide +kernel
theorem dL_isLeft_272 : decode cL_isLeft 272 = .ok (.if_icmp .ne 43, 3) := by decide +kernel
theorem dL_isLeft_275 : decode cL_isLeft 275 = .ok (.aload_n 0, 1) := by decide +kernel
theorem dL_isLeft_276 : decode cL_isLeft 276 = .ok (.bipush 7, 2) := by decide +kernel
theorem dL_isLeft_278 : decode cL_isLeft 278 = .ok (.invokevirtual 8, 3) := by decide +kernel
theorem dL_isLeft_281 : decode cL_isLeft 281 = .ok (.iload 7, 2) := by decide +kernel
theorem dL_isLeft_283 : decode cL_isLeft 283 = .ok (.iconst 1, 1) := by decide +kernel
theorem dL_isLeft_284 : decode cL_isLeft 284 = .ok (.iadd, 1) := by decide +kernel
theorem dL_isLeft_285 : decode cL_isLeft 285 = .ok (.if_icmp .ne 30, 3) := by decide +kernel
theorem dL_isLeft_288 : decode cL_isLeft 288 = .ok (.aload_n 0, 1) := by decide +kernel
theorem dL_isLeft_289 : decode cL_isLeft 289 = .ok (.iconst 3, 1) := by decide +kernel
theorem dL_isLeft_290 : decode cL_isLeft 290 = .ok (.invokevirtual 8, 3) := by decide +kernel
theorem dL_isLeft_293 : decode cL_isLeft 293 = .ok (.ifCond .ne 22, 3) := by decide +kernel
theorem dL_isLeft_296 : decode cL_isLeft 296 = .ok (.aload_n 0, 1) := by decide +kernel
theorem dL_isLeft_297 : decode cL_isLeft 297 = .ok (.iload 8, 2) := by decide +kernel
theorem dL_isLeft_299 : decode cL_isLeft 299 = .ok (.iconst 4, 1) := by decide +kernel
theorem dL_isLeft_300 : decode cL_isLeft 300 = .ok (.invokevirtual 21, 3) := by decide +kernel
theorem dL_isLeft_303 : decode cL_isLeft 303 = .ok (.aload_n 0, 1) := by decide +kernel
theorem dL_isLeft_304 : decode cL_isLeft 304 = .ok (.iconst 0, 1) := by decide +kernel
theorem dL_isLeft_305 : decode cL_isLeft 305 = .ok (.invokevirtual 8, 3) := by decide +kernel
theorem dL_isLeft_308 : decode cL_isLeft 308 = .ok (.if_icmp .ne 7, 3) := by decide +kernel
theorem dL_isLeft_311 : decode cL_isLeft 311 = .ok (.iconst 1, 1) := by decide +kernel
theorem dL_isLeft_312 : decode cL_isLeft 312 = .ok (.goto 4, 3) := by decide +kernel
theorem dL_isLeft_315 : decode cL_isLeft 315 = .ok (.iconst 0, 1) := by decide +kernel
theorem dL_isLeft_316 : decode cL_isLeft 316 = .ok (.ireturn, 1) := by decide +kernel
theorem dL_isPassed_0 : decode cL_isPassed 0 = .ok (.aload_n 0, 1) := by decide +kernel
theorem dL_isPassed_1 : decode cL_isPassed 1 = .ok (.iconst 0, 1) := by decide +kernel
theorem dL_isPassed_2 : decode cL_isPassed 2 = .ok (.invokevirtual 8, 3) := by decide +kernel
theorem dL_isPassed_5 : decode cL_isPassed 5 = .ok (.istore_n 2, 1) := by decide +kernel
theorem dL_isPassed_6 : decode cL_isPassed 6 = .ok (.aload_n 0, 1) := by decide +kernel
theorem dL_isPassed_7 : decode cL_isPassed 7 = .ok (.iconst 5, 1) := by decide +kernel
theorem dL_isPassed_8 : decode cL_isPassed 8 = .ok (.invokevirtual 37, 3) := by decide +kernel
theorem dL_isPassed_11 : decode cL_isPassed 11 = .ok (.istore_n 3, 1) := by decide +kernel
theorem dL_isPassed_12 : decode cL_isPassed 12 = .ok (.aload_n 0, 1) := by decide +kernel
theorem dL_isPassed_13 : decode cL_isPassed 13 = .ok (.iload_n 1, 1) := by decide +kernel
theorem dL_isPassed_14 : decode cL_isPassed 14 = .ok (.invokevirtual 78, 3) := by decide +kernel
theorem dL_isPassed_17 : decode cL_isPassed 17 = .ok (.iload_n 2, 1) := by decide +kernel
theorem dL_isPassed_18 : decode cL_isPassed 18 = .ok (.iload_n 1, 1) := by decide +kernel
theorem dL_isPassed_19 : decode cL_isPassed 19 = .ok (.iadd, 1) := by decide +kernel
theorem dL_isPassed_20 : decode cL_isPassed 20 = .ok (.if_icmp .ne 29, 3) := by decide +kernel
theorem dL_isPassed_23 : decode cL_isPassed 23 = .ok (.aload_n 0, 1) := by decide +kernel
theorem dL_isPassed_24 : decode cL_isPassed 24 = .ok (.iconst 5, 1) := by decide +kernel
theorem dL_isPassed_25 : decode cL_isPassed 25 = .ok (.invokevirtual 37, 3) := by decide +kernel
theorem dL_isPassed_28 : decode cL_isPassed 28 = .ok (.iload_n 3, 1) := by decide +kernel
theorem dL_isPassed_29 : decode cL_isPassed 29 = .ok (.if_icmp .lt 20, 3) := by decide +kernel
theorem dL_isPassed_32 : decode cL_isPassed 32 = .ok (.aload_n 0, 1) := by decide +kernel
theorem dL_isPassed_33 : decode cL_isPassed 33 = .ok (.iconst 5, 1) := by decide +kernel
theorem dL_isPassed_34 : decode cL_isPassed 34 = .ok (.invokevirtual 37, 3) := by decide +kernel
theorem dL_isPassed_37 : decode cL_isPassed 37 = .ok (.aload_n 0, 1) := by decide +kernel
theorem dL_isPassed_38 : decode cL_isPassed 38 = .ok (.iconst 0, 1) := by decide +kernel
theorem dL_isPassed_39 : decode cL_isPassed 39 = .ok (.invokevirtual 8, 3) := by decide +kernel
theorem dL_isPassed_42 : decode cL_isPassed 42 = .ok (.if_icmp .lt 7, 3) := by decide +kernel
theorem dL_isPassed_45 : decode cL_isPassed 45 = .ok (.iconst 1, 1) := by decide +kernel
theorem dL_isPassed_46 : decode cL_isPassed 46 = .ok (.goto 4, 3) := by decide +kernel
theorem dL_isPassed_49 : decode cL_isPassed 49 = .ok (.iconst 0, 1) := by decide +kernel
theorem dL_isPassed_50 : decode cL_isPassed 50 = .ok (.istore 4, 2) := by decide +kernel
theorem dL_isPassed_52 : decode cL_isPassed 52 = .ok (.iload 4, 2) := by decide +kernel
theorem dL_isPassed_54 : decode cL_isPassed 54 = .ok (.ifCond .eq 25, 3) := by decide +kernel
theorem dL_isPassed_57 : decode cL_isPassed 57 = .ok (.iload_n 3, 1) := by decide +kernel
theorem dL_isPassed_58 : decode cL_isPassed 58 = .ok (.aload_n 0, 1) := by decide +kernel
theorem dL_isPassed_59 : decode cL_isPassed 59 = .ok (.iconst 0, 1) := by decide +kernel
theorem dL_isPassed_60 : decode cL_isPassed 60 = .ok (.invokevirtual 8, 3) := by decide +kernel
theorem dL_isPassed_63 : decode cL_isPassed 63 = .ok (.if_icmp .lt 12, 3) := by decide +kernel
theorem dL_isPassed_66 : decode cL_isPassed 66 = .ok (.aload_n 0, 1) := by decide +kernel
theorem dL_isPassed_67 : decode cL_isPassed 67 = .ok (.iconst 5, 1) := by decide +kernel
theorem dL_isPassed_68 : decode cL_isPassed 68 = .ok (.invokevirtual 37, 3) := by decide +kernel
theorem dL_isPassed_71 : decode cL_isPassed 71 = .ok (.iload_n 3, 1) := by decide +kernel
theorem dL_isPassed_72 : decode cL_isPassed 72 = .ok (.if_icmp .ne 7, 3) := by decide +kernel
theorem dL_isPassed_75 : decode cL_isPassed 75 = .ok (.iconst 1, 1) := by decide +kernel
theorem dL_isPassed_76 : decode cL_isPassed 76 = .ok (.goto 4, 3) := by decide +kernel
theorem dL_isPassed_79 : decode cL_isPassed 79 = .ok (.iconst 0, 1) := by decide +kernel
theorem dL_isPassed_80 : decode cL_isPassed 80 = .ok (.ireturn, 1) := by decide +kernel
theorem dL_isAct_0 : decode cL_isAct 0 = .ok (.aload_n 1, 1) := by decide +kernel
theorem dL_isAct_1 : decode cL_isAct 1 = .ok (.iload_n 2, 1) := by decide +kernel
theorem dL_isAct_2 : decode cL_isAct 2 = .ok (.iconst 1, 1) := by decide +kernel
theorem dL_isAct_3 : decode cL_isAct 3 = .ok (.iadd, 1) := by decide +kernel
theorem dL_isAct_4 : decode cL_isAct 4 = .ok (.aload_n 0, 1) := by decide +kernel
theorem dL_isAct_5 : decode cL_isAct 5 = .ok (.iconst 1, 1) := by decide +kernel
theorem dL_isAct_6 : decode cL_isAct 6 = .ok (.invokevirtual 8, 3) := by decide +kernel
theorem dL_isAct_9 : decode cL_isAct 9 = .ok (.aload_n 1, 1) := by decide +kernel
theorem dL_isAct_10 : decode cL_isAct 10 = .ok (.iload_n 2, 1) := by decide +kernel
theorem dL_isAct_11 : decode cL_isAct 11 = .ok (.iconst 2, 1) := by decide +kernel
theorem dL_isAct_12 : decode cL_isAct 12 = .ok (.iadd, 1) := by decide +kernel
theorem dL_isAct_13 : decode cL_isAct 13 = .ok (.bipush 9, 2) := by decide +kernel
theorem dL_isAct_15 : decode cL_isAct 15 = .ok (.invokestatic 81, 3) := by decide +kernel
theorem dL_isAct_18 : decode cL_isAct 18 = .ok (.ifCond .ne 7, 3) := by decide +kernel
theorem dL_isAct_21 : decode cL_isAct 21 = .ok (.iconst 1, 1) := by decide +kernel
theorem dL_isAct_22 : decode cL_isAct 22 = .ok (.goto 4, 3) := by decide +kernel
theorem dL_isAct_25 : decode cL_isAct 25 = .ok (.iconst 0, 1) := by decide +kernel
theorem dL_isAct_26 : decode cL_isAct 26 = .ok (.iadd, 1) := by decide +kernel
theorem dL_isAct_27 : decode cL_isAct 27 = .ok (.invokestatic 81, 3) := by decide +kernel
theorem dL_isAct_30 : decode cL_isAct 30 = .ok (.istore_n 3, 1) := by decide +kernel
theorem dL_isAct_31 : decode cL_isAct 31 = .ok (.iconst 1, 1) := by decide +kernel
theorem dL_isAct_32 : decode cL_isAct 32 = .ok (.aload_n 1, 1) := by decide +kernel
theorem dL_isAct_33 : decode cL_isAct 33 = .ok (.iload_n 2, 1) := by decide +kernel
theorem dL_isAct_34 : decode cL_isAct 34 = .ok (.iconst 3, 1) := by decide +kernel
theorem dL_isAct_35 : decode cL_isAct 35 = .ok (.iadd, 1) := by decide +kernel
theorem dL_isAct_36 : decode cL_isAct 36 = .ok (.aload_n 1, 1) := by decide +kernel
theorem dL_isAct_37 : decode cL_isAct 37 = .ok (.iload_n 2, 1) := by decide +kernel
theorem dL_isAct_38 : decode cL_isAct 38 = .ok (.iconst 4, 1) := by decide +kernel
theorem dL_isAct_39 : decode cL_isAct 39 = .ok (.iadd, 1) := by decide +kernel
theorem dL_isAct_40 : decode cL_isAct 40 = .ok (.iconst 3, 1) := by decide +kernel
theorem dL_isAct_41 : decode cL_isAct 41 = .ok (.invokestatic 81, 3) := by decide +kernel
theorem dL_isAct_44 : decode cL_isAct 44 = .ok (.ifCond .ne 8, 3) := by decide +kernel
theorem dL_isAct_47 : decode cL_isAct 47 = .ok (.bipush 6, 2) := by decide +kernel
theorem dL_isAct_49 : decode cL_isAct 49 = .ok (.goto 4, 3) := by decide +kernel
theorem dL_isAct_52 : decode cL_isAct 52 = .ok (.iconst 3, 1) := by decide +kernel
theorem dL_isAct_53 : decode cL_isAct 53 = .ok (.invokestatic 81, 3) := by decide +kernel
theorem dL_isAct_56 : decode cL_isAct 56 = .ok (.iadd, 1) := by decide +kernel
theorem dL_isAct_57 : decode cL_isAct 57 = .ok (.istore 4, 2) := by decide +kernel
theorem dL_isAct_59 : decode cL_isAct 59 = .ok (.aload_n 1, 1) := by decide +kernel
theorem dL_isAct_60 : decode cL_isAct 60 = .ok (.iload_n 2, 1) := by decide +kernel
theorem dL_isAct_61 : decode cL_isAct 61 = .ok (.bipush 14, 2) := by decide +kernel
theorem dL_isAct_63 : decode cL_isAct 63 = .ok (.invokestatic 81, 3) := by decide +kernel
theorem dL_isAct_66 : decode cL_isAct 66 = .ok (.tableswitch 284 0 12 #[66, 66, 66, 66, 74, 74, 74, 109, 114, 141, 201, 201, 221], 66) := by decide +kernel
theorem dL_isAct_132 : decode cL_isAct 132 = .ok (.aload_n 0, 1) := by decide +kernel
theorem dL_isAct_133 : decode cL_isAct 133 = .ok (.iload_n 3, 1) := by decide +kernel
theorem dL_isAct_134 : decode cL_isAct 134 = .ok (.iload 4, 2) := by decide +kernel
theorem dL_isAct_136 : decode cL_isAct 136 = .ok (.invokestatic 85, 3) := by decide +kernel
theorem dL_isAct_139 : decode cL_isAct 139 = .ok (.ireturn, 1) := by decide +kernel
theorem dL_isAct_140 : decode cL_isAct 140 = .ok (.aload_n 0, 1) := by decide +kernel
theorem dL_isAct_141 : decode cL_isAct 141 = .ok (.iload_n 3, 1) := by decide +kernel
theorem dL_isAct_142 : decode cL_isAct 142 = .ok (.aload_n 1, 1) := by decide +kernel
theorem dL_isAct_143 : decode cL_isAct 143 = .ok (.iload_n 2, 1) := by decide +kernel
theorem dL_isAct_144 : decode cL_isAct 144 = .ok (.iconst 2, 1) := by decide +kernel
theorem dL_isAct_145 : decode cL_isAct 145 = .ok (.iadd, 1) := by decide +kernel
theorem dL_isAct_146 : decode cL_isAct 146 = .ok (.iconst 2, 1) := by decide +kernel
theorem dL_isAct_147 : decode cL_isAct 147 = .ok (.invokestatic 81, 3) := by decide +kernel
theorem dL_isAct_150 : decode cL_isAct 150 = .ok (.ifCond .ne 19, 3) := by decide +kernel
theorem dL_isAct_153 : decode cL_isAct 153 = .ok (.aload_n 0, 1) := by decide +kernel
theorem dL_isAct_154 : decode cL_isAct 154 = .ok (.iconst 3, 1) := by decide +kernel
theorem dL_isAct_155 : decode cL_isAct 155 = .ok (.invokevirtual 8, 3) := by decide +kernel
theorem dL_isAct_158 : decode cL_isAct 158 = .ok (.ifCond .le 11, 3) := by decide +kernel
theorem dL_isAct_161 : decode cL_isAct 161 = .ok (.aload_n 0, 1) := by decide +kernel
theorem dL_isAct_162 : decode cL_isAct 162 = .ok (.iconst 3, 1) := by decide +kernel
theorem dL_isAct_163 : decode cL_isAct 163 = .ok (.invokevirtual 8, 3) := by decide +kernel
theorem dL_isAct_166 : decode cL_isAct 166 = .ok (.goto 5, 3) := by decide +kernel
theorem dL_isAct_169 : decode cL_isAct 169 = .ok (.iload 4, 2) := by decide +kernel
theorem dL_isAct_171 : decode cL_isAct 171 = .ok (.invokestatic 89, 3) := by decide +kernel
theorem dL_isAct_174 : decode cL_isAct 174 = .ok (.ireturn, 1) := by decide +kernel
theorem dL_isAct_175 : decode cL_isAct 175 = .ok (.aload_n 0, 1) := by decide +kernel
theorem dL_isAct_176 : decode cL_isAct 176 = .ok (.invokestatic 92, 3) := by decide +kernel
theorem dL_isAct_179 : decode cL_isAct 179 = .ok (.ireturn, 1) := by decide +kernel
theorem dL_isAct_180 : decode cL_isAct 180 = .ok (.aload_n 0, 1) := by decide +kernel
theorem dL_isAct_181 : decode cL_isAct 181 = .ok (.aload_n 1, 1) := by decide +kernel
theorem dL_isAct_182 : decode cL_isAct 182 = .ok (.iload_n 2, 1) := by decide +kernel
theorem dL_isAct_183 : decode cL_isAct 183 = .ok (.iconst 1, 1) := by decide +kernel
theorem dL_isAct_184 : decode cL_isAct 184 = .ok (.iadd, 1) := by decide +kernel
theorem dL_isAct_185 : decode cL_isAct 185 = .ok (.aload_n 0, 1) := by decide +kernel
theorem dL_isAct_186 : decode cL_isAct 186 = .ok (.iconst 1, 1) := by decide +kernel
theorem dL_isAct_187 : decode cL_isAct 187 = .ok (.invokevirtual 8, 3) := by decide +kernel
theorem dL_isAct_190 : decode cL_isAct 190 = .ok (.invokestatic 81, 3) := by decide +kernel
theorem dL_isAct_193 : decode cL_isAct 193 = .ok (.iconst 1, 1) := by decide +kernel
theorem dL_isAct_194 : decode cL_isAct 194 = .ok (.aload_n 1, 1) := by decide +kernel
theorem dL_isAct_195 : decode cL_isAct 195 = .ok (.iload_n 2, 1) := by decide +kernel
theorem dL_isAct_196 : decode cL_isAct 196 = .ok (.iconst 3, 1) := by decide +kernel
theorem dL_isAct_197 : decode cL_isAct 197 = .ok (.iadd, 1) := by decide +kernel
theorem dL_isAct_198 : decode cL_isAct 198 = .ok (.iconst 4, 1) := by decide +kernel
theorem dL_isAct_199 : decode cL_isAct 199 = .ok (.invokestatic 81, 3) := by decide +kernel
theorem dL_isAct_202 : decode cL_isAct 202 = .ok (.iadd, 1) := by decide +kernel
theorem dL_isAct_203 : decode cL_isAct 203 = .ok (.invokestatic 96, 3) := by decide +kernel
theorem dL_isAct_206 : decode cL_isAct 206 = .ok (.ireturn, 1) := by decide +kernel
theorem dL_isAct_207 : decode cL_isAct 207 = .ok (.aload_n 0, 1) := by decide +kernel
theorem dL_isAct_208 : decode cL_isAct 208 = .ok (.aload_n 1, 1) := by decide +kernel
theorem dL_isAct_209 : decode cL_isAct 209 = .ok (.iload_n 2, 1) := by decide +kernel
theorem dL_isAct_210 : decode cL_isAct 210 = .ok (.iconst 2, 1) := by decide +kernel
theorem dL_isAct_211 : decode cL_isAct 211 = .ok (.iadd, 1) := by decide +kernel
theorem dL_isAct_212 : decode cL_isAct 212 = .ok (.aload_n 1, 1) := by decide +kernel
theorem dL_isAct_213 : decode cL_isAct 213 = .ok (.iload_n 2, 1) := by decide +kernel
theorem dL_isAct_214 : decode cL_isAct 214 = .ok (.iconst 5, 1) := by decide +kernel
theorem dL_isAct_215 : decode cL_isAct 215 = .ok (.iadd, 1) := by decide +kernel
theorem dL_isAct_216 : decode cL_isAct 216 = .ok (.iconst 4, 1) := by decide +kernel
theorem dL_isAct_217 : decode cL_isAct 217 = .ok (.invokestatic 81, 3) := by decide +kernel
theorem dL_isAct_220 : decode cL_isAct 220 = .ok (.ifCond .ne 8, 3) := by decide +kernel
theorem dL_isAct_223 : decode cL_isAct 223 = .ok (.bipush 30, 2) := by decide +kernel
theorem dL_isAct_225 : decode cL_isAct 225 = .ok (.goto 5, 3) := by decide +kernel
theorem dL_isAct_228 : decode cL_isAct 228 = .ok (.bipush 12, 2) := by decide +kernel
theorem dL_isAct_230 : decode cL_isAct 230 = .ok (.invokestatic 81, 3) := by decide +kernel
theorem dL_isAct_233 : decode cL_isAct 233 = .ok (.iconst 1, 1) := by decide +kernel
theorem dL_isAct_234 : decode cL_isAct 234 = .ok (.aload_n 1, 1) := by decide +kernel
theorem dL_isAct_235 : decode cL_isAct 235 = .ok (.iload_n 2, 1) := by decide +kernel
theorem dL_isAct_236 : decode cL_isAct 236 = .ok (.iconst 3, 1) := by decide +kernel
theorem dL_isAct_237 : decode cL_isAct 237 = .ok (.iadd, 1) := by decide +kernel
theorem dL_isAct_238 : decode cL_isAct 238 = .ok (.iconst 3, 1) := by decide +kernel
theorem dL_isAct_239 : decode cL_isAct 239 = .ok (.invokestatic 81, 3) := by decide +kernel
theorem dL_isAct_242 : decode cL_isAct 242 = .ok (.iadd, 1) := by decide +kernel
theorem dL_isAct_243 : decode cL_isAct 243 = .ok (.iconst 1, 1) := by decide +kernel
theorem dL_isAct_244 : decode cL_isAct 244 = .ok (.aload_n 1, 1) := by decide +kernel
theorem dL_isAct_245 : decode cL_isAct 245 = .ok (.iload_n 2, 1) := by decide +kernel
theorem dL_isAct_246 : decode cL_isAct 246 = .ok (.iconst 4, 1) := by decide +kernel
theorem dL_isAct_247 : decode cL_isAct 247 = .ok (.iadd, 1) := by decide +kernel
theorem dL_isAct_248 : decode cL_isAct 248 = .ok (.iconst 4, 1) := by decide +kernel
theorem dL_isAct_249 : decode cL_isAct 249 = .ok (.invokestatic 81, 3) := by decide +kernel
theorem dL_isAct_252 : decode cL_isAct 252 = .ok (.iadd, 1) := by decide +kernel
theorem dL_isAct_253 : decode cL_isAct 253 = .ok (.aload_n 1, 1) := by decide +kernel
theorem dL_isAct_254 : decode cL_isAct 254 = .ok (.iload_n 2, 1) := by decide +kernel
theorem dL_isAct_255 : decode cL_isAct 255 = .ok (.iconst 5, 1) := by decide +kernel
theorem dL_isAct_256 : decode cL_isAct 256 = .ok (.iadd, 1) := by decide +kernel
theorem dL_isAct_257 : decode cL_isAct 257 = .ok (.sipush 200, 3) := by decide +kernel
theorem dL_isAct_260 : decode cL_isAct 260 = .ok (.invokestatic 81, 3) := by decide +kernel
theorem dL_isAct_263 : decode cL_isAct 263 = .ok (.invokestatic 99, 3) := by decide +kernel
theorem dL_isAct_266 : decode cL_isAct 266 = .ok (.ireturn, 1) := by decide +kernel
theorem dL_isAct_267 : decode cL_isAct 267 = .ok (.aload_n 0, 1) := by decide +kernel
theorem dL_isAct_268 : decode cL_isAct 268 = .ok (.aload_n 1, 1) := by decide +kernel
theorem dL_isAct_269 : decode cL_isAct 269 = .ok (.iload_n 2, 1) := by decide +kernel
theorem dL_isAct_270 : decode cL_isAct 270 = .ok (.iconst 2, 1) := by decide +kernel
theorem dL_isAct_271 : decode cL_isAct 271 = .ok (.iadd, 1) := by decide +kernel
theorem dL_isAct_272 : decode cL_isAct 272 = .ok (.aload_n 0, 1) := by decide +kernel
theorem dL_isAct_273 : decode cL_isAct 273 = .ok (.bipush 6, 2) := by decide +kernel
theorem dL_isAct_275 : decode cL_isAct 275 = .ok (.invokevirtual 8, 3) := by decide +kernel
theorem dL_isAct_278 : decode cL_isAct 278 = .ok (.iconst 1, 1) := by decide +kernel
theorem dL_isAct_279 : decode cL_isAct 279 = .ok (.iadd, 1) := by decide +kernel
theorem dL_isAct_280 : decode cL_isAct 280 = .ok (.invokestatic 81, 3) := by decide +kernel
theorem dL_isAct_283 : decode cL_isAct 283 = .ok (.invokestatic 103, 3) := by decide +kernel
theorem dL_isAct_286 : decode cL_isAct 286 = .ok (.ireturn, 1) := by decide +kernel
theorem dL_isAct_287 : decode cL_isAct 287 = .ok (.aload_n 0, 1) := by decide +kernel
theorem dL_isAct_288 : decode cL_isAct 288 = .ok (.bipush 8, 2) := by decide +kernel
theorem dL_isAct_290 : decode cL_isAct 290 = .ok (.invokevirtual 8, 3) := by decide +kernel
theorem dL_isAct_293 : decode cL_isAct 293 = .ok (.istore 5, 2) := by decide +kernel
theorem dL_isAct_295 : decode cL_isAct 295 = .ok (.aload_n 0, 1) := by decide +kernel
theorem dL_isAct_296 : decode cL_isAct 296 = .ok (.aload_n 0, 1) := by decide +kernel
theorem dL_isAct_297 : decode cL_isAct 297 = .ok (.iconst 0, 1) := by decide +kernel
theorem dL_isAct_298 : decode cL_isAct 298 = .ok (.invokevirtual 8, 3) := by decide +kernel
theorem dL_isAct_301 : decode cL_isAct 301 = .ok (.aload_n 1, 1) := by decide +kernel
theorem dL_isAct_302 : decode cL_isAct 302 = .ok (.iload_n 2, 1) := by decide +kernel
theorem dL_isAct_303 : decode cL_isAct 303 = .ok (.iconst 2, 1) := by decide +kernel
theorem dL_isAct_304 : decode cL_isAct 304 = .ok (.iadd, 1) := by decide +kernel
theorem dL_isAct_305 : decode cL_isAct 305 = .ok (.bipush 40, 2) := by decide +kernel
theorem dL_isAct_307 : decode cL_isAct 307 = .ok (.invokestatic 81, 3) := by decide +kernel
theorem dL_isAct_310 : decode cL_isAct 310 = .ok (.iadd, 1) := by decide +kernel
theorem dL_isAct_311 : decode cL_isAct 311 = .ok (.iconst 1, 1) := by decide +kernel
theorem dL_isAct_312 : decode cL_isAct 312 = .ok (.aload_n 1, 1) := by decide +kernel
theorem dL_isAct_313 : decode cL_isAct 313 = .ok (.iload_n 2, 1) := by decide +kernel
theorem dL_isAct_314 : decode cL_isAct 314 = .ok (.iconst 3, 1) := by decide +kernel
theorem dL_isAct_315 : decode cL_isAct 315 = .ok (.iadd, 1) := by decide +kernel
theorem dL_isAct_316 : decode cL_isAct 316 = .ok (.bipush 50, 2) := by decide +kernel
theorem dL_isAct_318 : decode cL_isAct 318 = .ok (.invokestatic 81, 3) := by decide +kernel
theorem dL_isAct_321 : decode cL_isAct 321 = .ok (.iadd, 1) := by decide +kernel
theorem dL_isAct_322 : decode cL_isAct 322 = .ok (.invokevirtual 107, 3) := by decide +kernel
theorem dL_isAct_325 : decode cL_isAct 325 = .ok (.iload 5, 2) := by decide +kernel
theorem dL_isAct_327 : decode cL_isAct 327 = .ok (.bipush 10, 2) := by decide +kernel
theorem dL_isAct_329 : decode cL_isAct 329 = .ok (.if_icmp .ne 8, 3) := by decide +kernel
theorem dL_isAct_332 : decode cL_isAct 332 = .ok (.bipush (-4), 2) := by decide +kernel
theorem dL_isAct_334 : decode cL_isAct 334 = .ok (.goto 7, 3) := by decide +kernel
theorem dL_isAct_337 : decode cL_isAct 337 = .ok (.iload 5, 2) := by decide +kernel
theorem dL_isAct_339 : decode cL_isAct 339 = .ok (.iconst 1, 1) := by decide +kernel
theorem dL_isAct_340 : decode cL_isAct 340 = .ok (.iadd, 1) := by decide +kernel
theorem dL_isAct_341 : decode cL_isAct 341 = .ok (.if_icmp .ne 7, 3) := by decide +kernel
theorem dL_isAct_344 : decode cL_isAct 344 = .ok (.iconst 1, 1) := by decide +kernel
theorem dL_isAct_345 : decode cL_isAct 345 = .ok (.goto 4, 3) := by decide +kernel
theorem dL_isAct_348 : decode cL_isAct 348 = .ok (.iconst 0, 1) := by decide +kernel
theorem dL_isAct_349 : decode cL_isAct 349 = .ok (.ireturn, 1) := by decide +kernel
theorem dL_isAct_350 : decode cL_isAct 350 = .ok (.aload_n 0, 1) := by decide +kernel
theorem dL_isAct_351 : decode cL_isAct 351 = .ok (.iconst 1, 1) := by decide +kernel
theorem dL_isAct_352 : decode cL_isAct 352 = .ok (.aload_n 1, 1) := by decide +kernel
theorem dL_isAct_353 : decode cL_isAct 353 = .ok (.iload_n 2, 1) := by decide +kernel
theorem dL_isAct_354 : decode cL_isAct 354 = .ok (.iconst 2, 1) := by decide +kernel
theorem dL_isAct_355 : decode cL_isAct 355 = .ok (.iadd, 1) := by decide +kernel
theorem dL_isAct_356 : decode cL_isAct 356 = .ok (.bipush 60, 2) := by decide +kernel
theorem dL_isAct_358 : decode cL_isAct 358 = .ok (.invokestatic 81, 3) := by decide +kernel
theorem dL_isAct_361 : decode cL_isAct 361 = .ok (.iadd, 1) := by decide +kernel
theorem dL_isAct_362 : decode cL_isAct 362 = .ok (.invokestatic 110, 3) := by decide +kernel
theorem dL_isAct_365 : decode cL_isAct 365 = .ok (.ireturn, 1) := by decide +kernel
theorem dL_isServed_0 : decode cL_isServed 0 = .ok (.aload_n 0, 1) := by decide +kernel
theorem dL_isServed_1 : decode cL_isServed 1 = .ok (.iconst 3, 1) := by decide +kernel
theorem dL_isServed_2 : decode cL_isServed 2 = .ok (.invokevirtual 8, 3) := by decide +kernel
theorem dL_isServed_5 : decode cL_isServed 5 = .ok (.istore_n 1, 1) := by decide +kernel
theorem dL_isServed_6 : decode cL_isServed 6 = .ok (.iload_n 1, 1) := by decide +kernel
theorem dL_isServed_7 : decode cL_isServed 7 = .ok (.ifCond .eq 20, 3) := by decide +kernel
theorem dL_isServed_10 : decode cL_isServed 10 = .ok (.iload_n 1, 1) := by decide +kernel
theorem dL_isServed_11 : decode cL_isServed 11 = .ok (.bipush 8, 2) := by decide +kernel
theorem dL_isServed_13 : decode cL_isServed 13 = .ok (.if_icmp .gt 14, 3) := by decide +kernel
theorem dL_isServed_16 : decode cL_isServed 16 = .ok (.aload_n 0, 1) := by decide +kernel
theorem dL_isServed_17 : decode cL_isServed 17 = .ok (.bipush 6, 2) := by decide +kernel
theorem dL_isServed_19 : decode cL_isServed 19 = .ok (.invokevirtual 8, 3) := by decide +kernel
theorem dL_isServed_22 : decode cL_isServed 22 = .ok (.bipush 8, 2) := by decide +kernel
theorem dL_isServed_24 : decode cL_isServed 24 = .ok (.if_icmp .ne 5, 3) := by decide +kernel
theorem dL_isServed_27 : decode cL_isServed 27 = .ok (.iconst 1, 1) := by decide +kernel
theorem dL_isServed_28 : decode cL_isServed 28 = .ok (.ireturn, 1) := by decide +kernel
theorem dL_isServed_29 : decode cL_isServed 29 = .ok (.lconst 0, 1) := by decide +kernel
theorem dL_isServed_30 : decode cL_isServed 30 = .ok (.lstore_n 2, 1) := by decide +kernel
theorem dL_isServed_31 : decode cL_isServed 31 = .ok (.iload_n 1, 1) := by decide +kernel
theorem dL_isServed_32 : decode cL_isServed 32 = .ok (.iconst 1, 1) := by decide +kernel
theorem dL_isServed_33 : decode cL_isServed 33 = .ok (.isub, 1) := by decide +kernel
theorem dL_isServed_34 : decode cL_isServed 34 = .ok (.istore 4, 2) := by decide +kernel
theorem dL_isServed_36 : decode cL_isServed 36 = .ok (.iload 4, 2) := by decide +kernel
theorem dL_isServed_38 : decode cL_isServed 38 = .ok (.ifCond .lt 46, 3) := by decide +kernel
theorem dL_isServed_41 : decode cL_isServed 41 = .ok (.aload_n 0, 1) := by decide +kernel
theorem dL_isServed_42 : decode cL_isServed 42 = .ok (.aload_n 0, 1) := by decide +kernel
theorem dL_isServed_43 : decode cL_isServed 43 = .ok (.bipush (-6), 2) := by decide +kernel
theorem dL_isServed_45 : decode cL_isServed 45 = .ok (.iload 4, 2) := by decide +kernel
theorem dL_isServed_47 : decode cL_isServed 47 = .ok (.invokevirtual 18, 3) := by decide +kernel
theorem dL_isServed_50 : decode cL_isServed 50 = .ok (.bipush 6, 2) := by decide +kernel
theorem dL_isServed_52 : decode cL_isServed 52 = .ok (.invokevirtual 21, 3) := by decide +kernel
theorem dL_isServed_55 : decode cL_isServed 55 = .ok (.ifCond .lt 5, 3) := by decide +kernel
theorem dL_isServed_58 : decode cL_isServed 58 = .ok (.iconst 1, 1) := by decide +kernel
theorem dL_isServed_59 : decode cL_isServed 59 = .ok (.ireturn, 1) := by decide +kernel
theorem dL_isServed_60 : decode cL_isServed 60 = .ok (.ldc2_w 57, 3) := by decide +kernel
theorem dL_isServed_63 : decode cL_isServed 63 = .ok (.lload_n 2, 1) := by decide +kernel
theorem dL_isServed_64 : decode cL_isServed 64 = .ok (.lmul, 1) := by decide +kernel
theorem dL_isServed_65 : decode cL_isServed 65 = .ok (.aload_n 0, 1) := by decide +kernel
theorem dL_isServed_66 : decode cL_isServed 66 = .ok (.bipush (-6), 2) := by decide +kernel
theorem dL_isServed_68 : decode cL_isServed 68 = .ok (.iload 4, 2) := by decide +kernel
theorem dL_isServed_70 : decode cL_isServed 70 = .ok (.invokevirtual 18, 3) := by decide +kernel
theorem dL_isServed_73 : decode cL_isServed 73 = .ok (.i2l, 1) := by decide +kernel
theorem dL_isServed_74 : decode cL_isServed 74 = .ok (.ladd, 1) := by decide +kernel
theorem dL_isServed_75 : decode cL_isServed 75 = .ok (.lconst 1, 1) := by decide +kernel
theorem dL_isServed_76 : decode cL_isServed 76 = .ok (.ladd, 1) := by decide +kernel
theorem dL_isServed_77 : decode cL_isServed 77 = .ok (.lstore_n 2, 1) := by decide +kernel
theorem dL_isServed_78 : decode cL_isServed 78 = .ok (.iinc 4 (-1), 3) := by decide +kernel
theorem dL_isServed_81 : decode cL_isServed 81 = .ok (.goto (-45), 3) := by decide +kernel
theorem dL_isServed_84 : decode cL_isServed 84 = .ok (.aload_n 0, 1) := by decide +kernel
theorem dL_isServed_85 : decode cL_isServed 85 = .ok (.lload_n 2, 1) := by decide +kernel
theorem dL_isServed_86 : decode cL_isServed 86 = .ok (.aload_n 0, 1) := by decide +kernel
theorem dL_isServed_87 : decode cL_isServed 87 = .ok (.iconst 0, 1) := by decide +kernel
theorem dL_isServed_88 : decode cL_isServed 88 = .ok (.invokevirtual 8, 3) := by decide +kernel
theorem dL_isServed_91 : decode cL_isServed 91 = .ok (.invokevirtual 59, 3) := by decide +kernel
theorem dL_isServed_94 : decode cL_isServed 94 = .ok (.istore 4, 2) := by decide +kernel
theorem dL_isServed_96 : decode cL_isServed 96 = .ok (.iload 4, 2) := by decide +kernel
theorem dL_isServed_98 : decode cL_isServed 98 = .ok (.aload_n 0, 1) := by decide +kernel
theorem dL_isServed_99 : decode cL_isServed 99 = .ok (.bipush 6, 2) := by decide +kernel
theorem dL_isServed_101 : decode cL_isServed 101 = .ok (.invokevirtual 8, 3) := by decide +kernel
theorem dL_isServed_104 : decode cL_isServed 104 = .ok (.iconst 1, 1) := by decide +kernel
theorem dL_isServed_105 : decode cL_isServed 105 = .ok (.isub, 1) := by decide +kernel
theorem dL_isServed_106 : decode cL_isServed 106 = .ok (.if_icmp .ne 26, 3) := by decide +kernel
theorem dL_isServed_109 : decode cL_isServed 109 = .ok (.aload_n 0, 1) := by decide +kernel
theorem dL_isServed_110 : decode cL_isServed 110 = .ok (.iload 4, 2) := by decide +kernel
theorem dL_isServed_112 : decode cL_isServed 112 = .ok (.invokevirtual 113, 3) := by decide +kernel
theorem dL_isServed_115 : decode cL_isServed 115 = .ok (.iconst 1, 1) := by decide +kernel
theorem dL_isServed_116 : decode cL_isServed 116 = .ok (.if_icmp .ne 16, 3) := by decide +kernel
theorem dL_isServed_119 : decode cL_isServed 119 = .ok (.aload_n 0, 1) := by decide +kernel
theorem dL_isServed_120 : decode cL_isServed 120 = .ok (.iload 4, 2) := by decide +kernel
theorem dL_isServed_122 : decode cL_isServed 122 = .ok (.invokestatic 103, 3) := by decide +kernel
theorem dL_isServed_125 : decode cL_isServed 125 = .ok (.ifCond .eq 7, 3) := by decide +kernel
theorem dL_isServed_128 : decode cL_isServed 128 = .ok (.iconst 1, 1) := by decide +kernel
theorem dL_isServed_129 : decode cL_isServed 129 = .ok (.goto 4, 3) := by decide +kernel
theorem dL_isServed_132 : decode cL_isServed 132 = .ok (.iconst 0, 1) := by decide +kernel
theorem dL_isServed_133 : decode cL_isServed 133 = .ok (.ireturn, 1) := by decide +kernel
theorem dL_law_0 : decode cL_law 0 = .ok (.new 9, 3) := by decide +kernel
theorem dL_law_3 : decode cL_law 3 = .ok (.dup, 1) := by decide +kernel
theorem dL_law_4 : decode cL_law 4 = .ok (.invokespecial 116, 3) := by decide +kernel
theorem dL_law_7 : decode cL_law 7 = .ok (.astore_n 1, 1) := by decide +kernel
theorem dL_law_8 : decode cL_law 8 = .ok (.aload_n 1, 1) := by decide +kernel
theorem dL_law_9 : decode cL_law 9 = .ok (.iconst 0, 1) := by decide +kernel
theorem dL_law_10 : decode cL_law 10 = .ok (.iconst 4, 1) := by decide +kernel
theorem dL_law_11 : decode cL_law 11 = .ok (.aload_n 0, 1) := by decide +kernel
theorem dL_law_12 : decode cL_law 12 = .ok (.iconst 0, 1) := by decide +kernel
theorem dL_law_13 : decode cL_law 13 = .ok (.bipush 40, 2) := by decide +kernel
theorem dL_law_15 : decode cL_law 15 = .ok (.invokestatic 81, 3) := by decide +kernel
theorem dL_law_18 : decode cL_law 18 = .ok (.iadd, 1) := by decide +kernel
theorem dL_law_19 : decode cL_law 19 = .ok (.invokevirtual 117, 3) := by decide +kernel
theorem dL_law_22 : decode cL_law 22 = .ok (.pop, 1) := by decide +kernel
theorem dL_law_23 : decode cL_law 23 = .ok (.aload_n 1, 1) := by decide +kernel
theorem dL_law_24 : decode cL_law 24 = .ok (.iconst 1, 1) := by decide +kernel
theorem dL_law_25 : decode cL_law 25 = .ok (.iconst 2, 1) := by decide +kernel
theorem dL_law_26 : decode cL_law 26 = .ok (.aload_n 0, 1) := by decide +kernel
theorem dL_law_27 : decode cL_law 27 = .ok (.iconst 1, 1) := by decide +kernel
theorem dL_law_28 : decode cL_law 28 = .ok (.bipush 40, 2) := by decide +kernel
theorem dL_law_30 : decode cL_law 30 = .ok (.invokestatic 81, 3) := by decide +kernel
theorem dL_law_33 : decode cL_law 33 = .ok (.iadd, 1) := by decide +kernel
theorem dL_law_34 : decode cL_law 34 = .ok (.invokevirtual 117, 3) := by decide +kernel
theorem dL_law_37 : decode cL_law 37 = .ok (.pop, 1) := by decide +kernel
theorem dL_law_38 : decode cL_law 38 = .ok (.aload_n 1, 1) := by decide +kernel
theorem dL_law_39 : decode cL_law 39 = .ok (.iconst 3, 1) := by decide +kernel
theorem dL_law_40 : decode cL_law 40 = .ok (.aload_n 0, 1) := by decide +kernel
theorem dL_law_41 : decode cL_law 41 = .ok (.iconst 2, 1) := by decide +kernel
theorem dL_law_42 : decode cL_law 42 = .ok (.iconst 4, 1) := by decide +kernel
theorem dL_law_43 : decode cL_law 43 = .ok (.invokestatic 81, 3) := by decide +kernel
theorem dL_law_46 : decode cL_law 46 = .ok (.invokevirtual 117, 3) := by decide +kernel
theorem dL_law_49 : decode cL_law 49 = .ok (.pop, 1) := by decide +kernel
theorem dL_law_50 : decode cL_law 50 = .ok (.iconst 0, 1) := by decide +kernel
theorem dL_law_51 : decode cL_law 51 = .ok (.istore_n 2, 1) := by decide +kernel
theorem dL_law_52 : decode cL_law 52 = .ok (.iload_n 2, 1) := by decide +kernel
theorem dL_law_53 : decode cL_law 53 = .ok (.iconst 3, 1) := by decide +kernel
theorem dL_law_54 : decode cL_law 54 = .ok (.if_icmp .ge 31, 3) := by decide +kernel
theorem dL_law_57 : decode cL_law 57 = .ok (.aload_n 1, 1) := by decide +kernel
theorem dL_law_58 : decode cL_law 58 = .ok (.bipush 8, 2) := by decide +kernel
theorem dL_law_60 : decode cL_law 60 = .ok (.aload_n 0, 1) := by decide +kernel
theorem dL_law_61 : decode cL_law 61 = .ok (.iconst 3, 1) := by decide +kernel
theorem dL_law_62 : decode cL_law 62 = .ok (.iload_n 2, 1) := by decide +kernel
theorem dL_law_63 : decode cL_law 63 = .ok (.iadd, 1) := by decide +kernel
theorem dL_law_64 : decode cL_law 64 = .ok (.bipush 50, 2) := by decide +kernel
theorem dL_law_66 : decode cL_law 66 = .ok (.invokestatic 81, 3) := by decide +kernel
theorem dL_law_69 : decode cL_law 69 = .ok (.iadd, 1) := by decide +kernel
theorem dL_law_70 : decode cL_law 70 = .ok (.invokevirtual 120, 3) := by decide +kernel
theorem dL_law_73 : decode cL_law 73 = .ok (.iload_n 2, 1) := by decide +kernel
theorem dL_law_74 : decode cL_law 74 = .ok (.if_icmp .eq 5, 3) := by decide +kernel
theorem dL_law_77 : decode cL_law 77 = .ok (.iconst 0, 1) := by decide +kernel
theorem dL_law_78 : decode cL_law 78 = .ok (.ireturn, 1) := by decide +kernel
theorem dL_law_79 : decode cL_law 79 = .ok (.iinc 2 1, 3) := by decide +kernel
theorem dL_law_82 : decode cL_law 82 = .ok (.goto (-30), 3) := by decide +kernel
theorem dL_law_85 : decode cL_law 85 = .ok (.iconst 0, 1) := by decide +kernel
theorem dL_law_86 : decode cL_law 86 = .ok (.istore_n 2, 1) := by decide +kernel
theorem dL_law_87 : decode cL_law 87 = .ok (.iload_n 2, 1) := by decide +kernel
theorem dL_law_88 : decode cL_law 88 = .ok (.bipush 12, 2) := by decide +kernel
theorem dL_law_90 : decode cL_law 90 = .ok (.if_icmp .ge 38, 3) := by decide +kernel
theorem dL_law_93 : decode cL_law 93 = .ok (.aload_n 1, 1) := by decide +kernel
theorem dL_law_94 : decode cL_law 94 = .ok (.aload_n 0, 1) := by decide +kernel
theorem dL_law_95 : decode cL_law 95 = .ok (.bipush 6, 2) := by decide +kernel
theorem dL_law_97 : decode cL_law 97 = .ok (.iload_n 2, 1) := by decide +kernel
theorem dL_law_98 : decode cL_law 98 = .ok (.iadd, 1) := by decide +kernel
theorem dL_law_99 : decode cL_law 99 = .ok (.iconst 3, 1) := by decide +kernel
theorem dL_law_100 : decode cL_law 100 = .ok (.invokestatic 81, 3) := by decide +kernel
theorem dL_law_103 : decode cL_law 103 = .ok (.iconst 1, 1) := by decide +kernel
theorem dL_law_104 : decode cL_law 104 = .ok (.aload_n 0, 1) := by decide +kernel
theorem dL_law_105 : decode cL_law 105 = .ok (.bipush 18, 2) := by decide +kernel
theorem dL_law_107 : decode cL_law 107 = .ok (.iload_n 2, 1) := by decide +kernel
theorem dL_law_108 : decode cL_law 108 = .ok (.iadd, 1) := by decide +kernel
theorem dL_law_109 : decode cL_law 109 = .ok (.iconst 3, 1) := by decide +kernel
theorem dL_law_110 : decode cL_law 110 = .ok (.invokestatic 81, 3) := by decide +kernel
theorem dL_law_113 : decode cL_law 113 = .ok (.iadd, 1) := by decide +kernel
theorem dL_law_114 : decode cL_law 114 = .ok (.invokestatic 96, 3) := by decide +kernel
theorem dL_law_117 : decode cL_law 117 = .ok (.ifCond .ne 5, 3) := by decide +kernel
theorem dL_law_120 : decode cL_law 120 = .ok (.iconst 0, 1) := by decide +kernel
theorem dL_law_121 : decode cL_law 121 = .ok (.ireturn, 1) := by decide +kernel
theorem dL_law_122 : decode cL_law 122 = .ok (.iinc 2 1, 3) := by decide +kernel
theorem dL_law_125 : decode cL_law 125 = .ok (.goto (-38), 3) := by decide +kernel
theorem dL_law_128 : decode cL_law 128 = .ok (.iconst 0, 1) := by decide +kernel
theorem dL_law_129 : decode cL_law 129 = .ok (.istore_n 2, 1) := by decide +kernel
theorem dL_law_130 : decode cL_law 130 = .ok (.iload_n 2, 1) := by decide +kernel
theorem dL_law_131 : decode cL_law 131 = .ok (.bipush 48, 2) := by decide +kernel
theorem dL_law_133 : decode cL_law 133 = .ok (.if_icmp .ge 49, 3) := by decide +kernel
theorem dL_law_136 : decode cL_law 136 = .ok (.aload_n 1, 1) := by decide +kernel
theorem dL_law_137 : decode cL_law 137 = .ok (.aload_n 0, 1) := by decide +kernel
theorem dL_law_138 : decode cL_law 138 = .ok (.bipush 30, 2) := by decide +kernel
theorem dL_law_140 : decode cL_law 140 = .ok (.bipush 6, 2) := by decide +kernel
theorem dL_law_142 : decode cL_law 142 = .ok (.iload_n 2, 1) := by decide +kernel
theorem dL_law_143 : decode cL_law 143 = .ok (.imul, 1) := by decide +kernel
theorem dL_law_144 : decode cL_law 144 = .ok (.iadd, 1) := by decide +kernel
theorem dL_law_145 : decode cL_law 145 = .ok (.invokestatic 123, 3) := by decide +kernel
theorem dL_law_148 : decode cL_law 148 = .ok (.ifCond .eq 26, 3) := by decide +kernel
theorem dL_law_151 : decode cL_law 151 = .ok (.aload_n 1, 1) := by decide +kernel
theorem dL_law_152 : decode cL_law 152 = .ok (.invokestatic 127, 3) := by decide +kernel
theorem dL_law_155 : decode cL_law 155 = .ok (.ifCond .eq 19, 3) := by decide +kernel
theorem dL_law_158 : decode cL_law 158 = .ok (.iload_n 2, 1) := by decide +kernel
theorem dL_law_159 : decode cL_law 159 = .ok (.bipush 16, 2) := by decide +kernel
theorem dL_law_161 : decode cL_law 161 = .ok (.irem, 1) := by decide +kernel
theorem dL_law_162 : decode cL_law 162 = .ok (.bipush 15, 2) := by decide +kernel
theorem dL_law_164 : decode cL_law 164 = .ok (.if_icmp .ne 12, 3) := by decide +kernel
theorem dL_law_167 : decode cL_law 167 = .ok (.aload_n 1, 1) := by decide +kernel
theorem dL_law_168 : decode cL_law 168 = .ok (.invokestatic 130, 3) := by decide +kernel
theorem dL_law_171 : decode cL_law 171 = .ok (.ifCond .ne 5, 3) := by decide +kernel
theorem dL_law_174 : decode cL_law 174 = .ok (.iconst 0, 1) := by decide +kernel
theorem dL_law_175 : decode cL_law 175 = .ok (.ireturn, 1) := by decide +kernel
theorem dL_law_176 : decode cL_law 176 = .ok (.iinc 2 1, 3) := by decide +kernel
theorem dL_law_179 : decode cL_law 179 = .ok (.goto (-49), 3) := by decide +kernel
theorem dL_law_182 : decode cL_law 182 = .ok (.aload_n 1, 1) := by decide +kernel
theorem dL_law_183 : decode cL_law 183 = .ok (.invokestatic 127, 3) := by decide +kernel
theorem dL_law_186 : decode cL_law 186 = .ok (.ireturn, 1) := by decide +kernel
