theorem dX12_no_0 : decode cX12_no 0 = .ok (.aload_n 0, 1) := by decide +kernel
theorem dX12_no_1 : decode cX12_no 1 = .ok (.getfield 7, 3) := by decide +kernel
theorem dX12_no_4 : decode cX12_no 4 = .ok (.iload_n 1, 1) := by decide +kernel
theorem dX12_no_5 : decode cX12_no 5 = .ok (.ineg, 1) := by decide +kernel
theorem dX12_no_6 : decode cX12_no 6 = .ok (.dup2, 1) := by decide +kernel
theorem dX12_no_7 : decode cX12_no 7 = .ok (.iaload, 1) := by decide +kernel
theorem dX12_no_8 : decode cX12_no 8 = .ok (.iconst 1, 1) := by decide +kernel
theorem dX12_no_9 : decode cX12_no 9 = .ok (.iadd, 1) := by decide +kernel
theorem dX12_no_10 : decode cX12_no 10 = .ok (.iastore, 1) := by decide +kernel
theorem dX12_no_11 : decode cX12_no 11 = .ok (.iload_n 1, 1) := by decide +kernel
theorem dX12_no_12 : decode cX12_no 12 = .ok (.ireturn, 1) := by decide +kernel
theorem dX12_within_0 : decode cX12_within 0 = .ok (.lload_n 0, 1) := by decide +kernel
theorem dX12_within_1 : decode cX12_within 1 = .ok (.lload_n 2, 1) := by decide +kernel
theorem dX12_within_2 : decode cX12_within 2 = .ok (.lcmp, 1) := by decide +kernel
theorem dX12_within_3 : decode cX12_within 3 = .ok (.ifCond .lt 14, 3) := by decide +kernel
theorem dX12_within_6 : decode cX12_within 6 = .ok (.lload_n 0, 1) := by decide +kernel
theorem dX12_within_7 : decode cX12_within 7 = .ok (.lload 4, 2) := by decide +kernel
theorem dX12_within_9 : decode cX12_within 9 = .ok (.lcmp, 1) := by decide +kernel
theorem dX12_within_10 : decode cX12_within 10 = .ok (.ifCond .gt 7, 3) := by decide +kernel
theorem dX12_within_13 : decode cX12_within 13 = .ok (.iconst 1, 1) := by decide +kernel
theorem dX12_within_14 : decode cX12_within 14 = .ok (.goto 4, 3) := by decide +kernel
theorem dX12_within_17 : decode cX12_within 17 = .ok (.iconst 0, 1) := by decide +kernel
theorem dX12_within_18 : decode cX12_within 18 = .ok (.ireturn, 1) := by decide +kernel
theorem dX12_init_0 : decode cX12_init 0 = .ok (.aload_n 0, 1) := by decide +kernel
theorem dX12_init_1 : decode cX12_init 1 = .ok (.invokespecial 11, 3) := by decide +kernel
theorem dX12_init_4 : decode cX12_init 4 = .ok (.aload_n 0, 1) := by decide +kernel
theorem dX12_init_5 : decode cX12_init 5 = .ok (.bipush 8, 2) := by decide +kernel
theorem dX12_init_7 : decode cX12_init 7 = .ok (.newarray .int, 2) := by decide +kernel
theorem dX12_init_9 : decode cX12_init 9 = .ok (.putfield 7, 3) := by decide +kernel
theorem dX12_init_12 : decode cX12_init 12 = .ok (.aload_n 0, 1) := by decide +kernel
theorem dX12_init_13 : decode cX12_init 13 = .ok (.sipush 3372, 3) := by decide +kernel
theorem dX12_init_16 : decode cX12_init 16 = .ok (.newarray .int, 2) := by decide +kernel
theorem dX12_init_18 : decode cX12_init 18 = .ok (.putfield 17, 3) := by decide +kernel
theorem dX12_init_21 : decode cX12_init 21 = .ok (.aload_n 0, 1) := by decide +kernel
theorem dX12_init_22 : decode cX12_init 22 = .ok (.sipush 2352, 3) := by decide +kernel
theorem dX12_init_25 : decode cX12_init 25 = .ok (.newarray .long, 2) := by decide +kernel
theorem dX12_init_27 : decode cX12_init 27 = .ok (.putfield 20, 3) := by decide +kernel
theorem dX12_init_30 : decode cX12_init 30 = .ok (.aload_n 0, 1) := by decide +kernel
theorem dX12_init_31 : decode cX12_init 31 = .ok (.iconst 2, 1) := by decide +kernel
theorem dX12_init_32 : decode cX12_init 32 = .ok (.newarray .boolean, 2) := by decide +kernel
theorem dX12_init_34 : decode cX12_init 34 = .ok (.putfield 24, 3) := by decide +kernel
theorem dX12_init_37 : decode cX12_init 37 = .ok (.aload_n 0, 1) := by decide +kernel
theorem dX12_init_38 : decode cX12_init 38 = .ok (.bipush 81, 2) := by decide +kernel
theorem dX12_init_40 : decode cX12_init 40 = .ok (.newarray .int, 2) := by decide +kernel
theorem dX12_init_42 : decode cX12_init 42 = .ok (.putfield 28, 3) := by decide +kernel
theorem dX12_init_45 : decode cX12_init 45 = .ok (.aload_n 0, 1) := by decide +kernel
theorem dX12_init_46 : decode cX12_init 46 = .ok (.sipush 2580, 3) := by decide +kernel
theorem dX12_init_49 : decode cX12_init 49 = .ok (.newarray .int, 2) := by decide +kernel
theorem dX12_init_51 : decode cX12_init 51 = .ok (.putfield 31, 3) := by decide +kernel
theorem dX12_init_54 : decode cX12_init 54 = .ok (.aload_n 0, 1) := by decide +kernel
theorem dX12_init_55 : decode cX12_init 55 = .ok (.bipush 116, 2) := by decide +kernel
theorem dX12_init_57 : decode cX12_init 57 = .ok (.newarray .int, 2) := by decide +kernel
theorem dX12_init_59 : decode cX12_init 59 = .ok (.putfield 34, 3) := by decide +kernel
theorem dX12_init_62 : decode cX12_init 62 = .ok (.aload_n 0, 1) := by decide +kernel
theorem dX12_init_63 : decode cX12_init 63 = .ok (.sipush 400, 3) := by decide +kernel
theorem dX12_init_66 : decode cX12_init 66 = .ok (.newarray .int, 2) := by decide +kernel
theorem dX12_init_68 : decode cX12_init 68 = .ok (.putfield 37, 3) := by decide +kernel
theorem dX12_init_71 : decode cX12_init 71 = .ok (.aload_n 0, 1) := by decide +kernel
theorem dX12_init_72 : decode cX12_init 72 = .ok (.iconst (-1), 1) := by decide +kernel
theorem dX12_init_73 : decode cX12_init 73 = .ok (.putfield 40, 3) := by decide +kernel
theorem dX12_init_76 : decode cX12_init 76 = .ok (.aload_n 0, 1) := by decide +kernel
theorem dX12_init_77 : decode cX12_init 77 = .ok (.bipush 8, 2) := by decide +kernel
theorem dX12_init_79 : decode cX12_init 79 = .ok (.newarray .int, 2) := by decide +kernel
theorem dX12_init_81 : decode cX12_init 81 = .ok (.putfield 43, 3) := by decide +kernel
theorem dX12_init_84 : decode cX12_init 84 = .ok (.aload_n 0, 1) := by decide +kernel
theorem dX12_init_85 : decode cX12_init 85 = .ok (.bipush 12, 2) := by decide +kernel
theorem dX12_init_87 : decode cX12_init 87 = .ok (.newarray .int, 2) := by decide +kernel
theorem dX12_init_89 : decode cX12_init 89 = .ok (.putfield 46, 3) := by decide +kernel
theorem dX12_init_92 : decode cX12_init 92 = .ok (.aload_n 0, 1) := by decide +kernel
theorem dX12_init_93 : decode cX12_init 93 = .ok (.sipush 260, 3) := by decide +kernel
theorem dX12_init_96 : decode cX12_init 96 = .ok (.newarray .boolean, 2) := by decide +kernel
theorem dX12_init_98 : decode cX12_init 98 = .ok (.putfield 49, 3) := by decide +kernel
theorem dX12_init_101 : decode cX12_init 101 = .ok (.aload_n 0, 1) := by decide +kernel
theorem dX12_init_102 : decode cX12_init 102 = .ok (.bipush 12, 2) := by decide +kernel
theorem dX12_init_104 : decode cX12_init 104 = .ok (.newarray .long, 2) := by decide +kernel
theorem dX12_init_106 : decode cX12_init 106 = .ok (.putfield 52, 3) := by decide +kernel
theorem dX12_init_109 : decode cX12_init 109 = .ok (.aload_n 0, 1) := by decide +kernel
theorem dX12_init_110 : decode cX12_init 110 = .ok (.sipush 480, 3) := by decide +kernel
theorem dX12_init_113 : decode cX12_init 113 = .ok (.newarray .long, 2) := by decide +kernel
theorem dX12_init_115 : decode cX12_init 115 = .ok (.putfield 55, 3) := by decide +kernel
theorem dX12_init_118 : decode cX12_init 118 = .ok (.aload_n 0, 1) := by decide +kernel
theorem dX12_init_119 : decode cX12_init 119 = .ok (.bipush 6, 2) := by decide +kernel
theorem dX12_init_121 : decode cX12_init 121 = .ok (.newarray .int, 2) := by decide +kernel
theorem dX12_init_123 : decode cX12_init 123 = .ok (.putfield 58, 3) := by decide +kernel
theorem dX12_init_126 : decode cX12_init 126 = .ok (.aload_n 0, 1) := by decide +kernel
theorem dX12_init_127 : decode cX12_init 127 = .ok (.sipush 256, 3) := by decide +kernel
theorem dX12_init_130 : decode cX12_init 130 = .ok (.newarray .int, 2) := by decide +kernel
theorem dX12_init_132 : decode cX12_init 132 = .ok (.putfield 61, 3) := by decide +kernel
theorem dX12_init_135 : decode cX12_init 135 = .ok (.aload_n 0, 1) := by decide +kernel
theorem dX12_init_136 : decode cX12_init 136 = .ok (.iconst 4, 1) := by decide +kernel
theorem dX12_init_137 : decode cX12_init 137 = .ok (.newarray .int, 2) := by decide +kernel
theorem dX12_init_139 : decode cX12_init 139 = .ok (.dup, 1) := by decide +kernel
theorem dX12_init_140 : decode cX12_init 140 = .ok (.iconst 0, 1) := by decide +kernel
theorem dX12_init_141 : decode cX12_init 141 = .ok (.iconst (-1), 1) := by decide +kernel
theorem dX12_init_142 : decode cX12_init 142 = .ok (.iastore, 1) := by decide +kernel
theorem dX12_init_143 : decode cX12_init 143 = .ok (.dup, 1) := by decide +kernel
theorem dX12_init_144 : decode cX12_init 144 = .ok (.iconst 1, 1) := by decide +kernel
theorem dX12_init_145 : decode cX12_init 145 = .ok (.iconst (-1), 1) := by decide +kernel
theorem dX12_init_146 : decode cX12_init 146 = .ok (.iastore, 1) := by decide +kernel
theorem dX12_init_147 : decode cX12_init 147 = .ok (.dup, 1) := by decide +kernel
theorem dX12_init_148 : decode cX12_init 148 = .ok (.iconst 2, 1) := by decide +kernel
theorem dX12_init_149 : decode cX12_init 149 = .ok (.iconst (-1), 1) := by decide +kernel
theorem dX12_init_150 : decode cX12_init 150 = .ok (.iastore, 1) := by decide +kernel
theorem dX12_init_151 : decode cX12_init 151 = .ok (.dup, 1) := by decide +kernel
theorem dX12_init_152 : decode cX12_init 152 = .ok (.iconst 3, 1) := by decide +kernel
theorem dX12_init_153 : decode cX12_init 153 = .ok (.iconst (-1), 1) := by decide +kernel
theorem dX12_init_154 : decode cX12_init 154 = .ok (.iastore, 1) := by decide +kernel
theorem dX12_init_155 : decode cX12_init 155 = .ok (.putfield 64, 3) := by decide +kernel
theorem dX12_init_158 : decode cX12_init 158 = .ok (.aload_n 0, 1) := by decide +kernel
theorem dX12_init_159 : decode cX12_init 159 = .ok (.iconst 4, 1) := by decide +kernel
theorem dX12_init_160 : decode cX12_init 160 = .ok (.newarray .int, 2) := by decide +kernel
theorem dX12_init_162 : decode cX12_init 162 = .ok (.putfield 67, 3) := by decide +kernel
theorem dX12_init_165 : decode cX12_init 165 = .ok (.aload_n 0, 1) := by decide +kernel
theorem dX12_init_166 : decode cX12_init 166 = .ok (.sipush 240, 3) := by decide +kernel
theorem dX12_init_169 : decode cX12_init 169 = .ok (.newarray .long, 2) := by decide +kernel
theorem dX12_init_171 : decode cX12_init 171 = .ok (.putfield 70, 3) := by decide +kernel
theorem dX12_init_174 : decode cX12_init 174 = .ok (.aload_n 0, 1) := by decide +kernel
theorem dX12_init_175 : decode cX12_init 175 = .ok (.getfield 17, 3) := by decide +kernel
theorem dX12_init_178 : decode cX12_init 178 = .ok (.sipush 161, 3) := by decide +kernel
theorem dX12_init_181 : decode cX12_init 181 = .ok (.sipush 5000, 3) := by decide +kernel
theorem dX12_init_184 : decode cX12_init 184 = .ok (.iastore, 1) := by decide +kernel
theorem dX12_init_185 : decode cX12_init 185 = .ok (.aload_n 0, 1) := by decide +kernel
theorem dX12_init_186 : decode cX12_init 186 = .ok (.getfield 17, 3) := by decide +kernel
theorem dX12_init_189 : decode cX12_init 189 = .ok (.sipush 248, 3) := by decide +kernel
theorem dX12_init_192 : decode cX12_init 192 = .ok (.bipush 80, 2) := by decide +kernel
theorem dX12_init_194 : decode cX12_init 194 = .ok (.iastore, 1) := by decide +kernel
theorem dX12_init_195 : decode cX12_init 195 = .ok (.aload_n 0, 1) := by decide +kernel
theorem dX12_init_196 : decode cX12_init 196 = .ok (.getfield 17, 3) := by decide +kernel
theorem dX12_init_199 : decode cX12_init 199 = .ok (.sipush 249, 3) := by decide +kernel
theorem dX12_init_202 : decode cX12_init 202 = .ok (.bipush 50, 2) := by decide +kernel
theorem dX12_init_204 : decode cX12_init 204 = .ok (.iastore, 1) := by decide +kernel
theorem dX12_init_205 : decode cX12_init 205 = .ok (.return_, 1) := by decide +kernel
theorem dX12_wordAt_0 : decode cX12_wordAt 0 = .ok (.iload_n 2, 1) := by decide +kernel
theorem dX12_wordAt_1 : decode cX12_wordAt 1 = .ok (.bipush 7, 2) := by decide +kernel
theorem dX12_wordAt_3 : decode cX12_wordAt 3 = .ok (.if_icmp .le 7, 3) := by decide +kernel
theorem dX12_wordAt_6 : decode cX12_wordAt 6 = .ok (.iconst 0, 1) := by decide +kernel
theorem dX12_wordAt_7 : decode cX12_wordAt 7 = .ok (.goto 17, 3) := by decide +kernel
theorem dX12_wordAt_10 : decode cX12_wordAt 10 = .ok (.lload_n 0, 1) := by decide +kernel
theorem dX12_wordAt_11 : decode cX12_wordAt 11 = .ok (.bipush 56, 2) := by decide +kernel
theorem dX12_wordAt_13 : decode cX12_wordAt 13 = .ok (.bipush 8, 2) := by decide +kernel
theorem dX12_wordAt_15 : decode cX12_wordAt 15 = .ok (.iload_n 2, 1) := by decide +kernel
theorem dX12_wordAt_16 : decode cX12_wordAt 16 = .ok (.imul, 1) := by decide +kernel
theorem dX12_wordAt_17 : decode cX12_wordAt 17 = .ok (.isub, 1) := by decide +kernel
theorem dX12_wordAt_18 : decode cX12_wordAt 18 = .ok (.lushr, 1) := by decide +kernel
theorem dX12_wordAt_19 : decode cX12_wordAt 19 = .ok (.l2i, 1) := by decide +kernel
theorem dX12_wordAt_20 : decode cX12_wordAt 20 = .ok (.sipush 255, 3) := by decide +kernel
theorem dX12_wordAt_23 : decode cX12_wordAt 23 = .ok (.iand, 1) := by decide +kernel
theorem dX12_wordAt_24 : decode cX12_wordAt 24 = .ok (.ireturn, 1) := by decide +kernel
theorem dX12_lengthOf_0 : decode cX12_lengthOf 0 = .ok (.iconst 0, 1) := by decide +kernel
theorem dX12_lengthOf_1 : decode cX12_lengthOf 1 = .ok (.istore_n 2, 1) := by decide +kernel
theorem dX12_lengthOf_2 : decode cX12_lengthOf 2 = .ok (.iload_n 2, 1) := by decide +kernel
theorem dX12_lengthOf_3 : decode cX12_lengthOf 3 = .ok (.bipush 8, 2) := by decide +kernel
theorem dX12_lengthOf_5 : decode cX12_lengthOf 5 = .ok (.if_icmp .ge 17, 3) := by decide +kernel
theorem dX12_lengthOf_8 : decode cX12_lengthOf 8 = .ok (.lload_n 0, 1) := by decide +kernel
theorem dX12_lengthOf_9 : decode cX12_lengthOf 9 = .ok (.iload_n 2, 1) := by decide +kernel
theorem dX12_lengthOf_10 : decode cX12_lengthOf 10 = .ok (.invokestatic 73, 3) := by decide +kernel
theorem dX12_lengthOf_13 : decode cX12_lengthOf 13 = .ok (.ifCond .eq 9, 3) := by decide +kernel
theorem dX12_lengthOf_16 : decode cX12_lengthOf 16 = .ok (.iinc 2 1, 3) := by decide +kernel
theorem dX12_lengthOf_19 : decode cX12_lengthOf 19 = .ok (.goto (-17), 3) := by decide +kernel
theorem dX12_lengthOf_22 : decode cX12_lengthOf 22 = .ok (.iload_n 2, 1) := by decide +kernel
theorem dX12_lengthOf_23 : decode cX12_lengthOf 23 = .ok (.ireturn, 1) := by decide +kernel
theorem dX12_plain_0 : decode cX12_plain 0 = .ok (.lconst 0, 1) := by decide +kernel
theorem dX12_plain_1 : decode cX12_plain 1 = .ok (.lstore_n 2, 1) := by decide +kernel
theorem dX12_plain_2 : decode cX12_plain 2 = .ok (.lload_n 0, 1) := by decide +kernel
theorem dX12_plain_3 : decode cX12_plain 3 = .ok (.invokestatic 77, 3) := by decide +kernel
theorem dX12_plain_6 : decode cX12_plain 6 = .ok (.istore 4, 2) := by decide +kernel
theorem dX12_plain_8 : decode cX12_plain 8 = .ok (.iconst 0, 1) := by decide +kernel
theorem dX12_plain_9 : decode cX12_plain 9 = .ok (.istore 5, 2) := by decide +kernel
theorem dX12_plain_11 : decode cX12_plain 11 = .ok (.iload 5, 2) := by decide +kernel
theorem dX12_plain_13 : decode cX12_plain 13 = .ok (.iload 4, 2) := by decide +kernel
theorem dX12_plain_15 : decode cX12_plain 15 = .ok (.if_icmp .ge 28, 3) := by decide +kernel
theorem dX12_plain_18 : decode cX12_plain 18 = .ok (.lload_n 2, 1) := by decide +kernel
theorem dX12_plain_19 : decode cX12_plain 19 = .ok (.lload_n 0, 1) := by decide +kernel
theorem dX12_plain_20 : decode cX12_plain 20 = .ok (.iload 5, 2) := by decide +kernel
theorem dX12_plain_22 : decode cX12_plain 22 = .ok (.invokestatic 73, 3) := by decide +kernel
theorem dX12_plain_25 : decode cX12_plain 25 = .ok (.i2l, 1) := by decide +kernel
theorem dX12_plain_26 : decode cX12_plain 26 = .ok (.bipush 56, 2) := by decide +kernel
theorem dX12_plain_28 : decode cX12_plain 28 = .ok (.bipush 8, 2) := by decide +kernel
theorem dX12_plain_30 : decode cX12_plain 30 = .ok (.iload 5, 2) := by decide +kernel
theorem dX12_plain_32 : decode cX12_plain 32 = .ok (.imul, 1) := by decide +kernel
theorem dX12_plain_33 : decode cX12_plain 33 = .ok (.isub, 1) := by decide +kernel
theorem dX12_plain_34 : decode cX12_plain 34 = .ok (.lshl, 1) := by decide +kernel
theorem dX12_plain_35 : decode cX12_plain 35 = .ok (.lor, 1) := by decide +kernel
theorem dX12_plain_36 : decode cX12_plain 36 = .ok (.lstore_n 2, 1) := by decide +kernel
theorem dX12_plain_37 : decode cX12_plain 37 = .ok (.iinc 5 1, 3) := by decide +kernel
theorem dX12_plain_40 : decode cX12_plain 40 = .ok (.goto (-29), 3) := by decide +kernel
theorem dX12_plain_43 : decode cX12_plain 43 = .ok (.lload_n 2, 1) := by decide +kernel
theorem dX12_plain_44 : decode cX12_plain 44 = .ok (.lreturn, 1) := by decide +kernel
theorem dX12_likeOf_0 : decode cX12_likeOf 0 = .ok (.lload_n 1, 1) := by decide +kernel
theorem dX12_likeOf_1 : decode cX12_likeOf 1 = .ok (.invokestatic 77, 3) := by decide +kernel
theorem dX12_likeOf_4 : decode cX12_likeOf 4 = .ok (.istore 5, 2) := by decide +kernel
theorem dX12_likeOf_6 : decode cX12_likeOf 6 = .ok (.lload_n 3, 1) := by decide +kernel
theorem dX12_likeOf_7 : decode cX12_likeOf 7 = .ok (.invokestatic 77, 3) := by decide +kernel
theorem dX12_likeOf_10 : decode cX12_likeOf 10 = .ok (.istore 6, 2) := by decide +kernel
theorem dX12_likeOf_12 : decode cX12_likeOf 12 = .ok (.iload 5, 2) := by decide +kernel
theorem dX12_likeOf_14 : decode cX12_likeOf 14 = .ok (.ifCond .eq 8, 3) := by decide +kernel
theorem dX12_likeOf_17 : decode cX12_likeOf 17 = .ok (.iload 6, 2) := by decide +kernel
theorem dX12_likeOf_19 : decode cX12_likeOf 19 = .ok (.ifCond .ne 5, 3) := by decide +kernel
theorem dX12_likeOf_22 : decode cX12_likeOf 22 = .ok (.iconst 0, 1) := by decide +kernel
theorem dX12_likeOf_23 : decode cX12_likeOf 23 = .ok (.ireturn, 1) := by decide +kernel
theorem dX12_likeOf_24 : decode cX12_likeOf 24 = .ok (.iconst 0, 1) := by decide +kernel
theorem dX12_likeOf_25 : decode cX12_likeOf 25 = .ok (.istore 7, 2) := by decide +kernel
theorem dX12_likeOf_27 : decode cX12_likeOf 27 = .ok (.iload 7, 2) := by decide +kernel
theorem dX12_likeOf_29 : decode cX12_likeOf 29 = .ok (.iload 5, 2) := by decide +kernel
theorem dX12_likeOf_31 : decode cX12_likeOf 31 = .ok (.if_icmp .gt 189, 3) := by decide +kernel
theorem dX12_likeOf_34 : decode cX12_likeOf 34 = .ok (.iconst 0, 1) := by decide +kernel
theorem dX12_likeOf_35 : decode cX12_likeOf 35 = .ok (.istore 8, 2) := by decide +kernel
theorem dX12_likeOf_37 : decode cX12_likeOf 37 = .ok (.iload 8, 2) := by decide +kernel
theorem dX12_likeOf_39 : decode cX12_likeOf 39 = .ok (.iload 6, 2) := by decide +kernel
theorem dX12_likeOf_41 : decode cX12_likeOf 41 = .ok (.if_icmp .gt 173, 3) := by decide +kernel
theorem dX12_likeOf_44 : decode cX12_likeOf 44 = .ok (.iconst 0, 1) := by decide +kernel
theorem dX12_likeOf_45 : decode cX12_likeOf 45 = .ok (.istore 9, 2) := by decide +kernel
theorem dX12_likeOf_47 : decode cX12_likeOf 47 = .ok (.iload 7, 2) := by decide +kernel
theorem dX12_likeOf_49 : decode cX12_likeOf 49 = .ok (.ifCond .le 144, 3) := by decide +kernel
theorem dX12_likeOf_52 : decode cX12_likeOf 52 = .ok (.iload 8, 2) := by decide +kernel
theorem dX12_likeOf_54 : decode cX12_likeOf 54 = .ok (.ifCond .le 139, 3) := by decide +kernel
theorem dX12_likeOf_57 : decode cX12_likeOf 57 = .ok (.aload_n 0, 1) := by decide +kernel
theorem dX12_likeOf_58 : decode cX12_likeOf 58 = .ok (.getfield 28, 3) := by decide +kernel
theorem dX12_likeOf_61 : decode cX12_likeOf 61 = .ok (.bipush 9, 2) := by decide +kernel
theorem dX12_likeOf_63 : decode cX12_likeOf 63 = .ok (.iload 7, 2) := by decide +kernel
theorem dX12_likeOf_65 : decode cX12_likeOf 65 = .ok (.imul, 1) := by decide +kernel
theorem dX12_likeOf_66 : decode cX12_likeOf 66 = .ok (.bipush 9, 2) := by decide +kernel
theorem dX12_likeOf_68 : decode cX12_likeOf 68 = .ok (.isub, 1) := by decide +kernel
theorem dX12_likeOf_69 : decode cX12_likeOf 69 = .ok (.iload 8, 2) := by decide +kernel
theorem dX12_likeOf_71 : decode cX12_likeOf 71 = .ok (.iadd, 1) := by decide +kernel
theorem dX12_likeOf_72 : decode cX12_likeOf 72 = .ok (.iaload, 1) := by decide +kernel
theorem dX12_likeOf_73 : decode cX12_likeOf 73 = .ok (.aload_n 0, 1) := by decide +kernel
theorem dX12_likeOf_74 : decode cX12_likeOf 74 = .ok (.getfield 28, 3) := by decide +kernel
theorem dX12_likeOf_77 : decode cX12_likeOf 77 = .ok (.bipush 9, 2) := by decide +kernel
theorem dX12_likeOf_79 : decode cX12_likeOf 79 = .ok (.iload 7, 2) := by decide +kernel
theorem dX12_likeOf_81 : decode cX12_likeOf 81 = .ok (.imul, 1) := by decide +kernel
theorem dX12_likeOf_82 : decode cX12_likeOf 82 = .ok (.iload 8, 2) := by decide +kernel
theorem dX12_likeOf_84 : decode cX12_likeOf 84 = .ok (.iadd, 1) := by decide +kernel
theorem dX12_likeOf_85 : decode cX12_likeOf 85 = .ok (.iconst 1, 1) := by decide +kernel
theorem dX12_likeOf_86 : decode cX12_likeOf 86 = .ok (.isub, 1) := by decide +kernel
theorem dX12_likeOf_87 : decode cX12_likeOf 87 = .ok (.iaload, 1) := by decide +kernel
theorem dX12_likeOf_88 : decode cX12_likeOf 88 = .ok (.if_icmp .le 22, 3) := by decide +kernel
theorem dX12_likeOf_91 : decode cX12_likeOf 91 = .ok (.aload_n 0, 1) := by decide +kernel
theorem dX12_likeOf_92 : decode cX12_likeOf 92 = .ok (.getfield 28, 3) := by decide +kernel
theorem dX12_likeOf_95 : decode cX12_likeOf 95 = .ok (.bipush 9, 2) := by decide +kernel
theorem dX12_likeOf_97 : decode cX12_likeOf 97 = .ok (.iload 7, 2) := by decide +kernel
theorem dX12_likeOf_99 : decode cX12_likeOf 99 = .ok (.imul, 1) := by decide +kernel
theorem dX12_likeOf_100 : decode cX12_likeOf 100 = .ok (.bipush 9, 2) := by decide +kernel
theorem dX12_likeOf_102 : decode cX12_likeOf 102 = .ok (.isub, 1) := by decide +kernel
theorem dX12_likeOf_103 : decode cX12_likeOf 103 = .ok (.iload 8, 2) := by decide +kernel
theorem dX12_likeOf_105 : decode cX12_likeOf 105 = .ok (.iadd, 1) := by decide +kernel
theorem dX12_likeOf_106 : decode cX12_likeOf 106 = .ok (.iaload, 1) := by decide +kernel
theorem dX12_likeOf_107 : decode cX12_likeOf 107 = .ok (.goto 18, 3) := by decide +kernel
theorem dX12_likeOf_110 : decode cX12_likeOf 110 = .ok (.aload_n 0, 1) := by decide +kernel
theorem dX12_likeOf_111 : decode cX12_likeOf 111 = .ok (.getfield 28, 3) := by decide +kernel
theorem dX12_likeOf_114 : decode cX12_likeOf 114 = .ok (.bipush 9, 2) := by decide +kernel
theorem dX12_likeOf_116 : decode cX12_likeOf 116 = .ok (.iload 7, 2) := by decide +kernel
theorem dX12_likeOf_118 : decode cX12_likeOf 118 = .ok (.imul, 1) := by decide +kernel
theorem dX12_likeOf_119 : decode cX12_likeOf 119 = .ok (.iload 8, 2) := by decide +kernel
theorem dX12_likeOf_121 : decode cX12_likeOf 121 = .ok (.iadd, 1) := by decide +kernel
theorem dX12_likeOf_122 : decode cX12_likeOf 122 = .ok (.iconst 1, 1) := by decide +kernel
theorem dX12_likeOf_123 : decode cX12_likeOf 123 = .ok (.isub, 1) := by decide +kernel
theorem dX12_likeOf_124 : decode cX12_likeOf 124 = .ok (.iaload, 1) := by decide +kernel
theorem dX12_likeOf_125 : decode cX12_likeOf 125 = .ok (.istore 9, 2) := by decide +kernel
theorem dX12_likeOf_127 : decode cX12_likeOf 127 = .ok (.lload_n 1, 1) := by decide +kernel
theorem dX12_likeOf_128 : decode cX12_likeOf 128 = .ok (.iload 7, 2) := by decide +kernel
theorem dX12_likeOf_130 : decode cX12_likeOf 130 = .ok (.iconst 1, 1) := by decide +kernel
theorem dX12_likeOf_131 : decode cX12_likeOf 131 = .ok (.isub, 1) := by decide +kernel
theorem dX12_likeOf_132 : decode cX12_likeOf 132 = .ok (.invokestatic 73, 3) := by decide +kernel
theorem dX12_likeOf_135 : decode cX12_likeOf 135 = .ok (.lload_n 3, 1) := by decide +kernel
theorem dX12_likeOf_136 : decode cX12_likeOf 136 = .ok (.iload 8, 2) := by decide +kernel
theorem dX12_likeOf_138 : decode cX12_likeOf 138 = .ok (.iconst 1, 1) := by decide +kernel
theorem dX12_likeOf_139 : decode cX12_likeOf 139 = .ok (.isub, 1) := by decide +kernel
theorem dX12_likeOf_140 : decode cX12_likeOf 140 = .ok (.invokestatic 73, 3) := by decide +kernel
theorem dX12_likeOf_143 : decode cX12_likeOf 143 = .ok (.if_icmp .ne 50, 3) := by decide +kernel
theorem dX12_likeOf_146 : decode cX12_likeOf 146 = .ok (.aload_n 0, 1) := by decide +kernel
theorem dX12_likeOf_147 : decode cX12_likeOf 147 = .ok (.getfield 28, 3) := by decide +kernel
theorem dX12_likeOf_150 : decode cX12_likeOf 150 = .ok (.bipush 9, 2) := by decide +kernel
theorem dX12_likeOf_152 : decode cX12_likeOf 152 = .ok (.iload 7, 2) := by decide +kernel
theorem dX12_likeOf_154 : decode cX12_likeOf 154 = .ok (.imul, 1) := by decide +kernel
theorem dX12_likeOf_155 : decode cX12_likeOf 155 = .ok (.bipush 9, 2) := by decide +kernel
theorem dX12_likeOf_157 : decode cX12_likeOf 157 = .ok (.isub, 1) := by decide +kernel
theorem dX12_likeOf_158 : decode cX12_likeOf 158 = .ok (.iload 8, 2) := by decide +kernel
theorem dX12_likeOf_160 : decode cX12_likeOf 160 = .ok (.iadd, 1) := by decide +kernel
theorem dX12_likeOf_161 : decode cX12_likeOf 161 = .ok (.iconst 1, 1) := by decide +kernel
theorem dX12_likeOf_162 : decode cX12_likeOf 162 = .ok (.isub, 1) := by decide +kernel
theorem dX12_likeOf_163 : decode cX12_likeOf 163 = .ok (.iaload, 1) := by decide +kernel
theorem dX12_likeOf_164 : decode cX12_likeOf 164 = .ok (.iconst 1, 1) := by decide +kernel
theorem dX12_likeOf_165 : decode cX12_likeOf 165 = .ok (.iadd, 1) := by decide +kernel
theorem dX12_likeOf_166 : decode cX12_likeOf 166 = .ok (.iload 9, 2) := by decide +kernel
theorem dX12_likeOf_168 : decode cX12_likeOf 168 = .ok (.if_icmp .le 25, 3) := by decide +kernel
theorem dX12_likeOf_171 : decode cX12_likeOf 171 = .ok (.aload_n 0, 1) := by decide +kernel
theorem dX12_likeOf_172 : decode cX12_likeOf 172 = .ok (.getfield 28, 3) := by decide +kernel
theorem dX12_likeOf_175 : decode cX12_likeOf 175 = .ok (.bipush 9, 2) := by decide +kernel
theorem dX12_likeOf_177 : decode cX12_likeOf 177 = .ok (.iload 7, 2) := by decide +kernel
theorem dX12_likeOf_179 : decode cX12_likeOf 179 = .ok (.imul, 1) := by decide +kernel
theorem dX12_likeOf_180 : decode cX12_likeOf 180 = .ok (.bipush 9, 2) := by decide +kernel
theorem dX12_likeOf_182 : decode cX12_likeOf 182 = .ok (.isub, 1) := by decide +kernel
theorem dX12_likeOf_183 : decode cX12_likeOf 183 = .ok (.iload 8, 2) := by decide +kernel
theorem dX12_likeOf_185 : decode cX12_likeOf 185 = .ok (.iadd, 1) := by decide +kernel
theorem dX12_likeOf_186 : decode cX12_likeOf 186 = .ok (.iconst 1, 1) := by decide +kernel
theorem dX12_likeOf_187 : decode cX12_likeOf 187 = .ok (.isub, 1) := by decide +kernel
theorem dX12_likeOf_188 : decode cX12_likeOf 188 = .ok (.iaload, 1) := by decide +kernel
theorem dX12_likeOf_189 : decode cX12_likeOf 189 = .ok (.iconst 1, 1) := by decide +kernel
theorem dX12_likeOf_190 : decode cX12_likeOf 190 = .ok (.iadd, 1) := by decide +kernel
theorem dX12_likeOf_191 : decode cX12_likeOf 191 = .ok (.istore 9, 2) := by decide +kernel
theorem dX12_likeOf_193 : decode cX12_likeOf 193 = .ok (.aload_n 0, 1) := by decide +kernel
theorem dX12_likeOf_194 : decode cX12_likeOf 194 = .ok (.getfield 28, 3) := by decide +kernel
theorem dX12_likeOf_197 : decode cX12_likeOf 197 = .ok (.bipush 9, 2) := by decide +kernel
theorem dX12_likeOf_199 : decode cX12_likeOf 199 = .ok (.iload 7, 2) := by decide +kernel
theorem dX12_likeOf_201 : decode cX12_likeOf 201 = .ok (.imul, 1) := by decide +kernel
theorem dX12_likeOf_202 : decode cX12_likeOf 202 = .ok (.iload 8, 2) := by decide +kernel
theorem dX12_likeOf_204 : decode cX12_likeOf 204 = .ok (.iadd, 1) := by decide +kernel
theorem dX12_likeOf_205 : decode cX12_likeOf 205 = .ok (.iload 9, 2) := by decide +kernel
theorem dX12_likeOf_207 : decode cX12_likeOf 207 = .ok (.iastore, 1) := by decide +kernel
theorem dX12_likeOf_208 : decode cX12_likeOf 208 = .ok (.iinc 8 1, 3) := by decide +kernel
theorem dX12_likeOf_211 : decode cX12_likeOf 211 = .ok (.goto (-174), 3) := by decide +kernel
theorem dX12_likeOf_214 : decode cX12_likeOf 214 = .ok (.iinc 7 1, 3) := by decide +kernel
theorem dX12_likeOf_217 : decode cX12_likeOf 217 = .ok (.goto (-190), 3) := by decide +kernel
theorem dX12_likeOf_220 : decode cX12_likeOf 220 = .ok (.bipush 100, 2) := by decide +kernel
theorem dX12_likeOf_222 : decode cX12_likeOf 222 = .ok (.aload_n 0, 1) := by decide +kernel
theorem dX12_likeOf_223 : decode cX12_likeOf 223 = .ok (.getfield 28, 3) := by decide +kernel
theorem dX12_likeOf_226 : decode cX12_likeOf 226 = .ok (.bipush 9, 2) := by decide +kernel
theorem dX12_likeOf_228 : decode cX12_likeOf 228 = .ok (.iload 5, 2) := by decide +kernel
theorem dX12_likeOf_230 : decode cX12_likeOf 230 = .ok (.imul, 1) := by decide +kernel
theorem dX12_likeOf_231 : decode cX12_likeOf 231 = .ok (.iload 6, 2) := by decide +kernel
theorem dX12_likeOf_233 : decode cX12_likeOf 233 = .ok (.iadd, 1) := by decide +kernel
theorem dX12_likeOf_234 : decode cX12_likeOf 234 = .ok (.iaload, 1) := by decide +kernel
theorem dX12_likeOf_235 : decode cX12_likeOf 235 = .ok (.imul, 1) := by decide +kernel
theorem dX12_likeOf_236 : decode cX12_likeOf 236 = .ok (.iload 5, 2) := by decide +kernel
theorem dX12_likeOf_238 : decode cX12_likeOf 238 = .ok (.iload 6, 2) := by decide +kernel
theorem dX12_likeOf_240 : decode cX12_likeOf 240 = .ok (.if_icmp .le 8, 3) := by decide +kernel
theorem dX12_likeOf_243 : decode cX12_likeOf 243 = .ok (.iload 5, 2) := by decide +kernel
theorem dX12_likeOf_245 : decode cX12_likeOf 245 = .ok (.goto 5, 3) := by decide +kernel
theorem dX12_likeOf_248 : decode cX12_likeOf 248 = .ok (.iload 6, 2) := by decide +kernel
theorem dX12_likeOf_250 : decode cX12_likeOf 250 = .ok (.idiv, 1) := by decide +kernel
theorem dX12_likeOf_251 : decode cX12_likeOf 251 = .ok (.ireturn, 1) := by decide +kernel
theorem dX12_open_0 : decode cX12_open 0 = .ok (.aload_n 0, 1) := by decide +kernel
theorem dX12_open_1 : decode cX12_open 1 = .ok (.iconst 0, 1) := by decide +kernel
theorem dX12_open_2 : decode cX12_open 2 = .ok (.putfield 1, 3) := by decide +kernel
theorem dX12_open_5 : decode cX12_open 5 = .ok (.iload_n 1, 1) := by decide +kernel
theorem dX12_open_6 : decode cX12_open 6 = .ok (.i2l, 1) := by decide +kernel
theorem dX12_open_7 : decode cX12_open 7 = .ok (.lconst 0, 1) := by decide +kernel
theorem dX12_open_8 : decode cX12_open 8 = .ok (.lconst 1, 1) := by decide +kernel
theorem dX12_open_9 : decode cX12_open 9 = .ok (.invokestatic 81, 3) := by decide +kernel
theorem dX12_open_12 : decode cX12_open 12 = .ok (.ifCond .ne 10, 3) := by decide +kernel
theorem dX12_open_15 : decode cX12_open 15 = .ok (.aload_n 0, 1) := by decide +kernel
theorem dX12_open_16 : decode cX12_open 16 = .ok (.bipush (-2), 2) := by decide +kernel
theorem dX12_open_18 : decode cX12_open 18 = .ok (.invokevirtual 85, 3) := by decide +kernel
theorem dX12_open_21 : decode cX12_open 21 = .ok (.ireturn, 1) := by decide +kernel
theorem dX12_open_22 : decode cX12_open 22 = .ok (.iload_n 1, 1) := by decide +kernel
theorem dX12_open_23 : decode cX12_open 23 = .ok (.ifCond .ne 43, 3) := by decide +kernel
theorem dX12_open_26 : decode cX12_open 26 = .ok (.iload_n 2, 1) := by decide +kernel
theorem dX12_open_27 : decode cX12_open 27 = .ok (.i2l, 1) := by decide +kernel
theorem dX12_open_28 : decode cX12_open 28 = .ok (.lconst 0, 1) := by decide +kernel
theorem dX12_open_29 : decode cX12_open 29 = .ok (.ldc2_w 89, 3) := by decide +kernel
theorem dX12_open_32 : decode cX12_open 32 = .ok (.invokestatic 81, 3) := by decide +kernel
theorem dX12_open_35 : decode cX12_open 35 = .ok (.ifCond .eq 43, 3) := by decide +kernel
theorem dX12_open_38 : decode cX12_open 38 = .ok (.iload_n 3, 1) := by decide +kernel
theorem dX12_open_39 : decode cX12_open 39 = .ok (.i2l, 1) := by decide +kernel
theorem dX12_open_40 : decode cX12_open 40 = .ok (.lconst 0, 1) := by decide +kernel
theorem dX12_open_41 : decode cX12_open 41 = .ok (.ldc2_w 91, 3) := by decide +kernel
theorem dX12_open_44 : decode cX12_open 44 = .ok (.invokestatic 81, 3) := by decide +kernel
theorem dX12_open_47 : decode cX12_open 47 = .ok (.ifCond .eq 31, 3) := by decide +kernel
theorem dX12_open_50 : decode cX12_open 50 = .ok (.iload 4, 2) := by decide +kernel
theorem dX12_open_52 : decode cX12_open 52 = .ok (.i2l, 1) := by decide +kernel
theorem dX12_open_53 : decode cX12_open 53 = .ok (.lconst 0, 1) := by decide +kernel
theorem dX12_open_54 : decode cX12_open 54 = .ok (.ldc2_w 93, 3) := by decide +kernel
theorem dX12_open_57 : decode cX12_open 57 = .ok (.invokestatic 81, 3) := by decide +kernel
theorem dX12_open_60 : decode cX12_open 60 = .ok (.ifCond .ne 25, 3) := by decide +kernel
theorem dX12_open_63 : decode cX12_open 63 = .ok (.goto 15, 3) := by decide +kernel
theorem dX12_open_66 : decode cX12_open 66 = .ok (.iload_n 2, 1) := by decide +kernel
theorem dX12_open_67 : decode cX12_open 67 = .ok (.i2l, 1) := by decide +kernel
theorem dX12_open_68 : decode cX12_open 68 = .ok (.lconst 0, 1) := by decide +kernel
theorem dX12_open_69 : decode cX12_open 69 = .ok (.ldc2_w 95, 3) := by decide +kernel
theorem dX12_open_72 : decode cX12_open 72 = .ok (.invokestatic 81, 3) := by decide +kernel
theorem dX12_open_75 : decode cX12_open 75 = .ok (.ifCond .ne 10, 3) := by decide +kernel
theorem dX12_open_78 : decode cX12_open 78 = .ok (.aload_n 0, 1) := by decide +kernel
theorem dX12_open_79 : decode cX12_open 79 = .ok (.bipush (-3), 2) := by decide +kernel
theorem dX12_open_81 : decode cX12_open 81 = .ok (.invokevirtual 85, 3) := by decide +kernel
theorem dX12_open_84 : decode cX12_open 84 = .ok (.ireturn, 1) := by decide +kernel
theorem dX12_open_85 : decode cX12_open 85 = .ok (.iload_n 1, 1) := by decide +kernel
theorem dX12_open_86 : decode cX12_open 86 = .ok (.ifCond .ne 17, 3) := by decide +kernel
theorem dX12_open_89 : decode cX12_open 89 = .ok (.aload_n 0, 1) := by decide +kernel
theorem dX12_open_90 : decode cX12_open 90 = .ok (.getfield 17, 3) := by decide +kernel
theorem dX12_open_93 : decode cX12_open 93 = .ok (.iconst 0, 1) := by decide +kernel
theorem dX12_open_94 : decode cX12_open 94 = .ok (.iaload, 1) := by decide +kernel
theorem dX12_open_95 : decode cX12_open 95 = .ok (.bipush 40, 2) := by decide +kernel
theorem dX12_open_97 : decode cX12_open 97 = .ok (.if_icmp .ne 26, 3) := by decide +kernel
theorem dX12_open_100 : decode cX12_open 100 = .ok (.goto 16, 3) := by decide +kernel
theorem dX12_open_103 : decode cX12_open 103 = .ok (.aload_n 0, 1) := by decide +kernel
theorem dX12_open_104 : decode cX12_open 104 = .ok (.getfield 17, 3) := by decide +kernel
theorem dX12_open_107 : decode cX12_open 107 = .ok (.sipush 223, 3) := by decide +kernel
theorem dX12_open_110 : decode cX12_open 110 = .ok (.iaload, 1) := by decide +kernel
theorem dX12_open_111 : decode cX12_open 111 = .ok (.bipush 12, 2) := by decide +kernel
theorem dX12_open_113 : decode cX12_open 113 = .ok (.if_icmp .ne 10, 3) := by decide +kernel
theorem dX12_open_116 : decode cX12_open 116 = .ok (.aload_n 0, 1) := by decide +kernel
theorem dX12_open_117 : decode cX12_open 117 = .ok (.bipush (-4), 2) := by decide +kernel
theorem dX12_open_119 : decode cX12_open 119 = .ok (.invokevirtual 85, 3) := by decide +kernel
theorem dX12_open_122 : decode cX12_open 122 = .ok (.ireturn, 1) := by decide +kernel
theorem dX12_open_123 : decode cX12_open 123 = .ok (.iload_n 1, 1) := by decide +kernel
theorem dX12_open_124 : decode cX12_open 124 = .ok (.iconst 1, 1) := by decide +kernel
theorem dX12_open_125 : decode cX12_open 125 = .ok (.if_icmp .ne 62, 3) := by decide +kernel
theorem dX12_open_128 : decode cX12_open 128 = .ok (.aload_n 0, 1) := by decide +kernel
theorem dX12_open_129 : decode cX12_open 129 = .ok (.getfield 17, 3) := by decide +kernel
theorem dX12_open_132 : decode cX12_open 132 = .ok (.sipush 224, 3) := by decide +kernel
theorem dX12_open_135 : decode cX12_open 135 = .ok (.aload_n 0, 1) := by decide +kernel
theorem dX12_open_136 : decode cX12_open 136 = .ok (.getfield 17, 3) := by decide +kernel
theorem dX12_open_139 : decode cX12_open 139 = .ok (.sipush 223, 3) := by decide +kernel
theorem dX12_open_142 : decode cX12_open 142 = .ok (.iaload, 1) := by decide +kernel
theorem dX12_open_143 : decode cX12_open 143 = .ok (.iadd, 1) := by decide +kernel
theorem dX12_open_144 : decode cX12_open 144 = .ok (.iload_n 2, 1) := by decide +kernel
theorem dX12_open_145 : decode cX12_open 145 = .ok (.iastore, 1) := by decide +kernel
theorem dX12_open_146 : decode cX12_open 146 = .ok (.aload_n 0, 1) := by decide +kernel
theorem dX12_open_147 : decode cX12_open 147 = .ok (.getfield 17, 3) := by decide +kernel
theorem dX12_open_150 : decode cX12_open 150 = .ok (.sipush 236, 3) := by decide +kernel
theorem dX12_open_153 : decode cX12_open 153 = .ok (.aload_n 0, 1) := by decide +kernel
theorem dX12_open_154 : decode cX12_open 154 = .ok (.getfield 17, 3) := by decide +kernel
theorem dX12_open_157 : decode cX12_open 157 = .ok (.sipush 223, 3) := by decide +kernel
theorem dX12_open_160 : decode cX12_open 160 = .ok (.iaload, 1) := by decide +kernel
theorem dX12_open_161 : decode cX12_open 161 = .ok (.iadd, 1) := by decide +kernel
theorem dX12_open_162 : decode cX12_open 162 = .ok (.iconst 0, 1) := by decide +kernel
theorem dX12_open_163 : decode cX12_open 163 = .ok (.iastore, 1) := by decide +kernel
theorem dX12_open_164 : decode cX12_open 164 = .ok (.aload_n 0, 1) := by decide +kernel
theorem dX12_open_165 : decode cX12_open 165 = .ok (.getfield 17, 3) := by decide +kernel
theorem dX12_open_168 : decode cX12_open 168 = .ok (.sipush 223, 3) := by decide +kernel
theorem dX12_open_171 : decode cX12_open 171 = .ok (.dup2, 1) := by decide +kernel
theorem dX12_open_172 : decode cX12_open 172 = .ok (.iaload, 1) := by decide +kernel
theorem dX12_open_173 : decode cX12_open 173 = .ok (.iconst 1, 1) := by decide +kernel
theorem dX12_open_174 : decode cX12_open 174 = .ok (.iadd, 1) := by decide +kernel
theorem dX12_open_175 : decode cX12_open 175 = .ok (.iastore, 1) := by decide +kernel
theorem dX12_open_176 : decode cX12_open 176 = .ok (.aload_n 0, 1) := by decide +kernel
theorem dX12_open_177 : decode cX12_open 177 = .ok (.getfield 17, 3) := by decide +kernel
theorem dX12_open_180 : decode cX12_open 180 = .ok (.sipush 223, 3) := by decide +kernel
theorem dX12_open_183 : decode cX12_open 183 = .ok (.iaload, 1) := by decide +kernel
theorem dX12_open_184 : decode cX12_open 184 = .ok (.iconst 1, 1) := by decide +kernel
theorem dX12_open_185 : decode cX12_open 185 = .ok (.isub, 1) := by decide +kernel
theorem dX12_open_186 : decode cX12_open 186 = .ok (.ireturn, 1) := by decide +kernel
theorem dX12_open_187 : decode cX12_open 187 = .ok (.aload_n 0, 1) := by decide +kernel
theorem dX12_open_188 : decode cX12_open 188 = .ok (.iload_n 2, 1) := by decide +kernel
theorem dX12_open_189 : decode cX12_open 189 = .ok (.iload_n 3, 1) := by decide +kernel
theorem dX12_open_190 : decode cX12_open 190 = .ok (.iload 4, 2) := by decide +kernel
theorem dX12_open_192 : decode cX12_open 192 = .ok (.invokevirtual 97, 3) := by decide +kernel
theorem dX12_open_195 : decode cX12_open 195 = .ok (.ireturn, 1) := by decide +kernel
theorem dX12_opens_0 : decode cX12_opens 0 = .ok (.aload_n 0, 1) := by decide +kernel
theorem dX12_opens_1 : decode cX12_opens 1 = .ok (.getfield 17, 3) := by decide +kernel
theorem dX12_opens_4 : decode cX12_opens 4 = .ok (.iconst 0, 1) := by decide +kernel
theorem dX12_opens_5 : decode cX12_opens 5 = .ok (.iaload, 1) := by decide +kernel
theorem dX12_opens_6 : decode cX12_opens 6 = .ok (.istore 4, 2) := by decide +kernel
theorem dX12_opens_8 : decode cX12_opens 8 = .ok (.aload_n 0, 1) := by decide +kernel
theorem dX12_opens_9 : decode cX12_opens 9 = .ok (.getfield 17, 3) := by decide +kernel
theorem dX12_opens_12 : decode cX12_opens 12 = .ok (.iconst 1, 1) := by decide +kernel
theorem dX12_opens_13 : decode cX12_opens 13 = .ok (.iload 4, 2) := by decide +kernel
theorem dX12_opens_15 : decode cX12_opens 15 = .ok (.iadd, 1) := by decide +kernel
theorem dX12_opens_16 : decode cX12_opens 16 = .ok (.iload_n 1, 1) := by decide +kernel
theorem dX12_opens_17 : decode cX12_opens 17 = .ok (.iastore, 1) := by decide +kernel
theorem dX12_opens_18 : decode cX12_opens 18 = .ok (.aload_n 0, 1) := by decide +kernel
theorem dX12_opens_19 : decode cX12_opens 19 = .ok (.getfield 17, 3) := by decide +kernel
theorem dX12_opens_22 : decode cX12_opens 22 = .ok (.bipush 41, 2) := by decide +kernel
theorem dX12_opens_24 : decode cX12_opens 24 = .ok (.iload 4, 2) := by decide +kernel
theorem dX12_opens_26 : decode cX12_opens 26 = .ok (.iadd, 1) := by decide +kernel
theorem dX12_opens_27 : decode cX12_opens 27 = .ok (.iload_n 2, 1) := by decide +kernel
theorem dX12_opens_28 : decode cX12_opens 28 = .ok (.iastore, 1) := by decide +kernel
theorem dX12_opens_29 : decode cX12_opens 29 = .ok (.aload_n 0, 1) := by decide +kernel
theorem dX12_opens_30 : decode cX12_opens 30 = .ok (.getfield 17, 3) := by decide +kernel
theorem dX12_opens_33 : decode cX12_opens 33 = .ok (.bipush 81, 2) := by decide +kernel
theorem dX12_opens_35 : decode cX12_opens 35 = .ok (.iload 4, 2) := by decide +kernel
theorem dX12_opens_37 : decode cX12_opens 37 = .ok (.iadd, 1) := by decide +kernel
theorem dX12_opens_38 : decode cX12_opens 38 = .ok (.iload_n 3, 1) := by decide +kernel
theorem dX12_opens_39 : decode cX12_opens 39 = .ok (.iastore, 1) := by decide +kernel
theorem dX12_opens_40 : decode cX12_opens 40 = .ok (.aload_n 0, 1) := by decide +kernel
theorem dX12_opens_41 : decode cX12_opens 41 = .ok (.getfield 17, 3) := by decide +kernel
theorem dX12_opens_44 : decode cX12_opens 44 = .ok (.bipush 121, 2) := by decide +kernel
theorem dX12_opens_46 : decode cX12_opens 46 = .ok (.iload 4, 2) := by decide +kernel
theorem dX12_opens_48 : decode cX12_opens 48 = .ok (.iadd, 1) := by decide +kernel
theorem dX12_opens_49 : decode cX12_opens 49 = .ok (.iconst 0, 1) := by decide +kernel
theorem dX12_opens_50 : decode cX12_opens 50 = .ok (.iastore, 1) := by decide +kernel
theorem dX12_opens_51 : decode cX12_opens 51 = .ok (.aload_n 0, 1) := by decide +kernel
theorem dX12_opens_52 : decode cX12_opens 52 = .ok (.getfield 17, 3) := by decide +kernel
theorem dX12_opens_55 : decode cX12_opens 55 = .ok (.iconst 0, 1) := by decide +kernel
theorem dX12_opens_56 : decode cX12_opens 56 = .ok (.dup2, 1) := by decide +kernel
theorem dX12_opens_57 : decode cX12_opens 57 = .ok (.iaload, 1) := by decide +kernel
theorem dX12_opens_58 : decode cX12_opens 58 = .ok (.iconst 1, 1) := by decide +kernel
theorem dX12_opens_59 : decode cX12_opens 59 = .ok (.iadd, 1) := by decide +kernel
theorem dX12_opens_60 : decode cX12_opens 60 = .ok (.iastore, 1) := by decide +kernel
theorem dX12_opens_61 : decode cX12_opens 61 = .ok (.iload 4, 2) := by decide +kernel
theorem dX12_opens_63 : decode cX12_opens 63 = .ok (.ireturn, 1) := by decide +kernel
theorem dX12_line_0 : decode cX12_line 0 = .ok (.aload_n 0, 1) := by decide +kernel
theorem dX12_line_1 : decode cX12_line 1 = .ok (.iconst 0, 1) := by decide +kernel
theorem dX12_line_2 : decode cX12_line 2 = .ok (.putfield 1, 3) := by decide +kernel
theorem dX12_line_5 : decode cX12_line 5 = .ok (.iload_n 1, 1) := by decide +kernel
theorem dX12_line_6 : decode cX12_line 6 = .ok (.ifCond .ne 24, 3) := by decide +kernel
theorem dX12_line_9 : decode cX12_line 9 = .ok (.iload_n 2, 1) := by decide +kernel
theorem dX12_line_10 : decode cX12_line 10 = .ok (.i2l, 1) := by decide +kernel
theorem dX12_line_11 : decode cX12_line 11 = .ok (.lconst 0, 1) := by decide +kernel
theorem dX12_line_12 : decode cX12_line 12 = .ok (.aload_n 0, 1) := by decide +kernel
theorem dX12_line_13 : decode cX12_line 13 = .ok (.getfield 17, 3) := by decide +kernel
theorem dX12_line_16 : decode cX12_line 16 = .ok (.iconst 0, 1) := by decide +kernel
theorem dX12_line_17 : decode cX12_line 17 = .ok (.iaload, 1) := by decide +kernel
theorem dX12_line_18 : decode cX12_line 18 = .ok (.iconst 1, 1) := by decide +kernel
theorem dX12_line_19 : decode cX12_line 19 = .ok (.isub, 1) := by decide +kernel
theorem dX12_line_20 : decode cX12_line 20 = .ok (.i2l, 1) := by decide +kernel
theorem dX12_line_21 : decode cX12_line 21 = .ok (.invokestatic 81, 3) := by decide +kernel
theorem dX12_line_24 : decode cX12_line 24 = .ok (.ifCond .ne 46, 3) := by decide +kernel
theorem dX12_line_27 : decode cX12_line 27 = .ok (.goto 36, 3) := by decide +kernel
theorem dX12_line_30 : decode cX12_line 30 = .ok (.iload_n 1, 1) := by decide +kernel
theorem dX12_line_31 : decode cX12_line 31 = .ok (.iconst 1, 1) := by decide +kernel
theorem dX12_line_32 : decode cX12_line 32 = .ok (.if_icmp .ne 26, 3) := by decide +kernel
theorem dX12_line_35 : decode cX12_line 35 = .ok (.iload_n 2, 1) := by decide +kernel
theorem dX12_line_36 : decode cX12_line 36 = .ok (.i2l, 1) := by decide +kernel
theorem dX12_line_37 : decode cX12_line 37 = .ok (.lconst 0, 1) := by decide +kernel
theorem dX12_line_38 : decode cX12_line 38 = .ok (.aload_n 0, 1) := by decide +kernel
theorem dX12_line_39 : decode cX12_line 39 = .ok (.getfield 17, 3) := by decide +kernel
theorem dX12_line_42 : decode cX12_line 42 = .ok (.sipush 223, 3) := by decide +kernel
theorem dX12_line_45 : decode cX12_line 45 = .ok (.iaload, 1) := by decide +kernel
theorem dX12_line_46 : decode cX12_line 46 = .ok (.iconst 1, 1) := by decide +kernel
theorem dX12_line_47 : decode cX12_line 47 = .ok (.isub, 1) := by decide +kernel
theorem dX12_line_48 : decode cX12_line 48 = .ok (.i2l, 1) := by decide +kernel
theorem dX12_line_49 : decode cX12_line 49 = .ok (.invokestatic 81, 3) := by decide +kernel
theorem dX12_line_52 : decode cX12_line 52 = .ok (.ifCond .ne 18, 3) := by decide +kernel
theorem dX12_line_55 : decode cX12_line 55 = .ok (.goto 8, 3) := by decide +kernel
theorem dX12_line_58 : decode cX12_line 58 = .ok (.iload_n 1, 1) := by decide +kernel
theorem dX12_line_59 : decode cX12_line 59 = .ok (.iconst 2, 1) := by decide +kernel
theorem dX12_line_60 : decode cX12_line 60 = .ok (.if_icmp .eq 10, 3) := by decide +kernel
theorem dX12_line_63 : decode cX12_line 63 = .ok (.aload_n 0, 1) := by decide +kernel
theorem dX12_line_64 : decode cX12_line 64 = .ok (.bipush (-2), 2) := by decide +kernel
theorem dX12_line_66 : decode cX12_line 66 = .ok (.invokevirtual 85, 3) := by decide +kernel
theorem dX12_line_69 : decode cX12_line 69 = .ok (.ireturn, 1) := by decide +kernel
theorem dX12_line_70 : decode cX12_line 70 = .ok (.lload 4, 2) := by decide +kernel
theorem dX12_line_72 : decode cX12_line 72 = .ok (.invokestatic 77, 3) := by decide +kernel
theorem dX12_line_75 : decode cX12_line 75 = .ok (.ifCond .eq 20, 3) := by decide +kernel
theorem dX12_line_78 : decode cX12_line 78 = .ok (.iload_n 1, 1) := by decide +kernel
theorem dX12_line_79 : decode cX12_line 79 = .ok (.iconst 2, 1) := by decide +kernel
theorem dX12_line_80 : decode cX12_line 80 = .ok (.if_icmp .ne 22, 3) := by decide +kernel
theorem dX12_line_83 : decode cX12_line 83 = .ok (.iload_n 3, 1) := by decide +kernel
theorem dX12_line_84 : decode cX12_line 84 = .ok (.i2l, 1) := by decide +kernel
theorem dX12_line_85 : decode cX12_line 85 = .ok (.lconst 0, 1) := by decide +kernel
theorem dX12_line_86 : decode cX12_line 86 = .ok (.ldc2_w 89, 3) := by decide +kernel
theorem dX12_line_89 : decode cX12_line 89 = .ok (.invokestatic 81, 3) := by decide +kernel
theorem dX12_line_92 : decode cX12_line 92 = .ok (.ifCond .ne 10, 3) := by decide +kernel
theorem dX12_line_95 : decode cX12_line 95 = .ok (.aload_n 0, 1) := by decide +kernel
theorem dX12_line_96 : decode cX12_line 96 = .ok (.bipush (-3), 2) := by decide +kernel
theorem dX12_line_98 : decode cX12_line 98 = .ok (.invokevirtual 85, 3) := by decide +kernel
theorem dX12_line_101 : decode cX12_line 101 = .ok (.ireturn, 1) := by decide +kernel
theorem dX12_line_102 : decode cX12_line 102 = .ok (.iload_n 1, 1) := by decide +kernel
theorem dX12_line_103 : decode cX12_line 103 = .ok (.iconst 2, 1) := by decide +kernel
theorem dX12_line_104 : decode cX12_line 104 = .ok (.if_icmp .ne 86, 3) := by decide +kernel
theorem dX12_line_107 : decode cX12_line 107 = .ok (.aload_n 0, 1) := by decide +kernel
theorem dX12_line_108 : decode cX12_line 108 = .ok (.getfield 17, 3) := by decide +kernel
theorem dX12_line_111 : decode cX12_line 111 = .ok (.sipush 162, 3) := by decide +kernel
theorem dX12_line_114 : decode cX12_line 114 = .ok (.iaload, 1) := by decide +kernel
theorem dX12_line_115 : decode cX12_line 115 = .ok (.bipush 60, 2) := by decide +kernel
theorem dX12_line_117 : decode cX12_line 117 = .ok (.if_icmp .ne 10, 3) := by decide +kernel
theorem dX12_line_120 : decode cX12_line 120 = .ok (.aload_n 0, 1) := by decide +kernel
theorem dX12_line_121 : decode cX12_line 121 = .ok (.bipush (-4), 2) := by decide +kernel
theorem dX12_line_123 : decode cX12_line 123 = .ok (.invokevirtual 85, 3) := by decide +kernel
theorem dX12_line_126 : decode cX12_line 126 = .ok (.ireturn, 1) := by decide +kernel
theorem dX12_line_127 : decode cX12_line 127 = .ok (.aload_n 0, 1) := by decide +kernel
theorem dX12_line_128 : decode cX12_line 128 = .ok (.getfield 17, 3) := by decide +kernel
theorem dX12_line_131 : decode cX12_line 131 = .ok (.sipush 163, 3) := by decide +kernel
theorem dX12_line_134 : decode cX12_line 134 = .ok (.aload_n 0, 1) := by decide +kernel
theorem dX12_line_135 : decode cX12_line 135 = .ok (.getfield 17, 3) := by decide +kernel
theorem dX12_line_138 : decode cX12_line 138 = .ok (.sipush 162, 3) := by decide +kernel
theorem dX12_line_141 : decode cX12_line 141 = .ok (.iaload, 1) := by decide +kernel
theorem dX12_line_142 : decode cX12_line 142 = .ok (.iadd, 1) := by decide +kernel
theorem dX12_line_143 : decode cX12_line 143 = .ok (.iload_n 3, 1) := by decide +kernel
theorem dX12_line_144 : decode cX12_line 144 = .ok (.iastore, 1) := by decide +kernel
theorem dX12_line_145 : decode cX12_line 145 = .ok (.aload_n 0, 1) := by decide +kernel
theorem dX12_line_146 : decode cX12_line 146 = .ok (.getfield 20, 3) := by decide +kernel
theorem dX12_line_149 : decode cX12_line 149 = .ok (.sipush 480, 3) := by decide +kernel
theorem dX12_line_152 : decode cX12_line 152 = .ok (.aload_n 0, 1) := by decide +kernel
theorem dX12_line_153 : decode cX12_line 153 = .ok (.getfield 17, 3) := by decide +kernel
theorem dX12_line_156 : decode cX12_line 156 = .ok (.sipush 162, 3) := by decide +kernel
theorem dX12_line_159 : decode cX12_line 159 = .ok (.iaload, 1) := by decide +kernel
theorem dX12_line_160 : decode cX12_line 160 = .ok (.iadd, 1) := by decide +kernel
theorem dX12_line_161 : decode cX12_line 161 = .ok (.lload 4, 2) := by decide +kernel
theorem dX12_line_163 : decode cX12_line 163 = .ok (.invokestatic 101, 3) := by decide +kernel
theorem dX12_line_166 : decode cX12_line 166 = .ok (.lastore, 1) := by decide +kernel
theorem dX12_line_167 : decode cX12_line 167 = .ok (.aload_n 0, 1) := by decide +kernel
theorem dX12_line_168 : decode cX12_line 168 = .ok (.getfield 17, 3) := by decide +kernel
theorem dX12_line_171 : decode cX12_line 171 = .ok (.sipush 162, 3) := by decide +kernel
theorem dX12_line_174 : decode cX12_line 174 = .ok (.dup2, 1) := by decide +kernel
theorem dX12_line_175 : decode cX12_line 175 = .ok (.iaload, 1) := by decide +kernel
theorem dX12_line_176 : decode cX12_line 176 = .ok (.iconst 1, 1) := by decide +kernel
theorem dX12_line_177 : decode cX12_line 177 = .ok (.iadd, 1) := by decide +kernel
theorem dX12_line_178 : decode cX12_line 178 = .ok (.iastore, 1) := by decide +kernel
theorem dX12_line_179 : decode cX12_line 179 = .ok (.aload_n 0, 1) := by decide +kernel
theorem dX12_line_180 : decode cX12_line 180 = .ok (.getfield 17, 3) := by decide +kernel
theorem dX12_line_183 : decode cX12_line 183 = .ok (.sipush 162, 3) := by decide +kernel
theorem dX12_line_186 : decode cX12_line 186 = .ok (.iaload, 1) := by decide +kernel
theorem dX12_line_187 : decode cX12_line 187 = .ok (.iconst 1, 1) := by decide +kernel
theorem dX12_line_188 : decode cX12_line 188 = .ok (.isub, 1) := by decide +kernel
theorem dX12_line_189 : decode cX12_line 189 = .ok (.ireturn, 1) := by decide +kernel
theorem dX12_line_190 : decode cX12_line 190 = .ok (.iload_n 1, 1) := by decide +kernel
theorem dX12_line_191 : decode cX12_line 191 = .ok (.ifCond .ne 10, 3) := by decide +kernel
theorem dX12_line_194 : decode cX12_line 194 = .ok (.bipush 121, 2) := by decide +kernel
theorem dX12_line_196 : decode cX12_line 196 = .ok (.iload_n 2, 1) := by decide +kernel
theorem dX12_line_197 : decode cX12_line 197 = .ok (.iadd, 1) := by decide +kernel
theorem dX12_line_198 : decode cX12_line 198 = .ok (.goto 8, 3) := by decide +kernel
theorem dX12_line_201 : decode cX12_line 201 = .ok (.sipush 236, 3) := by decide +kernel
theorem dX12_line_204 : decode cX12_line 204 = .ok (.iload_n 2, 1) := by decide +kernel
theorem dX12_line_205 : decode cX12_line 205 = .ok (.iadd, 1) := by decide +kernel
theorem dX12_line_206 : decode cX12_line 206 = .ok (.istore 6, 2) := by decide +kernel
theorem dX12_line_208 : decode cX12_line 208 = .ok (.aload_n 0, 1) := by decide +kernel
theorem dX12_line_209 : decode cX12_line 209 = .ok (.getfield 17, 3) := by decide +kernel
theorem dX12_line_212 : decode cX12_line 212 = .ok (.iload 6, 2) := by decide +kernel
theorem dX12_line_214 : decode cX12_line 214 = .ok (.iaload, 1) := by decide +kernel
theorem dX12_line_215 : decode cX12_line 215 = .ok (.bipush 12, 2) := by decide +kernel
theorem dX12_line_217 : decode cX12_line 217 = .ok (.if_icmp .ne 10, 3) := by decide +kernel
theorem dX12_line_220 : decode cX12_line 220 = .ok (.aload_n 0, 1) := by decide +kernel
theorem dX12_line_221 : decode cX12_line 221 = .ok (.bipush (-4), 2) := by decide +kernel
theorem dX12_line_223 : decode cX12_line 223 = .ok (.invokevirtual 85, 3) := by decide +kernel
theorem dX12_line_226 : decode cX12_line 226 = .ok (.ireturn, 1) := by decide +kernel
theorem dX12_line_227 : decode cX12_line 227 = .ok (.aload_n 0, 1) := by decide +kernel
theorem dX12_line_228 : decode cX12_line 228 = .ok (.getfield 20, 3) := by decide +kernel
theorem dX12_line_231 : decode cX12_line 231 = .ok (.iload_n 1, 1) := by decide +kernel
theorem dX12_line_232 : decode cX12_line 232 = .ok (.ifCond .ne 7, 3) := by decide +kernel
theorem dX12_line_235 : decode cX12_line 235 = .ok (.iconst 0, 1) := by decide +kernel
theorem dX12_line_236 : decode cX12_line 236 = .ok (.goto 6, 3) := by decide +kernel
theorem dX12_line_239 : decode cX12_line 239 = .ok (.sipush 540, 3) := by decide +kernel
theorem dX12_line_242 : decode cX12_line 242 = .ok (.bipush 12, 2) := by decide +kernel
theorem dX12_line_244 : decode cX12_line 244 = .ok (.iload_n 2, 1) := by decide +kernel
theorem dX12_line_245 : decode cX12_line 245 = .ok (.imul, 1) := by decide +kernel
theorem dX12_line_246 : decode cX12_line 246 = .ok (.iadd, 1) := by decide +kernel
theorem dX12_line_247 : decode cX12_line 247 = .ok (.aload_n 0, 1) := by decide +kernel
theorem dX12_line_248 : decode cX12_line 248 = .ok (.getfield 17, 3) := by decide +kernel
theorem dX12_line_251 : decode cX12_line 251 = .ok (.iload 6, 2) := by decide +kernel
theorem dX12_line_253 : decode cX12_line 253 = .ok (.iaload, 1) := by decide +kernel
theorem dX12_line_254 : decode cX12_line 254 = .ok (.iadd, 1) := by decide +kernel
theorem dX12_line_255 : decode cX12_line 255 = .ok (.lload 4, 2) := by decide +kernel
theorem dX12_line_257 : decode cX12_line 257 = .ok (.invokestatic 101, 3) := by decide +kernel
theorem dX12_line_260 : decode cX12_line 260 = .ok (.lastore, 1) := by decide +kernel
theorem dX12_line_261 : decode cX12_line 261 = .ok (.aload_n 0, 1) := by decide +kernel
theorem dX12_line_262 : decode cX12_line 262 = .ok (.getfield 17, 3) := by decide +kernel
theorem dX12_line_265 : decode cX12_line 265 = .ok (.iload 6, 2) := by decide +kernel
theorem dX12_line_267 : decode cX12_line 267 = .ok (.dup2, 1) := by decide +kernel
theorem dX12_line_268 : decode cX12_line 268 = .ok (.iaload, 1) := by decide +kernel
theorem dX12_line_269 : decode cX12_line 269 = .ok (.iconst 1, 1) := by decide +kernel
theorem dX12_line_270 : decode cX12_line 270 = .ok (.iadd, 1) := by decide +kernel
theorem dX12_line_271 : decode cX12_line 271 = .ok (.iastore, 1) := by decide +kernel
theorem dX12_line_272 : decode cX12_line 272 = .ok (.aload_n 0, 1) := by decide +kernel
theorem dX12_line_273 : decode cX12_line 273 = .ok (.getfield 17, 3) := by decide +kernel
theorem dX12_line_276 : decode cX12_line 276 = .ok (.iload 6, 2) := by decide +kernel
theorem dX12_line_278 : decode cX12_line 278 = .ok (.iaload, 1) := by decide +kernel
theorem dX12_line_279 : decode cX12_line 279 = .ok (.iconst 1, 1) := by decide +kernel
theorem dX12_line_280 : decode cX12_line 280 = .ok (.isub, 1) := by decide +kernel
theorem dX12_line_281 : decode cX12_line 281 = .ok (.ireturn, 1) := by decide +kernel
theorem dX12_print_0 : decode cX12_print 0 = .ok (.aload_n 0, 1) := by decide +kernel
theorem dX12_print_1 : decode cX12_print 1 = .ok (.iconst 0, 1) := by decide +kernel
theorem dX12_print_2 : decode cX12_print 2 = .ok (.putfield 1, 3) := by decide +kernel
theorem dX12_print_5 : decode cX12_print 5 = .ok (.iload_n 1, 1) := by decide +kernel
theorem dX12_print_6 : decode cX12_print 6 = .ok (.i2l, 1) := by decide +kernel
theorem dX12_print_7 : decode cX12_print 7 = .ok (.lconst 0, 1) := by decide +kernel
theorem dX12_print_8 : decode cX12_print 8 = .ok (.ldc2_w 93, 3) := by decide +kernel
theorem dX12_print_11 : decode cX12_print 11 = .ok (.invokestatic 81, 3) := by decide +kernel
theorem dX12_print_14 : decode cX12_print 14 = .ok (.ifCond .ne 10, 3) := by decide +kernel
theorem dX12_print_17 : decode cX12_print 17 = .ok (.aload_n 0, 1) := by decide +kernel
theorem dX12_print_18 : decode cX12_print 18 = .ok (.bipush (-3), 2) := by decide +kernel
theorem dX12_print_20 : decode cX12_print 20 = .ok (.invokevirtual 85, 3) := by decide +kernel
theorem dX12_print_23 : decode cX12_print 23 = .ok (.ireturn, 1) := by decide +kernel
theorem dX12_print_24 : decode cX12_print 24 = .ok (.aload_n 0, 1) := by decide +kernel
theorem dX12_print_25 : decode cX12_print 25 = .ok (.getfield 17, 3) := by decide +kernel
theorem dX12_print_28 : decode cX12_print 28 = .ok (.sipush 161, 3) := by decide +kernel
theorem dX12_print_31 : decode cX12_print 31 = .ok (.iaload, 1) := by decide +kernel
theorem dX12_print_32 : decode cX12_print 32 = .ok (.istore_n 2, 1) := by decide +kernel
theorem dX12_print_33 : decode cX12_print 33 = .ok (.aload_n 0, 1) := by decide +kernel
theorem dX12_print_34 : decode cX12_print 34 = .ok (.getfield 17, 3) := by decide +kernel
theorem dX12_print_37 : decode cX12_print 37 = .ok (.sipush 161, 3) := by decide +kernel
theorem dX12_print_40 : decode cX12_print 40 = .ok (.iload_n 1, 1) := by decide +kernel
theorem dX12_print_41 : decode cX12_print 41 = .ok (.iastore, 1) := by decide +kernel
theorem dX12_print_42 : decode cX12_print 42 = .ok (.iload_n 2, 1) := by decide +kernel
theorem dX12_print_43 : decode cX12_print 43 = .ok (.ireturn, 1) := by decide +kernel
theorem dX12_bounds_0 : decode cX12_bounds 0 = .ok (.aload_n 0, 1) := by decide +kernel
theorem dX12_bounds_1 : decode cX12_bounds 1 = .ok (.iconst 0, 1) := by decide +kernel
theorem dX12_bounds_2 : decode cX12_bounds 2 = .ok (.putfield 1, 3) := by decide +kernel
theorem dX12_bounds_5 : decode cX12_bounds 5 = .ok (.iload_n 1, 1) := by decide +kernel
theorem dX12_bounds_6 : decode cX12_bounds 6 = .ok (.i2l, 1) := by decide +kernel
theorem dX12_bounds_7 : decode cX12_bounds 7 = .ok (.lconst 1, 1) := by decide +kernel
theorem dX12_bounds_8 : decode cX12_bounds 8 = .ok (.ldc2_w 105, 3) := by decide +kernel
theorem dX12_bounds_11 : decode cX12_bounds 11 = .ok (.invokestatic 81, 3) := by decide +kernel
theorem dX12_bounds_14 : decode cX12_bounds 14 = .ok (.ifCond .eq 14, 3) := by decide +kernel
theorem dX12_bounds_17 : decode cX12_bounds 17 = .ok (.iload_n 2, 1) := by decide +kernel
theorem dX12_bounds_18 : decode cX12_bounds 18 = .ok (.i2l, 1) := by decide +kernel
theorem dX12_bounds_19 : decode cX12_bounds 19 = .ok (.lconst 1, 1) := by decide +kernel
theorem dX12_bounds_20 : decode cX12_bounds 20 = .ok (.iload_n 1, 1) := by decide +kernel
theorem dX12_bounds_21 : decode cX12_bounds 21 = .ok (.i2l, 1) := by decide +kernel
theorem dX12_bounds_22 : decode cX12_bounds 22 = .ok (.invokestatic 81, 3) := by decide +kernel
theorem dX12_bounds_25 : decode cX12_bounds 25 = .ok (.ifCond .ne 10, 3) := by decide +kernel
theorem dX12_bounds_28 : decode cX12_bounds 28 = .ok (.aload_n 0, 1) := by decide +kernel
theorem dX12_bounds_29 : decode cX12_bounds 29 = .ok (.bipush (-3), 2) := by decide +kernel
theorem dX12_bounds_31 : decode cX12_bounds 31 = .ok (.invokevirtual 85, 3) := by decide +kernel
theorem dX12_bounds_34 : decode cX12_bounds 34 = .ok (.ireturn, 1) := by decide +kernel
theorem dX12_bounds_35 : decode cX12_bounds 35 = .ok (.aload_n 0, 1) := by decide +kernel
theorem dX12_bounds_36 : decode cX12_bounds 36 = .ok (.getfield 17, 3) := by decide +kernel
theorem dX12_bounds_39 : decode cX12_bounds 39 = .ok (.sipush 248, 3) := by decide +kernel
theorem dX12_bounds_42 : decode cX12_bounds 42 = .ok (.iload_n 1, 1) := by decide +kernel
theorem dX12_bounds_43 : decode cX12_bounds 43 = .ok (.iastore, 1) := by decide +kernel
theorem dX12_bounds_44 : decode cX12_bounds 44 = .ok (.aload_n 0, 1) := by decide +kernel
theorem dX12_bounds_45 : decode cX12_bounds 45 = .ok (.getfield 17, 3) := by decide +kernel
theorem dX12_bounds_48 : decode cX12_bounds 48 = .ok (.sipush 249, 3) := by decide +kernel
theorem dX12_bounds_51 : decode cX12_bounds 51 = .ok (.iload_n 2, 1) := by decide +kernel
theorem dX12_bounds_52 : decode cX12_bounds 52 = .ok (.iastore, 1) := by decide +kernel
theorem dX12_bounds_53 : decode cX12_bounds 53 = .ok (.iconst 0, 1) := by decide +kernel
theorem dX12_bounds_54 : decode cX12_bounds 54 = .ok (.ireturn, 1) := by decide +kernel
theorem dX12_isLine_0 : decode cX12_isLine 0 = .ok (.iload_n 1, 1) := by decide +kernel
theorem dX12_isLine_1 : decode cX12_isLine 1 = .ok (.tableswitch 164 0 4 #[35, 80, 128, 146, 146], 35) := by decide +kernel
theorem dX12_isLine_36 : decode cX12_isLine 36 = .ok (.iload_n 2, 1) := by decide +kernel
theorem dX12_isLine_37 : decode cX12_isLine 37 = .ok (.i2l, 1) := by decide +kernel
theorem dX12_isLine_38 : decode cX12_isLine 38 = .ok (.lconst 0, 1) := by decide +kernel
theorem dX12_isLine_39 : decode cX12_isLine 39 = .ok (.aload_n 0, 1) := by decide +kernel
theorem dX12_isLine_40 : decode cX12_isLine 40 = .ok (.getfield 17, 3) := by decide +kernel
theorem dX12_isLine_43 : decode cX12_isLine 43 = .ok (.iconst 0, 1) := by decide +kernel
theorem dX12_isLine_44 : decode cX12_isLine 44 = .ok (.iaload, 1) := by decide +kernel
theorem dX12_isLine_45 : decode cX12_isLine 45 = .ok (.iconst 1, 1) := by decide +kernel
theorem dX12_isLine_46 : decode cX12_isLine 46 = .ok (.isub, 1) := by decide +kernel
theorem dX12_isLine_47 : decode cX12_isLine 47 = .ok (.i2l, 1) := by decide +kernel
theorem dX12_isLine_48 : decode cX12_isLine 48 = .ok (.invokestatic 81, 3) := by decide +kernel
theorem dX12_isLine_51 : decode cX12_isLine 51 = .ok (.ifCond .eq 28, 3) := by decide +kernel
theorem dX12_isLine_54 : decode cX12_isLine 54 = .ok (.iload_n 3, 1) := by decide +kernel
theorem dX12_isLine_55 : decode cX12_isLine 55 = .ok (.i2l, 1) := by decide +kernel
theorem dX12_isLine_56 : decode cX12_isLine 56 = .ok (.lconst 0, 1) := by decide +kernel
theorem dX12_isLine_57 : decode cX12_isLine 57 = .ok (.aload_n 0, 1) := by decide +kernel
theorem dX12_isLine_58 : decode cX12_isLine 58 = .ok (.getfield 17, 3) := by decide +kernel
theorem dX12_isLine_61 : decode cX12_isLine 61 = .ok (.bipush 121, 2) := by decide +kernel
theorem dX12_isLine_63 : decode cX12_isLine 63 = .ok (.iload_n 2, 1) := by decide +kernel
theorem dX12_isLine_64 : decode cX12_isLine 64 = .ok (.iadd, 1) := by decide +kernel
theorem dX12_isLine_65 : decode cX12_isLine 65 = .ok (.iaload, 1) := by decide +kernel
theorem dX12_isLine_66 : decode cX12_isLine 66 = .ok (.iconst 1, 1) := by decide +kernel
theorem dX12_isLine_67 : decode cX12_isLine 67 = .ok (.isub, 1) := by decide +kernel
theorem dX12_isLine_68 : decode cX12_isLine 68 = .ok (.i2l, 1) := by decide +kernel
theorem dX12_isLine_69 : decode cX12_isLine 69 = .ok (.invokestatic 81, 3) := by decide +kernel
theorem dX12_isLine_72 : decode cX12_isLine 72 = .ok (.ifCond .eq 7, 3) := by decide +kernel
theorem dX12_isLine_75 : decode cX12_isLine 75 = .ok (.iconst 1, 1) := by decide +kernel
theorem dX12_isLine_76 : decode cX12_isLine 76 = .ok (.goto 4, 3) := by decide +kernel
theorem dX12_isLine_79 : decode cX12_isLine 79 = .ok (.iconst 0, 1) := by decide +kernel
theorem dX12_isLine_80 : decode cX12_isLine 80 = .ok (.ireturn, 1) := by decide +kernel
theorem dX12_isLine_81 : decode cX12_isLine 81 = .ok (.iload_n 2, 1) := by decide +kernel
theorem dX12_isLine_82 : decode cX12_isLine 82 = .ok (.i2l, 1) := by decide +kernel
theorem dX12_isLine_83 : decode cX12_isLine 83 = .ok (.lconst 0, 1) := by decide +kernel
theorem dX12_isLine_84 : decode cX12_isLine 84 = .ok (.aload_n 0, 1) := by decide +kernel
theorem dX12_isLine_85 : decode cX12_isLine 85 = .ok (.getfield 17, 3) := by decide +kernel
theorem dX12_isLine_88 : decode cX12_isLine 88 = .ok (.sipush 223, 3) := by decide +kernel
theorem dX12_isLine_91 : decode cX12_isLine 91 = .ok (.iaload, 1) := by decide +kernel
theorem dX12_isLine_92 : decode cX12_isLine 92 = .ok (.iconst 1, 1) := by decide +kernel
theorem dX12_isLine_93 : decode cX12_isLine 93 = .ok (.isub, 1) := by decide +kernel
theorem dX12_isLine_94 : decode cX12_isLine 94 = .ok (.i2l, 1) := by decide +kernel
theorem dX12_isLine_95 : decode cX12_isLine 95 = .ok (.invokestatic 81, 3) := by decide +kernel
theorem dX12_isLine_98 : decode cX12_isLine 98 = .ok (.ifCond .eq 29, 3) := by decide +kernel
theorem dX12_isLine_101 : decode cX12_isLine 101 = .ok (.iload_n 3, 1) := by decide +kernel
theorem dX12_isLine_102 : decode cX12_isLine 102 = .ok (.i2l, 1) := by decide +kernel
theorem dX12_isLine_103 : decode cX12_isLine 103 = .ok (.lconst 0, 1) := by decide +kernel
theorem dX12_isLine_104 : decode cX12_isLine 104 = .ok (.aload_n 0, 1) := by decide +kernel
theorem dX12_isLine_105 : decode cX12_isLine 105 = .ok (.getfield 17, 3) := by decide +kernel
theorem dX12_isLine_108 : decode cX12_isLine 108 = .ok (.sipush 236, 3) := by decide +kernel
theorem dX12_isLine_111 : decode cX12_isLine 111 = .ok (.iload_n 2, 1) := by decide +kernel
theorem dX12_isLine_112 : decode cX12_isLine 112 = .ok (.iadd, 1) := by decide +kernel
theorem dX12_isLine_113 : decode cX12_isLine 113 = .ok (.iaload, 1) := by decide +kernel
theorem dX12_isLine_114 : decode cX12_isLine 114 = .ok (.iconst 1, 1) := by decide +kernel
theorem dX12_isLine_115 : decode cX12_isLine 115 = .ok (.isub, 1) := by decide +kernel
theorem dX12_isLine_116 : decode cX12_isLine 116 = .ok (.i2l, 1) := by decide +kernel
theorem dX12_isLine_117 : decode cX12_isLine 117 = .ok (.invokestatic 81, 3) := by decide +kernel
theorem dX12_isLine_120 : decode cX12_isLine 120 = .ok (.ifCond .eq 7, 3) := by decide +kernel
theorem dX12_isLine_123 : decode cX12_isLine 123 = .ok (.iconst 1, 1) := by decide +kernel
theorem dX12_isLine_124 : decode cX12_isLine 124 = .ok (.goto 4, 3) := by decide +kernel
theorem dX12_isLine_127 : decode cX12_isLine 127 = .ok (.iconst 0, 1) := by decide +kernel
theorem dX12_isLine_128 : decode cX12_isLine 128 = .ok (.ireturn, 1) := by decide +kernel
theorem dX12_isLine_129 : decode cX12_isLine 129 = .ok (.iload_n 3, 1) := by decide +kernel
theorem dX12_isLine_130 : decode cX12_isLine 130 = .ok (.i2l, 1) := by decide +kernel
theorem dX12_isLine_131 : decode cX12_isLine 131 = .ok (.lconst 0, 1) := by decide +kernel
theorem dX12_isLine_132 : decode cX12_isLine 132 = .ok (.aload_n 0, 1) := by decide +kernel
theorem dX12_isLine_133 : decode cX12_isLine 133 = .ok (.getfield 17, 3) := by decide +kernel
theorem dX12_isLine_136 : decode cX12_isLine 136 = .ok (.sipush 162, 3) := by decide +kernel
theorem dX12_isLine_139 : decode cX12_isLine 139 = .ok (.iaload, 1) := by decide +kernel
theorem dX12_isLine_140 : decode cX12_isLine 140 = .ok (.iconst 1, 1) := by decide +kernel
theorem dX12_isLine_141 : decode cX12_isLine 141 = .ok (.isub, 1) := by decide +kernel
theorem dX12_isLine_142 : decode cX12_isLine 142 = .ok (.i2l, 1) := by decide +kernel
theorem dX12_isLine_143 : decode cX12_isLine 143 = .ok (.invokestatic 81, 3) := by decide +kernel
theorem dX12_isLine_146 : decode cX12_isLine 146 = .ok (.ireturn, 1) := by decide +kernel
theorem dX12_isLine_147 : decode cX12_isLine 147 = .ok (.iload_n 2, 1) := by decide +kernel
theorem dX12_isLine_148 : decode cX12_isLine 148 = .ok (.i2l, 1) := by decide +kernel
theorem dX12_isLine_149 : decode cX12_isLine 149 = .ok (.lconst 0, 1) := by decide +kernel
theorem dX12_isLine_150 : decode cX12_isLine 150 = .ok (.aload_n 0, 1) := by decide +kernel
theorem dX12_isLine_151 : decode cX12_isLine 151 = .ok (.getfield 17, 3) := by decide +kernel
theorem dX12_isLine_154 : decode cX12_isLine 154 = .ok (.sipush 506, 3) := by decide +kernel
theorem dX12_isLine_157 : decode cX12_isLine 157 = .ok (.iaload, 1) := by decide +kernel
theorem dX12_isLine_158 : decode cX12_isLine 158 = .ok (.iconst 1, 1) := by decide +kernel
theorem dX12_isLine_159 : decode cX12_isLine 159 = .ok (.isub, 1) := by decide +kernel
theorem dX12_isLine_160 : decode cX12_isLine 160 = .ok (.i2l, 1) := by decide +kernel
theorem dX12_isLine_161 : decode cX12_isLine 161 = .ok (.invokestatic 81, 3) := by decide +kernel
theorem dX12_isLine_164 : decode cX12_isLine 164 = .ok (.ireturn, 1) := by decide +kernel
theorem dX12_isLine_165 : decode cX12_isLine 165 = .ok (.iconst 0, 1) := by decide +kernel
theorem dX12_isLine_166 : decode cX12_isLine 166 = .ok (.ireturn, 1) := by decide +kernel
theorem dX12_words_0 : decode cX12_words 0 = .ok (.aload_n 0, 1) := by decide +kernel
theorem dX12_words_1 : decode cX12_words 1 = .ok (.iconst 0, 1) := by decide +kernel
theorem dX12_words_2 : decode cX12_words 2 = .ok (.putfield 1, 3) := by decide +kernel
theorem dX12_words_5 : decode cX12_words 5 = .ok (.aload_n 0, 1) := by decide +kernel
theorem dX12_words_6 : decode cX12_words 6 = .ok (.iload_n 1, 1) := by decide +kernel
theorem dX12_words_7 : decode cX12_words 7 = .ok (.iload_n 2, 1) := by decide +kernel
theorem dX12_words_8 : decode cX12_words 8 = .ok (.iload_n 3, 1) := by decide +kernel
theorem dX12_words_9 : decode cX12_words 9 = .ok (.invokevirtual 107, 3) := by decide +kernel
theorem dX12_words_12 : decode cX12_words 12 = .ok (.ifCond .ne 11, 3) := by decide +kernel
theorem dX12_words_15 : decode cX12_words 15 = .ok (.aload_n 0, 1) := by decide +kernel
theorem dX12_words_16 : decode cX12_words 16 = .ok (.bipush (-2), 2) := by decide +kernel
theorem dX12_words_18 : decode cX12_words 18 = .ok (.invokevirtual 85, 3) := by decide +kernel
theorem dX12_words_21 : decode cX12_words 21 = .ok (.i2l, 1) := by decide +kernel
theorem dX12_words_22 : decode cX12_words 22 = .ok (.lreturn, 1) := by decide +kernel
theorem dX12_words_23 : decode cX12_words 23 = .ok (.iload_n 1, 1) := by decide +kernel
theorem dX12_words_24 : decode cX12_words 24 = .ok (.tableswitch 82 0 3 #[32, 44, 60, 71], 32) := by decide +kernel
theorem dX12_words_56 : decode cX12_words 56 = .ok (.aload_n 0, 1) := by decide +kernel
theorem dX12_words_57 : decode cX12_words 57 = .ok (.getfield 20, 3) := by decide +kernel
theorem dX12_words_60 : decode cX12_words 60 = .ok (.bipush 12, 2) := by decide +kernel
theorem dX12_words_62 : decode cX12_words 62 = .ok (.iload_n 2, 1) := by decide +kernel
theorem dX12_words_63 : decode cX12_words 63 = .ok (.imul, 1) := by decide +kernel
theorem dX12_words_64 : decode cX12_words 64 = .ok (.iload_n 3, 1) := by decide +kernel
theorem dX12_words_65 : decode cX12_words 65 = .ok (.iadd, 1) := by decide +kernel
theorem dX12_words_66 : decode cX12_words 66 = .ok (.laload, 1) := by decide +kernel
theorem dX12_words_67 : decode cX12_words 67 = .ok (.lreturn, 1) := by decide +kernel
theorem dX12_words_68 : decode cX12_words 68 = .ok (.aload_n 0, 1) := by decide +kernel
theorem dX12_words_69 : decode cX12_words 69 = .ok (.getfield 20, 3) := by decide +kernel
theorem dX12_words_72 : decode cX12_words 72 = .ok (.sipush 540, 3) := by decide +kernel
theorem dX12_words_75 : decode cX12_words 75 = .ok (.bipush 12, 2) := by decide +kernel
theorem dX12_words_77 : decode cX12_words 77 = .ok (.iload_n 2, 1) := by decide +kernel
theorem dX12_words_78 : decode cX12_words 78 = .ok (.imul, 1) := by decide +kernel
theorem dX12_words_79 : decode cX12_words 79 = .ok (.iadd, 1) := by decide +kernel
theorem dX12_words_80 : decode cX12_words 80 = .ok (.iload_n 3, 1) := by decide +kernel
theorem dX12_words_81 : decode cX12_words 81 = .ok (.iadd, 1) := by decide +kernel
theorem dX12_words_82 : decode cX12_words 82 = .ok (.laload, 1) := by decide +kernel
theorem dX12_words_83 : decode cX12_words 83 = .ok (.lreturn, 1) := by decide +kernel
theorem dX12_words_84 : decode cX12_words 84 = .ok (.aload_n 0, 1) := by decide +kernel
theorem dX12_words_85 : decode cX12_words 85 = .ok (.getfield 20, 3) := by decide +kernel
theorem dX12_words_88 : decode cX12_words 88 = .ok (.sipush 480, 3) := by decide +kernel
theorem dX12_words_91 : decode cX12_words 91 = .ok (.iload_n 3, 1) := by decide +kernel
theorem dX12_words_92 : decode cX12_words 92 = .ok (.iadd, 1) := by decide +kernel
theorem dX12_words_93 : decode cX12_words 93 = .ok (.laload, 1) := by decide +kernel
theorem dX12_words_94 : decode cX12_words 94 = .ok (.lreturn, 1) := by decide +kernel
theorem dX12_words_95 : decode cX12_words 95 = .ok (.aload_n 0, 1) := by decide +kernel
theorem dX12_words_96 : decode cX12_words 96 = .ok (.getfield 20, 3) := by decide +kernel
theorem dX12_words_99 : decode cX12_words 99 = .ok (.sipush 684, 3) := by decide +kernel
theorem dX12_words_102 : decode cX12_words 102 = .ok (.iload_n 2, 1) := by decide +kernel
theorem dX12_words_103 : decode cX12_words 103 = .ok (.iadd, 1) := by decide +kernel
theorem dX12_words_104 : decode cX12_words 104 = .ok (.laload, 1) := by decide +kernel
theorem dX12_words_105 : decode cX12_words 105 = .ok (.lreturn, 1) := by decide +kernel
theorem dX12_words_106 : decode cX12_words 106 = .ok (.aload_n 0, 1) := by decide +kernel
theorem dX12_words_107 : decode cX12_words 107 = .ok (.getfield 20, 3) := by decide +kernel
theorem dX12_words_110 : decode cX12_words 110 = .ok (.sipush 704, 3) := by decide +kernel
theorem dX12_words_113 : decode cX12_words 113 = .ok (.iload_n 2, 1) := by decide +kernel
theorem dX12_words_114 : decode cX12_words 114 = .ok (.iadd, 1) := by decide +kernel
theorem dX12_words_115 : decode cX12_words 115 = .ok (.laload, 1) := by decide +kernel
theorem dX12_words_116 : decode cX12_words 116 = .ok (.lreturn, 1) := by decide +kernel
theorem dX12_like_0 : decode cX12_like 0 = .ok (.aload_n 0, 1) := by decide +kernel
theorem dX12_like_1 : decode cX12_like 1 = .ok (.iconst 0, 1) := by decide +kernel
theorem dX12_like_2 : decode cX12_like 2 = .ok (.putfield 1, 3) := by decide +kernel
theorem dX12_like_5 : decode cX12_like 5 = .ok (.lload_n 1, 1) := by decide +kernel
theorem dX12_like_6 : decode cX12_like 6 = .ok (.invokestatic 77, 3) := by decide +kernel
theorem dX12_like_9 : decode cX12_like 9 = .ok (.ifCond .eq 10, 3) := by decide +kernel
theorem dX12_like_12 : decode cX12_like 12 = .ok (.lload_n 3, 1) := by decide +kernel
theorem dX12_like_13 : decode cX12_like 13 = .ok (.invokestatic 77, 3) := by decide +kernel
theorem dX12_like_16 : decode cX12_like 16 = .ok (.ifCond .ne 10, 3) := by decide +kernel
theorem dX12_like_19 : decode cX12_like 19 = .ok (.aload_n 0, 1) := by decide +kernel
theorem dX12_like_20 : decode cX12_like 20 = .ok (.bipush (-3), 2) := by decide +kernel
theorem dX12_like_22 : decode cX12_like 22 = .ok (.invokevirtual 85, 3) := by decide +kernel
theorem dX12_like_25 : decode cX12_like 25 = .ok (.ireturn, 1) := by decide +kernel
theorem dX12_like_26 : decode cX12_like 26 = .ok (.aload_n 0, 1) := by decide +kernel
theorem dX12_like_27 : decode cX12_like 27 = .ok (.lload_n 1, 1) := by decide +kernel
theorem dX12_like_28 : decode cX12_like 28 = .ok (.lload_n 3, 1) := by decide +kernel
theorem dX12_like_29 : decode cX12_like 29 = .ok (.invokevirtual 111, 3) := by decide +kernel
theorem dX12_like_32 : decode cX12_like 32 = .ok (.ireturn, 1) := by decide +kernel
theorem dX12_feed_0 : decode cX12_feed 0 = .ok (.aload_n 0, 1) := by decide +kernel
theorem dX12_feed_1 : decode cX12_feed 1 = .ok (.iconst 0, 1) := by decide +kernel
theorem dX12_feed_2 : decode cX12_feed 2 = .ok (.putfield 1, 3) := by decide +kernel
theorem dX12_feed_5 : decode cX12_feed 5 = .ok (.aload_n 0, 1) := by decide +kernel
theorem dX12_feed_6 : decode cX12_feed 6 = .ok (.getfield 115, 3) := by decide +kernel
theorem dX12_feed_9 : decode cX12_feed 9 = .ok (.bipush 20, 2) := by decide +kernel
theorem dX12_feed_11 : decode cX12_feed 11 = .ok (.iadd, 1) := by decide +kernel
theorem dX12_feed_12 : decode cX12_feed 12 = .ok (.sipush 400, 3) := by decide +kernel
theorem dX12_feed_15 : decode cX12_feed 15 = .ok (.if_icmp .le 10, 3) := by decide +kernel
theorem dX12_feed_18 : decode cX12_feed 18 = .ok (.aload_n 0, 1) := by decide +kernel
theorem dX12_feed_19 : decode cX12_feed 19 = .ok (.bipush (-4), 2) := by decide +kernel
theorem dX12_feed_21 : decode cX12_feed 21 = .ok (.invokevirtual 85, 3) := by decide +kernel
theorem dX12_feed_24 : decode cX12_feed 24 = .ok (.ireturn, 1) := by decide +kernel
theorem dX12_feed_25 : decode cX12_feed 25 = .ok (.iconst 0, 1) := by decide +kernel
theorem dX12_feed_26 : decode cX12_feed 26 = .ok (.istore 6, 2) := by decide +kernel
theorem dX12_feed_28 : decode cX12_feed 28 = .ok (.iload 6, 2) := by decide +kernel
theorem dX12_feed_30 : decode cX12_feed 30 = .ok (.bipush 20, 2) := by decide +kernel
theorem dX12_feed_32 : decode cX12_feed 32 = .ok (.if_icmp .ge 93, 3) := by decide +kernel
theorem dX12_feed_35 : decode cX12_feed 35 = .ok (.iload 6, 2) := by decide +kernel
theorem dX12_feed_37 : decode cX12_feed 37 = .ok (.iconst 4, 1) := by decide +kernel
theorem dX12_feed_38 : decode cX12_feed 38 = .ok (.if_icmp .ge 7, 3) := by decide +kernel
theorem dX12_feed_41 : decode cX12_feed 41 = .ok (.iload_n 1, 1) := by decide +kernel
theorem dX12_feed_42 : decode cX12_feed 42 = .ok (.goto 39, 3) := by decide +kernel
theorem dX12_feed_45 : decode cX12_feed 45 = .ok (.iload 6, 2) := by decide +kernel
theorem dX12_feed_47 : decode cX12_feed 47 = .ok (.bipush 8, 2) := by decide +kernel
theorem dX12_feed_49 : decode cX12_feed 49 = .ok (.if_icmp .ge 7, 3) := by decide +kernel
theorem dX12_feed_52 : decode cX12_feed 52 = .ok (.iload_n 2, 1) := by decide +kernel
theorem dX12_feed_53 : decode cX12_feed 53 = .ok (.goto 28, 3) := by decide +kernel
theorem dX12_feed_56 : decode cX12_feed 56 = .ok (.iload 6, 2) := by decide +kernel
theorem dX12_feed_58 : decode cX12_feed 58 = .ok (.bipush 12, 2) := by decide +kernel
theorem dX12_feed_60 : decode cX12_feed 60 = .ok (.if_icmp .ge 7, 3) := by decide +kernel
theorem dX12_feed_63 : decode cX12_feed 63 = .ok (.iload_n 3, 1) := by decide +kernel
theorem dX12_feed_64 : decode cX12_feed 64 = .ok (.goto 17, 3) := by decide +kernel
theorem dX12_feed_67 : decode cX12_feed 67 = .ok (.iload 6, 2) := by decide +kernel
theorem dX12_feed_69 : decode cX12_feed 69 = .ok (.bipush 16, 2) := by decide +kernel
theorem dX12_feed_71 : decode cX12_feed 71 = .ok (.if_icmp .ge 8, 3) := by decide +kernel
theorem dX12_feed_74 : decode cX12_feed 74 = .ok (.iload 4, 2) := by decide +kernel
theorem dX12_feed_76 : decode cX12_feed 76 = .ok (.goto 5, 3) := by decide +kernel
theorem dX12_feed_79 : decode cX12_feed 79 = .ok (.iload 5, 2) := by decide +kernel
theorem dX12_feed_81 : decode cX12_feed 81 = .ok (.istore 7, 2) := by decide +kernel
theorem dX12_feed_83 : decode cX12_feed 83 = .ok (.aload_n 0, 1) := by decide +kernel
theorem dX12_feed_84 : decode cX12_feed 84 = .ok (.getfield 37, 3) := by decide +kernel
theorem dX12_feed_87 : decode cX12_feed 87 = .ok (.aload_n 0, 1) := by decide +kernel
theorem dX12_feed_88 : decode cX12_feed 88 = .ok (.getfield 115, 3) := by decide +kernel
theorem dX12_feed_91 : decode cX12_feed 91 = .ok (.iload 7, 2) := by decide +kernel
theorem dX12_feed_93 : decode cX12_feed 93 = .ok (.bipush 24, 2) := by decide +kernel
theorem dX12_feed_95 : decode cX12_feed 95 = .ok (.bipush 8, 2) := by decide +kernel
theorem dX12_feed_97 : decode cX12_feed 97 = .ok (.iload 6, 2) := by decide +kernel
theorem dX12_feed_99 : decode cX12_feed 99 = .ok (.iconst 4, 1) := by decide +kernel
theorem dX12_feed_100 : decode cX12_feed 100 = .ok (.irem, 1) := by decide +kernel
theorem dX12_feed_101 : decode cX12_feed 101 = .ok (.imul, 1) := by decide +kernel
theorem dX12_feed_102 : decode cX12_feed 102 = .ok (.isub, 1) := by decide +kernel
theorem dX12_feed_103 : decode cX12_feed 103 = .ok (.ishr, 1) := by decide +kernel
theorem dX12_feed_104 : decode cX12_feed 104 = .ok (.sipush 255, 3) := by decide +kernel
theorem dX12_feed_107 : decode cX12_feed 107 = .ok (.iand, 1) := by decide +kernel
theorem dX12_feed_108 : decode cX12_feed 108 = .ok (.iastore, 1) := by decide +kernel
theorem dX12_feed_109 : decode cX12_feed 109 = .ok (.aload_n 0, 1) := by decide +kernel
theorem dX12_feed_110 : decode cX12_feed 110 = .ok (.dup, 1) := by decide +kernel
theorem dX12_feed_111 : decode cX12_feed 111 = .ok (.getfield 115, 3) := by decide +kernel
theorem dX12_feed_114 : decode cX12_feed 114 = .ok (.iconst 1, 1) := by decide +kernel
theorem dX12_feed_115 : decode cX12_feed 115 = .ok (.iadd, 1) := by decide +kernel
theorem dX12_feed_116 : decode cX12_feed 116 = .ok (.putfield 115, 3) := by decide +kernel
theorem dX12_feed_119 : decode cX12_feed 119 = .ok (.iinc 6 1, 3) := by decide +kernel
theorem dX12_feed_122 : decode cX12_feed 122 = .ok (.goto (-94), 3) := by decide +kernel
theorem dX12_feed_125 : decode cX12_feed 125 = .ok (.aload_n 0, 1) := by decide +kernel
theorem dX12_feed_126 : decode cX12_feed 126 = .ok (.getfield 115, 3) := by decide +kernel
theorem dX12_feed_129 : decode cX12_feed 129 = .ok (.ireturn, 1) := by decide +kernel
theorem dX12_see_0 : decode cX12_see 0 = .ok (.iload_n 1, 1) := by decide +kernel
theorem dX12_see_1 : decode cX12_see 1 = .ok (.aload_n 0, 1) := by decide +kernel
theorem dX12_see_2 : decode cX12_see 2 = .ok (.getfield 118, 3) := by decide +kernel
theorem dX12_see_5 : decode cX12_see 5 = .ok (.if_icmp .ge 12, 3) := by decide +kernel
theorem dX12_see_8 : decode cX12_see 8 = .ok (.aload_n 0, 1) := by decide +kernel
theorem dX12_see_9 : decode cX12_see 9 = .ok (.getfield 37, 3) := by decide +kernel
theorem dX12_see_12 : decode cX12_see 12 = .ok (.iload_n 1, 1) := by decide +kernel
theorem dX12_see_13 : decode cX12_see 13 = .ok (.iaload, 1) := by decide +kernel
theorem dX12_see_14 : decode cX12_see 14 = .ok (.goto 4, 3) := by decide +kernel
theorem dX12_see_17 : decode cX12_see 17 = .ok (.iconst (-1), 1) := by decide +kernel
theorem dX12_see_18 : decode cX12_see 18 = .ok (.ireturn, 1) := by decide +kernel
theorem dX12_isSmall_0 : decode cX12_isSmall 0 = .ok (.iload_n 0, 1) := by decide +kernel
theorem dX12_isSmall_1 : decode cX12_isSmall 1 = .ok (.bipush 97, 2) := by decide +kernel
theorem dX12_isSmall_3 : decode cX12_isSmall 3 = .ok (.if_icmp .lt 13, 3) := by decide +kernel
theorem dX12_isSmall_6 : decode cX12_isSmall 6 = .ok (.iload_n 0, 1) := by decide +kernel
theorem dX12_isSmall_7 : decode cX12_isSmall 7 = .ok (.bipush 122, 2) := by decide +kernel
theorem dX12_isSmall_9 : decode cX12_isSmall 9 = .ok (.if_icmp .gt 7, 3) := by decide +kernel
theorem dX12_isSmall_12 : decode cX12_isSmall 12 = .ok (.iconst 1, 1) := by decide +kernel
theorem dX12_isSmall_13 : decode cX12_isSmall 13 = .ok (.goto 4, 3) := by decide +kernel
theorem dX12_isSmall_16 : decode cX12_isSmall 16 = .ok (.iconst 0, 1) := by decide +kernel
theorem dX12_isSmall_17 : decode cX12_isSmall 17 = .ok (.ireturn, 1) := by decide +kernel
theorem dX12_isDigit_0 : decode cX12_isDigit 0 = .ok (.iload_n 0, 1) := by decide +kernel
theorem dX12_isDigit_1 : decode cX12_isDigit 1 = .ok (.bipush 48, 2) := by decide +kernel
theorem dX12_isDigit_3 : decode cX12_isDigit 3 = .ok (.if_icmp .lt 13, 3) := by decide +kernel
theorem dX12_isDigit_6 : decode cX12_isDigit 6 = .ok (.iload_n 0, 1) := by decide +kernel
theorem dX12_isDigit_7 : decode cX12_isDigit 7 = .ok (.bipush 57, 2) := by decide +kernel
theorem dX12_isDigit_9 : decode cX12_isDigit 9 = .ok (.if_icmp .gt 7, 3) := by decide +kernel
theorem dX12_isDigit_12 : decode cX12_isDigit 12 = .ok (.iconst 1, 1) := by decide +kernel
theorem dX12_isDigit_13 : decode cX12_isDigit 13 = .ok (.goto 4, 3) := by decide +kernel
theorem dX12_isDigit_16 : decode cX12_isDigit 16 = .ok (.iconst 0, 1) := by decide +kernel
theorem dX12_isDigit_17 : decode cX12_isDigit 17 = .ok (.ireturn, 1) := by decide +kernel
theorem dX12_keyAt_0 : decode cX12_keyAt 0 = .ok (.iconst 0, 1) := by decide +kernel
theorem dX12_keyAt_1 : decode cX12_keyAt 1 = .ok (.istore_n 1, 1) := by decide +kernel
theorem dX12_keyAt_2 : decode cX12_keyAt 2 = .ok (.iconst 1, 1) := by decide +kernel
theorem dX12_keyAt_3 : decode cX12_keyAt 3 = .ok (.istore_n 2, 1) := by decide +kernel
theorem dX12_keyAt_4 : decode cX12_keyAt 4 = .ok (.iload_n 2, 1) := by decide +kernel
theorem dX12_keyAt_5 : decode cX12_keyAt 5 = .ok (.ldc 121, 2) := by decide +kernel
theorem dX12_keyAt_7 : decode cX12_keyAt 7 = .ok (.invokevirtual 123, 3) := by decide +kernel
theorem dX12_keyAt_10 : decode cX12_keyAt 10 = .ok (.if_icmp .ge 113, 3) := by decide +kernel
theorem dX12_keyAt_13 : decode cX12_keyAt 13 = .ok (.iconst 0, 1) := by decide +kernel
theorem dX12_keyAt_14 : decode cX12_keyAt 14 = .ok (.istore_n 3, 1) := by decide +kernel
theorem dX12_keyAt_15 : decode cX12_keyAt 15 = .ok (.ldc 121, 2) := by decide +kernel
theorem dX12_keyAt_17 : decode cX12_keyAt 17 = .ok (.iload_n 2, 1) := by decide +kernel
theorem dX12_keyAt_18 : decode cX12_keyAt 18 = .ok (.iload_n 3, 1) := by decide +kernel
theorem dX12_keyAt_19 : decode cX12_keyAt 19 = .ok (.iadd, 1) := by decide +kernel
theorem dX12_keyAt_20 : decode cX12_keyAt 20 = .ok (.invokevirtual 129, 3) := by decide +kernel
theorem dX12_keyAt_23 : decode cX12_keyAt 23 = .ok (.bipush 32, 2) := by decide +kernel
theorem dX12_keyAt_25 : decode cX12_keyAt 25 = .ok (.if_icmp .eq 44, 3) := by decide +kernel
theorem dX12_keyAt_28 : decode cX12_keyAt 28 = .ok (.aload_n 0, 1) := by decide +kernel
theorem dX12_keyAt_29 : decode cX12_keyAt 29 = .ok (.getfield 133, 3) := by decide +kernel
theorem dX12_keyAt_32 : decode cX12_keyAt 32 = .ok (.iload_n 3, 1) := by decide +kernel
theorem dX12_keyAt_33 : decode cX12_keyAt 33 = .ok (.iadd, 1) := by decide +kernel
theorem dX12_keyAt_34 : decode cX12_keyAt 34 = .ok (.aload_n 0, 1) := by decide +kernel
theorem dX12_keyAt_35 : decode cX12_keyAt 35 = .ok (.getfield 136, 3) := by decide +kernel
theorem dX12_keyAt_38 : decode cX12_keyAt 38 = .ok (.if_icmp .ge 31, 3) := by decide +kernel
theorem dX12_keyAt_41 : decode cX12_keyAt 41 = .ok (.aload_n 0, 1) := by decide +kernel
theorem dX12_keyAt_42 : decode cX12_keyAt 42 = .ok (.getfield 37, 3) := by decide +kernel
theorem dX12_keyAt_45 : decode cX12_keyAt 45 = .ok (.aload_n 0, 1) := by decide +kernel
theorem dX12_keyAt_46 : decode cX12_keyAt 46 = .ok (.getfield 133, 3) := by decide +kernel
theorem dX12_keyAt_49 : decode cX12_keyAt 49 = .ok (.iload_n 3, 1) := by decide +kernel
theorem dX12_keyAt_50 : decode cX12_keyAt 50 = .ok (.iadd, 1) := by decide +kernel
theorem dX12_keyAt_51 : decode cX12_keyAt 51 = .ok (.iaload, 1) := by decide +kernel
theorem dX12_keyAt_52 : decode cX12_keyAt 52 = .ok (.ldc 121, 2) := by decide +kernel
theorem dX12_keyAt_54 : decode cX12_keyAt 54 = .ok (.iload_n 2, 1) := by decide +kernel
theorem dX12_keyAt_55 : decode cX12_keyAt 55 = .ok (.iload_n 3, 1) := by decide +kernel
theorem dX12_keyAt_56 : decode cX12_keyAt 56 = .ok (.iadd, 1) := by decide +kernel
theorem dX12_keyAt_57 : decode cX12_keyAt 57 = .ok (.invokevirtual 129, 3) := by decide +kernel
theorem dX12_keyAt_60 : decode cX12_keyAt 60 = .ok (.if_icmp .ne 9, 3) := by decide +kernel
theorem dX12_keyAt_63 : decode cX12_keyAt 63 = .ok (.iinc 3 1, 3) := by decide +kernel
theorem dX12_keyAt_66 : decode cX12_keyAt 66 = .ok (.goto (-51), 3) := by decide +kernel
theorem dX12_keyAt_69 : decode cX12_keyAt 69 = .ok (.ldc 121, 2) := by decide +kernel
theorem dX12_keyAt_71 : decode cX12_keyAt 71 = .ok (.iload_n 2, 1) := by decide +kernel
theorem dX12_keyAt_72 : decode cX12_keyAt 72 = .ok (.iload_n 3, 1) := by decide +kernel
theorem dX12_keyAt_73 : decode cX12_keyAt 73 = .ok (.iadd, 1) := by decide +kernel
theorem dX12_keyAt_74 : decode cX12_keyAt 74 = .ok (.invokevirtual 129, 3) := by decide +kernel
theorem dX12_keyAt_77 : decode cX12_keyAt 77 = .ok (.bipush 32, 2) := by decide +kernel
theorem dX12_keyAt_79 : decode cX12_keyAt 79 = .ok (.if_icmp .ne 18, 3) := by decide +kernel
theorem dX12_keyAt_82 : decode cX12_keyAt 82 = .ok (.aload_n 0, 1) := by decide +kernel
theorem dX12_keyAt_83 : decode cX12_keyAt 83 = .ok (.getfield 133, 3) := by decide +kernel
theorem dX12_keyAt_86 : decode cX12_keyAt 86 = .ok (.iload_n 3, 1) := by decide +kernel
theorem dX12_keyAt_87 : decode cX12_keyAt 87 = .ok (.iadd, 1) := by decide +kernel
theorem dX12_keyAt_88 : decode cX12_keyAt 88 = .ok (.aload_n 0, 1) := by decide +kernel
theorem dX12_keyAt_89 : decode cX12_keyAt 89 = .ok (.getfield 136, 3) := by decide +kernel
theorem dX12_keyAt_92 : decode cX12_keyAt 92 = .ok (.if_icmp .ne 5, 3) := by decide +kernel
theorem dX12_keyAt_95 : decode cX12_keyAt 95 = .ok (.iload_n 1, 1) := by decide +kernel
theorem dX12_keyAt_96 : decode cX12_keyAt 96 = .ok (.ireturn, 1) := by decide +kernel
theorem dX12_keyAt_97 : decode cX12_keyAt 97 = .ok (.ldc 121, 2) := by decide +kernel
theorem dX12_keyAt_99 : decode cX12_keyAt 99 = .ok (.iload_n 2, 1) := by decide +kernel
theorem dX12_keyAt_100 : decode cX12_keyAt 100 = .ok (.invokevirtual 129, 3) := by decide +kernel
theorem dX12_keyAt_103 : decode cX12_keyAt 103 = .ok (.bipush 32, 2) := by decide +kernel
theorem dX12_keyAt_105 : decode cX12_keyAt 105 = .ok (.if_icmp .eq 9, 3) := by decide +kernel
theorem dX12_keyAt_108 : decode cX12_keyAt 108 = .ok (.iinc 2 1, 3) := by decide +kernel
theorem dX12_keyAt_111 : decode cX12_keyAt 111 = .ok (.goto (-14), 3) := by decide +kernel
theorem dX12_keyAt_114 : decode cX12_keyAt 114 = .ok (.iinc 2 1, 3) := by decide +kernel
theorem dX12_keyAt_117 : decode cX12_keyAt 117 = .ok (.iinc 1 1, 3) := by decide +kernel
theorem dX12_keyAt_120 : decode cX12_keyAt 120 = .ok (.goto (-116), 3) := by decide +kernel
theorem dX12_keyAt_123 : decode cX12_keyAt 123 = .ok (.bipush 13, 2) := by decide +kernel
theorem dX12_keyAt_125 : decode cX12_keyAt 125 = .ok (.ireturn, 1) := by decide +kernel
theorem dX12_next_0 : decode cX12_next 0 = .ok (.aload_n 0, 1) := by decide +kernel
theorem dX12_next_1 : decode cX12_next 1 = .ok (.aload_n 0, 1) := by decide +kernel
theorem dX12_next_2 : decode cX12_next 2 = .ok (.getfield 136, 3) := by decide +kernel
theorem dX12_next_5 : decode cX12_next 5 = .ok (.putfield 133, 3) := by decide +kernel
theorem dX12_next_8 : decode cX12_next 8 = .ok (.aload_n 0, 1) := by decide +kernel
theorem dX12_next_9 : decode cX12_next 9 = .ok (.aload_n 0, 1) := by decide +kernel
theorem dX12_next_10 : decode cX12_next 10 = .ok (.getfield 133, 3) := by decide +kernel
theorem dX12_next_13 : decode cX12_next 13 = .ok (.invokevirtual 139, 3) := by decide +kernel
theorem dX12_next_16 : decode cX12_next 16 = .ok (.bipush 10, 2) := by decide +kernel
theorem dX12_next_18 : decode cX12_next 18 = .ok (.if_icmp .eq 16, 3) := by decide +kernel
theorem dX12_next_21 : decode cX12_next 21 = .ok (.aload_n 0, 1) := by decide +kernel
theorem dX12_next_22 : decode cX12_next 22 = .ok (.aload_n 0, 1) := by decide +kernel
theorem dX12_next_23 : decode cX12_next 23 = .ok (.getfield 133, 3) := by decide +kernel
theorem dX12_next_26 : decode cX12_next 26 = .ok (.invokevirtual 139, 3) := by decide +kernel
theorem dX12_next_29 : decode cX12_next 29 = .ok (.bipush 32, 2) := by decide +kernel
theorem dX12_next_31 : decode cX12_next 31 = .ok (.if_icmp .ne 16, 3) := by decide +kernel
theorem dX12_next_34 : decode cX12_next 34 = .ok (.aload_n 0, 1) := by decide +kernel
theorem dX12_next_35 : decode cX12_next 35 = .ok (.dup, 1) := by decide +kernel
theorem dX12_next_36 : decode cX12_next 36 = .ok (.getfield 133, 3) := by decide +kernel
theorem dX12_next_39 : decode cX12_next 39 = .ok (.iconst 1, 1) := by decide +kernel
theorem dX12_next_40 : decode cX12_next 40 = .ok (.iadd, 1) := by decide +kernel
theorem dX12_next_41 : decode cX12_next 41 = .ok (.putfield 133, 3) := by decide +kernel
theorem dX12_next_44 : decode cX12_next 44 = .ok (.goto (-36), 3) := by decide +kernel
theorem dX12_next_47 : decode cX12_next 47 = .ok (.aload_n 0, 1) := by decide +kernel
theorem dX12_next_48 : decode cX12_next 48 = .ok (.aload_n 0, 1) := by decide +kernel
theorem dX12_next_49 : decode cX12_next 49 = .ok (.getfield 133, 3) := by decide +kernel
theorem dX12_next_52 : decode cX12_next 52 = .ok (.putfield 136, 3) := by decide +kernel
theorem dX12_next_55 : decode cX12_next 55 = .ok (.aload_n 0, 1) := by decide +kernel
theorem dX12_next_56 : decode cX12_next 56 = .ok (.getfield 133, 3) := by decide +kernel
theorem dX12_next_59 : decode cX12_next 59 = .ok (.aload_n 0, 1) := by decide +kernel
theorem dX12_next_60 : decode cX12_next 60 = .ok (.getfield 118, 3) := by decide +kernel
theorem dX12_next_63 : decode cX12_next 63 = .ok (.if_icmp .lt 12, 3) := by decide +kernel
theorem dX12_next_66 : decode cX12_next 66 = .ok (.aload_n 0, 1) := by decide +kernel
theorem dX12_next_67 : decode cX12_next 67 = .ok (.bipush 18, 2) := by decide +kernel
theorem dX12_next_69 : decode cX12_next 69 = .ok (.putfield 142, 3) := by decide +kernel
theorem dX12_next_72 : decode cX12_next 72 = .ok (.goto 234, 3) := by decide +kernel
theorem dX12_next_75 : decode cX12_next 75 = .ok (.aload_n 0, 1) := by decide +kernel
theorem dX12_next_76 : decode cX12_next 76 = .ok (.aload_n 0, 1) := by decide +kernel
theorem dX12_next_77 : decode cX12_next 77 = .ok (.getfield 133, 3) := by decide +kernel
theorem dX12_next_80 : decode cX12_next 80 = .ok (.invokevirtual 139, 3) := by decide +kernel
theorem dX12_next_83 : decode cX12_next 83 = .ok (.invokestatic 145, 3) := by decide +kernel
theorem dX12_next_86 : decode cX12_next 86 = .ok (.ifCond .eq 41, 3) := by decide +kernel
theorem dX12_next_89 : decode cX12_next 89 = .ok (.aload_n 0, 1) := by decide +kernel
theorem dX12_next_90 : decode cX12_next 90 = .ok (.aload_n 0, 1) := by decide +kernel
theorem dX12_next_91 : decode cX12_next 91 = .ok (.getfield 136, 3) := by decide +kernel
theorem dX12_next_94 : decode cX12_next 94 = .ok (.invokevirtual 139, 3) := by decide +kernel
theorem dX12_next_97 : decode cX12_next 97 = .ok (.invokestatic 145, 3) := by decide +kernel
theorem dX12_next_100 : decode cX12_next 100 = .ok (.ifCond .eq 16, 3) := by decide +kernel
theorem dX12_next_103 : decode cX12_next 103 = .ok (.aload_n 0, 1) := by decide +kernel
theorem dX12_next_104 : decode cX12_next 104 = .ok (.dup, 1) := by decide +kernel
theorem dX12_next_105 : decode cX12_next 105 = .ok (.getfield 136, 3) := by decide +kernel
theorem dX12_next_108 : decode cX12_next 108 = .ok (.iconst 1, 1) := by decide +kernel
theorem dX12_next_109 : decode cX12_next 109 = .ok (.iadd, 1) := by decide +kernel
theorem dX12_next_110 : decode cX12_next 110 = .ok (.putfield 136, 3) := by decide +kernel
theorem dX12_next_113 : decode cX12_next 113 = .ok (.goto (-24), 3) := by decide +kernel
theorem dX12_next_116 : decode cX12_next 116 = .ok (.aload_n 0, 1) := by decide +kernel
theorem dX12_next_117 : decode cX12_next 117 = .ok (.aload_n 0, 1) := by decide +kernel
theorem dX12_next_118 : decode cX12_next 118 = .ok (.invokevirtual 149, 3) := by decide +kernel
theorem dX12_next_121 : decode cX12_next 121 = .ok (.putfield 142, 3) := by decide +kernel
theorem dX12_next_124 : decode cX12_next 124 = .ok (.goto 182, 3) := by decide +kernel
theorem dX12_next_127 : decode cX12_next 127 = .ok (.aload_n 0, 1) := by decide +kernel
theorem dX12_next_128 : decode cX12_next 128 = .ok (.aload_n 0, 1) := by decide +kernel
theorem dX12_next_129 : decode cX12_next 129 = .ok (.getfield 133, 3) := by decide +kernel
theorem dX12_next_132 : decode cX12_next 132 = .ok (.invokevirtual 139, 3) := by decide +kernel
theorem dX12_next_135 : decode cX12_next 135 = .ok (.invokestatic 152, 3) := by decide +kernel
theorem dX12_next_138 : decode cX12_next 138 = .ok (.ifCond .eq 98, 3) := by decide +kernel
theorem dX12_next_141 : decode cX12_next 141 = .ok (.aload_n 0, 1) := by decide +kernel
theorem dX12_next_142 : decode cX12_next 142 = .ok (.iconst 0, 1) := by decide +kernel
theorem dX12_next_143 : decode cX12_next 143 = .ok (.putfield 155, 3) := by decide +kernel
theorem dX12_next_146 : decode cX12_next 146 = .ok (.aload_n 0, 1) := by decide +kernel
theorem dX12_next_147 : decode cX12_next 147 = .ok (.aload_n 0, 1) := by decide +kernel
theorem dX12_next_148 : decode cX12_next 148 = .ok (.getfield 136, 3) := by decide +kernel
theorem dX12_next_151 : decode cX12_next 151 = .ok (.invokevirtual 139, 3) := by decide +kernel
theorem dX12_next_154 : decode cX12_next 154 = .ok (.invokestatic 152, 3) := by decide +kernel
theorem dX12_next_157 : decode cX12_next 157 = .ok (.ifCond .eq 52, 3) := by decide +kernel
theorem dX12_next_160 : decode cX12_next 160 = .ok (.aload_n 0, 1) := by decide +kernel
theorem dX12_next_161 : decode cX12_next 161 = .ok (.getfield 136, 3) := by decide +kernel
theorem dX12_next_164 : decode cX12_next 164 = .ok (.aload_n 0, 1) := by decide +kernel
theorem dX12_next_165 : decode cX12_next 165 = .ok (.getfield 133, 3) := by decide +kernel
theorem dX12_next_168 : decode cX12_next 168 = .ok (.isub, 1) := by decide +kernel
theorem dX12_next_169 : decode cX12_next 169 = .ok (.iconst 3, 1) := by decide +kernel
theorem dX12_next_170 : decode cX12_next 170 = .ok (.if_icmp .ge 26, 3) := by decide +kernel
theorem dX12_next_173 : decode cX12_next 173 = .ok (.aload_n 0, 1) := by decide +kernel
theorem dX12_next_174 : decode cX12_next 174 = .ok (.bipush 10, 2) := by decide +kernel
theorem dX12_next_176 : decode cX12_next 176 = .ok (.aload_n 0, 1) := by decide +kernel
theorem dX12_next_177 : decode cX12_next 177 = .ok (.getfield 155, 3) := by decide +kernel
theorem dX12_next_180 : decode cX12_next 180 = .ok (.imul, 1) := by decide +kernel
theorem dX12_next_181 : decode cX12_next 181 = .ok (.aload_n 0, 1) := by decide +kernel
theorem dX12_next_182 : decode cX12_next 182 = .ok (.aload_n 0, 1) := by decide +kernel
theorem dX12_next_183 : decode cX12_next 183 = .ok (.getfield 136, 3) := by decide +kernel
theorem dX12_next_186 : decode cX12_next 186 = .ok (.invokevirtual 139, 3) := by decide +kernel
theorem dX12_next_189 : decode cX12_next 189 = .ok (.iadd, 1) := by decide +kernel
theorem dX12_next_190 : decode cX12_next 190 = .ok (.bipush 48, 2) := by decide +kernel
theorem dX12_next_192 : decode cX12_next 192 = .ok (.isub, 1) := by decide +kernel
theorem dX12_next_193 : decode cX12_next 193 = .ok (.putfield 155, 3) := by decide +kernel
theorem dX12_next_196 : decode cX12_next 196 = .ok (.aload_n 0, 1) := by decide +kernel
theorem dX12_next_197 : decode cX12_next 197 = .ok (.dup, 1) := by decide +kernel
theorem dX12_next_198 : decode cX12_next 198 = .ok (.getfield 136, 3) := by decide +kernel
theorem dX12_next_201 : decode cX12_next 201 = .ok (.iconst 1, 1) := by decide +kernel
theorem dX12_next_202 : decode cX12_next 202 = .ok (.iadd, 1) := by decide +kernel
theorem dX12_next_203 : decode cX12_next 203 = .ok (.putfield 136, 3) := by decide +kernel
theorem dX12_next_206 : decode cX12_next 206 = .ok (.goto (-60), 3) := by decide +kernel
theorem dX12_next_209 : decode cX12_next 209 = .ok (.aload_n 0, 1) := by decide +kernel
theorem dX12_next_210 : decode cX12_next 210 = .ok (.aload_n 0, 1) := by decide +kernel
theorem dX12_next_211 : decode cX12_next 211 = .ok (.getfield 136, 3) := by decide +kernel
theorem dX12_next_214 : decode cX12_next 214 = .ok (.aload_n 0, 1) := by decide +kernel
theorem dX12_next_215 : decode cX12_next 215 = .ok (.getfield 133, 3) := by decide +kernel
theorem dX12_next_218 : decode cX12_next 218 = .ok (.isub, 1) := by decide +kernel
theorem dX12_next_219 : decode cX12_next 219 = .ok (.iconst 3, 1) := by decide +kernel
theorem dX12_next_220 : decode cX12_next 220 = .ok (.if_icmp .le 8, 3) := by decide +kernel
theorem dX12_next_223 : decode cX12_next 223 = .ok (.bipush 19, 2) := by decide +kernel
theorem dX12_next_225 : decode cX12_next 225 = .ok (.goto 5, 3) := by decide +kernel
theorem dX12_next_228 : decode cX12_next 228 = .ok (.bipush 14, 2) := by decide +kernel
theorem dX12_next_230 : decode cX12_next 230 = .ok (.putfield 142, 3) := by decide +kernel
theorem dX12_next_233 : decode cX12_next 233 = .ok (.goto 73, 3) := by decide +kernel
theorem dX12_next_236 : decode cX12_next 236 = .ok (.aload_n 0, 1) := by decide +kernel
theorem dX12_next_237 : decode cX12_next 237 = .ok (.dup, 1) := by decide +kernel
theorem dX12_next_238 : decode cX12_next 238 = .ok (.getfield 136, 3) := by decide +kernel
theorem dX12_next_241 : decode cX12_next 241 = .ok (.iconst 1, 1) := by decide +kernel
theorem dX12_next_242 : decode cX12_next 242 = .ok (.iadd, 1) := by decide +kernel
theorem dX12_next_243 : decode cX12_next 243 = .ok (.putfield 136, 3) := by decide +kernel
theorem dX12_next_246 : decode cX12_next 246 = .ok (.aload_n 0, 1) := by decide +kernel
theorem dX12_next_247 : decode cX12_next 247 = .ok (.aload_n 0, 1) := by decide +kernel
theorem dX12_next_248 : decode cX12_next 248 = .ok (.aload_n 0, 1) := by decide +kernel
theorem dX12_next_249 : decode cX12_next 249 = .ok (.getfield 133, 3) := by decide +kernel
theorem dX12_next_252 : decode cX12_next 252 = .ok (.invokevirtual 139, 3) := by decide +kernel
theorem dX12_next_255 : decode cX12_next 255 = .ok (.bipush 59, 2) := by decide +kernel
theorem dX12_next_257 : decode cX12_next 257 = .ok (.if_icmp .ne 8, 3) := by decide +kernel
theorem dX12_next_260 : decode cX12_next 260 = .ok (.bipush 15, 2) := by decide +kernel
theorem dX12_next_262 : decode cX12_next 262 = .ok (.goto 41, 3) := by decide +kernel
theorem dX12_next_265 : decode cX12_next 265 = .ok (.aload_n 0, 1) := by decide +kernel
theorem dX12_next_266 : decode cX12_next 266 = .ok (.aload_n 0, 1) := by decide +kernel
theorem dX12_next_267 : decode cX12_next 267 = .ok (.getfield 133, 3) := by decide +kernel
theorem dX12_next_270 : decode cX12_next 270 = .ok (.invokevirtual 139, 3) := by decide +kernel
theorem dX12_next_273 : decode cX12_next 273 = .ok (.bipush 40, 2) := by decide +kernel
theorem dX12_next_275 : decode cX12_next 275 = .ok (.if_icmp .ne 8, 3) := by decide +kernel
theorem dX12_next_278 : decode cX12_next 278 = .ok (.bipush 16, 2) := by decide +kernel
theorem dX12_next_280 : decode cX12_next 280 = .ok (.goto 23, 3) := by decide +kernel
theorem dX12_next_283 : decode cX12_next 283 = .ok (.aload_n 0, 1) := by decide +kernel
theorem dX12_next_284 : decode cX12_next 284 = .ok (.aload_n 0, 1) := by decide +kernel
theorem dX12_next_285 : decode cX12_next 285 = .ok (.getfield 133, 3) := by decide +kernel
theorem dX12_next_288 : decode cX12_next 288 = .ok (.invokevirtual 139, 3) := by decide +kernel
theorem dX12_next_291 : decode cX12_next 291 = .ok (.bipush 41, 2) := by decide +kernel
theorem dX12_next_293 : decode cX12_next 293 = .ok (.if_icmp .ne 8, 3) := by decide +kernel
theorem dX12_next_296 : decode cX12_next 296 = .ok (.bipush 17, 2) := by decide +kernel
theorem dX12_next_298 : decode cX12_next 298 = .ok (.goto 5, 3) := by decide +kernel
theorem dX12_next_301 : decode cX12_next 301 = .ok (.bipush 19, 2) := by decide +kernel
theorem dX12_next_303 : decode cX12_next 303 = .ok (.putfield 142, 3) := by decide +kernel
theorem dX12_next_306 : decode cX12_next 306 = .ok (.return_, 1) := by decide +kernel
theorem dX12_fails_0 : decode cX12_fails 0 = .ok (.aload_n 0, 1) := by decide +kernel
theorem dX12_fails_1 : decode cX12_fails 1 = .ok (.getfield 158, 3) := by decide +kernel
theorem dX12_fails_4 : decode cX12_fails 4 = .ok (.ifCond .eq 4, 3) := by decide +kernel
theorem dX12_fails_7 : decode cX12_fails 7 = .ok (.return_, 1) := by decide +kernel
theorem dX12_fails_8 : decode cX12_fails 8 = .ok (.aload_n 0, 1) := by decide +kernel
theorem dX12_fails_9 : decode cX12_fails 9 = .ok (.aload_n 0, 1) := by decide +kernel
theorem dX12_fails_10 : decode cX12_fails 10 = .ok (.getfield 142, 3) := by decide +kernel
theorem dX12_fails_13 : decode cX12_fails 13 = .ok (.bipush 19, 2) := by decide +kernel
theorem dX12_fails_15 : decode cX12_fails 15 = .ok (.if_icmp .ne 7, 3) := by decide +kernel
theorem dX12_fails_18 : decode cX12_fails 18 = .ok (.iconst 1, 1) := by decide +kernel
theorem dX12_fails_19 : decode cX12_fails 19 = .ok (.goto 4, 3) := by decide +kernel
theorem dX12_fails_22 : decode cX12_fails 22 = .ok (.iload_n 1, 1) := by decide +kernel
theorem dX12_fails_23 : decode cX12_fails 23 = .ok (.putfield 158, 3) := by decide +kernel
theorem dX12_fails_26 : decode cX12_fails 26 = .ok (.aload_n 0, 1) := by decide +kernel
theorem dX12_fails_27 : decode cX12_fails 27 = .ok (.aload_n 0, 1) := by decide +kernel
theorem dX12_fails_28 : decode cX12_fails 28 = .ok (.getfield 133, 3) := by decide +kernel
theorem dX12_fails_31 : decode cX12_fails 31 = .ok (.putfield 161, 3) := by decide +kernel
theorem dX12_fails_34 : decode cX12_fails 34 = .ok (.return_, 1) := by decide +kernel
theorem dX12_is_0 : decode cX12_is 0 = .ok (.aload_n 0, 1) := by decide +kernel
theorem dX12_is_1 : decode cX12_is 1 = .ok (.getfield 158, 3) := by decide +kernel
theorem dX12_is_4 : decode cX12_is 4 = .ok (.ifCond .ne 15, 3) := by decide +kernel
theorem dX12_is_7 : decode cX12_is 7 = .ok (.aload_n 0, 1) := by decide +kernel
theorem dX12_is_8 : decode cX12_is 8 = .ok (.getfield 142, 3) := by decide +kernel
theorem dX12_is_11 : decode cX12_is 11 = .ok (.iload_n 1, 1) := by decide +kernel
theorem dX12_is_12 : decode cX12_is 12 = .ok (.if_icmp .ne 7, 3) := by decide +kernel
theorem dX12_is_15 : decode cX12_is 15 = .ok (.iconst 1, 1) := by decide +kernel
theorem dX12_is_16 : decode cX12_is 16 = .ok (.goto 4, 3) := by decide +kernel
theorem dX12_is_19 : decode cX12_is 19 = .ok (.iconst 0, 1) := by decide +kernel
theorem dX12_is_20 : decode cX12_is 20 = .ok (.ireturn, 1) := by decide +kernel
theorem dX12_eats_0 : decode cX12_eats 0 = .ok (.aload_n 0, 1) := by decide +kernel
theorem dX12_eats_1 : decode cX12_eats 1 = .ok (.iload_n 1, 1) := by decide +kernel
theorem dX12_eats_2 : decode cX12_eats 2 = .ok (.invokevirtual 164, 3) := by decide +kernel
theorem dX12_eats_5 : decode cX12_eats 5 = .ok (.ifCond .ne 5, 3) := by decide +kernel
theorem dX12_eats_8 : decode cX12_eats 8 = .ok (.iconst 0, 1) := by decide +kernel
theorem dX12_eats_9 : decode cX12_eats 9 = .ok (.ireturn, 1) := by decide +kernel
theorem dX12_eats_10 : decode cX12_eats 10 = .ok (.aload_n 0, 1) := by decide +kernel
theorem dX12_eats_11 : decode cX12_eats 11 = .ok (.invokevirtual 167, 3) := by decide +kernel
theorem dX12_eats_14 : decode cX12_eats 14 = .ok (.iconst 1, 1) := by decide +kernel
theorem dX12_eats_15 : decode cX12_eats 15 = .ok (.ireturn, 1) := by decide +kernel
theorem dX12_needs_0 : decode cX12_needs 0 = .ok (.aload_n 0, 1) := by decide +kernel
theorem dX12_needs_1 : decode cX12_needs 1 = .ok (.iload_n 1, 1) := by decide +kernel
theorem dX12_needs_2 : decode cX12_needs 2 = .ok (.invokevirtual 170, 3) := by decide +kernel
theorem dX12_needs_5 : decode cX12_needs 5 = .ok (.ifCond .ne 8, 3) := by decide +kernel
theorem dX12_needs_8 : decode cX12_needs 8 = .ok (.aload_n 0, 1) := by decide +kernel
theorem dX12_needs_9 : decode cX12_needs 9 = .ok (.iconst 2, 1) := by decide +kernel
theorem dX12_needs_10 : decode cX12_needs 10 = .ok (.invokevirtual 173, 3) := by decide +kernel
theorem dX12_needs_13 : decode cX12_needs 13 = .ok (.return_, 1) := by decide +kernel
theorem dX12_reads_0 : decode cX12_reads 0 = .ok (.aload_n 0, 1) := by decide +kernel
theorem dX12_reads_1 : decode cX12_reads 1 = .ok (.bipush 14, 2) := by decide +kernel
theorem dX12_reads_3 : decode cX12_reads 3 = .ok (.invokevirtual 164, 3) := by decide +kernel
theorem dX12_reads_6 : decode cX12_reads 6 = .ok (.ifCond .ne 11, 3) := by decide +kernel
theorem dX12_reads_9 : decode cX12_reads 9 = .ok (.aload_n 0, 1) := by decide +kernel
theorem dX12_reads_10 : decode cX12_reads 10 = .ok (.iconst 2, 1) := by decide +kernel
theorem dX12_reads_11 : decode cX12_reads 11 = .ok (.invokevirtual 173, 3) := by decide +kernel
theorem dX12_reads_14 : decode cX12_reads 14 = .ok (.goto 35, 3) := by decide +kernel
theorem dX12_reads_17 : decode cX12_reads 17 = .ok (.aload_n 0, 1) := by decide +kernel
theorem dX12_reads_18 : decode cX12_reads 18 = .ok (.getfield 155, 3) := by decide +kernel
theorem dX12_reads_21 : decode cX12_reads 21 = .ok (.i2l, 1) := by decide +kernel
theorem dX12_reads_22 : decode cX12_reads 22 = .ok (.iload_n 1, 1) := by decide +kernel
theorem dX12_reads_23 : decode cX12_reads 23 = .ok (.i2l, 1) := by decide +kernel
theorem dX12_reads_24 : decode cX12_reads 24 = .ok (.iload_n 2, 1) := by decide +kernel
theorem dX12_reads_25 : decode cX12_reads 25 = .ok (.i2l, 1) := by decide +kernel
theorem dX12_reads_26 : decode cX12_reads 26 = .ok (.invokestatic 81, 3) := by decide +kernel
theorem dX12_reads_29 : decode cX12_reads 29 = .ok (.ifCond .ne 11, 3) := by decide +kernel
theorem dX12_reads_32 : decode cX12_reads 32 = .ok (.aload_n 0, 1) := by decide +kernel
theorem dX12_reads_33 : decode cX12_reads 33 = .ok (.iconst 3, 1) := by decide +kernel
theorem dX12_reads_34 : decode cX12_reads 34 = .ok (.invokevirtual 173, 3) := by decide +kernel
theorem dX12_reads_37 : decode cX12_reads 37 = .ok (.goto 12, 3) := by decide +kernel
theorem dX12_reads_40 : decode cX12_reads 40 = .ok (.iload_n 3, 1) := by decide +kernel
theorem dX12_reads_41 : decode cX12_reads 41 = .ok (.ifCond .eq 8, 3) := by decide +kernel
theorem dX12_reads_44 : decode cX12_reads 44 = .ok (.aload_n 0, 1) := by decide +kernel
theorem dX12_reads_45 : decode cX12_reads 45 = .ok (.iconst 4, 1) := by decide +kernel
theorem dX12_reads_46 : decode cX12_reads 46 = .ok (.invokevirtual 173, 3) := by decide +kernel
theorem dX12_reads_49 : decode cX12_reads 49 = .ok (.aload_n 0, 1) := by decide +kernel
theorem dX12_reads_50 : decode cX12_reads 50 = .ok (.getfield 155, 3) := by decide +kernel
theorem dX12_reads_53 : decode cX12_reads 53 = .ok (.istore 4, 2) := by decide +kernel
theorem dX12_reads_55 : decode cX12_reads 55 = .ok (.aload_n 0, 1) := by decide +kernel
theorem dX12_reads_56 : decode cX12_reads 56 = .ok (.getfield 158, 3) := by decide +kernel
theorem dX12_reads_59 : decode cX12_reads 59 = .ok (.ifCond .ne 7, 3) := by decide +kernel
theorem dX12_reads_62 : decode cX12_reads 62 = .ok (.aload_n 0, 1) := by decide +kernel
theorem dX12_reads_63 : decode cX12_reads 63 = .ok (.invokevirtual 167, 3) := by decide +kernel
theorem dX12_reads_66 : decode cX12_reads 66 = .ok (.iload 4, 2) := by decide +kernel
theorem dX12_reads_68 : decode cX12_reads 68 = .ok (.ireturn, 1) := by decide +kernel
theorem dX12_emit_0 : decode cX12_emit 0 = .ok (.aload_n 0, 1) := by decide +kernel
theorem dX12_emit_1 : decode cX12_emit 1 = .ok (.getfield 31, 3) := by decide +kernel
theorem dX12_emit_4 : decode cX12_emit 4 = .ok (.sipush 2080, 3) := by decide +kernel
theorem dX12_emit_7 : decode cX12_emit 7 = .ok (.iconst 2, 1) := by decide +kernel
theorem dX12_emit_8 : decode cX12_emit 8 = .ok (.aload_n 0, 1) := by decide +kernel
theorem dX12_emit_9 : decode cX12_emit 9 = .ok (.getfield 177, 3) := by decide +kernel
theorem dX12_emit_12 : decode cX12_emit 12 = .ok (.imul, 1) := by decide +kernel
theorem dX12_emit_13 : decode cX12_emit 13 = .ok (.iadd, 1) := by decide +kernel
theorem dX12_emit_14 : decode cX12_emit 14 = .ok (.iload_n 1, 1) := by decide +kernel
theorem dX12_emit_15 : decode cX12_emit 15 = .ok (.iastore, 1) := by decide +kernel
theorem dX12_emit_16 : decode cX12_emit 16 = .ok (.aload_n 0, 1) := by decide +kernel
theorem dX12_emit_17 : decode cX12_emit 17 = .ok (.getfield 31, 3) := by decide +kernel
theorem dX12_emit_20 : decode cX12_emit 20 = .ok (.sipush 2080, 3) := by decide +kernel
theorem dX12_emit_23 : decode cX12_emit 23 = .ok (.iconst 2, 1) := by decide +kernel
theorem dX12_emit_24 : decode cX12_emit 24 = .ok (.aload_n 0, 1) := by decide +kernel
theorem dX12_emit_25 : decode cX12_emit 25 = .ok (.getfield 177, 3) := by decide +kernel
theorem dX12_emit_28 : decode cX12_emit 28 = .ok (.imul, 1) := by decide +kernel
theorem dX12_emit_29 : decode cX12_emit 29 = .ok (.iadd, 1) := by decide +kernel
theorem dX12_emit_30 : decode cX12_emit 30 = .ok (.iconst 1, 1) := by decide +kernel
theorem dX12_emit_31 : decode cX12_emit 31 = .ok (.iadd, 1) := by decide +kernel
theorem dX12_emit_32 : decode cX12_emit 32 = .ok (.iload_n 2, 1) := by decide +kernel
theorem dX12_emit_33 : decode cX12_emit 33 = .ok (.iastore, 1) := by decide +kernel
theorem dX12_emit_34 : decode cX12_emit 34 = .ok (.aload_n 0, 1) := by decide +kernel
theorem dX12_emit_35 : decode cX12_emit 35 = .ok (.dup, 1) := by decide +kernel
theorem dX12_emit_36 : decode cX12_emit 36 = .ok (.getfield 177, 3) := by decide +kernel
theorem dX12_emit_39 : decode cX12_emit 39 = .ok (.iconst 1, 1) := by decide +kernel
theorem dX12_emit_40 : decode cX12_emit 40 = .ok (.iadd, 1) := by decide +kernel
theorem dX12_emit_41 : decode cX12_emit 41 = .ok (.putfield 177, 3) := by decide +kernel
theorem dX12_emit_44 : decode cX12_emit 44 = .ok (.return_, 1) := by decide +kernel
theorem dX12_test_0 : decode cX12_test 0 = .ok (.aload_n 0, 1) := by decide +kernel
theorem dX12_test_1 : decode cX12_test 1 = .ok (.invokevirtual 180, 3) := by decide +kernel
theorem dX12_test_4 : decode cX12_test 4 = .ok (.aload_n 0, 1) := by decide +kernel
theorem dX12_test_5 : decode cX12_test 5 = .ok (.iconst 4, 1) := by decide +kernel
theorem dX12_test_6 : decode cX12_test 6 = .ok (.invokevirtual 170, 3) := by decide +kernel
theorem dX12_test_9 : decode cX12_test 9 = .ok (.ifCond .eq 23, 3) := by decide +kernel
theorem dX12_test_12 : decode cX12_test 12 = .ok (.aload_n 0, 1) := by decide +kernel
theorem dX12_test_13 : decode cX12_test 13 = .ok (.invokevirtual 180, 3) := by decide +kernel
theorem dX12_test_16 : decode cX12_test 16 = .ok (.aload_n 0, 1) := by decide +kernel
theorem dX12_test_17 : decode cX12_test 17 = .ok (.getfield 158, 3) := by decide +kernel
theorem dX12_test_20 : decode cX12_test 20 = .ok (.ifCond .ne (-16), 3) := by decide +kernel
theorem dX12_test_23 : decode cX12_test 23 = .ok (.aload_n 0, 1) := by decide +kernel
theorem dX12_test_24 : decode cX12_test 24 = .ok (.iconst 4, 1) := by decide +kernel
theorem dX12_test_25 : decode cX12_test 25 = .ok (.iconst 0, 1) := by decide +kernel
theorem dX12_test_26 : decode cX12_test 26 = .ok (.invokevirtual 183, 3) := by decide +kernel
theorem dX12_test_29 : decode cX12_test 29 = .ok (.goto (-25), 3) := by decide +kernel
theorem dX12_test_32 : decode cX12_test 32 = .ok (.return_, 1) := by decide +kernel
theorem dX12_parts_0 : decode cX12_parts 0 = .ok (.aload_n 0, 1) := by decide +kernel
theorem dX12_parts_1 : decode cX12_parts 1 = .ok (.invokevirtual 187, 3) := by decide +kernel
theorem dX12_parts_4 : decode cX12_parts 4 = .ok (.aload_n 0, 1) := by decide +kernel
theorem dX12_parts_5 : decode cX12_parts 5 = .ok (.iconst 3, 1) := by decide +kernel
theorem dX12_parts_6 : decode cX12_parts 6 = .ok (.invokevirtual 170, 3) := by decide +kernel
theorem dX12_parts_9 : decode cX12_parts 9 = .ok (.ifCond .eq 23, 3) := by decide +kernel
theorem dX12_parts_12 : decode cX12_parts 12 = .ok (.aload_n 0, 1) := by decide +kernel
theorem dX12_parts_13 : decode cX12_parts 13 = .ok (.invokevirtual 187, 3) := by decide +kernel
theorem dX12_parts_16 : decode cX12_parts 16 = .ok (.aload_n 0, 1) := by decide +kernel
theorem dX12_parts_17 : decode cX12_parts 17 = .ok (.getfield 158, 3) := by decide +kernel
theorem dX12_parts_20 : decode cX12_parts 20 = .ok (.ifCond .ne (-16), 3) := by decide +kernel
theorem dX12_parts_23 : decode cX12_parts 23 = .ok (.aload_n 0, 1) := by decide +kernel
theorem dX12_parts_24 : decode cX12_parts 24 = .ok (.iconst 3, 1) := by decide +kernel
theorem dX12_parts_25 : decode cX12_parts 25 = .ok (.iconst 0, 1) := by decide +kernel
theorem dX12_parts_26 : decode cX12_parts 26 = .ok (.invokevirtual 183, 3) := by decide +kernel
theorem dX12_parts_29 : decode cX12_parts 29 = .ok (.goto (-25), 3) := by decide +kernel
theorem dX12_parts_32 : decode cX12_parts 32 = .ok (.return_, 1) := by decide +kernel
theorem dX12_fact_0 : decode cX12_fact 0 = .ok (.aload_n 0, 1) := by decide +kernel
theorem dX12_fact_1 : decode cX12_fact 1 = .ok (.getfield 158, 3) := by decide +kernel
theorem dX12_fact_4 : decode cX12_fact 4 = .ok (.ifCond .eq 4, 3) := by decide +kernel
theorem dX12_fact_7 : decode cX12_fact 7 = .ok (.return_, 1) := by decide +kernel
theorem dX12_fact_8 : decode cX12_fact 8 = .ok (.aload_n 0, 1) := by decide +kernel
theorem dX12_fact_9 : decode cX12_fact 9 = .ok (.getfield 142, 3) := by decide +kernel
theorem dX12_fact_12 : decode cX12_fact 12 = .ok (.istore_n 1, 1) := by decide +kernel
theorem dX12_fact_13 : decode cX12_fact 13 = .ok (.iload_n 1, 1) := by decide +kernel
theorem dX12_fact_14 : decode cX12_fact 14 = .ok (.iconst 2, 1) := by decide +kernel
theorem dX12_fact_15 : decode cX12_fact 15 = .ok (.if_icmp .eq 9, 3) := by decide +kernel
theorem dX12_fact_18 : decode cX12_fact 18 = .ok (.iload_n 1, 1) := by decide +kernel
theorem dX12_fact_19 : decode cX12_fact 19 = .ok (.bipush 16, 2) := by decide +kernel
theorem dX12_fact_21 : decode cX12_fact 21 = .ok (.if_icmp .ne 94, 3) := by decide +kernel
theorem dX12_fact_24 : decode cX12_fact 24 = .ok (.aload_n 0, 1) := by decide +kernel
theorem dX12_fact_25 : decode cX12_fact 25 = .ok (.getfield 190, 3) := by decide +kernel
theorem dX12_fact_28 : decode cX12_fact 28 = .ok (.bipush 8, 2) := by decide +kernel
theorem dX12_fact_30 : decode cX12_fact 30 = .ok (.if_icmp .ne 8, 3) := by decide +kernel
theorem dX12_fact_33 : decode cX12_fact 33 = .ok (.aload_n 0, 1) := by decide +kernel
theorem dX12_fact_34 : decode cX12_fact 34 = .ok (.iconst 5, 1) := by decide +kernel
theorem dX12_fact_35 : decode cX12_fact 35 = .ok (.invokevirtual 173, 3) := by decide +kernel
theorem dX12_fact_38 : decode cX12_fact 38 = .ok (.aload_n 0, 1) := by decide +kernel
theorem dX12_fact_39 : decode cX12_fact 39 = .ok (.getfield 158, 3) := by decide +kernel
theorem dX12_fact_42 : decode cX12_fact 42 = .ok (.ifCond .eq 4, 3) := by decide +kernel
theorem dX12_fact_45 : decode cX12_fact 45 = .ok (.return_, 1) := by decide +kernel
theorem dX12_fact_46 : decode cX12_fact 46 = .ok (.aload_n 0, 1) := by decide +kernel
theorem dX12_fact_47 : decode cX12_fact 47 = .ok (.invokevirtual 167, 3) := by decide +kernel
theorem dX12_fact_50 : decode cX12_fact 50 = .ok (.aload_n 0, 1) := by decide +kernel
theorem dX12_fact_51 : decode cX12_fact 51 = .ok (.dup, 1) := by decide +kernel
theorem dX12_fact_52 : decode cX12_fact 52 = .ok (.getfield 190, 3) := by decide +kernel
theorem dX12_fact_55 : decode cX12_fact 55 = .ok (.iconst 1, 1) := by decide +kernel
theorem dX12_fact_56 : decode cX12_fact 56 = .ok (.iadd, 1) := by decide +kernel
theorem dX12_fact_57 : decode cX12_fact 57 = .ok (.putfield 190, 3) := by decide +kernel
theorem dX12_fact_60 : decode cX12_fact 60 = .ok (.iload_n 1, 1) := by decide +kernel
theorem dX12_fact_61 : decode cX12_fact 61 = .ok (.iconst 2, 1) := by decide +kernel
theorem dX12_fact_62 : decode cX12_fact 62 = .ok (.if_icmp .ne 10, 3) := by decide +kernel
theorem dX12_fact_65 : decode cX12_fact 65 = .ok (.aload_n 0, 1) := by decide +kernel
theorem dX12_fact_66 : decode cX12_fact 66 = .ok (.invokevirtual 187, 3) := by decide +kernel
theorem dX12_fact_69 : decode cX12_fact 69 = .ok (.goto 7, 3) := by decide +kernel
theorem dX12_fact_72 : decode cX12_fact 72 = .ok (.aload_n 0, 1) := by decide +kernel
theorem dX12_fact_73 : decode cX12_fact 73 = .ok (.invokevirtual 193, 3) := by decide +kernel
theorem dX12_fact_76 : decode cX12_fact 76 = .ok (.aload_n 0, 1) := by decide +kernel
theorem dX12_fact_77 : decode cX12_fact 77 = .ok (.dup, 1) := by decide +kernel
theorem dX12_fact_78 : decode cX12_fact 78 = .ok (.getfield 190, 3) := by decide +kernel
theorem dX12_fact_81 : decode cX12_fact 81 = .ok (.iconst 1, 1) := by decide +kernel
theorem dX12_fact_82 : decode cX12_fact 82 = .ok (.isub, 1) := by decide +kernel
theorem dX12_fact_83 : decode cX12_fact 83 = .ok (.putfield 190, 3) := by decide +kernel
theorem dX12_fact_86 : decode cX12_fact 86 = .ok (.iload_n 1, 1) := by decide +kernel
theorem dX12_fact_87 : decode cX12_fact 87 = .ok (.bipush 16, 2) := by decide +kernel
theorem dX12_fact_89 : decode cX12_fact 89 = .ok (.if_icmp .ne 12, 3) := by decide +kernel
theorem dX12_fact_92 : decode cX12_fact 92 = .ok (.aload_n 0, 1) := by decide +kernel
theorem dX12_fact_93 : decode cX12_fact 93 = .ok (.bipush 17, 2) := by decide +kernel
theorem dX12_fact_95 : decode cX12_fact 95 = .ok (.invokevirtual 196, 3) := by decide +kernel
theorem dX12_fact_98 : decode cX12_fact 98 = .ok (.goto 16, 3) := by decide +kernel
theorem dX12_fact_101 : decode cX12_fact 101 = .ok (.aload_n 0, 1) := by decide +kernel
theorem dX12_fact_102 : decode cX12_fact 102 = .ok (.getfield 158, 3) := by decide +kernel
theorem dX12_fact_105 : decode cX12_fact 105 = .ok (.ifCond .ne 9, 3) := by decide +kernel
theorem dX12_fact_108 : decode cX12_fact 108 = .ok (.aload_n 0, 1) := by decide +kernel
theorem dX12_fact_109 : decode cX12_fact 109 = .ok (.iconst 2, 1) := by decide +kernel
theorem dX12_fact_110 : decode cX12_fact 110 = .ok (.iconst 0, 1) := by decide +kernel
theorem dX12_fact_111 : decode cX12_fact 111 = .ok (.invokevirtual 183, 3) := by decide +kernel
theorem dX12_fact_114 : decode cX12_fact 114 = .ok (.return_, 1) := by decide +kernel
theorem dX12_fact_115 : decode cX12_fact 115 = .ok (.iload_n 1, 1) := by decide +kernel
theorem dX12_fact_116 : decode cX12_fact 116 = .ok (.iconst 5, 1) := by decide +kernel
theorem dX12_fact_117 : decode cX12_fact 117 = .ok (.if_icmp .eq 21, 3) := by decide +kernel
theorem dX12_fact_120 : decode cX12_fact 120 = .ok (.iload_n 1, 1) := by decide +kernel
theorem dX12_fact_121 : decode cX12_fact 121 = .ok (.bipush 6, 2) := by decide +kernel
theorem dX12_fact_123 : decode cX12_fact 123 = .ok (.if_icmp .eq 15, 3) := by decide +kernel
theorem dX12_fact_126 : decode cX12_fact 126 = .ok (.iload_n 1, 1) := by decide +kernel
theorem dX12_fact_127 : decode cX12_fact 127 = .ok (.bipush 7, 2) := by decide +kernel
theorem dX12_fact_129 : decode cX12_fact 129 = .ok (.if_icmp .eq 9, 3) := by decide +kernel
theorem dX12_fact_132 : decode cX12_fact 132 = .ok (.aload_n 0, 1) := by decide +kernel
theorem dX12_fact_133 : decode cX12_fact 133 = .ok (.iconst 2, 1) := by decide +kernel
theorem dX12_fact_134 : decode cX12_fact 134 = .ok (.invokevirtual 173, 3) := by decide +kernel
theorem dX12_fact_137 : decode cX12_fact 137 = .ok (.return_, 1) := by decide +kernel
theorem dX12_fact_138 : decode cX12_fact 138 = .ok (.aload_n 0, 1) := by decide +kernel
theorem dX12_fact_139 : decode cX12_fact 139 = .ok (.invokevirtual 167, 3) := by decide +kernel
theorem dX12_fact_142 : decode cX12_fact 142 = .ok (.iload_n 1, 1) := by decide +kernel
theorem dX12_fact_143 : decode cX12_fact 143 = .ok (.iconst 5, 1) := by decide +kernel
theorem dX12_fact_144 : decode cX12_fact 144 = .ok (.if_icmp .ne 15, 3) := by decide +kernel
theorem dX12_fact_147 : decode cX12_fact 147 = .ok (.aload_n 0, 1) := by decide +kernel
theorem dX12_fact_148 : decode cX12_fact 148 = .ok (.iconst 1, 1) := by decide +kernel
theorem dX12_fact_149 : decode cX12_fact 149 = .ok (.sipush 255, 3) := by decide +kernel
theorem dX12_fact_152 : decode cX12_fact 152 = .ok (.iconst 0, 1) := by decide +kernel
theorem dX12_fact_153 : decode cX12_fact 153 = .ok (.invokevirtual 199, 3) := by decide +kernel
theorem dX12_fact_156 : decode cX12_fact 156 = .ok (.goto 28, 3) := by decide +kernel
theorem dX12_fact_159 : decode cX12_fact 159 = .ok (.iload_n 1, 1) := by decide +kernel
theorem dX12_fact_160 : decode cX12_fact 160 = .ok (.bipush 6, 2) := by decide +kernel
theorem dX12_fact_162 : decode cX12_fact 162 = .ok (.if_icmp .ne 14, 3) := by decide +kernel
theorem dX12_fact_165 : decode cX12_fact 165 = .ok (.aload_n 0, 1) := by decide +kernel
theorem dX12_fact_166 : decode cX12_fact 166 = .ok (.iconst 1, 1) := by decide +kernel
theorem dX12_fact_167 : decode cX12_fact 167 = .ok (.bipush 8, 2) := by decide +kernel
theorem dX12_fact_169 : decode cX12_fact 169 = .ok (.iconst 0, 1) := by decide +kernel
theorem dX12_fact_170 : decode cX12_fact 170 = .ok (.invokevirtual 199, 3) := by decide +kernel
theorem dX12_fact_173 : decode cX12_fact 173 = .ok (.goto 11, 3) := by decide +kernel
theorem dX12_fact_176 : decode cX12_fact 176 = .ok (.aload_n 0, 1) := by decide +kernel
theorem dX12_fact_177 : decode cX12_fact 177 = .ok (.iconst 0, 1) := by decide +kernel
theorem dX12_fact_178 : decode cX12_fact 178 = .ok (.bipush 9, 2) := by decide +kernel
theorem dX12_fact_180 : decode cX12_fact 180 = .ok (.iconst 0, 1) := by decide +kernel
theorem dX12_fact_181 : decode cX12_fact 181 = .ok (.invokevirtual 199, 3) := by decide +kernel
theorem dX12_fact_184 : decode cX12_fact 184 = .ok (.istore_n 2, 1) := by decide +kernel
theorem dX12_fact_185 : decode cX12_fact 185 = .ok (.aload_n 0, 1) := by decide +kernel
theorem dX12_fact_186 : decode cX12_fact 186 = .ok (.getfield 158, 3) := by decide +kernel
theorem dX12_fact_189 : decode cX12_fact 189 = .ok (.ifCond .ne 9, 3) := by decide +kernel
theorem dX12_fact_192 : decode cX12_fact 192 = .ok (.aload_n 0, 1) := by decide +kernel
theorem dX12_fact_193 : decode cX12_fact 193 = .ok (.iload_n 1, 1) := by decide +kernel
theorem dX12_fact_194 : decode cX12_fact 194 = .ok (.iload_n 2, 1) := by decide +kernel
theorem dX12_fact_195 : decode cX12_fact 195 = .ok (.invokevirtual 183, 3) := by decide +kernel
theorem dX12_fact_198 : decode cX12_fact 198 = .ok (.return_, 1) := by decide +kernel
theorem dX12_side_0 : decode cX12_side 0 = .ok (.iconst 0, 1) := by decide +kernel
theorem dX12_side_1 : decode cX12_side 1 = .ok (.istore_n 3, 1) := by decide +kernel
theorem dX12_side_2 : decode cX12_side 2 = .ok (.iconst 1, 1) := by decide +kernel
theorem dX12_side_3 : decode cX12_side 3 = .ok (.istore 4, 2) := by decide +kernel
theorem dX12_side_5 : decode cX12_side 5 = .ok (.iload 4, 2) := by decide +kernel
theorem dX12_side_7 : decode cX12_side 7 = .ok (.ifCond .eq 62, 3) := by decide +kernel
theorem dX12_side_10 : decode cX12_side 10 = .ok (.aload_n 0, 1) := by decide +kernel
theorem dX12_side_11 : decode cX12_side 11 = .ok (.iconst 1, 1) := by decide +kernel
theorem dX12_side_12 : decode cX12_side 12 = .ok (.sipush 255, 3) := by decide +kernel
theorem dX12_side_15 : decode cX12_side 15 = .ok (.iload_n 3, 1) := by decide +kernel
theorem dX12_side_16 : decode cX12_side 16 = .ok (.ifCond .ne 7, 3) := by decide +kernel
theorem dX12_side_19 : decode cX12_side 19 = .ok (.iload_n 2, 1) := by decide +kernel
theorem dX12_side_20 : decode cX12_side 20 = .ok (.goto 13, 3) := by decide +kernel
theorem dX12_side_23 : decode cX12_side 23 = .ok (.iload_n 3, 1) := by decide +kernel
theorem dX12_side_24 : decode cX12_side 24 = .ok (.iconst 4, 1) := by decide +kernel
theorem dX12_side_25 : decode cX12_side 25 = .ok (.if_icmp .ne 7, 3) := by decide +kernel
theorem dX12_side_28 : decode cX12_side 28 = .ok (.iconst 1, 1) := by decide +kernel
theorem dX12_side_29 : decode cX12_side 29 = .ok (.goto 4, 3) := by decide +kernel
theorem dX12_side_32 : decode cX12_side 32 = .ok (.iconst 0, 1) := by decide +kernel
theorem dX12_side_33 : decode cX12_side 33 = .ok (.invokevirtual 199, 3) := by decide +kernel
theorem dX12_side_36 : decode cX12_side 36 = .ok (.istore 5, 2) := by decide +kernel
theorem dX12_side_38 : decode cX12_side 38 = .ok (.aload_n 0, 1) := by decide +kernel
theorem dX12_side_39 : decode cX12_side 39 = .ok (.getfield 158, 3) := by decide +kernel
theorem dX12_side_42 : decode cX12_side 42 = .ok (.ifCond .ne 13, 3) := by decide +kernel
theorem dX12_side_45 : decode cX12_side 45 = .ok (.aload_n 0, 1) := by decide +kernel
theorem dX12_side_46 : decode cX12_side 46 = .ok (.getfield 31, 3) := by decide +kernel
theorem dX12_side_49 : decode cX12_side 49 = .ok (.iload_n 1, 1) := by decide +kernel
theorem dX12_side_50 : decode cX12_side 50 = .ok (.iload_n 3, 1) := by decide +kernel
theorem dX12_side_51 : decode cX12_side 51 = .ok (.iadd, 1) := by decide +kernel
theorem dX12_side_52 : decode cX12_side 52 = .ok (.iload 5, 2) := by decide +kernel
theorem dX12_side_54 : decode cX12_side 54 = .ok (.iastore, 1) := by decide +kernel
theorem dX12_side_55 : decode cX12_side 55 = .ok (.iinc 3 1, 3) := by decide +kernel
theorem dX12_side_58 : decode cX12_side 58 = .ok (.aload_n 0, 1) := by decide +kernel
theorem dX12_side_59 : decode cX12_side 59 = .ok (.bipush 14, 2) := by decide +kernel
theorem dX12_side_61 : decode cX12_side 61 = .ok (.invokevirtual 164, 3) := by decide +kernel
theorem dX12_side_64 : decode cX12_side 64 = .ok (.istore 4, 2) := by decide +kernel
theorem dX12_side_66 : decode cX12_side 66 = .ok (.goto (-61), 3) := by decide +kernel
theorem dX12_side_69 : decode cX12_side 69 = .ok (.iload_n 3, 1) := by decide +kernel
theorem dX12_side_70 : decode cX12_side 70 = .ok (.ireturn, 1) := by decide +kernel
theorem dX12_readRule_0 : decode cX12_readRule 0 = .ok (.sipush 1935, 3) := by decide +kernel
theorem dX12_readRule_3 : decode cX12_readRule 3 = .ok (.istore_n 1, 1) := by decide +kernel
theorem dX12_readRule_4 : decode cX12_readRule 4 = .ok (.aload_n 0, 1) := by decide +kernel
theorem dX12_readRule_5 : decode cX12_readRule 5 = .ok (.getfield 31, 3) := by decide +kernel
theorem dX12_readRule_8 : decode cX12_readRule 8 = .ok (.iload_n 1, 1) := by decide +kernel
theorem dX12_readRule_9 : decode cX12_readRule 9 = .ok (.iaload, 1) := by decide +kernel
theorem dX12_readRule_10 : decode cX12_readRule 10 = .ok (.istore_n 2, 1) := by decide +kernel
theorem dX12_readRule_11 : decode cX12_readRule 11 = .ok (.iload_n 2, 1) := by decide +kernel
theorem dX12_readRule_12 : decode cX12_readRule 12 = .ok (.bipush 12, 2) := by decide +kernel
theorem dX12_readRule_14 : decode cX12_readRule 14 = .ok (.if_icmp .ne 7, 3) := by decide +kernel
theorem dX12_readRule_17 : decode cX12_readRule 17 = .ok (.iconst 1, 1) := by decide +kernel
theorem dX12_readRule_18 : decode cX12_readRule 18 = .ok (.goto 4, 3) := by decide +kernel
theorem dX12_readRule_21 : decode cX12_readRule 21 = .ok (.iconst 0, 1) := by decide +kernel
theorem dX12_readRule_22 : decode cX12_readRule 22 = .ok (.istore_n 3, 1) := by decide +kernel
theorem dX12_readRule_23 : decode cX12_readRule 23 = .ok (.aload_n 0, 1) := by decide +kernel
theorem dX12_readRule_24 : decode cX12_readRule 24 = .ok (.iload_n 1, 1) := by decide +kernel
theorem dX12_readRule_25 : decode cX12_readRule 25 = .ok (.iconst 1, 1) := by decide +kernel
theorem dX12_readRule_26 : decode cX12_readRule 26 = .ok (.iadd, 1) := by decide +kernel
theorem dX12_readRule_27 : decode cX12_readRule 27 = .ok (.iconst 4, 1) := by decide +kernel
theorem dX12_readRule_28 : decode cX12_readRule 28 = .ok (.iload_n 3, 1) := by decide +kernel
theorem dX12_readRule_29 : decode cX12_readRule 29 = .ok (.ifCond .eq 7, 3) := by decide +kernel
theorem dX12_readRule_32 : decode cX12_readRule 32 = .ok (.iconst 0, 1) := by decide +kernel
theorem dX12_readRule_33 : decode cX12_readRule 33 = .ok (.goto 4, 3) := by decide +kernel
theorem dX12_readRule_36 : decode cX12_readRule 36 = .ok (.iload_n 2, 1) := by decide +kernel
theorem dX12_readRule_37 : decode cX12_readRule 37 = .ok (.imul, 1) := by decide +kernel
theorem dX12_readRule_38 : decode cX12_readRule 38 = .ok (.iadd, 1) := by decide +kernel
theorem dX12_readRule_39 : decode cX12_readRule 39 = .ok (.iload_n 3, 1) := by decide +kernel
theorem dX12_readRule_40 : decode cX12_readRule 40 = .ok (.invokevirtual 203, 3) := by decide +kernel
theorem dX12_readRule_43 : decode cX12_readRule 43 = .ok (.istore 4, 2) := by decide +kernel
theorem dX12_readRule_45 : decode cX12_readRule 45 = .ok (.aload_n 0, 1) := by decide +kernel
theorem dX12_readRule_46 : decode cX12_readRule 46 = .ok (.iconst 0, 1) := by decide +kernel
theorem dX12_readRule_47 : decode cX12_readRule 47 = .ok (.invokevirtual 196, 3) := by decide +kernel
theorem dX12_readRule_50 : decode cX12_readRule 50 = .ok (.aload_n 0, 1) := by decide +kernel
theorem dX12_readRule_51 : decode cX12_readRule 51 = .ok (.getfield 158, 3) := by decide +kernel
theorem dX12_readRule_54 : decode cX12_readRule 54 = .ok (.ifCond .ne 19, 3) := by decide +kernel
theorem dX12_readRule_57 : decode cX12_readRule 57 = .ok (.aload_n 0, 1) := by decide +kernel
theorem dX12_readRule_58 : decode cX12_readRule 58 = .ok (.iload_n 1, 1) := by decide +kernel
theorem dX12_readRule_59 : decode cX12_readRule 59 = .ok (.bipush 49, 2) := by decide +kernel
theorem dX12_readRule_61 : decode cX12_readRule 61 = .ok (.iadd, 1) := by decide +kernel
theorem dX12_readRule_62 : decode cX12_readRule 62 = .ok (.iconst 4, 1) := by decide +kernel
theorem dX12_readRule_63 : decode cX12_readRule 63 = .ok (.iload_n 2, 1) := by decide +kernel
theorem dX12_readRule_64 : decode cX12_readRule 64 = .ok (.imul, 1) := by decide +kernel
theorem dX12_readRule_65 : decode cX12_readRule 65 = .ok (.iadd, 1) := by decide +kernel
theorem dX12_readRule_66 : decode cX12_readRule 66 = .ok (.iconst 0, 1) := by decide +kernel
theorem dX12_readRule_67 : decode cX12_readRule 67 = .ok (.invokevirtual 203, 3) := by decide +kernel
theorem dX12_readRule_70 : decode cX12_readRule 70 = .ok (.goto 4, 3) := by decide +kernel
theorem dX12_readRule_73 : decode cX12_readRule 73 = .ok (.iconst 0, 1) := by decide +kernel
theorem dX12_readRule_74 : decode cX12_readRule 74 = .ok (.istore 5, 2) := by decide +kernel
theorem dX12_readRule_76 : decode cX12_readRule 76 = .ok (.aload_n 0, 1) := by decide +kernel
theorem dX12_readRule_77 : decode cX12_readRule 77 = .ok (.getfield 158, 3) := by decide +kernel
theorem dX12_readRule_80 : decode cX12_readRule 80 = .ok (.ifCond .eq 4, 3) := by decide +kernel
theorem dX12_readRule_83 : decode cX12_readRule 83 = .ok (.return_, 1) := by decide +kernel
theorem dX12_readRule_84 : decode cX12_readRule 84 = .ok (.aload_n 0, 1) := by decide +kernel
theorem dX12_readRule_85 : decode cX12_readRule 85 = .ok (.getfield 31, 3) := by decide +kernel
theorem dX12_readRule_88 : decode cX12_readRule 88 = .ok (.iload_n 1, 1) := by decide +kernel
theorem dX12_readRule_89 : decode cX12_readRule 89 = .ok (.bipush 97, 2) := by decide +kernel
theorem dX12_readRule_91 : decode cX12_readRule 91 = .ok (.iadd, 1) := by decide +kernel
theorem dX12_readRule_92 : decode cX12_readRule 92 = .ok (.iload_n 2, 1) := by decide +kernel
theorem dX12_readRule_93 : decode cX12_readRule 93 = .ok (.iadd, 1) := by decide +kernel
theorem dX12_readRule_94 : decode cX12_readRule 94 = .ok (.iload 4, 2) := by decide +kernel
theorem dX12_readRule_96 : decode cX12_readRule 96 = .ok (.iastore, 1) := by decide +kernel
theorem dX12_readRule_97 : decode cX12_readRule 97 = .ok (.aload_n 0, 1) := by decide +kernel
theorem dX12_readRule_98 : decode cX12_readRule 98 = .ok (.getfield 31, 3) := by decide +kernel
theorem dX12_readRule_101 : decode cX12_readRule 101 = .ok (.iload_n 1, 1) := by decide +kernel
theorem dX12_readRule_102 : decode cX12_readRule 102 = .ok (.bipush 109, 2) := by decide +kernel
theorem dX12_readRule_104 : decode cX12_readRule 104 = .ok (.iadd, 1) := by decide +kernel
theorem dX12_readRule_105 : decode cX12_readRule 105 = .ok (.iload_n 2, 1) := by decide +kernel
theorem dX12_readRule_106 : decode cX12_readRule 106 = .ok (.iadd, 1) := by decide +kernel
theorem dX12_readRule_107 : decode cX12_readRule 107 = .ok (.iload 5, 2) := by decide +kernel
theorem dX12_readRule_109 : decode cX12_readRule 109 = .ok (.iastore, 1) := by decide +kernel
theorem dX12_readRule_110 : decode cX12_readRule 110 = .ok (.aload_n 0, 1) := by decide +kernel
theorem dX12_readRule_111 : decode cX12_readRule 111 = .ok (.getfield 31, 3) := by decide +kernel
theorem dX12_readRule_114 : decode cX12_readRule 114 = .ok (.iload_n 1, 1) := by decide +kernel
theorem dX12_readRule_115 : decode cX12_readRule 115 = .ok (.bipush 121, 2) := by decide +kernel
theorem dX12_readRule_117 : decode cX12_readRule 117 = .ok (.iadd, 1) := by decide +kernel
theorem dX12_readRule_118 : decode cX12_readRule 118 = .ok (.iload_n 2, 1) := by decide +kernel
theorem dX12_readRule_119 : decode cX12_readRule 119 = .ok (.iadd, 1) := by decide +kernel
theorem dX12_readRule_120 : decode cX12_readRule 120 = .ok (.aload_n 0, 1) := by decide +kernel
theorem dX12_readRule_121 : decode cX12_readRule 121 = .ok (.getfield 177, 3) := by decide +kernel
theorem dX12_readRule_124 : decode cX12_readRule 124 = .ok (.iastore, 1) := by decide +kernel
theorem dX12_readRule_125 : decode cX12_readRule 125 = .ok (.aload_n 0, 1) := by decide +kernel
theorem dX12_readRule_126 : decode cX12_readRule 126 = .ok (.iconst 1, 1) := by decide +kernel
theorem dX12_readRule_127 : decode cX12_readRule 127 = .ok (.invokevirtual 170, 3) := by decide +kernel
theorem dX12_readRule_130 : decode cX12_readRule 130 = .ok (.ifCond .eq 7, 3) := by decide +kernel
theorem dX12_readRule_133 : decode cX12_readRule 133 = .ok (.aload_n 0, 1) := by decide +kernel
theorem dX12_readRule_134 : decode cX12_readRule 134 = .ok (.invokevirtual 193, 3) := by decide +kernel
theorem dX12_readRule_137 : decode cX12_readRule 137 = .ok (.aload_n 0, 1) := by decide +kernel
theorem dX12_readRule_138 : decode cX12_readRule 138 = .ok (.getfield 31, 3) := by decide +kernel
theorem dX12_readRule_141 : decode cX12_readRule 141 = .ok (.iload_n 1, 1) := by decide +kernel
theorem dX12_readRule_142 : decode cX12_readRule 142 = .ok (.sipush 133, 3) := by decide +kernel
theorem dX12_readRule_145 : decode cX12_readRule 145 = .ok (.iadd, 1) := by decide +kernel
theorem dX12_readRule_146 : decode cX12_readRule 146 = .ok (.iload_n 2, 1) := by decide +kernel
theorem dX12_readRule_147 : decode cX12_readRule 147 = .ok (.iadd, 1) := by decide +kernel
theorem dX12_readRule_148 : decode cX12_readRule 148 = .ok (.aload_n 0, 1) := by decide +kernel
theorem dX12_readRule_149 : decode cX12_readRule 149 = .ok (.getfield 177, 3) := by decide +kernel
theorem dX12_readRule_152 : decode cX12_readRule 152 = .ok (.iastore, 1) := by decide +kernel
theorem dX12_readRule_153 : decode cX12_readRule 153 = .ok (.aload_n 0, 1) := by decide +kernel
theorem dX12_readRule_154 : decode cX12_readRule 154 = .ok (.bipush 15, 2) := by decide +kernel
theorem dX12_readRule_156 : decode cX12_readRule 156 = .ok (.invokevirtual 196, 3) := by decide +kernel
theorem dX12_readRule_159 : decode cX12_readRule 159 = .ok (.aload_n 0, 1) := by decide +kernel
theorem dX12_readRule_160 : decode cX12_readRule 160 = .ok (.getfield 31, 3) := by decide +kernel
theorem dX12_readRule_163 : decode cX12_readRule 163 = .ok (.iload_n 1, 1) := by decide +kernel
theorem dX12_readRule_164 : decode cX12_readRule 164 = .ok (.dup2, 1) := by decide +kernel
theorem dX12_readRule_165 : decode cX12_readRule 165 = .ok (.iaload, 1) := by decide +kernel
theorem dX12_readRule_166 : decode cX12_readRule 166 = .ok (.iconst 1, 1) := by decide +kernel
theorem dX12_readRule_167 : decode cX12_readRule 167 = .ok (.iadd, 1) := by decide +kernel
theorem dX12_readRule_168 : decode cX12_readRule 168 = .ok (.iastore, 1) := by decide +kernel
theorem dX12_readRule_169 : decode cX12_readRule 169 = .ok (.return_, 1) := by decide +kernel
theorem dX12_readWay_0 : decode cX12_readWay 0 = .ok (.bipush 87, 2) := by decide +kernel
theorem dX12_readWay_2 : decode cX12_readWay 2 = .ok (.istore_n 1, 1) := by decide +kernel
theorem dX12_readWay_3 : decode cX12_readWay 3 = .ok (.aload_n 0, 1) := by decide +kernel
theorem dX12_readWay_4 : decode cX12_readWay 4 = .ok (.getfield 158, 3) := by decide +kernel
theorem dX12_readWay_7 : decode cX12_readWay 7 = .ok (.ifCond .ne 25, 3) := by decide +kernel
theorem dX12_readWay_10 : decode cX12_readWay 10 = .ok (.aload_n 0, 1) := by decide +kernel
theorem dX12_readWay_11 : decode cX12_readWay 11 = .ok (.getfield 142, 3) := by decide +kernel
theorem dX12_readWay_14 : decode cX12_readWay 14 = .ok (.i2l, 1) := by decide +kernel
theorem dX12_readWay_15 : decode cX12_readWay 15 = .ok (.ldc2_w 207, 3) := by decide +kernel
theorem dX12_readWay_18 : decode cX12_readWay 18 = .ok (.ldc2_w 209, 3) := by decide +kernel
theorem dX12_readWay_21 : decode cX12_readWay 21 = .ok (.invokestatic 81, 3) := by decide +kernel
theorem dX12_readWay_24 : decode cX12_readWay 24 = .ok (.ifCond .ne 8, 3) := by decide +kernel
theorem dX12_readWay_27 : decode cX12_readWay 27 = .ok (.aload_n 0, 1) := by decide +kernel
theorem dX12_readWay_28 : decode cX12_readWay 28 = .ok (.iconst 2, 1) := by decide +kernel
theorem dX12_readWay_29 : decode cX12_readWay 29 = .ok (.invokevirtual 173, 3) := by decide +kernel
theorem dX12_readWay_32 : decode cX12_readWay 32 = .ok (.aload_n 0, 1) := by decide +kernel
theorem dX12_readWay_33 : decode cX12_readWay 33 = .ok (.getfield 34, 3) := by decide +kernel
theorem dX12_readWay_36 : decode cX12_readWay 36 = .ok (.iload_n 1, 1) := by decide +kernel
theorem dX12_readWay_37 : decode cX12_readWay 37 = .ok (.iaload, 1) := by decide +kernel
theorem dX12_readWay_38 : decode cX12_readWay 38 = .ok (.bipush 12, 2) := by decide +kernel
theorem dX12_readWay_40 : decode cX12_readWay 40 = .ok (.if_icmp .ne 8, 3) := by decide +kernel
theorem dX12_readWay_43 : decode cX12_readWay 43 = .ok (.aload_n 0, 1) := by decide +kernel
theorem dX12_readWay_44 : decode cX12_readWay 44 = .ok (.iconst 4, 1) := by decide +kernel
theorem dX12_readWay_45 : decode cX12_readWay 45 = .ok (.invokevirtual 173, 3) := by decide +kernel
theorem dX12_readWay_48 : decode cX12_readWay 48 = .ok (.aload_n 0, 1) := by decide +kernel
theorem dX12_readWay_49 : decode cX12_readWay 49 = .ok (.getfield 158, 3) := by decide +kernel
theorem dX12_readWay_52 : decode cX12_readWay 52 = .ok (.ifCond .eq 4, 3) := by decide +kernel
theorem dX12_readWay_55 : decode cX12_readWay 55 = .ok (.return_, 1) := by decide +kernel
theorem dX12_readWay_56 : decode cX12_readWay 56 = .ok (.aload_n 0, 1) := by decide +kernel
theorem dX12_readWay_57 : decode cX12_readWay 57 = .ok (.getfield 142, 3) := by decide +kernel
theorem dX12_readWay_60 : decode cX12_readWay 60 = .ok (.istore_n 2, 1) := by decide +kernel
theorem dX12_readWay_61 : decode cX12_readWay 61 = .ok (.aload_n 0, 1) := by decide +kernel
theorem dX12_readWay_62 : decode cX12_readWay 62 = .ok (.invokevirtual 167, 3) := by decide +kernel
theorem dX12_readWay_65 : decode cX12_readWay 65 = .ok (.iload_n 2, 1) := by decide +kernel
theorem dX12_readWay_66 : decode cX12_readWay 66 = .ok (.bipush 11, 2) := by decide +kernel
theorem dX12_readWay_68 : decode cX12_readWay 68 = .ok (.if_icmp .ne 83, 3) := by decide +kernel
theorem dX12_readWay_71 : decode cX12_readWay 71 = .ok (.aload_n 0, 1) := by decide +kernel
theorem dX12_readWay_72 : decode cX12_readWay 72 = .ok (.iconst 1, 1) := by decide +kernel
theorem dX12_readWay_73 : decode cX12_readWay 73 = .ok (.sipush 255, 3) := by decide +kernel
theorem dX12_readWay_76 : decode cX12_readWay 76 = .ok (.iconst 0, 1) := by decide +kernel
theorem dX12_readWay_77 : decode cX12_readWay 77 = .ok (.invokevirtual 199, 3) := by decide +kernel
theorem dX12_readWay_80 : decode cX12_readWay 80 = .ok (.istore_n 3, 1) := by decide +kernel
theorem dX12_readWay_81 : decode cX12_readWay 81 = .ok (.aload_n 0, 1) := by decide +kernel
theorem dX12_readWay_82 : decode cX12_readWay 82 = .ok (.bipush 12, 2) := by decide +kernel
theorem dX12_readWay_84 : decode cX12_readWay 84 = .ok (.invokevirtual 196, 3) := by decide +kernel
theorem dX12_readWay_87 : decode cX12_readWay 87 = .ok (.aload_n 0, 1) := by decide +kernel
theorem dX12_readWay_88 : decode cX12_readWay 88 = .ok (.iconst 1, 1) := by decide +kernel
theorem dX12_readWay_89 : decode cX12_readWay 89 = .ok (.sipush 255, 3) := by decide +kernel
theorem dX12_readWay_92 : decode cX12_readWay 92 = .ok (.iconst 0, 1) := by decide +kernel
theorem dX12_readWay_93 : decode cX12_readWay 93 = .ok (.invokevirtual 199, 3) := by decide +kernel
theorem dX12_readWay_96 : decode cX12_readWay 96 = .ok (.istore 4, 2) := by decide +kernel
theorem dX12_readWay_98 : decode cX12_readWay 98 = .ok (.aload_n 0, 1) := by decide +kernel
theorem dX12_readWay_99 : decode cX12_readWay 99 = .ok (.getfield 34, 3) := by decide +kernel
theorem dX12_readWay_102 : decode cX12_readWay 102 = .ok (.iload_n 1, 1) := by decide +kernel
theorem dX12_readWay_103 : decode cX12_readWay 103 = .ok (.iconst 5, 1) := by decide +kernel
theorem dX12_readWay_104 : decode cX12_readWay 104 = .ok (.iadd, 1) := by decide +kernel
theorem dX12_readWay_105 : decode cX12_readWay 105 = .ok (.aload_n 0, 1) := by decide +kernel
theorem dX12_readWay_106 : decode cX12_readWay 106 = .ok (.getfield 34, 3) := by decide +kernel
theorem dX12_readWay_109 : decode cX12_readWay 109 = .ok (.iload_n 1, 1) := by decide +kernel
theorem dX12_readWay_110 : decode cX12_readWay 110 = .ok (.iconst 4, 1) := by decide +kernel
theorem dX12_readWay_111 : decode cX12_readWay 111 = .ok (.iadd, 1) := by decide +kernel
theorem dX12_readWay_112 : decode cX12_readWay 112 = .ok (.iaload, 1) := by decide +kernel
theorem dX12_readWay_113 : decode cX12_readWay 113 = .ok (.iadd, 1) := by decide +kernel
theorem dX12_readWay_114 : decode cX12_readWay 114 = .ok (.iload_n 3, 1) := by decide +kernel
theorem dX12_readWay_115 : decode cX12_readWay 115 = .ok (.iastore, 1) := by decide +kernel
theorem dX12_readWay_116 : decode cX12_readWay 116 = .ok (.aload_n 0, 1) := by decide +kernel
theorem dX12_readWay_117 : decode cX12_readWay 117 = .ok (.getfield 34, 3) := by decide +kernel
theorem dX12_readWay_120 : decode cX12_readWay 120 = .ok (.iload_n 1, 1) := by decide +kernel
theorem dX12_readWay_121 : decode cX12_readWay 121 = .ok (.bipush 17, 2) := by decide +kernel
theorem dX12_readWay_123 : decode cX12_readWay 123 = .ok (.iadd, 1) := by decide +kernel
theorem dX12_readWay_124 : decode cX12_readWay 124 = .ok (.aload_n 0, 1) := by decide +kernel
theorem dX12_readWay_125 : decode cX12_readWay 125 = .ok (.getfield 34, 3) := by decide +kernel
theorem dX12_readWay_128 : decode cX12_readWay 128 = .ok (.iload_n 1, 1) := by decide +kernel
theorem dX12_readWay_129 : decode cX12_readWay 129 = .ok (.iconst 4, 1) := by decide +kernel
theorem dX12_readWay_130 : decode cX12_readWay 130 = .ok (.iadd, 1) := by decide +kernel
theorem dX12_readWay_131 : decode cX12_readWay 131 = .ok (.iaload, 1) := by decide +kernel
theorem dX12_readWay_132 : decode cX12_readWay 132 = .ok (.iadd, 1) := by decide +kernel
theorem dX12_readWay_133 : decode cX12_readWay 133 = .ok (.iload 4, 2) := by decide +kernel
theorem dX12_readWay_135 : decode cX12_readWay 135 = .ok (.iastore, 1) := by decide +kernel
theorem dX12_readWay_136 : decode cX12_readWay 136 = .ok (.aload_n 0, 1) := by decide +kernel
theorem dX12_readWay_137 : decode cX12_readWay 137 = .ok (.getfield 34, 3) := by decide +kernel
theorem dX12_readWay_140 : decode cX12_readWay 140 = .ok (.iload_n 1, 1) := by decide +kernel
theorem dX12_readWay_141 : decode cX12_readWay 141 = .ok (.iconst 4, 1) := by decide +kernel
theorem dX12_readWay_142 : decode cX12_readWay 142 = .ok (.iadd, 1) := by decide +kernel
theorem dX12_readWay_143 : decode cX12_readWay 143 = .ok (.dup2, 1) := by decide +kernel
theorem dX12_readWay_144 : decode cX12_readWay 144 = .ok (.iaload, 1) := by decide +kernel
theorem dX12_readWay_145 : decode cX12_readWay 145 = .ok (.iconst 1, 1) := by decide +kernel
theorem dX12_readWay_146 : decode cX12_readWay 146 = .ok (.iadd, 1) := by decide +kernel
theorem dX12_readWay_147 : decode cX12_readWay 147 = .ok (.iastore, 1) := by decide +kernel
theorem dX12_readWay_148 : decode cX12_readWay 148 = .ok (.goto 41, 3) := by decide +kernel
theorem dX12_readWay_151 : decode cX12_readWay 151 = .ok (.aload_n 0, 1) := by decide +kernel
theorem dX12_readWay_152 : decode cX12_readWay 152 = .ok (.iconst 0, 1) := by decide +kernel
theorem dX12_readWay_153 : decode cX12_readWay 153 = .ok (.bipush 99, 2) := by decide +kernel
theorem dX12_readWay_155 : decode cX12_readWay 155 = .ok (.iconst 0, 1) := by decide +kernel
theorem dX12_readWay_156 : decode cX12_readWay 156 = .ok (.invokevirtual 199, 3) := by decide +kernel
theorem dX12_readWay_159 : decode cX12_readWay 159 = .ok (.istore_n 3, 1) := by decide +kernel
theorem dX12_readWay_160 : decode cX12_readWay 160 = .ok (.aload_n 0, 1) := by decide +kernel
theorem dX12_readWay_161 : decode cX12_readWay 161 = .ok (.getfield 34, 3) := by decide +kernel
theorem dX12_readWay_164 : decode cX12_readWay 164 = .ok (.iload_n 1, 1) := by decide +kernel
theorem dX12_readWay_165 : decode cX12_readWay 165 = .ok (.iload_n 2, 1) := by decide +kernel
theorem dX12_readWay_166 : decode cX12_readWay 166 = .ok (.bipush 8, 2) := by decide +kernel
theorem dX12_readWay_168 : decode cX12_readWay 168 = .ok (.if_icmp .ne 7, 3) := by decide +kernel
theorem dX12_readWay_171 : decode cX12_readWay 171 = .ok (.iconst 1, 1) := by decide +kernel
theorem dX12_readWay_172 : decode cX12_readWay 172 = .ok (.goto 14, 3) := by decide +kernel
theorem dX12_readWay_175 : decode cX12_readWay 175 = .ok (.iload_n 2, 1) := by decide +kernel
theorem dX12_readWay_176 : decode cX12_readWay 176 = .ok (.bipush 9, 2) := by decide +kernel
theorem dX12_readWay_178 : decode cX12_readWay 178 = .ok (.if_icmp .ne 7, 3) := by decide +kernel
theorem dX12_readWay_181 : decode cX12_readWay 181 = .ok (.iconst 2, 1) := by decide +kernel
theorem dX12_readWay_182 : decode cX12_readWay 182 = .ok (.goto 4, 3) := by decide +kernel
theorem dX12_readWay_185 : decode cX12_readWay 185 = .ok (.iconst 3, 1) := by decide +kernel
theorem dX12_readWay_186 : decode cX12_readWay 186 = .ok (.iadd, 1) := by decide +kernel
theorem dX12_readWay_187 : decode cX12_readWay 187 = .ok (.iload_n 3, 1) := by decide +kernel
theorem dX12_readWay_188 : decode cX12_readWay 188 = .ok (.iastore, 1) := by decide +kernel
theorem dX12_readWay_189 : decode cX12_readWay 189 = .ok (.aload_n 0, 1) := by decide +kernel
theorem dX12_readWay_190 : decode cX12_readWay 190 = .ok (.bipush 15, 2) := by decide +kernel
theorem dX12_readWay_192 : decode cX12_readWay 192 = .ok (.invokevirtual 196, 3) := by decide +kernel
theorem dX12_readWay_195 : decode cX12_readWay 195 = .ok (.aload_n 0, 1) := by decide +kernel
theorem dX12_readWay_196 : decode cX12_readWay 196 = .ok (.getfield 34, 3) := by decide +kernel
theorem dX12_readWay_199 : decode cX12_readWay 199 = .ok (.iload_n 1, 1) := by decide +kernel
theorem dX12_readWay_200 : decode cX12_readWay 200 = .ok (.dup2, 1) := by decide +kernel
theorem dX12_readWay_201 : decode cX12_readWay 201 = .ok (.iaload, 1) := by decide +kernel
theorem dX12_readWay_202 : decode cX12_readWay 202 = .ok (.iconst 1, 1) := by decide +kernel
theorem dX12_readWay_203 : decode cX12_readWay 203 = .ok (.iadd, 1) := by decide +kernel
theorem dX12_readWay_204 : decode cX12_readWay 204 = .ok (.iastore, 1) := by decide +kernel
theorem dX12_readWay_205 : decode cX12_readWay 205 = .ok (.return_, 1) := by decide +kernel
theorem dX12_text_0 : decode cX12_text 0 = .ok (.aload_n 0, 1) := by decide +kernel
theorem dX12_text_1 : decode cX12_text 1 = .ok (.iconst 0, 1) := by decide +kernel
theorem dX12_text_2 : decode cX12_text 2 = .ok (.putfield 1, 3) := by decide +kernel
theorem dX12_text_5 : decode cX12_text 5 = .ok (.iload_n 1, 1) := by decide +kernel
theorem dX12_text_6 : decode cX12_text 6 = .ok (.i2l, 1) := by decide +kernel
theorem dX12_text_7 : decode cX12_text 7 = .ok (.lconst 0, 1) := by decide +kernel
theorem dX12_text_8 : decode cX12_text 8 = .ok (.lconst 1, 1) := by decide +kernel
theorem dX12_text_9 : decode cX12_text 9 = .ok (.invokestatic 81, 3) := by decide +kernel
theorem dX12_text_12 : decode cX12_text 12 = .ok (.ifCond .ne 10, 3) := by decide +kernel
theorem dX12_text_15 : decode cX12_text 15 = .ok (.aload_n 0, 1) := by decide +kernel
theorem dX12_text_16 : decode cX12_text 16 = .ok (.bipush (-2), 2) := by decide +kernel
theorem dX12_text_18 : decode cX12_text 18 = .ok (.invokevirtual 85, 3) := by decide +kernel
theorem dX12_text_21 : decode cX12_text 21 = .ok (.ireturn, 1) := by decide +kernel
theorem dX12_text_22 : decode cX12_text 22 = .ok (.iload_n 2, 1) := by decide +kernel
theorem dX12_text_23 : decode cX12_text 23 = .ok (.i2l, 1) := by decide +kernel
theorem dX12_text_24 : decode cX12_text 24 = .ok (.lconst 0, 1) := by decide +kernel
theorem dX12_text_25 : decode cX12_text 25 = .ok (.aload_n 0, 1) := by decide +kernel
theorem dX12_text_26 : decode cX12_text 26 = .ok (.getfield 115, 3) := by decide +kernel
theorem dX12_text_29 : decode cX12_text 29 = .ok (.i2l, 1) := by decide +kernel
theorem dX12_text_30 : decode cX12_text 30 = .ok (.invokestatic 81, 3) := by decide +kernel
theorem dX12_text_33 : decode cX12_text 33 = .ok (.ifCond .ne 10, 3) := by decide +kernel
theorem dX12_text_36 : decode cX12_text 36 = .ok (.aload_n 0, 1) := by decide +kernel
theorem dX12_text_37 : decode cX12_text 37 = .ok (.bipush (-3), 2) := by decide +kernel
theorem dX12_text_39 : decode cX12_text 39 = .ok (.invokevirtual 85, 3) := by decide +kernel
theorem dX12_text_42 : decode cX12_text 42 = .ok (.ireturn, 1) := by decide +kernel
theorem dX12_text_43 : decode cX12_text 43 = .ok (.aload_n 0, 1) := by decide +kernel
theorem dX12_text_44 : decode cX12_text 44 = .ok (.iload_n 2, 1) := by decide +kernel
theorem dX12_text_45 : decode cX12_text 45 = .ok (.putfield 118, 3) := by decide +kernel
theorem dX12_text_48 : decode cX12_text 48 = .ok (.aload_n 0, 1) := by decide +kernel
theorem dX12_text_49 : decode cX12_text 49 = .ok (.iconst 0, 1) := by decide +kernel
theorem dX12_text_50 : decode cX12_text 50 = .ok (.putfield 115, 3) := by decide +kernel
theorem dX12_text_53 : decode cX12_text 53 = .ok (.aload_n 0, 1) := by decide +kernel
theorem dX12_text_54 : decode cX12_text 54 = .ok (.iconst 0, 1) := by decide +kernel
theorem dX12_text_55 : decode cX12_text 55 = .ok (.putfield 136, 3) := by decide +kernel
theorem dX12_text_58 : decode cX12_text 58 = .ok (.aload_n 0, 1) := by decide +kernel
theorem dX12_text_59 : decode cX12_text 59 = .ok (.iconst 0, 1) := by decide +kernel
theorem dX12_text_60 : decode cX12_text 60 = .ok (.putfield 158, 3) := by decide +kernel
theorem dX12_text_63 : decode cX12_text 63 = .ok (.aload_n 0, 1) := by decide +kernel
theorem dX12_text_64 : decode cX12_text 64 = .ok (.iconst 0, 1) := by decide +kernel
theorem dX12_text_65 : decode cX12_text 65 = .ok (.putfield 190, 3) := by decide +kernel
theorem dX12_text_68 : decode cX12_text 68 = .ok (.aload_n 0, 1) := by decide +kernel
theorem dX12_text_69 : decode cX12_text 69 = .ok (.iconst 0, 1) := by decide +kernel
theorem dX12_text_70 : decode cX12_text 70 = .ok (.putfield 177, 3) := by decide +kernel
theorem dX12_text_73 : decode cX12_text 73 = .ok (.aload_n 0, 1) := by decide +kernel
theorem dX12_text_74 : decode cX12_text 74 = .ok (.getfield 31, 3) := by decide +kernel
theorem dX12_text_77 : decode cX12_text 77 = .ok (.sipush 1935, 3) := by decide +kernel
theorem dX12_text_80 : decode cX12_text 80 = .ok (.iconst 0, 1) := by decide +kernel
theorem dX12_text_81 : decode cX12_text 81 = .ok (.iastore, 1) := by decide +kernel
theorem dX12_text_82 : decode cX12_text 82 = .ok (.iconst 0, 1) := by decide +kernel
theorem dX12_text_83 : decode cX12_text 83 = .ok (.istore_n 3, 1) := by decide +kernel
theorem dX12_text_84 : decode cX12_text 84 = .ok (.iload_n 3, 1) := by decide +kernel
theorem dX12_text_85 : decode cX12_text 85 = .ok (.bipush 29, 2) := by decide +kernel
theorem dX12_text_87 : decode cX12_text 87 = .ok (.if_icmp .ge 19, 3) := by decide +kernel
theorem dX12_text_90 : decode cX12_text 90 = .ok (.aload_n 0, 1) := by decide +kernel
theorem dX12_text_91 : decode cX12_text 91 = .ok (.getfield 34, 3) := by decide +kernel
theorem dX12_text_94 : decode cX12_text 94 = .ok (.bipush 87, 2) := by decide +kernel
theorem dX12_text_96 : decode cX12_text 96 = .ok (.iload_n 3, 1) := by decide +kernel
theorem dX12_text_97 : decode cX12_text 97 = .ok (.iadd, 1) := by decide +kernel
theorem dX12_text_98 : decode cX12_text 98 = .ok (.iconst 0, 1) := by decide +kernel
theorem dX12_text_99 : decode cX12_text 99 = .ok (.iastore, 1) := by decide +kernel
theorem dX12_text_100 : decode cX12_text 100 = .ok (.iinc 3 1, 3) := by decide +kernel
theorem dX12_text_103 : decode cX12_text 103 = .ok (.goto (-19), 3) := by decide +kernel
theorem dX12_text_106 : decode cX12_text 106 = .ok (.aload_n 0, 1) := by decide +kernel
theorem dX12_text_107 : decode cX12_text 107 = .ok (.invokevirtual 167, 3) := by decide +kernel
theorem dX12_text_110 : decode cX12_text 110 = .ok (.aload_n 0, 1) := by decide +kernel
theorem dX12_text_111 : decode cX12_text 111 = .ok (.getfield 158, 3) := by decide +kernel
theorem dX12_text_114 : decode cX12_text 114 = .ok (.ifCond .ne 30, 3) := by decide +kernel
theorem dX12_text_117 : decode cX12_text 117 = .ok (.aload_n 0, 1) := by decide +kernel
theorem dX12_text_118 : decode cX12_text 118 = .ok (.getfield 142, 3) := by decide +kernel
theorem dX12_text_121 : decode cX12_text 121 = .ok (.bipush 18, 2) := by decide +kernel
theorem dX12_text_123 : decode cX12_text 123 = .ok (.if_icmp .eq 21, 3) := by decide +kernel
theorem dX12_text_126 : decode cX12_text 126 = .ok (.iload_n 1, 1) := by decide +kernel
theorem dX12_text_127 : decode cX12_text 127 = .ok (.ifCond .ne 10, 3) := by decide +kernel
theorem dX12_text_130 : decode cX12_text 130 = .ok (.aload_n 0, 1) := by decide +kernel
theorem dX12_text_131 : decode cX12_text 131 = .ok (.invokevirtual 211, 3) := by decide +kernel
theorem dX12_text_134 : decode cX12_text 134 = .ok (.goto (-24), 3) := by decide +kernel
theorem dX12_text_137 : decode cX12_text 137 = .ok (.aload_n 0, 1) := by decide +kernel
theorem dX12_text_138 : decode cX12_text 138 = .ok (.invokevirtual 214, 3) := by decide +kernel
theorem dX12_text_141 : decode cX12_text 141 = .ok (.goto (-31), 3) := by decide +kernel
theorem dX12_text_144 : decode cX12_text 144 = .ok (.aload_n 0, 1) := by decide +kernel
theorem dX12_text_145 : decode cX12_text 145 = .ok (.aload_n 0, 1) := by decide +kernel
theorem dX12_text_146 : decode cX12_text 146 = .ok (.getfield 158, 3) := by decide +kernel
theorem dX12_text_149 : decode cX12_text 149 = .ok (.putfield 217, 3) := by decide +kernel
theorem dX12_text_152 : decode cX12_text 152 = .ok (.aload_n 0, 1) := by decide +kernel
theorem dX12_text_153 : decode cX12_text 153 = .ok (.aload_n 0, 1) := by decide +kernel
theorem dX12_text_154 : decode cX12_text 154 = .ok (.getfield 158, 3) := by decide +kernel
theorem dX12_text_157 : decode cX12_text 157 = .ok (.ifCond .ne 7, 3) := by decide +kernel
theorem dX12_text_160 : decode cX12_text 160 = .ok (.iconst (-1), 1) := by decide +kernel
theorem dX12_text_161 : decode cX12_text 161 = .ok (.goto 7, 3) := by decide +kernel
theorem dX12_text_164 : decode cX12_text 164 = .ok (.aload_n 0, 1) := by decide +kernel
theorem dX12_text_165 : decode cX12_text 165 = .ok (.getfield 161, 3) := by decide +kernel
theorem dX12_text_168 : decode cX12_text 168 = .ok (.putfield 40, 3) := by decide +kernel
theorem dX12_text_171 : decode cX12_text 171 = .ok (.aload_n 0, 1) := by decide +kernel
theorem dX12_text_172 : decode cX12_text 172 = .ok (.getfield 158, 3) := by decide +kernel
theorem dX12_text_175 : decode cX12_text 175 = .ok (.ifCond .eq 21, 3) := by decide +kernel
theorem dX12_text_178 : decode cX12_text 178 = .ok (.aload_n 0, 1) := by decide +kernel
theorem dX12_text_179 : decode cX12_text 179 = .ok (.getfield 7, 3) := by decide +kernel
theorem dX12_text_182 : decode cX12_text 182 = .ok (.iconst 1, 1) := by decide +kernel
theorem dX12_text_183 : decode cX12_text 183 = .ok (.dup2, 1) := by decide +kernel
theorem dX12_text_184 : decode cX12_text 184 = .ok (.iaload, 1) := by decide +kernel
theorem dX12_text_185 : decode cX12_text 185 = .ok (.iconst 1, 1) := by decide +kernel
theorem dX12_text_186 : decode cX12_text 186 = .ok (.iadd, 1) := by decide +kernel
theorem dX12_text_187 : decode cX12_text 187 = .ok (.iastore, 1) := by decide +kernel
theorem dX12_text_188 : decode cX12_text 188 = .ok (.bipush (-10), 2) := by decide +kernel
theorem dX12_text_190 : decode cX12_text 190 = .ok (.aload_n 0, 1) := by decide +kernel
theorem dX12_text_191 : decode cX12_text 191 = .ok (.getfield 158, 3) := by decide +kernel
theorem dX12_text_194 : decode cX12_text 194 = .ok (.isub, 1) := by decide +kernel
theorem dX12_text_195 : decode cX12_text 195 = .ok (.ireturn, 1) := by decide +kernel
theorem dX12_text_196 : decode cX12_text 196 = .ok (.iload_n 1, 1) := by decide +kernel
theorem dX12_text_197 : decode cX12_text 197 = .ok (.ifCond .ne 37, 3) := by decide +kernel
theorem dX12_text_200 : decode cX12_text 200 = .ok (.iconst 0, 1) := by decide +kernel
theorem dX12_text_201 : decode cX12_text 201 = .ok (.istore_n 3, 1) := by decide +kernel
theorem dX12_text_202 : decode cX12_text 202 = .ok (.iload_n 3, 1) := by decide +kernel
theorem dX12_text_203 : decode cX12_text 203 = .ok (.sipush 645, 3) := by decide +kernel
theorem dX12_text_206 : decode cX12_text 206 = .ok (.if_icmp .ge 25, 3) := by decide +kernel
theorem dX12_text_209 : decode cX12_text 209 = .ok (.aload_n 0, 1) := by decide +kernel
theorem dX12_text_210 : decode cX12_text 210 = .ok (.getfield 31, 3) := by decide +kernel
theorem dX12_text_213 : decode cX12_text 213 = .ok (.iload_n 3, 1) := by decide +kernel
theorem dX12_text_214 : decode cX12_text 214 = .ok (.aload_n 0, 1) := by decide +kernel
theorem dX12_text_215 : decode cX12_text 215 = .ok (.getfield 31, 3) := by decide +kernel
theorem dX12_text_218 : decode cX12_text 218 = .ok (.sipush 1935, 3) := by decide +kernel
theorem dX12_text_221 : decode cX12_text 221 = .ok (.iload_n 3, 1) := by decide +kernel
theorem dX12_text_222 : decode cX12_text 222 = .ok (.iadd, 1) := by decide +kernel
theorem dX12_text_223 : decode cX12_text 223 = .ok (.iaload, 1) := by decide +kernel
theorem dX12_text_224 : decode cX12_text 224 = .ok (.iastore, 1) := by decide +kernel
theorem dX12_text_225 : decode cX12_text 225 = .ok (.iinc 3 1, 3) := by decide +kernel
theorem dX12_text_228 : decode cX12_text 228 = .ok (.goto (-26), 3) := by decide +kernel
theorem dX12_text_231 : decode cX12_text 231 = .ok (.goto 32, 3) := by decide +kernel
theorem dX12_text_234 : decode cX12_text 234 = .ok (.iconst 0, 1) := by decide +kernel
theorem dX12_text_235 : decode cX12_text 235 = .ok (.istore_n 3, 1) := by decide +kernel
theorem dX12_text_236 : decode cX12_text 236 = .ok (.iload_n 3, 1) := by decide +kernel
theorem dX12_text_237 : decode cX12_text 237 = .ok (.bipush 29, 2) := by decide +kernel
theorem dX12_text_239 : decode cX12_text 239 = .ok (.if_icmp .ge 24, 3) := by decide +kernel
theorem dX12_text_242 : decode cX12_text 242 = .ok (.aload_n 0, 1) := by decide +kernel
theorem dX12_text_243 : decode cX12_text 243 = .ok (.getfield 34, 3) := by decide +kernel
theorem dX12_text_246 : decode cX12_text 246 = .ok (.iload_n 3, 1) := by decide +kernel
theorem dX12_text_247 : decode cX12_text 247 = .ok (.aload_n 0, 1) := by decide +kernel
theorem dX12_text_248 : decode cX12_text 248 = .ok (.getfield 34, 3) := by decide +kernel
theorem dX12_text_251 : decode cX12_text 251 = .ok (.bipush 87, 2) := by decide +kernel
theorem dX12_text_253 : decode cX12_text 253 = .ok (.iload_n 3, 1) := by decide +kernel
theorem dX12_text_254 : decode cX12_text 254 = .ok (.iadd, 1) := by decide +kernel
theorem dX12_text_255 : decode cX12_text 255 = .ok (.iaload, 1) := by decide +kernel
theorem dX12_text_256 : decode cX12_text 256 = .ok (.iastore, 1) := by decide +kernel
theorem dX12_text_257 : decode cX12_text 257 = .ok (.iinc 3 1, 3) := by decide +kernel
theorem dX12_text_260 : decode cX12_text 260 = .ok (.goto (-24), 3) := by decide +kernel
theorem dX12_text_263 : decode cX12_text 263 = .ok (.iload_n 1, 1) := by decide +kernel
theorem dX12_text_264 : decode cX12_text 264 = .ok (.ifCond .ne 12, 3) := by decide +kernel
theorem dX12_text_267 : decode cX12_text 267 = .ok (.aload_n 0, 1) := by decide +kernel
theorem dX12_text_268 : decode cX12_text 268 = .ok (.getfield 31, 3) := by decide +kernel
theorem dX12_text_271 : decode cX12_text 271 = .ok (.iconst 0, 1) := by decide +kernel
theorem dX12_text_272 : decode cX12_text 272 = .ok (.iaload, 1) := by decide +kernel
theorem dX12_text_273 : decode cX12_text 273 = .ok (.goto 9, 3) := by decide +kernel
theorem dX12_text_276 : decode cX12_text 276 = .ok (.aload_n 0, 1) := by decide +kernel
theorem dX12_text_277 : decode cX12_text 277 = .ok (.getfield 34, 3) := by decide +kernel
theorem dX12_text_280 : decode cX12_text 280 = .ok (.iconst 0, 1) := by decide +kernel
theorem dX12_text_281 : decode cX12_text 281 = .ok (.iaload, 1) := by decide +kernel
theorem dX12_text_282 : decode cX12_text 282 = .ok (.ireturn, 1) := by decide +kernel
theorem dX12_fault_0 : decode cX12_fault 0 = .ok (.aload_n 0, 1) := by decide +kernel
theorem dX12_fault_1 : decode cX12_fault 1 = .ok (.iconst 0, 1) := by decide +kernel
theorem dX12_fault_2 : decode cX12_fault 2 = .ok (.putfield 1, 3) := by decide +kernel
theorem dX12_fault_5 : decode cX12_fault 5 = .ok (.iload_n 1, 1) := by decide +kernel
theorem dX12_fault_6 : decode cX12_fault 6 = .ok (.ifCond .ne 10, 3) := by decide +kernel
theorem dX12_fault_9 : decode cX12_fault 9 = .ok (.aload_n 0, 1) := by decide +kernel
theorem dX12_fault_10 : decode cX12_fault 10 = .ok (.getfield 217, 3) := by decide +kernel
theorem dX12_fault_13 : decode cX12_fault 13 = .ok (.goto 16, 3) := by decide +kernel
theorem dX12_fault_16 : decode cX12_fault 16 = .ok (.iload_n 1, 1) := by decide +kernel
theorem dX12_fault_17 : decode cX12_fault 17 = .ok (.iconst 1, 1) := by decide +kernel
theorem dX12_fault_18 : decode cX12_fault 18 = .ok (.if_icmp .ne 10, 3) := by decide +kernel
theorem dX12_fault_21 : decode cX12_fault 21 = .ok (.aload_n 0, 1) := by decide +kernel
theorem dX12_fault_22 : decode cX12_fault 22 = .ok (.getfield 40, 3) := by decide +kernel
theorem dX12_fault_25 : decode cX12_fault 25 = .ok (.goto 4, 3) := by decide +kernel
theorem dX12_fault_28 : decode cX12_fault 28 = .ok (.iconst (-1), 1) := by decide +kernel
theorem dX12_fault_29 : decode cX12_fault 29 = .ok (.ireturn, 1) := by decide +kernel
theorem dX12_hasWord_0 : decode cX12_hasWord 0 = .ok (.iconst 0, 1) := by decide +kernel
theorem dX12_hasWord_1 : decode cX12_hasWord 1 = .ok (.istore_n 2, 1) := by decide +kernel
theorem dX12_hasWord_2 : decode cX12_hasWord 2 = .ok (.iconst 0, 1) := by decide +kernel
theorem dX12_hasWord_3 : decode cX12_hasWord 3 = .ok (.istore_n 3, 1) := by decide +kernel
theorem dX12_hasWord_4 : decode cX12_hasWord 4 = .ok (.iload_n 3, 1) := by decide +kernel
theorem dX12_hasWord_5 : decode cX12_hasWord 5 = .ok (.aload_n 0, 1) := by decide +kernel
theorem dX12_hasWord_6 : decode cX12_hasWord 6 = .ok (.getfield 220, 3) := by decide +kernel
theorem dX12_hasWord_9 : decode cX12_hasWord 9 = .ok (.if_icmp .ge 29, 3) := by decide +kernel
theorem dX12_hasWord_12 : decode cX12_hasWord 12 = .ok (.iload_n 2, 1) := by decide +kernel
theorem dX12_hasWord_13 : decode cX12_hasWord 13 = .ok (.ifCond .ne 13, 3) := by decide +kernel
theorem dX12_hasWord_16 : decode cX12_hasWord 16 = .ok (.aload_n 0, 1) := by decide +kernel
theorem dX12_hasWord_17 : decode cX12_hasWord 17 = .ok (.getfield 43, 3) := by decide +kernel
theorem dX12_hasWord_20 : decode cX12_hasWord 20 = .ok (.iload_n 3, 1) := by decide +kernel
theorem dX12_hasWord_21 : decode cX12_hasWord 21 = .ok (.iaload, 1) := by decide +kernel
theorem dX12_hasWord_22 : decode cX12_hasWord 22 = .ok (.iload_n 1, 1) := by decide +kernel
theorem dX12_hasWord_23 : decode cX12_hasWord 23 = .ok (.if_icmp .ne 7, 3) := by decide +kernel
theorem dX12_hasWord_26 : decode cX12_hasWord 26 = .ok (.iconst 1, 1) := by decide +kernel
theorem dX12_hasWord_27 : decode cX12_hasWord 27 = .ok (.goto 4, 3) := by decide +kernel
theorem dX12_hasWord_30 : decode cX12_hasWord 30 = .ok (.iconst 0, 1) := by decide +kernel
theorem dX12_hasWord_31 : decode cX12_hasWord 31 = .ok (.istore_n 2, 1) := by decide +kernel
theorem dX12_hasWord_32 : decode cX12_hasWord 32 = .ok (.iinc 3 1, 3) := by decide +kernel
theorem dX12_hasWord_35 : decode cX12_hasWord 35 = .ok (.goto (-31), 3) := by decide +kernel
theorem dX12_hasWord_38 : decode cX12_hasWord 38 = .ok (.iload_n 2, 1) := by decide +kernel
theorem dX12_hasWord_39 : decode cX12_hasWord 39 = .ok (.ireturn, 1) := by decide +kernel
theorem dX12_holds_0 : decode cX12_holds 0 = .ok (.iconst 0, 1) := by decide +kernel
theorem dX12_holds_1 : decode cX12_holds 1 = .ok (.istore_n 3, 1) := by decide +kernel
theorem dX12_holds_2 : decode cX12_holds 2 = .ok (.aload_n 0, 1) := by decide +kernel
theorem dX12_holds_3 : decode cX12_holds 3 = .ok (.getfield 31, 3) := by decide +kernel
theorem dX12_holds_6 : decode cX12_holds 6 = .ok (.bipush 121, 2) := by decide +kernel
theorem dX12_holds_8 : decode cX12_holds 8 = .ok (.iload_n 1, 1) := by decide +kernel
theorem dX12_holds_9 : decode cX12_holds 9 = .ok (.iadd, 1) := by decide +kernel
theorem dX12_holds_10 : decode cX12_holds 10 = .ok (.iaload, 1) := by decide +kernel
theorem dX12_holds_11 : decode cX12_holds 11 = .ok (.istore 4, 2) := by decide +kernel
theorem dX12_holds_13 : decode cX12_holds 13 = .ok (.iload 4, 2) := by decide +kernel
theorem dX12_holds_15 : decode cX12_holds 15 = .ok (.aload_n 0, 1) := by decide +kernel
theorem dX12_holds_16 : decode cX12_holds 16 = .ok (.getfield 31, 3) := by decide +kernel
theorem dX12_holds_19 : decode cX12_holds 19 = .ok (.sipush 133, 3) := by decide +kernel
theorem dX12_holds_22 : decode cX12_holds 22 = .ok (.iload_n 1, 1) := by decide +kernel
theorem dX12_holds_23 : decode cX12_holds 23 = .ok (.iadd, 1) := by decide +kernel
theorem dX12_holds_24 : decode cX12_holds 24 = .ok (.iaload, 1) := by decide +kernel
theorem dX12_holds_25 : decode cX12_holds 25 = .ok (.if_icmp .ge 218, 3) := by decide +kernel
theorem dX12_holds_28 : decode cX12_holds 28 = .ok (.aload_n 0, 1) := by decide +kernel
theorem dX12_holds_29 : decode cX12_holds 29 = .ok (.getfield 31, 3) := by decide +kernel
theorem dX12_holds_32 : decode cX12_holds 32 = .ok (.sipush 145, 3) := by decide +kernel
theorem dX12_holds_35 : decode cX12_holds 35 = .ok (.iconst 2, 1) := by decide +kernel
theorem dX12_holds_36 : decode cX12_holds 36 = .ok (.iload 4, 2) := by decide +kernel
theorem dX12_holds_38 : decode cX12_holds 38 = .ok (.imul, 1) := by decide +kernel
theorem dX12_holds_39 : decode cX12_holds 39 = .ok (.iadd, 1) := by decide +kernel
theorem dX12_holds_40 : decode cX12_holds 40 = .ok (.iaload, 1) := by decide +kernel
theorem dX12_holds_41 : decode cX12_holds 41 = .ok (.istore 5, 2) := by decide +kernel
theorem dX12_holds_43 : decode cX12_holds 43 = .ok (.aload_n 0, 1) := by decide +kernel
theorem dX12_holds_44 : decode cX12_holds 44 = .ok (.getfield 31, 3) := by decide +kernel
theorem dX12_holds_47 : decode cX12_holds 47 = .ok (.sipush 145, 3) := by decide +kernel
theorem dX12_holds_50 : decode cX12_holds 50 = .ok (.iconst 2, 1) := by decide +kernel
theorem dX12_holds_51 : decode cX12_holds 51 = .ok (.iload 4, 2) := by decide +kernel
theorem dX12_holds_53 : decode cX12_holds 53 = .ok (.imul, 1) := by decide +kernel
theorem dX12_holds_54 : decode cX12_holds 54 = .ok (.iadd, 1) := by decide +kernel
theorem dX12_holds_55 : decode cX12_holds 55 = .ok (.iconst 1, 1) := by decide +kernel
theorem dX12_holds_56 : decode cX12_holds 56 = .ok (.iadd, 1) := by decide +kernel
theorem dX12_holds_57 : decode cX12_holds 57 = .ok (.iaload, 1) := by decide +kernel
theorem dX12_holds_58 : decode cX12_holds 58 = .ok (.istore 6, 2) := by decide +kernel
theorem dX12_holds_60 : decode cX12_holds 60 = .ok (.iload 5, 2) := by decide +kernel
theorem dX12_holds_62 : decode cX12_holds 62 = .ok (.iconst 2, 1) := by decide +kernel
theorem dX12_holds_63 : decode cX12_holds 63 = .ok (.if_icmp .ne 30, 3) := by decide +kernel
theorem dX12_holds_66 : decode cX12_holds 66 = .ok (.aload_n 0, 1) := by decide +kernel
theorem dX12_holds_67 : decode cX12_holds 67 = .ok (.getfield 49, 3) := by decide +kernel
theorem dX12_holds_70 : decode cX12_holds 70 = .ok (.iload_n 3, 1) := by decide +kernel
theorem dX12_holds_71 : decode cX12_holds 71 = .ok (.iconst 1, 1) := by decide +kernel
theorem dX12_holds_72 : decode cX12_holds 72 = .ok (.isub, 1) := by decide +kernel
theorem dX12_holds_73 : decode cX12_holds 73 = .ok (.aload_n 0, 1) := by decide +kernel
theorem dX12_holds_74 : decode cX12_holds 74 = .ok (.getfield 49, 3) := by decide +kernel
theorem dX12_holds_77 : decode cX12_holds 77 = .ok (.iload_n 3, 1) := by decide +kernel
theorem dX12_holds_78 : decode cX12_holds 78 = .ok (.iconst 1, 1) := by decide +kernel
theorem dX12_holds_79 : decode cX12_holds 79 = .ok (.isub, 1) := by decide +kernel
theorem dX12_holds_80 : decode cX12_holds 80 = .ok (.baload, 1) := by decide +kernel
theorem dX12_holds_81 : decode cX12_holds 81 = .ok (.ifCond .ne 7, 3) := by decide +kernel
theorem dX12_holds_84 : decode cX12_holds 84 = .ok (.iconst 1, 1) := by decide +kernel
theorem dX12_holds_85 : decode cX12_holds 85 = .ok (.goto 4, 3) := by decide +kernel
theorem dX12_holds_88 : decode cX12_holds 88 = .ok (.iconst 0, 1) := by decide +kernel
theorem dX12_holds_89 : decode cX12_holds 89 = .ok (.bastore, 1) := by decide +kernel
theorem dX12_holds_90 : decode cX12_holds 90 = .ok (.goto 147, 3) := by decide +kernel
theorem dX12_holds_93 : decode cX12_holds 93 = .ok (.iload 5, 2) := by decide +kernel
theorem dX12_holds_95 : decode cX12_holds 95 = .ok (.iconst 3, 1) := by decide +kernel
theorem dX12_holds_96 : decode cX12_holds 96 = .ok (.if_icmp .eq 9, 3) := by decide +kernel
theorem dX12_holds_99 : decode cX12_holds 99 = .ok (.iload 5, 2) := by decide +kernel
theorem dX12_holds_101 : decode cX12_holds 101 = .ok (.iconst 4, 1) := by decide +kernel
theorem dX12_holds_102 : decode cX12_holds 102 = .ok (.if_icmp .ne 76, 3) := by decide +kernel
theorem dX12_holds_105 : decode cX12_holds 105 = .ok (.iinc 3 (-1), 3) := by decide +kernel
theorem dX12_holds_108 : decode cX12_holds 108 = .ok (.aload_n 0, 1) := by decide +kernel
theorem dX12_holds_109 : decode cX12_holds 109 = .ok (.getfield 49, 3) := by decide +kernel
theorem dX12_holds_112 : decode cX12_holds 112 = .ok (.iload_n 3, 1) := by decide +kernel
theorem dX12_holds_113 : decode cX12_holds 113 = .ok (.iconst 1, 1) := by decide +kernel
theorem dX12_holds_114 : decode cX12_holds 114 = .ok (.isub, 1) := by decide +kernel
theorem dX12_holds_115 : decode cX12_holds 115 = .ok (.iload 5, 2) := by decide +kernel
theorem dX12_holds_117 : decode cX12_holds 117 = .ok (.iconst 3, 1) := by decide +kernel
theorem dX12_holds_118 : decode cX12_holds 118 = .ok (.if_icmp .ne 31, 3) := by decide +kernel
theorem dX12_holds_121 : decode cX12_holds 121 = .ok (.aload_n 0, 1) := by decide +kernel
theorem dX12_holds_122 : decode cX12_holds 122 = .ok (.getfield 49, 3) := by decide +kernel
theorem dX12_holds_125 : decode cX12_holds 125 = .ok (.iload_n 3, 1) := by decide +kernel
theorem dX12_holds_126 : decode cX12_holds 126 = .ok (.iconst 1, 1) := by decide +kernel
theorem dX12_holds_127 : decode cX12_holds 127 = .ok (.isub, 1) := by decide +kernel
theorem dX12_holds_128 : decode cX12_holds 128 = .ok (.baload, 1) := by decide +kernel
theorem dX12_holds_129 : decode cX12_holds 129 = .ok (.ifCond .eq 16, 3) := by decide +kernel
theorem dX12_holds_132 : decode cX12_holds 132 = .ok (.aload_n 0, 1) := by decide +kernel
theorem dX12_holds_133 : decode cX12_holds 133 = .ok (.getfield 49, 3) := by decide +kernel
theorem dX12_holds_136 : decode cX12_holds 136 = .ok (.iload_n 3, 1) := by decide +kernel
theorem dX12_holds_137 : decode cX12_holds 137 = .ok (.baload, 1) := by decide +kernel
theorem dX12_holds_138 : decode cX12_holds 138 = .ok (.ifCond .eq 7, 3) := by decide +kernel
theorem dX12_holds_141 : decode cX12_holds 141 = .ok (.iconst 1, 1) := by decide +kernel
theorem dX12_holds_142 : decode cX12_holds 142 = .ok (.goto 32, 3) := by decide +kernel
theorem dX12_holds_145 : decode cX12_holds 145 = .ok (.iconst 0, 1) := by decide +kernel
theorem dX12_holds_146 : decode cX12_holds 146 = .ok (.goto 28, 3) := by decide +kernel
theorem dX12_holds_149 : decode cX12_holds 149 = .ok (.aload_n 0, 1) := by decide +kernel
theorem dX12_holds_150 : decode cX12_holds 150 = .ok (.getfield 49, 3) := by decide +kernel
theorem dX12_holds_153 : decode cX12_holds 153 = .ok (.iload_n 3, 1) := by decide +kernel
theorem dX12_holds_154 : decode cX12_holds 154 = .ok (.iconst 1, 1) := by decide +kernel
theorem dX12_holds_155 : decode cX12_holds 155 = .ok (.isub, 1) := by decide +kernel
theorem dX12_holds_156 : decode cX12_holds 156 = .ok (.baload, 1) := by decide +kernel
theorem dX12_holds_157 : decode cX12_holds 157 = .ok (.ifCond .ne 12, 3) := by decide +kernel
theorem dX12_holds_160 : decode cX12_holds 160 = .ok (.aload_n 0, 1) := by decide +kernel
theorem dX12_holds_161 : decode cX12_holds 161 = .ok (.getfield 49, 3) := by decide +kernel
theorem dX12_holds_164 : decode cX12_holds 164 = .ok (.iload_n 3, 1) := by decide +kernel
theorem dX12_holds_165 : decode cX12_holds 165 = .ok (.baload, 1) := by decide +kernel
theorem dX12_holds_166 : decode cX12_holds 166 = .ok (.ifCond .eq 7, 3) := by decide +kernel
theorem dX12_holds_169 : decode cX12_holds 169 = .ok (.iconst 1, 1) := by decide +kernel
theorem dX12_holds_170 : decode cX12_holds 170 = .ok (.goto 4, 3) := by decide +kernel
theorem dX12_holds_173 : decode cX12_holds 173 = .ok (.iconst 0, 1) := by decide +kernel
theorem dX12_holds_174 : decode cX12_holds 174 = .ok (.bastore, 1) := by decide +kernel
theorem dX12_holds_175 : decode cX12_holds 175 = .ok (.goto 62, 3) := by decide +kernel
theorem dX12_holds_178 : decode cX12_holds 178 = .ok (.aload_n 0, 1) := by decide +kernel
theorem dX12_holds_179 : decode cX12_holds 179 = .ok (.getfield 49, 3) := by decide +kernel
theorem dX12_holds_182 : decode cX12_holds 182 = .ok (.iload_n 3, 1) := by decide +kernel
theorem dX12_holds_183 : decode cX12_holds 183 = .ok (.iload 5, 2) := by decide +kernel
theorem dX12_holds_185 : decode cX12_holds 185 = .ok (.iconst 5, 1) := by decide +kernel
theorem dX12_holds_186 : decode cX12_holds 186 = .ok (.if_icmp .ne 12, 3) := by decide +kernel
theorem dX12_holds_189 : decode cX12_holds 189 = .ok (.aload_n 0, 1) := by decide +kernel
theorem dX12_holds_190 : decode cX12_holds 190 = .ok (.iload 6, 2) := by decide +kernel
theorem dX12_holds_192 : decode cX12_holds 192 = .ok (.invokevirtual 223, 3) := by decide +kernel
theorem dX12_holds_195 : decode cX12_holds 195 = .ok (.goto 38, 3) := by decide +kernel
theorem dX12_holds_198 : decode cX12_holds 198 = .ok (.iload 5, 2) := by decide +kernel
theorem dX12_holds_200 : decode cX12_holds 200 = .ok (.bipush 6, 2) := by decide +kernel
theorem dX12_holds_202 : decode cX12_holds 202 = .ok (.if_icmp .ne 20, 3) := by decide +kernel
theorem dX12_holds_205 : decode cX12_holds 205 = .ok (.aload_n 0, 1) := by decide +kernel
theorem dX12_holds_206 : decode cX12_holds 206 = .ok (.getfield 220, 3) := by decide +kernel
theorem dX12_holds_209 : decode cX12_holds 209 = .ok (.iload 6, 2) := by decide +kernel
theorem dX12_holds_211 : decode cX12_holds 211 = .ok (.if_icmp .lt 7, 3) := by decide +kernel
theorem dX12_holds_214 : decode cX12_holds 214 = .ok (.iconst 1, 1) := by decide +kernel
theorem dX12_holds_215 : decode cX12_holds 215 = .ok (.goto 18, 3) := by decide +kernel
theorem dX12_holds_218 : decode cX12_holds 218 = .ok (.iconst 0, 1) := by decide +kernel
theorem dX12_holds_219 : decode cX12_holds 219 = .ok (.goto 14, 3) := by decide +kernel
theorem dX12_holds_222 : decode cX12_holds 222 = .ok (.iload 6, 2) := by decide +kernel
theorem dX12_holds_224 : decode cX12_holds 224 = .ok (.iload_n 2, 1) := by decide +kernel
theorem dX12_holds_225 : decode cX12_holds 225 = .ok (.if_icmp .ne 7, 3) := by decide +kernel
theorem dX12_holds_228 : decode cX12_holds 228 = .ok (.iconst 1, 1) := by decide +kernel
theorem dX12_holds_229 : decode cX12_holds 229 = .ok (.goto 4, 3) := by decide +kernel
theorem dX12_holds_232 : decode cX12_holds 232 = .ok (.iconst 0, 1) := by decide +kernel
theorem dX12_holds_233 : decode cX12_holds 233 = .ok (.bastore, 1) := by decide +kernel
theorem dX12_holds_234 : decode cX12_holds 234 = .ok (.iinc 3 1, 3) := by decide +kernel
theorem dX12_holds_237 : decode cX12_holds 237 = .ok (.iinc 4 1, 3) := by decide +kernel
theorem dX12_holds_240 : decode cX12_holds 240 = .ok (.goto (-227), 3) := by decide +kernel
theorem dX12_holds_243 : decode cX12_holds 243 = .ok (.iload_n 3, 1) := by decide +kernel
theorem dX12_holds_244 : decode cX12_holds 244 = .ok (.ifCond .eq 12, 3) := by decide +kernel
theorem dX12_holds_247 : decode cX12_holds 247 = .ok (.aload_n 0, 1) := by decide +kernel
theorem dX12_holds_248 : decode cX12_holds 248 = .ok (.getfield 49, 3) := by decide +kernel
theorem dX12_holds_251 : decode cX12_holds 251 = .ok (.iconst 0, 1) := by decide +kernel
theorem dX12_holds_252 : decode cX12_holds 252 = .ok (.baload, 1) := by decide +kernel
theorem dX12_holds_253 : decode cX12_holds 253 = .ok (.ifCond .eq 7, 3) := by decide +kernel
theorem dX12_holds_256 : decode cX12_holds 256 = .ok (.iconst 1, 1) := by decide +kernel
theorem dX12_holds_257 : decode cX12_holds 257 = .ok (.goto 4, 3) := by decide +kernel
theorem dX12_holds_260 : decode cX12_holds 260 = .ok (.iconst 0, 1) := by decide +kernel
theorem dX12_holds_261 : decode cX12_holds 261 = .ok (.ireturn, 1) := by decide +kernel
theorem dX12_stands_0 : decode cX12_stands 0 = .ok (.iconst 0, 1) := by decide +kernel
theorem dX12_stands_1 : decode cX12_stands 1 = .ok (.istore_n 2, 1) := by decide +kernel
theorem dX12_stands_2 : decode cX12_stands 2 = .ok (.iload_n 2, 1) := by decide +kernel
theorem dX12_stands_3 : decode cX12_stands 3 = .ok (.aload_n 0, 1) := by decide +kernel
theorem dX12_stands_4 : decode cX12_stands 4 = .ok (.getfield 31, 3) := by decide +kernel
theorem dX12_stands_7 : decode cX12_stands 7 = .ok (.bipush 97, 2) := by decide +kernel
theorem dX12_stands_9 : decode cX12_stands 9 = .ok (.iload_n 1, 1) := by decide +kernel
theorem dX12_stands_10 : decode cX12_stands 10 = .ok (.iadd, 1) := by decide +kernel
theorem dX12_stands_11 : decode cX12_stands 11 = .ok (.iaload, 1) := by decide +kernel
theorem dX12_stands_12 : decode cX12_stands 12 = .ok (.iadd, 1) := by decide +kernel
theorem dX12_stands_13 : decode cX12_stands 13 = .ok (.aload_n 0, 1) := by decide +kernel
theorem dX12_stands_14 : decode cX12_stands 14 = .ok (.getfield 220, 3) := by decide +kernel
theorem dX12_stands_17 : decode cX12_stands 17 = .ok (.if_icmp .gt 75, 3) := by decide +kernel
theorem dX12_stands_20 : decode cX12_stands 20 = .ok (.iconst 1, 1) := by decide +kernel
theorem dX12_stands_21 : decode cX12_stands 21 = .ok (.istore_n 3, 1) := by decide +kernel
theorem dX12_stands_22 : decode cX12_stands 22 = .ok (.iconst 0, 1) := by decide +kernel
theorem dX12_stands_23 : decode cX12_stands 23 = .ok (.istore 4, 2) := by decide +kernel
theorem dX12_stands_25 : decode cX12_stands 25 = .ok (.iload 4, 2) := by decide +kernel
theorem dX12_stands_27 : decode cX12_stands 27 = .ok (.aload_n 0, 1) := by decide +kernel
theorem dX12_stands_28 : decode cX12_stands 28 = .ok (.getfield 31, 3) := by decide +kernel
theorem dX12_stands_31 : decode cX12_stands 31 = .ok (.bipush 97, 2) := by decide +kernel
theorem dX12_stands_33 : decode cX12_stands 33 = .ok (.iload_n 1, 1) := by decide +kernel
theorem dX12_stands_34 : decode cX12_stands 34 = .ok (.iadd, 1) := by decide +kernel
theorem dX12_stands_35 : decode cX12_stands 35 = .ok (.iaload, 1) := by decide +kernel
theorem dX12_stands_36 : decode cX12_stands 36 = .ok (.if_icmp .ge 44, 3) := by decide +kernel
theorem dX12_stands_39 : decode cX12_stands 39 = .ok (.iload_n 3, 1) := by decide +kernel
theorem dX12_stands_40 : decode cX12_stands 40 = .ok (.ifCond .eq 32, 3) := by decide +kernel
theorem dX12_stands_43 : decode cX12_stands 43 = .ok (.aload_n 0, 1) := by decide +kernel
theorem dX12_stands_44 : decode cX12_stands 44 = .ok (.getfield 43, 3) := by decide +kernel
theorem dX12_stands_47 : decode cX12_stands 47 = .ok (.iload_n 2, 1) := by decide +kernel
theorem dX12_stands_48 : decode cX12_stands 48 = .ok (.iload 4, 2) := by decide +kernel
theorem dX12_stands_50 : decode cX12_stands 50 = .ok (.iadd, 1) := by decide +kernel
theorem dX12_stands_51 : decode cX12_stands 51 = .ok (.iaload, 1) := by decide +kernel
theorem dX12_stands_52 : decode cX12_stands 52 = .ok (.aload_n 0, 1) := by decide +kernel
theorem dX12_stands_53 : decode cX12_stands 53 = .ok (.getfield 31, 3) := by decide +kernel
theorem dX12_stands_56 : decode cX12_stands 56 = .ok (.iconst 1, 1) := by decide +kernel
theorem dX12_stands_57 : decode cX12_stands 57 = .ok (.iconst 4, 1) := by decide +kernel
theorem dX12_stands_58 : decode cX12_stands 58 = .ok (.iload_n 1, 1) := by decide +kernel
theorem dX12_stands_59 : decode cX12_stands 59 = .ok (.imul, 1) := by decide +kernel
theorem dX12_stands_60 : decode cX12_stands 60 = .ok (.iadd, 1) := by decide +kernel
theorem dX12_stands_61 : decode cX12_stands 61 = .ok (.iload 4, 2) := by decide +kernel
theorem dX12_stands_63 : decode cX12_stands 63 = .ok (.iadd, 1) := by decide +kernel
theorem dX12_stands_64 : decode cX12_stands 64 = .ok (.iaload, 1) := by decide +kernel
theorem dX12_stands_65 : decode cX12_stands 65 = .ok (.if_icmp .ne 7, 3) := by decide +kernel
theorem dX12_stands_68 : decode cX12_stands 68 = .ok (.iconst 1, 1) := by decide +kernel
theorem dX12_stands_69 : decode cX12_stands 69 = .ok (.goto 4, 3) := by decide +kernel
theorem dX12_stands_72 : decode cX12_stands 72 = .ok (.iconst 0, 1) := by decide +kernel
theorem dX12_stands_73 : decode cX12_stands 73 = .ok (.istore_n 3, 1) := by decide +kernel
theorem dX12_stands_74 : decode cX12_stands 74 = .ok (.iinc 4 1, 3) := by decide +kernel
theorem dX12_stands_77 : decode cX12_stands 77 = .ok (.goto (-52), 3) := by decide +kernel
theorem dX12_stands_80 : decode cX12_stands 80 = .ok (.iload_n 3, 1) := by decide +kernel
theorem dX12_stands_81 : decode cX12_stands 81 = .ok (.ifCond .eq 5, 3) := by decide +kernel
theorem dX12_stands_84 : decode cX12_stands 84 = .ok (.iload_n 2, 1) := by decide +kernel
theorem dX12_stands_85 : decode cX12_stands 85 = .ok (.ireturn, 1) := by decide +kernel
theorem dX12_stands_86 : decode cX12_stands 86 = .ok (.iinc 2 1, 3) := by decide +kernel
theorem dX12_stands_89 : decode cX12_stands 89 = .ok (.goto (-87), 3) := by decide +kernel
theorem dX12_stands_92 : decode cX12_stands 92 = .ok (.iconst (-1), 1) := by decide +kernel
theorem dX12_stands_93 : decode cX12_stands 93 = .ok (.ireturn, 1) := by decide +kernel
theorem dX12_does_0 : decode cX12_does 0 = .ok (.aload_n 0, 1) := by decide +kernel
theorem dX12_does_1 : decode cX12_does 1 = .ok (.iload_n 1, 1) := by decide +kernel
theorem dX12_does_2 : decode cX12_does 2 = .ok (.iload_n 2, 1) := by decide +kernel
theorem dX12_does_3 : decode cX12_does 3 = .ok (.invokevirtual 226, 3) := by decide +kernel
theorem dX12_does_6 : decode cX12_does 6 = .ok (.ifCond .eq 11, 3) := by decide +kernel
theorem dX12_does_9 : decode cX12_does 9 = .ok (.aload_n 0, 1) := by decide +kernel
theorem dX12_does_10 : decode cX12_does 10 = .ok (.iload_n 1, 1) := by decide +kernel
theorem dX12_does_11 : decode cX12_does 11 = .ok (.invokevirtual 230, 3) := by decide +kernel
theorem dX12_does_14 : decode cX12_does 14 = .ok (.goto 4, 3) := by decide +kernel
theorem dX12_does_17 : decode cX12_does 17 = .ok (.iconst (-1), 1) := by decide +kernel
theorem dX12_does_18 : decode cX12_does 18 = .ok (.istore_n 3, 1) := by decide +kernel
theorem dX12_does_19 : decode cX12_does 19 = .ok (.aload_n 0, 1) := by decide +kernel
theorem dX12_does_20 : decode cX12_does 20 = .ok (.getfield 31, 3) := by decide +kernel
theorem dX12_does_23 : decode cX12_does 23 = .ok (.bipush 97, 2) := by decide +kernel
theorem dX12_does_25 : decode cX12_does 25 = .ok (.iload_n 1, 1) := by decide +kernel
theorem dX12_does_26 : decode cX12_does 26 = .ok (.iadd, 1) := by decide +kernel
theorem dX12_does_27 : decode cX12_does 27 = .ok (.iaload, 1) := by decide +kernel
theorem dX12_does_28 : decode cX12_does 28 = .ok (.istore 4, 2) := by decide +kernel
theorem dX12_does_30 : decode cX12_does 30 = .ok (.aload_n 0, 1) := by decide +kernel
theorem dX12_does_31 : decode cX12_does 31 = .ok (.getfield 31, 3) := by decide +kernel
theorem dX12_does_34 : decode cX12_does 34 = .ok (.bipush 109, 2) := by decide +kernel
theorem dX12_does_36 : decode cX12_does 36 = .ok (.iload_n 1, 1) := by decide +kernel
theorem dX12_does_37 : decode cX12_does 37 = .ok (.iadd, 1) := by decide +kernel
theorem dX12_does_38 : decode cX12_does 38 = .ok (.iaload, 1) := by decide +kernel
theorem dX12_does_39 : decode cX12_does 39 = .ok (.istore 5, 2) := by decide +kernel
theorem dX12_does_41 : decode cX12_does 41 = .ok (.aload_n 0, 1) := by decide +kernel
theorem dX12_does_42 : decode cX12_does 42 = .ok (.getfield 220, 3) := by decide +kernel
theorem dX12_does_45 : decode cX12_does 45 = .ok (.iload 4, 2) := by decide +kernel
theorem dX12_does_47 : decode cX12_does 47 = .ok (.isub, 1) := by decide +kernel
theorem dX12_does_48 : decode cX12_does 48 = .ok (.iload 5, 2) := by decide +kernel
theorem dX12_does_50 : decode cX12_does 50 = .ok (.iadd, 1) := by decide +kernel
theorem dX12_does_51 : decode cX12_does 51 = .ok (.istore 6, 2) := by decide +kernel
theorem dX12_does_53 : decode cX12_does 53 = .ok (.iload_n 3, 1) := by decide +kernel
theorem dX12_does_54 : decode cX12_does 54 = .ok (.iconst (-1), 1) := by decide +kernel
theorem dX12_does_55 : decode cX12_does 55 = .ok (.if_icmp .eq 10, 3) := by decide +kernel
theorem dX12_does_58 : decode cX12_does 58 = .ok (.iload 6, 2) := by decide +kernel
theorem dX12_does_60 : decode cX12_does 60 = .ok (.bipush 8, 2) := by decide +kernel
theorem dX12_does_62 : decode cX12_does 62 = .ok (.if_icmp .le 5, 3) := by decide +kernel
theorem dX12_does_65 : decode cX12_does 65 = .ok (.iconst 0, 1) := by decide +kernel
theorem dX12_does_66 : decode cX12_does 66 = .ok (.ireturn, 1) := by decide +kernel
theorem dX12_does_67 : decode cX12_does 67 = .ok (.iload 6, 2) := by decide +kernel
theorem dX12_does_69 : decode cX12_does 69 = .ok (.aload_n 0, 1) := by decide +kernel
theorem dX12_does_70 : decode cX12_does 70 = .ok (.getfield 220, 3) := by decide +kernel
theorem dX12_does_73 : decode cX12_does 73 = .ok (.if_icmp .eq 7, 3) := by decide +kernel
theorem dX12_does_76 : decode cX12_does 76 = .ok (.iconst 1, 1) := by decide +kernel
theorem dX12_does_77 : decode cX12_does 77 = .ok (.goto 4, 3) := by decide +kernel
theorem dX12_does_80 : decode cX12_does 80 = .ok (.iconst 0, 1) := by decide +kernel
theorem dX12_does_81 : decode cX12_does 81 = .ok (.istore 7, 2) := by decide +kernel
theorem dX12_does_83 : decode cX12_does 83 = .ok (.iconst 0, 1) := by decide +kernel
theorem dX12_does_84 : decode cX12_does 84 = .ok (.istore 8, 2) := by decide +kernel
theorem dX12_does_86 : decode cX12_does 86 = .ok (.iload 8, 2) := by decide +kernel
theorem dX12_does_88 : decode cX12_does 88 = .ok (.iload 6, 2) := by decide +kernel
theorem dX12_does_90 : decode cX12_does 90 = .ok (.if_icmp .ge 102, 3) := by decide +kernel
theorem dX12_does_93 : decode cX12_does 93 = .ok (.aload_n 0, 1) := by decide +kernel
theorem dX12_does_94 : decode cX12_does 94 = .ok (.getfield 46, 3) := by decide +kernel
theorem dX12_does_97 : decode cX12_does 97 = .ok (.iload 8, 2) := by decide +kernel
theorem dX12_does_99 : decode cX12_does 99 = .ok (.iload 8, 2) := by decide +kernel
theorem dX12_does_101 : decode cX12_does 101 = .ok (.iload_n 3, 1) := by decide +kernel
theorem dX12_does_102 : decode cX12_does 102 = .ok (.if_icmp .ge 13, 3) := by decide +kernel
theorem dX12_does_105 : decode cX12_does 105 = .ok (.aload_n 0, 1) := by decide +kernel
theorem dX12_does_106 : decode cX12_does 106 = .ok (.getfield 43, 3) := by decide +kernel
theorem dX12_does_109 : decode cX12_does 109 = .ok (.iload 8, 2) := by decide +kernel
theorem dX12_does_111 : decode cX12_does 111 = .ok (.iaload, 1) := by decide +kernel
theorem dX12_does_112 : decode cX12_does 112 = .ok (.goto 44, 3) := by decide +kernel
theorem dX12_does_115 : decode cX12_does 115 = .ok (.iload 8, 2) := by decide +kernel
theorem dX12_does_117 : decode cX12_does 117 = .ok (.iload_n 3, 1) := by decide +kernel
theorem dX12_does_118 : decode cX12_does 118 = .ok (.iload 5, 2) := by decide +kernel
theorem dX12_does_120 : decode cX12_does 120 = .ok (.iadd, 1) := by decide +kernel
theorem dX12_does_121 : decode cX12_does 121 = .ok (.if_icmp .ge 22, 3) := by decide +kernel
theorem dX12_does_124 : decode cX12_does 124 = .ok (.aload_n 0, 1) := by decide +kernel
theorem dX12_does_125 : decode cX12_does 125 = .ok (.getfield 31, 3) := by decide +kernel
theorem dX12_does_128 : decode cX12_does 128 = .ok (.bipush 49, 2) := by decide +kernel
theorem dX12_does_130 : decode cX12_does 130 = .ok (.iconst 4, 1) := by decide +kernel
theorem dX12_does_131 : decode cX12_does 131 = .ok (.iload_n 1, 1) := by decide +kernel
theorem dX12_does_132 : decode cX12_does 132 = .ok (.imul, 1) := by decide +kernel
theorem dX12_does_133 : decode cX12_does 133 = .ok (.iadd, 1) := by decide +kernel
theorem dX12_does_134 : decode cX12_does 134 = .ok (.iload 8, 2) := by decide +kernel
theorem dX12_does_136 : decode cX12_does 136 = .ok (.iadd, 1) := by decide +kernel
theorem dX12_does_137 : decode cX12_does 137 = .ok (.iload_n 3, 1) := by decide +kernel
theorem dX12_does_138 : decode cX12_does 138 = .ok (.isub, 1) := by decide +kernel
theorem dX12_does_139 : decode cX12_does 139 = .ok (.iaload, 1) := by decide +kernel
theorem dX12_does_140 : decode cX12_does 140 = .ok (.goto 16, 3) := by decide +kernel
theorem dX12_does_143 : decode cX12_does 143 = .ok (.aload_n 0, 1) := by decide +kernel
theorem dX12_does_144 : decode cX12_does 144 = .ok (.getfield 43, 3) := by decide +kernel
theorem dX12_does_147 : decode cX12_does 147 = .ok (.iload 8, 2) := by decide +kernel
theorem dX12_does_149 : decode cX12_does 149 = .ok (.iload 5, 2) := by decide +kernel
theorem dX12_does_151 : decode cX12_does 151 = .ok (.isub, 1) := by decide +kernel
theorem dX12_does_152 : decode cX12_does 152 = .ok (.iload 4, 2) := by decide +kernel
theorem dX12_does_154 : decode cX12_does 154 = .ok (.iadd, 1) := by decide +kernel
theorem dX12_does_155 : decode cX12_does 155 = .ok (.iaload, 1) := by decide +kernel
theorem dX12_does_156 : decode cX12_does 156 = .ok (.iastore, 1) := by decide +kernel
theorem dX12_does_157 : decode cX12_does 157 = .ok (.iload 7, 2) := by decide +kernel
theorem dX12_does_159 : decode cX12_does 159 = .ok (.ifCond .ne 20, 3) := by decide +kernel
theorem dX12_does_162 : decode cX12_does 162 = .ok (.aload_n 0, 1) := by decide +kernel
theorem dX12_does_163 : decode cX12_does 163 = .ok (.getfield 46, 3) := by decide +kernel
theorem dX12_does_166 : decode cX12_does 166 = .ok (.iload 8, 2) := by decide +kernel
theorem dX12_does_168 : decode cX12_does 168 = .ok (.iaload, 1) := by decide +kernel
theorem dX12_does_169 : decode cX12_does 169 = .ok (.aload_n 0, 1) := by decide +kernel
theorem dX12_does_170 : decode cX12_does 170 = .ok (.getfield 43, 3) := by decide +kernel
theorem dX12_does_173 : decode cX12_does 173 = .ok (.iload 8, 2) := by decide +kernel
theorem dX12_does_175 : decode cX12_does 175 = .ok (.iaload, 1) := by decide +kernel
theorem dX12_does_176 : decode cX12_does 176 = .ok (.if_icmp .eq 7, 3) := by decide +kernel
theorem dX12_does_179 : decode cX12_does 179 = .ok (.iconst 1, 1) := by decide +kernel
theorem dX12_does_180 : decode cX12_does 180 = .ok (.goto 4, 3) := by decide +kernel
theorem dX12_does_183 : decode cX12_does 183 = .ok (.iconst 0, 1) := by decide +kernel
theorem dX12_does_184 : decode cX12_does 184 = .ok (.istore 7, 2) := by decide +kernel
theorem dX12_does_186 : decode cX12_does 186 = .ok (.iinc 8 1, 3) := by decide +kernel
theorem dX12_does_189 : decode cX12_does 189 = .ok (.goto (-103), 3) := by decide +kernel
theorem dX12_does_192 : decode cX12_does 192 = .ok (.iload 7, 2) := by decide +kernel
theorem dX12_does_194 : decode cX12_does 194 = .ok (.ifCond .ne 5, 3) := by decide +kernel
theorem dX12_does_197 : decode cX12_does 197 = .ok (.iconst 0, 1) := by decide +kernel
theorem dX12_does_198 : decode cX12_does 198 = .ok (.ireturn, 1) := by decide +kernel
theorem dX12_does_199 : decode cX12_does 199 = .ok (.aload_n 0, 1) := by decide +kernel
theorem dX12_does_200 : decode cX12_does 200 = .ok (.iload 6, 2) := by decide +kernel
theorem dX12_does_202 : decode cX12_does 202 = .ok (.putfield 220, 3) := by decide +kernel
theorem dX12_does_205 : decode cX12_does 205 = .ok (.iconst 0, 1) := by decide +kernel
theorem dX12_does_206 : decode cX12_does 206 = .ok (.istore 8, 2) := by decide +kernel
theorem dX12_does_208 : decode cX12_does 208 = .ok (.iload 8, 2) := by decide +kernel
theorem dX12_does_210 : decode cX12_does 210 = .ok (.iload 6, 2) := by decide +kernel
theorem dX12_does_212 : decode cX12_does 212 = .ok (.if_icmp .ge 23, 3) := by decide +kernel
theorem dX12_does_215 : decode cX12_does 215 = .ok (.aload_n 0, 1) := by decide +kernel
theorem dX12_does_216 : decode cX12_does 216 = .ok (.getfield 43, 3) := by decide +kernel
theorem dX12_does_219 : decode cX12_does 219 = .ok (.iload 8, 2) := by decide +kernel
theorem dX12_does_221 : decode cX12_does 221 = .ok (.aload_n 0, 1) := by decide +kernel
theorem dX12_does_222 : decode cX12_does 222 = .ok (.getfield 46, 3) := by decide +kernel
theorem dX12_does_225 : decode cX12_does 225 = .ok (.iload 8, 2) := by decide +kernel
theorem dX12_does_227 : decode cX12_does 227 = .ok (.iaload, 1) := by decide +kernel
theorem dX12_does_228 : decode cX12_does 228 = .ok (.iastore, 1) := by decide +kernel
theorem dX12_does_229 : decode cX12_does 229 = .ok (.iinc 8 1, 3) := by decide +kernel
theorem dX12_does_232 : decode cX12_does 232 = .ok (.goto (-24), 3) := by decide +kernel
theorem dX12_does_235 : decode cX12_does 235 = .ok (.iconst 1, 1) := by decide +kernel
theorem dX12_does_236 : decode cX12_does 236 = .ok (.ireturn, 1) := by decide +kernel
theorem dX12_smooth_0 : decode cX12_smooth 0 = .ok (.aload_n 0, 1) := by decide +kernel
theorem dX12_smooth_1 : decode cX12_smooth 1 = .ok (.lload_n 1, 1) := by decide +kernel
theorem dX12_smooth_2 : decode cX12_smooth 2 = .ok (.invokestatic 77, 3) := by decide +kernel
theorem dX12_smooth_5 : decode cX12_smooth 5 = .ok (.putfield 220, 3) := by decide +kernel
theorem dX12_smooth_8 : decode cX12_smooth 8 = .ok (.iconst 0, 1) := by decide +kernel
theorem dX12_smooth_9 : decode cX12_smooth 9 = .ok (.istore 4, 2) := by decide +kernel
theorem dX12_smooth_11 : decode cX12_smooth 11 = .ok (.iload 4, 2) := by decide +kernel
theorem dX12_smooth_13 : decode cX12_smooth 13 = .ok (.aload_n 0, 1) := by decide +kernel
theorem dX12_smooth_14 : decode cX12_smooth 14 = .ok (.getfield 220, 3) := by decide +kernel
theorem dX12_smooth_17 : decode cX12_smooth 17 = .ok (.if_icmp .ge 22, 3) := by decide +kernel
theorem dX12_smooth_20 : decode cX12_smooth 20 = .ok (.aload_n 0, 1) := by decide +kernel
theorem dX12_smooth_21 : decode cX12_smooth 21 = .ok (.getfield 43, 3) := by decide +kernel
theorem dX12_smooth_24 : decode cX12_smooth 24 = .ok (.iload 4, 2) := by decide +kernel
theorem dX12_smooth_26 : decode cX12_smooth 26 = .ok (.lload_n 1, 1) := by decide +kernel
theorem dX12_smooth_27 : decode cX12_smooth 27 = .ok (.iload 4, 2) := by decide +kernel
theorem dX12_smooth_29 : decode cX12_smooth 29 = .ok (.invokestatic 73, 3) := by decide +kernel
theorem dX12_smooth_32 : decode cX12_smooth 32 = .ok (.iastore, 1) := by decide +kernel
theorem dX12_smooth_33 : decode cX12_smooth 33 = .ok (.iinc 4 1, 3) := by decide +kernel
theorem dX12_smooth_36 : decode cX12_smooth 36 = .ok (.goto (-25), 3) := by decide +kernel
theorem dX12_smooth_39 : decode cX12_smooth 39 = .ok (.iconst 1, 1) := by decide +kernel
theorem dX12_smooth_40 : decode cX12_smooth 40 = .ok (.istore 4, 2) := by decide +kernel
theorem dX12_smooth_42 : decode cX12_smooth 42 = .ok (.iconst 0, 1) := by decide +kernel
theorem dX12_smooth_43 : decode cX12_smooth 43 = .ok (.istore 5, 2) := by decide +kernel
theorem dX12_smooth_45 : decode cX12_smooth 45 = .ok (.iload 5, 2) := by decide +kernel
theorem dX12_smooth_47 : decode cX12_smooth 47 = .ok (.bipush 12, 2) := by decide +kernel
theorem dX12_smooth_49 : decode cX12_smooth 49 = .ok (.if_icmp .ge 51, 3) := by decide +kernel
theorem dX12_smooth_52 : decode cX12_smooth 52 = .ok (.iload 4, 2) := by decide +kernel
theorem dX12_smooth_54 : decode cX12_smooth 54 = .ok (.ifCond .eq 46, 3) := by decide +kernel
theorem dX12_smooth_57 : decode cX12_smooth 57 = .ok (.iconst 0, 1) := by decide +kernel
theorem dX12_smooth_58 : decode cX12_smooth 58 = .ok (.istore 4, 2) := by decide +kernel
theorem dX12_smooth_60 : decode cX12_smooth 60 = .ok (.iconst 0, 1) := by decide +kernel
theorem dX12_smooth_61 : decode cX12_smooth 61 = .ok (.istore 6, 2) := by decide +kernel
theorem dX12_smooth_63 : decode cX12_smooth 63 = .ok (.iload 6, 2) := by decide +kernel
theorem dX12_smooth_65 : decode cX12_smooth 65 = .ok (.aload_n 0, 1) := by decide +kernel
theorem dX12_smooth_66 : decode cX12_smooth 66 = .ok (.getfield 31, 3) := by decide +kernel
theorem dX12_smooth_69 : decode cX12_smooth 69 = .ok (.iconst 0, 1) := by decide +kernel
theorem dX12_smooth_70 : decode cX12_smooth 70 = .ok (.iaload, 1) := by decide +kernel
theorem dX12_smooth_71 : decode cX12_smooth 71 = .ok (.if_icmp .ge 23, 3) := by decide +kernel
theorem dX12_smooth_74 : decode cX12_smooth 74 = .ok (.iload 4, 2) := by decide +kernel
theorem dX12_smooth_76 : decode cX12_smooth 76 = .ok (.ifCond .ne 18, 3) := by decide +kernel
theorem dX12_smooth_79 : decode cX12_smooth 79 = .ok (.aload_n 0, 1) := by decide +kernel
theorem dX12_smooth_80 : decode cX12_smooth 80 = .ok (.iload 6, 2) := by decide +kernel
theorem dX12_smooth_82 : decode cX12_smooth 82 = .ok (.iload_n 3, 1) := by decide +kernel
theorem dX12_smooth_83 : decode cX12_smooth 83 = .ok (.invokevirtual 233, 3) := by decide +kernel
theorem dX12_smooth_86 : decode cX12_smooth 86 = .ok (.istore 4, 2) := by decide +kernel
theorem dX12_smooth_88 : decode cX12_smooth 88 = .ok (.iinc 6 1, 3) := by decide +kernel
theorem dX12_smooth_91 : decode cX12_smooth 91 = .ok (.goto (-28), 3) := by decide +kernel
theorem dX12_smooth_94 : decode cX12_smooth 94 = .ok (.iinc 5 1, 3) := by decide +kernel
theorem dX12_smooth_97 : decode cX12_smooth 97 = .ok (.goto (-52), 3) := by decide +kernel
theorem dX12_smooth_100 : decode cX12_smooth 100 = .ok (.lconst 0, 1) := by decide +kernel
theorem dX12_smooth_101 : decode cX12_smooth 101 = .ok (.lstore 5, 2) := by decide +kernel
theorem dX12_smooth_103 : decode cX12_smooth 103 = .ok (.iconst 0, 1) := by decide +kernel
theorem dX12_smooth_104 : decode cX12_smooth 104 = .ok (.istore 7, 2) := by decide +kernel
theorem dX12_smooth_106 : decode cX12_smooth 106 = .ok (.iload 7, 2) := by decide +kernel
theorem dX12_smooth_108 : decode cX12_smooth 108 = .ok (.aload_n 0, 1) := by decide +kernel
theorem dX12_smooth_109 : decode cX12_smooth 109 = .ok (.getfield 220, 3) := by decide +kernel
theorem dX12_smooth_112 : decode cX12_smooth 112 = .ok (.if_icmp .ge 31, 3) := by decide +kernel
theorem dX12_smooth_115 : decode cX12_smooth 115 = .ok (.lload 5, 2) := by decide +kernel
theorem dX12_smooth_117 : decode cX12_smooth 117 = .ok (.aload_n 0, 1) := by decide +kernel
theorem dX12_smooth_118 : decode cX12_smooth 118 = .ok (.getfield 43, 3) := by decide +kernel
theorem dX12_smooth_121 : decode cX12_smooth 121 = .ok (.iload 7, 2) := by decide +kernel
theorem dX12_smooth_123 : decode cX12_smooth 123 = .ok (.iaload, 1) := by decide +kernel
theorem dX12_smooth_124 : decode cX12_smooth 124 = .ok (.i2l, 1) := by decide +kernel
theorem dX12_smooth_125 : decode cX12_smooth 125 = .ok (.bipush 56, 2) := by decide +kernel
theorem dX12_smooth_127 : decode cX12_smooth 127 = .ok (.bipush 8, 2) := by decide +kernel
theorem dX12_smooth_129 : decode cX12_smooth 129 = .ok (.iload 7, 2) := by decide +kernel
theorem dX12_smooth_131 : decode cX12_smooth 131 = .ok (.imul, 1) := by decide +kernel
theorem dX12_smooth_132 : decode cX12_smooth 132 = .ok (.isub, 1) := by decide +kernel
theorem dX12_smooth_133 : decode cX12_smooth 133 = .ok (.lshl, 1) := by decide +kernel
theorem dX12_smooth_134 : decode cX12_smooth 134 = .ok (.lor, 1) := by decide +kernel
theorem dX12_smooth_135 : decode cX12_smooth 135 = .ok (.lstore 5, 2) := by decide +kernel
theorem dX12_smooth_137 : decode cX12_smooth 137 = .ok (.iinc 7 1, 3) := by decide +kernel
theorem dX12_smooth_140 : decode cX12_smooth 140 = .ok (.goto (-34), 3) := by decide +kernel
theorem dX12_smooth_143 : decode cX12_smooth 143 = .ok (.lload 5, 2) := by decide +kernel
theorem dX12_smooth_145 : decode cX12_smooth 145 = .ok (.lreturn, 1) := by decide +kernel
theorem dX12_smoothed_0 : decode cX12_smoothed 0 = .ok (.aload_n 0, 1) := by decide +kernel
theorem dX12_smoothed_1 : decode cX12_smoothed 1 = .ok (.iconst 0, 1) := by decide +kernel
theorem dX12_smoothed_2 : decode cX12_smoothed 2 = .ok (.putfield 1, 3) := by decide +kernel
theorem dX12_smoothed_5 : decode cX12_smoothed 5 = .ok (.lload_n 1, 1) := by decide +kernel
theorem dX12_smoothed_6 : decode cX12_smoothed 6 = .ok (.invokestatic 77, 3) := by decide +kernel
theorem dX12_smoothed_9 : decode cX12_smoothed 9 = .ok (.ifCond .eq 15, 3) := by decide +kernel
theorem dX12_smoothed_12 : decode cX12_smoothed 12 = .ok (.iload_n 3, 1) := by decide +kernel
theorem dX12_smoothed_13 : decode cX12_smoothed 13 = .ok (.i2l, 1) := by decide +kernel
theorem dX12_smoothed_14 : decode cX12_smoothed 14 = .ok (.lconst 0, 1) := by decide +kernel
theorem dX12_smoothed_15 : decode cX12_smoothed 15 = .ok (.ldc2_w 89, 3) := by decide +kernel
theorem dX12_smoothed_18 : decode cX12_smoothed 18 = .ok (.invokestatic 81, 3) := by decide +kernel
theorem dX12_smoothed_21 : decode cX12_smoothed 21 = .ok (.ifCond .ne 11, 3) := by decide +kernel
theorem dX12_smoothed_24 : decode cX12_smoothed 24 = .ok (.aload_n 0, 1) := by decide +kernel
theorem dX12_smoothed_25 : decode cX12_smoothed 25 = .ok (.bipush (-3), 2) := by decide +kernel
theorem dX12_smoothed_27 : decode cX12_smoothed 27 = .ok (.invokevirtual 85, 3) := by decide +kernel
theorem dX12_smoothed_30 : decode cX12_smoothed 30 = .ok (.i2l, 1) := by decide +kernel
theorem dX12_smoothed_31 : decode cX12_smoothed 31 = .ok (.lreturn, 1) := by decide +kernel
theorem dX12_smoothed_32 : decode cX12_smoothed 32 = .ok (.aload_n 0, 1) := by decide +kernel
theorem dX12_smoothed_33 : decode cX12_smoothed 33 = .ok (.lload_n 1, 1) := by decide +kernel
theorem dX12_smoothed_34 : decode cX12_smoothed 34 = .ok (.iload_n 3, 1) := by decide +kernel
theorem dX12_smoothed_35 : decode cX12_smoothed 35 = .ok (.invokevirtual 236, 3) := by decide +kernel
theorem dX12_smoothed_38 : decode cX12_smoothed 38 = .ok (.lreturn, 1) := by decide +kernel
theorem dX12_draw_0 : decode cX12_draw 0 = .ok (.aload_n 0, 1) := by decide +kernel
theorem dX12_draw_1 : decode cX12_draw 1 = .ok (.ldc 240, 2) := by decide +kernel
theorem dX12_draw_3 : decode cX12_draw 3 = .ok (.aload_n 0, 1) := by decide +kernel
theorem dX12_draw_4 : decode cX12_draw 4 = .ok (.getfield 241, 3) := by decide +kernel
theorem dX12_draw_7 : decode cX12_draw 7 = .ok (.imul, 1) := by decide +kernel
theorem dX12_draw_8 : decode cX12_draw 8 = .ok (.sipush 12345, 3) := by decide +kernel
theorem dX12_draw_11 : decode cX12_draw 11 = .ok (.iadd, 1) := by decide +kernel
theorem dX12_draw_12 : decode cX12_draw 12 = .ok (.putfield 241, 3) := by decide +kernel
theorem dX12_draw_15 : decode cX12_draw 15 = .ok (.aload_n 0, 1) := by decide +kernel
theorem dX12_draw_16 : decode cX12_draw 16 = .ok (.getfield 241, 3) := by decide +kernel
theorem dX12_draw_19 : decode cX12_draw 19 = .ok (.bipush 16, 2) := by decide +kernel
theorem dX12_draw_21 : decode cX12_draw 21 = .ok (.iushr, 1) := by decide +kernel
theorem dX12_draw_22 : decode cX12_draw 22 = .ok (.bipush 100, 2) := by decide +kernel
theorem dX12_draw_24 : decode cX12_draw 24 = .ok (.irem, 1) := by decide +kernel
theorem dX12_draw_25 : decode cX12_draw 25 = .ok (.ireturn, 1) := by decide +kernel
theorem dX12_said_0 : decode cX12_said 0 = .ok (.lconst 0, 1) := by decide +kernel
theorem dX12_said_1 : decode cX12_said 1 = .ok (.lstore_n 3, 1) := by decide +kernel
theorem dX12_said_2 : decode cX12_said 2 = .ok (.lload_n 1, 1) := by decide +kernel
theorem dX12_said_3 : decode cX12_said 3 = .ok (.invokestatic 77, 3) := by decide +kernel
theorem dX12_said_6 : decode cX12_said 6 = .ok (.istore 5, 2) := by decide +kernel
theorem dX12_said_8 : decode cX12_said 8 = .ok (.iconst 0, 1) := by decide +kernel
theorem dX12_said_9 : decode cX12_said 9 = .ok (.istore 6, 2) := by decide +kernel
theorem dX12_said_11 : decode cX12_said 11 = .ok (.iload 6, 2) := by decide +kernel
theorem dX12_said_13 : decode cX12_said 13 = .ok (.iload 5, 2) := by decide +kernel
theorem dX12_said_15 : decode cX12_said 15 = .ok (.if_icmp .ge 92, 3) := by decide +kernel
theorem dX12_said_18 : decode cX12_said 18 = .ok (.lload_n 1, 1) := by decide +kernel
theorem dX12_said_19 : decode cX12_said 19 = .ok (.iload 6, 2) := by decide +kernel
theorem dX12_said_21 : decode cX12_said 21 = .ok (.invokestatic 73, 3) := by decide +kernel
theorem dX12_said_24 : decode cX12_said 24 = .ok (.istore 7, 2) := by decide +kernel
theorem dX12_said_26 : decode cX12_said 26 = .ok (.iconst 0, 1) := by decide +kernel
theorem dX12_said_27 : decode cX12_said 27 = .ok (.istore 8, 2) := by decide +kernel
theorem dX12_said_29 : decode cX12_said 29 = .ok (.iconst 0, 1) := by decide +kernel
theorem dX12_said_30 : decode cX12_said 30 = .ok (.istore 9, 2) := by decide +kernel
theorem dX12_said_32 : decode cX12_said 32 = .ok (.iload 9, 2) := by decide +kernel
theorem dX12_said_34 : decode cX12_said 34 = .ok (.aload_n 0, 1) := by decide +kernel
theorem dX12_said_35 : decode cX12_said 35 = .ok (.getfield 34, 3) := by decide +kernel
theorem dX12_said_38 : decode cX12_said 38 = .ok (.iconst 4, 1) := by decide +kernel
theorem dX12_said_39 : decode cX12_said 39 = .ok (.iaload, 1) := by decide +kernel
theorem dX12_said_40 : decode cX12_said 40 = .ok (.if_icmp .ge 46, 3) := by decide +kernel
theorem dX12_said_43 : decode cX12_said 43 = .ok (.iload 8, 2) := by decide +kernel
theorem dX12_said_45 : decode cX12_said 45 = .ok (.ifCond .ne 41, 3) := by decide +kernel
theorem dX12_said_48 : decode cX12_said 48 = .ok (.aload_n 0, 1) := by decide +kernel
theorem dX12_said_49 : decode cX12_said 49 = .ok (.getfield 34, 3) := by decide +kernel
theorem dX12_said_52 : decode cX12_said 52 = .ok (.bipush 17, 2) := by decide +kernel
theorem dX12_said_54 : decode cX12_said 54 = .ok (.iload 9, 2) := by decide +kernel
theorem dX12_said_56 : decode cX12_said 56 = .ok (.iadd, 1) := by decide +kernel
theorem dX12_said_57 : decode cX12_said 57 = .ok (.iaload, 1) := by decide +kernel
theorem dX12_said_58 : decode cX12_said 58 = .ok (.iload 7, 2) := by decide +kernel
theorem dX12_said_60 : decode cX12_said 60 = .ok (.if_icmp .eq 6, 3) := by decide +kernel
theorem dX12_said_63 : decode cX12_said 63 = .ok (.goto 17, 3) := by decide +kernel
theorem dX12_said_66 : decode cX12_said 66 = .ok (.aload_n 0, 1) := by decide +kernel
theorem dX12_said_67 : decode cX12_said 67 = .ok (.getfield 34, 3) := by decide +kernel
theorem dX12_said_70 : decode cX12_said 70 = .ok (.iconst 5, 1) := by decide +kernel
theorem dX12_said_71 : decode cX12_said 71 = .ok (.iload 9, 2) := by decide +kernel
theorem dX12_said_73 : decode cX12_said 73 = .ok (.iadd, 1) := by decide +kernel
theorem dX12_said_74 : decode cX12_said 74 = .ok (.iaload, 1) := by decide +kernel
theorem dX12_said_75 : decode cX12_said 75 = .ok (.istore 7, 2) := by decide +kernel
theorem dX12_said_77 : decode cX12_said 77 = .ok (.iconst 1, 1) := by decide +kernel
theorem dX12_said_78 : decode cX12_said 78 = .ok (.istore 8, 2) := by decide +kernel
theorem dX12_said_80 : decode cX12_said 80 = .ok (.iinc 9 1, 3) := by decide +kernel
theorem dX12_said_83 : decode cX12_said 83 = .ok (.goto (-51), 3) := by decide +kernel
theorem dX12_said_86 : decode cX12_said 86 = .ok (.lload_n 3, 1) := by decide +kernel
theorem dX12_said_87 : decode cX12_said 87 = .ok (.iload 7, 2) := by decide +kernel
theorem dX12_said_89 : decode cX12_said 89 = .ok (.i2l, 1) := by decide +kernel
theorem dX12_said_90 : decode cX12_said 90 = .ok (.bipush 56, 2) := by decide +kernel
theorem dX12_said_92 : decode cX12_said 92 = .ok (.bipush 8, 2) := by decide +kernel
theorem dX12_said_94 : decode cX12_said 94 = .ok (.iload 6, 2) := by decide +kernel
theorem dX12_said_96 : decode cX12_said 96 = .ok (.imul, 1) := by decide +kernel
theorem dX12_said_97 : decode cX12_said 97 = .ok (.isub, 1) := by decide +kernel
theorem dX12_said_98 : decode cX12_said 98 = .ok (.lshl, 1) := by decide +kernel
theorem dX12_said_99 : decode cX12_said 99 = .ok (.lor, 1) := by decide +kernel
theorem dX12_said_100 : decode cX12_said 100 = .ok (.lstore_n 3, 1) := by decide +kernel
theorem dX12_said_101 : decode cX12_said 101 = .ok (.iinc 6 1, 3) := by decide +kernel
theorem dX12_said_104 : decode cX12_said 104 = .ok (.goto (-93), 3) := by decide +kernel
theorem dX12_said_107 : decode cX12_said 107 = .ok (.lload_n 3, 1) := by decide +kernel
theorem dX12_said_108 : decode cX12_said 108 = .ok (.lreturn, 1) := by decide +kernel
theorem dX12_told_0 : decode cX12_told 0 = .ok (.aload_n 0, 1) := by decide +kernel
theorem dX12_told_1 : decode cX12_told 1 = .ok (.iconst 0, 1) := by decide +kernel
theorem dX12_told_2 : decode cX12_told 2 = .ok (.putfield 1, 3) := by decide +kernel
theorem dX12_told_5 : decode cX12_told 5 = .ok (.iload_n 1, 1) := by decide +kernel
theorem dX12_told_6 : decode cX12_told 6 = .ok (.i2l, 1) := by decide +kernel
theorem dX12_told_7 : decode cX12_told 7 = .ok (.lconst 0, 1) := by decide +kernel
theorem dX12_told_8 : decode cX12_told 8 = .ok (.aload_n 0, 1) := by decide +kernel
theorem dX12_told_9 : decode cX12_told 9 = .ok (.getfield 17, 3) := by decide +kernel
theorem dX12_told_12 : decode cX12_told 12 = .ok (.iconst 0, 1) := by decide +kernel
theorem dX12_told_13 : decode cX12_told 13 = .ok (.iaload, 1) := by decide +kernel
theorem dX12_told_14 : decode cX12_told 14 = .ok (.iconst 1, 1) := by decide +kernel
theorem dX12_told_15 : decode cX12_told 15 = .ok (.isub, 1) := by decide +kernel
theorem dX12_told_16 : decode cX12_told 16 = .ok (.i2l, 1) := by decide +kernel
theorem dX12_told_17 : decode cX12_told 17 = .ok (.invokestatic 81, 3) := by decide +kernel
theorem dX12_told_20 : decode cX12_told 20 = .ok (.ifCond .ne 10, 3) := by decide +kernel
theorem dX12_told_23 : decode cX12_told 23 = .ok (.aload_n 0, 1) := by decide +kernel
theorem dX12_told_24 : decode cX12_told 24 = .ok (.bipush (-2), 2) := by decide +kernel
theorem dX12_told_26 : decode cX12_told 26 = .ok (.invokevirtual 85, 3) := by decide +kernel
theorem dX12_told_29 : decode cX12_told 29 = .ok (.ireturn, 1) := by decide +kernel
theorem dX12_told_30 : decode cX12_told 30 = .ok (.iload_n 2, 1) := by decide +kernel
theorem dX12_told_31 : decode cX12_told 31 = .ok (.i2l, 1) := by decide +kernel
theorem dX12_told_32 : decode cX12_told 32 = .ok (.lconst 0, 1) := by decide +kernel
theorem dX12_told_33 : decode cX12_told 33 = .ok (.ldc2_w 91, 3) := by decide +kernel
theorem dX12_told_36 : decode cX12_told 36 = .ok (.invokestatic 81, 3) := by decide +kernel
theorem dX12_told_39 : decode cX12_told 39 = .ok (.ifCond .eq 15, 3) := by decide +kernel
theorem dX12_told_42 : decode cX12_told 42 = .ok (.iload_n 3, 1) := by decide +kernel
theorem dX12_told_43 : decode cX12_told 43 = .ok (.i2l, 1) := by decide +kernel
theorem dX12_told_44 : decode cX12_told 44 = .ok (.lconst 0, 1) := by decide +kernel
theorem dX12_told_45 : decode cX12_told 45 = .ok (.ldc2_w 93, 3) := by decide +kernel
theorem dX12_told_48 : decode cX12_told 48 = .ok (.invokestatic 81, 3) := by decide +kernel
theorem dX12_told_51 : decode cX12_told 51 = .ok (.ifCond .ne 10, 3) := by decide +kernel
theorem dX12_told_54 : decode cX12_told 54 = .ok (.aload_n 0, 1) := by decide +kernel
theorem dX12_told_55 : decode cX12_told 55 = .ok (.bipush (-3), 2) := by decide +kernel
theorem dX12_told_57 : decode cX12_told 57 = .ok (.invokevirtual 85, 3) := by decide +kernel
theorem dX12_told_60 : decode cX12_told 60 = .ok (.ireturn, 1) := by decide +kernel
theorem dX12_told_61 : decode cX12_told 61 = .ok (.aload_n 0, 1) := by decide +kernel
theorem dX12_told_62 : decode cX12_told 62 = .ok (.getfield 17, 3) := by decide +kernel
theorem dX12_told_65 : decode cX12_told 65 = .ok (.iconst 0, 1) := by decide +kernel
theorem dX12_told_66 : decode cX12_told 66 = .ok (.iaload, 1) := by decide +kernel
theorem dX12_told_67 : decode cX12_told 67 = .ok (.bipush 40, 2) := by decide +kernel
theorem dX12_told_69 : decode cX12_told 69 = .ok (.if_icmp .ne 10, 3) := by decide +kernel
theorem dX12_told_72 : decode cX12_told 72 = .ok (.aload_n 0, 1) := by decide +kernel
theorem dX12_told_73 : decode cX12_told 73 = .ok (.bipush (-4), 2) := by decide +kernel
theorem dX12_told_75 : decode cX12_told 75 = .ok (.invokevirtual 85, 3) := by decide +kernel
theorem dX12_told_78 : decode cX12_told 78 = .ok (.ireturn, 1) := by decide +kernel
theorem dX12_told_79 : decode cX12_told 79 = .ok (.aload_n 0, 1) := by decide +kernel
theorem dX12_told_80 : decode cX12_told 80 = .ok (.iload 4, 2) := by decide +kernel
theorem dX12_told_82 : decode cX12_told 82 = .ok (.putfield 241, 3) := by decide +kernel
theorem dX12_told_85 : decode cX12_told 85 = .ok (.iconst 0, 1) := by decide +kernel
theorem dX12_told_86 : decode cX12_told 86 = .ok (.istore 5, 2) := by decide +kernel
theorem dX12_told_88 : decode cX12_told 88 = .ok (.iconst 0, 1) := by decide +kernel
theorem dX12_told_89 : decode cX12_told 89 = .ok (.istore 6, 2) := by decide +kernel
theorem dX12_told_91 : decode cX12_told 91 = .ok (.iload 6, 2) := by decide +kernel
theorem dX12_told_93 : decode cX12_told 93 = .ok (.aload_n 0, 1) := by decide +kernel
theorem dX12_told_94 : decode cX12_told 94 = .ok (.getfield 17, 3) := by decide +kernel
theorem dX12_told_97 : decode cX12_told 97 = .ok (.bipush 121, 2) := by decide +kernel
theorem dX12_told_99 : decode cX12_told 99 = .ok (.iload_n 1, 1) := by decide +kernel
theorem dX12_told_100 : decode cX12_told 100 = .ok (.iadd, 1) := by decide +kernel
theorem dX12_told_101 : decode cX12_told 101 = .ok (.iaload, 1) := by decide +kernel
theorem dX12_told_102 : decode cX12_told 102 = .ok (.if_icmp .ge 85, 3) := by decide +kernel
theorem dX12_told_105 : decode cX12_told 105 = .ok (.aload_n 0, 1) := by decide +kernel
theorem dX12_told_106 : decode cX12_told 106 = .ok (.invokevirtual 244, 3) := by decide +kernel
theorem dX12_told_109 : decode cX12_told 109 = .ok (.aload_n 0, 1) := by decide +kernel
theorem dX12_told_110 : decode cX12_told 110 = .ok (.getfield 34, 3) := by decide +kernel
theorem dX12_told_113 : decode cX12_told 113 = .ok (.iconst 1, 1) := by decide +kernel
theorem dX12_told_114 : decode cX12_told 114 = .ok (.iaload, 1) := by decide +kernel
theorem dX12_told_115 : decode cX12_told 115 = .ok (.if_icmp .ge 6, 3) := by decide +kernel
theorem dX12_told_118 : decode cX12_told 118 = .ok (.goto 63, 3) := by decide +kernel
theorem dX12_told_121 : decode cX12_told 121 = .ok (.aload_n 0, 1) := by decide +kernel
theorem dX12_told_122 : decode cX12_told 122 = .ok (.aload_n 0, 1) := by decide +kernel
theorem dX12_told_123 : decode cX12_told 123 = .ok (.getfield 20, 3) := by decide +kernel
theorem dX12_told_126 : decode cX12_told 126 = .ok (.bipush 12, 2) := by decide +kernel
theorem dX12_told_128 : decode cX12_told 128 = .ok (.iload_n 1, 1) := by decide +kernel
theorem dX12_told_129 : decode cX12_told 129 = .ok (.imul, 1) := by decide +kernel
theorem dX12_told_130 : decode cX12_told 130 = .ok (.iload 6, 2) := by decide +kernel
theorem dX12_told_132 : decode cX12_told 132 = .ok (.iadd, 1) := by decide +kernel
theorem dX12_told_133 : decode cX12_told 133 = .ok (.laload, 1) := by decide +kernel
theorem dX12_told_134 : decode cX12_told 134 = .ok (.invokevirtual 247, 3) := by decide +kernel
theorem dX12_told_137 : decode cX12_told 137 = .ok (.lstore 7, 2) := by decide +kernel
theorem dX12_told_139 : decode cX12_told 139 = .ok (.aload_n 0, 1) := by decide +kernel
theorem dX12_told_140 : decode cX12_told 140 = .ok (.getfield 52, 3) := by decide +kernel
theorem dX12_told_143 : decode cX12_told 143 = .ok (.iload 5, 2) := by decide +kernel
theorem dX12_told_145 : decode cX12_told 145 = .ok (.aload_n 0, 1) := by decide +kernel
theorem dX12_told_146 : decode cX12_told 146 = .ok (.invokevirtual 244, 3) := by decide +kernel
theorem dX12_told_149 : decode cX12_told 149 = .ok (.aload_n 0, 1) := by decide +kernel
theorem dX12_told_150 : decode cX12_told 150 = .ok (.getfield 34, 3) := by decide +kernel
theorem dX12_told_153 : decode cX12_told 153 = .ok (.iconst 3, 1) := by decide +kernel
theorem dX12_told_154 : decode cX12_told 154 = .ok (.iaload, 1) := by decide +kernel
theorem dX12_told_155 : decode cX12_told 155 = .ok (.if_icmp .ge 20, 3) := by decide +kernel
theorem dX12_told_158 : decode cX12_told 158 = .ok (.aload_n 0, 1) := by decide +kernel
theorem dX12_told_159 : decode cX12_told 159 = .ok (.lload 7, 2) := by decide +kernel
theorem dX12_told_161 : decode cX12_told 161 = .ok (.aload_n 0, 1) := by decide +kernel
theorem dX12_told_162 : decode cX12_told 162 = .ok (.getfield 17, 3) := by decide +kernel
theorem dX12_told_165 : decode cX12_told 165 = .ok (.iconst 1, 1) := by decide +kernel
theorem dX12_told_166 : decode cX12_told 166 = .ok (.iload_n 1, 1) := by decide +kernel
theorem dX12_told_167 : decode cX12_told 167 = .ok (.iadd, 1) := by decide +kernel
theorem dX12_told_168 : decode cX12_told 168 = .ok (.iaload, 1) := by decide +kernel
theorem dX12_told_169 : decode cX12_told 169 = .ok (.invokevirtual 236, 3) := by decide +kernel
theorem dX12_told_172 : decode cX12_told 172 = .ok (.goto 5, 3) := by decide +kernel
theorem dX12_told_175 : decode cX12_told 175 = .ok (.lload 7, 2) := by decide +kernel
theorem dX12_told_177 : decode cX12_told 177 = .ok (.lastore, 1) := by decide +kernel
theorem dX12_told_178 : decode cX12_told 178 = .ok (.iinc 5 1, 3) := by decide +kernel
theorem dX12_told_181 : decode cX12_told 181 = .ok (.iinc 6 1, 3) := by decide +kernel
theorem dX12_told_184 : decode cX12_told 184 = .ok (.goto (-93), 3) := by decide +kernel
theorem dX12_told_187 : decode cX12_told 187 = .ok (.iload 5, 2) := by decide +kernel
theorem dX12_told_189 : decode cX12_told 189 = .ok (.ifCond .ne 10, 3) := by decide +kernel
theorem dX12_told_192 : decode cX12_told 192 = .ok (.aload_n 0, 1) := by decide +kernel
theorem dX12_told_193 : decode cX12_told 193 = .ok (.bipush (-5), 2) := by decide +kernel
theorem dX12_told_195 : decode cX12_told 195 = .ok (.invokevirtual 85, 3) := by decide +kernel
theorem dX12_told_198 : decode cX12_told 198 = .ok (.ireturn, 1) := by decide +kernel
theorem dX12_told_199 : decode cX12_told 199 = .ok (.iconst 0, 1) := by decide +kernel
theorem dX12_told_200 : decode cX12_told 200 = .ok (.istore 6, 2) := by decide +kernel
theorem dX12_told_202 : decode cX12_told 202 = .ok (.iload 6, 2) := by decide +kernel
theorem dX12_told_204 : decode cX12_told 204 = .ok (.iconst 1, 1) := by decide +kernel
theorem dX12_told_205 : decode cX12_told 205 = .ok (.iadd, 1) := by decide +kernel
theorem dX12_told_206 : decode cX12_told 206 = .ok (.iload 5, 2) := by decide +kernel
theorem dX12_told_208 : decode cX12_told 208 = .ok (.if_icmp .ge 61, 3) := by decide +kernel
theorem dX12_told_211 : decode cX12_told 211 = .ok (.aload_n 0, 1) := by decide +kernel
theorem dX12_told_212 : decode cX12_told 212 = .ok (.invokevirtual 244, 3) := by decide +kernel
theorem dX12_told_215 : decode cX12_told 215 = .ok (.aload_n 0, 1) := by decide +kernel
theorem dX12_told_216 : decode cX12_told 216 = .ok (.getfield 34, 3) := by decide +kernel
theorem dX12_told_219 : decode cX12_told 219 = .ok (.iconst 2, 1) := by decide +kernel
theorem dX12_told_220 : decode cX12_told 220 = .ok (.iaload, 1) := by decide +kernel
theorem dX12_told_221 : decode cX12_told 221 = .ok (.if_icmp .lt 6, 3) := by decide +kernel
theorem dX12_told_224 : decode cX12_told 224 = .ok (.goto 39, 3) := by decide +kernel
theorem dX12_told_227 : decode cX12_told 227 = .ok (.aload_n 0, 1) := by decide +kernel
theorem dX12_told_228 : decode cX12_told 228 = .ok (.getfield 52, 3) := by decide +kernel
theorem dX12_told_231 : decode cX12_told 231 = .ok (.iload 6, 2) := by decide +kernel
theorem dX12_told_233 : decode cX12_told 233 = .ok (.laload, 1) := by decide +kernel
theorem dX12_told_234 : decode cX12_told 234 = .ok (.lstore 7, 2) := by decide +kernel
theorem dX12_told_236 : decode cX12_told 236 = .ok (.aload_n 0, 1) := by decide +kernel
theorem dX12_told_237 : decode cX12_told 237 = .ok (.getfield 52, 3) := by decide +kernel
theorem dX12_told_240 : decode cX12_told 240 = .ok (.iload 6, 2) := by decide +kernel
theorem dX12_told_242 : decode cX12_told 242 = .ok (.aload_n 0, 1) := by decide +kernel
theorem dX12_told_243 : decode cX12_told 243 = .ok (.getfield 52, 3) := by decide +kernel
theorem dX12_told_246 : decode cX12_told 246 = .ok (.iload 6, 2) := by decide +kernel
theorem dX12_told_248 : decode cX12_told 248 = .ok (.iconst 1, 1) := by decide +kernel
theorem dX12_told_249 : decode cX12_told 249 = .ok (.iadd, 1) := by decide +kernel
theorem dX12_told_250 : decode cX12_told 250 = .ok (.laload, 1) := by decide +kernel
theorem dX12_told_251 : decode cX12_told 251 = .ok (.lastore, 1) := by decide +kernel
theorem dX12_told_252 : decode cX12_told 252 = .ok (.aload_n 0, 1) := by decide +kernel
theorem dX12_told_253 : decode cX12_told 253 = .ok (.getfield 52, 3) := by decide +kernel
theorem dX12_told_256 : decode cX12_told 256 = .ok (.iload 6, 2) := by decide +kernel
theorem dX12_told_258 : decode cX12_told 258 = .ok (.iconst 1, 1) := by decide +kernel
theorem dX12_told_259 : decode cX12_told 259 = .ok (.iadd, 1) := by decide +kernel
theorem dX12_told_260 : decode cX12_told 260 = .ok (.lload 7, 2) := by decide +kernel
theorem dX12_told_262 : decode cX12_told 262 = .ok (.lastore, 1) := by decide +kernel
theorem dX12_told_263 : decode cX12_told 263 = .ok (.iinc 6 1, 3) := by decide +kernel
theorem dX12_told_266 : decode cX12_told 266 = .ok (.goto (-64), 3) := by decide +kernel
theorem dX12_told_269 : decode cX12_told 269 = .ok (.aload_n 0, 1) := by decide +kernel
theorem dX12_told_270 : decode cX12_told 270 = .ok (.aload_n 0, 1) := by decide +kernel
theorem dX12_told_271 : decode cX12_told 271 = .ok (.getfield 17, 3) := by decide +kernel
theorem dX12_told_274 : decode cX12_told 274 = .ok (.iconst 1, 1) := by decide +kernel
theorem dX12_told_275 : decode cX12_told 275 = .ok (.iload_n 1, 1) := by decide +kernel
theorem dX12_told_276 : decode cX12_told 276 = .ok (.iadd, 1) := by decide +kernel
theorem dX12_told_277 : decode cX12_told 277 = .ok (.iaload, 1) := by decide +kernel
theorem dX12_told_278 : decode cX12_told 278 = .ok (.iload_n 2, 1) := by decide +kernel
theorem dX12_told_279 : decode cX12_told 279 = .ok (.iload_n 3, 1) := by decide +kernel
theorem dX12_told_280 : decode cX12_told 280 = .ok (.invokevirtual 97, 3) := by decide +kernel
theorem dX12_told_283 : decode cX12_told 283 = .ok (.istore 6, 2) := by decide +kernel
theorem dX12_told_285 : decode cX12_told 285 = .ok (.iconst 0, 1) := by decide +kernel
theorem dX12_told_286 : decode cX12_told 286 = .ok (.istore 7, 2) := by decide +kernel
theorem dX12_told_288 : decode cX12_told 288 = .ok (.iload 7, 2) := by decide +kernel
theorem dX12_told_290 : decode cX12_told 290 = .ok (.iload 5, 2) := by decide +kernel
theorem dX12_told_292 : decode cX12_told 292 = .ok (.if_icmp .ge 29, 3) := by decide +kernel
theorem dX12_told_295 : decode cX12_told 295 = .ok (.aload_n 0, 1) := by decide +kernel
theorem dX12_told_296 : decode cX12_told 296 = .ok (.getfield 20, 3) := by decide +kernel
theorem dX12_told_299 : decode cX12_told 299 = .ok (.bipush 12, 2) := by decide +kernel
theorem dX12_told_301 : decode cX12_told 301 = .ok (.iload 6, 2) := by decide +kernel
theorem dX12_told_303 : decode cX12_told 303 = .ok (.imul, 1) := by decide +kernel
theorem dX12_told_304 : decode cX12_told 304 = .ok (.iload 7, 2) := by decide +kernel
theorem dX12_told_306 : decode cX12_told 306 = .ok (.iadd, 1) := by decide +kernel
theorem dX12_told_307 : decode cX12_told 307 = .ok (.aload_n 0, 1) := by decide +kernel
theorem dX12_told_308 : decode cX12_told 308 = .ok (.getfield 52, 3) := by decide +kernel
theorem dX12_told_311 : decode cX12_told 311 = .ok (.iload 7, 2) := by decide +kernel
theorem dX12_told_313 : decode cX12_told 313 = .ok (.laload, 1) := by decide +kernel
theorem dX12_told_314 : decode cX12_told 314 = .ok (.lastore, 1) := by decide +kernel
theorem dX12_told_315 : decode cX12_told 315 = .ok (.iinc 7 1, 3) := by decide +kernel
theorem dX12_told_318 : decode cX12_told 318 = .ok (.goto (-30), 3) := by decide +kernel
theorem dX12_told_321 : decode cX12_told 321 = .ok (.aload_n 0, 1) := by decide +kernel
theorem dX12_told_322 : decode cX12_told 322 = .ok (.getfield 17, 3) := by decide +kernel
theorem dX12_told_325 : decode cX12_told 325 = .ok (.bipush 121, 2) := by decide +kernel
theorem dX12_told_327 : decode cX12_told 327 = .ok (.iload 6, 2) := by decide +kernel
theorem dX12_told_329 : decode cX12_told 329 = .ok (.iadd, 1) := by decide +kernel
theorem dX12_told_330 : decode cX12_told 330 = .ok (.iload 5, 2) := by decide +kernel
theorem dX12_told_332 : decode cX12_told 332 = .ok (.iastore, 1) := by decide +kernel
theorem dX12_told_333 : decode cX12_told 333 = .ok (.iload 6, 2) := by decide +kernel
theorem dX12_told_335 : decode cX12_told 335 = .ok (.ireturn, 1) := by decide +kernel
theorem dX12_isEarly_0 : decode cX12_isEarly 0 = .ok (.aload_n 0, 1) := by decide +kernel
theorem dX12_isEarly_1 : decode cX12_isEarly 1 = .ok (.getfield 17, 3) := by decide +kernel
theorem dX12_isEarly_4 : decode cX12_isEarly 4 = .ok (.bipush 81, 2) := by decide +kernel
theorem dX12_isEarly_6 : decode cX12_isEarly 6 = .ok (.iload_n 1, 1) := by decide +kernel
theorem dX12_isEarly_7 : decode cX12_isEarly 7 = .ok (.iadd, 1) := by decide +kernel
theorem dX12_isEarly_8 : decode cX12_isEarly 8 = .ok (.iaload, 1) := by decide +kernel
theorem dX12_isEarly_9 : decode cX12_isEarly 9 = .ok (.aload_n 0, 1) := by decide +kernel
theorem dX12_isEarly_10 : decode cX12_isEarly 10 = .ok (.getfield 17, 3) := by decide +kernel
theorem dX12_isEarly_13 : decode cX12_isEarly 13 = .ok (.sipush 161, 3) := by decide +kernel
theorem dX12_isEarly_16 : decode cX12_isEarly 16 = .ok (.iaload, 1) := by decide +kernel
theorem dX12_isEarly_17 : decode cX12_isEarly 17 = .ok (.if_icmp .gt 7, 3) := by decide +kernel
theorem dX12_isEarly_20 : decode cX12_isEarly 20 = .ok (.iconst 1, 1) := by decide +kernel
theorem dX12_isEarly_21 : decode cX12_isEarly 21 = .ok (.goto 4, 3) := by decide +kernel
theorem dX12_isEarly_24 : decode cX12_isEarly 24 = .ok (.iconst 0, 1) := by decide +kernel
theorem dX12_isEarly_25 : decode cX12_isEarly 25 = .ok (.ireturn, 1) := by decide +kernel
theorem dX12_smooths_0 : decode cX12_smooths 0 = .ok (.iconst 0, 1) := by decide +kernel
theorem dX12_smooths_1 : decode cX12_smooths 1 = .ok (.istore_n 1, 1) := by decide +kernel
theorem dX12_smooths_2 : decode cX12_smooths 2 = .ok (.iload_n 1, 1) := by decide +kernel
theorem dX12_smooths_3 : decode cX12_smooths 3 = .ok (.aload_n 0, 1) := by decide +kernel
theorem dX12_smooths_4 : decode cX12_smooths 4 = .ok (.getfield 17, 3) := by decide +kernel
theorem dX12_smooths_7 : decode cX12_smooths 7 = .ok (.iconst 0, 1) := by decide +kernel
theorem dX12_smooths_8 : decode cX12_smooths 8 = .ok (.iaload, 1) := by decide +kernel
theorem dX12_smooths_9 : decode cX12_smooths 9 = .ok (.if_icmp .ge 72, 3) := by decide +kernel
theorem dX12_smooths_12 : decode cX12_smooths 12 = .ok (.iconst 0, 1) := by decide +kernel
theorem dX12_smooths_13 : decode cX12_smooths 13 = .ok (.istore_n 2, 1) := by decide +kernel
theorem dX12_smooths_14 : decode cX12_smooths 14 = .ok (.iload_n 2, 1) := by decide +kernel
theorem dX12_smooths_15 : decode cX12_smooths 15 = .ok (.aload_n 0, 1) := by decide +kernel
theorem dX12_smooths_16 : decode cX12_smooths 16 = .ok (.getfield 17, 3) := by decide +kernel
theorem dX12_smooths_19 : decode cX12_smooths 19 = .ok (.bipush 121, 2) := by decide +kernel
theorem dX12_smooths_21 : decode cX12_smooths 21 = .ok (.iload_n 1, 1) := by decide +kernel
theorem dX12_smooths_22 : decode cX12_smooths 22 = .ok (.iadd, 1) := by decide +kernel
theorem dX12_smooths_23 : decode cX12_smooths 23 = .ok (.iaload, 1) := by decide +kernel
theorem dX12_smooths_24 : decode cX12_smooths 24 = .ok (.if_icmp .ge 51, 3) := by decide +kernel
theorem dX12_smooths_27 : decode cX12_smooths 27 = .ok (.aload_n 0, 1) := by decide +kernel
theorem dX12_smooths_28 : decode cX12_smooths 28 = .ok (.iload_n 1, 1) := by decide +kernel
theorem dX12_smooths_29 : decode cX12_smooths 29 = .ok (.invokevirtual 250, 3) := by decide +kernel
theorem dX12_smooths_32 : decode cX12_smooths 32 = .ok (.ifCond .eq 43, 3) := by decide +kernel
theorem dX12_smooths_35 : decode cX12_smooths 35 = .ok (.aload_n 0, 1) := by decide +kernel
theorem dX12_smooths_36 : decode cX12_smooths 36 = .ok (.getfield 55, 3) := by decide +kernel
theorem dX12_smooths_39 : decode cX12_smooths 39 = .ok (.bipush 12, 2) := by decide +kernel
theorem dX12_smooths_41 : decode cX12_smooths 41 = .ok (.iload_n 1, 1) := by decide +kernel
theorem dX12_smooths_42 : decode cX12_smooths 42 = .ok (.imul, 1) := by decide +kernel
theorem dX12_smooths_43 : decode cX12_smooths 43 = .ok (.iload_n 2, 1) := by decide +kernel
theorem dX12_smooths_44 : decode cX12_smooths 44 = .ok (.iadd, 1) := by decide +kernel
theorem dX12_smooths_45 : decode cX12_smooths 45 = .ok (.aload_n 0, 1) := by decide +kernel
theorem dX12_smooths_46 : decode cX12_smooths 46 = .ok (.aload_n 0, 1) := by decide +kernel
theorem dX12_smooths_47 : decode cX12_smooths 47 = .ok (.getfield 20, 3) := by decide +kernel
theorem dX12_smooths_50 : decode cX12_smooths 50 = .ok (.bipush 12, 2) := by decide +kernel
theorem dX12_smooths_52 : decode cX12_smooths 52 = .ok (.iload_n 1, 1) := by decide +kernel
theorem dX12_smooths_53 : decode cX12_smooths 53 = .ok (.imul, 1) := by decide +kernel
theorem dX12_smooths_54 : decode cX12_smooths 54 = .ok (.iload_n 2, 1) := by decide +kernel
theorem dX12_smooths_55 : decode cX12_smooths 55 = .ok (.iadd, 1) := by decide +kernel
theorem dX12_smooths_56 : decode cX12_smooths 56 = .ok (.laload, 1) := by decide +kernel
theorem dX12_smooths_57 : decode cX12_smooths 57 = .ok (.aload_n 0, 1) := by decide +kernel
theorem dX12_smooths_58 : decode cX12_smooths 58 = .ok (.getfield 17, 3) := by decide +kernel
theorem dX12_smooths_61 : decode cX12_smooths 61 = .ok (.iconst 1, 1) := by decide +kernel
theorem dX12_smooths_62 : decode cX12_smooths 62 = .ok (.iload_n 1, 1) := by decide +kernel
theorem dX12_smooths_63 : decode cX12_smooths 63 = .ok (.iadd, 1) := by decide +kernel
theorem dX12_smooths_64 : decode cX12_smooths 64 = .ok (.iaload, 1) := by decide +kernel
theorem dX12_smooths_65 : decode cX12_smooths 65 = .ok (.invokevirtual 236, 3) := by decide +kernel
theorem dX12_smooths_68 : decode cX12_smooths 68 = .ok (.lastore, 1) := by decide +kernel
theorem dX12_smooths_69 : decode cX12_smooths 69 = .ok (.iinc 2 1, 3) := by decide +kernel
theorem dX12_smooths_72 : decode cX12_smooths 72 = .ok (.goto (-58), 3) := by decide +kernel
theorem dX12_smooths_75 : decode cX12_smooths 75 = .ok (.iinc 1 1, 3) := by decide +kernel
theorem dX12_smooths_78 : decode cX12_smooths 78 = .ok (.goto (-76), 3) := by decide +kernel
theorem dX12_smooths_81 : decode cX12_smooths 81 = .ok (.return_, 1) := by decide +kernel
theorem dX12_looks_0 : decode cX12_looks 0 = .ok (.aload_n 0, 1) := by decide +kernel
theorem dX12_looks_1 : decode cX12_looks 1 = .ok (.lload_n 1, 1) := by decide +kernel
theorem dX12_looks_2 : decode cX12_looks 2 = .ok (.lload_n 3, 1) := by decide +kernel
theorem dX12_looks_3 : decode cX12_looks 3 = .ok (.invokevirtual 111, 3) := by decide +kernel
theorem dX12_looks_6 : decode cX12_looks 6 = .ok (.istore 6, 2) := by decide +kernel
theorem dX12_looks_8 : decode cX12_looks 8 = .ok (.iload 6, 2) := by decide +kernel
theorem dX12_looks_10 : decode cX12_looks 10 = .ok (.aload_n 0, 1) := by decide +kernel
theorem dX12_looks_11 : decode cX12_looks 11 = .ok (.getfield 253, 3) := by decide +kernel
theorem dX12_looks_14 : decode cX12_looks 14 = .ok (.if_icmp .gt 4, 3) := by decide +kernel
theorem dX12_looks_17 : decode cX12_looks 17 = .ok (.return_, 1) := by decide +kernel
theorem dX12_looks_18 : decode cX12_looks 18 = .ok (.aload_n 0, 1) := by decide +kernel
theorem dX12_looks_19 : decode cX12_looks 19 = .ok (.iload 6, 2) := by decide +kernel
theorem dX12_looks_21 : decode cX12_looks 21 = .ok (.putfield 253, 3) := by decide +kernel
theorem dX12_looks_24 : decode cX12_looks 24 = .ok (.aload_n 0, 1) := by decide +kernel
theorem dX12_looks_25 : decode cX12_looks 25 = .ok (.iload 5, 2) := by decide +kernel
theorem dX12_looks_27 : decode cX12_looks 27 = .ok (.putfield 256, 3) := by decide +kernel
theorem dX12_looks_30 : decode cX12_looks 30 = .ok (.return_, 1) := by decide +kernel
theorem dX12_best_0 : decode cX12_best 0 = .ok (.aload_n 0, 1) := by decide +kernel
theorem dX12_best_1 : decode cX12_best 1 = .ok (.iconst (-1), 1) := by decide +kernel
theorem dX12_best_2 : decode cX12_best 2 = .ok (.putfield 253, 3) := by decide +kernel
theorem dX12_best_5 : decode cX12_best 5 = .ok (.aload_n 0, 1) := by decide +kernel
theorem dX12_best_6 : decode cX12_best 6 = .ok (.iconst (-1), 1) := by decide +kernel
theorem dX12_best_7 : decode cX12_best 7 = .ok (.putfield 256, 3) := by decide +kernel
theorem dX12_best_10 : decode cX12_best 10 = .ok (.aload_n 0, 1) := by decide +kernel
theorem dX12_best_11 : decode cX12_best 11 = .ok (.getfield 20, 3) := by decide +kernel
theorem dX12_best_14 : decode cX12_best 14 = .ok (.sipush 480, 3) := by decide +kernel
theorem dX12_best_17 : decode cX12_best 17 = .ok (.iload_n 1, 1) := by decide +kernel
theorem dX12_best_18 : decode cX12_best 18 = .ok (.iadd, 1) := by decide +kernel
theorem dX12_best_19 : decode cX12_best 19 = .ok (.laload, 1) := by decide +kernel
theorem dX12_best_20 : decode cX12_best 20 = .ok (.lstore_n 3, 1) := by decide +kernel
theorem dX12_best_21 : decode cX12_best 21 = .ok (.iload_n 2, 1) := by decide +kernel
theorem dX12_best_22 : decode cX12_best 22 = .ok (.iconst 3, 1) := by decide +kernel
theorem dX12_best_23 : decode cX12_best 23 = .ok (.if_icmp .ne 81, 3) := by decide +kernel
theorem dX12_best_26 : decode cX12_best 26 = .ok (.iconst 0, 1) := by decide +kernel
theorem dX12_best_27 : decode cX12_best 27 = .ok (.istore 5, 2) := by decide +kernel
theorem dX12_best_29 : decode cX12_best 29 = .ok (.iload 5, 2) := by decide +kernel
theorem dX12_best_31 : decode cX12_best 31 = .ok (.aload_n 0, 1) := by decide +kernel
theorem dX12_best_32 : decode cX12_best 32 = .ok (.getfield 17, 3) := by decide +kernel
theorem dX12_best_35 : decode cX12_best 35 = .ok (.sipush 223, 3) := by decide +kernel
theorem dX12_best_38 : decode cX12_best 38 = .ok (.iaload, 1) := by decide +kernel
theorem dX12_best_39 : decode cX12_best 39 = .ok (.if_icmp .ge 64, 3) := by decide +kernel
theorem dX12_best_42 : decode cX12_best 42 = .ok (.iconst 0, 1) := by decide +kernel
theorem dX12_best_43 : decode cX12_best 43 = .ok (.istore 6, 2) := by decide +kernel
theorem dX12_best_45 : decode cX12_best 45 = .ok (.iload 6, 2) := by decide +kernel
theorem dX12_best_47 : decode cX12_best 47 = .ok (.aload_n 0, 1) := by decide +kernel
theorem dX12_best_48 : decode cX12_best 48 = .ok (.getfield 17, 3) := by decide +kernel
theorem dX12_best_51 : decode cX12_best 51 = .ok (.sipush 236, 3) := by decide +kernel
theorem dX12_best_54 : decode cX12_best 54 = .ok (.iload 5, 2) := by decide +kernel
theorem dX12_best_56 : decode cX12_best 56 = .ok (.iadd, 1) := by decide +kernel
theorem dX12_best_57 : decode cX12_best 57 = .ok (.iaload, 1) := by decide +kernel
theorem dX12_best_58 : decode cX12_best 58 = .ok (.if_icmp .ge 39, 3) := by decide +kernel
theorem dX12_best_61 : decode cX12_best 61 = .ok (.aload_n 0, 1) := by decide +kernel
theorem dX12_best_62 : decode cX12_best 62 = .ok (.lload_n 3, 1) := by decide +kernel
theorem dX12_best_63 : decode cX12_best 63 = .ok (.aload_n 0, 1) := by decide +kernel
theorem dX12_best_64 : decode cX12_best 64 = .ok (.getfield 20, 3) := by decide +kernel
theorem dX12_best_67 : decode cX12_best 67 = .ok (.sipush 540, 3) := by decide +kernel
theorem dX12_best_70 : decode cX12_best 70 = .ok (.bipush 12, 2) := by decide +kernel
theorem dX12_best_72 : decode cX12_best 72 = .ok (.iload 5, 2) := by decide +kernel
theorem dX12_best_74 : decode cX12_best 74 = .ok (.imul, 1) := by decide +kernel
theorem dX12_best_75 : decode cX12_best 75 = .ok (.iadd, 1) := by decide +kernel
theorem dX12_best_76 : decode cX12_best 76 = .ok (.iload 6, 2) := by decide +kernel
theorem dX12_best_78 : decode cX12_best 78 = .ok (.iadd, 1) := by decide +kernel
theorem dX12_best_79 : decode cX12_best 79 = .ok (.laload, 1) := by decide +kernel
theorem dX12_best_80 : decode cX12_best 80 = .ok (.bipush 100, 2) := by decide +kernel
theorem dX12_best_82 : decode cX12_best 82 = .ok (.iload 5, 2) := by decide +kernel
theorem dX12_best_84 : decode cX12_best 84 = .ok (.imul, 1) := by decide +kernel
theorem dX12_best_85 : decode cX12_best 85 = .ok (.iload 6, 2) := by decide +kernel
theorem dX12_best_87 : decode cX12_best 87 = .ok (.iadd, 1) := by decide +kernel
theorem dX12_best_88 : decode cX12_best 88 = .ok (.invokevirtual 259, 3) := by decide +kernel
theorem dX12_best_91 : decode cX12_best 91 = .ok (.iinc 6 1, 3) := by decide +kernel
theorem dX12_best_94 : decode cX12_best 94 = .ok (.goto (-49), 3) := by decide +kernel
theorem dX12_best_97 : decode cX12_best 97 = .ok (.iinc 5 1, 3) := by decide +kernel
theorem dX12_best_100 : decode cX12_best 100 = .ok (.goto (-71), 3) := by decide +kernel
theorem dX12_best_103 : decode cX12_best 103 = .ok (.return_, 1) := by decide +kernel
theorem dX12_best_104 : decode cX12_best 104 = .ok (.iconst 0, 1) := by decide +kernel
theorem dX12_best_105 : decode cX12_best 105 = .ok (.istore 5, 2) := by decide +kernel
theorem dX12_best_107 : decode cX12_best 107 = .ok (.iload 5, 2) := by decide +kernel
theorem dX12_best_109 : decode cX12_best 109 = .ok (.aload_n 0, 1) := by decide +kernel
theorem dX12_best_110 : decode cX12_best 110 = .ok (.getfield 17, 3) := by decide +kernel
theorem dX12_best_113 : decode cX12_best 113 = .ok (.iconst 0, 1) := by decide +kernel
theorem dX12_best_114 : decode cX12_best 114 = .ok (.iaload, 1) := by decide +kernel
theorem dX12_best_115 : decode cX12_best 115 = .ok (.if_icmp .ge 140, 3) := by decide +kernel
theorem dX12_best_118 : decode cX12_best 118 = .ok (.aload_n 0, 1) := by decide +kernel
theorem dX12_best_119 : decode cX12_best 119 = .ok (.getfield 17, 3) := by decide +kernel
theorem dX12_best_122 : decode cX12_best 122 = .ok (.iconst 1, 1) := by decide +kernel
theorem dX12_best_123 : decode cX12_best 123 = .ok (.iload 5, 2) := by decide +kernel
theorem dX12_best_125 : decode cX12_best 125 = .ok (.iadd, 1) := by decide +kernel
theorem dX12_best_126 : decode cX12_best 126 = .ok (.iaload, 1) := by decide +kernel
theorem dX12_best_127 : decode cX12_best 127 = .ok (.aload_n 0, 1) := by decide +kernel
theorem dX12_best_128 : decode cX12_best 128 = .ok (.getfield 17, 3) := by decide +kernel
theorem dX12_best_131 : decode cX12_best 131 = .ok (.sipush 163, 3) := by decide +kernel
theorem dX12_best_134 : decode cX12_best 134 = .ok (.iload_n 1, 1) := by decide +kernel
theorem dX12_best_135 : decode cX12_best 135 = .ok (.iadd, 1) := by decide +kernel
theorem dX12_best_136 : decode cX12_best 136 = .ok (.iaload, 1) := by decide +kernel
theorem dX12_best_137 : decode cX12_best 137 = .ok (.if_icmp .ne 7, 3) := by decide +kernel
theorem dX12_best_140 : decode cX12_best 140 = .ok (.iconst 1, 1) := by decide +kernel
theorem dX12_best_141 : decode cX12_best 141 = .ok (.goto 4, 3) := by decide +kernel
theorem dX12_best_144 : decode cX12_best 144 = .ok (.iconst 0, 1) := by decide +kernel
theorem dX12_best_145 : decode cX12_best 145 = .ok (.istore 6, 2) := by decide +kernel
theorem dX12_best_147 : decode cX12_best 147 = .ok (.aload_n 0, 1) := by decide +kernel
theorem dX12_best_148 : decode cX12_best 148 = .ok (.iload 5, 2) := by decide +kernel
theorem dX12_best_150 : decode cX12_best 150 = .ok (.invokevirtual 250, 3) := by decide +kernel
theorem dX12_best_153 : decode cX12_best 153 = .ok (.ifCond .eq 96, 3) := by decide +kernel
theorem dX12_best_156 : decode cX12_best 156 = .ok (.iload_n 2, 1) := by decide +kernel
theorem dX12_best_157 : decode cX12_best 157 = .ok (.ifCond .ne 8, 3) := by decide +kernel
theorem dX12_best_160 : decode cX12_best 160 = .ok (.iload 6, 2) := by decide +kernel
theorem dX12_best_162 : decode cX12_best 162 = .ok (.ifCond .eq 87, 3) := by decide +kernel
theorem dX12_best_165 : decode cX12_best 165 = .ok (.iload_n 2, 1) := by decide +kernel
theorem dX12_best_166 : decode cX12_best 166 = .ok (.iconst 1, 1) := by decide +kernel
theorem dX12_best_167 : decode cX12_best 167 = .ok (.if_icmp .ne 11, 3) := by decide +kernel
theorem dX12_best_170 : decode cX12_best 170 = .ok (.iload 6, 2) := by decide +kernel
theorem dX12_best_172 : decode cX12_best 172 = .ok (.ifCond .eq 6, 3) := by decide +kernel
theorem dX12_best_175 : decode cX12_best 175 = .ok (.goto 74, 3) := by decide +kernel
theorem dX12_best_178 : decode cX12_best 178 = .ok (.iconst 0, 1) := by decide +kernel
theorem dX12_best_179 : decode cX12_best 179 = .ok (.istore 7, 2) := by decide +kernel
theorem dX12_best_181 : decode cX12_best 181 = .ok (.iload 7, 2) := by decide +kernel
theorem dX12_best_183 : decode cX12_best 183 = .ok (.aload_n 0, 1) := by decide +kernel
theorem dX12_best_184 : decode cX12_best 184 = .ok (.getfield 17, 3) := by decide +kernel
theorem dX12_best_187 : decode cX12_best 187 = .ok (.bipush 121, 2) := by decide +kernel
theorem dX12_best_189 : decode cX12_best 189 = .ok (.iload 5, 2) := by decide +kernel
theorem dX12_best_191 : decode cX12_best 191 = .ok (.iadd, 1) := by decide +kernel
theorem dX12_best_192 : decode cX12_best 192 = .ok (.iaload, 1) := by decide +kernel
theorem dX12_best_193 : decode cX12_best 193 = .ok (.if_icmp .ge 56, 3) := by decide +kernel
theorem dX12_best_196 : decode cX12_best 196 = .ok (.aload_n 0, 1) := by decide +kernel
theorem dX12_best_197 : decode cX12_best 197 = .ok (.lload_n 3, 1) := by decide +kernel
theorem dX12_best_198 : decode cX12_best 198 = .ok (.iload_n 2, 1) := by decide +kernel
theorem dX12_best_199 : decode cX12_best 199 = .ok (.iconst 2, 1) := by decide +kernel
theorem dX12_best_200 : decode cX12_best 200 = .ok (.if_icmp .ne 19, 3) := by decide +kernel
theorem dX12_best_203 : decode cX12_best 203 = .ok (.aload_n 0, 1) := by decide +kernel
theorem dX12_best_204 : decode cX12_best 204 = .ok (.getfield 55, 3) := by decide +kernel
theorem dX12_best_207 : decode cX12_best 207 = .ok (.bipush 12, 2) := by decide +kernel
theorem dX12_best_209 : decode cX12_best 209 = .ok (.iload 5, 2) := by decide +kernel
theorem dX12_best_211 : decode cX12_best 211 = .ok (.imul, 1) := by decide +kernel
theorem dX12_best_212 : decode cX12_best 212 = .ok (.iload 7, 2) := by decide +kernel
theorem dX12_best_214 : decode cX12_best 214 = .ok (.iadd, 1) := by decide +kernel
theorem dX12_best_215 : decode cX12_best 215 = .ok (.laload, 1) := by decide +kernel
theorem dX12_best_216 : decode cX12_best 216 = .ok (.goto 16, 3) := by decide +kernel
theorem dX12_best_219 : decode cX12_best 219 = .ok (.aload_n 0, 1) := by decide +kernel
theorem dX12_best_220 : decode cX12_best 220 = .ok (.getfield 20, 3) := by decide +kernel
theorem dX12_best_223 : decode cX12_best 223 = .ok (.bipush 12, 2) := by decide +kernel
theorem dX12_best_225 : decode cX12_best 225 = .ok (.iload 5, 2) := by decide +kernel
theorem dX12_best_227 : decode cX12_best 227 = .ok (.imul, 1) := by decide +kernel
theorem dX12_best_228 : decode cX12_best 228 = .ok (.iload 7, 2) := by decide +kernel
theorem dX12_best_230 : decode cX12_best 230 = .ok (.iadd, 1) := by decide +kernel
theorem dX12_best_231 : decode cX12_best 231 = .ok (.laload, 1) := by decide +kernel
theorem dX12_best_232 : decode cX12_best 232 = .ok (.bipush 100, 2) := by decide +kernel
theorem dX12_best_234 : decode cX12_best 234 = .ok (.iload 5, 2) := by decide +kernel
theorem dX12_best_236 : decode cX12_best 236 = .ok (.imul, 1) := by decide +kernel
theorem dX12_best_237 : decode cX12_best 237 = .ok (.iload 7, 2) := by decide +kernel
theorem dX12_best_239 : decode cX12_best 239 = .ok (.iadd, 1) := by decide +kernel
theorem dX12_best_240 : decode cX12_best 240 = .ok (.invokevirtual 259, 3) := by decide +kernel
theorem dX12_best_243 : decode cX12_best 243 = .ok (.iinc 7 1, 3) := by decide +kernel
theorem dX12_best_246 : decode cX12_best 246 = .ok (.goto (-65), 3) := by decide +kernel
theorem dX12_best_249 : decode cX12_best 249 = .ok (.iinc 5 1, 3) := by decide +kernel
theorem dX12_best_252 : decode cX12_best 252 = .ok (.goto (-145), 3) := by decide +kernel
theorem dX12_best_255 : decode cX12_best 255 = .ok (.return_, 1) := by decide +kernel
theorem dX12_whoseIs_0 : decode cX12_whoseIs 0 = .ok (.iconst 0, 1) := by decide +kernel
theorem dX12_whoseIs_1 : decode cX12_whoseIs 1 = .ok (.istore_n 2, 1) := by decide +kernel
theorem dX12_whoseIs_2 : decode cX12_whoseIs 2 = .ok (.iconst 0, 1) := by decide +kernel
theorem dX12_whoseIs_3 : decode cX12_whoseIs 3 = .ok (.istore_n 3, 1) := by decide +kernel
theorem dX12_whoseIs_4 : decode cX12_whoseIs 4 = .ok (.iload_n 3, 1) := by decide +kernel
theorem dX12_whoseIs_5 : decode cX12_whoseIs 5 = .ok (.iconst 4, 1) := by decide +kernel
theorem dX12_whoseIs_6 : decode cX12_whoseIs 6 = .ok (.if_icmp .ge 65, 3) := by decide +kernel
theorem dX12_whoseIs_9 : decode cX12_whoseIs 9 = .ok (.aload_n 0, 1) := by decide +kernel
theorem dX12_whoseIs_10 : decode cX12_whoseIs 10 = .ok (.iload_n 1, 1) := by decide +kernel
theorem dX12_whoseIs_11 : decode cX12_whoseIs 11 = .ok (.iload_n 3, 1) := by decide +kernel
theorem dX12_whoseIs_12 : decode cX12_whoseIs 12 = .ok (.invokevirtual 263, 3) := by decide +kernel
theorem dX12_whoseIs_15 : decode cX12_whoseIs 15 = .ok (.aload_n 0, 1) := by decide +kernel
theorem dX12_whoseIs_16 : decode cX12_whoseIs 16 = .ok (.aload_n 0, 1) := by decide +kernel
theorem dX12_whoseIs_17 : decode cX12_whoseIs 17 = .ok (.getfield 256, 3) := by decide +kernel
theorem dX12_whoseIs_20 : decode cX12_whoseIs 20 = .ok (.putfield 266, 3) := by decide +kernel
theorem dX12_whoseIs_23 : decode cX12_whoseIs 23 = .ok (.aload_n 0, 1) := by decide +kernel
theorem dX12_whoseIs_24 : decode cX12_whoseIs 24 = .ok (.getfield 253, 3) := by decide +kernel
theorem dX12_whoseIs_27 : decode cX12_whoseIs 27 = .ok (.aload_n 0, 1) := by decide +kernel
theorem dX12_whoseIs_28 : decode cX12_whoseIs 28 = .ok (.getfield 17, 3) := by decide +kernel
theorem dX12_whoseIs_31 : decode cX12_whoseIs 31 = .ok (.sipush 248, 3) := by decide +kernel
theorem dX12_whoseIs_34 : decode cX12_whoseIs 34 = .ok (.iaload, 1) := by decide +kernel
theorem dX12_whoseIs_35 : decode cX12_whoseIs 35 = .ok (.if_icmp .lt 5, 3) := by decide +kernel
theorem dX12_whoseIs_38 : decode cX12_whoseIs 38 = .ok (.iload_n 3, 1) := by decide +kernel
theorem dX12_whoseIs_39 : decode cX12_whoseIs 39 = .ok (.ireturn, 1) := by decide +kernel
theorem dX12_whoseIs_40 : decode cX12_whoseIs 40 = .ok (.iload_n 2, 1) := by decide +kernel
theorem dX12_whoseIs_41 : decode cX12_whoseIs 41 = .ok (.ifCond .ne 18, 3) := by decide +kernel
theorem dX12_whoseIs_44 : decode cX12_whoseIs 44 = .ok (.aload_n 0, 1) := by decide +kernel
theorem dX12_whoseIs_45 : decode cX12_whoseIs 45 = .ok (.getfield 253, 3) := by decide +kernel
theorem dX12_whoseIs_48 : decode cX12_whoseIs 48 = .ok (.aload_n 0, 1) := by decide +kernel
theorem dX12_whoseIs_49 : decode cX12_whoseIs 49 = .ok (.getfield 17, 3) := by decide +kernel
theorem dX12_whoseIs_52 : decode cX12_whoseIs 52 = .ok (.sipush 249, 3) := by decide +kernel
theorem dX12_whoseIs_55 : decode cX12_whoseIs 55 = .ok (.iaload, 1) := by decide +kernel
theorem dX12_whoseIs_56 : decode cX12_whoseIs 56 = .ok (.if_icmp .lt 7, 3) := by decide +kernel
theorem dX12_whoseIs_59 : decode cX12_whoseIs 59 = .ok (.iconst 1, 1) := by decide +kernel
theorem dX12_whoseIs_60 : decode cX12_whoseIs 60 = .ok (.goto 4, 3) := by decide +kernel
theorem dX12_whoseIs_63 : decode cX12_whoseIs 63 = .ok (.iconst 0, 1) := by decide +kernel
theorem dX12_whoseIs_64 : decode cX12_whoseIs 64 = .ok (.istore_n 2, 1) := by decide +kernel
theorem dX12_whoseIs_65 : decode cX12_whoseIs 65 = .ok (.iinc 3 1, 3) := by decide +kernel
theorem dX12_whoseIs_68 : decode cX12_whoseIs 68 = .ok (.goto (-64), 3) := by decide +kernel
theorem dX12_whoseIs_71 : decode cX12_whoseIs 71 = .ok (.aload_n 0, 1) := by decide +kernel
theorem dX12_whoseIs_72 : decode cX12_whoseIs 72 = .ok (.iconst (-1), 1) := by decide +kernel
theorem dX12_whoseIs_73 : decode cX12_whoseIs 73 = .ok (.putfield 266, 3) := by decide +kernel
theorem dX12_whoseIs_76 : decode cX12_whoseIs 76 = .ok (.iload_n 2, 1) := by decide +kernel
theorem dX12_whoseIs_77 : decode cX12_whoseIs 77 = .ok (.ifCond .eq 7, 3) := by decide +kernel
theorem dX12_whoseIs_80 : decode cX12_whoseIs 80 = .ok (.iconst 4, 1) := by decide +kernel
theorem dX12_whoseIs_81 : decode cX12_whoseIs 81 = .ok (.goto 4, 3) := by decide +kernel
theorem dX12_whoseIs_84 : decode cX12_whoseIs 84 = .ok (.iconst 5, 1) := by decide +kernel
theorem dX12_whoseIs_85 : decode cX12_whoseIs 85 = .ok (.ireturn, 1) := by decide +kernel
theorem dX12_whose_0 : decode cX12_whose 0 = .ok (.aload_n 0, 1) := by decide +kernel
theorem dX12_whose_1 : decode cX12_whose 1 = .ok (.iconst 0, 1) := by decide +kernel
theorem dX12_whose_2 : decode cX12_whose 2 = .ok (.putfield 1, 3) := by decide +kernel
theorem dX12_whose_5 : decode cX12_whose 5 = .ok (.iload_n 1, 1) := by decide +kernel
theorem dX12_whose_6 : decode cX12_whose 6 = .ok (.i2l, 1) := by decide +kernel
theorem dX12_whose_7 : decode cX12_whose 7 = .ok (.lconst 0, 1) := by decide +kernel
theorem dX12_whose_8 : decode cX12_whose 8 = .ok (.aload_n 0, 1) := by decide +kernel
theorem dX12_whose_9 : decode cX12_whose 9 = .ok (.getfield 17, 3) := by decide +kernel
theorem dX12_whose_12 : decode cX12_whose 12 = .ok (.sipush 162, 3) := by decide +kernel
theorem dX12_whose_15 : decode cX12_whose 15 = .ok (.iaload, 1) := by decide +kernel
theorem dX12_whose_16 : decode cX12_whose 16 = .ok (.iconst 1, 1) := by decide +kernel
theorem dX12_whose_17 : decode cX12_whose 17 = .ok (.isub, 1) := by decide +kernel
theorem dX12_whose_18 : decode cX12_whose 18 = .ok (.i2l, 1) := by decide +kernel
theorem dX12_whose_19 : decode cX12_whose 19 = .ok (.invokestatic 81, 3) := by decide +kernel
theorem dX12_whose_22 : decode cX12_whose 22 = .ok (.ifCond .eq 13, 3) := by decide +kernel
theorem dX12_whose_25 : decode cX12_whose 25 = .ok (.iload_n 2, 1) := by decide +kernel
theorem dX12_whose_26 : decode cX12_whose 26 = .ok (.i2l, 1) := by decide +kernel
theorem dX12_whose_27 : decode cX12_whose 27 = .ok (.lconst 0, 1) := by decide +kernel
theorem dX12_whose_28 : decode cX12_whose 28 = .ok (.lconst 1, 1) := by decide +kernel
theorem dX12_whose_29 : decode cX12_whose 29 = .ok (.invokestatic 81, 3) := by decide +kernel
theorem dX12_whose_32 : decode cX12_whose 32 = .ok (.ifCond .ne 10, 3) := by decide +kernel
theorem dX12_whose_35 : decode cX12_whose 35 = .ok (.aload_n 0, 1) := by decide +kernel
theorem dX12_whose_36 : decode cX12_whose 36 = .ok (.bipush (-2), 2) := by decide +kernel
theorem dX12_whose_38 : decode cX12_whose 38 = .ok (.invokevirtual 85, 3) := by decide +kernel
theorem dX12_whose_41 : decode cX12_whose 41 = .ok (.ireturn, 1) := by decide +kernel
theorem dX12_whose_42 : decode cX12_whose 42 = .ok (.aload_n 0, 1) := by decide +kernel
theorem dX12_whose_43 : decode cX12_whose 43 = .ok (.invokevirtual 269, 3) := by decide +kernel
theorem dX12_whose_46 : decode cX12_whose 46 = .ok (.aload_n 0, 1) := by decide +kernel
theorem dX12_whose_47 : decode cX12_whose 47 = .ok (.iload_n 1, 1) := by decide +kernel
theorem dX12_whose_48 : decode cX12_whose 48 = .ok (.invokevirtual 272, 3) := by decide +kernel
theorem dX12_whose_51 : decode cX12_whose 51 = .ok (.istore_n 3, 1) := by decide +kernel
theorem dX12_whose_52 : decode cX12_whose 52 = .ok (.iload_n 2, 1) := by decide +kernel
theorem dX12_whose_53 : decode cX12_whose 53 = .ok (.ifCond .ne 7, 3) := by decide +kernel
theorem dX12_whose_56 : decode cX12_whose 56 = .ok (.iload_n 3, 1) := by decide +kernel
theorem dX12_whose_57 : decode cX12_whose 57 = .ok (.goto 7, 3) := by decide +kernel
theorem dX12_whose_60 : decode cX12_whose 60 = .ok (.aload_n 0, 1) := by decide +kernel
theorem dX12_whose_61 : decode cX12_whose 61 = .ok (.getfield 266, 3) := by decide +kernel
theorem dX12_whose_64 : decode cX12_whose 64 = .ok (.ireturn, 1) := by decide +kernel
theorem dX12_mostOfSongs_0 : decode cX12_mostOfSongs 0 = .ok (.iconst (-1), 1) := by decide +kernel
theorem dX12_mostOfSongs_1 : decode cX12_mostOfSongs 1 = .ok (.istore 4, 2) := by decide +kernel
theorem dX12_mostOfSongs_3 : decode cX12_mostOfSongs 3 = .ok (.iconst 0, 1) := by decide +kernel
theorem dX12_mostOfSongs_4 : decode cX12_mostOfSongs 4 = .ok (.istore 5, 2) := by decide +kernel
theorem dX12_mostOfSongs_6 : decode cX12_mostOfSongs 6 = .ok (.iload 5, 2) := by decide +kernel
theorem dX12_mostOfSongs_8 : decode cX12_mostOfSongs 8 = .ok (.aload_n 0, 1) := by decide +kernel
theorem dX12_mostOfSongs_9 : decode cX12_mostOfSongs 9 = .ok (.getfield 17, 3) := by decide +kernel
theorem dX12_mostOfSongs_12 : decode cX12_mostOfSongs 12 = .ok (.iconst 0, 1) := by decide +kernel
theorem dX12_mostOfSongs_13 : decode cX12_mostOfSongs 13 = .ok (.iaload, 1) := by decide +kernel
theorem dX12_mostOfSongs_14 : decode cX12_mostOfSongs 14 = .ok (.if_icmp .ge 79, 3) := by decide +kernel
theorem dX12_mostOfSongs_17 : decode cX12_mostOfSongs 17 = .ok (.iconst 0, 1) := by decide +kernel
theorem dX12_mostOfSongs_18 : decode cX12_mostOfSongs 18 = .ok (.istore 6, 2) := by decide +kernel
theorem dX12_mostOfSongs_20 : decode cX12_mostOfSongs 20 = .ok (.iload 6, 2) := by decide +kernel
theorem dX12_mostOfSongs_22 : decode cX12_mostOfSongs 22 = .ok (.aload_n 0, 1) := by decide +kernel
theorem dX12_mostOfSongs_23 : decode cX12_mostOfSongs 23 = .ok (.getfield 17, 3) := by decide +kernel
theorem dX12_mostOfSongs_26 : decode cX12_mostOfSongs 26 = .ok (.bipush 121, 2) := by decide +kernel
theorem dX12_mostOfSongs_28 : decode cX12_mostOfSongs 28 = .ok (.iload 5, 2) := by decide +kernel
theorem dX12_mostOfSongs_30 : decode cX12_mostOfSongs 30 = .ok (.iadd, 1) := by decide +kernel
theorem dX12_mostOfSongs_31 : decode cX12_mostOfSongs 31 = .ok (.iaload, 1) := by decide +kernel
theorem dX12_mostOfSongs_32 : decode cX12_mostOfSongs 32 = .ok (.if_icmp .ge 55, 3) := by decide +kernel
theorem dX12_mostOfSongs_35 : decode cX12_mostOfSongs 35 = .ok (.aload_n 0, 1) := by decide +kernel
theorem dX12_mostOfSongs_36 : decode cX12_mostOfSongs 36 = .ok (.iload 5, 2) := by decide +kernel
theorem dX12_mostOfSongs_38 : decode cX12_mostOfSongs 38 = .ok (.invokevirtual 250, 3) := by decide +kernel
theorem dX12_mostOfSongs_41 : decode cX12_mostOfSongs 41 = .ok (.iload_n 3, 1) := by decide +kernel
theorem dX12_mostOfSongs_42 : decode cX12_mostOfSongs 42 = .ok (.if_icmp .ne 45, 3) := by decide +kernel
theorem dX12_mostOfSongs_45 : decode cX12_mostOfSongs 45 = .ok (.aload_n 0, 1) := by decide +kernel
theorem dX12_mostOfSongs_46 : decode cX12_mostOfSongs 46 = .ok (.lload_n 1, 1) := by decide +kernel
theorem dX12_mostOfSongs_47 : decode cX12_mostOfSongs 47 = .ok (.aload_n 0, 1) := by decide +kernel
theorem dX12_mostOfSongs_48 : decode cX12_mostOfSongs 48 = .ok (.getfield 20, 3) := by decide +kernel
theorem dX12_mostOfSongs_51 : decode cX12_mostOfSongs 51 = .ok (.bipush 12, 2) := by decide +kernel
theorem dX12_mostOfSongs_53 : decode cX12_mostOfSongs 53 = .ok (.iload 5, 2) := by decide +kernel
theorem dX12_mostOfSongs_55 : decode cX12_mostOfSongs 55 = .ok (.imul, 1) := by decide +kernel
theorem dX12_mostOfSongs_56 : decode cX12_mostOfSongs 56 = .ok (.iload 6, 2) := by decide +kernel
theorem dX12_mostOfSongs_58 : decode cX12_mostOfSongs 58 = .ok (.iadd, 1) := by decide +kernel
theorem dX12_mostOfSongs_59 : decode cX12_mostOfSongs 59 = .ok (.laload, 1) := by decide +kernel
theorem dX12_mostOfSongs_60 : decode cX12_mostOfSongs 60 = .ok (.invokevirtual 111, 3) := by decide +kernel
theorem dX12_mostOfSongs_63 : decode cX12_mostOfSongs 63 = .ok (.istore 7, 2) := by decide +kernel
theorem dX12_mostOfSongs_65 : decode cX12_mostOfSongs 65 = .ok (.iload 7, 2) := by decide +kernel
theorem dX12_mostOfSongs_67 : decode cX12_mostOfSongs 67 = .ok (.iload 4, 2) := by decide +kernel
theorem dX12_mostOfSongs_69 : decode cX12_mostOfSongs 69 = .ok (.if_icmp .le 8, 3) := by decide +kernel
theorem dX12_mostOfSongs_72 : decode cX12_mostOfSongs 72 = .ok (.iload 7, 2) := by decide +kernel
theorem dX12_mostOfSongs_74 : decode cX12_mostOfSongs 74 = .ok (.goto 5, 3) := by decide +kernel
theorem dX12_mostOfSongs_77 : decode cX12_mostOfSongs 77 = .ok (.iload 4, 2) := by decide +kernel
theorem dX12_mostOfSongs_79 : decode cX12_mostOfSongs 79 = .ok (.istore 4, 2) := by decide +kernel
theorem dX12_mostOfSongs_81 : decode cX12_mostOfSongs 81 = .ok (.iinc 6 1, 3) := by decide +kernel
theorem dX12_mostOfSongs_84 : decode cX12_mostOfSongs 84 = .ok (.goto (-64), 3) := by decide +kernel
theorem dX12_mostOfSongs_87 : decode cX12_mostOfSongs 87 = .ok (.iinc 5 1, 3) := by decide +kernel
theorem dX12_mostOfSongs_90 : decode cX12_mostOfSongs 90 = .ok (.goto (-84), 3) := by decide +kernel
theorem dX12_mostOfSongs_93 : decode cX12_mostOfSongs 93 = .ok (.iload 4, 2) := by decide +kernel
theorem dX12_mostOfSongs_95 : decode cX12_mostOfSongs 95 = .ok (.ireturn, 1) := by decide +kernel
theorem dX12_mostOfPrint_0 : decode cX12_mostOfPrint 0 = .ok (.iconst (-1), 1) := by decide +kernel
theorem dX12_mostOfPrint_1 : decode cX12_mostOfPrint 1 = .ok (.istore_n 3, 1) := by decide +kernel
theorem dX12_mostOfPrint_2 : decode cX12_mostOfPrint 2 = .ok (.iconst 0, 1) := by decide +kernel
theorem dX12_mostOfPrint_3 : decode cX12_mostOfPrint 3 = .ok (.istore 4, 2) := by decide +kernel
theorem dX12_mostOfPrint_5 : decode cX12_mostOfPrint 5 = .ok (.iload 4, 2) := by decide +kernel
theorem dX12_mostOfPrint_7 : decode cX12_mostOfPrint 7 = .ok (.aload_n 0, 1) := by decide +kernel
theorem dX12_mostOfPrint_8 : decode cX12_mostOfPrint 8 = .ok (.getfield 17, 3) := by decide +kernel
theorem dX12_mostOfPrint_11 : decode cX12_mostOfPrint 11 = .ok (.sipush 162, 3) := by decide +kernel
theorem dX12_mostOfPrint_14 : decode cX12_mostOfPrint 14 = .ok (.iaload, 1) := by decide +kernel
theorem dX12_mostOfPrint_15 : decode cX12_mostOfPrint 15 = .ok (.if_icmp .ge 40, 3) := by decide +kernel
theorem dX12_mostOfPrint_18 : decode cX12_mostOfPrint 18 = .ok (.aload_n 0, 1) := by decide +kernel
theorem dX12_mostOfPrint_19 : decode cX12_mostOfPrint 19 = .ok (.lload_n 1, 1) := by decide +kernel
theorem dX12_mostOfPrint_20 : decode cX12_mostOfPrint 20 = .ok (.aload_n 0, 1) := by decide +kernel
theorem dX12_mostOfPrint_21 : decode cX12_mostOfPrint 21 = .ok (.getfield 20, 3) := by decide +kernel
theorem dX12_mostOfPrint_24 : decode cX12_mostOfPrint 24 = .ok (.sipush 480, 3) := by decide +kernel
theorem dX12_mostOfPrint_27 : decode cX12_mostOfPrint 27 = .ok (.iload 4, 2) := by decide +kernel
theorem dX12_mostOfPrint_29 : decode cX12_mostOfPrint 29 = .ok (.iadd, 1) := by decide +kernel
theorem dX12_mostOfPrint_30 : decode cX12_mostOfPrint 30 = .ok (.laload, 1) := by decide +kernel
theorem dX12_mostOfPrint_31 : decode cX12_mostOfPrint 31 = .ok (.invokevirtual 111, 3) := by decide +kernel
theorem dX12_mostOfPrint_34 : decode cX12_mostOfPrint 34 = .ok (.istore 5, 2) := by decide +kernel
theorem dX12_mostOfPrint_36 : decode cX12_mostOfPrint 36 = .ok (.iload 5, 2) := by decide +kernel
theorem dX12_mostOfPrint_38 : decode cX12_mostOfPrint 38 = .ok (.iload_n 3, 1) := by decide +kernel
theorem dX12_mostOfPrint_39 : decode cX12_mostOfPrint 39 = .ok (.if_icmp .le 8, 3) := by decide +kernel
theorem dX12_mostOfPrint_42 : decode cX12_mostOfPrint 42 = .ok (.iload 5, 2) := by decide +kernel
theorem dX12_mostOfPrint_44 : decode cX12_mostOfPrint 44 = .ok (.goto 4, 3) := by decide +kernel
theorem dX12_mostOfPrint_47 : decode cX12_mostOfPrint 47 = .ok (.iload_n 3, 1) := by decide +kernel
theorem dX12_mostOfPrint_48 : decode cX12_mostOfPrint 48 = .ok (.istore_n 3, 1) := by decide +kernel
theorem dX12_mostOfPrint_49 : decode cX12_mostOfPrint 49 = .ok (.iinc 4 1, 3) := by decide +kernel
theorem dX12_mostOfPrint_52 : decode cX12_mostOfPrint 52 = .ok (.goto (-47), 3) := by decide +kernel
theorem dX12_mostOfPrint_55 : decode cX12_mostOfPrint 55 = .ok (.iload_n 3, 1) := by decide +kernel
theorem dX12_mostOfPrint_56 : decode cX12_mostOfPrint 56 = .ok (.ireturn, 1) := by decide +kernel
theorem dX12_late_0 : decode cX12_late 0 = .ok (.aload_n 0, 1) := by decide +kernel
theorem dX12_late_1 : decode cX12_late 1 = .ok (.iconst 0, 1) := by decide +kernel
theorem dX12_late_2 : decode cX12_late 2 = .ok (.putfield 1, 3) := by decide +kernel
theorem dX12_late_5 : decode cX12_late 5 = .ok (.aload_n 0, 1) := by decide +kernel
theorem dX12_late_6 : decode cX12_late 6 = .ok (.iconst 0, 1) := by decide +kernel
theorem dX12_late_7 : decode cX12_late 7 = .ok (.iload_n 1, 1) := by decide +kernel
theorem dX12_late_8 : decode cX12_late 8 = .ok (.iload_n 2, 1) := by decide +kernel
theorem dX12_late_9 : decode cX12_late 9 = .ok (.invokevirtual 107, 3) := by decide +kernel
theorem dX12_late_12 : decode cX12_late 12 = .ok (.ifCond .ne 10, 3) := by decide +kernel
theorem dX12_late_15 : decode cX12_late 15 = .ok (.aload_n 0, 1) := by decide +kernel
theorem dX12_late_16 : decode cX12_late 16 = .ok (.bipush (-2), 2) := by decide +kernel
theorem dX12_late_18 : decode cX12_late 18 = .ok (.invokevirtual 85, 3) := by decide +kernel
theorem dX12_late_21 : decode cX12_late 21 = .ok (.ireturn, 1) := by decide +kernel
theorem dX12_late_22 : decode cX12_late 22 = .ok (.aload_n 0, 1) := by decide +kernel
theorem dX12_late_23 : decode cX12_late 23 = .ok (.iload_n 1, 1) := by decide +kernel
theorem dX12_late_24 : decode cX12_late 24 = .ok (.invokevirtual 250, 3) := by decide +kernel
theorem dX12_late_27 : decode cX12_late 27 = .ok (.ifCond .eq 10, 3) := by decide +kernel
theorem dX12_late_30 : decode cX12_late 30 = .ok (.aload_n 0, 1) := by decide +kernel
theorem dX12_late_31 : decode cX12_late 31 = .ok (.bipush (-5), 2) := by decide +kernel
theorem dX12_late_33 : decode cX12_late 33 = .ok (.invokevirtual 85, 3) := by decide +kernel
theorem dX12_late_36 : decode cX12_late 36 = .ok (.ireturn, 1) := by decide +kernel
theorem dX12_late_37 : decode cX12_late 37 = .ok (.aload_n 0, 1) := by decide +kernel
theorem dX12_late_38 : decode cX12_late 38 = .ok (.getfield 20, 3) := by decide +kernel
theorem dX12_late_41 : decode cX12_late 41 = .ok (.bipush 12, 2) := by decide +kernel
theorem dX12_late_43 : decode cX12_late 43 = .ok (.iload_n 1, 1) := by decide +kernel
theorem dX12_late_44 : decode cX12_late 44 = .ok (.imul, 1) := by decide +kernel
theorem dX12_late_45 : decode cX12_late 45 = .ok (.iload_n 2, 1) := by decide +kernel
theorem dX12_late_46 : decode cX12_late 46 = .ok (.iadd, 1) := by decide +kernel
theorem dX12_late_47 : decode cX12_late 47 = .ok (.laload, 1) := by decide +kernel
theorem dX12_late_48 : decode cX12_late 48 = .ok (.lstore_n 3, 1) := by decide +kernel
theorem dX12_late_49 : decode cX12_late 49 = .ok (.aload_n 0, 1) := by decide +kernel
theorem dX12_late_50 : decode cX12_late 50 = .ok (.lload_n 3, 1) := by decide +kernel
theorem dX12_late_51 : decode cX12_late 51 = .ok (.iconst 1, 1) := by decide +kernel
theorem dX12_late_52 : decode cX12_late 52 = .ok (.invokevirtual 275, 3) := by decide +kernel
theorem dX12_late_55 : decode cX12_late 55 = .ok (.aload_n 0, 1) := by decide +kernel
theorem dX12_late_56 : decode cX12_late 56 = .ok (.getfield 17, 3) := by decide +kernel
theorem dX12_late_59 : decode cX12_late 59 = .ok (.sipush 248, 3) := by decide +kernel
theorem dX12_late_62 : decode cX12_late 62 = .ok (.iaload, 1) := by decide +kernel
theorem dX12_late_63 : decode cX12_late 63 = .ok (.if_icmp .lt 7, 3) := by decide +kernel
theorem dX12_late_66 : decode cX12_late 66 = .ok (.iconst 1, 1) := by decide +kernel
theorem dX12_late_67 : decode cX12_late 67 = .ok (.goto 24, 3) := by decide +kernel
theorem dX12_late_70 : decode cX12_late 70 = .ok (.aload_n 0, 1) := by decide +kernel
theorem dX12_late_71 : decode cX12_late 71 = .ok (.lload_n 3, 1) := by decide +kernel
theorem dX12_late_72 : decode cX12_late 72 = .ok (.invokevirtual 279, 3) := by decide +kernel
theorem dX12_late_75 : decode cX12_late 75 = .ok (.aload_n 0, 1) := by decide +kernel
theorem dX12_late_76 : decode cX12_late 76 = .ok (.getfield 17, 3) := by decide +kernel
theorem dX12_late_79 : decode cX12_late 79 = .ok (.sipush 248, 3) := by decide +kernel
theorem dX12_late_82 : decode cX12_late 82 = .ok (.iaload, 1) := by decide +kernel
theorem dX12_late_83 : decode cX12_late 83 = .ok (.if_icmp .lt 7, 3) := by decide +kernel
theorem dX12_late_86 : decode cX12_late 86 = .ok (.iconst 2, 1) := by decide +kernel
theorem dX12_late_87 : decode cX12_late 87 = .ok (.goto 4, 3) := by decide +kernel
theorem dX12_late_90 : decode cX12_late 90 = .ok (.iconst 0, 1) := by decide +kernel
theorem dX12_late_91 : decode cX12_late 91 = .ok (.ireturn, 1) := by decide +kernel
theorem dX12_counts_0 : decode cX12_counts 0 = .ok (.aload_n 0, 1) := by decide +kernel
theorem dX12_counts_1 : decode cX12_counts 1 = .ok (.invokevirtual 269, 3) := by decide +kernel
theorem dX12_counts_4 : decode cX12_counts 4 = .ok (.iconst 0, 1) := by decide +kernel
theorem dX12_counts_5 : decode cX12_counts 5 = .ok (.istore_n 1, 1) := by decide +kernel
theorem dX12_counts_6 : decode cX12_counts 6 = .ok (.iload_n 1, 1) := by decide +kernel
theorem dX12_counts_7 : decode cX12_counts 7 = .ok (.bipush 6, 2) := by decide +kernel
theorem dX12_counts_9 : decode cX12_counts 9 = .ok (.if_icmp .ge 16, 3) := by decide +kernel
theorem dX12_counts_12 : decode cX12_counts 12 = .ok (.aload_n 0, 1) := by decide +kernel
theorem dX12_counts_13 : decode cX12_counts 13 = .ok (.getfield 58, 3) := by decide +kernel
theorem dX12_counts_16 : decode cX12_counts 16 = .ok (.iload_n 1, 1) := by decide +kernel
theorem dX12_counts_17 : decode cX12_counts 17 = .ok (.iconst 0, 1) := by decide +kernel
theorem dX12_counts_18 : decode cX12_counts 18 = .ok (.iastore, 1) := by decide +kernel
theorem dX12_counts_19 : decode cX12_counts 19 = .ok (.iinc 1 1, 3) := by decide +kernel
theorem dX12_counts_22 : decode cX12_counts 22 = .ok (.goto (-16), 3) := by decide +kernel
theorem dX12_counts_25 : decode cX12_counts 25 = .ok (.iconst 0, 1) := by decide +kernel
theorem dX12_counts_26 : decode cX12_counts 26 = .ok (.istore_n 1, 1) := by decide +kernel
theorem dX12_counts_27 : decode cX12_counts 27 = .ok (.iload_n 1, 1) := by decide +kernel
theorem dX12_counts_28 : decode cX12_counts 28 = .ok (.aload_n 0, 1) := by decide +kernel
theorem dX12_counts_29 : decode cX12_counts 29 = .ok (.getfield 17, 3) := by decide +kernel
theorem dX12_counts_32 : decode cX12_counts 32 = .ok (.sipush 162, 3) := by decide +kernel
theorem dX12_counts_35 : decode cX12_counts 35 = .ok (.iaload, 1) := by decide +kernel
theorem dX12_counts_36 : decode cX12_counts 36 = .ok (.if_icmp .ge 23, 3) := by decide +kernel
theorem dX12_counts_39 : decode cX12_counts 39 = .ok (.aload_n 0, 1) := by decide +kernel
theorem dX12_counts_40 : decode cX12_counts 40 = .ok (.getfield 58, 3) := by decide +kernel
theorem dX12_counts_43 : decode cX12_counts 43 = .ok (.aload_n 0, 1) := by decide +kernel
theorem dX12_counts_44 : decode cX12_counts 44 = .ok (.iload_n 1, 1) := by decide +kernel
theorem dX12_counts_45 : decode cX12_counts 45 = .ok (.invokevirtual 272, 3) := by decide +kernel
theorem dX12_counts_48 : decode cX12_counts 48 = .ok (.dup2, 1) := by decide +kernel
theorem dX12_counts_49 : decode cX12_counts 49 = .ok (.iaload, 1) := by decide +kernel
theorem dX12_counts_50 : decode cX12_counts 50 = .ok (.iconst 1, 1) := by decide +kernel
theorem dX12_counts_51 : decode cX12_counts 51 = .ok (.iadd, 1) := by decide +kernel
theorem dX12_counts_52 : decode cX12_counts 52 = .ok (.iastore, 1) := by decide +kernel
theorem dX12_counts_53 : decode cX12_counts 53 = .ok (.iinc 1 1, 3) := by decide +kernel
theorem dX12_counts_56 : decode cX12_counts 56 = .ok (.goto (-29), 3) := by decide +kernel
theorem dX12_counts_59 : decode cX12_counts 59 = .ok (.return_, 1) := by decide +kernel
theorem dX12_share_0 : decode cX12_share 0 = .ok (.aload_n 0, 1) := by decide +kernel
theorem dX12_share_1 : decode cX12_share 1 = .ok (.iconst 0, 1) := by decide +kernel
theorem dX12_share_2 : decode cX12_share 2 = .ok (.putfield 1, 3) := by decide +kernel
theorem dX12_share_5 : decode cX12_share 5 = .ok (.iload_n 1, 1) := by decide +kernel
theorem dX12_share_6 : decode cX12_share 6 = .ok (.i2l, 1) := by decide +kernel
theorem dX12_share_7 : decode cX12_share 7 = .ok (.lconst 0, 1) := by decide +kernel
theorem dX12_share_8 : decode cX12_share 8 = .ok (.ldc2_w 95, 3) := by decide +kernel
theorem dX12_share_11 : decode cX12_share 11 = .ok (.invokestatic 81, 3) := by decide +kernel
theorem dX12_share_14 : decode cX12_share 14 = .ok (.ifCond .eq 13, 3) := by decide +kernel
theorem dX12_share_17 : decode cX12_share 17 = .ok (.iload_n 2, 1) := by decide +kernel
theorem dX12_share_18 : decode cX12_share 18 = .ok (.i2l, 1) := by decide +kernel
theorem dX12_share_19 : decode cX12_share 19 = .ok (.lconst 0, 1) := by decide +kernel
theorem dX12_share_20 : decode cX12_share 20 = .ok (.lconst 1, 1) := by decide +kernel
theorem dX12_share_21 : decode cX12_share 21 = .ok (.invokestatic 81, 3) := by decide +kernel
theorem dX12_share_24 : decode cX12_share 24 = .ok (.ifCond .ne 10, 3) := by decide +kernel
theorem dX12_share_27 : decode cX12_share 27 = .ok (.aload_n 0, 1) := by decide +kernel
theorem dX12_share_28 : decode cX12_share 28 = .ok (.bipush (-2), 2) := by decide +kernel
theorem dX12_share_30 : decode cX12_share 30 = .ok (.invokevirtual 85, 3) := by decide +kernel
theorem dX12_share_33 : decode cX12_share 33 = .ok (.ireturn, 1) := by decide +kernel
theorem dX12_share_34 : decode cX12_share 34 = .ok (.aload_n 0, 1) := by decide +kernel
theorem dX12_share_35 : decode cX12_share 35 = .ok (.getfield 17, 3) := by decide +kernel
theorem dX12_share_38 : decode cX12_share 38 = .ok (.sipush 162, 3) := by decide +kernel
theorem dX12_share_41 : decode cX12_share 41 = .ok (.iaload, 1) := by decide +kernel
theorem dX12_share_42 : decode cX12_share 42 = .ok (.ifCond .ne 10, 3) := by decide +kernel
theorem dX12_share_45 : decode cX12_share 45 = .ok (.aload_n 0, 1) := by decide +kernel
theorem dX12_share_46 : decode cX12_share 46 = .ok (.bipush (-5), 2) := by decide +kernel
theorem dX12_share_48 : decode cX12_share 48 = .ok (.invokevirtual 85, 3) := by decide +kernel
theorem dX12_share_51 : decode cX12_share 51 = .ok (.ireturn, 1) := by decide +kernel
theorem dX12_share_52 : decode cX12_share 52 = .ok (.aload_n 0, 1) := by decide +kernel
theorem dX12_share_53 : decode cX12_share 53 = .ok (.invokevirtual 282, 3) := by decide +kernel
theorem dX12_share_56 : decode cX12_share 56 = .ok (.iload_n 2, 1) := by decide +kernel
theorem dX12_share_57 : decode cX12_share 57 = .ok (.ifCond .ne 12, 3) := by decide +kernel
theorem dX12_share_60 : decode cX12_share 60 = .ok (.aload_n 0, 1) := by decide +kernel
theorem dX12_share_61 : decode cX12_share 61 = .ok (.getfield 58, 3) := by decide +kernel
theorem dX12_share_64 : decode cX12_share 64 = .ok (.iload_n 1, 1) := by decide +kernel
theorem dX12_share_65 : decode cX12_share 65 = .ok (.iaload, 1) := by decide +kernel
theorem dX12_share_66 : decode cX12_share 66 = .ok (.goto 22, 3) := by decide +kernel
theorem dX12_share_69 : decode cX12_share 69 = .ok (.sipush 1000, 3) := by decide +kernel
theorem dX12_share_72 : decode cX12_share 72 = .ok (.aload_n 0, 1) := by decide +kernel
theorem dX12_share_73 : decode cX12_share 73 = .ok (.getfield 58, 3) := by decide +kernel
theorem dX12_share_76 : decode cX12_share 76 = .ok (.iload_n 1, 1) := by decide +kernel
theorem dX12_share_77 : decode cX12_share 77 = .ok (.iaload, 1) := by decide +kernel
theorem dX12_share_78 : decode cX12_share 78 = .ok (.imul, 1) := by decide +kernel
theorem dX12_share_79 : decode cX12_share 79 = .ok (.aload_n 0, 1) := by decide +kernel
theorem dX12_share_80 : decode cX12_share 80 = .ok (.getfield 17, 3) := by decide +kernel
theorem dX12_share_83 : decode cX12_share 83 = .ok (.sipush 162, 3) := by decide +kernel
theorem dX12_share_86 : decode cX12_share 86 = .ok (.iaload, 1) := by decide +kernel
theorem dX12_share_87 : decode cX12_share 87 = .ok (.idiv, 1) := by decide +kernel
theorem dX12_share_88 : decode cX12_share 88 = .ok (.ireturn, 1) := by decide +kernel
theorem dX12_span_0 : decode cX12_span 0 = .ok (.aload_n 0, 1) := by decide +kernel
theorem dX12_span_1 : decode cX12_span 1 = .ok (.iconst 0, 1) := by decide +kernel
theorem dX12_span_2 : decode cX12_span 2 = .ok (.putfield 1, 3) := by decide +kernel
theorem dX12_span_5 : decode cX12_span 5 = .ok (.iload_n 1, 1) := by decide +kernel
theorem dX12_span_6 : decode cX12_span 6 = .ok (.i2l, 1) := by decide +kernel
theorem dX12_span_7 : decode cX12_span 7 = .ok (.lconst 0, 1) := by decide +kernel
theorem dX12_span_8 : decode cX12_span 8 = .ok (.lconst 1, 1) := by decide +kernel
theorem dX12_span_9 : decode cX12_span 9 = .ok (.invokestatic 81, 3) := by decide +kernel
theorem dX12_span_12 : decode cX12_span 12 = .ok (.ifCond .ne 10, 3) := by decide +kernel
theorem dX12_span_15 : decode cX12_span 15 = .ok (.aload_n 0, 1) := by decide +kernel
theorem dX12_span_16 : decode cX12_span 16 = .ok (.bipush (-2), 2) := by decide +kernel
theorem dX12_span_18 : decode cX12_span 18 = .ok (.invokevirtual 85, 3) := by decide +kernel
theorem dX12_span_21 : decode cX12_span 21 = .ok (.ireturn, 1) := by decide +kernel
theorem dX12_span_22 : decode cX12_span 22 = .ok (.aload_n 0, 1) := by decide +kernel
theorem dX12_span_23 : decode cX12_span 23 = .ok (.getfield 17, 3) := by decide +kernel
theorem dX12_span_26 : decode cX12_span 26 = .ok (.sipush 162, 3) := by decide +kernel
theorem dX12_span_29 : decode cX12_span 29 = .ok (.iaload, 1) := by decide +kernel
theorem dX12_span_30 : decode cX12_span 30 = .ok (.ifCond .ne 10, 3) := by decide +kernel
theorem dX12_span_33 : decode cX12_span 33 = .ok (.aload_n 0, 1) := by decide +kernel
theorem dX12_span_34 : decode cX12_span 34 = .ok (.bipush (-5), 2) := by decide +kernel
theorem dX12_span_36 : decode cX12_span 36 = .ok (.invokevirtual 85, 3) := by decide +kernel
theorem dX12_span_39 : decode cX12_span 39 = .ok (.ireturn, 1) := by decide +kernel
theorem dX12_span_40 : decode cX12_span 40 = .ok (.aload_n 0, 1) := by decide +kernel
theorem dX12_span_41 : decode cX12_span 41 = .ok (.invokevirtual 282, 3) := by decide +kernel
theorem dX12_span_44 : decode cX12_span 44 = .ok (.sipush 1000, 3) := by decide +kernel
theorem dX12_span_47 : decode cX12_span 47 = .ok (.aload_n 0, 1) := by decide +kernel
theorem dX12_span_48 : decode cX12_span 48 = .ok (.getfield 58, 3) := by decide +kernel
theorem dX12_span_51 : decode cX12_span 51 = .ok (.iconst 0, 1) := by decide +kernel
theorem dX12_span_52 : decode cX12_span 52 = .ok (.iaload, 1) := by decide +kernel
theorem dX12_span_53 : decode cX12_span 53 = .ok (.aload_n 0, 1) := by decide +kernel
theorem dX12_span_54 : decode cX12_span 54 = .ok (.getfield 58, 3) := by decide +kernel
theorem dX12_span_57 : decode cX12_span 57 = .ok (.iconst 1, 1) := by decide +kernel
theorem dX12_span_58 : decode cX12_span 58 = .ok (.iaload, 1) := by decide +kernel
theorem dX12_span_59 : decode cX12_span 59 = .ok (.iadd, 1) := by decide +kernel
theorem dX12_span_60 : decode cX12_span 60 = .ok (.aload_n 0, 1) := by decide +kernel
theorem dX12_span_61 : decode cX12_span 61 = .ok (.getfield 58, 3) := by decide +kernel
theorem dX12_span_64 : decode cX12_span 64 = .ok (.iconst 2, 1) := by decide +kernel
theorem dX12_span_65 : decode cX12_span 65 = .ok (.iaload, 1) := by decide +kernel
theorem dX12_span_66 : decode cX12_span 66 = .ok (.iadd, 1) := by decide +kernel
theorem dX12_span_67 : decode cX12_span 67 = .ok (.iload_n 1, 1) := by decide +kernel
theorem dX12_span_68 : decode cX12_span 68 = .ok (.iconst 1, 1) := by decide +kernel
theorem dX12_span_69 : decode cX12_span 69 = .ok (.if_icmp .ne 12, 3) := by decide +kernel
theorem dX12_span_72 : decode cX12_span 72 = .ok (.aload_n 0, 1) := by decide +kernel
theorem dX12_span_73 : decode cX12_span 73 = .ok (.getfield 58, 3) := by decide +kernel
theorem dX12_span_76 : decode cX12_span 76 = .ok (.iconst 4, 1) := by decide +kernel
theorem dX12_span_77 : decode cX12_span 77 = .ok (.iaload, 1) := by decide +kernel
theorem dX12_span_78 : decode cX12_span 78 = .ok (.goto 4, 3) := by decide +kernel
theorem dX12_span_81 : decode cX12_span 81 = .ok (.iconst 0, 1) := by decide +kernel
theorem dX12_span_82 : decode cX12_span 82 = .ok (.iadd, 1) := by decide +kernel
theorem dX12_span_83 : decode cX12_span 83 = .ok (.imul, 1) := by decide +kernel
theorem dX12_span_84 : decode cX12_span 84 = .ok (.aload_n 0, 1) := by decide +kernel
theorem dX12_span_85 : decode cX12_span 85 = .ok (.getfield 17, 3) := by decide +kernel
theorem dX12_span_88 : decode cX12_span 88 = .ok (.sipush 162, 3) := by decide +kernel
theorem dX12_span_91 : decode cX12_span 91 = .ok (.iaload, 1) := by decide +kernel
theorem dX12_span_92 : decode cX12_span 92 = .ok (.idiv, 1) := by decide +kernel
theorem dX12_span_93 : decode cX12_span 93 = .ok (.ireturn, 1) := by decide +kernel
theorem dX12_common_0 : decode cX12_common 0 = .ok (.lload_n 0, 1) := by decide +kernel
theorem dX12_common_1 : decode cX12_common 1 = .ok (.lstore 4, 2) := by decide +kernel
theorem dX12_common_3 : decode cX12_common 3 = .ok (.lload_n 2, 1) := by decide +kernel
theorem dX12_common_4 : decode cX12_common 4 = .ok (.lstore 6, 2) := by decide +kernel
theorem dX12_common_6 : decode cX12_common 6 = .ok (.lload 6, 2) := by decide +kernel
theorem dX12_common_8 : decode cX12_common 8 = .ok (.lconst 0, 1) := by decide +kernel
theorem dX12_common_9 : decode cX12_common 9 = .ok (.lcmp, 1) := by decide +kernel
theorem dX12_common_10 : decode cX12_common 10 = .ok (.ifCond .eq 21, 3) := by decide +kernel
theorem dX12_common_13 : decode cX12_common 13 = .ok (.lload 4, 2) := by decide +kernel
theorem dX12_common_15 : decode cX12_common 15 = .ok (.lload 6, 2) := by decide +kernel
theorem dX12_common_17 : decode cX12_common 17 = .ok (.lrem, 1) := by decide +kernel
theorem dX12_common_18 : decode cX12_common 18 = .ok (.lstore 8, 2) := by decide +kernel
theorem dX12_common_20 : decode cX12_common 20 = .ok (.lload 6, 2) := by decide +kernel
theorem dX12_common_22 : decode cX12_common 22 = .ok (.lstore 4, 2) := by decide +kernel
theorem dX12_common_24 : decode cX12_common 24 = .ok (.lload 8, 2) := by decide +kernel
theorem dX12_common_26 : decode cX12_common 26 = .ok (.lstore 6, 2) := by decide +kernel
theorem dX12_common_28 : decode cX12_common 28 = .ok (.goto (-22), 3) := by decide +kernel
theorem dX12_common_31 : decode cX12_common 31 = .ok (.lload 4, 2) := by decide +kernel
theorem dX12_common_33 : decode cX12_common 33 = .ok (.lreturn, 1) := by decide +kernel
theorem dX12_part_0 : decode cX12_part 0 = .ok (.lload_n 0, 1) := by decide +kernel
theorem dX12_part_1 : decode cX12_part 1 = .ok (.lload_n 2, 1) := by decide +kernel
theorem dX12_part_2 : decode cX12_part 2 = .ok (.invokestatic 285, 3) := by decide +kernel
theorem dX12_part_5 : decode cX12_part 5 = .ok (.lstore 5, 2) := by decide +kernel
theorem dX12_part_7 : decode cX12_part 7 = .ok (.lload 5, 2) := by decide +kernel
theorem dX12_part_9 : decode cX12_part 9 = .ok (.lconst 0, 1) := by decide +kernel
theorem dX12_part_10 : decode cX12_part 10 = .ok (.lcmp, 1) := by decide +kernel
theorem dX12_part_11 : decode cX12_part 11 = .ok (.ifCond .ne 7, 3) := by decide +kernel
theorem dX12_part_14 : decode cX12_part 14 = .ok (.lconst 0, 1) := by decide +kernel
theorem dX12_part_15 : decode cX12_part 15 = .ok (.goto 16, 3) := by decide +kernel
theorem dX12_part_18 : decode cX12_part 18 = .ok (.iload 4, 2) := by decide +kernel
theorem dX12_part_20 : decode cX12_part 20 = .ok (.ifCond .ne 7, 3) := by decide +kernel
theorem dX12_part_23 : decode cX12_part 23 = .ok (.lload_n 0, 1) := by decide +kernel
theorem dX12_part_24 : decode cX12_part 24 = .ok (.goto 4, 3) := by decide +kernel
theorem dX12_part_27 : decode cX12_part 27 = .ok (.lload_n 2, 1) := by decide +kernel
theorem dX12_part_28 : decode cX12_part 28 = .ok (.lload 5, 2) := by decide +kernel
theorem dX12_part_30 : decode cX12_part 30 = .ok (.ldiv, 1) := by decide +kernel
theorem dX12_part_31 : decode cX12_part 31 = .ok (.lreturn, 1) := by decide +kernel
theorem dX12_meets_0 : decode cX12_meets 0 = .ok (.aload_n 0, 1) := by decide +kernel
theorem dX12_meets_1 : decode cX12_meets 1 = .ok (.iconst 0, 1) := by decide +kernel
theorem dX12_meets_2 : decode cX12_meets 2 = .ok (.putfield 288, 3) := by decide +kernel
theorem dX12_meets_5 : decode cX12_meets 5 = .ok (.aload_n 0, 1) := by decide +kernel
theorem dX12_meets_6 : decode cX12_meets 6 = .ok (.iconst 0, 1) := by decide +kernel
theorem dX12_meets_7 : decode cX12_meets 7 = .ok (.putfield 291, 3) := by decide +kernel
theorem dX12_meets_10 : decode cX12_meets 10 = .ok (.iconst 0, 1) := by decide +kernel
theorem dX12_meets_11 : decode cX12_meets 11 = .ok (.istore_n 3, 1) := by decide +kernel
theorem dX12_meets_12 : decode cX12_meets 12 = .ok (.iload_n 3, 1) := by decide +kernel
theorem dX12_meets_13 : decode cX12_meets 13 = .ok (.aload_n 0, 1) := by decide +kernel
theorem dX12_meets_14 : decode cX12_meets 14 = .ok (.getfield 17, 3) := by decide +kernel
theorem dX12_meets_17 : decode cX12_meets 17 = .ok (.sipush 162, 3) := by decide +kernel
theorem dX12_meets_20 : decode cX12_meets 20 = .ok (.iaload, 1) := by decide +kernel
theorem dX12_meets_21 : decode cX12_meets 21 = .ok (.if_icmp .ge 194, 3) := by decide +kernel
theorem dX12_meets_24 : decode cX12_meets 24 = .ok (.iload_n 2, 1) := by decide +kernel
theorem dX12_meets_25 : decode cX12_meets 25 = .ok (.ifCond .eq 14, 3) := by decide +kernel
theorem dX12_meets_28 : decode cX12_meets 28 = .ok (.aload_n 0, 1) := by decide +kernel
theorem dX12_meets_29 : decode cX12_meets 29 = .ok (.getfield 17, 3) := by decide +kernel
theorem dX12_meets_32 : decode cX12_meets 32 = .ok (.sipush 223, 3) := by decide +kernel
theorem dX12_meets_35 : decode cX12_meets 35 = .ok (.iaload, 1) := by decide +kernel
theorem dX12_meets_36 : decode cX12_meets 36 = .ok (.goto 9, 3) := by decide +kernel
theorem dX12_meets_39 : decode cX12_meets 39 = .ok (.aload_n 0, 1) := by decide +kernel
theorem dX12_meets_40 : decode cX12_meets 40 = .ok (.getfield 17, 3) := by decide +kernel
theorem dX12_meets_43 : decode cX12_meets 43 = .ok (.iconst 0, 1) := by decide +kernel
theorem dX12_meets_44 : decode cX12_meets 44 = .ok (.iaload, 1) := by decide +kernel
theorem dX12_meets_45 : decode cX12_meets 45 = .ok (.istore 4, 2) := by decide +kernel
theorem dX12_meets_47 : decode cX12_meets 47 = .ok (.iconst 0, 1) := by decide +kernel
theorem dX12_meets_48 : decode cX12_meets 48 = .ok (.istore 5, 2) := by decide +kernel
theorem dX12_meets_50 : decode cX12_meets 50 = .ok (.iload 5, 2) := by decide +kernel
theorem dX12_meets_52 : decode cX12_meets 52 = .ok (.iload 4, 2) := by decide +kernel
theorem dX12_meets_54 : decode cX12_meets 54 = .ok (.if_icmp .ge 155, 3) := by decide +kernel
theorem dX12_meets_57 : decode cX12_meets 57 = .ok (.iload_n 2, 1) := by decide +kernel
theorem dX12_meets_58 : decode cX12_meets 58 = .ok (.ifCond .eq 20, 3) := by decide +kernel
theorem dX12_meets_61 : decode cX12_meets 61 = .ok (.aload_n 0, 1) := by decide +kernel
theorem dX12_meets_62 : decode cX12_meets 62 = .ok (.getfield 17, 3) := by decide +kernel
theorem dX12_meets_65 : decode cX12_meets 65 = .ok (.sipush 224, 3) := by decide +kernel
theorem dX12_meets_68 : decode cX12_meets 68 = .ok (.iload 5, 2) := by decide +kernel
theorem dX12_meets_70 : decode cX12_meets 70 = .ok (.iadd, 1) := by decide +kernel
theorem dX12_meets_71 : decode cX12_meets 71 = .ok (.iaload, 1) := by decide +kernel
theorem dX12_meets_72 : decode cX12_meets 72 = .ok (.ifCond .ne 18, 3) := by decide +kernel
theorem dX12_meets_75 : decode cX12_meets 75 = .ok (.goto 128, 3) := by decide +kernel
theorem dX12_meets_78 : decode cX12_meets 78 = .ok (.aload_n 0, 1) := by decide +kernel
theorem dX12_meets_79 : decode cX12_meets 79 = .ok (.iload 5, 2) := by decide +kernel
theorem dX12_meets_81 : decode cX12_meets 81 = .ok (.invokevirtual 250, 3) := by decide +kernel
theorem dX12_meets_84 : decode cX12_meets 84 = .ok (.ifCond .ne 6, 3) := by decide +kernel
theorem dX12_meets_87 : decode cX12_meets 87 = .ok (.goto 116, 3) := by decide +kernel
theorem dX12_meets_90 : decode cX12_meets 90 = .ok (.iload_n 2, 1) := by decide +kernel
theorem dX12_meets_91 : decode cX12_meets 91 = .ok (.ifCond .eq 17, 3) := by decide +kernel
theorem dX12_meets_94 : decode cX12_meets 94 = .ok (.aload_n 0, 1) := by decide +kernel
theorem dX12_meets_95 : decode cX12_meets 95 = .ok (.getfield 17, 3) := by decide +kernel
theorem dX12_meets_98 : decode cX12_meets 98 = .ok (.sipush 236, 3) := by decide +kernel
theorem dX12_meets_101 : decode cX12_meets 101 = .ok (.iload 5, 2) := by decide +kernel
theorem dX12_meets_103 : decode cX12_meets 103 = .ok (.iadd, 1) := by decide +kernel
theorem dX12_meets_104 : decode cX12_meets 104 = .ok (.iaload, 1) := by decide +kernel
theorem dX12_meets_105 : decode cX12_meets 105 = .ok (.goto 13, 3) := by decide +kernel
theorem dX12_meets_108 : decode cX12_meets 108 = .ok (.aload_n 0, 1) := by decide +kernel
theorem dX12_meets_109 : decode cX12_meets 109 = .ok (.getfield 17, 3) := by decide +kernel
theorem dX12_meets_112 : decode cX12_meets 112 = .ok (.bipush 121, 2) := by decide +kernel
theorem dX12_meets_114 : decode cX12_meets 114 = .ok (.iload 5, 2) := by decide +kernel
theorem dX12_meets_116 : decode cX12_meets 116 = .ok (.iadd, 1) := by decide +kernel
theorem dX12_meets_117 : decode cX12_meets 117 = .ok (.iaload, 1) := by decide +kernel
theorem dX12_meets_118 : decode cX12_meets 118 = .ok (.istore 6, 2) := by decide +kernel
theorem dX12_meets_120 : decode cX12_meets 120 = .ok (.iconst 0, 1) := by decide +kernel
theorem dX12_meets_121 : decode cX12_meets 121 = .ok (.istore 7, 2) := by decide +kernel
theorem dX12_meets_123 : decode cX12_meets 123 = .ok (.iload 7, 2) := by decide +kernel
theorem dX12_meets_125 : decode cX12_meets 125 = .ok (.iload 6, 2) := by decide +kernel
theorem dX12_meets_127 : decode cX12_meets 127 = .ok (.if_icmp .ge 76, 3) := by decide +kernel
theorem dX12_meets_130 : decode cX12_meets 130 = .ok (.aload_n 0, 1) := by decide +kernel
theorem dX12_meets_131 : decode cX12_meets 131 = .ok (.dup, 1) := by decide +kernel
theorem dX12_meets_132 : decode cX12_meets 132 = .ok (.getfield 288, 3) := by decide +kernel
theorem dX12_meets_135 : decode cX12_meets 135 = .ok (.iconst 1, 1) := by decide +kernel
theorem dX12_meets_136 : decode cX12_meets 136 = .ok (.iadd, 1) := by decide +kernel
theorem dX12_meets_137 : decode cX12_meets 137 = .ok (.putfield 288, 3) := by decide +kernel
theorem dX12_meets_140 : decode cX12_meets 140 = .ok (.aload_n 0, 1) := by decide +kernel
theorem dX12_meets_141 : decode cX12_meets 141 = .ok (.dup, 1) := by decide +kernel
theorem dX12_meets_142 : decode cX12_meets 142 = .ok (.getfield 291, 3) := by decide +kernel
theorem dX12_meets_145 : decode cX12_meets 145 = .ok (.aload_n 0, 1) := by decide +kernel
theorem dX12_meets_146 : decode cX12_meets 146 = .ok (.aload_n 0, 1) := by decide +kernel
theorem dX12_meets_147 : decode cX12_meets 147 = .ok (.getfield 20, 3) := by decide +kernel
theorem dX12_meets_150 : decode cX12_meets 150 = .ok (.sipush 480, 3) := by decide +kernel
theorem dX12_meets_153 : decode cX12_meets 153 = .ok (.iload_n 3, 1) := by decide +kernel
theorem dX12_meets_154 : decode cX12_meets 154 = .ok (.iadd, 1) := by decide +kernel
theorem dX12_meets_155 : decode cX12_meets 155 = .ok (.laload, 1) := by decide +kernel
theorem dX12_meets_156 : decode cX12_meets 156 = .ok (.aload_n 0, 1) := by decide +kernel
theorem dX12_meets_157 : decode cX12_meets 157 = .ok (.getfield 20, 3) := by decide +kernel
theorem dX12_meets_160 : decode cX12_meets 160 = .ok (.iload_n 2, 1) := by decide +kernel
theorem dX12_meets_161 : decode cX12_meets 161 = .ok (.ifCond .eq 9, 3) := by decide +kernel
theorem dX12_meets_164 : decode cX12_meets 164 = .ok (.sipush 540, 3) := by decide +kernel
theorem dX12_meets_167 : decode cX12_meets 167 = .ok (.goto 4, 3) := by decide +kernel
theorem dX12_meets_170 : decode cX12_meets 170 = .ok (.iconst 0, 1) := by decide +kernel
theorem dX12_meets_171 : decode cX12_meets 171 = .ok (.bipush 12, 2) := by decide +kernel
theorem dX12_meets_173 : decode cX12_meets 173 = .ok (.iload 5, 2) := by decide +kernel
theorem dX12_meets_175 : decode cX12_meets 175 = .ok (.imul, 1) := by decide +kernel
theorem dX12_meets_176 : decode cX12_meets 176 = .ok (.iadd, 1) := by decide +kernel
theorem dX12_meets_177 : decode cX12_meets 177 = .ok (.iload 7, 2) := by decide +kernel
theorem dX12_meets_179 : decode cX12_meets 179 = .ok (.iadd, 1) := by decide +kernel
theorem dX12_meets_180 : decode cX12_meets 180 = .ok (.laload, 1) := by decide +kernel
theorem dX12_meets_181 : decode cX12_meets 181 = .ok (.invokevirtual 111, 3) := by decide +kernel
theorem dX12_meets_184 : decode cX12_meets 184 = .ok (.iload_n 1, 1) := by decide +kernel
theorem dX12_meets_185 : decode cX12_meets 185 = .ok (.if_icmp .lt 7, 3) := by decide +kernel
theorem dX12_meets_188 : decode cX12_meets 188 = .ok (.iconst 1, 1) := by decide +kernel
theorem dX12_meets_189 : decode cX12_meets 189 = .ok (.goto 4, 3) := by decide +kernel
theorem dX12_meets_192 : decode cX12_meets 192 = .ok (.iconst 0, 1) := by decide +kernel
theorem dX12_meets_193 : decode cX12_meets 193 = .ok (.iadd, 1) := by decide +kernel
theorem dX12_meets_194 : decode cX12_meets 194 = .ok (.putfield 291, 3) := by decide +kernel
theorem dX12_meets_197 : decode cX12_meets 197 = .ok (.iinc 7 1, 3) := by decide +kernel
theorem dX12_meets_200 : decode cX12_meets 200 = .ok (.goto (-77), 3) := by decide +kernel
theorem dX12_meets_203 : decode cX12_meets 203 = .ok (.iinc 5 1, 3) := by decide +kernel
theorem dX12_meets_206 : decode cX12_meets 206 = .ok (.goto (-156), 3) := by decide +kernel
theorem dX12_meets_209 : decode cX12_meets 209 = .ok (.iinc 3 1, 3) := by decide +kernel
theorem dX12_meets_212 : decode cX12_meets 212 = .ok (.goto (-200), 3) := by decide +kernel
theorem dX12_meets_215 : decode cX12_meets 215 = .ok (.return_, 1) := by decide +kernel
theorem dX12_chance_0 : decode cX12_chance 0 = .ok (.aload_n 0, 1) := by decide +kernel
theorem dX12_chance_1 : decode cX12_chance 1 = .ok (.iconst 0, 1) := by decide +kernel
theorem dX12_chance_2 : decode cX12_chance 2 = .ok (.putfield 1, 3) := by decide +kernel
theorem dX12_chance_5 : decode cX12_chance 5 = .ok (.iload_n 2, 1) := by decide +kernel
theorem dX12_chance_6 : decode cX12_chance 6 = .ok (.i2l, 1) := by decide +kernel
theorem dX12_chance_7 : decode cX12_chance 7 = .ok (.lconst 0, 1) := by decide +kernel
theorem dX12_chance_8 : decode cX12_chance 8 = .ok (.lconst 1, 1) := by decide +kernel
theorem dX12_chance_9 : decode cX12_chance 9 = .ok (.invokestatic 81, 3) := by decide +kernel
theorem dX12_chance_12 : decode cX12_chance 12 = .ok (.ifCond .ne 10, 3) := by decide +kernel
theorem dX12_chance_15 : decode cX12_chance 15 = .ok (.aload_n 0, 1) := by decide +kernel
theorem dX12_chance_16 : decode cX12_chance 16 = .ok (.bipush (-2), 2) := by decide +kernel
theorem dX12_chance_18 : decode cX12_chance 18 = .ok (.invokevirtual 85, 3) := by decide +kernel
theorem dX12_chance_21 : decode cX12_chance 21 = .ok (.ireturn, 1) := by decide +kernel
theorem dX12_chance_22 : decode cX12_chance 22 = .ok (.iload_n 1, 1) := by decide +kernel
theorem dX12_chance_23 : decode cX12_chance 23 = .ok (.i2l, 1) := by decide +kernel
theorem dX12_chance_24 : decode cX12_chance 24 = .ok (.lconst 1, 1) := by decide +kernel
theorem dX12_chance_25 : decode cX12_chance 25 = .ok (.ldc2_w 105, 3) := by decide +kernel
theorem dX12_chance_28 : decode cX12_chance 28 = .ok (.invokestatic 81, 3) := by decide +kernel
theorem dX12_chance_31 : decode cX12_chance 31 = .ok (.ifCond .ne 10, 3) := by decide +kernel
theorem dX12_chance_34 : decode cX12_chance 34 = .ok (.aload_n 0, 1) := by decide +kernel
theorem dX12_chance_35 : decode cX12_chance 35 = .ok (.bipush (-3), 2) := by decide +kernel
theorem dX12_chance_37 : decode cX12_chance 37 = .ok (.invokevirtual 85, 3) := by decide +kernel
theorem dX12_chance_40 : decode cX12_chance 40 = .ok (.ireturn, 1) := by decide +kernel
theorem dX12_chance_41 : decode cX12_chance 41 = .ok (.aload_n 0, 1) := by decide +kernel
theorem dX12_chance_42 : decode cX12_chance 42 = .ok (.iload_n 1, 1) := by decide +kernel
theorem dX12_chance_43 : decode cX12_chance 43 = .ok (.iconst 1, 1) := by decide +kernel
theorem dX12_chance_44 : decode cX12_chance 44 = .ok (.invokevirtual 294, 3) := by decide +kernel
theorem dX12_chance_47 : decode cX12_chance 47 = .ok (.aload_n 0, 1) := by decide +kernel
theorem dX12_chance_48 : decode cX12_chance 48 = .ok (.getfield 291, 3) := by decide +kernel
theorem dX12_chance_51 : decode cX12_chance 51 = .ok (.i2l, 1) := by decide +kernel
theorem dX12_chance_52 : decode cX12_chance 52 = .ok (.aload_n 0, 1) := by decide +kernel
theorem dX12_chance_53 : decode cX12_chance 53 = .ok (.getfield 288, 3) := by decide +kernel
theorem dX12_chance_56 : decode cX12_chance 56 = .ok (.i2l, 1) := by decide +kernel
theorem dX12_chance_57 : decode cX12_chance 57 = .ok (.iload_n 2, 1) := by decide +kernel
theorem dX12_chance_58 : decode cX12_chance 58 = .ok (.invokestatic 298, 3) := by decide +kernel
theorem dX12_chance_61 : decode cX12_chance 61 = .ok (.l2i, 1) := by decide +kernel
theorem dX12_chance_62 : decode cX12_chance 62 = .ok (.ireturn, 1) := by decide +kernel
theorem dX12_odds_0 : decode cX12_odds 0 = .ok (.aload_n 0, 1) := by decide +kernel
theorem dX12_odds_1 : decode cX12_odds 1 = .ok (.iconst 0, 1) := by decide +kernel
theorem dX12_odds_2 : decode cX12_odds 2 = .ok (.putfield 1, 3) := by decide +kernel
theorem dX12_odds_5 : decode cX12_odds 5 = .ok (.iload_n 2, 1) := by decide +kernel
theorem dX12_odds_6 : decode cX12_odds 6 = .ok (.i2l, 1) := by decide +kernel
theorem dX12_odds_7 : decode cX12_odds 7 = .ok (.lconst 0, 1) := by decide +kernel
theorem dX12_odds_8 : decode cX12_odds 8 = .ok (.lconst 1, 1) := by decide +kernel
theorem dX12_odds_9 : decode cX12_odds 9 = .ok (.invokestatic 81, 3) := by decide +kernel
theorem dX12_odds_12 : decode cX12_odds 12 = .ok (.ifCond .ne 11, 3) := by decide +kernel
theorem dX12_odds_15 : decode cX12_odds 15 = .ok (.aload_n 0, 1) := by decide +kernel
theorem dX12_odds_16 : decode cX12_odds 16 = .ok (.bipush (-2), 2) := by decide +kernel
theorem dX12_odds_18 : decode cX12_odds 18 = .ok (.invokevirtual 85, 3) := by decide +kernel
theorem dX12_odds_21 : decode cX12_odds 21 = .ok (.i2l, 1) := by decide +kernel
theorem dX12_odds_22 : decode cX12_odds 22 = .ok (.lreturn, 1) := by decide +kernel
theorem dX12_odds_23 : decode cX12_odds 23 = .ok (.iload_n 1, 1) := by decide +kernel
theorem dX12_odds_24 : decode cX12_odds 24 = .ok (.i2l, 1) := by decide +kernel
theorem dX12_odds_25 : decode cX12_odds 25 = .ok (.lconst 1, 1) := by decide +kernel
theorem dX12_odds_26 : decode cX12_odds 26 = .ok (.ldc2_w 105, 3) := by decide +kernel
theorem dX12_odds_29 : decode cX12_odds 29 = .ok (.invokestatic 81, 3) := by decide +kernel
theorem dX12_odds_32 : decode cX12_odds 32 = .ok (.ifCond .ne 11, 3) := by decide +kernel
theorem dX12_odds_35 : decode cX12_odds 35 = .ok (.aload_n 0, 1) := by decide +kernel
theorem dX12_odds_36 : decode cX12_odds 36 = .ok (.bipush (-3), 2) := by decide +kernel
theorem dX12_odds_38 : decode cX12_odds 38 = .ok (.invokevirtual 85, 3) := by decide +kernel
theorem dX12_odds_41 : decode cX12_odds 41 = .ok (.i2l, 1) := by decide +kernel
theorem dX12_odds_42 : decode cX12_odds 42 = .ok (.lreturn, 1) := by decide +kernel
theorem dX12_odds_43 : decode cX12_odds 43 = .ok (.aload_n 0, 1) := by decide +kernel
theorem dX12_odds_44 : decode cX12_odds 44 = .ok (.iload_n 1, 1) := by decide +kernel
theorem dX12_odds_45 : decode cX12_odds 45 = .ok (.iconst 1, 1) := by decide +kernel
theorem dX12_odds_46 : decode cX12_odds 46 = .ok (.invokevirtual 294, 3) := by decide +kernel
theorem dX12_odds_49 : decode cX12_odds 49 = .ok (.aload_n 0, 1) := by decide +kernel
theorem dX12_odds_50 : decode cX12_odds 50 = .ok (.getfield 291, 3) := by decide +kernel
theorem dX12_odds_53 : decode cX12_odds 53 = .ok (.i2l, 1) := by decide +kernel
theorem dX12_odds_54 : decode cX12_odds 54 = .ok (.lstore_n 3, 1) := by decide +kernel
theorem dX12_odds_55 : decode cX12_odds 55 = .ok (.aload_n 0, 1) := by decide +kernel
theorem dX12_odds_56 : decode cX12_odds 56 = .ok (.getfield 288, 3) := by decide +kernel
theorem dX12_odds_59 : decode cX12_odds 59 = .ok (.i2l, 1) := by decide +kernel
theorem dX12_odds_60 : decode cX12_odds 60 = .ok (.lstore 5, 2) := by decide +kernel
theorem dX12_odds_62 : decode cX12_odds 62 = .ok (.aload_n 0, 1) := by decide +kernel
theorem dX12_odds_63 : decode cX12_odds 63 = .ok (.iload_n 1, 1) := by decide +kernel
theorem dX12_odds_64 : decode cX12_odds 64 = .ok (.iconst 0, 1) := by decide +kernel
theorem dX12_odds_65 : decode cX12_odds 65 = .ok (.invokevirtual 294, 3) := by decide +kernel
theorem dX12_odds_68 : decode cX12_odds 68 = .ok (.aload_n 0, 1) := by decide +kernel
theorem dX12_odds_69 : decode cX12_odds 69 = .ok (.getfield 291, 3) := by decide +kernel
theorem dX12_odds_72 : decode cX12_odds 72 = .ok (.i2l, 1) := by decide +kernel
theorem dX12_odds_73 : decode cX12_odds 73 = .ok (.lload 5, 2) := by decide +kernel
theorem dX12_odds_75 : decode cX12_odds 75 = .ok (.lmul, 1) := by decide +kernel
theorem dX12_odds_76 : decode cX12_odds 76 = .ok (.aload_n 0, 1) := by decide +kernel
theorem dX12_odds_77 : decode cX12_odds 77 = .ok (.getfield 288, 3) := by decide +kernel
theorem dX12_odds_80 : decode cX12_odds 80 = .ok (.i2l, 1) := by decide +kernel
theorem dX12_odds_81 : decode cX12_odds 81 = .ok (.lload_n 3, 1) := by decide +kernel
theorem dX12_odds_82 : decode cX12_odds 82 = .ok (.lmul, 1) := by decide +kernel
theorem dX12_odds_83 : decode cX12_odds 83 = .ok (.iload_n 2, 1) := by decide +kernel
theorem dX12_odds_84 : decode cX12_odds 84 = .ok (.invokestatic 298, 3) := by decide +kernel
theorem dX12_odds_87 : decode cX12_odds 87 = .ok (.lreturn, 1) := by decide +kernel
theorem dX12_matchesOf_0 : decode cX12_matchesOf 0 = .ok (.iconst 0, 1) := by decide +kernel
theorem dX12_matchesOf_1 : decode cX12_matchesOf 1 = .ok (.istore_n 3, 1) := by decide +kernel
theorem dX12_matchesOf_2 : decode cX12_matchesOf 2 = .ok (.iconst 0, 1) := by decide +kernel
theorem dX12_matchesOf_3 : decode cX12_matchesOf 3 = .ok (.istore 4, 2) := by decide +kernel
theorem dX12_matchesOf_5 : decode cX12_matchesOf 5 = .ok (.iload 4, 2) := by decide +kernel
theorem dX12_matchesOf_7 : decode cX12_matchesOf 7 = .ok (.aload_n 0, 1) := by decide +kernel
theorem dX12_matchesOf_8 : decode cX12_matchesOf 8 = .ok (.getfield 17, 3) := by decide +kernel
theorem dX12_matchesOf_11 : decode cX12_matchesOf 11 = .ok (.sipush 162, 3) := by decide +kernel
theorem dX12_matchesOf_14 : decode cX12_matchesOf 14 = .ok (.iaload, 1) := by decide +kernel
theorem dX12_matchesOf_15 : decode cX12_matchesOf 15 = .ok (.if_icmp .ge 96, 3) := by decide +kernel
theorem dX12_matchesOf_18 : decode cX12_matchesOf 18 = .ok (.iconst 0, 1) := by decide +kernel
theorem dX12_matchesOf_19 : decode cX12_matchesOf 19 = .ok (.istore 5, 2) := by decide +kernel
theorem dX12_matchesOf_21 : decode cX12_matchesOf 21 = .ok (.iconst 0, 1) := by decide +kernel
theorem dX12_matchesOf_22 : decode cX12_matchesOf 22 = .ok (.istore 6, 2) := by decide +kernel
theorem dX12_matchesOf_24 : decode cX12_matchesOf 24 = .ok (.iload 6, 2) := by decide +kernel
theorem dX12_matchesOf_26 : decode cX12_matchesOf 26 = .ok (.aload_n 0, 1) := by decide +kernel
theorem dX12_matchesOf_27 : decode cX12_matchesOf 27 = .ok (.getfield 17, 3) := by decide +kernel
theorem dX12_matchesOf_30 : decode cX12_matchesOf 30 = .ok (.sipush 236, 3) := by decide +kernel
theorem dX12_matchesOf_33 : decode cX12_matchesOf 33 = .ok (.iload_n 1, 1) := by decide +kernel
theorem dX12_matchesOf_34 : decode cX12_matchesOf 34 = .ok (.iadd, 1) := by decide +kernel
theorem dX12_matchesOf_35 : decode cX12_matchesOf 35 = .ok (.iaload, 1) := by decide +kernel
theorem dX12_matchesOf_36 : decode cX12_matchesOf 36 = .ok (.if_icmp .ge 56, 3) := by decide +kernel
theorem dX12_matchesOf_39 : decode cX12_matchesOf 39 = .ok (.iload 5, 2) := by decide +kernel
theorem dX12_matchesOf_41 : decode cX12_matchesOf 41 = .ok (.ifCond .ne 51, 3) := by decide +kernel
theorem dX12_matchesOf_44 : decode cX12_matchesOf 44 = .ok (.aload_n 0, 1) := by decide +kernel
theorem dX12_matchesOf_45 : decode cX12_matchesOf 45 = .ok (.aload_n 0, 1) := by decide +kernel
theorem dX12_matchesOf_46 : decode cX12_matchesOf 46 = .ok (.getfield 20, 3) := by decide +kernel
theorem dX12_matchesOf_49 : decode cX12_matchesOf 49 = .ok (.sipush 480, 3) := by decide +kernel
theorem dX12_matchesOf_52 : decode cX12_matchesOf 52 = .ok (.iload 4, 2) := by decide +kernel
theorem dX12_matchesOf_54 : decode cX12_matchesOf 54 = .ok (.iadd, 1) := by decide +kernel
theorem dX12_matchesOf_55 : decode cX12_matchesOf 55 = .ok (.laload, 1) := by decide +kernel
theorem dX12_matchesOf_56 : decode cX12_matchesOf 56 = .ok (.aload_n 0, 1) := by decide +kernel
theorem dX12_matchesOf_57 : decode cX12_matchesOf 57 = .ok (.getfield 20, 3) := by decide +kernel
theorem dX12_matchesOf_60 : decode cX12_matchesOf 60 = .ok (.sipush 540, 3) := by decide +kernel
theorem dX12_matchesOf_63 : decode cX12_matchesOf 63 = .ok (.bipush 12, 2) := by decide +kernel
theorem dX12_matchesOf_65 : decode cX12_matchesOf 65 = .ok (.iload_n 1, 1) := by decide +kernel
theorem dX12_matchesOf_66 : decode cX12_matchesOf 66 = .ok (.imul, 1) := by decide +kernel
theorem dX12_matchesOf_67 : decode cX12_matchesOf 67 = .ok (.iadd, 1) := by decide +kernel
theorem dX12_matchesOf_68 : decode cX12_matchesOf 68 = .ok (.iload 6, 2) := by decide +kernel
theorem dX12_matchesOf_70 : decode cX12_matchesOf 70 = .ok (.iadd, 1) := by decide +kernel
theorem dX12_matchesOf_71 : decode cX12_matchesOf 71 = .ok (.laload, 1) := by decide +kernel
theorem dX12_matchesOf_72 : decode cX12_matchesOf 72 = .ok (.invokevirtual 111, 3) := by decide +kernel
theorem dX12_matchesOf_75 : decode cX12_matchesOf 75 = .ok (.iload_n 2, 1) := by decide +kernel
theorem dX12_matchesOf_76 : decode cX12_matchesOf 76 = .ok (.if_icmp .lt 7, 3) := by decide +kernel
theorem dX12_matchesOf_79 : decode cX12_matchesOf 79 = .ok (.iconst 1, 1) := by decide +kernel
theorem dX12_matchesOf_80 : decode cX12_matchesOf 80 = .ok (.goto 4, 3) := by decide +kernel
theorem dX12_matchesOf_83 : decode cX12_matchesOf 83 = .ok (.iconst 0, 1) := by decide +kernel
theorem dX12_matchesOf_84 : decode cX12_matchesOf 84 = .ok (.istore 5, 2) := by decide +kernel
theorem dX12_matchesOf_86 : decode cX12_matchesOf 86 = .ok (.iinc 6 1, 3) := by decide +kernel
theorem dX12_matchesOf_89 : decode cX12_matchesOf 89 = .ok (.goto (-65), 3) := by decide +kernel
theorem dX12_matchesOf_92 : decode cX12_matchesOf 92 = .ok (.iload_n 3, 1) := by decide +kernel
theorem dX12_matchesOf_93 : decode cX12_matchesOf 93 = .ok (.iload 5, 2) := by decide +kernel
theorem dX12_matchesOf_95 : decode cX12_matchesOf 95 = .ok (.ifCond .eq 7, 3) := by decide +kernel
theorem dX12_matchesOf_98 : decode cX12_matchesOf 98 = .ok (.iconst 1, 1) := by decide +kernel
theorem dX12_matchesOf_99 : decode cX12_matchesOf 99 = .ok (.goto 4, 3) := by decide +kernel
theorem dX12_matchesOf_102 : decode cX12_matchesOf 102 = .ok (.iconst 0, 1) := by decide +kernel
theorem dX12_matchesOf_103 : decode cX12_matchesOf 103 = .ok (.iadd, 1) := by decide +kernel
theorem dX12_matchesOf_104 : decode cX12_matchesOf 104 = .ok (.istore_n 3, 1) := by decide +kernel
theorem dX12_matchesOf_105 : decode cX12_matchesOf 105 = .ok (.iinc 4 1, 3) := by decide +kernel
theorem dX12_matchesOf_108 : decode cX12_matchesOf 108 = .ok (.goto (-103), 3) := by decide +kernel
theorem dX12_matchesOf_111 : decode cX12_matchesOf 111 = .ok (.iload_n 3, 1) := by decide +kernel
theorem dX12_matchesOf_112 : decode cX12_matchesOf 112 = .ok (.ireturn, 1) := by decide +kernel
theorem dX12_matches_0 : decode cX12_matches 0 = .ok (.aload_n 0, 1) := by decide +kernel
theorem dX12_matches_1 : decode cX12_matches 1 = .ok (.iconst 0, 1) := by decide +kernel
theorem dX12_matches_2 : decode cX12_matches 2 = .ok (.putfield 1, 3) := by decide +kernel
theorem dX12_matches_5 : decode cX12_matches 5 = .ok (.iload_n 1, 1) := by decide +kernel
theorem dX12_matches_6 : decode cX12_matches 6 = .ok (.i2l, 1) := by decide +kernel
theorem dX12_matches_7 : decode cX12_matches 7 = .ok (.lconst 0, 1) := by decide +kernel
theorem dX12_matches_8 : decode cX12_matches 8 = .ok (.aload_n 0, 1) := by decide +kernel
theorem dX12_matches_9 : decode cX12_matches 9 = .ok (.getfield 17, 3) := by decide +kernel
theorem dX12_matches_12 : decode cX12_matches 12 = .ok (.sipush 223, 3) := by decide +kernel
theorem dX12_matches_15 : decode cX12_matches 15 = .ok (.iaload, 1) := by decide +kernel
theorem dX12_matches_16 : decode cX12_matches 16 = .ok (.iconst 1, 1) := by decide +kernel
theorem dX12_matches_17 : decode cX12_matches 17 = .ok (.isub, 1) := by decide +kernel
theorem dX12_matches_18 : decode cX12_matches 18 = .ok (.i2l, 1) := by decide +kernel
theorem dX12_matches_19 : decode cX12_matches 19 = .ok (.invokestatic 81, 3) := by decide +kernel
theorem dX12_matches_22 : decode cX12_matches 22 = .ok (.ifCond .ne 10, 3) := by decide +kernel
theorem dX12_matches_25 : decode cX12_matches 25 = .ok (.aload_n 0, 1) := by decide +kernel
theorem dX12_matches_26 : decode cX12_matches 26 = .ok (.bipush (-2), 2) := by decide +kernel
theorem dX12_matches_28 : decode cX12_matches 28 = .ok (.invokevirtual 85, 3) := by decide +kernel
theorem dX12_matches_31 : decode cX12_matches 31 = .ok (.ireturn, 1) := by decide +kernel
theorem dX12_matches_32 : decode cX12_matches 32 = .ok (.iload_n 2, 1) := by decide +kernel
theorem dX12_matches_33 : decode cX12_matches 33 = .ok (.i2l, 1) := by decide +kernel
theorem dX12_matches_34 : decode cX12_matches 34 = .ok (.lconst 1, 1) := by decide +kernel
theorem dX12_matches_35 : decode cX12_matches 35 = .ok (.ldc2_w 105, 3) := by decide +kernel
theorem dX12_matches_38 : decode cX12_matches 38 = .ok (.invokestatic 81, 3) := by decide +kernel
theorem dX12_matches_41 : decode cX12_matches 41 = .ok (.ifCond .ne 10, 3) := by decide +kernel
theorem dX12_matches_44 : decode cX12_matches 44 = .ok (.aload_n 0, 1) := by decide +kernel
theorem dX12_matches_45 : decode cX12_matches 45 = .ok (.bipush (-3), 2) := by decide +kernel
theorem dX12_matches_47 : decode cX12_matches 47 = .ok (.invokevirtual 85, 3) := by decide +kernel
theorem dX12_matches_50 : decode cX12_matches 50 = .ok (.ireturn, 1) := by decide +kernel
theorem dX12_matches_51 : decode cX12_matches 51 = .ok (.aload_n 0, 1) := by decide +kernel
theorem dX12_matches_52 : decode cX12_matches 52 = .ok (.iload_n 1, 1) := by decide +kernel
theorem dX12_matches_53 : decode cX12_matches 53 = .ok (.iload_n 2, 1) := by decide +kernel
theorem dX12_matches_54 : decode cX12_matches 54 = .ok (.invokevirtual 302, 3) := by decide +kernel
theorem dX12_matches_57 : decode cX12_matches 57 = .ok (.ireturn, 1) := by decide +kernel
theorem dX12_most_0 : decode cX12_most 0 = .ok (.aload_n 0, 1) := by decide +kernel
theorem dX12_most_1 : decode cX12_most 1 = .ok (.iconst 0, 1) := by decide +kernel
theorem dX12_most_2 : decode cX12_most 2 = .ok (.putfield 1, 3) := by decide +kernel
theorem dX12_most_5 : decode cX12_most 5 = .ok (.iload_n 2, 1) := by decide +kernel
theorem dX12_most_6 : decode cX12_most 6 = .ok (.i2l, 1) := by decide +kernel
theorem dX12_most_7 : decode cX12_most 7 = .ok (.lconst 0, 1) := by decide +kernel
theorem dX12_most_8 : decode cX12_most 8 = .ok (.ldc2_w 306, 3) := by decide +kernel
theorem dX12_most_11 : decode cX12_most 11 = .ok (.invokestatic 81, 3) := by decide +kernel
theorem dX12_most_14 : decode cX12_most 14 = .ok (.ifCond .ne 10, 3) := by decide +kernel
theorem dX12_most_17 : decode cX12_most 17 = .ok (.aload_n 0, 1) := by decide +kernel
theorem dX12_most_18 : decode cX12_most 18 = .ok (.bipush (-2), 2) := by decide +kernel
theorem dX12_most_20 : decode cX12_most 20 = .ok (.invokevirtual 85, 3) := by decide +kernel
theorem dX12_most_23 : decode cX12_most 23 = .ok (.ireturn, 1) := by decide +kernel
theorem dX12_most_24 : decode cX12_most 24 = .ok (.iload_n 1, 1) := by decide +kernel
theorem dX12_most_25 : decode cX12_most 25 = .ok (.i2l, 1) := by decide +kernel
theorem dX12_most_26 : decode cX12_most 26 = .ok (.lconst 1, 1) := by decide +kernel
theorem dX12_most_27 : decode cX12_most 27 = .ok (.ldc2_w 105, 3) := by decide +kernel
theorem dX12_most_30 : decode cX12_most 30 = .ok (.invokestatic 81, 3) := by decide +kernel
theorem dX12_most_33 : decode cX12_most 33 = .ok (.ifCond .ne 10, 3) := by decide +kernel
theorem dX12_most_36 : decode cX12_most 36 = .ok (.aload_n 0, 1) := by decide +kernel
theorem dX12_most_37 : decode cX12_most 37 = .ok (.bipush (-3), 2) := by decide +kernel
theorem dX12_most_39 : decode cX12_most 39 = .ok (.invokevirtual 85, 3) := by decide +kernel
theorem dX12_most_42 : decode cX12_most 42 = .ok (.ireturn, 1) := by decide +kernel
theorem dX12_most_43 : decode cX12_most 43 = .ok (.aload_n 0, 1) := by decide +kernel
theorem dX12_most_44 : decode cX12_most 44 = .ok (.getfield 17, 3) := by decide +kernel
theorem dX12_most_47 : decode cX12_most 47 = .ok (.sipush 223, 3) := by decide +kernel
theorem dX12_most_50 : decode cX12_most 50 = .ok (.iaload, 1) := by decide +kernel
theorem dX12_most_51 : decode cX12_most 51 = .ok (.ifCond .ne 10, 3) := by decide +kernel
theorem dX12_most_54 : decode cX12_most 54 = .ok (.aload_n 0, 1) := by decide +kernel
theorem dX12_most_55 : decode cX12_most 55 = .ok (.bipush (-5), 2) := by decide +kernel
theorem dX12_most_57 : decode cX12_most 57 = .ok (.invokevirtual 85, 3) := by decide +kernel
theorem dX12_most_60 : decode cX12_most 60 = .ok (.ireturn, 1) := by decide +kernel
theorem dX12_most_61 : decode cX12_most 61 = .ok (.iconst 0, 1) := by decide +kernel
theorem dX12_most_62 : decode cX12_most 62 = .ok (.istore_n 3, 1) := by decide +kernel
theorem dX12_most_63 : decode cX12_most 63 = .ok (.iconst 0, 1) := by decide +kernel
theorem dX12_most_64 : decode cX12_most 64 = .ok (.istore 4, 2) := by decide +kernel
theorem dX12_most_66 : decode cX12_most 66 = .ok (.iconst 0, 1) := by decide +kernel
theorem dX12_most_67 : decode cX12_most 67 = .ok (.istore 5, 2) := by decide +kernel
theorem dX12_most_69 : decode cX12_most 69 = .ok (.iconst 0, 1) := by decide +kernel
theorem dX12_most_70 : decode cX12_most 70 = .ok (.istore 6, 2) := by decide +kernel
theorem dX12_most_72 : decode cX12_most 72 = .ok (.iload 6, 2) := by decide +kernel
theorem dX12_most_74 : decode cX12_most 74 = .ok (.aload_n 0, 1) := by decide +kernel
theorem dX12_most_75 : decode cX12_most 75 = .ok (.getfield 17, 3) := by decide +kernel
theorem dX12_most_78 : decode cX12_most 78 = .ok (.sipush 223, 3) := by decide +kernel
theorem dX12_most_81 : decode cX12_most 81 = .ok (.iaload, 1) := by decide +kernel
theorem dX12_most_82 : decode cX12_most 82 = .ok (.if_icmp .ge 42, 3) := by decide +kernel
theorem dX12_most_85 : decode cX12_most 85 = .ok (.aload_n 0, 1) := by decide +kernel
theorem dX12_most_86 : decode cX12_most 86 = .ok (.iload 6, 2) := by decide +kernel
theorem dX12_most_88 : decode cX12_most 88 = .ok (.iload_n 1, 1) := by decide +kernel
theorem dX12_most_89 : decode cX12_most 89 = .ok (.invokevirtual 302, 3) := by decide +kernel
theorem dX12_most_92 : decode cX12_most 92 = .ok (.istore 7, 2) := by decide +kernel
theorem dX12_most_94 : decode cX12_most 94 = .ok (.iload 5, 2) := by decide +kernel
theorem dX12_most_96 : decode cX12_most 96 = .ok (.iload 7, 2) := by decide +kernel
theorem dX12_most_98 : decode cX12_most 98 = .ok (.iadd, 1) := by decide +kernel
theorem dX12_most_99 : decode cX12_most 99 = .ok (.istore 5, 2) := by decide +kernel
theorem dX12_most_101 : decode cX12_most 101 = .ok (.iload 7, 2) := by decide +kernel
theorem dX12_most_103 : decode cX12_most 103 = .ok (.iload 4, 2) := by decide +kernel
theorem dX12_most_105 : decode cX12_most 105 = .ok (.if_icmp .gt 6, 3) := by decide +kernel
theorem dX12_most_108 : decode cX12_most 108 = .ok (.goto 10, 3) := by decide +kernel
theorem dX12_most_111 : decode cX12_most 111 = .ok (.iload 6, 2) := by decide +kernel
theorem dX12_most_113 : decode cX12_most 113 = .ok (.istore_n 3, 1) := by decide +kernel
theorem dX12_most_114 : decode cX12_most 114 = .ok (.iload 7, 2) := by decide +kernel
theorem dX12_most_116 : decode cX12_most 116 = .ok (.istore 4, 2) := by decide +kernel
theorem dX12_most_118 : decode cX12_most 118 = .ok (.iinc 6 1, 3) := by decide +kernel
theorem dX12_most_121 : decode cX12_most 121 = .ok (.goto (-49), 3) := by decide +kernel
theorem dX12_most_124 : decode cX12_most 124 = .ok (.iload_n 2, 1) := by decide +kernel
theorem dX12_most_125 : decode cX12_most 125 = .ok (.iconst 2, 1) := by decide +kernel
theorem dX12_most_126 : decode cX12_most 126 = .ok (.if_icmp .ne 7, 3) := by decide +kernel
theorem dX12_most_129 : decode cX12_most 129 = .ok (.iload_n 3, 1) := by decide +kernel
theorem dX12_most_130 : decode cX12_most 130 = .ok (.goto 23, 3) := by decide +kernel
theorem dX12_most_133 : decode cX12_most 133 = .ok (.iload 4, 2) := by decide +kernel
theorem dX12_most_135 : decode cX12_most 135 = .ok (.aload_n 0, 1) := by decide +kernel
theorem dX12_most_136 : decode cX12_most 136 = .ok (.getfield 17, 3) := by decide +kernel
theorem dX12_most_139 : decode cX12_most 139 = .ok (.sipush 223, 3) := by decide +kernel
theorem dX12_most_142 : decode cX12_most 142 = .ok (.iaload, 1) := by decide +kernel
theorem dX12_most_143 : decode cX12_most 143 = .ok (.imul, 1) := by decide +kernel
theorem dX12_most_144 : decode cX12_most 144 = .ok (.i2l, 1) := by decide +kernel
theorem dX12_most_145 : decode cX12_most 145 = .ok (.iload 5, 2) := by decide +kernel
theorem dX12_most_147 : decode cX12_most 147 = .ok (.i2l, 1) := by decide +kernel
theorem dX12_most_148 : decode cX12_most 148 = .ok (.iload_n 2, 1) := by decide +kernel
theorem dX12_most_149 : decode cX12_most 149 = .ok (.invokestatic 298, 3) := by decide +kernel
theorem dX12_most_152 : decode cX12_most 152 = .ok (.l2i, 1) := by decide +kernel
theorem dX12_most_153 : decode cX12_most 153 = .ok (.ireturn, 1) := by decide +kernel
theorem dX12_addsBy_0 : decode cX12_addsBy 0 = .ok (.aload_n 0, 1) := by decide +kernel
theorem dX12_addsBy_1 : decode cX12_addsBy 1 = .ok (.invokevirtual 269, 3) := by decide +kernel
theorem dX12_addsBy_4 : decode cX12_addsBy 4 = .ok (.iconst 0, 1) := by decide +kernel
theorem dX12_addsBy_5 : decode cX12_addsBy 5 = .ok (.istore 4, 2) := by decide +kernel
theorem dX12_addsBy_7 : decode cX12_addsBy 7 = .ok (.iconst 0, 1) := by decide +kernel
theorem dX12_addsBy_8 : decode cX12_addsBy 8 = .ok (.istore 5, 2) := by decide +kernel
theorem dX12_addsBy_10 : decode cX12_addsBy 10 = .ok (.iload 5, 2) := by decide +kernel
theorem dX12_addsBy_12 : decode cX12_addsBy 12 = .ok (.aload_n 0, 1) := by decide +kernel
theorem dX12_addsBy_13 : decode cX12_addsBy 13 = .ok (.getfield 17, 3) := by decide +kernel
theorem dX12_addsBy_16 : decode cX12_addsBy 16 = .ok (.sipush 162, 3) := by decide +kernel
theorem dX12_addsBy_19 : decode cX12_addsBy 19 = .ok (.iaload, 1) := by decide +kernel
theorem dX12_addsBy_20 : decode cX12_addsBy 20 = .ok (.if_icmp .ge 160, 3) := by decide +kernel
theorem dX12_addsBy_23 : decode cX12_addsBy 23 = .ok (.aload_n 0, 1) := by decide +kernel
theorem dX12_addsBy_24 : decode cX12_addsBy 24 = .ok (.iload 5, 2) := by decide +kernel
theorem dX12_addsBy_26 : decode cX12_addsBy 26 = .ok (.invokevirtual 272, 3) := by decide +kernel
theorem dX12_addsBy_29 : decode cX12_addsBy 29 = .ok (.iconst 3, 1) := by decide +kernel
theorem dX12_addsBy_30 : decode cX12_addsBy 30 = .ok (.if_icmp .ge 6, 3) := by decide +kernel
theorem dX12_addsBy_33 : decode cX12_addsBy 33 = .ok (.goto 141, 3) := by decide +kernel
theorem dX12_addsBy_36 : decode cX12_addsBy 36 = .ok (.iconst 0, 1) := by decide +kernel
theorem dX12_addsBy_37 : decode cX12_addsBy 37 = .ok (.istore 6, 2) := by decide +kernel
theorem dX12_addsBy_39 : decode cX12_addsBy 39 = .ok (.iconst 0, 1) := by decide +kernel
theorem dX12_addsBy_40 : decode cX12_addsBy 40 = .ok (.istore 7, 2) := by decide +kernel
theorem dX12_addsBy_42 : decode cX12_addsBy 42 = .ok (.iload 7, 2) := by decide +kernel
theorem dX12_addsBy_44 : decode cX12_addsBy 44 = .ok (.aload_n 0, 1) := by decide +kernel
theorem dX12_addsBy_45 : decode cX12_addsBy 45 = .ok (.getfield 17, 3) := by decide +kernel
theorem dX12_addsBy_48 : decode cX12_addsBy 48 = .ok (.sipush 236, 3) := by decide +kernel
theorem dX12_addsBy_51 : decode cX12_addsBy 51 = .ok (.iload_n 1, 1) := by decide +kernel
theorem dX12_addsBy_52 : decode cX12_addsBy 52 = .ok (.iadd, 1) := by decide +kernel
theorem dX12_addsBy_53 : decode cX12_addsBy 53 = .ok (.iaload, 1) := by decide +kernel
theorem dX12_addsBy_54 : decode cX12_addsBy 54 = .ok (.if_icmp .ge 100, 3) := by decide +kernel
theorem dX12_addsBy_57 : decode cX12_addsBy 57 = .ok (.iload 6, 2) := by decide +kernel
theorem dX12_addsBy_59 : decode cX12_addsBy 59 = .ok (.ifCond .ne 95, 3) := by decide +kernel
theorem dX12_addsBy_62 : decode cX12_addsBy 62 = .ok (.aload_n 0, 1) := by decide +kernel
theorem dX12_addsBy_63 : decode cX12_addsBy 63 = .ok (.getfield 20, 3) := by decide +kernel
theorem dX12_addsBy_66 : decode cX12_addsBy 66 = .ok (.sipush 540, 3) := by decide +kernel
theorem dX12_addsBy_69 : decode cX12_addsBy 69 = .ok (.bipush 12, 2) := by decide +kernel
theorem dX12_addsBy_71 : decode cX12_addsBy 71 = .ok (.iload_n 1, 1) := by decide +kernel
theorem dX12_addsBy_72 : decode cX12_addsBy 72 = .ok (.imul, 1) := by decide +kernel
theorem dX12_addsBy_73 : decode cX12_addsBy 73 = .ok (.iadd, 1) := by decide +kernel
theorem dX12_addsBy_74 : decode cX12_addsBy 74 = .ok (.iload 7, 2) := by decide +kernel
theorem dX12_addsBy_76 : decode cX12_addsBy 76 = .ok (.iadd, 1) := by decide +kernel
theorem dX12_addsBy_77 : decode cX12_addsBy 77 = .ok (.laload, 1) := by decide +kernel
theorem dX12_addsBy_78 : decode cX12_addsBy 78 = .ok (.lstore 8, 2) := by decide +kernel
theorem dX12_addsBy_80 : decode cX12_addsBy 80 = .ok (.aload_n 0, 1) := by decide +kernel
theorem dX12_addsBy_81 : decode cX12_addsBy 81 = .ok (.aload_n 0, 1) := by decide +kernel
theorem dX12_addsBy_82 : decode cX12_addsBy 82 = .ok (.getfield 20, 3) := by decide +kernel
theorem dX12_addsBy_85 : decode cX12_addsBy 85 = .ok (.sipush 480, 3) := by decide +kernel
theorem dX12_addsBy_88 : decode cX12_addsBy 88 = .ok (.iload 5, 2) := by decide +kernel
theorem dX12_addsBy_90 : decode cX12_addsBy 90 = .ok (.iadd, 1) := by decide +kernel
theorem dX12_addsBy_91 : decode cX12_addsBy 91 = .ok (.laload, 1) := by decide +kernel
theorem dX12_addsBy_92 : decode cX12_addsBy 92 = .ok (.lload 8, 2) := by decide +kernel
theorem dX12_addsBy_94 : decode cX12_addsBy 94 = .ok (.invokevirtual 111, 3) := by decide +kernel
theorem dX12_addsBy_97 : decode cX12_addsBy 97 = .ok (.aload_n 0, 1) := by decide +kernel
theorem dX12_addsBy_98 : decode cX12_addsBy 98 = .ok (.getfield 17, 3) := by decide +kernel
theorem dX12_addsBy_101 : decode cX12_addsBy 101 = .ok (.sipush 248, 3) := by decide +kernel
theorem dX12_addsBy_104 : decode cX12_addsBy 104 = .ok (.iaload, 1) := by decide +kernel
theorem dX12_addsBy_105 : decode cX12_addsBy 105 = .ok (.if_icmp .ge 36, 3) := by decide +kernel
theorem dX12_addsBy_108 : decode cX12_addsBy 108 = .ok (.aload_n 0, 1) := by decide +kernel
theorem dX12_addsBy_109 : decode cX12_addsBy 109 = .ok (.aload_n 0, 1) := by decide +kernel
theorem dX12_addsBy_110 : decode cX12_addsBy 110 = .ok (.getfield 20, 3) := by decide +kernel
theorem dX12_addsBy_113 : decode cX12_addsBy 113 = .ok (.sipush 480, 3) := by decide +kernel
theorem dX12_addsBy_116 : decode cX12_addsBy 116 = .ok (.iload 5, 2) := by decide +kernel
theorem dX12_addsBy_118 : decode cX12_addsBy 118 = .ok (.iadd, 1) := by decide +kernel
theorem dX12_addsBy_119 : decode cX12_addsBy 119 = .ok (.laload, 1) := by decide +kernel
theorem dX12_addsBy_120 : decode cX12_addsBy 120 = .ok (.aload_n 0, 1) := by decide +kernel
theorem dX12_addsBy_121 : decode cX12_addsBy 121 = .ok (.lload 8, 2) := by decide +kernel
theorem dX12_addsBy_123 : decode cX12_addsBy 123 = .ok (.iload_n 2, 1) := by decide +kernel
theorem dX12_addsBy_124 : decode cX12_addsBy 124 = .ok (.invokevirtual 236, 3) := by decide +kernel
theorem dX12_addsBy_127 : decode cX12_addsBy 127 = .ok (.invokevirtual 111, 3) := by decide +kernel
theorem dX12_addsBy_130 : decode cX12_addsBy 130 = .ok (.aload_n 0, 1) := by decide +kernel
theorem dX12_addsBy_131 : decode cX12_addsBy 131 = .ok (.getfield 17, 3) := by decide +kernel
theorem dX12_addsBy_134 : decode cX12_addsBy 134 = .ok (.sipush 248, 3) := by decide +kernel
theorem dX12_addsBy_137 : decode cX12_addsBy 137 = .ok (.iaload, 1) := by decide +kernel
theorem dX12_addsBy_138 : decode cX12_addsBy 138 = .ok (.if_icmp .lt 7, 3) := by decide +kernel
theorem dX12_addsBy_141 : decode cX12_addsBy 141 = .ok (.iconst 1, 1) := by decide +kernel
theorem dX12_addsBy_142 : decode cX12_addsBy 142 = .ok (.goto 4, 3) := by decide +kernel
theorem dX12_addsBy_145 : decode cX12_addsBy 145 = .ok (.iconst 0, 1) := by decide +kernel
theorem dX12_addsBy_146 : decode cX12_addsBy 146 = .ok (.istore 6, 2) := by decide +kernel
theorem dX12_addsBy_148 : decode cX12_addsBy 148 = .ok (.iinc 7 1, 3) := by decide +kernel
theorem dX12_addsBy_151 : decode cX12_addsBy 151 = .ok (.goto (-109), 3) := by decide +kernel
theorem dX12_addsBy_154 : decode cX12_addsBy 154 = .ok (.iload 6, 2) := by decide +kernel
theorem dX12_addsBy_156 : decode cX12_addsBy 156 = .ok (.ifCond .ne 6, 3) := by decide +kernel
theorem dX12_addsBy_159 : decode cX12_addsBy 159 = .ok (.goto 15, 3) := by decide +kernel
theorem dX12_addsBy_162 : decode cX12_addsBy 162 = .ok (.iload 4, 2) := by decide +kernel
theorem dX12_addsBy_164 : decode cX12_addsBy 164 = .ok (.iload_n 3, 1) := by decide +kernel
theorem dX12_addsBy_165 : decode cX12_addsBy 165 = .ok (.if_icmp .ne 6, 3) := by decide +kernel
theorem dX12_addsBy_168 : decode cX12_addsBy 168 = .ok (.iload 5, 2) := by decide +kernel
theorem dX12_addsBy_170 : decode cX12_addsBy 170 = .ok (.ireturn, 1) := by decide +kernel
theorem dX12_addsBy_171 : decode cX12_addsBy 171 = .ok (.iinc 4 1, 3) := by decide +kernel
theorem dX12_addsBy_174 : decode cX12_addsBy 174 = .ok (.iinc 5 1, 3) := by decide +kernel
theorem dX12_addsBy_177 : decode cX12_addsBy 177 = .ok (.goto (-167), 3) := by decide +kernel
theorem dX12_addsBy_180 : decode cX12_addsBy 180 = .ok (.iload_n 3, 1) := by decide +kernel
theorem dX12_addsBy_181 : decode cX12_addsBy 181 = .ok (.iconst (-1), 1) := by decide +kernel
theorem dX12_addsBy_182 : decode cX12_addsBy 182 = .ok (.if_icmp .ne 8, 3) := by decide +kernel
theorem dX12_addsBy_185 : decode cX12_addsBy 185 = .ok (.iload 4, 2) := by decide +kernel
theorem dX12_addsBy_187 : decode cX12_addsBy 187 = .ok (.goto 4, 3) := by decide +kernel
theorem dX12_addsBy_190 : decode cX12_addsBy 190 = .ok (.iconst (-1), 1) := by decide +kernel
theorem dX12_addsBy_191 : decode cX12_addsBy 191 = .ok (.ireturn, 1) := by decide +kernel
theorem dX12_adds_0 : decode cX12_adds 0 = .ok (.aload_n 0, 1) := by decide +kernel
theorem dX12_adds_1 : decode cX12_adds 1 = .ok (.iconst 0, 1) := by decide +kernel
theorem dX12_adds_2 : decode cX12_adds 2 = .ok (.putfield 1, 3) := by decide +kernel
theorem dX12_adds_5 : decode cX12_adds 5 = .ok (.iload_n 1, 1) := by decide +kernel
theorem dX12_adds_6 : decode cX12_adds 6 = .ok (.i2l, 1) := by decide +kernel
theorem dX12_adds_7 : decode cX12_adds 7 = .ok (.lconst 0, 1) := by decide +kernel
theorem dX12_adds_8 : decode cX12_adds 8 = .ok (.aload_n 0, 1) := by decide +kernel
theorem dX12_adds_9 : decode cX12_adds 9 = .ok (.getfield 17, 3) := by decide +kernel
theorem dX12_adds_12 : decode cX12_adds 12 = .ok (.sipush 223, 3) := by decide +kernel
theorem dX12_adds_15 : decode cX12_adds 15 = .ok (.iaload, 1) := by decide +kernel
theorem dX12_adds_16 : decode cX12_adds 16 = .ok (.iconst 1, 1) := by decide +kernel
theorem dX12_adds_17 : decode cX12_adds 17 = .ok (.isub, 1) := by decide +kernel
theorem dX12_adds_18 : decode cX12_adds 18 = .ok (.i2l, 1) := by decide +kernel
theorem dX12_adds_19 : decode cX12_adds 19 = .ok (.invokestatic 81, 3) := by decide +kernel
theorem dX12_adds_22 : decode cX12_adds 22 = .ok (.ifCond .ne 10, 3) := by decide +kernel
theorem dX12_adds_25 : decode cX12_adds 25 = .ok (.aload_n 0, 1) := by decide +kernel
theorem dX12_adds_26 : decode cX12_adds 26 = .ok (.bipush (-2), 2) := by decide +kernel
theorem dX12_adds_28 : decode cX12_adds 28 = .ok (.invokevirtual 85, 3) := by decide +kernel
theorem dX12_adds_31 : decode cX12_adds 31 = .ok (.ireturn, 1) := by decide +kernel
theorem dX12_adds_32 : decode cX12_adds 32 = .ok (.iload_n 2, 1) := by decide +kernel
theorem dX12_adds_33 : decode cX12_adds 33 = .ok (.i2l, 1) := by decide +kernel
theorem dX12_adds_34 : decode cX12_adds 34 = .ok (.lconst 0, 1) := by decide +kernel
theorem dX12_adds_35 : decode cX12_adds 35 = .ok (.ldc2_w 89, 3) := by decide +kernel
theorem dX12_adds_38 : decode cX12_adds 38 = .ok (.invokestatic 81, 3) := by decide +kernel
theorem dX12_adds_41 : decode cX12_adds 41 = .ok (.ifCond .ne 10, 3) := by decide +kernel
theorem dX12_adds_44 : decode cX12_adds 44 = .ok (.aload_n 0, 1) := by decide +kernel
theorem dX12_adds_45 : decode cX12_adds 45 = .ok (.bipush (-3), 2) := by decide +kernel
theorem dX12_adds_47 : decode cX12_adds 47 = .ok (.invokevirtual 85, 3) := by decide +kernel
theorem dX12_adds_50 : decode cX12_adds 50 = .ok (.ireturn, 1) := by decide +kernel
theorem dX12_adds_51 : decode cX12_adds 51 = .ok (.aload_n 0, 1) := by decide +kernel
theorem dX12_adds_52 : decode cX12_adds 52 = .ok (.iload_n 1, 1) := by decide +kernel
theorem dX12_adds_53 : decode cX12_adds 53 = .ok (.iload_n 2, 1) := by decide +kernel
theorem dX12_adds_54 : decode cX12_adds 54 = .ok (.iconst (-1), 1) := by decide +kernel
theorem dX12_adds_55 : decode cX12_adds 55 = .ok (.invokevirtual 308, 3) := by decide +kernel
theorem dX12_adds_58 : decode cX12_adds 58 = .ok (.ireturn, 1) := by decide +kernel
theorem dX12_added_0 : decode cX12_added 0 = .ok (.aload_n 0, 1) := by decide +kernel
theorem dX12_added_1 : decode cX12_added 1 = .ok (.iconst 0, 1) := by decide +kernel
theorem dX12_added_2 : decode cX12_added 2 = .ok (.putfield 1, 3) := by decide +kernel
theorem dX12_added_5 : decode cX12_added 5 = .ok (.iload_n 1, 1) := by decide +kernel
theorem dX12_added_6 : decode cX12_added 6 = .ok (.i2l, 1) := by decide +kernel
theorem dX12_added_7 : decode cX12_added 7 = .ok (.lconst 0, 1) := by decide +kernel
theorem dX12_added_8 : decode cX12_added 8 = .ok (.aload_n 0, 1) := by decide +kernel
theorem dX12_added_9 : decode cX12_added 9 = .ok (.getfield 17, 3) := by decide +kernel
theorem dX12_added_12 : decode cX12_added 12 = .ok (.sipush 223, 3) := by decide +kernel
theorem dX12_added_15 : decode cX12_added 15 = .ok (.iaload, 1) := by decide +kernel
theorem dX12_added_16 : decode cX12_added 16 = .ok (.iconst 1, 1) := by decide +kernel
theorem dX12_added_17 : decode cX12_added 17 = .ok (.isub, 1) := by decide +kernel
theorem dX12_added_18 : decode cX12_added 18 = .ok (.i2l, 1) := by decide +kernel
theorem dX12_added_19 : decode cX12_added 19 = .ok (.invokestatic 81, 3) := by decide +kernel
theorem dX12_added_22 : decode cX12_added 22 = .ok (.ifCond .ne 10, 3) := by decide +kernel
theorem dX12_added_25 : decode cX12_added 25 = .ok (.aload_n 0, 1) := by decide +kernel
theorem dX12_added_26 : decode cX12_added 26 = .ok (.bipush (-2), 2) := by decide +kernel
theorem dX12_added_28 : decode cX12_added 28 = .ok (.invokevirtual 85, 3) := by decide +kernel
theorem dX12_added_31 : decode cX12_added 31 = .ok (.ireturn, 1) := by decide +kernel
theorem dX12_added_32 : decode cX12_added 32 = .ok (.iload_n 2, 1) := by decide +kernel
theorem dX12_added_33 : decode cX12_added 33 = .ok (.i2l, 1) := by decide +kernel
theorem dX12_added_34 : decode cX12_added 34 = .ok (.lconst 0, 1) := by decide +kernel
theorem dX12_added_35 : decode cX12_added 35 = .ok (.ldc2_w 89, 3) := by decide +kernel
theorem dX12_added_38 : decode cX12_added 38 = .ok (.invokestatic 81, 3) := by decide +kernel
theorem dX12_added_41 : decode cX12_added 41 = .ok (.ifCond .ne 10, 3) := by decide +kernel
theorem dX12_added_44 : decode cX12_added 44 = .ok (.aload_n 0, 1) := by decide +kernel
theorem dX12_added_45 : decode cX12_added 45 = .ok (.bipush (-3), 2) := by decide +kernel
theorem dX12_added_47 : decode cX12_added 47 = .ok (.invokevirtual 85, 3) := by decide +kernel
theorem dX12_added_50 : decode cX12_added 50 = .ok (.ireturn, 1) := by decide +kernel
theorem dX12_added_51 : decode cX12_added 51 = .ok (.iload_n 3, 1) := by decide +kernel
theorem dX12_added_52 : decode cX12_added 52 = .ok (.ifCond .ge 7, 3) := by decide +kernel
theorem dX12_added_55 : decode cX12_added 55 = .ok (.iconst (-1), 1) := by decide +kernel
theorem dX12_added_56 : decode cX12_added 56 = .ok (.goto 10, 3) := by decide +kernel
theorem dX12_added_59 : decode cX12_added 59 = .ok (.aload_n 0, 1) := by decide +kernel
theorem dX12_added_60 : decode cX12_added 60 = .ok (.iload_n 1, 1) := by decide +kernel
theorem dX12_added_61 : decode cX12_added 61 = .ok (.iload_n 2, 1) := by decide +kernel
theorem dX12_added_62 : decode cX12_added 62 = .ok (.iload_n 3, 1) := by decide +kernel
theorem dX12_added_63 : decode cX12_added 63 = .ok (.invokevirtual 308, 3) := by decide +kernel
theorem dX12_added_66 : decode cX12_added 66 = .ok (.ireturn, 1) := by decide +kernel
theorem dX12_year_0 : decode cX12_year 0 = .ok (.aload_n 0, 1) := by decide +kernel
theorem dX12_year_1 : decode cX12_year 1 = .ok (.iconst 0, 1) := by decide +kernel
theorem dX12_year_2 : decode cX12_year 2 = .ok (.putfield 1, 3) := by decide +kernel
theorem dX12_year_5 : decode cX12_year 5 = .ok (.iload_n 1, 1) := by decide +kernel
theorem dX12_year_6 : decode cX12_year 6 = .ok (.i2l, 1) := by decide +kernel
theorem dX12_year_7 : decode cX12_year 7 = .ok (.lconst 1, 1) := by decide +kernel
theorem dX12_year_8 : decode cX12_year 8 = .ok (.ldc2_w 311, 3) := by decide +kernel
theorem dX12_year_11 : decode cX12_year 11 = .ok (.invokestatic 81, 3) := by decide +kernel
theorem dX12_year_14 : decode cX12_year 14 = .ok (.ifCond .ne 10, 3) := by decide +kernel
theorem dX12_year_17 : decode cX12_year 17 = .ok (.aload_n 0, 1) := by decide +kernel
theorem dX12_year_18 : decode cX12_year 18 = .ok (.bipush (-2), 2) := by decide +kernel
theorem dX12_year_20 : decode cX12_year 20 = .ok (.invokevirtual 85, 3) := by decide +kernel
theorem dX12_year_23 : decode cX12_year 23 = .ok (.ireturn, 1) := by decide +kernel
theorem dX12_year_24 : decode cX12_year 24 = .ok (.iload_n 2, 1) := by decide +kernel
theorem dX12_year_25 : decode cX12_year 25 = .ok (.i2l, 1) := by decide +kernel
theorem dX12_year_26 : decode cX12_year 26 = .ok (.lconst 0, 1) := by decide +kernel
theorem dX12_year_27 : decode cX12_year 27 = .ok (.ldc2_w 93, 3) := by decide +kernel
theorem dX12_year_30 : decode cX12_year 30 = .ok (.invokestatic 81, 3) := by decide +kernel
theorem dX12_year_33 : decode cX12_year 33 = .ok (.ifCond .ne 10, 3) := by decide +kernel
theorem dX12_year_36 : decode cX12_year 36 = .ok (.aload_n 0, 1) := by decide +kernel
theorem dX12_year_37 : decode cX12_year 37 = .ok (.bipush (-3), 2) := by decide +kernel
theorem dX12_year_39 : decode cX12_year 39 = .ok (.invokevirtual 85, 3) := by decide +kernel
theorem dX12_year_42 : decode cX12_year 42 = .ok (.ireturn, 1) := by decide +kernel
theorem dX12_year_43 : decode cX12_year 43 = .ok (.aload_n 0, 1) := by decide +kernel
theorem dX12_year_44 : decode cX12_year 44 = .ok (.getfield 17, 3) := by decide +kernel
theorem dX12_year_47 : decode cX12_year 47 = .ok (.sipush 250, 3) := by decide +kernel
theorem dX12_year_50 : decode cX12_year 50 = .ok (.iload_n 1, 1) := by decide +kernel
theorem dX12_year_51 : decode cX12_year 51 = .ok (.iadd, 1) := by decide +kernel
theorem dX12_year_52 : decode cX12_year 52 = .ok (.iaload, 1) := by decide +kernel
theorem dX12_year_53 : decode cX12_year 53 = .ok (.istore_n 3, 1) := by decide +kernel
theorem dX12_year_54 : decode cX12_year 54 = .ok (.aload_n 0, 1) := by decide +kernel
theorem dX12_year_55 : decode cX12_year 55 = .ok (.getfield 17, 3) := by decide +kernel
theorem dX12_year_58 : decode cX12_year 58 = .ok (.sipush 250, 3) := by decide +kernel
theorem dX12_year_61 : decode cX12_year 61 = .ok (.iload_n 1, 1) := by decide +kernel
theorem dX12_year_62 : decode cX12_year 62 = .ok (.iadd, 1) := by decide +kernel
theorem dX12_year_63 : decode cX12_year 63 = .ok (.iload_n 2, 1) := by decide +kernel
theorem dX12_year_64 : decode cX12_year 64 = .ok (.iastore, 1) := by decide +kernel
theorem dX12_year_65 : decode cX12_year 65 = .ok (.iload_n 3, 1) := by decide +kernel
theorem dX12_year_66 : decode cX12_year 66 = .ok (.ireturn, 1) := by decide +kernel
theorem dX12_version_0 : decode cX12_version 0 = .ok (.aload_n 0, 1) := by decide +kernel
theorem dX12_version_1 : decode cX12_version 1 = .ok (.iconst 0, 1) := by decide +kernel
theorem dX12_version_2 : decode cX12_version 2 = .ok (.putfield 1, 3) := by decide +kernel
theorem dX12_version_5 : decode cX12_version 5 = .ok (.lload_n 1, 1) := by decide +kernel
theorem dX12_version_6 : decode cX12_version 6 = .ok (.invokestatic 77, 3) := by decide +kernel
theorem dX12_version_9 : decode cX12_version 9 = .ok (.ifCond .eq 36, 3) := by decide +kernel
theorem dX12_version_12 : decode cX12_version 12 = .ok (.lload_n 3, 1) := by decide +kernel
theorem dX12_version_13 : decode cX12_version 13 = .ok (.invokestatic 77, 3) := by decide +kernel
theorem dX12_version_16 : decode cX12_version 16 = .ok (.ifCond .eq 29, 3) := by decide +kernel
theorem dX12_version_19 : decode cX12_version 19 = .ok (.iload 5, 2) := by decide +kernel
theorem dX12_version_21 : decode cX12_version 21 = .ok (.i2l, 1) := by decide +kernel
theorem dX12_version_22 : decode cX12_version 22 = .ok (.lconst 0, 1) := by decide +kernel
theorem dX12_version_23 : decode cX12_version 23 = .ok (.ldc2_w 93, 3) := by decide +kernel
theorem dX12_version_26 : decode cX12_version 26 = .ok (.invokestatic 81, 3) := by decide +kernel
theorem dX12_version_29 : decode cX12_version 29 = .ok (.ifCond .eq 16, 3) := by decide +kernel
theorem dX12_version_32 : decode cX12_version 32 = .ok (.iload 6, 2) := by decide +kernel
theorem dX12_version_34 : decode cX12_version 34 = .ok (.i2l, 1) := by decide +kernel
theorem dX12_version_35 : decode cX12_version 35 = .ok (.lconst 0, 1) := by decide +kernel
theorem dX12_version_36 : decode cX12_version 36 = .ok (.ldc2_w 89, 3) := by decide +kernel
theorem dX12_version_39 : decode cX12_version 39 = .ok (.invokestatic 81, 3) := by decide +kernel
theorem dX12_version_42 : decode cX12_version 42 = .ok (.ifCond .ne 10, 3) := by decide +kernel
theorem dX12_version_45 : decode cX12_version 45 = .ok (.aload_n 0, 1) := by decide +kernel
theorem dX12_version_46 : decode cX12_version 46 = .ok (.bipush (-3), 2) := by decide +kernel
theorem dX12_version_48 : decode cX12_version 48 = .ok (.invokevirtual 85, 3) := by decide +kernel
theorem dX12_version_51 : decode cX12_version 51 = .ok (.ireturn, 1) := by decide +kernel
theorem dX12_version_52 : decode cX12_version 52 = .ok (.aload_n 0, 1) := by decide +kernel
theorem dX12_version_53 : decode cX12_version 53 = .ok (.getfield 17, 3) := by decide +kernel
theorem dX12_version_56 : decode cX12_version 56 = .ok (.sipush 506, 3) := by decide +kernel
theorem dX12_version_59 : decode cX12_version 59 = .ok (.iaload, 1) := by decide +kernel
theorem dX12_version_60 : decode cX12_version 60 = .ok (.istore 7, 2) := by decide +kernel
theorem dX12_version_62 : decode cX12_version 62 = .ok (.iload 7, 2) := by decide +kernel
theorem dX12_version_64 : decode cX12_version 64 = .ok (.bipush 20, 2) := by decide +kernel
theorem dX12_version_66 : decode cX12_version 66 = .ok (.if_icmp .ne 10, 3) := by decide +kernel
theorem dX12_version_69 : decode cX12_version 69 = .ok (.aload_n 0, 1) := by decide +kernel
theorem dX12_version_70 : decode cX12_version 70 = .ok (.bipush (-4), 2) := by decide +kernel
theorem dX12_version_72 : decode cX12_version 72 = .ok (.invokevirtual 85, 3) := by decide +kernel
theorem dX12_version_75 : decode cX12_version 75 = .ok (.ireturn, 1) := by decide +kernel
theorem dX12_version_76 : decode cX12_version 76 = .ok (.aload_n 0, 1) := by decide +kernel
theorem dX12_version_77 : decode cX12_version 77 = .ok (.getfield 20, 3) := by decide +kernel
theorem dX12_version_80 : decode cX12_version 80 = .ok (.sipush 684, 3) := by decide +kernel
theorem dX12_version_83 : decode cX12_version 83 = .ok (.iload 7, 2) := by decide +kernel
theorem dX12_version_85 : decode cX12_version 85 = .ok (.iadd, 1) := by decide +kernel
theorem dX12_version_86 : decode cX12_version 86 = .ok (.lload_n 1, 1) := by decide +kernel
theorem dX12_version_87 : decode cX12_version 87 = .ok (.invokestatic 101, 3) := by decide +kernel
theorem dX12_version_90 : decode cX12_version 90 = .ok (.lastore, 1) := by decide +kernel
theorem dX12_version_91 : decode cX12_version 91 = .ok (.aload_n 0, 1) := by decide +kernel
theorem dX12_version_92 : decode cX12_version 92 = .ok (.getfield 20, 3) := by decide +kernel
theorem dX12_version_95 : decode cX12_version 95 = .ok (.sipush 704, 3) := by decide +kernel
theorem dX12_version_98 : decode cX12_version 98 = .ok (.iload 7, 2) := by decide +kernel
theorem dX12_version_100 : decode cX12_version 100 = .ok (.iadd, 1) := by decide +kernel
theorem dX12_version_101 : decode cX12_version 101 = .ok (.lload_n 3, 1) := by decide +kernel
theorem dX12_version_102 : decode cX12_version 102 = .ok (.invokestatic 101, 3) := by decide +kernel
theorem dX12_version_105 : decode cX12_version 105 = .ok (.lastore, 1) := by decide +kernel
theorem dX12_version_106 : decode cX12_version 106 = .ok (.aload_n 0, 1) := by decide +kernel
theorem dX12_version_107 : decode cX12_version 107 = .ok (.getfield 17, 3) := by decide +kernel
theorem dX12_version_110 : decode cX12_version 110 = .ok (.sipush 507, 3) := by decide +kernel
theorem dX12_version_113 : decode cX12_version 113 = .ok (.iload 7, 2) := by decide +kernel
theorem dX12_version_115 : decode cX12_version 115 = .ok (.iadd, 1) := by decide +kernel
theorem dX12_version_116 : decode cX12_version 116 = .ok (.iload 5, 2) := by decide +kernel
theorem dX12_version_118 : decode cX12_version 118 = .ok (.iastore, 1) := by decide +kernel
theorem dX12_version_119 : decode cX12_version 119 = .ok (.aload_n 0, 1) := by decide +kernel
theorem dX12_version_120 : decode cX12_version 120 = .ok (.getfield 17, 3) := by decide +kernel
theorem dX12_version_123 : decode cX12_version 123 = .ok (.sipush 527, 3) := by decide +kernel
theorem dX12_version_126 : decode cX12_version 126 = .ok (.iload 7, 2) := by decide +kernel
theorem dX12_version_128 : decode cX12_version 128 = .ok (.iadd, 1) := by decide +kernel
theorem dX12_version_129 : decode cX12_version 129 = .ok (.iload 6, 2) := by decide +kernel
theorem dX12_version_131 : decode cX12_version 131 = .ok (.iastore, 1) := by decide +kernel
theorem dX12_version_132 : decode cX12_version 132 = .ok (.aload_n 0, 1) := by decide +kernel
theorem dX12_version_133 : decode cX12_version 133 = .ok (.getfield 17, 3) := by decide +kernel
theorem dX12_version_136 : decode cX12_version 136 = .ok (.sipush 506, 3) := by decide +kernel
theorem dX12_version_139 : decode cX12_version 139 = .ok (.dup2, 1) := by decide +kernel
theorem dX12_version_140 : decode cX12_version 140 = .ok (.iaload, 1) := by decide +kernel
theorem dX12_version_141 : decode cX12_version 141 = .ok (.iconst 1, 1) := by decide +kernel
theorem dX12_version_142 : decode cX12_version 142 = .ok (.iadd, 1) := by decide +kernel
theorem dX12_version_143 : decode cX12_version 143 = .ok (.iastore, 1) := by decide +kernel
theorem dX12_version_144 : decode cX12_version 144 = .ok (.iload 7, 2) := by decide +kernel
theorem dX12_version_146 : decode cX12_version 146 = .ok (.ireturn, 1) := by decide +kernel
theorem dX12_which_0 : decode cX12_which 0 = .ok (.aload_n 0, 1) := by decide +kernel
theorem dX12_which_1 : decode cX12_which 1 = .ok (.iconst 0, 1) := by decide +kernel
theorem dX12_which_2 : decode cX12_which 2 = .ok (.putfield 1, 3) := by decide +kernel
theorem dX12_which_5 : decode cX12_which 5 = .ok (.iload_n 1, 1) := by decide +kernel
theorem dX12_which_6 : decode cX12_which 6 = .ok (.i2l, 1) := by decide +kernel
theorem dX12_which_7 : decode cX12_which 7 = .ok (.lconst 0, 1) := by decide +kernel
theorem dX12_which_8 : decode cX12_which 8 = .ok (.aload_n 0, 1) := by decide +kernel
theorem dX12_which_9 : decode cX12_which 9 = .ok (.getfield 17, 3) := by decide +kernel
theorem dX12_which_12 : decode cX12_which 12 = .ok (.sipush 506, 3) := by decide +kernel
theorem dX12_which_15 : decode cX12_which 15 = .ok (.iaload, 1) := by decide +kernel
theorem dX12_which_16 : decode cX12_which 16 = .ok (.iconst 1, 1) := by decide +kernel
theorem dX12_which_17 : decode cX12_which 17 = .ok (.isub, 1) := by decide +kernel
theorem dX12_which_18 : decode cX12_which 18 = .ok (.i2l, 1) := by decide +kernel
theorem dX12_which_19 : decode cX12_which 19 = .ok (.invokestatic 81, 3) := by decide +kernel
theorem dX12_which_22 : decode cX12_which 22 = .ok (.ifCond .ne 10, 3) := by decide +kernel
theorem dX12_which_25 : decode cX12_which 25 = .ok (.aload_n 0, 1) := by decide +kernel
theorem dX12_which_26 : decode cX12_which 26 = .ok (.bipush (-2), 2) := by decide +kernel
theorem dX12_which_28 : decode cX12_which 28 = .ok (.invokevirtual 85, 3) := by decide +kernel
theorem dX12_which_31 : decode cX12_which 31 = .ok (.ireturn, 1) := by decide +kernel
theorem dX12_which_32 : decode cX12_which 32 = .ok (.aload_n 0, 1) := by decide +kernel
theorem dX12_which_33 : decode cX12_which 33 = .ok (.getfield 20, 3) := by decide +kernel
theorem dX12_which_36 : decode cX12_which 36 = .ok (.sipush 684, 3) := by decide +kernel
theorem dX12_which_39 : decode cX12_which 39 = .ok (.iload_n 1, 1) := by decide +kernel
theorem dX12_which_40 : decode cX12_which 40 = .ok (.iadd, 1) := by decide +kernel
theorem dX12_which_41 : decode cX12_which 41 = .ok (.laload, 1) := by decide +kernel
theorem dX12_which_42 : decode cX12_which 42 = .ok (.lstore_n 2, 1) := by decide +kernel
theorem dX12_which_43 : decode cX12_which 43 = .ok (.aload_n 0, 1) := by decide +kernel
theorem dX12_which_44 : decode cX12_which 44 = .ok (.getfield 20, 3) := by decide +kernel
theorem dX12_which_47 : decode cX12_which 47 = .ok (.sipush 704, 3) := by decide +kernel
theorem dX12_which_50 : decode cX12_which 50 = .ok (.iload_n 1, 1) := by decide +kernel
theorem dX12_which_51 : decode cX12_which 51 = .ok (.iadd, 1) := by decide +kernel
theorem dX12_which_52 : decode cX12_which 52 = .ok (.laload, 1) := by decide +kernel
theorem dX12_which_53 : decode cX12_which 53 = .ok (.lstore 4, 2) := by decide +kernel
theorem dX12_which_55 : decode cX12_which 55 = .ok (.iconst 0, 1) := by decide +kernel
theorem dX12_which_56 : decode cX12_which 56 = .ok (.istore 6, 2) := by decide +kernel
theorem dX12_which_58 : decode cX12_which 58 = .ok (.iload 6, 2) := by decide +kernel
theorem dX12_which_60 : decode cX12_which 60 = .ok (.lload_n 2, 1) := by decide +kernel
theorem dX12_which_61 : decode cX12_which 61 = .ok (.invokestatic 77, 3) := by decide +kernel
theorem dX12_which_64 : decode cX12_which 64 = .ok (.if_icmp .ge 39, 3) := by decide +kernel
theorem dX12_which_67 : decode cX12_which 67 = .ok (.aload_n 0, 1) := by decide +kernel
theorem dX12_which_68 : decode cX12_which 68 = .ok (.getfield 17, 3) := by decide +kernel
theorem dX12_which_71 : decode cX12_which 71 = .ok (.sipush 250, 3) := by decide +kernel
theorem dX12_which_74 : decode cX12_which 74 = .ok (.lload_n 2, 1) := by decide +kernel
theorem dX12_which_75 : decode cX12_which 75 = .ok (.iload 6, 2) := by decide +kernel
theorem dX12_which_77 : decode cX12_which 77 = .ok (.invokestatic 73, 3) := by decide +kernel
theorem dX12_which_80 : decode cX12_which 80 = .ok (.iadd, 1) := by decide +kernel
theorem dX12_which_81 : decode cX12_which 81 = .ok (.iaload, 1) := by decide +kernel
theorem dX12_which_82 : decode cX12_which 82 = .ok (.aload_n 0, 1) := by decide +kernel
theorem dX12_which_83 : decode cX12_which 83 = .ok (.getfield 17, 3) := by decide +kernel
theorem dX12_which_86 : decode cX12_which 86 = .ok (.sipush 507, 3) := by decide +kernel
theorem dX12_which_89 : decode cX12_which 89 = .ok (.iload_n 1, 1) := by decide +kernel
theorem dX12_which_90 : decode cX12_which 90 = .ok (.iadd, 1) := by decide +kernel
theorem dX12_which_91 : decode cX12_which 91 = .ok (.iaload, 1) := by decide +kernel
theorem dX12_which_92 : decode cX12_which 92 = .ok (.if_icmp .le 5, 3) := by decide +kernel
theorem dX12_which_95 : decode cX12_which 95 = .ok (.iconst 1, 1) := by decide +kernel
theorem dX12_which_96 : decode cX12_which 96 = .ok (.ireturn, 1) := by decide +kernel
theorem dX12_which_97 : decode cX12_which 97 = .ok (.iinc 6 1, 3) := by decide +kernel
theorem dX12_which_100 : decode cX12_which 100 = .ok (.goto (-42), 3) := by decide +kernel
theorem dX12_which_103 : decode cX12_which 103 = .ok (.aload_n 0, 1) := by decide +kernel
theorem dX12_which_104 : decode cX12_which 104 = .ok (.lload_n 2, 1) := by decide +kernel
theorem dX12_which_105 : decode cX12_which 105 = .ok (.aload_n 0, 1) := by decide +kernel
theorem dX12_which_106 : decode cX12_which 106 = .ok (.getfield 17, 3) := by decide +kernel
theorem dX12_which_109 : decode cX12_which 109 = .ok (.sipush 527, 3) := by decide +kernel
theorem dX12_which_112 : decode cX12_which 112 = .ok (.iload_n 1, 1) := by decide +kernel
theorem dX12_which_113 : decode cX12_which 113 = .ok (.iadd, 1) := by decide +kernel
theorem dX12_which_114 : decode cX12_which 114 = .ok (.iaload, 1) := by decide +kernel
theorem dX12_which_115 : decode cX12_which 115 = .ok (.invokevirtual 236, 3) := by decide +kernel
theorem dX12_which_118 : decode cX12_which 118 = .ok (.lload 4, 2) := by decide +kernel
theorem dX12_which_120 : decode cX12_which 120 = .ok (.lcmp, 1) := by decide +kernel
theorem dX12_which_121 : decode cX12_which 121 = .ok (.ifCond .ne 5, 3) := by decide +kernel
theorem dX12_which_124 : decode cX12_which 124 = .ok (.iconst 0, 1) := by decide +kernel
theorem dX12_which_125 : decode cX12_which 125 = .ok (.ireturn, 1) := by decide +kernel
theorem dX12_which_126 : decode cX12_which 126 = .ok (.aload_n 0, 1) := by decide +kernel
theorem dX12_which_127 : decode cX12_which 127 = .ok (.lload 4, 2) := by decide +kernel
theorem dX12_which_129 : decode cX12_which 129 = .ok (.aload_n 0, 1) := by decide +kernel
theorem dX12_which_130 : decode cX12_which 130 = .ok (.getfield 17, 3) := by decide +kernel
theorem dX12_which_133 : decode cX12_which 133 = .ok (.sipush 527, 3) := by decide +kernel
theorem dX12_which_136 : decode cX12_which 136 = .ok (.iload_n 1, 1) := by decide +kernel
theorem dX12_which_137 : decode cX12_which 137 = .ok (.iadd, 1) := by decide +kernel
theorem dX12_which_138 : decode cX12_which 138 = .ok (.iaload, 1) := by decide +kernel
theorem dX12_which_139 : decode cX12_which 139 = .ok (.invokevirtual 236, 3) := by decide +kernel
theorem dX12_which_142 : decode cX12_which 142 = .ok (.lload_n 2, 1) := by decide +kernel
theorem dX12_which_143 : decode cX12_which 143 = .ok (.lcmp, 1) := by decide +kernel
theorem dX12_which_144 : decode cX12_which 144 = .ok (.ifCond .ne 7, 3) := by decide +kernel
theorem dX12_which_147 : decode cX12_which 147 = .ok (.iconst 1, 1) := by decide +kernel
theorem dX12_which_148 : decode cX12_which 148 = .ok (.goto 4, 3) := by decide +kernel
theorem dX12_which_151 : decode cX12_which 151 = .ok (.iconst 2, 1) := by decide +kernel
theorem dX12_which_152 : decode cX12_which 152 = .ok (.ireturn, 1) := by decide +kernel
theorem dX12_isAnswer_0 : decode cX12_isAnswer 0 = .ok (.lload_n 0, 1) := by decide +kernel
theorem dX12_isAnswer_1 : decode cX12_isAnswer 1 = .ok (.lconst 0, 1) := by decide +kernel
theorem dX12_isAnswer_2 : decode cX12_isAnswer 2 = .ok (.ldc2_w 91, 3) := by decide +kernel
theorem dX12_isAnswer_5 : decode cX12_isAnswer 5 = .ok (.invokestatic 81, 3) := by decide +kernel
theorem dX12_isAnswer_8 : decode cX12_isAnswer 8 = .ok (.ifCond .eq 54, 3) := by decide +kernel
theorem dX12_isAnswer_11 : decode cX12_isAnswer 11 = .ok (.lload_n 2, 1) := by decide +kernel
theorem dX12_isAnswer_12 : decode cX12_isAnswer 12 = .ok (.lconst 0, 1) := by decide +kernel
theorem dX12_isAnswer_13 : decode cX12_isAnswer 13 = .ok (.ldc2_w 93, 3) := by decide +kernel
theorem dX12_isAnswer_16 : decode cX12_isAnswer 16 = .ok (.invokestatic 81, 3) := by decide +kernel
theorem dX12_isAnswer_19 : decode cX12_isAnswer 19 = .ok (.ifCond .eq 43, 3) := by decide +kernel
theorem dX12_isAnswer_22 : decode cX12_isAnswer 22 = .ok (.lload 4, 2) := by decide +kernel
theorem dX12_isAnswer_24 : decode cX12_isAnswer 24 = .ok (.lconst 0, 1) := by decide +kernel
theorem dX12_isAnswer_25 : decode cX12_isAnswer 25 = .ok (.ldc2_w 89, 3) := by decide +kernel
theorem dX12_isAnswer_28 : decode cX12_isAnswer 28 = .ok (.invokestatic 81, 3) := by decide +kernel
theorem dX12_isAnswer_31 : decode cX12_isAnswer 31 = .ok (.ifCond .eq 31, 3) := by decide +kernel
theorem dX12_isAnswer_34 : decode cX12_isAnswer 34 = .ok (.lload 6, 2) := by decide +kernel
theorem dX12_isAnswer_36 : decode cX12_isAnswer 36 = .ok (.lconst 0, 1) := by decide +kernel
theorem dX12_isAnswer_37 : decode cX12_isAnswer 37 = .ok (.ldc2_w 306, 3) := by decide +kernel
theorem dX12_isAnswer_40 : decode cX12_isAnswer 40 = .ok (.invokestatic 81, 3) := by decide +kernel
theorem dX12_isAnswer_43 : decode cX12_isAnswer 43 = .ok (.ifCond .eq 19, 3) := by decide +kernel
theorem dX12_isAnswer_46 : decode cX12_isAnswer 46 = .ok (.lload 8, 2) := by decide +kernel
theorem dX12_isAnswer_48 : decode cX12_isAnswer 48 = .ok (.lconst 0, 1) := by decide +kernel
theorem dX12_isAnswer_49 : decode cX12_isAnswer 49 = .ok (.ldc2_w 306, 3) := by decide +kernel
theorem dX12_isAnswer_52 : decode cX12_isAnswer 52 = .ok (.invokestatic 81, 3) := by decide +kernel
theorem dX12_isAnswer_55 : decode cX12_isAnswer 55 = .ok (.ifCond .eq 7, 3) := by decide +kernel
theorem dX12_isAnswer_58 : decode cX12_isAnswer 58 = .ok (.iconst 1, 1) := by decide +kernel
theorem dX12_isAnswer_59 : decode cX12_isAnswer 59 = .ok (.goto 4, 3) := by decide +kernel
theorem dX12_isAnswer_62 : decode cX12_isAnswer 62 = .ok (.iconst 0, 1) := by decide +kernel
theorem dX12_isAnswer_63 : decode cX12_isAnswer 63 = .ok (.ireturn, 1) := by decide +kernel
theorem dX12_answers_0 : decode cX12_answers 0 = .ok (.aload_n 0, 1) := by decide +kernel
theorem dX12_answers_1 : decode cX12_answers 1 = .ok (.getfield 17, 3) := by decide +kernel
theorem dX12_answers_4 : decode cX12_answers 4 = .ok (.sipush 547, 3) := by decide +kernel
theorem dX12_answers_7 : decode cX12_answers 7 = .ok (.iaload, 1) := by decide +kernel
theorem dX12_answers_8 : decode cX12_answers 8 = .ok (.istore 8, 2) := by decide +kernel
theorem dX12_answers_10 : decode cX12_answers 10 = .ok (.aload_n 0, 1) := by decide +kernel
theorem dX12_answers_11 : decode cX12_answers 11 = .ok (.getfield 17, 3) := by decide +kernel
theorem dX12_answers_14 : decode cX12_answers 14 = .ok (.sipush 548, 3) := by decide +kernel
theorem dX12_answers_17 : decode cX12_answers 17 = .ok (.iload 8, 2) := by decide +kernel
theorem dX12_answers_19 : decode cX12_answers 19 = .ok (.iadd, 1) := by decide +kernel
theorem dX12_answers_20 : decode cX12_answers 20 = .ok (.iload_n 1, 1) := by decide +kernel
theorem dX12_answers_21 : decode cX12_answers 21 = .ok (.iastore, 1) := by decide +kernel
theorem dX12_answers_22 : decode cX12_answers 22 = .ok (.aload_n 0, 1) := by decide +kernel
theorem dX12_answers_23 : decode cX12_answers 23 = .ok (.getfield 17, 3) := by decide +kernel
theorem dX12_answers_26 : decode cX12_answers 26 = .ok (.sipush 608, 3) := by decide +kernel
theorem dX12_answers_29 : decode cX12_answers 29 = .ok (.iload 8, 2) := by decide +kernel
theorem dX12_answers_31 : decode cX12_answers 31 = .ok (.iadd, 1) := by decide +kernel
theorem dX12_answers_32 : decode cX12_answers 32 = .ok (.iload_n 2, 1) := by decide +kernel
theorem dX12_answers_33 : decode cX12_answers 33 = .ok (.iastore, 1) := by decide +kernel
theorem dX12_answers_34 : decode cX12_answers 34 = .ok (.aload_n 0, 1) := by decide +kernel
theorem dX12_answers_35 : decode cX12_answers 35 = .ok (.getfield 17, 3) := by decide +kernel
theorem dX12_answers_38 : decode cX12_answers 38 = .ok (.sipush 668, 3) := by decide +kernel
theorem dX12_answers_41 : decode cX12_answers 41 = .ok (.iload 8, 2) := by decide +kernel
theorem dX12_answers_43 : decode cX12_answers 43 = .ok (.iadd, 1) := by decide +kernel
theorem dX12_answers_44 : decode cX12_answers 44 = .ok (.iload_n 3, 1) := by decide +kernel
theorem dX12_answers_45 : decode cX12_answers 45 = .ok (.iastore, 1) := by decide +kernel
theorem dX12_answers_46 : decode cX12_answers 46 = .ok (.aload_n 0, 1) := by decide +kernel
theorem dX12_answers_47 : decode cX12_answers 47 = .ok (.getfield 17, 3) := by decide +kernel
theorem dX12_answers_50 : decode cX12_answers 50 = .ok (.sipush 728, 3) := by decide +kernel
theorem dX12_answers_53 : decode cX12_answers 53 = .ok (.iload 8, 2) := by decide +kernel
theorem dX12_answers_55 : decode cX12_answers 55 = .ok (.iadd, 1) := by decide +kernel
theorem dX12_answers_56 : decode cX12_answers 56 = .ok (.iload 4, 2) := by decide +kernel
theorem dX12_answers_58 : decode cX12_answers 58 = .ok (.iastore, 1) := by decide +kernel
theorem dX12_answers_59 : decode cX12_answers 59 = .ok (.aload_n 0, 1) := by decide +kernel
theorem dX12_answers_60 : decode cX12_answers 60 = .ok (.getfield 17, 3) := by decide +kernel
theorem dX12_answers_63 : decode cX12_answers 63 = .ok (.sipush 788, 3) := by decide +kernel
theorem dX12_answers_66 : decode cX12_answers 66 = .ok (.iload 8, 2) := by decide +kernel
theorem dX12_answers_68 : decode cX12_answers 68 = .ok (.iadd, 1) := by decide +kernel
theorem dX12_answers_69 : decode cX12_answers 69 = .ok (.iload 5, 2) := by decide +kernel
theorem dX12_answers_71 : decode cX12_answers 71 = .ok (.iastore, 1) := by decide +kernel
theorem dX12_answers_72 : decode cX12_answers 72 = .ok (.aload_n 0, 1) := by decide +kernel
theorem dX12_answers_73 : decode cX12_answers 73 = .ok (.getfield 20, 3) := by decide +kernel
theorem dX12_answers_76 : decode cX12_answers 76 = .ok (.sipush 724, 3) := by decide +kernel
theorem dX12_answers_79 : decode cX12_answers 79 = .ok (.iload 8, 2) := by decide +kernel
theorem dX12_answers_81 : decode cX12_answers 81 = .ok (.iadd, 1) := by decide +kernel
theorem dX12_answers_82 : decode cX12_answers 82 = .ok (.lload 6, 2) := by decide +kernel
theorem dX12_answers_84 : decode cX12_answers 84 = .ok (.invokestatic 101, 3) := by decide +kernel
theorem dX12_answers_87 : decode cX12_answers 87 = .ok (.lastore, 1) := by decide +kernel
theorem dX12_answers_88 : decode cX12_answers 88 = .ok (.aload_n 0, 1) := by decide +kernel
theorem dX12_answers_89 : decode cX12_answers 89 = .ok (.getfield 17, 3) := by decide +kernel
theorem dX12_answers_92 : decode cX12_answers 92 = .ok (.sipush 547, 3) := by decide +kernel
theorem dX12_answers_95 : decode cX12_answers 95 = .ok (.dup2, 1) := by decide +kernel
theorem dX12_answers_96 : decode cX12_answers 96 = .ok (.iaload, 1) := by decide +kernel
theorem dX12_answers_97 : decode cX12_answers 97 = .ok (.iconst 1, 1) := by decide +kernel
theorem dX12_answers_98 : decode cX12_answers 98 = .ok (.iadd, 1) := by decide +kernel
theorem dX12_answers_99 : decode cX12_answers 99 = .ok (.iastore, 1) := by decide +kernel
theorem dX12_answers_100 : decode cX12_answers 100 = .ok (.return_, 1) := by decide +kernel
theorem dX12_answer_0 : decode cX12_answer 0 = .ok (.aload_n 0, 1) := by decide +kernel
theorem dX12_answer_1 : decode cX12_answer 1 = .ok (.iconst 0, 1) := by decide +kernel
theorem dX12_answer_2 : decode cX12_answer 2 = .ok (.putfield 1, 3) := by decide +kernel
theorem dX12_answer_5 : decode cX12_answer 5 = .ok (.iload_n 1, 1) := by decide +kernel
theorem dX12_answer_6 : decode cX12_answer 6 = .ok (.i2l, 1) := by decide +kernel
theorem dX12_answer_7 : decode cX12_answer 7 = .ok (.iload_n 2, 1) := by decide +kernel
theorem dX12_answer_8 : decode cX12_answer 8 = .ok (.i2l, 1) := by decide +kernel
theorem dX12_answer_9 : decode cX12_answer 9 = .ok (.iload_n 3, 1) := by decide +kernel
theorem dX12_answer_10 : decode cX12_answer 10 = .ok (.i2l, 1) := by decide +kernel
theorem dX12_answer_11 : decode cX12_answer 11 = .ok (.iload 4, 2) := by decide +kernel
theorem dX12_answer_13 : decode cX12_answer 13 = .ok (.i2l, 1) := by decide +kernel
theorem dX12_answer_14 : decode cX12_answer 14 = .ok (.iload 5, 2) := by decide +kernel
theorem dX12_answer_16 : decode cX12_answer 16 = .ok (.i2l, 1) := by decide +kernel
theorem dX12_answer_17 : decode cX12_answer 17 = .ok (.invokestatic 313, 3) := by decide +kernel
theorem dX12_answer_20 : decode cX12_answer 20 = .ok (.ifCond .eq 18, 3) := by decide +kernel
theorem dX12_answer_23 : decode cX12_answer 23 = .ok (.lload 6, 2) := by decide +kernel
theorem dX12_answer_25 : decode cX12_answer 25 = .ok (.lconst 0, 1) := by decide +kernel
theorem dX12_answer_26 : decode cX12_answer 26 = .ok (.lcmp, 1) := by decide +kernel
theorem dX12_answer_27 : decode cX12_answer 27 = .ok (.ifCond .eq 18, 3) := by decide +kernel
theorem dX12_answer_30 : decode cX12_answer 30 = .ok (.lload 6, 2) := by decide +kernel
theorem dX12_answer_32 : decode cX12_answer 32 = .ok (.invokestatic 77, 3) := by decide +kernel
theorem dX12_answer_35 : decode cX12_answer 35 = .ok (.ifCond .ne 10, 3) := by decide +kernel
theorem dX12_answer_38 : decode cX12_answer 38 = .ok (.aload_n 0, 1) := by decide +kernel
theorem dX12_answer_39 : decode cX12_answer 39 = .ok (.bipush (-3), 2) := by decide +kernel
theorem dX12_answer_41 : decode cX12_answer 41 = .ok (.invokevirtual 85, 3) := by decide +kernel
theorem dX12_answer_44 : decode cX12_answer 44 = .ok (.ireturn, 1) := by decide +kernel
theorem dX12_answer_45 : decode cX12_answer 45 = .ok (.aload_n 0, 1) := by decide +kernel
theorem dX12_answer_46 : decode cX12_answer 46 = .ok (.getfield 17, 3) := by decide +kernel
theorem dX12_answer_49 : decode cX12_answer 49 = .ok (.sipush 547, 3) := by decide +kernel
theorem dX12_answer_52 : decode cX12_answer 52 = .ok (.iaload, 1) := by decide +kernel
theorem dX12_answer_53 : decode cX12_answer 53 = .ok (.bipush 60, 2) := by decide +kernel
theorem dX12_answer_55 : decode cX12_answer 55 = .ok (.if_icmp .ne 10, 3) := by decide +kernel
theorem dX12_answer_58 : decode cX12_answer 58 = .ok (.aload_n 0, 1) := by decide +kernel
theorem dX12_answer_59 : decode cX12_answer 59 = .ok (.bipush (-4), 2) := by decide +kernel
theorem dX12_answer_61 : decode cX12_answer 61 = .ok (.invokevirtual 85, 3) := by decide +kernel
theorem dX12_answer_64 : decode cX12_answer 64 = .ok (.ireturn, 1) := by decide +kernel
theorem dX12_answer_65 : decode cX12_answer 65 = .ok (.aload_n 0, 1) := by decide +kernel
theorem dX12_answer_66 : decode cX12_answer 66 = .ok (.iload_n 1, 1) := by decide +kernel
theorem dX12_answer_67 : decode cX12_answer 67 = .ok (.iload_n 2, 1) := by decide +kernel
theorem dX12_answer_68 : decode cX12_answer 68 = .ok (.iload_n 3, 1) := by decide +kernel
theorem dX12_answer_69 : decode cX12_answer 69 = .ok (.iload 4, 2) := by decide +kernel
theorem dX12_answer_71 : decode cX12_answer 71 = .ok (.iload 5, 2) := by decide +kernel
theorem dX12_answer_73 : decode cX12_answer 73 = .ok (.lload 6, 2) := by decide +kernel
theorem dX12_answer_75 : decode cX12_answer 75 = .ok (.invokevirtual 317, 3) := by decide +kernel
theorem dX12_answer_78 : decode cX12_answer 78 = .ok (.aload_n 0, 1) := by decide +kernel
theorem dX12_answer_79 : decode cX12_answer 79 = .ok (.getfield 17, 3) := by decide +kernel
theorem dX12_answer_82 : decode cX12_answer 82 = .ok (.sipush 547, 3) := by decide +kernel
theorem dX12_answer_85 : decode cX12_answer 85 = .ok (.iaload, 1) := by decide +kernel
theorem dX12_answer_86 : decode cX12_answer 86 = .ok (.iconst 1, 1) := by decide +kernel
theorem dX12_answer_87 : decode cX12_answer 87 = .ok (.isub, 1) := by decide +kernel
theorem dX12_answer_88 : decode cX12_answer 88 = .ok (.ireturn, 1) := by decide +kernel
theorem dX12_isThere_0 : decode cX12_isThere 0 = .ok (.iload_n 1, 1) := by decide +kernel
theorem dX12_isThere_1 : decode cX12_isThere 1 = .ok (.ifCond .lt 19, 3) := by decide +kernel
theorem dX12_isThere_4 : decode cX12_isThere 4 = .ok (.iload_n 1, 1) := by decide +kernel
theorem dX12_isThere_5 : decode cX12_isThere 5 = .ok (.aload_n 0, 1) := by decide +kernel
theorem dX12_isThere_6 : decode cX12_isThere 6 = .ok (.getfield 17, 3) := by decide +kernel
theorem dX12_isThere_9 : decode cX12_isThere 9 = .ok (.sipush 547, 3) := by decide +kernel
theorem dX12_isThere_12 : decode cX12_isThere 12 = .ok (.iaload, 1) := by decide +kernel
theorem dX12_isThere_13 : decode cX12_isThere 13 = .ok (.if_icmp .ge 7, 3) := by decide +kernel
theorem dX12_isThere_16 : decode cX12_isThere 16 = .ok (.iconst 1, 1) := by decide +kernel
theorem dX12_isThere_17 : decode cX12_isThere 17 = .ok (.goto 4, 3) := by decide +kernel
theorem dX12_isThere_20 : decode cX12_isThere 20 = .ok (.iconst 0, 1) := by decide +kernel
theorem dX12_isThere_21 : decode cX12_isThere 21 = .ok (.ireturn, 1) := by decide +kernel
theorem dX12_isBehind_0 : decode cX12_isBehind 0 = .ok (.aload_n 0, 1) := by decide +kernel
theorem dX12_isBehind_1 : decode cX12_isBehind 1 = .ok (.getfield 20, 3) := by decide +kernel
theorem dX12_isBehind_4 : decode cX12_isBehind 4 = .ok (.sipush 724, 3) := by decide +kernel
theorem dX12_isBehind_7 : decode cX12_isBehind 7 = .ok (.iload_n 1, 1) := by decide +kernel
theorem dX12_isBehind_8 : decode cX12_isBehind 8 = .ok (.iadd, 1) := by decide +kernel
theorem dX12_isBehind_9 : decode cX12_isBehind 9 = .ok (.laload, 1) := by decide +kernel
theorem dX12_isBehind_10 : decode cX12_isBehind 10 = .ok (.lconst 0, 1) := by decide +kernel
theorem dX12_isBehind_11 : decode cX12_isBehind 11 = .ok (.lcmp, 1) := by decide +kernel
theorem dX12_isBehind_12 : decode cX12_isBehind 12 = .ok (.ifCond .eq 28, 3) := by decide +kernel
theorem dX12_isBehind_15 : decode cX12_isBehind 15 = .ok (.aload_n 0, 1) := by decide +kernel
theorem dX12_isBehind_16 : decode cX12_isBehind 16 = .ok (.getfield 17, 3) := by decide +kernel
theorem dX12_isBehind_19 : decode cX12_isBehind 19 = .ok (.sipush 608, 3) := by decide +kernel
theorem dX12_isBehind_22 : decode cX12_isBehind 22 = .ok (.iload_n 1, 1) := by decide +kernel
theorem dX12_isBehind_23 : decode cX12_isBehind 23 = .ok (.iadd, 1) := by decide +kernel
theorem dX12_isBehind_24 : decode cX12_isBehind 24 = .ok (.iaload, 1) := by decide +kernel
theorem dX12_isBehind_25 : decode cX12_isBehind 25 = .ok (.aload_n 0, 1) := by decide +kernel
theorem dX12_isBehind_26 : decode cX12_isBehind 26 = .ok (.getfield 17, 3) := by decide +kernel
theorem dX12_isBehind_29 : decode cX12_isBehind 29 = .ok (.sipush 161, 3) := by decide +kernel
theorem dX12_isBehind_32 : decode cX12_isBehind 32 = .ok (.iaload, 1) := by decide +kernel
theorem dX12_isBehind_33 : decode cX12_isBehind 33 = .ok (.if_icmp .le 7, 3) := by decide +kernel
theorem dX12_isBehind_36 : decode cX12_isBehind 36 = .ok (.iconst 1, 1) := by decide +kernel
theorem dX12_isBehind_37 : decode cX12_isBehind 37 = .ok (.goto 4, 3) := by decide +kernel
theorem dX12_isBehind_40 : decode cX12_isBehind 40 = .ok (.iconst 0, 1) := by decide +kernel
theorem dX12_isBehind_41 : decode cX12_isBehind 41 = .ok (.ireturn, 1) := by decide +kernel
theorem dX12_isBack_0 : decode cX12_isBack 0 = .ok (.aload_n 0, 1) := by decide +kernel
theorem dX12_isBack_1 : decode cX12_isBack 1 = .ok (.getfield 20, 3) := by decide +kernel
theorem dX12_isBack_4 : decode cX12_isBack 4 = .ok (.sipush 724, 3) := by decide +kernel
theorem dX12_isBack_7 : decode cX12_isBack 7 = .ok (.iload_n 1, 1) := by decide +kernel
theorem dX12_isBack_8 : decode cX12_isBack 8 = .ok (.iadd, 1) := by decide +kernel
theorem dX12_isBack_9 : decode cX12_isBack 9 = .ok (.laload, 1) := by decide +kernel
theorem dX12_isBack_10 : decode cX12_isBack 10 = .ok (.lstore_n 2, 1) := by decide +kernel
theorem dX12_isBack_11 : decode cX12_isBack 11 = .ok (.aload_n 0, 1) := by decide +kernel
theorem dX12_isBack_12 : decode cX12_isBack 12 = .ok (.iload_n 1, 1) := by decide +kernel
theorem dX12_isBack_13 : decode cX12_isBack 13 = .ok (.invokevirtual 321, 3) := by decide +kernel
theorem dX12_isBack_16 : decode cX12_isBack 16 = .ok (.ifCond .eq 40, 3) := by decide +kernel
theorem dX12_isBack_19 : decode cX12_isBack 19 = .ok (.aload_n 0, 1) := by decide +kernel
theorem dX12_isBack_20 : decode cX12_isBack 20 = .ok (.lload_n 2, 1) := by decide +kernel
theorem dX12_isBack_21 : decode cX12_isBack 21 = .ok (.invokevirtual 279, 3) := by decide +kernel
theorem dX12_isBack_24 : decode cX12_isBack 24 = .ok (.aload_n 0, 1) := by decide +kernel
theorem dX12_isBack_25 : decode cX12_isBack 25 = .ok (.getfield 17, 3) := by decide +kernel
theorem dX12_isBack_28 : decode cX12_isBack 28 = .ok (.sipush 248, 3) := by decide +kernel
theorem dX12_isBack_31 : decode cX12_isBack 31 = .ok (.iaload, 1) := by decide +kernel
theorem dX12_isBack_32 : decode cX12_isBack 32 = .ok (.if_icmp .lt 24, 3) := by decide +kernel
theorem dX12_isBack_35 : decode cX12_isBack 35 = .ok (.aload_n 0, 1) := by decide +kernel
theorem dX12_isBack_36 : decode cX12_isBack 36 = .ok (.lload_n 2, 1) := by decide +kernel
theorem dX12_isBack_37 : decode cX12_isBack 37 = .ok (.iconst 1, 1) := by decide +kernel
theorem dX12_isBack_38 : decode cX12_isBack 38 = .ok (.invokevirtual 275, 3) := by decide +kernel
theorem dX12_isBack_41 : decode cX12_isBack 41 = .ok (.aload_n 0, 1) := by decide +kernel
theorem dX12_isBack_42 : decode cX12_isBack 42 = .ok (.getfield 17, 3) := by decide +kernel
theorem dX12_isBack_45 : decode cX12_isBack 45 = .ok (.sipush 248, 3) := by decide +kernel
theorem dX12_isBack_48 : decode cX12_isBack 48 = .ok (.iaload, 1) := by decide +kernel
theorem dX12_isBack_49 : decode cX12_isBack 49 = .ok (.if_icmp .ge 7, 3) := by decide +kernel
theorem dX12_isBack_52 : decode cX12_isBack 52 = .ok (.iconst 1, 1) := by decide +kernel
theorem dX12_isBack_53 : decode cX12_isBack 53 = .ok (.goto 4, 3) := by decide +kernel
theorem dX12_isBack_56 : decode cX12_isBack 56 = .ok (.iconst 0, 1) := by decide +kernel
theorem dX12_isBack_57 : decode cX12_isBack 57 = .ok (.ireturn, 1) := by decide +kernel
theorem dX12_back_0 : decode cX12_back 0 = .ok (.aload_n 0, 1) := by decide +kernel
theorem dX12_back_1 : decode cX12_back 1 = .ok (.iconst 0, 1) := by decide +kernel
theorem dX12_back_2 : decode cX12_back 2 = .ok (.putfield 1, 3) := by decide +kernel
theorem dX12_back_5 : decode cX12_back 5 = .ok (.aload_n 0, 1) := by decide +kernel
theorem dX12_back_6 : decode cX12_back 6 = .ok (.iload_n 1, 1) := by decide +kernel
theorem dX12_back_7 : decode cX12_back 7 = .ok (.invokevirtual 324, 3) := by decide +kernel
theorem dX12_back_10 : decode cX12_back 10 = .ok (.ifCond .ne 10, 3) := by decide +kernel
theorem dX12_back_13 : decode cX12_back 13 = .ok (.aload_n 0, 1) := by decide +kernel
theorem dX12_back_14 : decode cX12_back 14 = .ok (.bipush (-2), 2) := by decide +kernel
theorem dX12_back_16 : decode cX12_back 16 = .ok (.invokevirtual 85, 3) := by decide +kernel
theorem dX12_back_19 : decode cX12_back 19 = .ok (.ireturn, 1) := by decide +kernel
theorem dX12_back_20 : decode cX12_back 20 = .ok (.aload_n 0, 1) := by decide +kernel
theorem dX12_back_21 : decode cX12_back 21 = .ok (.iload_n 1, 1) := by decide +kernel
theorem dX12_back_22 : decode cX12_back 22 = .ok (.invokevirtual 327, 3) := by decide +kernel
theorem dX12_back_25 : decode cX12_back 25 = .ok (.ifCond .eq 7, 3) := by decide +kernel
theorem dX12_back_28 : decode cX12_back 28 = .ok (.iconst 1, 1) := by decide +kernel
theorem dX12_back_29 : decode cX12_back 29 = .ok (.goto 4, 3) := by decide +kernel
theorem dX12_back_32 : decode cX12_back 32 = .ok (.iconst 0, 1) := by decide +kernel
theorem dX12_back_33 : decode cX12_back 33 = .ok (.ireturn, 1) := by decide +kernel
theorem dX12_backOdds_0 : decode cX12_backOdds 0 = .ok (.aload_n 0, 1) := by decide +kernel
theorem dX12_backOdds_1 : decode cX12_backOdds 1 = .ok (.iconst 0, 1) := by decide +kernel
theorem dX12_backOdds_2 : decode cX12_backOdds 2 = .ok (.putfield 1, 3) := by decide +kernel
theorem dX12_backOdds_5 : decode cX12_backOdds 5 = .ok (.aload_n 0, 1) := by decide +kernel
theorem dX12_backOdds_6 : decode cX12_backOdds 6 = .ok (.iload_n 1, 1) := by decide +kernel
theorem dX12_backOdds_7 : decode cX12_backOdds 7 = .ok (.invokevirtual 324, 3) := by decide +kernel
theorem dX12_backOdds_10 : decode cX12_backOdds 10 = .ok (.ifCond .eq 13, 3) := by decide +kernel
theorem dX12_backOdds_13 : decode cX12_backOdds 13 = .ok (.iload_n 2, 1) := by decide +kernel
theorem dX12_backOdds_14 : decode cX12_backOdds 14 = .ok (.i2l, 1) := by decide +kernel
theorem dX12_backOdds_15 : decode cX12_backOdds 15 = .ok (.lconst 0, 1) := by decide +kernel
theorem dX12_backOdds_16 : decode cX12_backOdds 16 = .ok (.lconst 1, 1) := by decide +kernel
theorem dX12_backOdds_17 : decode cX12_backOdds 17 = .ok (.invokestatic 81, 3) := by decide +kernel
theorem dX12_backOdds_20 : decode cX12_backOdds 20 = .ok (.ifCond .ne 10, 3) := by decide +kernel
theorem dX12_backOdds_23 : decode cX12_backOdds 23 = .ok (.aload_n 0, 1) := by decide +kernel
theorem dX12_backOdds_24 : decode cX12_backOdds 24 = .ok (.bipush (-2), 2) := by decide +kernel
theorem dX12_backOdds_26 : decode cX12_backOdds 26 = .ok (.invokevirtual 85, 3) := by decide +kernel
theorem dX12_backOdds_29 : decode cX12_backOdds 29 = .ok (.ireturn, 1) := by decide +kernel
theorem dX12_backOdds_30 : decode cX12_backOdds 30 = .ok (.aload_n 0, 1) := by decide +kernel
theorem dX12_backOdds_31 : decode cX12_backOdds 31 = .ok (.iload_n 1, 1) := by decide +kernel
theorem dX12_backOdds_32 : decode cX12_backOdds 32 = .ok (.invokevirtual 321, 3) := by decide +kernel
theorem dX12_backOdds_35 : decode cX12_backOdds 35 = .ok (.ifCond .ne 5, 3) := by decide +kernel
theorem dX12_backOdds_38 : decode cX12_backOdds 38 = .ok (.iload_n 2, 1) := by decide +kernel
theorem dX12_backOdds_39 : decode cX12_backOdds 39 = .ok (.ireturn, 1) := by decide +kernel
theorem dX12_backOdds_40 : decode cX12_backOdds 40 = .ok (.aload_n 0, 1) := by decide +kernel
theorem dX12_backOdds_41 : decode cX12_backOdds 41 = .ok (.aload_n 0, 1) := by decide +kernel
theorem dX12_backOdds_42 : decode cX12_backOdds 42 = .ok (.getfield 20, 3) := by decide +kernel
theorem dX12_backOdds_45 : decode cX12_backOdds 45 = .ok (.sipush 724, 3) := by decide +kernel
theorem dX12_backOdds_48 : decode cX12_backOdds 48 = .ok (.iload_n 1, 1) := by decide +kernel
theorem dX12_backOdds_49 : decode cX12_backOdds 49 = .ok (.iadd, 1) := by decide +kernel
theorem dX12_backOdds_50 : decode cX12_backOdds 50 = .ok (.laload, 1) := by decide +kernel
theorem dX12_backOdds_51 : decode cX12_backOdds 51 = .ok (.invokevirtual 279, 3) := by decide +kernel
theorem dX12_backOdds_54 : decode cX12_backOdds 54 = .ok (.istore_n 3, 1) := by decide +kernel
theorem dX12_backOdds_55 : decode cX12_backOdds 55 = .ok (.aload_n 0, 1) := by decide +kernel
theorem dX12_backOdds_56 : decode cX12_backOdds 56 = .ok (.aload_n 0, 1) := by decide +kernel
theorem dX12_backOdds_57 : decode cX12_backOdds 57 = .ok (.getfield 20, 3) := by decide +kernel
theorem dX12_backOdds_60 : decode cX12_backOdds 60 = .ok (.sipush 724, 3) := by decide +kernel
theorem dX12_backOdds_63 : decode cX12_backOdds 63 = .ok (.iload_n 1, 1) := by decide +kernel
theorem dX12_backOdds_64 : decode cX12_backOdds 64 = .ok (.iadd, 1) := by decide +kernel
theorem dX12_backOdds_65 : decode cX12_backOdds 65 = .ok (.laload, 1) := by decide +kernel
theorem dX12_backOdds_66 : decode cX12_backOdds 66 = .ok (.iconst 1, 1) := by decide +kernel
theorem dX12_backOdds_67 : decode cX12_backOdds 67 = .ok (.invokevirtual 275, 3) := by decide +kernel
theorem dX12_backOdds_70 : decode cX12_backOdds 70 = .ok (.istore 4, 2) := by decide +kernel
theorem dX12_backOdds_72 : decode cX12_backOdds 72 = .ok (.iload_n 3, 1) := by decide +kernel
theorem dX12_backOdds_73 : decode cX12_backOdds 73 = .ok (.ifCond .ge 7, 3) := by decide +kernel
theorem dX12_backOdds_76 : decode cX12_backOdds 76 = .ok (.iconst 0, 1) := by decide +kernel
theorem dX12_backOdds_77 : decode cX12_backOdds 77 = .ok (.goto 4, 3) := by decide +kernel
theorem dX12_backOdds_80 : decode cX12_backOdds 80 = .ok (.iload_n 3, 1) := by decide +kernel
theorem dX12_backOdds_81 : decode cX12_backOdds 81 = .ok (.i2l, 1) := by decide +kernel
theorem dX12_backOdds_82 : decode cX12_backOdds 82 = .ok (.aload_n 0, 1) := by decide +kernel
theorem dX12_backOdds_83 : decode cX12_backOdds 83 = .ok (.getfield 17, 3) := by decide +kernel
theorem dX12_backOdds_86 : decode cX12_backOdds 86 = .ok (.sipush 668, 3) := by decide +kernel
theorem dX12_backOdds_89 : decode cX12_backOdds 89 = .ok (.iload_n 1, 1) := by decide +kernel
theorem dX12_backOdds_90 : decode cX12_backOdds 90 = .ok (.iadd, 1) := by decide +kernel
theorem dX12_backOdds_91 : decode cX12_backOdds 91 = .ok (.iaload, 1) := by decide +kernel
theorem dX12_backOdds_92 : decode cX12_backOdds 92 = .ok (.i2l, 1) := by decide +kernel
theorem dX12_backOdds_93 : decode cX12_backOdds 93 = .ok (.lconst 1, 1) := by decide +kernel
theorem dX12_backOdds_94 : decode cX12_backOdds 94 = .ok (.ladd, 1) := by decide +kernel
theorem dX12_backOdds_95 : decode cX12_backOdds 95 = .ok (.lmul, 1) := by decide +kernel
theorem dX12_backOdds_96 : decode cX12_backOdds 96 = .ok (.iload 4, 2) := by decide +kernel
theorem dX12_backOdds_98 : decode cX12_backOdds 98 = .ok (.ifCond .ge 7, 3) := by decide +kernel
theorem dX12_backOdds_101 : decode cX12_backOdds 101 = .ok (.lconst 0, 1) := by decide +kernel
theorem dX12_backOdds_102 : decode cX12_backOdds 102 = .ok (.goto 10, 3) := by decide +kernel
theorem dX12_backOdds_105 : decode cX12_backOdds 105 = .ok (.ldc2_w 330, 3) := by decide +kernel
theorem dX12_backOdds_108 : decode cX12_backOdds 108 = .ok (.iload 4, 2) := by decide +kernel
theorem dX12_backOdds_110 : decode cX12_backOdds 110 = .ok (.i2l, 1) := by decide +kernel
theorem dX12_backOdds_111 : decode cX12_backOdds 111 = .ok (.lmul, 1) := by decide +kernel
theorem dX12_backOdds_112 : decode cX12_backOdds 112 = .ok (.iload_n 2, 1) := by decide +kernel
theorem dX12_backOdds_113 : decode cX12_backOdds 113 = .ok (.invokestatic 298, 3) := by decide +kernel
theorem dX12_backOdds_116 : decode cX12_backOdds 116 = .ok (.l2i, 1) := by decide +kernel
theorem dX12_backOdds_117 : decode cX12_backOdds 117 = .ok (.ireturn, 1) := by decide +kernel
theorem dX12_parted_0 : decode cX12_parted 0 = .ok (.aload_n 0, 1) := by decide +kernel
theorem dX12_parted_1 : decode cX12_parted 1 = .ok (.iconst 0, 1) := by decide +kernel
theorem dX12_parted_2 : decode cX12_parted 2 = .ok (.putfield 1, 3) := by decide +kernel
theorem dX12_parted_5 : decode cX12_parted 5 = .ok (.iload_n 1, 1) := by decide +kernel
theorem dX12_parted_6 : decode cX12_parted 6 = .ok (.i2l, 1) := by decide +kernel
theorem dX12_parted_7 : decode cX12_parted 7 = .ok (.lconst 0, 1) := by decide +kernel
theorem dX12_parted_8 : decode cX12_parted 8 = .ok (.lconst 1, 1) := by decide +kernel
theorem dX12_parted_9 : decode cX12_parted 9 = .ok (.invokestatic 81, 3) := by decide +kernel
theorem dX12_parted_12 : decode cX12_parted 12 = .ok (.ifCond .ne 10, 3) := by decide +kernel
theorem dX12_parted_15 : decode cX12_parted 15 = .ok (.aload_n 0, 1) := by decide +kernel
theorem dX12_parted_16 : decode cX12_parted 16 = .ok (.bipush (-2), 2) := by decide +kernel
theorem dX12_parted_18 : decode cX12_parted 18 = .ok (.invokevirtual 85, 3) := by decide +kernel
theorem dX12_parted_21 : decode cX12_parted 21 = .ok (.ireturn, 1) := by decide +kernel
theorem dX12_parted_22 : decode cX12_parted 22 = .ok (.iconst 0, 1) := by decide +kernel
theorem dX12_parted_23 : decode cX12_parted 23 = .ok (.istore_n 3, 1) := by decide +kernel
theorem dX12_parted_24 : decode cX12_parted 24 = .ok (.iconst 0, 1) := by decide +kernel
theorem dX12_parted_25 : decode cX12_parted 25 = .ok (.istore 4, 2) := by decide +kernel
theorem dX12_parted_27 : decode cX12_parted 27 = .ok (.iload 4, 2) := by decide +kernel
theorem dX12_parted_29 : decode cX12_parted 29 = .ok (.aload_n 0, 1) := by decide +kernel
theorem dX12_parted_30 : decode cX12_parted 30 = .ok (.getfield 17, 3) := by decide +kernel
theorem dX12_parted_33 : decode cX12_parted 33 = .ok (.sipush 547, 3) := by decide +kernel
theorem dX12_parted_36 : decode cX12_parted 36 = .ok (.iaload, 1) := by decide +kernel
theorem dX12_parted_37 : decode cX12_parted 37 = .ok (.if_icmp .ge 72, 3) := by decide +kernel
theorem dX12_parted_40 : decode cX12_parted 40 = .ok (.aload_n 0, 1) := by decide +kernel
theorem dX12_parted_41 : decode cX12_parted 41 = .ok (.getfield 17, 3) := by decide +kernel
theorem dX12_parted_44 : decode cX12_parted 44 = .ok (.iload_n 1, 1) := by decide +kernel
theorem dX12_parted_45 : decode cX12_parted 45 = .ok (.ifCond .ne 9, 3) := by decide +kernel
theorem dX12_parted_48 : decode cX12_parted 48 = .ok (.sipush 728, 3) := by decide +kernel
theorem dX12_parted_51 : decode cX12_parted 51 = .ok (.goto 6, 3) := by decide +kernel
theorem dX12_parted_54 : decode cX12_parted 54 = .ok (.sipush 788, 3) := by decide +kernel
theorem dX12_parted_57 : decode cX12_parted 57 = .ok (.iload 4, 2) := by decide +kernel
theorem dX12_parted_59 : decode cX12_parted 59 = .ok (.iadd, 1) := by decide +kernel
theorem dX12_parted_60 : decode cX12_parted 60 = .ok (.iaload, 1) := by decide +kernel
theorem dX12_parted_61 : decode cX12_parted 61 = .ok (.istore 5, 2) := by decide +kernel
theorem dX12_parted_63 : decode cX12_parted 63 = .ok (.iload 5, 2) := by decide +kernel
theorem dX12_parted_65 : decode cX12_parted 65 = .ok (.iload_n 2, 1) := by decide +kernel
theorem dX12_parted_66 : decode cX12_parted 66 = .ok (.ifCond .eq 7, 3) := by decide +kernel
theorem dX12_parted_69 : decode cX12_parted 69 = .ok (.iconst 1, 1) := by decide +kernel
theorem dX12_parted_70 : decode cX12_parted 70 = .ok (.goto 4, 3) := by decide +kernel
theorem dX12_parted_73 : decode cX12_parted 73 = .ok (.iconst 0, 1) := by decide +kernel
theorem dX12_parted_74 : decode cX12_parted 74 = .ok (.if_icmp .ne 29, 3) := by decide +kernel
theorem dX12_parted_77 : decode cX12_parted 77 = .ok (.aload_n 0, 1) := by decide +kernel
theorem dX12_parted_78 : decode cX12_parted 78 = .ok (.iload 4, 2) := by decide +kernel
theorem dX12_parted_80 : decode cX12_parted 80 = .ok (.invokevirtual 327, 3) := by decide +kernel
theorem dX12_parted_83 : decode cX12_parted 83 = .ok (.ifCond .ne 20, 3) := by decide +kernel
theorem dX12_parted_86 : decode cX12_parted 86 = .ok (.iload_n 3, 1) := by decide +kernel
theorem dX12_parted_87 : decode cX12_parted 87 = .ok (.bipush 10, 2) := by decide +kernel
theorem dX12_parted_89 : decode cX12_parted 89 = .ok (.aload_n 0, 1) := by decide +kernel
theorem dX12_parted_90 : decode cX12_parted 90 = .ok (.getfield 17, 3) := by decide +kernel
theorem dX12_parted_93 : decode cX12_parted 93 = .ok (.sipush 668, 3) := by decide +kernel
theorem dX12_parted_96 : decode cX12_parted 96 = .ok (.iload 4, 2) := by decide +kernel
theorem dX12_parted_98 : decode cX12_parted 98 = .ok (.iadd, 1) := by decide +kernel
theorem dX12_parted_99 : decode cX12_parted 99 = .ok (.iaload, 1) := by decide +kernel
theorem dX12_parted_100 : decode cX12_parted 100 = .ok (.isub, 1) := by decide +kernel
theorem dX12_parted_101 : decode cX12_parted 101 = .ok (.iadd, 1) := by decide +kernel
theorem dX12_parted_102 : decode cX12_parted 102 = .ok (.istore_n 3, 1) := by decide +kernel
theorem dX12_parted_103 : decode cX12_parted 103 = .ok (.iinc 4 1, 3) := by decide +kernel
theorem dX12_parted_106 : decode cX12_parted 106 = .ok (.goto (-79), 3) := by decide +kernel
theorem dX12_parted_109 : decode cX12_parted 109 = .ok (.iload_n 3, 1) := by decide +kernel
theorem dX12_parted_110 : decode cX12_parted 110 = .ok (.ireturn, 1) := by decide +kernel
theorem dX12_isMuddled_0 : decode cX12_isMuddled 0 = .ok (.aload_n 0, 1) := by decide +kernel
theorem dX12_isMuddled_1 : decode cX12_isMuddled 1 = .ok (.getfield 20, 3) := by decide +kernel
theorem dX12_isMuddled_4 : decode cX12_isMuddled 4 = .ok (.sipush 724, 3) := by decide +kernel
theorem dX12_isMuddled_7 : decode cX12_isMuddled 7 = .ok (.iload_n 1, 1) := by decide +kernel
theorem dX12_isMuddled_8 : decode cX12_isMuddled 8 = .ok (.iadd, 1) := by decide +kernel
theorem dX12_isMuddled_9 : decode cX12_isMuddled 9 = .ok (.laload, 1) := by decide +kernel
theorem dX12_isMuddled_10 : decode cX12_isMuddled 10 = .ok (.lstore_n 2, 1) := by decide +kernel
theorem dX12_isMuddled_11 : decode cX12_isMuddled 11 = .ok (.aload_n 0, 1) := by decide +kernel
theorem dX12_isMuddled_12 : decode cX12_isMuddled 12 = .ok (.getfield 17, 3) := by decide +kernel
theorem dX12_isMuddled_15 : decode cX12_isMuddled 15 = .ok (.sipush 788, 3) := by decide +kernel
theorem dX12_isMuddled_18 : decode cX12_isMuddled 18 = .ok (.iload_n 1, 1) := by decide +kernel
theorem dX12_isMuddled_19 : decode cX12_isMuddled 19 = .ok (.iadd, 1) := by decide +kernel
theorem dX12_isMuddled_20 : decode cX12_isMuddled 20 = .ok (.iaload, 1) := by decide +kernel
theorem dX12_isMuddled_21 : decode cX12_isMuddled 21 = .ok (.iconst 1, 1) := by decide +kernel
theorem dX12_isMuddled_22 : decode cX12_isMuddled 22 = .ok (.if_icmp .ne 46, 3) := by decide +kernel
theorem dX12_isMuddled_25 : decode cX12_isMuddled 25 = .ok (.lload_n 2, 1) := by decide +kernel
theorem dX12_isMuddled_26 : decode cX12_isMuddled 26 = .ok (.lconst 0, 1) := by decide +kernel
theorem dX12_isMuddled_27 : decode cX12_isMuddled 27 = .ok (.lcmp, 1) := by decide +kernel
theorem dX12_isMuddled_28 : decode cX12_isMuddled 28 = .ok (.ifCond .eq 40, 3) := by decide +kernel
theorem dX12_isMuddled_31 : decode cX12_isMuddled 31 = .ok (.aload_n 0, 1) := by decide +kernel
theorem dX12_isMuddled_32 : decode cX12_isMuddled 32 = .ok (.lload_n 2, 1) := by decide +kernel
theorem dX12_isMuddled_33 : decode cX12_isMuddled 33 = .ok (.iconst 1, 1) := by decide +kernel
theorem dX12_isMuddled_34 : decode cX12_isMuddled 34 = .ok (.invokevirtual 275, 3) := by decide +kernel
theorem dX12_isMuddled_37 : decode cX12_isMuddled 37 = .ok (.aload_n 0, 1) := by decide +kernel
theorem dX12_isMuddled_38 : decode cX12_isMuddled 38 = .ok (.getfield 17, 3) := by decide +kernel
theorem dX12_isMuddled_41 : decode cX12_isMuddled 41 = .ok (.sipush 248, 3) := by decide +kernel
theorem dX12_isMuddled_44 : decode cX12_isMuddled 44 = .ok (.iaload, 1) := by decide +kernel
theorem dX12_isMuddled_45 : decode cX12_isMuddled 45 = .ok (.if_icmp .lt 23, 3) := by decide +kernel
theorem dX12_isMuddled_48 : decode cX12_isMuddled 48 = .ok (.aload_n 0, 1) := by decide +kernel
theorem dX12_isMuddled_49 : decode cX12_isMuddled 49 = .ok (.lload_n 2, 1) := by decide +kernel
theorem dX12_isMuddled_50 : decode cX12_isMuddled 50 = .ok (.invokevirtual 279, 3) := by decide +kernel
theorem dX12_isMuddled_53 : decode cX12_isMuddled 53 = .ok (.aload_n 0, 1) := by decide +kernel
theorem dX12_isMuddled_54 : decode cX12_isMuddled 54 = .ok (.getfield 17, 3) := by decide +kernel
theorem dX12_isMuddled_57 : decode cX12_isMuddled 57 = .ok (.sipush 248, 3) := by decide +kernel
theorem dX12_isMuddled_60 : decode cX12_isMuddled 60 = .ok (.iaload, 1) := by decide +kernel
theorem dX12_isMuddled_61 : decode cX12_isMuddled 61 = .ok (.if_icmp .ge 7, 3) := by decide +kernel
theorem dX12_isMuddled_64 : decode cX12_isMuddled 64 = .ok (.iconst 1, 1) := by decide +kernel
theorem dX12_isMuddled_65 : decode cX12_isMuddled 65 = .ok (.goto 4, 3) := by decide +kernel
theorem dX12_isMuddled_68 : decode cX12_isMuddled 68 = .ok (.iconst 0, 1) := by decide +kernel
theorem dX12_isMuddled_69 : decode cX12_isMuddled 69 = .ok (.ireturn, 1) := by decide +kernel
theorem dX12_muddled_0 : decode cX12_muddled 0 = .ok (.aload_n 0, 1) := by decide +kernel
theorem dX12_muddled_1 : decode cX12_muddled 1 = .ok (.iconst 0, 1) := by decide +kernel
theorem dX12_muddled_2 : decode cX12_muddled 2 = .ok (.putfield 1, 3) := by decide +kernel
theorem dX12_muddled_5 : decode cX12_muddled 5 = .ok (.iconst 0, 1) := by decide +kernel
theorem dX12_muddled_6 : decode cX12_muddled 6 = .ok (.istore_n 2, 1) := by decide +kernel
theorem dX12_muddled_7 : decode cX12_muddled 7 = .ok (.iconst 0, 1) := by decide +kernel
theorem dX12_muddled_8 : decode cX12_muddled 8 = .ok (.istore_n 3, 1) := by decide +kernel
theorem dX12_muddled_9 : decode cX12_muddled 9 = .ok (.iload_n 3, 1) := by decide +kernel
theorem dX12_muddled_10 : decode cX12_muddled 10 = .ok (.aload_n 0, 1) := by decide +kernel
theorem dX12_muddled_11 : decode cX12_muddled 11 = .ok (.getfield 17, 3) := by decide +kernel
theorem dX12_muddled_14 : decode cX12_muddled 14 = .ok (.sipush 547, 3) := by decide +kernel
theorem dX12_muddled_17 : decode cX12_muddled 17 = .ok (.iaload, 1) := by decide +kernel
theorem dX12_muddled_18 : decode cX12_muddled 18 = .ok (.if_icmp .ge 30, 3) := by decide +kernel
theorem dX12_muddled_21 : decode cX12_muddled 21 = .ok (.aload_n 0, 1) := by decide +kernel
theorem dX12_muddled_22 : decode cX12_muddled 22 = .ok (.iload_n 3, 1) := by decide +kernel
theorem dX12_muddled_23 : decode cX12_muddled 23 = .ok (.invokevirtual 332, 3) := by decide +kernel
theorem dX12_muddled_26 : decode cX12_muddled 26 = .ok (.ifCond .ne 6, 3) := by decide +kernel
theorem dX12_muddled_29 : decode cX12_muddled 29 = .ok (.goto 13, 3) := by decide +kernel
theorem dX12_muddled_32 : decode cX12_muddled 32 = .ok (.iload_n 2, 1) := by decide +kernel
theorem dX12_muddled_33 : decode cX12_muddled 33 = .ok (.iload_n 1, 1) := by decide +kernel
theorem dX12_muddled_34 : decode cX12_muddled 34 = .ok (.if_icmp .ne 5, 3) := by decide +kernel
theorem dX12_muddled_37 : decode cX12_muddled 37 = .ok (.iload_n 3, 1) := by decide +kernel
theorem dX12_muddled_38 : decode cX12_muddled 38 = .ok (.ireturn, 1) := by decide +kernel
theorem dX12_muddled_39 : decode cX12_muddled 39 = .ok (.iinc 2 1, 3) := by decide +kernel
theorem dX12_muddled_42 : decode cX12_muddled 42 = .ok (.iinc 3 1, 3) := by decide +kernel
theorem dX12_muddled_45 : decode cX12_muddled 45 = .ok (.goto (-36), 3) := by decide +kernel
theorem dX12_muddled_48 : decode cX12_muddled 48 = .ok (.iload_n 1, 1) := by decide +kernel
theorem dX12_muddled_49 : decode cX12_muddled 49 = .ok (.iconst (-1), 1) := by decide +kernel
theorem dX12_muddled_50 : decode cX12_muddled 50 = .ok (.if_icmp .ne 7, 3) := by decide +kernel
theorem dX12_muddled_53 : decode cX12_muddled 53 = .ok (.iload_n 2, 1) := by decide +kernel
theorem dX12_muddled_54 : decode cX12_muddled 54 = .ok (.goto 4, 3) := by decide +kernel
theorem dX12_muddled_57 : decode cX12_muddled 57 = .ok (.iconst (-1), 1) := by decide +kernel
theorem dX12_muddled_58 : decode cX12_muddled 58 = .ok (.ireturn, 1) := by decide +kernel
theorem dX12_glen_0 : decode cX12_glen 0 = .ok (.aload_n 0, 1) := by decide +kernel
theorem dX12_glen_1 : decode cX12_glen 1 = .ok (.iconst 0, 1) := by decide +kernel
theorem dX12_glen_2 : decode cX12_glen 2 = .ok (.putfield 1, 3) := by decide +kernel
theorem dX12_glen_5 : decode cX12_glen 5 = .ok (.iload_n 1, 1) := by decide +kernel
theorem dX12_glen_6 : decode cX12_glen 6 = .ok (.i2l, 1) := by decide +kernel
theorem dX12_glen_7 : decode cX12_glen 7 = .ok (.lconst 0, 1) := by decide +kernel
theorem dX12_glen_8 : decode cX12_glen 8 = .ok (.ldc2_w 91, 3) := by decide +kernel
theorem dX12_glen_11 : decode cX12_glen 11 = .ok (.invokestatic 81, 3) := by decide +kernel
theorem dX12_glen_14 : decode cX12_glen 14 = .ok (.ifCond .eq 15, 3) := by decide +kernel
theorem dX12_glen_17 : decode cX12_glen 17 = .ok (.iload_n 2, 1) := by decide +kernel
theorem dX12_glen_18 : decode cX12_glen 18 = .ok (.i2l, 1) := by decide +kernel
theorem dX12_glen_19 : decode cX12_glen 19 = .ok (.lconst 0, 1) := by decide +kernel
theorem dX12_glen_20 : decode cX12_glen 20 = .ok (.ldc2_w 335, 3) := by decide +kernel
theorem dX12_glen_23 : decode cX12_glen 23 = .ok (.invokestatic 81, 3) := by decide +kernel
theorem dX12_glen_26 : decode cX12_glen 26 = .ok (.ifCond .ne 10, 3) := by decide +kernel
theorem dX12_glen_29 : decode cX12_glen 29 = .ok (.aload_n 0, 1) := by decide +kernel
theorem dX12_glen_30 : decode cX12_glen 30 = .ok (.bipush (-2), 2) := by decide +kernel
theorem dX12_glen_32 : decode cX12_glen 32 = .ok (.invokevirtual 85, 3) := by decide +kernel
theorem dX12_glen_35 : decode cX12_glen 35 = .ok (.ireturn, 1) := by decide +kernel
theorem dX12_glen_36 : decode cX12_glen 36 = .ok (.iconst 0, 1) := by decide +kernel
theorem dX12_glen_37 : decode cX12_glen 37 = .ok (.istore_n 3, 1) := by decide +kernel
theorem dX12_glen_38 : decode cX12_glen 38 = .ok (.iconst 0, 1) := by decide +kernel
theorem dX12_glen_39 : decode cX12_glen 39 = .ok (.istore 4, 2) := by decide +kernel
theorem dX12_glen_41 : decode cX12_glen 41 = .ok (.iload 4, 2) := by decide +kernel
theorem dX12_glen_43 : decode cX12_glen 43 = .ok (.aload_n 0, 1) := by decide +kernel
theorem dX12_glen_44 : decode cX12_glen 44 = .ok (.getfield 17, 3) := by decide +kernel
theorem dX12_glen_47 : decode cX12_glen 47 = .ok (.sipush 547, 3) := by decide +kernel
theorem dX12_glen_50 : decode cX12_glen 50 = .ok (.iaload, 1) := by decide +kernel
theorem dX12_glen_51 : decode cX12_glen 51 = .ok (.if_icmp .ge 102, 3) := by decide +kernel
theorem dX12_glen_54 : decode cX12_glen 54 = .ok (.iload_n 2, 1) := by decide +kernel
theorem dX12_glen_55 : decode cX12_glen 55 = .ok (.ifCond .eq 57, 3) := by decide +kernel
theorem dX12_glen_58 : decode cX12_glen 58 = .ok (.iload_n 2, 1) := by decide +kernel
theorem dX12_glen_59 : decode cX12_glen 59 = .ok (.iconst 1, 1) := by decide +kernel
theorem dX12_glen_60 : decode cX12_glen 60 = .ok (.if_icmp .ne 18, 3) := by decide +kernel
theorem dX12_glen_63 : decode cX12_glen 63 = .ok (.aload_n 0, 1) := by decide +kernel
theorem dX12_glen_64 : decode cX12_glen 64 = .ok (.getfield 17, 3) := by decide +kernel
theorem dX12_glen_67 : decode cX12_glen 67 = .ok (.sipush 728, 3) := by decide +kernel
theorem dX12_glen_70 : decode cX12_glen 70 = .ok (.iload 4, 2) := by decide +kernel
theorem dX12_glen_72 : decode cX12_glen 72 = .ok (.iadd, 1) := by decide +kernel
theorem dX12_glen_73 : decode cX12_glen 73 = .ok (.iaload, 1) := by decide +kernel
theorem dX12_glen_74 : decode cX12_glen 74 = .ok (.iconst 1, 1) := by decide +kernel
theorem dX12_glen_75 : decode cX12_glen 75 = .ok (.if_icmp .eq 37, 3) := by decide +kernel
theorem dX12_glen_78 : decode cX12_glen 78 = .ok (.iload_n 2, 1) := by decide +kernel
theorem dX12_glen_79 : decode cX12_glen 79 = .ok (.iconst 2, 1) := by decide +kernel
theorem dX12_glen_80 : decode cX12_glen 80 = .ok (.if_icmp .ne 18, 3) := by decide +kernel
theorem dX12_glen_83 : decode cX12_glen 83 = .ok (.aload_n 0, 1) := by decide +kernel
theorem dX12_glen_84 : decode cX12_glen 84 = .ok (.getfield 17, 3) := by decide +kernel
theorem dX12_glen_87 : decode cX12_glen 87 = .ok (.sipush 788, 3) := by decide +kernel
theorem dX12_glen_90 : decode cX12_glen 90 = .ok (.iload 4, 2) := by decide +kernel
theorem dX12_glen_92 : decode cX12_glen 92 = .ok (.iadd, 1) := by decide +kernel
theorem dX12_glen_93 : decode cX12_glen 93 = .ok (.iaload, 1) := by decide +kernel
theorem dX12_glen_94 : decode cX12_glen 94 = .ok (.iconst 1, 1) := by decide +kernel
theorem dX12_glen_95 : decode cX12_glen 95 = .ok (.if_icmp .eq 17, 3) := by decide +kernel
theorem dX12_glen_98 : decode cX12_glen 98 = .ok (.iload_n 2, 1) := by decide +kernel
theorem dX12_glen_99 : decode cX12_glen 99 = .ok (.iconst 3, 1) := by decide +kernel
theorem dX12_glen_100 : decode cX12_glen 100 = .ok (.if_icmp .ne 16, 3) := by decide +kernel
theorem dX12_glen_103 : decode cX12_glen 103 = .ok (.aload_n 0, 1) := by decide +kernel
theorem dX12_glen_104 : decode cX12_glen 104 = .ok (.iload 4, 2) := by decide +kernel
theorem dX12_glen_106 : decode cX12_glen 106 = .ok (.invokevirtual 327, 3) := by decide +kernel
theorem dX12_glen_109 : decode cX12_glen 109 = .ok (.ifCond .eq 7, 3) := by decide +kernel
theorem dX12_glen_112 : decode cX12_glen 112 = .ok (.iconst 1, 1) := by decide +kernel
theorem dX12_glen_113 : decode cX12_glen 113 = .ok (.goto 4, 3) := by decide +kernel
theorem dX12_glen_116 : decode cX12_glen 116 = .ok (.iconst 0, 1) := by decide +kernel
theorem dX12_glen_117 : decode cX12_glen 117 = .ok (.istore 5, 2) := by decide +kernel
theorem dX12_glen_119 : decode cX12_glen 119 = .ok (.iload_n 3, 1) := by decide +kernel
theorem dX12_glen_120 : decode cX12_glen 120 = .ok (.aload_n 0, 1) := by decide +kernel
theorem dX12_glen_121 : decode cX12_glen 121 = .ok (.getfield 17, 3) := by decide +kernel
theorem dX12_glen_124 : decode cX12_glen 124 = .ok (.sipush 548, 3) := by decide +kernel
theorem dX12_glen_127 : decode cX12_glen 127 = .ok (.iload 4, 2) := by decide +kernel
theorem dX12_glen_129 : decode cX12_glen 129 = .ok (.iadd, 1) := by decide +kernel
theorem dX12_glen_130 : decode cX12_glen 130 = .ok (.iaload, 1) := by decide +kernel
theorem dX12_glen_131 : decode cX12_glen 131 = .ok (.iload_n 1, 1) := by decide +kernel
theorem dX12_glen_132 : decode cX12_glen 132 = .ok (.if_icmp .ne 12, 3) := by decide +kernel
theorem dX12_glen_135 : decode cX12_glen 135 = .ok (.iload 5, 2) := by decide +kernel
theorem dX12_glen_137 : decode cX12_glen 137 = .ok (.ifCond .eq 7, 3) := by decide +kernel
theorem dX12_glen_140 : decode cX12_glen 140 = .ok (.iconst 1, 1) := by decide +kernel
theorem dX12_glen_141 : decode cX12_glen 141 = .ok (.goto 4, 3) := by decide +kernel
theorem dX12_glen_144 : decode cX12_glen 144 = .ok (.iconst 0, 1) := by decide +kernel
theorem dX12_glen_145 : decode cX12_glen 145 = .ok (.iadd, 1) := by decide +kernel
theorem dX12_glen_146 : decode cX12_glen 146 = .ok (.istore_n 3, 1) := by decide +kernel
theorem dX12_glen_147 : decode cX12_glen 147 = .ok (.iinc 4 1, 3) := by decide +kernel
theorem dX12_glen_150 : decode cX12_glen 150 = .ok (.goto (-109), 3) := by decide +kernel
theorem dX12_glen_153 : decode cX12_glen 153 = .ok (.iload_n 3, 1) := by decide +kernel
theorem dX12_glen_154 : decode cX12_glen 154 = .ok (.ireturn, 1) := by decide +kernel
theorem dX12_paid_0 : decode cX12_paid 0 = .ok (.aload_n 0, 1) := by decide +kernel
theorem dX12_paid_1 : decode cX12_paid 1 = .ok (.iconst 0, 1) := by decide +kernel
theorem dX12_paid_2 : decode cX12_paid 2 = .ok (.putfield 1, 3) := by decide +kernel
theorem dX12_paid_5 : decode cX12_paid 5 = .ok (.iload_n 1, 1) := by decide +kernel
theorem dX12_paid_6 : decode cX12_paid 6 = .ok (.i2l, 1) := by decide +kernel
theorem dX12_paid_7 : decode cX12_paid 7 = .ok (.lconst 0, 1) := by decide +kernel
theorem dX12_paid_8 : decode cX12_paid 8 = .ok (.ldc2_w 93, 3) := by decide +kernel
theorem dX12_paid_11 : decode cX12_paid 11 = .ok (.invokestatic 81, 3) := by decide +kernel
theorem dX12_paid_14 : decode cX12_paid 14 = .ok (.ifCond .eq 15, 3) := by decide +kernel
theorem dX12_paid_17 : decode cX12_paid 17 = .ok (.iload_n 2, 1) := by decide +kernel
theorem dX12_paid_18 : decode cX12_paid 18 = .ok (.i2l, 1) := by decide +kernel
theorem dX12_paid_19 : decode cX12_paid 19 = .ok (.lconst 1, 1) := by decide +kernel
theorem dX12_paid_20 : decode cX12_paid 20 = .ok (.ldc2_w 337, 3) := by decide +kernel
theorem dX12_paid_23 : decode cX12_paid 23 = .ok (.invokestatic 81, 3) := by decide +kernel
theorem dX12_paid_26 : decode cX12_paid 26 = .ok (.ifCond .ne 10, 3) := by decide +kernel
theorem dX12_paid_29 : decode cX12_paid 29 = .ok (.aload_n 0, 1) := by decide +kernel
theorem dX12_paid_30 : decode cX12_paid 30 = .ok (.bipush (-3), 2) := by decide +kernel
theorem dX12_paid_32 : decode cX12_paid 32 = .ok (.invokevirtual 85, 3) := by decide +kernel
theorem dX12_paid_35 : decode cX12_paid 35 = .ok (.ireturn, 1) := by decide +kernel
theorem dX12_paid_36 : decode cX12_paid 36 = .ok (.aload_n 0, 1) := by decide +kernel
theorem dX12_paid_37 : decode cX12_paid 37 = .ok (.getfield 17, 3) := by decide +kernel
theorem dX12_paid_40 : decode cX12_paid 40 = .ok (.sipush 848, 3) := by decide +kernel
theorem dX12_paid_43 : decode cX12_paid 43 = .ok (.iaload, 1) := by decide +kernel
theorem dX12_paid_44 : decode cX12_paid 44 = .ok (.bipush 20, 2) := by decide +kernel
theorem dX12_paid_46 : decode cX12_paid 46 = .ok (.if_icmp .ne 10, 3) := by decide +kernel
theorem dX12_paid_49 : decode cX12_paid 49 = .ok (.aload_n 0, 1) := by decide +kernel
theorem dX12_paid_50 : decode cX12_paid 50 = .ok (.bipush (-4), 2) := by decide +kernel
theorem dX12_paid_52 : decode cX12_paid 52 = .ok (.invokevirtual 85, 3) := by decide +kernel
theorem dX12_paid_55 : decode cX12_paid 55 = .ok (.ireturn, 1) := by decide +kernel
theorem dX12_paid_56 : decode cX12_paid 56 = .ok (.aload_n 0, 1) := by decide +kernel
theorem dX12_paid_57 : decode cX12_paid 57 = .ok (.getfield 17, 3) := by decide +kernel
theorem dX12_paid_60 : decode cX12_paid 60 = .ok (.sipush 849, 3) := by decide +kernel
theorem dX12_paid_63 : decode cX12_paid 63 = .ok (.aload_n 0, 1) := by decide +kernel
theorem dX12_paid_64 : decode cX12_paid 64 = .ok (.getfield 17, 3) := by decide +kernel
theorem dX12_paid_67 : decode cX12_paid 67 = .ok (.sipush 848, 3) := by decide +kernel
theorem dX12_paid_70 : decode cX12_paid 70 = .ok (.iaload, 1) := by decide +kernel
theorem dX12_paid_71 : decode cX12_paid 71 = .ok (.iadd, 1) := by decide +kernel
theorem dX12_paid_72 : decode cX12_paid 72 = .ok (.iload_n 1, 1) := by decide +kernel
theorem dX12_paid_73 : decode cX12_paid 73 = .ok (.iastore, 1) := by decide +kernel
theorem dX12_paid_74 : decode cX12_paid 74 = .ok (.aload_n 0, 1) := by decide +kernel
theorem dX12_paid_75 : decode cX12_paid 75 = .ok (.getfield 17, 3) := by decide +kernel
theorem dX12_paid_78 : decode cX12_paid 78 = .ok (.sipush 869, 3) := by decide +kernel
theorem dX12_paid_81 : decode cX12_paid 81 = .ok (.aload_n 0, 1) := by decide +kernel
theorem dX12_paid_82 : decode cX12_paid 82 = .ok (.getfield 17, 3) := by decide +kernel
theorem dX12_paid_85 : decode cX12_paid 85 = .ok (.sipush 848, 3) := by decide +kernel
theorem dX12_paid_88 : decode cX12_paid 88 = .ok (.iaload, 1) := by decide +kernel
theorem dX12_paid_89 : decode cX12_paid 89 = .ok (.iadd, 1) := by decide +kernel
theorem dX12_paid_90 : decode cX12_paid 90 = .ok (.iload_n 2, 1) := by decide +kernel
theorem dX12_paid_91 : decode cX12_paid 91 = .ok (.iastore, 1) := by decide +kernel
theorem dX12_paid_92 : decode cX12_paid 92 = .ok (.aload_n 0, 1) := by decide +kernel
theorem dX12_paid_93 : decode cX12_paid 93 = .ok (.getfield 17, 3) := by decide +kernel
theorem dX12_paid_96 : decode cX12_paid 96 = .ok (.sipush 848, 3) := by decide +kernel
theorem dX12_paid_99 : decode cX12_paid 99 = .ok (.dup2, 1) := by decide +kernel
theorem dX12_paid_100 : decode cX12_paid 100 = .ok (.iaload, 1) := by decide +kernel
theorem dX12_paid_101 : decode cX12_paid 101 = .ok (.iconst 1, 1) := by decide +kernel
theorem dX12_paid_102 : decode cX12_paid 102 = .ok (.iadd, 1) := by decide +kernel
theorem dX12_paid_103 : decode cX12_paid 103 = .ok (.iastore, 1) := by decide +kernel
theorem dX12_paid_104 : decode cX12_paid 104 = .ok (.aload_n 0, 1) := by decide +kernel
theorem dX12_paid_105 : decode cX12_paid 105 = .ok (.getfield 17, 3) := by decide +kernel
theorem dX12_paid_108 : decode cX12_paid 108 = .ok (.sipush 848, 3) := by decide +kernel
theorem dX12_paid_111 : decode cX12_paid 111 = .ok (.iaload, 1) := by decide +kernel
theorem dX12_paid_112 : decode cX12_paid 112 = .ok (.ireturn, 1) := by decide +kernel
theorem dX12_pages_0 : decode cX12_pages 0 = .ok (.aload_n 0, 1) := by decide +kernel
theorem dX12_pages_1 : decode cX12_pages 1 = .ok (.iconst 0, 1) := by decide +kernel
theorem dX12_pages_2 : decode cX12_pages 2 = .ok (.putfield 1, 3) := by decide +kernel
theorem dX12_pages_5 : decode cX12_pages 5 = .ok (.iload_n 1, 1) := by decide +kernel
theorem dX12_pages_6 : decode cX12_pages 6 = .ok (.i2l, 1) := by decide +kernel
theorem dX12_pages_7 : decode cX12_pages 7 = .ok (.lconst 0, 1) := by decide +kernel
theorem dX12_pages_8 : decode cX12_pages 8 = .ok (.ldc2_w 93, 3) := by decide +kernel
theorem dX12_pages_11 : decode cX12_pages 11 = .ok (.invokestatic 81, 3) := by decide +kernel
theorem dX12_pages_14 : decode cX12_pages 14 = .ok (.ifCond .eq 15, 3) := by decide +kernel
theorem dX12_pages_17 : decode cX12_pages 17 = .ok (.iload_n 2, 1) := by decide +kernel
theorem dX12_pages_18 : decode cX12_pages 18 = .ok (.i2l, 1) := by decide +kernel
theorem dX12_pages_19 : decode cX12_pages 19 = .ok (.lconst 1, 1) := by decide +kernel
theorem dX12_pages_20 : decode cX12_pages 20 = .ok (.ldc2_w 339, 3) := by decide +kernel
theorem dX12_pages_23 : decode cX12_pages 23 = .ok (.invokestatic 81, 3) := by decide +kernel
theorem dX12_pages_26 : decode cX12_pages 26 = .ok (.ifCond .ne 10, 3) := by decide +kernel
theorem dX12_pages_29 : decode cX12_pages 29 = .ok (.aload_n 0, 1) := by decide +kernel
theorem dX12_pages_30 : decode cX12_pages 30 = .ok (.bipush (-3), 2) := by decide +kernel
theorem dX12_pages_32 : decode cX12_pages 32 = .ok (.invokevirtual 85, 3) := by decide +kernel
theorem dX12_pages_35 : decode cX12_pages 35 = .ok (.ireturn, 1) := by decide +kernel
theorem dX12_pages_36 : decode cX12_pages 36 = .ok (.aload_n 0, 1) := by decide +kernel
theorem dX12_pages_37 : decode cX12_pages 37 = .ok (.getfield 17, 3) := by decide +kernel
theorem dX12_pages_40 : decode cX12_pages 40 = .ok (.sipush 889, 3) := by decide +kernel
theorem dX12_pages_43 : decode cX12_pages 43 = .ok (.iaload, 1) := by decide +kernel
theorem dX12_pages_44 : decode cX12_pages 44 = .ok (.bipush 40, 2) := by decide +kernel
theorem dX12_pages_46 : decode cX12_pages 46 = .ok (.if_icmp .ne 10, 3) := by decide +kernel
theorem dX12_pages_49 : decode cX12_pages 49 = .ok (.aload_n 0, 1) := by decide +kernel
theorem dX12_pages_50 : decode cX12_pages 50 = .ok (.bipush (-4), 2) := by decide +kernel
theorem dX12_pages_52 : decode cX12_pages 52 = .ok (.invokevirtual 85, 3) := by decide +kernel
theorem dX12_pages_55 : decode cX12_pages 55 = .ok (.ireturn, 1) := by decide +kernel
theorem dX12_pages_56 : decode cX12_pages 56 = .ok (.aload_n 0, 1) := by decide +kernel
theorem dX12_pages_57 : decode cX12_pages 57 = .ok (.getfield 17, 3) := by decide +kernel
theorem dX12_pages_60 : decode cX12_pages 60 = .ok (.sipush 890, 3) := by decide +kernel
theorem dX12_pages_63 : decode cX12_pages 63 = .ok (.aload_n 0, 1) := by decide +kernel
theorem dX12_pages_64 : decode cX12_pages 64 = .ok (.getfield 17, 3) := by decide +kernel
theorem dX12_pages_67 : decode cX12_pages 67 = .ok (.sipush 889, 3) := by decide +kernel
theorem dX12_pages_70 : decode cX12_pages 70 = .ok (.iaload, 1) := by decide +kernel
theorem dX12_pages_71 : decode cX12_pages 71 = .ok (.iadd, 1) := by decide +kernel
theorem dX12_pages_72 : decode cX12_pages 72 = .ok (.iload_n 1, 1) := by decide +kernel
theorem dX12_pages_73 : decode cX12_pages 73 = .ok (.iastore, 1) := by decide +kernel
theorem dX12_pages_74 : decode cX12_pages 74 = .ok (.aload_n 0, 1) := by decide +kernel
theorem dX12_pages_75 : decode cX12_pages 75 = .ok (.getfield 17, 3) := by decide +kernel
theorem dX12_pages_78 : decode cX12_pages 78 = .ok (.sipush 930, 3) := by decide +kernel
theorem dX12_pages_81 : decode cX12_pages 81 = .ok (.aload_n 0, 1) := by decide +kernel
theorem dX12_pages_82 : decode cX12_pages 82 = .ok (.getfield 17, 3) := by decide +kernel
theorem dX12_pages_85 : decode cX12_pages 85 = .ok (.sipush 889, 3) := by decide +kernel
theorem dX12_pages_88 : decode cX12_pages 88 = .ok (.iaload, 1) := by decide +kernel
theorem dX12_pages_89 : decode cX12_pages 89 = .ok (.iadd, 1) := by decide +kernel
theorem dX12_pages_90 : decode cX12_pages 90 = .ok (.iload_n 2, 1) := by decide +kernel
theorem dX12_pages_91 : decode cX12_pages 91 = .ok (.iastore, 1) := by decide +kernel
theorem dX12_pages_92 : decode cX12_pages 92 = .ok (.aload_n 0, 1) := by decide +kernel
theorem dX12_pages_93 : decode cX12_pages 93 = .ok (.getfield 17, 3) := by decide +kernel
theorem dX12_pages_96 : decode cX12_pages 96 = .ok (.sipush 889, 3) := by decide +kernel
theorem dX12_pages_99 : decode cX12_pages 99 = .ok (.dup2, 1) := by decide +kernel
theorem dX12_pages_100 : decode cX12_pages 100 = .ok (.iaload, 1) := by decide +kernel
theorem dX12_pages_101 : decode cX12_pages 101 = .ok (.iconst 1, 1) := by decide +kernel
theorem dX12_pages_102 : decode cX12_pages 102 = .ok (.iadd, 1) := by decide +kernel
theorem dX12_pages_103 : decode cX12_pages 103 = .ok (.iastore, 1) := by decide +kernel
theorem dX12_pages_104 : decode cX12_pages 104 = .ok (.aload_n 0, 1) := by decide +kernel
theorem dX12_pages_105 : decode cX12_pages 105 = .ok (.getfield 17, 3) := by decide +kernel
theorem dX12_pages_108 : decode cX12_pages 108 = .ok (.sipush 889, 3) := by decide +kernel
theorem dX12_pages_111 : decode cX12_pages 111 = .ok (.iaload, 1) := by decide +kernel
theorem dX12_pages_112 : decode cX12_pages 112 = .ok (.ireturn, 1) := by decide +kernel
theorem dX12_pagesIn_0 : decode cX12_pagesIn 0 = .ok (.iconst 0, 1) := by decide +kernel
theorem dX12_pagesIn_1 : decode cX12_pagesIn 1 = .ok (.istore_n 3, 1) := by decide +kernel
theorem dX12_pagesIn_2 : decode cX12_pagesIn 2 = .ok (.iconst 0, 1) := by decide +kernel
theorem dX12_pagesIn_3 : decode cX12_pagesIn 3 = .ok (.istore 4, 2) := by decide +kernel
theorem dX12_pagesIn_5 : decode cX12_pagesIn 5 = .ok (.iload 4, 2) := by decide +kernel
theorem dX12_pagesIn_7 : decode cX12_pagesIn 7 = .ok (.aload_n 0, 1) := by decide +kernel
theorem dX12_pagesIn_8 : decode cX12_pagesIn 8 = .ok (.getfield 17, 3) := by decide +kernel
theorem dX12_pagesIn_11 : decode cX12_pagesIn 11 = .ok (.sipush 889, 3) := by decide +kernel
theorem dX12_pagesIn_14 : decode cX12_pagesIn 14 = .ok (.iaload, 1) := by decide +kernel
theorem dX12_pagesIn_15 : decode cX12_pagesIn 15 = .ok (.if_icmp .ge 49, 3) := by decide +kernel
theorem dX12_pagesIn_18 : decode cX12_pagesIn 18 = .ok (.iload_n 3, 1) := by decide +kernel
theorem dX12_pagesIn_19 : decode cX12_pagesIn 19 = .ok (.aload_n 0, 1) := by decide +kernel
theorem dX12_pagesIn_20 : decode cX12_pagesIn 20 = .ok (.getfield 17, 3) := by decide +kernel
theorem dX12_pagesIn_23 : decode cX12_pagesIn 23 = .ok (.sipush 890, 3) := by decide +kernel
theorem dX12_pagesIn_26 : decode cX12_pagesIn 26 = .ok (.iload 4, 2) := by decide +kernel
theorem dX12_pagesIn_28 : decode cX12_pagesIn 28 = .ok (.iadd, 1) := by decide +kernel
theorem dX12_pagesIn_29 : decode cX12_pagesIn 29 = .ok (.iaload, 1) := by decide +kernel
theorem dX12_pagesIn_30 : decode cX12_pagesIn 30 = .ok (.i2l, 1) := by decide +kernel
theorem dX12_pagesIn_31 : decode cX12_pagesIn 31 = .ok (.iload_n 1, 1) := by decide +kernel
theorem dX12_pagesIn_32 : decode cX12_pagesIn 32 = .ok (.i2l, 1) := by decide +kernel
theorem dX12_pagesIn_33 : decode cX12_pagesIn 33 = .ok (.iload_n 2, 1) := by decide +kernel
theorem dX12_pagesIn_34 : decode cX12_pagesIn 34 = .ok (.i2l, 1) := by decide +kernel
theorem dX12_pagesIn_35 : decode cX12_pagesIn 35 = .ok (.invokestatic 81, 3) := by decide +kernel
theorem dX12_pagesIn_38 : decode cX12_pagesIn 38 = .ok (.ifCond .eq 17, 3) := by decide +kernel
theorem dX12_pagesIn_41 : decode cX12_pagesIn 41 = .ok (.aload_n 0, 1) := by decide +kernel
theorem dX12_pagesIn_42 : decode cX12_pagesIn 42 = .ok (.getfield 17, 3) := by decide +kernel
theorem dX12_pagesIn_45 : decode cX12_pagesIn 45 = .ok (.sipush 930, 3) := by decide +kernel
theorem dX12_pagesIn_48 : decode cX12_pagesIn 48 = .ok (.iload 4, 2) := by decide +kernel
theorem dX12_pagesIn_50 : decode cX12_pagesIn 50 = .ok (.iadd, 1) := by decide +kernel
theorem dX12_pagesIn_51 : decode cX12_pagesIn 51 = .ok (.iaload, 1) := by decide +kernel
theorem dX12_pagesIn_52 : decode cX12_pagesIn 52 = .ok (.goto 4, 3) := by decide +kernel
theorem dX12_pagesIn_55 : decode cX12_pagesIn 55 = .ok (.iconst 0, 1) := by decide +kernel
theorem dX12_pagesIn_56 : decode cX12_pagesIn 56 = .ok (.iadd, 1) := by decide +kernel
theorem dX12_pagesIn_57 : decode cX12_pagesIn 57 = .ok (.istore_n 3, 1) := by decide +kernel
theorem dX12_pagesIn_58 : decode cX12_pagesIn 58 = .ok (.iinc 4 1, 3) := by decide +kernel
theorem dX12_pagesIn_61 : decode cX12_pagesIn 61 = .ok (.goto (-56), 3) := by decide +kernel
theorem dX12_pagesIn_64 : decode cX12_pagesIn 64 = .ok (.iload_n 3, 1) := by decide +kernel
theorem dX12_pagesIn_65 : decode cX12_pagesIn 65 = .ok (.ireturn, 1) := by decide +kernel
theorem dX12_more_0 : decode cX12_more 0 = .ok (.aload_n 0, 1) := by decide +kernel
theorem dX12_more_1 : decode cX12_more 1 = .ok (.iconst 0, 1) := by decide +kernel
theorem dX12_more_2 : decode cX12_more 2 = .ok (.putfield 1, 3) := by decide +kernel
theorem dX12_more_5 : decode cX12_more 5 = .ok (.iload_n 1, 1) := by decide +kernel
theorem dX12_more_6 : decode cX12_more 6 = .ok (.i2l, 1) := by decide +kernel
theorem dX12_more_7 : decode cX12_more 7 = .ok (.lconst 0, 1) := by decide +kernel
theorem dX12_more_8 : decode cX12_more 8 = .ok (.lconst 1, 1) := by decide +kernel
theorem dX12_more_9 : decode cX12_more 9 = .ok (.invokestatic 81, 3) := by decide +kernel
theorem dX12_more_12 : decode cX12_more 12 = .ok (.ifCond .ne 10, 3) := by decide +kernel
theorem dX12_more_15 : decode cX12_more 15 = .ok (.aload_n 0, 1) := by decide +kernel
theorem dX12_more_16 : decode cX12_more 16 = .ok (.bipush (-2), 2) := by decide +kernel
theorem dX12_more_18 : decode cX12_more 18 = .ok (.invokevirtual 85, 3) := by decide +kernel
theorem dX12_more_21 : decode cX12_more 21 = .ok (.ireturn, 1) := by decide +kernel
theorem dX12_more_22 : decode cX12_more 22 = .ok (.iload_n 1, 1) := by decide +kernel
theorem dX12_more_23 : decode cX12_more 23 = .ok (.ifCond .ne 22, 3) := by decide +kernel
theorem dX12_more_26 : decode cX12_more 26 = .ok (.iload_n 2, 1) := by decide +kernel
theorem dX12_more_27 : decode cX12_more 27 = .ok (.i2l, 1) := by decide +kernel
theorem dX12_more_28 : decode cX12_more 28 = .ok (.lconst 1, 1) := by decide +kernel
theorem dX12_more_29 : decode cX12_more 29 = .ok (.ldc2_w 337, 3) := by decide +kernel
theorem dX12_more_32 : decode cX12_more 32 = .ok (.invokestatic 81, 3) := by decide +kernel
theorem dX12_more_35 : decode cX12_more 35 = .ok (.ifCond .ne 10, 3) := by decide +kernel
theorem dX12_more_38 : decode cX12_more 38 = .ok (.aload_n 0, 1) := by decide +kernel
theorem dX12_more_39 : decode cX12_more 39 = .ok (.bipush (-3), 2) := by decide +kernel
theorem dX12_more_41 : decode cX12_more 41 = .ok (.invokevirtual 85, 3) := by decide +kernel
theorem dX12_more_44 : decode cX12_more 44 = .ok (.ireturn, 1) := by decide +kernel
theorem dX12_more_45 : decode cX12_more 45 = .ok (.iconst 0, 1) := by decide +kernel
theorem dX12_more_46 : decode cX12_more 46 = .ok (.istore_n 3, 1) := by decide +kernel
theorem dX12_more_47 : decode cX12_more 47 = .ok (.iconst 0, 1) := by decide +kernel
theorem dX12_more_48 : decode cX12_more 48 = .ok (.istore 4, 2) := by decide +kernel
theorem dX12_more_50 : decode cX12_more 50 = .ok (.iload 4, 2) := by decide +kernel
theorem dX12_more_52 : decode cX12_more 52 = .ok (.aload_n 0, 1) := by decide +kernel
theorem dX12_more_53 : decode cX12_more 53 = .ok (.getfield 17, 3) := by decide +kernel
theorem dX12_more_56 : decode cX12_more 56 = .ok (.sipush 848, 3) := by decide +kernel
theorem dX12_more_59 : decode cX12_more 59 = .ok (.iaload, 1) := by decide +kernel
theorem dX12_more_60 : decode cX12_more 60 = .ok (.if_icmp .ge 69, 3) := by decide +kernel
theorem dX12_more_63 : decode cX12_more 63 = .ok (.aload_n 0, 1) := by decide +kernel
theorem dX12_more_64 : decode cX12_more 64 = .ok (.getfield 17, 3) := by decide +kernel
theorem dX12_more_67 : decode cX12_more 67 = .ok (.sipush 849, 3) := by decide +kernel
theorem dX12_more_70 : decode cX12_more 70 = .ok (.iload 4, 2) := by decide +kernel
theorem dX12_more_72 : decode cX12_more 72 = .ok (.iadd, 1) := by decide +kernel
theorem dX12_more_73 : decode cX12_more 73 = .ok (.iaload, 1) := by decide +kernel
theorem dX12_more_74 : decode cX12_more 74 = .ok (.istore 5, 2) := by decide +kernel
theorem dX12_more_76 : decode cX12_more 76 = .ok (.iload_n 3, 1) := by decide +kernel
theorem dX12_more_77 : decode cX12_more 77 = .ok (.iload_n 1, 1) := by decide +kernel
theorem dX12_more_78 : decode cX12_more 78 = .ok (.iconst 1, 1) := by decide +kernel
theorem dX12_more_79 : decode cX12_more 79 = .ok (.if_icmp .ne 17, 3) := by decide +kernel
theorem dX12_more_82 : decode cX12_more 82 = .ok (.aload_n 0, 1) := by decide +kernel
theorem dX12_more_83 : decode cX12_more 83 = .ok (.getfield 17, 3) := by decide +kernel
theorem dX12_more_86 : decode cX12_more 86 = .ok (.sipush 869, 3) := by decide +kernel
theorem dX12_more_89 : decode cX12_more 89 = .ok (.iload 4, 2) := by decide +kernel
theorem dX12_more_91 : decode cX12_more 91 = .ok (.iadd, 1) := by decide +kernel
theorem dX12_more_92 : decode cX12_more 92 = .ok (.iaload, 1) := by decide +kernel
theorem dX12_more_93 : decode cX12_more 93 = .ok (.goto 28, 3) := by decide +kernel
theorem dX12_more_96 : decode cX12_more 96 = .ok (.aload_n 0, 1) := by decide +kernel
theorem dX12_more_97 : decode cX12_more 97 = .ok (.iload 5, 2) := by decide +kernel
theorem dX12_more_99 : decode cX12_more 99 = .ok (.iconst 1, 1) := by decide +kernel
theorem dX12_more_100 : decode cX12_more 100 = .ok (.iadd, 1) := by decide +kernel
theorem dX12_more_101 : decode cX12_more 101 = .ok (.iload 5, 2) := by decide +kernel
theorem dX12_more_103 : decode cX12_more 103 = .ok (.iload_n 2, 1) := by decide +kernel
theorem dX12_more_104 : decode cX12_more 104 = .ok (.iadd, 1) := by decide +kernel
theorem dX12_more_105 : decode cX12_more 105 = .ok (.invokevirtual 341, 3) := by decide +kernel
theorem dX12_more_108 : decode cX12_more 108 = .ok (.aload_n 0, 1) := by decide +kernel
theorem dX12_more_109 : decode cX12_more 109 = .ok (.iload 5, 2) := by decide +kernel
theorem dX12_more_111 : decode cX12_more 111 = .ok (.iload_n 2, 1) := by decide +kernel
theorem dX12_more_112 : decode cX12_more 112 = .ok (.isub, 1) := by decide +kernel
theorem dX12_more_113 : decode cX12_more 113 = .ok (.iload 5, 2) := by decide +kernel
theorem dX12_more_115 : decode cX12_more 115 = .ok (.iconst 1, 1) := by decide +kernel
theorem dX12_more_116 : decode cX12_more 116 = .ok (.isub, 1) := by decide +kernel
theorem dX12_more_117 : decode cX12_more 117 = .ok (.invokevirtual 341, 3) := by decide +kernel
theorem dX12_more_120 : decode cX12_more 120 = .ok (.isub, 1) := by decide +kernel
theorem dX12_more_121 : decode cX12_more 121 = .ok (.iadd, 1) := by decide +kernel
theorem dX12_more_122 : decode cX12_more 122 = .ok (.istore_n 3, 1) := by decide +kernel
theorem dX12_more_123 : decode cX12_more 123 = .ok (.iinc 4 1, 3) := by decide +kernel
theorem dX12_more_126 : decode cX12_more 126 = .ok (.goto (-76), 3) := by decide +kernel
theorem dX12_more_129 : decode cX12_more 129 = .ok (.iload_n 3, 1) := by decide +kernel
theorem dX12_more_130 : decode cX12_more 130 = .ok (.ireturn, 1) := by decide +kernel
theorem dX12_free_0 : decode cX12_free 0 = .ok (.aload_n 0, 1) := by decide +kernel
theorem dX12_free_1 : decode cX12_free 1 = .ok (.iconst 0, 1) := by decide +kernel
theorem dX12_free_2 : decode cX12_free 2 = .ok (.putfield 1, 3) := by decide +kernel
theorem dX12_free_5 : decode cX12_free 5 = .ok (.iload_n 1, 1) := by decide +kernel
theorem dX12_free_6 : decode cX12_free 6 = .ok (.i2l, 1) := by decide +kernel
theorem dX12_free_7 : decode cX12_free 7 = .ok (.lconst 0, 1) := by decide +kernel
theorem dX12_free_8 : decode cX12_free 8 = .ok (.ldc2_w 93, 3) := by decide +kernel
theorem dX12_free_11 : decode cX12_free 11 = .ok (.invokestatic 81, 3) := by decide +kernel
theorem dX12_free_14 : decode cX12_free 14 = .ok (.ifCond .eq 16, 3) := by decide +kernel
theorem dX12_free_17 : decode cX12_free 17 = .ok (.iload_n 2, 1) := by decide +kernel
theorem dX12_free_18 : decode cX12_free 18 = .ok (.i2l, 1) := by decide +kernel
theorem dX12_free_19 : decode cX12_free 19 = .ok (.iload_n 1, 1) := by decide +kernel
theorem dX12_free_20 : decode cX12_free 20 = .ok (.i2l, 1) := by decide +kernel
theorem dX12_free_21 : decode cX12_free 21 = .ok (.ldc2_w 93, 3) := by decide +kernel
theorem dX12_free_24 : decode cX12_free 24 = .ok (.invokestatic 81, 3) := by decide +kernel
theorem dX12_free_27 : decode cX12_free 27 = .ok (.ifCond .ne 10, 3) := by decide +kernel
theorem dX12_free_30 : decode cX12_free 30 = .ok (.aload_n 0, 1) := by decide +kernel
theorem dX12_free_31 : decode cX12_free 31 = .ok (.bipush (-3), 2) := by decide +kernel
theorem dX12_free_33 : decode cX12_free 33 = .ok (.invokevirtual 85, 3) := by decide +kernel
theorem dX12_free_36 : decode cX12_free 36 = .ok (.ireturn, 1) := by decide +kernel
theorem dX12_free_37 : decode cX12_free 37 = .ok (.aload_n 0, 1) := by decide +kernel
theorem dX12_free_38 : decode cX12_free 38 = .ok (.getfield 17, 3) := by decide +kernel
theorem dX12_free_41 : decode cX12_free 41 = .ok (.sipush 970, 3) := by decide +kernel
theorem dX12_free_44 : decode cX12_free 44 = .ok (.iaload, 1) := by decide +kernel
theorem dX12_free_45 : decode cX12_free 45 = .ok (.bipush 8, 2) := by decide +kernel
theorem dX12_free_47 : decode cX12_free 47 = .ok (.if_icmp .ne 10, 3) := by decide +kernel
theorem dX12_free_50 : decode cX12_free 50 = .ok (.aload_n 0, 1) := by decide +kernel
theorem dX12_free_51 : decode cX12_free 51 = .ok (.bipush (-4), 2) := by decide +kernel
theorem dX12_free_53 : decode cX12_free 53 = .ok (.invokevirtual 85, 3) := by decide +kernel
theorem dX12_free_56 : decode cX12_free 56 = .ok (.ireturn, 1) := by decide +kernel
theorem dX12_free_57 : decode cX12_free 57 = .ok (.aload_n 0, 1) := by decide +kernel
theorem dX12_free_58 : decode cX12_free 58 = .ok (.getfield 17, 3) := by decide +kernel
theorem dX12_free_61 : decode cX12_free 61 = .ok (.sipush 971, 3) := by decide +kernel
theorem dX12_free_64 : decode cX12_free 64 = .ok (.aload_n 0, 1) := by decide +kernel
theorem dX12_free_65 : decode cX12_free 65 = .ok (.getfield 17, 3) := by decide +kernel
theorem dX12_free_68 : decode cX12_free 68 = .ok (.sipush 970, 3) := by decide +kernel
theorem dX12_free_71 : decode cX12_free 71 = .ok (.iaload, 1) := by decide +kernel
theorem dX12_free_72 : decode cX12_free 72 = .ok (.iadd, 1) := by decide +kernel
theorem dX12_free_73 : decode cX12_free 73 = .ok (.iload_n 1, 1) := by decide +kernel
theorem dX12_free_74 : decode cX12_free 74 = .ok (.iastore, 1) := by decide +kernel
theorem dX12_free_75 : decode cX12_free 75 = .ok (.aload_n 0, 1) := by decide +kernel
theorem dX12_free_76 : decode cX12_free 76 = .ok (.getfield 17, 3) := by decide +kernel
theorem dX12_free_79 : decode cX12_free 79 = .ok (.sipush 979, 3) := by decide +kernel
theorem dX12_free_82 : decode cX12_free 82 = .ok (.aload_n 0, 1) := by decide +kernel
theorem dX12_free_83 : decode cX12_free 83 = .ok (.getfield 17, 3) := by decide +kernel
theorem dX12_free_86 : decode cX12_free 86 = .ok (.sipush 970, 3) := by decide +kernel
theorem dX12_free_89 : decode cX12_free 89 = .ok (.iaload, 1) := by decide +kernel
theorem dX12_free_90 : decode cX12_free 90 = .ok (.iadd, 1) := by decide +kernel
theorem dX12_free_91 : decode cX12_free 91 = .ok (.iload_n 2, 1) := by decide +kernel
theorem dX12_free_92 : decode cX12_free 92 = .ok (.iastore, 1) := by decide +kernel
theorem dX12_free_93 : decode cX12_free 93 = .ok (.aload_n 0, 1) := by decide +kernel
theorem dX12_free_94 : decode cX12_free 94 = .ok (.getfield 17, 3) := by decide +kernel
theorem dX12_free_97 : decode cX12_free 97 = .ok (.sipush 970, 3) := by decide +kernel
theorem dX12_free_100 : decode cX12_free 100 = .ok (.dup2, 1) := by decide +kernel
theorem dX12_free_101 : decode cX12_free 101 = .ok (.iaload, 1) := by decide +kernel
theorem dX12_free_102 : decode cX12_free 102 = .ok (.iconst 1, 1) := by decide +kernel
theorem dX12_free_103 : decode cX12_free 103 = .ok (.iadd, 1) := by decide +kernel
theorem dX12_free_104 : decode cX12_free 104 = .ok (.iastore, 1) := by decide +kernel
theorem dX12_free_105 : decode cX12_free 105 = .ok (.aload_n 0, 1) := by decide +kernel
theorem dX12_free_106 : decode cX12_free 106 = .ok (.getfield 17, 3) := by decide +kernel
theorem dX12_free_109 : decode cX12_free 109 = .ok (.sipush 970, 3) := by decide +kernel
theorem dX12_free_112 : decode cX12_free 112 = .ok (.iaload, 1) := by decide +kernel
theorem dX12_free_113 : decode cX12_free 113 = .ok (.ireturn, 1) := by decide +kernel
theorem dX12_isFree_0 : decode cX12_isFree 0 = .ok (.iconst 0, 1) := by decide +kernel
theorem dX12_isFree_1 : decode cX12_isFree 1 = .ok (.istore_n 2, 1) := by decide +kernel
theorem dX12_isFree_2 : decode cX12_isFree 2 = .ok (.iconst 0, 1) := by decide +kernel
theorem dX12_isFree_3 : decode cX12_isFree 3 = .ok (.istore_n 3, 1) := by decide +kernel
theorem dX12_isFree_4 : decode cX12_isFree 4 = .ok (.iload_n 3, 1) := by decide +kernel
theorem dX12_isFree_5 : decode cX12_isFree 5 = .ok (.aload_n 0, 1) := by decide +kernel
theorem dX12_isFree_6 : decode cX12_isFree 6 = .ok (.getfield 17, 3) := by decide +kernel
theorem dX12_isFree_9 : decode cX12_isFree 9 = .ok (.sipush 970, 3) := by decide +kernel
theorem dX12_isFree_12 : decode cX12_isFree 12 = .ok (.iaload, 1) := by decide +kernel
theorem dX12_isFree_13 : decode cX12_isFree 13 = .ok (.if_icmp .ge 49, 3) := by decide +kernel
theorem dX12_isFree_16 : decode cX12_isFree 16 = .ok (.iload_n 2, 1) := by decide +kernel
theorem dX12_isFree_17 : decode cX12_isFree 17 = .ok (.ifCond .ne 33, 3) := by decide +kernel
theorem dX12_isFree_20 : decode cX12_isFree 20 = .ok (.iload_n 1, 1) := by decide +kernel
theorem dX12_isFree_21 : decode cX12_isFree 21 = .ok (.i2l, 1) := by decide +kernel
theorem dX12_isFree_22 : decode cX12_isFree 22 = .ok (.aload_n 0, 1) := by decide +kernel
theorem dX12_isFree_23 : decode cX12_isFree 23 = .ok (.getfield 17, 3) := by decide +kernel
theorem dX12_isFree_26 : decode cX12_isFree 26 = .ok (.sipush 971, 3) := by decide +kernel
theorem dX12_isFree_29 : decode cX12_isFree 29 = .ok (.iload_n 3, 1) := by decide +kernel
theorem dX12_isFree_30 : decode cX12_isFree 30 = .ok (.iadd, 1) := by decide +kernel
theorem dX12_isFree_31 : decode cX12_isFree 31 = .ok (.iaload, 1) := by decide +kernel
theorem dX12_isFree_32 : decode cX12_isFree 32 = .ok (.i2l, 1) := by decide +kernel
theorem dX12_isFree_33 : decode cX12_isFree 33 = .ok (.aload_n 0, 1) := by decide +kernel
theorem dX12_isFree_34 : decode cX12_isFree 34 = .ok (.getfield 17, 3) := by decide +kernel
theorem dX12_isFree_37 : decode cX12_isFree 37 = .ok (.sipush 979, 3) := by decide +kernel
theorem dX12_isFree_40 : decode cX12_isFree 40 = .ok (.iload_n 3, 1) := by decide +kernel
theorem dX12_isFree_41 : decode cX12_isFree 41 = .ok (.iadd, 1) := by decide +kernel
theorem dX12_isFree_42 : decode cX12_isFree 42 = .ok (.iaload, 1) := by decide +kernel
theorem dX12_isFree_43 : decode cX12_isFree 43 = .ok (.i2l, 1) := by decide +kernel
theorem dX12_isFree_44 : decode cX12_isFree 44 = .ok (.invokestatic 81, 3) := by decide +kernel
theorem dX12_isFree_47 : decode cX12_isFree 47 = .ok (.ifCond .eq 7, 3) := by decide +kernel
theorem dX12_isFree_50 : decode cX12_isFree 50 = .ok (.iconst 1, 1) := by decide +kernel
theorem dX12_isFree_51 : decode cX12_isFree 51 = .ok (.goto 4, 3) := by decide +kernel
theorem dX12_isFree_54 : decode cX12_isFree 54 = .ok (.iconst 0, 1) := by decide +kernel
theorem dX12_isFree_55 : decode cX12_isFree 55 = .ok (.istore_n 2, 1) := by decide +kernel
theorem dX12_isFree_56 : decode cX12_isFree 56 = .ok (.iinc 3 1, 3) := by decide +kernel
theorem dX12_isFree_59 : decode cX12_isFree 59 = .ok (.goto (-55), 3) := by decide +kernel
theorem dX12_isFree_62 : decode cX12_isFree 62 = .ok (.iload_n 2, 1) := by decide +kernel
theorem dX12_isFree_63 : decode cX12_isFree 63 = .ok (.ireturn, 1) := by decide +kernel
theorem dX12_freeUpTo_0 : decode cX12_freeUpTo 0 = .ok (.iconst 0, 1) := by decide +kernel
theorem dX12_freeUpTo_1 : decode cX12_freeUpTo 1 = .ok (.istore_n 2, 1) := by decide +kernel
theorem dX12_freeUpTo_2 : decode cX12_freeUpTo 2 = .ok (.iconst 0, 1) := by decide +kernel
theorem dX12_freeUpTo_3 : decode cX12_freeUpTo 3 = .ok (.istore_n 3, 1) := by decide +kernel
theorem dX12_freeUpTo_4 : decode cX12_freeUpTo 4 = .ok (.iload_n 3, 1) := by decide +kernel
theorem dX12_freeUpTo_5 : decode cX12_freeUpTo 5 = .ok (.iload_n 1, 1) := by decide +kernel
theorem dX12_freeUpTo_6 : decode cX12_freeUpTo 6 = .ok (.if_icmp .gt 25, 3) := by decide +kernel
theorem dX12_freeUpTo_9 : decode cX12_freeUpTo 9 = .ok (.iload_n 2, 1) := by decide +kernel
theorem dX12_freeUpTo_10 : decode cX12_freeUpTo 10 = .ok (.aload_n 0, 1) := by decide +kernel
theorem dX12_freeUpTo_11 : decode cX12_freeUpTo 11 = .ok (.iload_n 3, 1) := by decide +kernel
theorem dX12_freeUpTo_12 : decode cX12_freeUpTo 12 = .ok (.invokevirtual 344, 3) := by decide +kernel
theorem dX12_freeUpTo_15 : decode cX12_freeUpTo 15 = .ok (.ifCond .eq 7, 3) := by decide +kernel
theorem dX12_freeUpTo_18 : decode cX12_freeUpTo 18 = .ok (.iconst 1, 1) := by decide +kernel
theorem dX12_freeUpTo_19 : decode cX12_freeUpTo 19 = .ok (.goto 4, 3) := by decide +kernel
theorem dX12_freeUpTo_22 : decode cX12_freeUpTo 22 = .ok (.iconst 0, 1) := by decide +kernel
theorem dX12_freeUpTo_23 : decode cX12_freeUpTo 23 = .ok (.iadd, 1) := by decide +kernel
theorem dX12_freeUpTo_24 : decode cX12_freeUpTo 24 = .ok (.istore_n 2, 1) := by decide +kernel
theorem dX12_freeUpTo_25 : decode cX12_freeUpTo 25 = .ok (.iinc 3 1, 3) := by decide +kernel
theorem dX12_freeUpTo_28 : decode cX12_freeUpTo 28 = .ok (.goto (-24), 3) := by decide +kernel
theorem dX12_freeUpTo_31 : decode cX12_freeUpTo 31 = .ok (.iload_n 2, 1) := by decide +kernel
theorem dX12_freeUpTo_32 : decode cX12_freeUpTo 32 = .ok (.ireturn, 1) := by decide +kernel
theorem dX12_rate_0 : decode cX12_rate 0 = .ok (.aload_n 0, 1) := by decide +kernel
theorem dX12_rate_1 : decode cX12_rate 1 = .ok (.iconst 0, 1) := by decide +kernel
theorem dX12_rate_2 : decode cX12_rate 2 = .ok (.putfield 1, 3) := by decide +kernel
theorem dX12_rate_5 : decode cX12_rate 5 = .ok (.aload_n 0, 1) := by decide +kernel
theorem dX12_rate_6 : decode cX12_rate 6 = .ok (.getfield 17, 3) := by decide +kernel
theorem dX12_rate_9 : decode cX12_rate 9 = .ok (.sipush 889, 3) := by decide +kernel
theorem dX12_rate_12 : decode cX12_rate 12 = .ok (.iaload, 1) := by decide +kernel
theorem dX12_rate_13 : decode cX12_rate 13 = .ok (.ifCond .ne 10, 3) := by decide +kernel
theorem dX12_rate_16 : decode cX12_rate 16 = .ok (.aload_n 0, 1) := by decide +kernel
theorem dX12_rate_17 : decode cX12_rate 17 = .ok (.bipush (-5), 2) := by decide +kernel
theorem dX12_rate_19 : decode cX12_rate 19 = .ok (.invokevirtual 85, 3) := by decide +kernel
theorem dX12_rate_22 : decode cX12_rate 22 = .ok (.ireturn, 1) := by decide +kernel
theorem dX12_rate_23 : decode cX12_rate 23 = .ok (.iconst 1, 1) := by decide +kernel
theorem dX12_rate_24 : decode cX12_rate 24 = .ok (.istore_n 1, 1) := by decide +kernel
theorem dX12_rate_25 : decode cX12_rate 25 = .ok (.iconst 0, 1) := by decide +kernel
theorem dX12_rate_26 : decode cX12_rate 26 = .ok (.istore_n 2, 1) := by decide +kernel
theorem dX12_rate_27 : decode cX12_rate 27 = .ok (.iload_n 2, 1) := by decide +kernel
theorem dX12_rate_28 : decode cX12_rate 28 = .ok (.aload_n 0, 1) := by decide +kernel
theorem dX12_rate_29 : decode cX12_rate 29 = .ok (.getfield 17, 3) := by decide +kernel
theorem dX12_rate_32 : decode cX12_rate 32 = .ok (.sipush 889, 3) := by decide +kernel
theorem dX12_rate_35 : decode cX12_rate 35 = .ok (.iaload, 1) := by decide +kernel
theorem dX12_rate_36 : decode cX12_rate 36 = .ok (.if_icmp .ge 70, 3) := by decide +kernel
theorem dX12_rate_39 : decode cX12_rate 39 = .ok (.aload_n 0, 1) := by decide +kernel
theorem dX12_rate_40 : decode cX12_rate 40 = .ok (.aload_n 0, 1) := by decide +kernel
theorem dX12_rate_41 : decode cX12_rate 41 = .ok (.getfield 17, 3) := by decide +kernel
theorem dX12_rate_44 : decode cX12_rate 44 = .ok (.sipush 890, 3) := by decide +kernel
theorem dX12_rate_47 : decode cX12_rate 47 = .ok (.iload_n 2, 1) := by decide +kernel
theorem dX12_rate_48 : decode cX12_rate 48 = .ok (.iadd, 1) := by decide +kernel
theorem dX12_rate_49 : decode cX12_rate 49 = .ok (.iaload, 1) := by decide +kernel
theorem dX12_rate_50 : decode cX12_rate 50 = .ok (.invokevirtual 347, 3) := by decide +kernel
theorem dX12_rate_53 : decode cX12_rate 53 = .ok (.istore_n 3, 1) := by decide +kernel
theorem dX12_rate_54 : decode cX12_rate 54 = .ok (.aload_n 0, 1) := by decide +kernel
theorem dX12_rate_55 : decode cX12_rate 55 = .ok (.iconst 0, 1) := by decide +kernel
theorem dX12_rate_56 : decode cX12_rate 56 = .ok (.aload_n 0, 1) := by decide +kernel
theorem dX12_rate_57 : decode cX12_rate 57 = .ok (.getfield 17, 3) := by decide +kernel
theorem dX12_rate_60 : decode cX12_rate 60 = .ok (.sipush 890, 3) := by decide +kernel
theorem dX12_rate_63 : decode cX12_rate 63 = .ok (.iload_n 2, 1) := by decide +kernel
theorem dX12_rate_64 : decode cX12_rate 64 = .ok (.iadd, 1) := by decide +kernel
theorem dX12_rate_65 : decode cX12_rate 65 = .ok (.iaload, 1) := by decide +kernel
theorem dX12_rate_66 : decode cX12_rate 66 = .ok (.invokevirtual 341, 3) := by decide +kernel
theorem dX12_rate_69 : decode cX12_rate 69 = .ok (.istore 4, 2) := by decide +kernel
theorem dX12_rate_71 : decode cX12_rate 71 = .ok (.iload_n 3, 1) := by decide +kernel
theorem dX12_rate_72 : decode cX12_rate 72 = .ok (.ifCond .ne 5, 3) := by decide +kernel
theorem dX12_rate_75 : decode cX12_rate 75 = .ok (.iconst (-1), 1) := by decide +kernel
theorem dX12_rate_76 : decode cX12_rate 76 = .ok (.ireturn, 1) := by decide +kernel
theorem dX12_rate_77 : decode cX12_rate 77 = .ok (.iload 4, 2) := by decide +kernel
theorem dX12_rate_79 : decode cX12_rate 79 = .ok (.iload_n 3, 1) := by decide +kernel
theorem dX12_rate_80 : decode cX12_rate 80 = .ok (.iadd, 1) := by decide +kernel
theorem dX12_rate_81 : decode cX12_rate 81 = .ok (.iconst 1, 1) := by decide +kernel
theorem dX12_rate_82 : decode cX12_rate 82 = .ok (.isub, 1) := by decide +kernel
theorem dX12_rate_83 : decode cX12_rate 83 = .ok (.iload_n 3, 1) := by decide +kernel
theorem dX12_rate_84 : decode cX12_rate 84 = .ok (.idiv, 1) := by decide +kernel
theorem dX12_rate_85 : decode cX12_rate 85 = .ok (.istore 5, 2) := by decide +kernel
theorem dX12_rate_87 : decode cX12_rate 87 = .ok (.iload 5, 2) := by decide +kernel
theorem dX12_rate_89 : decode cX12_rate 89 = .ok (.iload_n 1, 1) := by decide +kernel
theorem dX12_rate_90 : decode cX12_rate 90 = .ok (.if_icmp .le 8, 3) := by decide +kernel
theorem dX12_rate_93 : decode cX12_rate 93 = .ok (.iload 5, 2) := by decide +kernel
theorem dX12_rate_95 : decode cX12_rate 95 = .ok (.goto 4, 3) := by decide +kernel
theorem dX12_rate_98 : decode cX12_rate 98 = .ok (.iload_n 1, 1) := by decide +kernel
theorem dX12_rate_99 : decode cX12_rate 99 = .ok (.istore_n 1, 1) := by decide +kernel
theorem dX12_rate_100 : decode cX12_rate 100 = .ok (.iinc 2 1, 3) := by decide +kernel
theorem dX12_rate_103 : decode cX12_rate 103 = .ok (.goto (-76), 3) := by decide +kernel
theorem dX12_rate_106 : decode cX12_rate 106 = .ok (.iload_n 1, 1) := by decide +kernel
theorem dX12_rate_107 : decode cX12_rate 107 = .ok (.bipush 99, 2) := by decide +kernel
theorem dX12_rate_109 : decode cX12_rate 109 = .ok (.if_icmp .le 7, 3) := by decide +kernel
theorem dX12_rate_112 : decode cX12_rate 112 = .ok (.iconst (-1), 1) := by decide +kernel
theorem dX12_rate_113 : decode cX12_rate 113 = .ok (.goto 4, 3) := by decide +kernel
theorem dX12_rate_116 : decode cX12_rate 116 = .ok (.iload_n 1, 1) := by decide +kernel
theorem dX12_rate_117 : decode cX12_rate 117 = .ok (.ireturn, 1) := by decide +kernel
theorem dX12_world_0 : decode cX12_world 0 = .ok (.aload_n 0, 1) := by decide +kernel
theorem dX12_world_1 : decode cX12_world 1 = .ok (.iconst 0, 1) := by decide +kernel
theorem dX12_world_2 : decode cX12_world 2 = .ok (.putfield 1, 3) := by decide +kernel
theorem dX12_world_5 : decode cX12_world 5 = .ok (.iload_n 1, 1) := by decide +kernel
theorem dX12_world_6 : decode cX12_world 6 = .ok (.i2l, 1) := by decide +kernel
theorem dX12_world_7 : decode cX12_world 7 = .ok (.lconst 1, 1) := by decide +kernel
theorem dX12_world_8 : decode cX12_world 8 = .ok (.ldc2_w 339, 3) := by decide +kernel
theorem dX12_world_11 : decode cX12_world 11 = .ok (.invokestatic 81, 3) := by decide +kernel
theorem dX12_world_14 : decode cX12_world 14 = .ok (.ifCond .ne 10, 3) := by decide +kernel
theorem dX12_world_17 : decode cX12_world 17 = .ok (.aload_n 0, 1) := by decide +kernel
theorem dX12_world_18 : decode cX12_world 18 = .ok (.bipush (-3), 2) := by decide +kernel
theorem dX12_world_20 : decode cX12_world 20 = .ok (.invokevirtual 85, 3) := by decide +kernel
theorem dX12_world_23 : decode cX12_world 23 = .ok (.ireturn, 1) := by decide +kernel
theorem dX12_world_24 : decode cX12_world 24 = .ok (.aload_n 0, 1) := by decide +kernel
theorem dX12_world_25 : decode cX12_world 25 = .ok (.getfield 17, 3) := by decide +kernel
theorem dX12_world_28 : decode cX12_world 28 = .ok (.sipush 987, 3) := by decide +kernel
theorem dX12_world_31 : decode cX12_world 31 = .ok (.iaload, 1) := by decide +kernel
theorem dX12_world_32 : decode cX12_world 32 = .ok (.bipush 8, 2) := by decide +kernel
theorem dX12_world_34 : decode cX12_world 34 = .ok (.if_icmp .ne 10, 3) := by decide +kernel
theorem dX12_world_37 : decode cX12_world 37 = .ok (.aload_n 0, 1) := by decide +kernel
theorem dX12_world_38 : decode cX12_world 38 = .ok (.bipush (-4), 2) := by decide +kernel
theorem dX12_world_40 : decode cX12_world 40 = .ok (.invokevirtual 85, 3) := by decide +kernel
theorem dX12_world_43 : decode cX12_world 43 = .ok (.ireturn, 1) := by decide +kernel
theorem dX12_world_44 : decode cX12_world 44 = .ok (.aload_n 0, 1) := by decide +kernel
theorem dX12_world_45 : decode cX12_world 45 = .ok (.getfield 17, 3) := by decide +kernel
theorem dX12_world_48 : decode cX12_world 48 = .ok (.sipush 988, 3) := by decide +kernel
theorem dX12_world_51 : decode cX12_world 51 = .ok (.aload_n 0, 1) := by decide +kernel
theorem dX12_world_52 : decode cX12_world 52 = .ok (.getfield 17, 3) := by decide +kernel
theorem dX12_world_55 : decode cX12_world 55 = .ok (.sipush 987, 3) := by decide +kernel
theorem dX12_world_58 : decode cX12_world 58 = .ok (.iaload, 1) := by decide +kernel
theorem dX12_world_59 : decode cX12_world 59 = .ok (.iadd, 1) := by decide +kernel
theorem dX12_world_60 : decode cX12_world 60 = .ok (.iload_n 1, 1) := by decide +kernel
theorem dX12_world_61 : decode cX12_world 61 = .ok (.iastore, 1) := by decide +kernel
theorem dX12_world_62 : decode cX12_world 62 = .ok (.iconst 0, 1) := by decide +kernel
theorem dX12_world_63 : decode cX12_world 63 = .ok (.istore_n 2, 1) := by decide +kernel
theorem dX12_world_64 : decode cX12_world 64 = .ok (.iload_n 2, 1) := by decide +kernel
theorem dX12_world_65 : decode cX12_world 65 = .ok (.bipush 16, 2) := by decide +kernel
theorem dX12_world_67 : decode cX12_world 67 = .ok (.if_icmp .ge 32, 3) := by decide +kernel
theorem dX12_world_70 : decode cX12_world 70 = .ok (.aload_n 0, 1) := by decide +kernel
theorem dX12_world_71 : decode cX12_world 71 = .ok (.getfield 17, 3) := by decide +kernel
theorem dX12_world_74 : decode cX12_world 74 = .ok (.sipush 996, 3) := by decide +kernel
theorem dX12_world_77 : decode cX12_world 77 = .ok (.bipush 16, 2) := by decide +kernel
theorem dX12_world_79 : decode cX12_world 79 = .ok (.aload_n 0, 1) := by decide +kernel
theorem dX12_world_80 : decode cX12_world 80 = .ok (.getfield 17, 3) := by decide +kernel
theorem dX12_world_83 : decode cX12_world 83 = .ok (.sipush 987, 3) := by decide +kernel
theorem dX12_world_86 : decode cX12_world 86 = .ok (.iaload, 1) := by decide +kernel
theorem dX12_world_87 : decode cX12_world 87 = .ok (.imul, 1) := by decide +kernel
theorem dX12_world_88 : decode cX12_world 88 = .ok (.iadd, 1) := by decide +kernel
theorem dX12_world_89 : decode cX12_world 89 = .ok (.iload_n 2, 1) := by decide +kernel
theorem dX12_world_90 : decode cX12_world 90 = .ok (.iadd, 1) := by decide +kernel
theorem dX12_world_91 : decode cX12_world 91 = .ok (.iconst 0, 1) := by decide +kernel
theorem dX12_world_92 : decode cX12_world 92 = .ok (.iastore, 1) := by decide +kernel
theorem dX12_world_93 : decode cX12_world 93 = .ok (.iinc 2 1, 3) := by decide +kernel
theorem dX12_world_96 : decode cX12_world 96 = .ok (.goto (-32), 3) := by decide +kernel
theorem dX12_world_99 : decode cX12_world 99 = .ok (.aload_n 0, 1) := by decide +kernel
theorem dX12_world_100 : decode cX12_world 100 = .ok (.getfield 17, 3) := by decide +kernel
theorem dX12_world_103 : decode cX12_world 103 = .ok (.sipush 987, 3) := by decide +kernel
theorem dX12_world_106 : decode cX12_world 106 = .ok (.dup2, 1) := by decide +kernel
theorem dX12_world_107 : decode cX12_world 107 = .ok (.iaload, 1) := by decide +kernel
theorem dX12_world_108 : decode cX12_world 108 = .ok (.iconst 1, 1) := by decide +kernel
theorem dX12_world_109 : decode cX12_world 109 = .ok (.iadd, 1) := by decide +kernel
theorem dX12_world_110 : decode cX12_world 110 = .ok (.iastore, 1) := by decide +kernel
theorem dX12_world_111 : decode cX12_world 111 = .ok (.aload_n 0, 1) := by decide +kernel
theorem dX12_world_112 : decode cX12_world 112 = .ok (.getfield 17, 3) := by decide +kernel
theorem dX12_world_115 : decode cX12_world 115 = .ok (.sipush 987, 3) := by decide +kernel
theorem dX12_world_118 : decode cX12_world 118 = .ok (.iaload, 1) := by decide +kernel
theorem dX12_world_119 : decode cX12_world 119 = .ok (.iconst 1, 1) := by decide +kernel
theorem dX12_world_120 : decode cX12_world 120 = .ok (.isub, 1) := by decide +kernel
theorem dX12_world_121 : decode cX12_world 121 = .ok (.ireturn, 1) := by decide +kernel
theorem dX12_says_0 : decode cX12_says 0 = .ok (.aload_n 0, 1) := by decide +kernel
theorem dX12_says_1 : decode cX12_says 1 = .ok (.iconst 0, 1) := by decide +kernel
theorem dX12_says_2 : decode cX12_says 2 = .ok (.putfield 1, 3) := by decide +kernel
theorem dX12_says_5 : decode cX12_says 5 = .ok (.iload_n 1, 1) := by decide +kernel
theorem dX12_says_6 : decode cX12_says 6 = .ok (.i2l, 1) := by decide +kernel
theorem dX12_says_7 : decode cX12_says 7 = .ok (.lconst 0, 1) := by decide +kernel
theorem dX12_says_8 : decode cX12_says 8 = .ok (.aload_n 0, 1) := by decide +kernel
theorem dX12_says_9 : decode cX12_says 9 = .ok (.getfield 17, 3) := by decide +kernel
theorem dX12_says_12 : decode cX12_says 12 = .ok (.sipush 987, 3) := by decide +kernel
theorem dX12_says_15 : decode cX12_says 15 = .ok (.iaload, 1) := by decide +kernel
theorem dX12_says_16 : decode cX12_says 16 = .ok (.iconst 1, 1) := by decide +kernel
theorem dX12_says_17 : decode cX12_says 17 = .ok (.isub, 1) := by decide +kernel
theorem dX12_says_18 : decode cX12_says 18 = .ok (.i2l, 1) := by decide +kernel
theorem dX12_says_19 : decode cX12_says 19 = .ok (.invokestatic 81, 3) := by decide +kernel
theorem dX12_says_22 : decode cX12_says 22 = .ok (.ifCond .eq 15, 3) := by decide +kernel
theorem dX12_says_25 : decode cX12_says 25 = .ok (.iload_n 2, 1) := by decide +kernel
theorem dX12_says_26 : decode cX12_says 26 = .ok (.i2l, 1) := by decide +kernel
theorem dX12_says_27 : decode cX12_says 27 = .ok (.lconst 0, 1) := by decide +kernel
theorem dX12_says_28 : decode cX12_says 28 = .ok (.ldc2_w 91, 3) := by decide +kernel
theorem dX12_says_31 : decode cX12_says 31 = .ok (.invokestatic 81, 3) := by decide +kernel
theorem dX12_says_34 : decode cX12_says 34 = .ok (.ifCond .ne 10, 3) := by decide +kernel
theorem dX12_says_37 : decode cX12_says 37 = .ok (.aload_n 0, 1) := by decide +kernel
theorem dX12_says_38 : decode cX12_says 38 = .ok (.bipush (-2), 2) := by decide +kernel
theorem dX12_says_40 : decode cX12_says 40 = .ok (.invokevirtual 85, 3) := by decide +kernel
theorem dX12_says_43 : decode cX12_says 43 = .ok (.ireturn, 1) := by decide +kernel
theorem dX12_says_44 : decode cX12_says 44 = .ok (.iload_n 3, 1) := by decide +kernel
theorem dX12_says_45 : decode cX12_says 45 = .ok (.i2l, 1) := by decide +kernel
theorem dX12_says_46 : decode cX12_says 46 = .ok (.lconst 0, 1) := by decide +kernel
theorem dX12_says_47 : decode cX12_says 47 = .ok (.ldc2_w 335, 3) := by decide +kernel
theorem dX12_says_50 : decode cX12_says 50 = .ok (.invokestatic 81, 3) := by decide +kernel
theorem dX12_says_53 : decode cX12_says 53 = .ok (.ifCond .ne 10, 3) := by decide +kernel
theorem dX12_says_56 : decode cX12_says 56 = .ok (.aload_n 0, 1) := by decide +kernel
theorem dX12_says_57 : decode cX12_says 57 = .ok (.bipush (-3), 2) := by decide +kernel
theorem dX12_says_59 : decode cX12_says 59 = .ok (.invokevirtual 85, 3) := by decide +kernel
theorem dX12_says_62 : decode cX12_says 62 = .ok (.ireturn, 1) := by decide +kernel
theorem dX12_says_63 : decode cX12_says 63 = .ok (.aload_n 0, 1) := by decide +kernel
theorem dX12_says_64 : decode cX12_says 64 = .ok (.getfield 17, 3) := by decide +kernel
theorem dX12_says_67 : decode cX12_says 67 = .ok (.sipush 996, 3) := by decide +kernel
theorem dX12_says_70 : decode cX12_says 70 = .ok (.bipush 16, 2) := by decide +kernel
theorem dX12_says_72 : decode cX12_says 72 = .ok (.iload_n 1, 1) := by decide +kernel
theorem dX12_says_73 : decode cX12_says 73 = .ok (.imul, 1) := by decide +kernel
theorem dX12_says_74 : decode cX12_says 74 = .ok (.iadd, 1) := by decide +kernel
theorem dX12_says_75 : decode cX12_says 75 = .ok (.iload_n 2, 1) := by decide +kernel
theorem dX12_says_76 : decode cX12_says 76 = .ok (.iadd, 1) := by decide +kernel
theorem dX12_says_77 : decode cX12_says 77 = .ok (.iaload, 1) := by decide +kernel
theorem dX12_says_78 : decode cX12_says 78 = .ok (.istore 4, 2) := by decide +kernel
theorem dX12_says_80 : decode cX12_says 80 = .ok (.aload_n 0, 1) := by decide +kernel
theorem dX12_says_81 : decode cX12_says 81 = .ok (.getfield 17, 3) := by decide +kernel
theorem dX12_says_84 : decode cX12_says 84 = .ok (.sipush 996, 3) := by decide +kernel
theorem dX12_says_87 : decode cX12_says 87 = .ok (.bipush 16, 2) := by decide +kernel
theorem dX12_says_89 : decode cX12_says 89 = .ok (.iload_n 1, 1) := by decide +kernel
theorem dX12_says_90 : decode cX12_says 90 = .ok (.imul, 1) := by decide +kernel
theorem dX12_says_91 : decode cX12_says 91 = .ok (.iadd, 1) := by decide +kernel
theorem dX12_says_92 : decode cX12_says 92 = .ok (.iload_n 2, 1) := by decide +kernel
theorem dX12_says_93 : decode cX12_says 93 = .ok (.iadd, 1) := by decide +kernel
theorem dX12_says_94 : decode cX12_says 94 = .ok (.iload_n 3, 1) := by decide +kernel
theorem dX12_says_95 : decode cX12_says 95 = .ok (.iastore, 1) := by decide +kernel
theorem dX12_says_96 : decode cX12_says 96 = .ok (.iload 4, 2) := by decide +kernel
theorem dX12_says_98 : decode cX12_says 98 = .ok (.ireturn, 1) := by decide +kernel
theorem dX12_saying_0 : decode cX12_saying 0 = .ok (.iconst 0, 1) := by decide +kernel
theorem dX12_saying_1 : decode cX12_saying 1 = .ok (.istore 4, 2) := by decide +kernel
theorem dX12_saying_3 : decode cX12_saying 3 = .ok (.iconst 0, 1) := by decide +kernel
theorem dX12_saying_4 : decode cX12_saying 4 = .ok (.istore 5, 2) := by decide +kernel
theorem dX12_saying_6 : decode cX12_saying 6 = .ok (.iload 5, 2) := by decide +kernel
theorem dX12_saying_8 : decode cX12_saying 8 = .ok (.aload_n 0, 1) := by decide +kernel
theorem dX12_saying_9 : decode cX12_saying 9 = .ok (.getfield 17, 3) := by decide +kernel
theorem dX12_saying_12 : decode cX12_saying 12 = .ok (.sipush 987, 3) := by decide +kernel
theorem dX12_saying_15 : decode cX12_saying 15 = .ok (.iaload, 1) := by decide +kernel
theorem dX12_saying_16 : decode cX12_saying 16 = .ok (.if_icmp .ge 48, 3) := by decide +kernel
theorem dX12_saying_19 : decode cX12_saying 19 = .ok (.iload_n 1, 1) := by decide +kernel
theorem dX12_saying_20 : decode cX12_saying 20 = .ok (.iload 5, 2) := by decide +kernel
theorem dX12_saying_22 : decode cX12_saying 22 = .ok (.ishr, 1) := by decide +kernel
theorem dX12_saying_23 : decode cX12_saying 23 = .ok (.iconst 1, 1) := by decide +kernel
theorem dX12_saying_24 : decode cX12_saying 24 = .ok (.iand, 1) := by decide +kernel
theorem dX12_saying_25 : decode cX12_saying 25 = .ok (.iconst 1, 1) := by decide +kernel
theorem dX12_saying_26 : decode cX12_saying 26 = .ok (.if_icmp .ne 32, 3) := by decide +kernel
theorem dX12_saying_29 : decode cX12_saying 29 = .ok (.aload_n 0, 1) := by decide +kernel
theorem dX12_saying_30 : decode cX12_saying 30 = .ok (.getfield 17, 3) := by decide +kernel
theorem dX12_saying_33 : decode cX12_saying 33 = .ok (.sipush 996, 3) := by decide +kernel
theorem dX12_saying_36 : decode cX12_saying 36 = .ok (.bipush 16, 2) := by decide +kernel
theorem dX12_saying_38 : decode cX12_saying 38 = .ok (.iload 5, 2) := by decide +kernel
theorem dX12_saying_40 : decode cX12_saying 40 = .ok (.imul, 1) := by decide +kernel
theorem dX12_saying_41 : decode cX12_saying 41 = .ok (.iadd, 1) := by decide +kernel
theorem dX12_saying_42 : decode cX12_saying 42 = .ok (.iload_n 2, 1) := by decide +kernel
theorem dX12_saying_43 : decode cX12_saying 43 = .ok (.iadd, 1) := by decide +kernel
theorem dX12_saying_44 : decode cX12_saying 44 = .ok (.iaload, 1) := by decide +kernel
theorem dX12_saying_45 : decode cX12_saying 45 = .ok (.iload_n 3, 1) := by decide +kernel
theorem dX12_saying_46 : decode cX12_saying 46 = .ok (.if_icmp .ne 12, 3) := by decide +kernel
theorem dX12_saying_49 : decode cX12_saying 49 = .ok (.iload 4, 2) := by decide +kernel
theorem dX12_saying_51 : decode cX12_saying 51 = .ok (.iconst 1, 1) := by decide +kernel
theorem dX12_saying_52 : decode cX12_saying 52 = .ok (.iload 5, 2) := by decide +kernel
theorem dX12_saying_54 : decode cX12_saying 54 = .ok (.ishl, 1) := by decide +kernel
theorem dX12_saying_55 : decode cX12_saying 55 = .ok (.ior, 1) := by decide +kernel
theorem dX12_saying_56 : decode cX12_saying 56 = .ok (.istore 4, 2) := by decide +kernel
theorem dX12_saying_58 : decode cX12_saying 58 = .ok (.iinc 5 1, 3) := by decide +kernel
theorem dX12_saying_61 : decode cX12_saying 61 = .ok (.goto (-55), 3) := by decide +kernel
theorem dX12_saying_64 : decode cX12_saying 64 = .ok (.iload 4, 2) := by decide +kernel
theorem dX12_saying_66 : decode cX12_saying 66 = .ok (.ireturn, 1) := by decide +kernel
theorem dX12_weightOf_0 : decode cX12_weightOf 0 = .ok (.iconst 0, 1) := by decide +kernel
theorem dX12_weightOf_1 : decode cX12_weightOf 1 = .ok (.istore_n 2, 1) := by decide +kernel
theorem dX12_weightOf_2 : decode cX12_weightOf 2 = .ok (.iconst 0, 1) := by decide +kernel
theorem dX12_weightOf_3 : decode cX12_weightOf 3 = .ok (.istore_n 3, 1) := by decide +kernel
theorem dX12_weightOf_4 : decode cX12_weightOf 4 = .ok (.iload_n 3, 1) := by decide +kernel
theorem dX12_weightOf_5 : decode cX12_weightOf 5 = .ok (.aload_n 0, 1) := by decide +kernel
theorem dX12_weightOf_6 : decode cX12_weightOf 6 = .ok (.getfield 17, 3) := by decide +kernel
theorem dX12_weightOf_9 : decode cX12_weightOf 9 = .ok (.sipush 987, 3) := by decide +kernel
theorem dX12_weightOf_12 : decode cX12_weightOf 12 = .ok (.iaload, 1) := by decide +kernel
theorem dX12_weightOf_13 : decode cX12_weightOf 13 = .ok (.if_icmp .ge 35, 3) := by decide +kernel
theorem dX12_weightOf_16 : decode cX12_weightOf 16 = .ok (.iload_n 2, 1) := by decide +kernel
theorem dX12_weightOf_17 : decode cX12_weightOf 17 = .ok (.iload_n 1, 1) := by decide +kernel
theorem dX12_weightOf_18 : decode cX12_weightOf 18 = .ok (.iload_n 3, 1) := by decide +kernel
theorem dX12_weightOf_19 : decode cX12_weightOf 19 = .ok (.ishr, 1) := by decide +kernel
theorem dX12_weightOf_20 : decode cX12_weightOf 20 = .ok (.iconst 1, 1) := by decide +kernel
theorem dX12_weightOf_21 : decode cX12_weightOf 21 = .ok (.iand, 1) := by decide +kernel
theorem dX12_weightOf_22 : decode cX12_weightOf 22 = .ok (.iconst 1, 1) := by decide +kernel
theorem dX12_weightOf_23 : decode cX12_weightOf 23 = .ok (.if_icmp .ne 16, 3) := by decide +kernel
theorem dX12_weightOf_26 : decode cX12_weightOf 26 = .ok (.aload_n 0, 1) := by decide +kernel
theorem dX12_weightOf_27 : decode cX12_weightOf 27 = .ok (.getfield 17, 3) := by decide +kernel
theorem dX12_weightOf_30 : decode cX12_weightOf 30 = .ok (.sipush 988, 3) := by decide +kernel
theorem dX12_weightOf_33 : decode cX12_weightOf 33 = .ok (.iload_n 3, 1) := by decide +kernel
theorem dX12_weightOf_34 : decode cX12_weightOf 34 = .ok (.iadd, 1) := by decide +kernel
theorem dX12_weightOf_35 : decode cX12_weightOf 35 = .ok (.iaload, 1) := by decide +kernel
theorem dX12_weightOf_36 : decode cX12_weightOf 36 = .ok (.goto 4, 3) := by decide +kernel
theorem dX12_weightOf_39 : decode cX12_weightOf 39 = .ok (.iconst 0, 1) := by decide +kernel
theorem dX12_weightOf_40 : decode cX12_weightOf 40 = .ok (.iadd, 1) := by decide +kernel
theorem dX12_weightOf_41 : decode cX12_weightOf 41 = .ok (.istore_n 2, 1) := by decide +kernel
theorem dX12_weightOf_42 : decode cX12_weightOf 42 = .ok (.iinc 3 1, 3) := by decide +kernel
theorem dX12_weightOf_45 : decode cX12_weightOf 45 = .ok (.goto (-41), 3) := by decide +kernel
theorem dX12_weightOf_48 : decode cX12_weightOf 48 = .ok (.iload_n 2, 1) := by decide +kernel
theorem dX12_weightOf_49 : decode cX12_weightOf 49 = .ok (.ireturn, 1) := by decide +kernel
theorem dX12_costBy_0 : decode cX12_costBy 0 = .ok (.aload_n 0, 1) := by decide +kernel
theorem dX12_costBy_1 : decode cX12_costBy 1 = .ok (.iload_n 1, 1) := by decide +kernel
theorem dX12_costBy_2 : decode cX12_costBy 2 = .ok (.invokevirtual 350, 3) := by decide +kernel
theorem dX12_costBy_5 : decode cX12_costBy 5 = .ok (.istore_n 3, 1) := by decide +kernel
theorem dX12_costBy_6 : decode cX12_costBy 6 = .ok (.iconst 0, 1) := by decide +kernel
theorem dX12_costBy_7 : decode cX12_costBy 7 = .ok (.istore 4, 2) := by decide +kernel
theorem dX12_costBy_9 : decode cX12_costBy 9 = .ok (.iload 4, 2) := by decide +kernel
theorem dX12_costBy_11 : decode cX12_costBy 11 = .ok (.iconst 4, 1) := by decide +kernel
theorem dX12_costBy_12 : decode cX12_costBy 12 = .ok (.if_icmp .ge 37, 3) := by decide +kernel
theorem dX12_costBy_15 : decode cX12_costBy 15 = .ok (.aload_n 0, 1) := by decide +kernel
theorem dX12_costBy_16 : decode cX12_costBy 16 = .ok (.iload_n 1, 1) := by decide +kernel
theorem dX12_costBy_17 : decode cX12_costBy 17 = .ok (.iload_n 2, 1) := by decide +kernel
theorem dX12_costBy_18 : decode cX12_costBy 18 = .ok (.iload 4, 2) := by decide +kernel
theorem dX12_costBy_20 : decode cX12_costBy 20 = .ok (.invokevirtual 353, 3) := by decide +kernel
theorem dX12_costBy_23 : decode cX12_costBy 23 = .ok (.istore 5, 2) := by decide +kernel
theorem dX12_costBy_25 : decode cX12_costBy 25 = .ok (.iload 5, 2) := by decide +kernel
theorem dX12_costBy_27 : decode cX12_costBy 27 = .ok (.iload_n 1, 1) := by decide +kernel
theorem dX12_costBy_28 : decode cX12_costBy 28 = .ok (.if_icmp .ne 5, 3) := by decide +kernel
theorem dX12_costBy_31 : decode cX12_costBy 31 = .ok (.iconst (-1), 1) := by decide +kernel
theorem dX12_costBy_32 : decode cX12_costBy 32 = .ok (.ireturn, 1) := by decide +kernel
theorem dX12_costBy_33 : decode cX12_costBy 33 = .ok (.iload_n 3, 1) := by decide +kernel
theorem dX12_costBy_34 : decode cX12_costBy 34 = .ok (.aload_n 0, 1) := by decide +kernel
theorem dX12_costBy_35 : decode cX12_costBy 35 = .ok (.getfield 61, 3) := by decide +kernel
theorem dX12_costBy_38 : decode cX12_costBy 38 = .ok (.iload 5, 2) := by decide +kernel
theorem dX12_costBy_40 : decode cX12_costBy 40 = .ok (.iaload, 1) := by decide +kernel
theorem dX12_costBy_41 : decode cX12_costBy 41 = .ok (.iadd, 1) := by decide +kernel
theorem dX12_costBy_42 : decode cX12_costBy 42 = .ok (.istore_n 3, 1) := by decide +kernel
theorem dX12_costBy_43 : decode cX12_costBy 43 = .ok (.iinc 4 1, 3) := by decide +kernel
theorem dX12_costBy_46 : decode cX12_costBy 46 = .ok (.goto (-37), 3) := by decide +kernel
theorem dX12_costBy_49 : decode cX12_costBy 49 = .ok (.iload_n 3, 1) := by decide +kernel
theorem dX12_costBy_50 : decode cX12_costBy 50 = .ok (.ireturn, 1) := by decide +kernel
theorem dX12_ask_0 : decode cX12_ask 0 = .ok (.aload_n 0, 1) := by decide +kernel
theorem dX12_ask_1 : decode cX12_ask 1 = .ok (.iconst 0, 1) := by decide +kernel
theorem dX12_ask_2 : decode cX12_ask 2 = .ok (.putfield 1, 3) := by decide +kernel
theorem dX12_ask_5 : decode cX12_ask 5 = .ok (.iload_n 2, 1) := by decide +kernel
theorem dX12_ask_6 : decode cX12_ask 6 = .ok (.i2l, 1) := by decide +kernel
theorem dX12_ask_7 : decode cX12_ask 7 = .ok (.lconst 0, 1) := by decide +kernel
theorem dX12_ask_8 : decode cX12_ask 8 = .ok (.lconst 1, 1) := by decide +kernel
theorem dX12_ask_9 : decode cX12_ask 9 = .ok (.invokestatic 81, 3) := by decide +kernel
theorem dX12_ask_12 : decode cX12_ask 12 = .ok (.ifCond .eq 25, 3) := by decide +kernel
theorem dX12_ask_15 : decode cX12_ask 15 = .ok (.iload_n 1, 1) := by decide +kernel
theorem dX12_ask_16 : decode cX12_ask 16 = .ok (.i2l, 1) := by decide +kernel
theorem dX12_ask_17 : decode cX12_ask 17 = .ok (.lconst 0, 1) := by decide +kernel
theorem dX12_ask_18 : decode cX12_ask 18 = .ok (.iconst 1, 1) := by decide +kernel
theorem dX12_ask_19 : decode cX12_ask 19 = .ok (.aload_n 0, 1) := by decide +kernel
theorem dX12_ask_20 : decode cX12_ask 20 = .ok (.getfield 17, 3) := by decide +kernel
theorem dX12_ask_23 : decode cX12_ask 23 = .ok (.sipush 987, 3) := by decide +kernel
theorem dX12_ask_26 : decode cX12_ask 26 = .ok (.iaload, 1) := by decide +kernel
theorem dX12_ask_27 : decode cX12_ask 27 = .ok (.ishl, 1) := by decide +kernel
theorem dX12_ask_28 : decode cX12_ask 28 = .ok (.iconst 1, 1) := by decide +kernel
theorem dX12_ask_29 : decode cX12_ask 29 = .ok (.isub, 1) := by decide +kernel
theorem dX12_ask_30 : decode cX12_ask 30 = .ok (.i2l, 1) := by decide +kernel
theorem dX12_ask_31 : decode cX12_ask 31 = .ok (.invokestatic 81, 3) := by decide +kernel
theorem dX12_ask_34 : decode cX12_ask 34 = .ok (.ifCond .ne 10, 3) := by decide +kernel
theorem dX12_ask_37 : decode cX12_ask 37 = .ok (.aload_n 0, 1) := by decide +kernel
theorem dX12_ask_38 : decode cX12_ask 38 = .ok (.bipush (-2), 2) := by decide +kernel
theorem dX12_ask_40 : decode cX12_ask 40 = .ok (.invokevirtual 85, 3) := by decide +kernel
theorem dX12_ask_43 : decode cX12_ask 43 = .ok (.ireturn, 1) := by decide +kernel
theorem dX12_ask_44 : decode cX12_ask 44 = .ok (.iconst (-1), 1) := by decide +kernel
theorem dX12_ask_45 : decode cX12_ask 45 = .ok (.istore_n 3, 1) := by decide +kernel
theorem dX12_ask_46 : decode cX12_ask 46 = .ok (.iconst 0, 1) := by decide +kernel
theorem dX12_ask_47 : decode cX12_ask 47 = .ok (.istore 4, 2) := by decide +kernel
theorem dX12_ask_49 : decode cX12_ask 49 = .ok (.iload 4, 2) := by decide +kernel
theorem dX12_ask_51 : decode cX12_ask 51 = .ok (.iload_n 1, 1) := by decide +kernel
theorem dX12_ask_52 : decode cX12_ask 52 = .ok (.if_icmp .gt 100, 3) := by decide +kernel
theorem dX12_ask_55 : decode cX12_ask 55 = .ok (.aload_n 0, 1) := by decide +kernel
theorem dX12_ask_56 : decode cX12_ask 56 = .ok (.getfield 61, 3) := by decide +kernel
theorem dX12_ask_59 : decode cX12_ask 59 = .ok (.iload 4, 2) := by decide +kernel
theorem dX12_ask_61 : decode cX12_ask 61 = .ok (.iconst 0, 1) := by decide +kernel
theorem dX12_ask_62 : decode cX12_ask 62 = .ok (.iastore, 1) := by decide +kernel
theorem dX12_ask_63 : decode cX12_ask 63 = .ok (.iconst (-1), 1) := by decide +kernel
theorem dX12_ask_64 : decode cX12_ask 64 = .ok (.istore_n 3, 1) := by decide +kernel
theorem dX12_ask_65 : decode cX12_ask 65 = .ok (.iload 4, 2) := by decide +kernel
theorem dX12_ask_67 : decode cX12_ask 67 = .ok (.iload_n 1, 1) := by decide +kernel
theorem dX12_ask_68 : decode cX12_ask 68 = .ok (.iconst (-1), 1) := by decide +kernel
theorem dX12_ask_69 : decode cX12_ask 69 = .ok (.ixor, 1) := by decide +kernel
theorem dX12_ask_70 : decode cX12_ask 70 = .ok (.iand, 1) := by decide +kernel
theorem dX12_ask_71 : decode cX12_ask 71 = .ok (.ifCond .ne 75, 3) := by decide +kernel
theorem dX12_ask_74 : decode cX12_ask 74 = .ok (.iload 4, 2) := by decide +kernel
theorem dX12_ask_76 : decode cX12_ask 76 = .ok (.ifCond .ne 6, 3) := by decide +kernel
theorem dX12_ask_79 : decode cX12_ask 79 = .ok (.goto 67, 3) := by decide +kernel
theorem dX12_ask_82 : decode cX12_ask 82 = .ok (.iconst 0, 1) := by decide +kernel
theorem dX12_ask_83 : decode cX12_ask 83 = .ok (.istore 5, 2) := by decide +kernel
theorem dX12_ask_85 : decode cX12_ask 85 = .ok (.iload 5, 2) := by decide +kernel
theorem dX12_ask_87 : decode cX12_ask 87 = .ok (.bipush 16, 2) := by decide +kernel
theorem dX12_ask_89 : decode cX12_ask 89 = .ok (.if_icmp .ge 57, 3) := by decide +kernel
theorem dX12_ask_92 : decode cX12_ask 92 = .ok (.aload_n 0, 1) := by decide +kernel
theorem dX12_ask_93 : decode cX12_ask 93 = .ok (.iload 4, 2) := by decide +kernel
theorem dX12_ask_95 : decode cX12_ask 95 = .ok (.iload 5, 2) := by decide +kernel
theorem dX12_ask_97 : decode cX12_ask 97 = .ok (.invokevirtual 356, 3) := by decide +kernel
theorem dX12_ask_100 : decode cX12_ask 100 = .ok (.istore 6, 2) := by decide +kernel
theorem dX12_ask_102 : decode cX12_ask 102 = .ok (.iload 6, 2) := by decide +kernel
theorem dX12_ask_104 : decode cX12_ask 104 = .ok (.iconst (-1), 1) := by decide +kernel
theorem dX12_ask_105 : decode cX12_ask 105 = .ok (.if_icmp .eq 35, 3) := by decide +kernel
theorem dX12_ask_108 : decode cX12_ask 108 = .ok (.iload_n 3, 1) := by decide +kernel
theorem dX12_ask_109 : decode cX12_ask 109 = .ok (.iconst (-1), 1) := by decide +kernel
theorem dX12_ask_110 : decode cX12_ask 110 = .ok (.if_icmp .eq 18, 3) := by decide +kernel
theorem dX12_ask_113 : decode cX12_ask 113 = .ok (.iload 6, 2) := by decide +kernel
theorem dX12_ask_115 : decode cX12_ask 115 = .ok (.aload_n 0, 1) := by decide +kernel
theorem dX12_ask_116 : decode cX12_ask 116 = .ok (.getfield 61, 3) := by decide +kernel
theorem dX12_ask_119 : decode cX12_ask 119 = .ok (.iload 4, 2) := by decide +kernel
theorem dX12_ask_121 : decode cX12_ask 121 = .ok (.iaload, 1) := by decide +kernel
theorem dX12_ask_122 : decode cX12_ask 122 = .ok (.if_icmp .lt 6, 3) := by decide +kernel
theorem dX12_ask_125 : decode cX12_ask 125 = .ok (.goto 15, 3) := by decide +kernel
theorem dX12_ask_128 : decode cX12_ask 128 = .ok (.aload_n 0, 1) := by decide +kernel
theorem dX12_ask_129 : decode cX12_ask 129 = .ok (.getfield 61, 3) := by decide +kernel
theorem dX12_ask_132 : decode cX12_ask 132 = .ok (.iload 4, 2) := by decide +kernel
theorem dX12_ask_134 : decode cX12_ask 134 = .ok (.iload 6, 2) := by decide +kernel
theorem dX12_ask_136 : decode cX12_ask 136 = .ok (.iastore, 1) := by decide +kernel
theorem dX12_ask_137 : decode cX12_ask 137 = .ok (.iload 5, 2) := by decide +kernel
theorem dX12_ask_139 : decode cX12_ask 139 = .ok (.istore_n 3, 1) := by decide +kernel
theorem dX12_ask_140 : decode cX12_ask 140 = .ok (.iinc 5 1, 3) := by decide +kernel
theorem dX12_ask_143 : decode cX12_ask 143 = .ok (.goto (-58), 3) := by decide +kernel
theorem dX12_ask_146 : decode cX12_ask 146 = .ok (.iinc 4 1, 3) := by decide +kernel
theorem dX12_ask_149 : decode cX12_ask 149 = .ok (.goto (-100), 3) := by decide +kernel
theorem dX12_ask_152 : decode cX12_ask 152 = .ok (.iload_n 2, 1) := by decide +kernel
theorem dX12_ask_153 : decode cX12_ask 153 = .ok (.ifCond .ne 12, 3) := by decide +kernel
theorem dX12_ask_156 : decode cX12_ask 156 = .ok (.aload_n 0, 1) := by decide +kernel
theorem dX12_ask_157 : decode cX12_ask 157 = .ok (.getfield 61, 3) := by decide +kernel
theorem dX12_ask_160 : decode cX12_ask 160 = .ok (.iload_n 1, 1) := by decide +kernel
theorem dX12_ask_161 : decode cX12_ask 161 = .ok (.iaload, 1) := by decide +kernel
theorem dX12_ask_162 : decode cX12_ask 162 = .ok (.goto 4, 3) := by decide +kernel
theorem dX12_ask_165 : decode cX12_ask 165 = .ok (.iload_n 3, 1) := by decide +kernel
theorem dX12_ask_166 : decode cX12_ask 166 = .ok (.ireturn, 1) := by decide +kernel
theorem dX12_cut_0 : decode cX12_cut 0 = .ok (.iload_n 2, 1) := by decide +kernel
theorem dX12_cut_1 : decode cX12_cut 1 = .ok (.ifCond .ne 10, 3) := by decide +kernel
theorem dX12_cut_4 : decode cX12_cut 4 = .ok (.lload_n 0, 1) := by decide +kernel
theorem dX12_cut_5 : decode cX12_cut 5 = .ok (.l2i, 1) := by decide +kernel
theorem dX12_cut_6 : decode cX12_cut 6 = .ok (.i2b, 1) := by decide +kernel
theorem dX12_cut_7 : decode cX12_cut 7 = .ok (.i2l, 1) := by decide +kernel
theorem dX12_cut_8 : decode cX12_cut 8 = .ok (.goto 27, 3) := by decide +kernel
theorem dX12_cut_11 : decode cX12_cut 11 = .ok (.iload_n 2, 1) := by decide +kernel
theorem dX12_cut_12 : decode cX12_cut 12 = .ok (.iconst 1, 1) := by decide +kernel
theorem dX12_cut_13 : decode cX12_cut 13 = .ok (.if_icmp .ne 10, 3) := by decide +kernel
theorem dX12_cut_16 : decode cX12_cut 16 = .ok (.lload_n 0, 1) := by decide +kernel
theorem dX12_cut_17 : decode cX12_cut 17 = .ok (.l2i, 1) := by decide +kernel
theorem dX12_cut_18 : decode cX12_cut 18 = .ok (.i2s, 1) := by decide +kernel
theorem dX12_cut_19 : decode cX12_cut 19 = .ok (.i2l, 1) := by decide +kernel
theorem dX12_cut_20 : decode cX12_cut 20 = .ok (.goto 15, 3) := by decide +kernel
theorem dX12_cut_23 : decode cX12_cut 23 = .ok (.iload_n 2, 1) := by decide +kernel
theorem dX12_cut_24 : decode cX12_cut 24 = .ok (.iconst 2, 1) := by decide +kernel
theorem dX12_cut_25 : decode cX12_cut 25 = .ok (.if_icmp .ne 9, 3) := by decide +kernel
theorem dX12_cut_28 : decode cX12_cut 28 = .ok (.lload_n 0, 1) := by decide +kernel
theorem dX12_cut_29 : decode cX12_cut 29 = .ok (.l2i, 1) := by decide +kernel
theorem dX12_cut_30 : decode cX12_cut 30 = .ok (.i2l, 1) := by decide +kernel
theorem dX12_cut_31 : decode cX12_cut 31 = .ok (.goto 4, 3) := by decide +kernel
theorem dX12_cut_34 : decode cX12_cut 34 = .ok (.lload_n 0, 1) := by decide +kernel
theorem dX12_cut_35 : decode cX12_cut 35 = .ok (.lreturn, 1) := by decide +kernel
theorem dX12_row_0 : decode cX12_row 0 = .ok (.aload_n 0, 1) := by decide +kernel
theorem dX12_row_1 : decode cX12_row 1 = .ok (.iconst 0, 1) := by decide +kernel
theorem dX12_row_2 : decode cX12_row 2 = .ok (.putfield 1, 3) := by decide +kernel
theorem dX12_row_5 : decode cX12_row 5 = .ok (.iload_n 1, 1) := by decide +kernel
theorem dX12_row_6 : decode cX12_row 6 = .ok (.i2l, 1) := by decide +kernel
theorem dX12_row_7 : decode cX12_row 7 = .ok (.lconst 0, 1) := by decide +kernel
theorem dX12_row_8 : decode cX12_row 8 = .ok (.ldc2_w 335, 3) := by decide +kernel
theorem dX12_row_11 : decode cX12_row 11 = .ok (.invokestatic 81, 3) := by decide +kernel
theorem dX12_row_14 : decode cX12_row 14 = .ok (.ifCond .eq 15, 3) := by decide +kernel
theorem dX12_row_17 : decode cX12_row 17 = .ok (.iload_n 2, 1) := by decide +kernel
theorem dX12_row_18 : decode cX12_row 18 = .ok (.i2l, 1) := by decide +kernel
theorem dX12_row_19 : decode cX12_row 19 = .ok (.lconst 0, 1) := by decide +kernel
theorem dX12_row_20 : decode cX12_row 20 = .ok (.ldc2_w 335, 3) := by decide +kernel
theorem dX12_row_23 : decode cX12_row 23 = .ok (.invokestatic 81, 3) := by decide +kernel
theorem dX12_row_26 : decode cX12_row 26 = .ok (.ifCond .ne 10, 3) := by decide +kernel
theorem dX12_row_29 : decode cX12_row 29 = .ok (.aload_n 0, 1) := by decide +kernel
theorem dX12_row_30 : decode cX12_row 30 = .ok (.bipush (-2), 2) := by decide +kernel
theorem dX12_row_32 : decode cX12_row 32 = .ok (.invokevirtual 85, 3) := by decide +kernel
theorem dX12_row_35 : decode cX12_row 35 = .ok (.ireturn, 1) := by decide +kernel
theorem dX12_row_36 : decode cX12_row 36 = .ok (.iload_n 3, 1) := by decide +kernel
theorem dX12_row_37 : decode cX12_row 37 = .ok (.i2l, 1) := by decide +kernel
theorem dX12_row_38 : decode cX12_row 38 = .ok (.lconst 0, 1) := by decide +kernel
theorem dX12_row_39 : decode cX12_row 39 = .ok (.ldc2_w 359, 3) := by decide +kernel
theorem dX12_row_42 : decode cX12_row 42 = .ok (.invokestatic 81, 3) := by decide +kernel
theorem dX12_row_45 : decode cX12_row 45 = .ok (.ifCond .ne 10, 3) := by decide +kernel
theorem dX12_row_48 : decode cX12_row 48 = .ok (.aload_n 0, 1) := by decide +kernel
theorem dX12_row_49 : decode cX12_row 49 = .ok (.bipush (-3), 2) := by decide +kernel
theorem dX12_row_51 : decode cX12_row 51 = .ok (.invokevirtual 85, 3) := by decide +kernel
theorem dX12_row_54 : decode cX12_row 54 = .ok (.ireturn, 1) := by decide +kernel
theorem dX12_row_55 : decode cX12_row 55 = .ok (.aload_n 0, 1) := by decide +kernel
theorem dX12_row_56 : decode cX12_row 56 = .ok (.getfield 64, 3) := by decide +kernel
theorem dX12_row_59 : decode cX12_row 59 = .ok (.iload_n 1, 1) := by decide +kernel
theorem dX12_row_60 : decode cX12_row 60 = .ok (.iload_n 2, 1) := by decide +kernel
theorem dX12_row_61 : decode cX12_row 61 = .ok (.iastore, 1) := by decide +kernel
theorem dX12_row_62 : decode cX12_row 62 = .ok (.aload_n 0, 1) := by decide +kernel
theorem dX12_row_63 : decode cX12_row 63 = .ok (.getfield 67, 3) := by decide +kernel
theorem dX12_row_66 : decode cX12_row 66 = .ok (.iload_n 1, 1) := by decide +kernel
theorem dX12_row_67 : decode cX12_row 67 = .ok (.iload_n 3, 1) := by decide +kernel
theorem dX12_row_68 : decode cX12_row 68 = .ok (.iastore, 1) := by decide +kernel
theorem dX12_row_69 : decode cX12_row 69 = .ok (.iconst 0, 1) := by decide +kernel
theorem dX12_row_70 : decode cX12_row 70 = .ok (.istore 4, 2) := by decide +kernel
theorem dX12_row_72 : decode cX12_row 72 = .ok (.iload 4, 2) := by decide +kernel
theorem dX12_row_74 : decode cX12_row 74 = .ok (.iload_n 3, 1) := by decide +kernel
theorem dX12_row_75 : decode cX12_row 75 = .ok (.if_icmp .ge 22, 3) := by decide +kernel
theorem dX12_row_78 : decode cX12_row 78 = .ok (.aload_n 0, 1) := by decide +kernel
theorem dX12_row_79 : decode cX12_row 79 = .ok (.getfield 70, 3) := by decide +kernel
theorem dX12_row_82 : decode cX12_row 82 = .ok (.bipush 60, 2) := by decide +kernel
theorem dX12_row_84 : decode cX12_row 84 = .ok (.iload_n 1, 1) := by decide +kernel
theorem dX12_row_85 : decode cX12_row 85 = .ok (.imul, 1) := by decide +kernel
theorem dX12_row_86 : decode cX12_row 86 = .ok (.iload 4, 2) := by decide +kernel
theorem dX12_row_88 : decode cX12_row 88 = .ok (.iadd, 1) := by decide +kernel
theorem dX12_row_89 : decode cX12_row 89 = .ok (.lconst 0, 1) := by decide +kernel
theorem dX12_row_90 : decode cX12_row 90 = .ok (.lastore, 1) := by decide +kernel
theorem dX12_row_91 : decode cX12_row 91 = .ok (.iinc 4 1, 3) := by decide +kernel
theorem dX12_row_94 : decode cX12_row 94 = .ok (.goto (-22), 3) := by decide +kernel
theorem dX12_row_97 : decode cX12_row 97 = .ok (.iconst 0, 1) := by decide +kernel
theorem dX12_row_98 : decode cX12_row 98 = .ok (.ireturn, 1) := by decide +kernel
theorem dX12_write_0 : decode cX12_write 0 = .ok (.aload_n 0, 1) := by decide +kernel
theorem dX12_write_1 : decode cX12_write 1 = .ok (.iconst 0, 1) := by decide +kernel
theorem dX12_write_2 : decode cX12_write 2 = .ok (.putfield 1, 3) := by decide +kernel
theorem dX12_write_5 : decode cX12_write 5 = .ok (.iload_n 1, 1) := by decide +kernel
theorem dX12_write_6 : decode cX12_write 6 = .ok (.i2l, 1) := by decide +kernel
theorem dX12_write_7 : decode cX12_write 7 = .ok (.lconst 0, 1) := by decide +kernel
theorem dX12_write_8 : decode cX12_write 8 = .ok (.ldc2_w 335, 3) := by decide +kernel
theorem dX12_write_11 : decode cX12_write 11 = .ok (.invokestatic 81, 3) := by decide +kernel
theorem dX12_write_14 : decode cX12_write 14 = .ok (.ifCond .ne 11, 3) := by decide +kernel
theorem dX12_write_17 : decode cX12_write 17 = .ok (.aload_n 0, 1) := by decide +kernel
theorem dX12_write_18 : decode cX12_write 18 = .ok (.bipush (-2), 2) := by decide +kernel
theorem dX12_write_20 : decode cX12_write 20 = .ok (.invokevirtual 85, 3) := by decide +kernel
theorem dX12_write_23 : decode cX12_write 23 = .ok (.i2l, 1) := by decide +kernel
theorem dX12_write_24 : decode cX12_write 24 = .ok (.lreturn, 1) := by decide +kernel
theorem dX12_write_25 : decode cX12_write 25 = .ok (.aload_n 0, 1) := by decide +kernel
theorem dX12_write_26 : decode cX12_write 26 = .ok (.getfield 64, 3) := by decide +kernel
theorem dX12_write_29 : decode cX12_write 29 = .ok (.iload_n 1, 1) := by decide +kernel
theorem dX12_write_30 : decode cX12_write 30 = .ok (.iaload, 1) := by decide +kernel
theorem dX12_write_31 : decode cX12_write 31 = .ok (.iconst (-1), 1) := by decide +kernel
theorem dX12_write_32 : decode cX12_write 32 = .ok (.if_icmp .ne 11, 3) := by decide +kernel
theorem dX12_write_35 : decode cX12_write 35 = .ok (.aload_n 0, 1) := by decide +kernel
theorem dX12_write_36 : decode cX12_write 36 = .ok (.bipush (-6), 2) := by decide +kernel
theorem dX12_write_38 : decode cX12_write 38 = .ok (.invokevirtual 85, 3) := by decide +kernel
theorem dX12_write_41 : decode cX12_write 41 = .ok (.i2l, 1) := by decide +kernel
theorem dX12_write_42 : decode cX12_write 42 = .ok (.lreturn, 1) := by decide +kernel
theorem dX12_write_43 : decode cX12_write 43 = .ok (.iload_n 2, 1) := by decide +kernel
theorem dX12_write_44 : decode cX12_write 44 = .ok (.i2l, 1) := by decide +kernel
theorem dX12_write_45 : decode cX12_write 45 = .ok (.lconst 0, 1) := by decide +kernel
theorem dX12_write_46 : decode cX12_write 46 = .ok (.aload_n 0, 1) := by decide +kernel
theorem dX12_write_47 : decode cX12_write 47 = .ok (.getfield 67, 3) := by decide +kernel
theorem dX12_write_50 : decode cX12_write 50 = .ok (.iload_n 1, 1) := by decide +kernel
theorem dX12_write_51 : decode cX12_write 51 = .ok (.iaload, 1) := by decide +kernel
theorem dX12_write_52 : decode cX12_write 52 = .ok (.iconst 1, 1) := by decide +kernel
theorem dX12_write_53 : decode cX12_write 53 = .ok (.isub, 1) := by decide +kernel
theorem dX12_write_54 : decode cX12_write 54 = .ok (.i2l, 1) := by decide +kernel
theorem dX12_write_55 : decode cX12_write 55 = .ok (.invokestatic 81, 3) := by decide +kernel
theorem dX12_write_58 : decode cX12_write 58 = .ok (.ifCond .ne 11, 3) := by decide +kernel
theorem dX12_write_61 : decode cX12_write 61 = .ok (.aload_n 0, 1) := by decide +kernel
theorem dX12_write_62 : decode cX12_write 62 = .ok (.bipush (-7), 2) := by decide +kernel
theorem dX12_write_64 : decode cX12_write 64 = .ok (.invokevirtual 85, 3) := by decide +kernel
theorem dX12_write_67 : decode cX12_write 67 = .ok (.i2l, 1) := by decide +kernel
theorem dX12_write_68 : decode cX12_write 68 = .ok (.lreturn, 1) := by decide +kernel
theorem dX12_write_69 : decode cX12_write 69 = .ok (.aload_n 0, 1) := by decide +kernel
theorem dX12_write_70 : decode cX12_write 70 = .ok (.getfield 70, 3) := by decide +kernel
theorem dX12_write_73 : decode cX12_write 73 = .ok (.bipush 60, 2) := by decide +kernel
theorem dX12_write_75 : decode cX12_write 75 = .ok (.iload_n 1, 1) := by decide +kernel
theorem dX12_write_76 : decode cX12_write 76 = .ok (.imul, 1) := by decide +kernel
theorem dX12_write_77 : decode cX12_write 77 = .ok (.iload_n 2, 1) := by decide +kernel
theorem dX12_write_78 : decode cX12_write 78 = .ok (.iadd, 1) := by decide +kernel
theorem dX12_write_79 : decode cX12_write 79 = .ok (.lload_n 3, 1) := by decide +kernel
theorem dX12_write_80 : decode cX12_write 80 = .ok (.aload_n 0, 1) := by decide +kernel
theorem dX12_write_81 : decode cX12_write 81 = .ok (.getfield 64, 3) := by decide +kernel
theorem dX12_write_84 : decode cX12_write 84 = .ok (.iload_n 1, 1) := by decide +kernel
theorem dX12_write_85 : decode cX12_write 85 = .ok (.iaload, 1) := by decide +kernel
theorem dX12_write_86 : decode cX12_write 86 = .ok (.invokestatic 361, 3) := by decide +kernel
theorem dX12_write_89 : decode cX12_write 89 = .ok (.lastore, 1) := by decide +kernel
theorem dX12_write_90 : decode cX12_write 90 = .ok (.aload_n 0, 1) := by decide +kernel
theorem dX12_write_91 : decode cX12_write 91 = .ok (.getfield 70, 3) := by decide +kernel
theorem dX12_write_94 : decode cX12_write 94 = .ok (.bipush 60, 2) := by decide +kernel
theorem dX12_write_96 : decode cX12_write 96 = .ok (.iload_n 1, 1) := by decide +kernel
theorem dX12_write_97 : decode cX12_write 97 = .ok (.imul, 1) := by decide +kernel
theorem dX12_write_98 : decode cX12_write 98 = .ok (.iload_n 2, 1) := by decide +kernel
theorem dX12_write_99 : decode cX12_write 99 = .ok (.iadd, 1) := by decide +kernel
theorem dX12_write_100 : decode cX12_write 100 = .ok (.laload, 1) := by decide +kernel
theorem dX12_write_101 : decode cX12_write 101 = .ok (.lreturn, 1) := by decide +kernel
theorem dX12_minister_0 : decode cX12_minister 0 = .ok (.aload_n 0, 1) := by decide +kernel
theorem dX12_minister_1 : decode cX12_minister 1 = .ok (.iconst 0, 1) := by decide +kernel
theorem dX12_minister_2 : decode cX12_minister 2 = .ok (.putfield 1, 3) := by decide +kernel
theorem dX12_minister_5 : decode cX12_minister 5 = .ok (.iload_n 1, 1) := by decide +kernel
theorem dX12_minister_6 : decode cX12_minister 6 = .ok (.i2l, 1) := by decide +kernel
theorem dX12_minister_7 : decode cX12_minister 7 = .ok (.lconst 0, 1) := by decide +kernel
theorem dX12_minister_8 : decode cX12_minister 8 = .ok (.ldc2_w 335, 3) := by decide +kernel
theorem dX12_minister_11 : decode cX12_minister 11 = .ok (.invokestatic 81, 3) := by decide +kernel
theorem dX12_minister_14 : decode cX12_minister 14 = .ok (.ifCond .ne 10, 3) := by decide +kernel
theorem dX12_minister_17 : decode cX12_minister 17 = .ok (.aload_n 0, 1) := by decide +kernel
theorem dX12_minister_18 : decode cX12_minister 18 = .ok (.bipush (-2), 2) := by decide +kernel
theorem dX12_minister_20 : decode cX12_minister 20 = .ok (.invokevirtual 85, 3) := by decide +kernel
theorem dX12_minister_23 : decode cX12_minister 23 = .ok (.ireturn, 1) := by decide +kernel
theorem dX12_minister_24 : decode cX12_minister 24 = .ok (.aload_n 0, 1) := by decide +kernel
theorem dX12_minister_25 : decode cX12_minister 25 = .ok (.getfield 64, 3) := by decide +kernel
theorem dX12_minister_28 : decode cX12_minister 28 = .ok (.iload_n 1, 1) := by decide +kernel
theorem dX12_minister_29 : decode cX12_minister 29 = .ok (.iaload, 1) := by decide +kernel
theorem dX12_minister_30 : decode cX12_minister 30 = .ok (.iconst (-1), 1) := by decide +kernel
theorem dX12_minister_31 : decode cX12_minister 31 = .ok (.if_icmp .ne 10, 3) := by decide +kernel
theorem dX12_minister_34 : decode cX12_minister 34 = .ok (.aload_n 0, 1) := by decide +kernel
theorem dX12_minister_35 : decode cX12_minister 35 = .ok (.bipush (-6), 2) := by decide +kernel
theorem dX12_minister_37 : decode cX12_minister 37 = .ok (.invokevirtual 85, 3) := by decide +kernel
theorem dX12_minister_40 : decode cX12_minister 40 = .ok (.ireturn, 1) := by decide +kernel
theorem dX12_minister_41 : decode cX12_minister 41 = .ok (.aload_n 0, 1) := by decide +kernel
theorem dX12_minister_42 : decode cX12_minister 42 = .ok (.getfield 67, 3) := by decide +kernel
theorem dX12_minister_45 : decode cX12_minister 45 = .ok (.iload_n 1, 1) := by decide +kernel
theorem dX12_minister_46 : decode cX12_minister 46 = .ok (.iaload, 1) := by decide +kernel
theorem dX12_minister_47 : decode cX12_minister 47 = .ok (.iconst 5, 1) := by decide +kernel
theorem dX12_minister_48 : decode cX12_minister 48 = .ok (.irem, 1) := by decide +kernel
theorem dX12_minister_49 : decode cX12_minister 49 = .ok (.ifCond .eq 10, 3) := by decide +kernel
theorem dX12_minister_52 : decode cX12_minister 52 = .ok (.aload_n 0, 1) := by decide +kernel
theorem dX12_minister_53 : decode cX12_minister 53 = .ok (.bipush (-7), 2) := by decide +kernel
theorem dX12_minister_55 : decode cX12_minister 55 = .ok (.invokevirtual 85, 3) := by decide +kernel
theorem dX12_minister_58 : decode cX12_minister 58 = .ok (.ireturn, 1) := by decide +kernel
theorem dX12_minister_59 : decode cX12_minister 59 = .ok (.aload_n 0, 1) := by decide +kernel
theorem dX12_minister_60 : decode cX12_minister 60 = .ok (.getfield 67, 3) := by decide +kernel
theorem dX12_minister_63 : decode cX12_minister 63 = .ok (.iload_n 1, 1) := by decide +kernel
theorem dX12_minister_64 : decode cX12_minister 64 = .ok (.iaload, 1) := by decide +kernel
theorem dX12_minister_65 : decode cX12_minister 65 = .ok (.iconst 5, 1) := by decide +kernel
theorem dX12_minister_66 : decode cX12_minister 66 = .ok (.idiv, 1) := by decide +kernel
theorem dX12_minister_67 : decode cX12_minister 67 = .ok (.istore_n 2, 1) := by decide +kernel
theorem dX12_minister_68 : decode cX12_minister 68 = .ok (.iconst 0, 1) := by decide +kernel
theorem dX12_minister_69 : decode cX12_minister 69 = .ok (.istore_n 3, 1) := by decide +kernel
theorem dX12_minister_70 : decode cX12_minister 70 = .ok (.iload_n 3, 1) := by decide +kernel
theorem dX12_minister_71 : decode cX12_minister 71 = .ok (.iload_n 2, 1) := by decide +kernel
theorem dX12_minister_72 : decode cX12_minister 72 = .ok (.if_icmp .ge 75, 3) := by decide +kernel
theorem dX12_minister_75 : decode cX12_minister 75 = .ok (.bipush 60, 2) := by decide +kernel
theorem dX12_minister_77 : decode cX12_minister 77 = .ok (.iload_n 1, 1) := by decide +kernel
theorem dX12_minister_78 : decode cX12_minister 78 = .ok (.imul, 1) := by decide +kernel
theorem dX12_minister_79 : decode cX12_minister 79 = .ok (.iconst 5, 1) := by decide +kernel
theorem dX12_minister_80 : decode cX12_minister 80 = .ok (.iload_n 3, 1) := by decide +kernel
theorem dX12_minister_81 : decode cX12_minister 81 = .ok (.imul, 1) := by decide +kernel
theorem dX12_minister_82 : decode cX12_minister 82 = .ok (.iadd, 1) := by decide +kernel
theorem dX12_minister_83 : decode cX12_minister 83 = .ok (.istore 4, 2) := by decide +kernel
theorem dX12_minister_85 : decode cX12_minister 85 = .ok (.aload_n 0, 1) := by decide +kernel
theorem dX12_minister_86 : decode cX12_minister 86 = .ok (.getfield 70, 3) := by decide +kernel
theorem dX12_minister_89 : decode cX12_minister 89 = .ok (.iload 4, 2) := by decide +kernel
theorem dX12_minister_91 : decode cX12_minister 91 = .ok (.laload, 1) := by decide +kernel
theorem dX12_minister_92 : decode cX12_minister 92 = .ok (.aload_n 0, 1) := by decide +kernel
theorem dX12_minister_93 : decode cX12_minister 93 = .ok (.getfield 70, 3) := by decide +kernel
theorem dX12_minister_96 : decode cX12_minister 96 = .ok (.iload 4, 2) := by decide +kernel
theorem dX12_minister_98 : decode cX12_minister 98 = .ok (.iconst 1, 1) := by decide +kernel
theorem dX12_minister_99 : decode cX12_minister 99 = .ok (.iadd, 1) := by decide +kernel
theorem dX12_minister_100 : decode cX12_minister 100 = .ok (.laload, 1) := by decide +kernel
theorem dX12_minister_101 : decode cX12_minister 101 = .ok (.aload_n 0, 1) := by decide +kernel
theorem dX12_minister_102 : decode cX12_minister 102 = .ok (.getfield 70, 3) := by decide +kernel
theorem dX12_minister_105 : decode cX12_minister 105 = .ok (.iload 4, 2) := by decide +kernel
theorem dX12_minister_107 : decode cX12_minister 107 = .ok (.iconst 2, 1) := by decide +kernel
theorem dX12_minister_108 : decode cX12_minister 108 = .ok (.iadd, 1) := by decide +kernel
theorem dX12_minister_109 : decode cX12_minister 109 = .ok (.laload, 1) := by decide +kernel
theorem dX12_minister_110 : decode cX12_minister 110 = .ok (.aload_n 0, 1) := by decide +kernel
theorem dX12_minister_111 : decode cX12_minister 111 = .ok (.getfield 70, 3) := by decide +kernel
theorem dX12_minister_114 : decode cX12_minister 114 = .ok (.iload 4, 2) := by decide +kernel
theorem dX12_minister_116 : decode cX12_minister 116 = .ok (.iconst 3, 1) := by decide +kernel
theorem dX12_minister_117 : decode cX12_minister 117 = .ok (.iadd, 1) := by decide +kernel
theorem dX12_minister_118 : decode cX12_minister 118 = .ok (.laload, 1) := by decide +kernel
theorem dX12_minister_119 : decode cX12_minister 119 = .ok (.aload_n 0, 1) := by decide +kernel
theorem dX12_minister_120 : decode cX12_minister 120 = .ok (.getfield 70, 3) := by decide +kernel
theorem dX12_minister_123 : decode cX12_minister 123 = .ok (.iload 4, 2) := by decide +kernel
theorem dX12_minister_125 : decode cX12_minister 125 = .ok (.iconst 4, 1) := by decide +kernel
theorem dX12_minister_126 : decode cX12_minister 126 = .ok (.iadd, 1) := by decide +kernel
theorem dX12_minister_127 : decode cX12_minister 127 = .ok (.laload, 1) := by decide +kernel
theorem dX12_minister_128 : decode cX12_minister 128 = .ok (.invokestatic 313, 3) := by decide +kernel
theorem dX12_minister_131 : decode cX12_minister 131 = .ok (.ifCond .ne 10, 3) := by decide +kernel
theorem dX12_minister_134 : decode cX12_minister 134 = .ok (.aload_n 0, 1) := by decide +kernel
theorem dX12_minister_135 : decode cX12_minister 135 = .ok (.bipush (-3), 2) := by decide +kernel
theorem dX12_minister_137 : decode cX12_minister 137 = .ok (.invokevirtual 85, 3) := by decide +kernel
theorem dX12_minister_140 : decode cX12_minister 140 = .ok (.ireturn, 1) := by decide +kernel
theorem dX12_minister_141 : decode cX12_minister 141 = .ok (.iinc 3 1, 3) := by decide +kernel
theorem dX12_minister_144 : decode cX12_minister 144 = .ok (.goto (-74), 3) := by decide +kernel
theorem dX12_minister_147 : decode cX12_minister 147 = .ok (.aload_n 0, 1) := by decide +kernel
theorem dX12_minister_148 : decode cX12_minister 148 = .ok (.getfield 17, 3) := by decide +kernel
theorem dX12_minister_151 : decode cX12_minister 151 = .ok (.sipush 547, 3) := by decide +kernel
theorem dX12_minister_154 : decode cX12_minister 154 = .ok (.iaload, 1) := by decide +kernel
theorem dX12_minister_155 : decode cX12_minister 155 = .ok (.iload_n 2, 1) := by decide +kernel
theorem dX12_minister_156 : decode cX12_minister 156 = .ok (.iadd, 1) := by decide +kernel
theorem dX12_minister_157 : decode cX12_minister 157 = .ok (.bipush 60, 2) := by decide +kernel
theorem dX12_minister_159 : decode cX12_minister 159 = .ok (.if_icmp .le 10, 3) := by decide +kernel
theorem dX12_minister_162 : decode cX12_minister 162 = .ok (.aload_n 0, 1) := by decide +kernel
theorem dX12_minister_163 : decode cX12_minister 163 = .ok (.bipush (-4), 2) := by decide +kernel
theorem dX12_minister_165 : decode cX12_minister 165 = .ok (.invokevirtual 85, 3) := by decide +kernel
theorem dX12_minister_168 : decode cX12_minister 168 = .ok (.ireturn, 1) := by decide +kernel
theorem dX12_minister_169 : decode cX12_minister 169 = .ok (.iconst 0, 1) := by decide +kernel
theorem dX12_minister_170 : decode cX12_minister 170 = .ok (.istore_n 3, 1) := by decide +kernel
theorem dX12_minister_171 : decode cX12_minister 171 = .ok (.iload_n 3, 1) := by decide +kernel
theorem dX12_minister_172 : decode cX12_minister 172 = .ok (.iload_n 2, 1) := by decide +kernel
theorem dX12_minister_173 : decode cX12_minister 173 = .ok (.if_icmp .ge 72, 3) := by decide +kernel
theorem dX12_minister_176 : decode cX12_minister 176 = .ok (.bipush 60, 2) := by decide +kernel
theorem dX12_minister_178 : decode cX12_minister 178 = .ok (.iload_n 1, 1) := by decide +kernel
theorem dX12_minister_179 : decode cX12_minister 179 = .ok (.imul, 1) := by decide +kernel
theorem dX12_minister_180 : decode cX12_minister 180 = .ok (.iconst 5, 1) := by decide +kernel
theorem dX12_minister_181 : decode cX12_minister 181 = .ok (.iload_n 3, 1) := by decide +kernel
theorem dX12_minister_182 : decode cX12_minister 182 = .ok (.imul, 1) := by decide +kernel
theorem dX12_minister_183 : decode cX12_minister 183 = .ok (.iadd, 1) := by decide +kernel
theorem dX12_minister_184 : decode cX12_minister 184 = .ok (.istore 4, 2) := by decide +kernel
theorem dX12_minister_186 : decode cX12_minister 186 = .ok (.aload_n 0, 1) := by decide +kernel
theorem dX12_minister_187 : decode cX12_minister 187 = .ok (.aload_n 0, 1) := by decide +kernel
theorem dX12_minister_188 : decode cX12_minister 188 = .ok (.getfield 70, 3) := by decide +kernel
theorem dX12_minister_191 : decode cX12_minister 191 = .ok (.iload 4, 2) := by decide +kernel
theorem dX12_minister_193 : decode cX12_minister 193 = .ok (.laload, 1) := by decide +kernel
theorem dX12_minister_194 : decode cX12_minister 194 = .ok (.l2i, 1) := by decide +kernel
theorem dX12_minister_195 : decode cX12_minister 195 = .ok (.aload_n 0, 1) := by decide +kernel
theorem dX12_minister_196 : decode cX12_minister 196 = .ok (.getfield 70, 3) := by decide +kernel
theorem dX12_minister_199 : decode cX12_minister 199 = .ok (.iload 4, 2) := by decide +kernel
theorem dX12_minister_201 : decode cX12_minister 201 = .ok (.iconst 1, 1) := by decide +kernel
theorem dX12_minister_202 : decode cX12_minister 202 = .ok (.iadd, 1) := by decide +kernel
theorem dX12_minister_203 : decode cX12_minister 203 = .ok (.laload, 1) := by decide +kernel
theorem dX12_minister_204 : decode cX12_minister 204 = .ok (.l2i, 1) := by decide +kernel
theorem dX12_minister_205 : decode cX12_minister 205 = .ok (.aload_n 0, 1) := by decide +kernel
theorem dX12_minister_206 : decode cX12_minister 206 = .ok (.getfield 70, 3) := by decide +kernel
theorem dX12_minister_209 : decode cX12_minister 209 = .ok (.iload 4, 2) := by decide +kernel
theorem dX12_minister_211 : decode cX12_minister 211 = .ok (.iconst 2, 1) := by decide +kernel
theorem dX12_minister_212 : decode cX12_minister 212 = .ok (.iadd, 1) := by decide +kernel
theorem dX12_minister_213 : decode cX12_minister 213 = .ok (.laload, 1) := by decide +kernel
theorem dX12_minister_214 : decode cX12_minister 214 = .ok (.l2i, 1) := by decide +kernel
theorem dX12_minister_215 : decode cX12_minister 215 = .ok (.aload_n 0, 1) := by decide +kernel
theorem dX12_minister_216 : decode cX12_minister 216 = .ok (.getfield 70, 3) := by decide +kernel
theorem dX12_minister_219 : decode cX12_minister 219 = .ok (.iload 4, 2) := by decide +kernel
theorem dX12_minister_221 : decode cX12_minister 221 = .ok (.iconst 3, 1) := by decide +kernel
theorem dX12_minister_222 : decode cX12_minister 222 = .ok (.iadd, 1) := by decide +kernel
theorem dX12_minister_223 : decode cX12_minister 223 = .ok (.laload, 1) := by decide +kernel
theorem dX12_minister_224 : decode cX12_minister 224 = .ok (.l2i, 1) := by decide +kernel
theorem dX12_minister_225 : decode cX12_minister 225 = .ok (.aload_n 0, 1) := by decide +kernel
theorem dX12_minister_226 : decode cX12_minister 226 = .ok (.getfield 70, 3) := by decide +kernel
theorem dX12_minister_229 : decode cX12_minister 229 = .ok (.iload 4, 2) := by decide +kernel
theorem dX12_minister_231 : decode cX12_minister 231 = .ok (.iconst 4, 1) := by decide +kernel
theorem dX12_minister_232 : decode cX12_minister 232 = .ok (.iadd, 1) := by decide +kernel
theorem dX12_minister_233 : decode cX12_minister 233 = .ok (.laload, 1) := by decide +kernel
theorem dX12_minister_234 : decode cX12_minister 234 = .ok (.l2i, 1) := by decide +kernel
theorem dX12_minister_235 : decode cX12_minister 235 = .ok (.lconst 0, 1) := by decide +kernel
theorem dX12_minister_236 : decode cX12_minister 236 = .ok (.invokevirtual 317, 3) := by decide +kernel
theorem dX12_minister_239 : decode cX12_minister 239 = .ok (.iinc 3 1, 3) := by decide +kernel
theorem dX12_minister_242 : decode cX12_minister 242 = .ok (.goto (-71), 3) := by decide +kernel
theorem dX12_minister_245 : decode cX12_minister 245 = .ok (.iload_n 2, 1) := by decide +kernel
theorem dX12_minister_246 : decode cX12_minister 246 = .ok (.ireturn, 1) := by decide +kernel
theorem dX12_isAnyEarly_0 : decode cX12_isAnyEarly 0 = .ok (.iconst 0, 1) := by decide +kernel
theorem dX12_isAnyEarly_1 : decode cX12_isAnyEarly 1 = .ok (.istore_n 1, 1) := by decide +kernel
theorem dX12_isAnyEarly_2 : decode cX12_isAnyEarly 2 = .ok (.iconst 0, 1) := by decide +kernel
theorem dX12_isAnyEarly_3 : decode cX12_isAnyEarly 3 = .ok (.istore_n 2, 1) := by decide +kernel
theorem dX12_isAnyEarly_4 : decode cX12_isAnyEarly 4 = .ok (.iload_n 2, 1) := by decide +kernel
theorem dX12_isAnyEarly_5 : decode cX12_isAnyEarly 5 = .ok (.aload_n 0, 1) := by decide +kernel
theorem dX12_isAnyEarly_6 : decode cX12_isAnyEarly 6 = .ok (.getfield 17, 3) := by decide +kernel
theorem dX12_isAnyEarly_9 : decode cX12_isAnyEarly 9 = .ok (.iconst 0, 1) := by decide +kernel
theorem dX12_isAnyEarly_10 : decode cX12_isAnyEarly 10 = .ok (.iaload, 1) := by decide +kernel
theorem dX12_isAnyEarly_11 : decode cX12_isAnyEarly 11 = .ok (.if_icmp .ge 27, 3) := by decide +kernel
theorem dX12_isAnyEarly_14 : decode cX12_isAnyEarly 14 = .ok (.iload_n 1, 1) := by decide +kernel
theorem dX12_isAnyEarly_15 : decode cX12_isAnyEarly 15 = .ok (.ifCond .ne 11, 3) := by decide +kernel
theorem dX12_isAnyEarly_18 : decode cX12_isAnyEarly 18 = .ok (.aload_n 0, 1) := by decide +kernel
theorem dX12_isAnyEarly_19 : decode cX12_isAnyEarly 19 = .ok (.iload_n 2, 1) := by decide +kernel
theorem dX12_isAnyEarly_20 : decode cX12_isAnyEarly 20 = .ok (.invokevirtual 250, 3) := by decide +kernel
theorem dX12_isAnyEarly_23 : decode cX12_isAnyEarly 23 = .ok (.ifCond .eq 7, 3) := by decide +kernel
theorem dX12_isAnyEarly_26 : decode cX12_isAnyEarly 26 = .ok (.iconst 1, 1) := by decide +kernel
theorem dX12_isAnyEarly_27 : decode cX12_isAnyEarly 27 = .ok (.goto 4, 3) := by decide +kernel
theorem dX12_isAnyEarly_30 : decode cX12_isAnyEarly 30 = .ok (.iconst 0, 1) := by decide +kernel
theorem dX12_isAnyEarly_31 : decode cX12_isAnyEarly 31 = .ok (.istore_n 1, 1) := by decide +kernel
theorem dX12_isAnyEarly_32 : decode cX12_isAnyEarly 32 = .ok (.iinc 2 1, 3) := by decide +kernel
theorem dX12_isAnyEarly_35 : decode cX12_isAnyEarly 35 = .ok (.goto (-31), 3) := by decide +kernel
theorem dX12_isAnyEarly_38 : decode cX12_isAnyEarly 38 = .ok (.iload_n 1, 1) := by decide +kernel
theorem dX12_isAnyEarly_39 : decode cX12_isAnyEarly 39 = .ok (.ireturn, 1) := by decide +kernel
theorem dX12_say_0 : decode cX12_say 0 = .ok (.aload_n 0, 1) := by decide +kernel
theorem dX12_say_1 : decode cX12_say 1 = .ok (.iconst 0, 1) := by decide +kernel
theorem dX12_say_2 : decode cX12_say 2 = .ok (.putfield 1, 3) := by decide +kernel
theorem dX12_say_5 : decode cX12_say 5 = .ok (.iload_n 1, 1) := by decide +kernel
theorem dX12_say_6 : decode cX12_say 6 = .ok (.i2l, 1) := by decide +kernel
theorem dX12_say_7 : decode cX12_say 7 = .ok (.lconst 0, 1) := by decide +kernel
theorem dX12_say_8 : decode cX12_say 8 = .ok (.aload_n 0, 1) := by decide +kernel
theorem dX12_say_9 : decode cX12_say 9 = .ok (.getfield 17, 3) := by decide +kernel
theorem dX12_say_12 : decode cX12_say 12 = .ok (.sipush 162, 3) := by decide +kernel
theorem dX12_say_15 : decode cX12_say 15 = .ok (.iaload, 1) := by decide +kernel
theorem dX12_say_16 : decode cX12_say 16 = .ok (.iconst 1, 1) := by decide +kernel
theorem dX12_say_17 : decode cX12_say 17 = .ok (.isub, 1) := by decide +kernel
theorem dX12_say_18 : decode cX12_say 18 = .ok (.i2l, 1) := by decide +kernel
theorem dX12_say_19 : decode cX12_say 19 = .ok (.invokestatic 81, 3) := by decide +kernel
theorem dX12_say_22 : decode cX12_say 22 = .ok (.ifCond .ne 10, 3) := by decide +kernel
theorem dX12_say_25 : decode cX12_say 25 = .ok (.aload_n 0, 1) := by decide +kernel
theorem dX12_say_26 : decode cX12_say 26 = .ok (.bipush (-2), 2) := by decide +kernel
theorem dX12_say_28 : decode cX12_say 28 = .ok (.invokevirtual 85, 3) := by decide +kernel
theorem dX12_say_31 : decode cX12_say 31 = .ok (.ireturn, 1) := by decide +kernel
theorem dX12_say_32 : decode cX12_say 32 = .ok (.aload_n 0, 1) := by decide +kernel
theorem dX12_say_33 : decode cX12_say 33 = .ok (.getfield 17, 3) := by decide +kernel
theorem dX12_say_36 : decode cX12_say 36 = .ok (.sipush 223, 3) := by decide +kernel
theorem dX12_say_39 : decode cX12_say 39 = .ok (.iaload, 1) := by decide +kernel
theorem dX12_say_40 : decode cX12_say 40 = .ok (.ifCond .ne 12, 3) := by decide +kernel
theorem dX12_say_43 : decode cX12_say 43 = .ok (.aload_n 0, 1) := by decide +kernel
theorem dX12_say_44 : decode cX12_say 44 = .ok (.invokevirtual 364, 3) := by decide +kernel
theorem dX12_say_47 : decode cX12_say 47 = .ok (.ifCond .ne 5, 3) := by decide +kernel
theorem dX12_say_50 : decode cX12_say 50 = .ok (.iconst 0, 1) := by decide +kernel
theorem dX12_say_51 : decode cX12_say 51 = .ok (.ireturn, 1) := by decide +kernel
theorem dX12_say_52 : decode cX12_say 52 = .ok (.aload_n 0, 1) := by decide +kernel
theorem dX12_say_53 : decode cX12_say 53 = .ok (.invokevirtual 269, 3) := by decide +kernel
theorem dX12_say_56 : decode cX12_say 56 = .ok (.aload_n 0, 1) := by decide +kernel
theorem dX12_say_57 : decode cX12_say 57 = .ok (.iload_n 1, 1) := by decide +kernel
theorem dX12_say_58 : decode cX12_say 58 = .ok (.invokevirtual 272, 3) := by decide +kernel
theorem dX12_say_61 : decode cX12_say 61 = .ok (.istore_n 2, 1) := by decide +kernel
theorem dX12_say_62 : decode cX12_say 62 = .ok (.iload_n 2, 1) := by decide +kernel
theorem dX12_say_63 : decode cX12_say 63 = .ok (.iconst 5, 1) := by decide +kernel
theorem dX12_say_64 : decode cX12_say 64 = .ok (.if_icmp .ne 36, 3) := by decide +kernel
theorem dX12_say_67 : decode cX12_say 67 = .ok (.aload_n 0, 1) := by decide +kernel
theorem dX12_say_68 : decode cX12_say 68 = .ok (.aload_n 0, 1) := by decide +kernel
theorem dX12_say_69 : decode cX12_say 69 = .ok (.getfield 20, 3) := by decide +kernel
theorem dX12_say_72 : decode cX12_say 72 = .ok (.sipush 480, 3) := by decide +kernel
theorem dX12_say_75 : decode cX12_say 75 = .ok (.iload_n 1, 1) := by decide +kernel
theorem dX12_say_76 : decode cX12_say 76 = .ok (.iadd, 1) := by decide +kernel
theorem dX12_say_77 : decode cX12_say 77 = .ok (.laload, 1) := by decide +kernel
theorem dX12_say_78 : decode cX12_say 78 = .ok (.iconst 0, 1) := by decide +kernel
theorem dX12_say_79 : decode cX12_say 79 = .ok (.invokevirtual 275, 3) := by decide +kernel
theorem dX12_say_82 : decode cX12_say 82 = .ok (.aload_n 0, 1) := by decide +kernel
theorem dX12_say_83 : decode cX12_say 83 = .ok (.getfield 17, 3) := by decide +kernel
theorem dX12_say_86 : decode cX12_say 86 = .ok (.sipush 248, 3) := by decide +kernel
theorem dX12_say_89 : decode cX12_say 89 = .ok (.iaload, 1) := by decide +kernel
theorem dX12_say_90 : decode cX12_say 90 = .ok (.if_icmp .lt 7, 3) := by decide +kernel
theorem dX12_say_93 : decode cX12_say 93 = .ok (.iconst 5, 1) := by decide +kernel
theorem dX12_say_94 : decode cX12_say 94 = .ok (.goto 5, 3) := by decide +kernel
theorem dX12_say_97 : decode cX12_say 97 = .ok (.bipush 6, 2) := by decide +kernel
theorem dX12_say_99 : decode cX12_say 99 = .ok (.ireturn, 1) := by decide +kernel
theorem dX12_say_100 : decode cX12_say 100 = .ok (.iload_n 2, 1) := by decide +kernel
theorem dX12_say_101 : decode cX12_say 101 = .ok (.iconst 2, 1) := by decide +kernel
theorem dX12_say_102 : decode cX12_say 102 = .ok (.if_icmp .ge 7, 3) := by decide +kernel
theorem dX12_say_105 : decode cX12_say 105 = .ok (.iconst 1, 1) := by decide +kernel
theorem dX12_say_106 : decode cX12_say 106 = .ok (.goto 4, 3) := by decide +kernel
theorem dX12_say_109 : decode cX12_say 109 = .ok (.iload_n 2, 1) := by decide +kernel
theorem dX12_say_110 : decode cX12_say 110 = .ok (.ireturn, 1) := by decide +kernel
theorem dX12_copies_0 : decode cX12_copies 0 = .ok (.iconst 0, 1) := by decide +kernel
theorem dX12_copies_1 : decode cX12_copies 1 = .ok (.istore_n 3, 1) := by decide +kernel
theorem dX12_copies_2 : decode cX12_copies 2 = .ok (.iload_n 3, 1) := by decide +kernel
theorem dX12_copies_3 : decode cX12_copies 3 = .ok (.sipush 1124, 3) := by decide +kernel
theorem dX12_copies_6 : decode cX12_copies 6 = .ok (.if_icmp .ge 33, 3) := by decide +kernel
theorem dX12_copies_9 : decode cX12_copies 9 = .ok (.aload_n 0, 1) := by decide +kernel
theorem dX12_copies_10 : decode cX12_copies 10 = .ok (.getfield 17, 3) := by decide +kernel
theorem dX12_copies_13 : decode cX12_copies 13 = .ok (.sipush 1124, 3) := by decide +kernel
theorem dX12_copies_16 : decode cX12_copies 16 = .ok (.iload_n 2, 1) := by decide +kernel
theorem dX12_copies_17 : decode cX12_copies 17 = .ok (.imul, 1) := by decide +kernel
theorem dX12_copies_18 : decode cX12_copies 18 = .ok (.iload_n 3, 1) := by decide +kernel
theorem dX12_copies_19 : decode cX12_copies 19 = .ok (.iadd, 1) := by decide +kernel
theorem dX12_copies_20 : decode cX12_copies 20 = .ok (.aload_n 0, 1) := by decide +kernel
theorem dX12_copies_21 : decode cX12_copies 21 = .ok (.getfield 17, 3) := by decide +kernel
theorem dX12_copies_24 : decode cX12_copies 24 = .ok (.sipush 1124, 3) := by decide +kernel
theorem dX12_copies_27 : decode cX12_copies 27 = .ok (.iload_n 1, 1) := by decide +kernel
theorem dX12_copies_28 : decode cX12_copies 28 = .ok (.imul, 1) := by decide +kernel
theorem dX12_copies_29 : decode cX12_copies 29 = .ok (.iload_n 3, 1) := by decide +kernel
theorem dX12_copies_30 : decode cX12_copies 30 = .ok (.iadd, 1) := by decide +kernel
theorem dX12_copies_31 : decode cX12_copies 31 = .ok (.iaload, 1) := by decide +kernel
theorem dX12_copies_32 : decode cX12_copies 32 = .ok (.iastore, 1) := by decide +kernel
theorem dX12_copies_33 : decode cX12_copies 33 = .ok (.iinc 3 1, 3) := by decide +kernel
theorem dX12_copies_36 : decode cX12_copies 36 = .ok (.goto (-34), 3) := by decide +kernel
theorem dX12_copies_39 : decode cX12_copies 39 = .ok (.iconst 0, 1) := by decide +kernel
theorem dX12_copies_40 : decode cX12_copies 40 = .ok (.istore_n 3, 1) := by decide +kernel
theorem dX12_copies_41 : decode cX12_copies 41 = .ok (.iload_n 3, 1) := by decide +kernel
theorem dX12_copies_42 : decode cX12_copies 42 = .ok (.sipush 784, 3) := by decide +kernel
theorem dX12_copies_45 : decode cX12_copies 45 = .ok (.if_icmp .ge 33, 3) := by decide +kernel
theorem dX12_copies_48 : decode cX12_copies 48 = .ok (.aload_n 0, 1) := by decide +kernel
theorem dX12_copies_49 : decode cX12_copies 49 = .ok (.getfield 20, 3) := by decide +kernel
theorem dX12_copies_52 : decode cX12_copies 52 = .ok (.sipush 784, 3) := by decide +kernel
theorem dX12_copies_55 : decode cX12_copies 55 = .ok (.iload_n 2, 1) := by decide +kernel
theorem dX12_copies_56 : decode cX12_copies 56 = .ok (.imul, 1) := by decide +kernel
theorem dX12_copies_57 : decode cX12_copies 57 = .ok (.iload_n 3, 1) := by decide +kernel
theorem dX12_copies_58 : decode cX12_copies 58 = .ok (.iadd, 1) := by decide +kernel
theorem dX12_copies_59 : decode cX12_copies 59 = .ok (.aload_n 0, 1) := by decide +kernel
theorem dX12_copies_60 : decode cX12_copies 60 = .ok (.getfield 20, 3) := by decide +kernel
theorem dX12_copies_63 : decode cX12_copies 63 = .ok (.sipush 784, 3) := by decide +kernel
theorem dX12_copies_66 : decode cX12_copies 66 = .ok (.iload_n 1, 1) := by decide +kernel
theorem dX12_copies_67 : decode cX12_copies 67 = .ok (.imul, 1) := by decide +kernel
theorem dX12_copies_68 : decode cX12_copies 68 = .ok (.iload_n 3, 1) := by decide +kernel
theorem dX12_copies_69 : decode cX12_copies 69 = .ok (.iadd, 1) := by decide +kernel
theorem dX12_copies_70 : decode cX12_copies 70 = .ok (.laload, 1) := by decide +kernel
theorem dX12_copies_71 : decode cX12_copies 71 = .ok (.lastore, 1) := by decide +kernel
theorem dX12_copies_72 : decode cX12_copies 72 = .ok (.iinc 3 1, 3) := by decide +kernel
theorem dX12_copies_75 : decode cX12_copies 75 = .ok (.goto (-34), 3) := by decide +kernel
theorem dX12_copies_78 : decode cX12_copies 78 = .ok (.iconst 0, 1) := by decide +kernel
theorem dX12_copies_79 : decode cX12_copies 79 = .ok (.istore_n 3, 1) := by decide +kernel
theorem dX12_copies_80 : decode cX12_copies 80 = .ok (.iload_n 3, 1) := by decide +kernel
theorem dX12_copies_81 : decode cX12_copies 81 = .ok (.sipush 645, 3) := by decide +kernel
theorem dX12_copies_84 : decode cX12_copies 84 = .ok (.if_icmp .ge 33, 3) := by decide +kernel
theorem dX12_copies_87 : decode cX12_copies 87 = .ok (.aload_n 0, 1) := by decide +kernel
theorem dX12_copies_88 : decode cX12_copies 88 = .ok (.getfield 31, 3) := by decide +kernel
theorem dX12_copies_91 : decode cX12_copies 91 = .ok (.sipush 645, 3) := by decide +kernel
theorem dX12_copies_94 : decode cX12_copies 94 = .ok (.iload_n 2, 1) := by decide +kernel
theorem dX12_copies_95 : decode cX12_copies 95 = .ok (.imul, 1) := by decide +kernel
theorem dX12_copies_96 : decode cX12_copies 96 = .ok (.iload_n 3, 1) := by decide +kernel
theorem dX12_copies_97 : decode cX12_copies 97 = .ok (.iadd, 1) := by decide +kernel
theorem dX12_copies_98 : decode cX12_copies 98 = .ok (.aload_n 0, 1) := by decide +kernel
theorem dX12_copies_99 : decode cX12_copies 99 = .ok (.getfield 31, 3) := by decide +kernel
theorem dX12_copies_102 : decode cX12_copies 102 = .ok (.sipush 645, 3) := by decide +kernel
theorem dX12_copies_105 : decode cX12_copies 105 = .ok (.iload_n 1, 1) := by decide +kernel
theorem dX12_copies_106 : decode cX12_copies 106 = .ok (.imul, 1) := by decide +kernel
theorem dX12_copies_107 : decode cX12_copies 107 = .ok (.iload_n 3, 1) := by decide +kernel
theorem dX12_copies_108 : decode cX12_copies 108 = .ok (.iadd, 1) := by decide +kernel
theorem dX12_copies_109 : decode cX12_copies 109 = .ok (.iaload, 1) := by decide +kernel
theorem dX12_copies_110 : decode cX12_copies 110 = .ok (.iastore, 1) := by decide +kernel
theorem dX12_copies_111 : decode cX12_copies 111 = .ok (.iinc 3 1, 3) := by decide +kernel
theorem dX12_copies_114 : decode cX12_copies 114 = .ok (.goto (-34), 3) := by decide +kernel
theorem dX12_copies_117 : decode cX12_copies 117 = .ok (.iconst 0, 1) := by decide +kernel
theorem dX12_copies_118 : decode cX12_copies 118 = .ok (.istore_n 3, 1) := by decide +kernel
theorem dX12_copies_119 : decode cX12_copies 119 = .ok (.iload_n 3, 1) := by decide +kernel
theorem dX12_copies_120 : decode cX12_copies 120 = .ok (.bipush 29, 2) := by decide +kernel
theorem dX12_copies_122 : decode cX12_copies 122 = .ok (.if_icmp .ge 31, 3) := by decide +kernel
theorem dX12_copies_125 : decode cX12_copies 125 = .ok (.aload_n 0, 1) := by decide +kernel
theorem dX12_copies_126 : decode cX12_copies 126 = .ok (.getfield 34, 3) := by decide +kernel
theorem dX12_copies_129 : decode cX12_copies 129 = .ok (.bipush 29, 2) := by decide +kernel
theorem dX12_copies_131 : decode cX12_copies 131 = .ok (.iload_n 2, 1) := by decide +kernel
theorem dX12_copies_132 : decode cX12_copies 132 = .ok (.imul, 1) := by decide +kernel
theorem dX12_copies_133 : decode cX12_copies 133 = .ok (.iload_n 3, 1) := by decide +kernel
theorem dX12_copies_134 : decode cX12_copies 134 = .ok (.iadd, 1) := by decide +kernel
theorem dX12_copies_135 : decode cX12_copies 135 = .ok (.aload_n 0, 1) := by decide +kernel
theorem dX12_copies_136 : decode cX12_copies 136 = .ok (.getfield 34, 3) := by decide +kernel
theorem dX12_copies_139 : decode cX12_copies 139 = .ok (.bipush 29, 2) := by decide +kernel
theorem dX12_copies_141 : decode cX12_copies 141 = .ok (.iload_n 1, 1) := by decide +kernel
theorem dX12_copies_142 : decode cX12_copies 142 = .ok (.imul, 1) := by decide +kernel
theorem dX12_copies_143 : decode cX12_copies 143 = .ok (.iload_n 3, 1) := by decide +kernel
theorem dX12_copies_144 : decode cX12_copies 144 = .ok (.iadd, 1) := by decide +kernel
theorem dX12_copies_145 : decode cX12_copies 145 = .ok (.iaload, 1) := by decide +kernel
theorem dX12_copies_146 : decode cX12_copies 146 = .ok (.iastore, 1) := by decide +kernel
theorem dX12_copies_147 : decode cX12_copies 147 = .ok (.iinc 3 1, 3) := by decide +kernel
theorem dX12_copies_150 : decode cX12_copies 150 = .ok (.goto (-31), 3) := by decide +kernel
theorem dX12_copies_153 : decode cX12_copies 153 = .ok (.return_, 1) := by decide +kernel
theorem dX12_image_0 : decode cX12_image 0 = .ok (.aload_n 0, 1) := by decide +kernel
theorem dX12_image_1 : decode cX12_image 1 = .ok (.iconst 0, 1) := by decide +kernel
theorem dX12_image_2 : decode cX12_image 2 = .ok (.putfield 1, 3) := by decide +kernel
theorem dX12_image_5 : decode cX12_image 5 = .ok (.iload_n 1, 1) := by decide +kernel
theorem dX12_image_6 : decode cX12_image 6 = .ok (.i2l, 1) := by decide +kernel
theorem dX12_image_7 : decode cX12_image 7 = .ok (.lconst 0, 1) := by decide +kernel
theorem dX12_image_8 : decode cX12_image 8 = .ok (.lconst 1, 1) := by decide +kernel
theorem dX12_image_9 : decode cX12_image 9 = .ok (.invokestatic 81, 3) := by decide +kernel
theorem dX12_image_12 : decode cX12_image 12 = .ok (.ifCond .ne 10, 3) := by decide +kernel
theorem dX12_image_15 : decode cX12_image 15 = .ok (.aload_n 0, 1) := by decide +kernel
theorem dX12_image_16 : decode cX12_image 16 = .ok (.bipush (-2), 2) := by decide +kernel
theorem dX12_image_18 : decode cX12_image 18 = .ok (.invokevirtual 85, 3) := by decide +kernel
theorem dX12_image_21 : decode cX12_image 21 = .ok (.ireturn, 1) := by decide +kernel
theorem dX12_image_22 : decode cX12_image 22 = .ok (.aload_n 0, 1) := by decide +kernel
theorem dX12_image_23 : decode cX12_image 23 = .ok (.iconst 0, 1) := by decide +kernel
theorem dX12_image_24 : decode cX12_image 24 = .ok (.iload_n 1, 1) := by decide +kernel
theorem dX12_image_25 : decode cX12_image 25 = .ok (.iconst 1, 1) := by decide +kernel
theorem dX12_image_26 : decode cX12_image 26 = .ok (.iadd, 1) := by decide +kernel
theorem dX12_image_27 : decode cX12_image 27 = .ok (.invokevirtual 368, 3) := by decide +kernel
theorem dX12_image_30 : decode cX12_image 30 = .ok (.aload_n 0, 1) := by decide +kernel
theorem dX12_image_31 : decode cX12_image 31 = .ok (.getfield 24, 3) := by decide +kernel
theorem dX12_image_34 : decode cX12_image 34 = .ok (.iload_n 1, 1) := by decide +kernel
theorem dX12_image_35 : decode cX12_image 35 = .ok (.iconst 1, 1) := by decide +kernel
theorem dX12_image_36 : decode cX12_image 36 = .ok (.bastore, 1) := by decide +kernel
theorem dX12_image_37 : decode cX12_image 37 = .ok (.iconst 0, 1) := by decide +kernel
theorem dX12_image_38 : decode cX12_image 38 = .ok (.ireturn, 1) := by decide +kernel
theorem dX12_restore_0 : decode cX12_restore 0 = .ok (.aload_n 0, 1) := by decide +kernel
theorem dX12_restore_1 : decode cX12_restore 1 = .ok (.iconst 0, 1) := by decide +kernel
theorem dX12_restore_2 : decode cX12_restore 2 = .ok (.putfield 1, 3) := by decide +kernel
theorem dX12_restore_5 : decode cX12_restore 5 = .ok (.iload_n 1, 1) := by decide +kernel
theorem dX12_restore_6 : decode cX12_restore 6 = .ok (.i2l, 1) := by decide +kernel
theorem dX12_restore_7 : decode cX12_restore 7 = .ok (.lconst 0, 1) := by decide +kernel
theorem dX12_restore_8 : decode cX12_restore 8 = .ok (.lconst 1, 1) := by decide +kernel
theorem dX12_restore_9 : decode cX12_restore 9 = .ok (.invokestatic 81, 3) := by decide +kernel
theorem dX12_restore_12 : decode cX12_restore 12 = .ok (.ifCond .ne 10, 3) := by decide +kernel
theorem dX12_restore_15 : decode cX12_restore 15 = .ok (.aload_n 0, 1) := by decide +kernel
theorem dX12_restore_16 : decode cX12_restore 16 = .ok (.bipush (-2), 2) := by decide +kernel
theorem dX12_restore_18 : decode cX12_restore 18 = .ok (.invokevirtual 85, 3) := by decide +kernel
theorem dX12_restore_21 : decode cX12_restore 21 = .ok (.ireturn, 1) := by decide +kernel
theorem dX12_restore_22 : decode cX12_restore 22 = .ok (.aload_n 0, 1) := by decide +kernel
theorem dX12_restore_23 : decode cX12_restore 23 = .ok (.getfield 24, 3) := by decide +kernel
theorem dX12_restore_26 : decode cX12_restore 26 = .ok (.iload_n 1, 1) := by decide +kernel
theorem dX12_restore_27 : decode cX12_restore 27 = .ok (.baload, 1) := by decide +kernel
theorem dX12_restore_28 : decode cX12_restore 28 = .ok (.ifCond .ne 10, 3) := by decide +kernel
theorem dX12_restore_31 : decode cX12_restore 31 = .ok (.aload_n 0, 1) := by decide +kernel
theorem dX12_restore_32 : decode cX12_restore 32 = .ok (.bipush (-5), 2) := by decide +kernel
theorem dX12_restore_34 : decode cX12_restore 34 = .ok (.invokevirtual 85, 3) := by decide +kernel
theorem dX12_restore_37 : decode cX12_restore 37 = .ok (.ireturn, 1) := by decide +kernel
theorem dX12_restore_38 : decode cX12_restore 38 = .ok (.aload_n 0, 1) := by decide +kernel
theorem dX12_restore_39 : decode cX12_restore 39 = .ok (.iload_n 1, 1) := by decide +kernel
theorem dX12_restore_40 : decode cX12_restore 40 = .ok (.iconst 1, 1) := by decide +kernel
theorem dX12_restore_41 : decode cX12_restore 41 = .ok (.iadd, 1) := by decide +kernel
theorem dX12_restore_42 : decode cX12_restore 42 = .ok (.iconst 0, 1) := by decide +kernel
theorem dX12_restore_43 : decode cX12_restore 43 = .ok (.invokevirtual 368, 3) := by decide +kernel
theorem dX12_restore_46 : decode cX12_restore 46 = .ok (.iconst 0, 1) := by decide +kernel
theorem dX12_restore_47 : decode cX12_restore 47 = .ok (.ireturn, 1) := by decide +kernel
theorem dX12_status_0 : decode cX12_status 0 = .ok (.aload_n 0, 1) := by decide +kernel
theorem dX12_status_1 : decode cX12_status 1 = .ok (.iconst 0, 1) := by decide +kernel
theorem dX12_status_2 : decode cX12_status 2 = .ok (.putfield 1, 3) := by decide +kernel
theorem dX12_status_5 : decode cX12_status 5 = .ok (.iload_n 1, 1) := by decide +kernel
theorem dX12_status_6 : decode cX12_status 6 = .ok (.i2l, 1) := by decide +kernel
theorem dX12_status_7 : decode cX12_status 7 = .ok (.lconst 1, 1) := by decide +kernel
theorem dX12_status_8 : decode cX12_status 8 = .ok (.ldc2_w 371, 3) := by decide +kernel
theorem dX12_status_11 : decode cX12_status 11 = .ok (.invokestatic 81, 3) := by decide +kernel
theorem dX12_status_14 : decode cX12_status 14 = .ok (.ifCond .eq 12, 3) := by decide +kernel
theorem dX12_status_17 : decode cX12_status 17 = .ok (.aload_n 0, 1) := by decide +kernel
theorem dX12_status_18 : decode cX12_status 18 = .ok (.getfield 7, 3) := by decide +kernel
theorem dX12_status_21 : decode cX12_status 21 = .ok (.iload_n 1, 1) := by decide +kernel
theorem dX12_status_22 : decode cX12_status 22 = .ok (.iaload, 1) := by decide +kernel
theorem dX12_status_23 : decode cX12_status 23 = .ok (.goto 4, 3) := by decide +kernel
theorem dX12_status_26 : decode cX12_status 26 = .ok (.iconst (-1), 1) := by decide +kernel
theorem dX12_status_27 : decode cX12_status 27 = .ok (.ireturn, 1) := by decide +kernel
theorem dX12_count_0 : decode cX12_count 0 = .ok (.aload_n 0, 1) := by decide +kernel
theorem dX12_count_1 : decode cX12_count 1 = .ok (.iconst 0, 1) := by decide +kernel
theorem dX12_count_2 : decode cX12_count 2 = .ok (.putfield 1, 3) := by decide +kernel
theorem dX12_count_5 : decode cX12_count 5 = .ok (.iload_n 1, 1) := by decide +kernel
theorem dX12_count_6 : decode cX12_count 6 = .ok (.i2l, 1) := by decide +kernel
theorem dX12_count_7 : decode cX12_count 7 = .ok (.ldc2_w 105, 3) := by decide +kernel
theorem dX12_count_10 : decode cX12_count 10 = .ok (.bipush 99, 2) := by decide +kernel
theorem dX12_count_12 : decode cX12_count 12 = .ok (.aload_n 0, 1) := by decide +kernel
theorem dX12_count_13 : decode cX12_count 13 = .ok (.getfield 17, 3) := by decide +kernel
theorem dX12_count_16 : decode cX12_count 16 = .ok (.iconst 0, 1) := by decide +kernel
theorem dX12_count_17 : decode cX12_count 17 = .ok (.iaload, 1) := by decide +kernel
theorem dX12_count_18 : decode cX12_count 18 = .ok (.iadd, 1) := by decide +kernel
theorem dX12_count_19 : decode cX12_count 19 = .ok (.i2l, 1) := by decide +kernel
theorem dX12_count_20 : decode cX12_count 20 = .ok (.invokestatic 81, 3) := by decide +kernel
theorem dX12_count_23 : decode cX12_count 23 = .ok (.ifCond .eq 16, 3) := by decide +kernel
theorem dX12_count_26 : decode cX12_count 26 = .ok (.aload_n 0, 1) := by decide +kernel
theorem dX12_count_27 : decode cX12_count 27 = .ok (.getfield 17, 3) := by decide +kernel
theorem dX12_count_30 : decode cX12_count 30 = .ok (.bipush 121, 2) := by decide +kernel
theorem dX12_count_32 : decode cX12_count 32 = .ok (.iload_n 1, 1) := by decide +kernel
theorem dX12_count_33 : decode cX12_count 33 = .ok (.iadd, 1) := by decide +kernel
theorem dX12_count_34 : decode cX12_count 34 = .ok (.bipush 100, 2) := by decide +kernel
theorem dX12_count_36 : decode cX12_count 36 = .ok (.isub, 1) := by decide +kernel
theorem dX12_count_37 : decode cX12_count 37 = .ok (.iaload, 1) := by decide +kernel
theorem dX12_count_38 : decode cX12_count 38 = .ok (.ireturn, 1) := by decide +kernel
theorem dX12_count_39 : decode cX12_count 39 = .ok (.iload_n 1, 1) := by decide +kernel
theorem dX12_count_40 : decode cX12_count 40 = .ok (.i2l, 1) := by decide +kernel
theorem dX12_count_41 : decode cX12_count 41 = .ok (.ldc2_w 373, 3) := by decide +kernel
theorem dX12_count_44 : decode cX12_count 44 = .ok (.sipush 199, 3) := by decide +kernel
theorem dX12_count_47 : decode cX12_count 47 = .ok (.aload_n 0, 1) := by decide +kernel
theorem dX12_count_48 : decode cX12_count 48 = .ok (.getfield 17, 3) := by decide +kernel
theorem dX12_count_51 : decode cX12_count 51 = .ok (.sipush 223, 3) := by decide +kernel
theorem dX12_count_54 : decode cX12_count 54 = .ok (.iaload, 1) := by decide +kernel
theorem dX12_count_55 : decode cX12_count 55 = .ok (.iadd, 1) := by decide +kernel
theorem dX12_count_56 : decode cX12_count 56 = .ok (.i2l, 1) := by decide +kernel
theorem dX12_count_57 : decode cX12_count 57 = .ok (.invokestatic 81, 3) := by decide +kernel
theorem dX12_count_60 : decode cX12_count 60 = .ok (.ifCond .eq 18, 3) := by decide +kernel
theorem dX12_count_63 : decode cX12_count 63 = .ok (.aload_n 0, 1) := by decide +kernel
theorem dX12_count_64 : decode cX12_count 64 = .ok (.getfield 17, 3) := by decide +kernel
theorem dX12_count_67 : decode cX12_count 67 = .ok (.sipush 236, 3) := by decide +kernel
theorem dX12_count_70 : decode cX12_count 70 = .ok (.iload_n 1, 1) := by decide +kernel
theorem dX12_count_71 : decode cX12_count 71 = .ok (.iadd, 1) := by decide +kernel
theorem dX12_count_72 : decode cX12_count 72 = .ok (.sipush 200, 3) := by decide +kernel
theorem dX12_count_75 : decode cX12_count 75 = .ok (.isub, 1) := by decide +kernel
theorem dX12_count_76 : decode cX12_count 76 = .ok (.iaload, 1) := by decide +kernel
theorem dX12_count_77 : decode cX12_count 77 = .ok (.ireturn, 1) := by decide +kernel
theorem dX12_count_78 : decode cX12_count 78 = .ok (.iload_n 1, 1) := by decide +kernel
theorem dX12_count_79 : decode cX12_count 79 = .ok (.tableswitch 172 0 12 #[65, 72, 81, 90, 99, 108, 117, 126, 135, 144, 151, 158, 163], 65) := by decide +kernel
theorem dX12_count_144 : decode cX12_count 144 = .ok (.aload_n 0, 1) := by decide +kernel
theorem dX12_count_145 : decode cX12_count 145 = .ok (.getfield 17, 3) := by decide +kernel
theorem dX12_count_148 : decode cX12_count 148 = .ok (.iconst 0, 1) := by decide +kernel
theorem dX12_count_149 : decode cX12_count 149 = .ok (.iaload, 1) := by decide +kernel
theorem dX12_count_150 : decode cX12_count 150 = .ok (.ireturn, 1) := by decide +kernel
theorem dX12_count_151 : decode cX12_count 151 = .ok (.aload_n 0, 1) := by decide +kernel
theorem dX12_count_152 : decode cX12_count 152 = .ok (.getfield 17, 3) := by decide +kernel
theorem dX12_count_155 : decode cX12_count 155 = .ok (.sipush 223, 3) := by decide +kernel
theorem dX12_count_158 : decode cX12_count 158 = .ok (.iaload, 1) := by decide +kernel
theorem dX12_count_159 : decode cX12_count 159 = .ok (.ireturn, 1) := by decide +kernel
theorem dX12_count_160 : decode cX12_count 160 = .ok (.aload_n 0, 1) := by decide +kernel
theorem dX12_count_161 : decode cX12_count 161 = .ok (.getfield 17, 3) := by decide +kernel
theorem dX12_count_164 : decode cX12_count 164 = .ok (.sipush 162, 3) := by decide +kernel
theorem dX12_count_167 : decode cX12_count 167 = .ok (.iaload, 1) := by decide +kernel
theorem dX12_count_168 : decode cX12_count 168 = .ok (.ireturn, 1) := by decide +kernel
theorem dX12_count_169 : decode cX12_count 169 = .ok (.aload_n 0, 1) := by decide +kernel
theorem dX12_count_170 : decode cX12_count 170 = .ok (.getfield 17, 3) := by decide +kernel
theorem dX12_count_173 : decode cX12_count 173 = .ok (.sipush 547, 3) := by decide +kernel
theorem dX12_count_176 : decode cX12_count 176 = .ok (.iaload, 1) := by decide +kernel
theorem dX12_count_177 : decode cX12_count 177 = .ok (.ireturn, 1) := by decide +kernel
theorem dX12_count_178 : decode cX12_count 178 = .ok (.aload_n 0, 1) := by decide +kernel
theorem dX12_count_179 : decode cX12_count 179 = .ok (.getfield 17, 3) := by decide +kernel
theorem dX12_count_182 : decode cX12_count 182 = .ok (.sipush 506, 3) := by decide +kernel
theorem dX12_count_185 : decode cX12_count 185 = .ok (.iaload, 1) := by decide +kernel
theorem dX12_count_186 : decode cX12_count 186 = .ok (.ireturn, 1) := by decide +kernel
theorem dX12_count_187 : decode cX12_count 187 = .ok (.aload_n 0, 1) := by decide +kernel
theorem dX12_count_188 : decode cX12_count 188 = .ok (.getfield 17, 3) := by decide +kernel
theorem dX12_count_191 : decode cX12_count 191 = .ok (.sipush 848, 3) := by decide +kernel
theorem dX12_count_194 : decode cX12_count 194 = .ok (.iaload, 1) := by decide +kernel
theorem dX12_count_195 : decode cX12_count 195 = .ok (.ireturn, 1) := by decide +kernel
theorem dX12_count_196 : decode cX12_count 196 = .ok (.aload_n 0, 1) := by decide +kernel
theorem dX12_count_197 : decode cX12_count 197 = .ok (.getfield 17, 3) := by decide +kernel
theorem dX12_count_200 : decode cX12_count 200 = .ok (.sipush 889, 3) := by decide +kernel
theorem dX12_count_203 : decode cX12_count 203 = .ok (.iaload, 1) := by decide +kernel
theorem dX12_count_204 : decode cX12_count 204 = .ok (.ireturn, 1) := by decide +kernel
theorem dX12_count_205 : decode cX12_count 205 = .ok (.aload_n 0, 1) := by decide +kernel
theorem dX12_count_206 : decode cX12_count 206 = .ok (.getfield 17, 3) := by decide +kernel
theorem dX12_count_209 : decode cX12_count 209 = .ok (.sipush 970, 3) := by decide +kernel
theorem dX12_count_212 : decode cX12_count 212 = .ok (.iaload, 1) := by decide +kernel
theorem dX12_count_213 : decode cX12_count 213 = .ok (.ireturn, 1) := by decide +kernel
theorem dX12_count_214 : decode cX12_count 214 = .ok (.aload_n 0, 1) := by decide +kernel
theorem dX12_count_215 : decode cX12_count 215 = .ok (.getfield 17, 3) := by decide +kernel
theorem dX12_count_218 : decode cX12_count 218 = .ok (.sipush 987, 3) := by decide +kernel
theorem dX12_count_221 : decode cX12_count 221 = .ok (.iaload, 1) := by decide +kernel
theorem dX12_count_222 : decode cX12_count 222 = .ok (.ireturn, 1) := by decide +kernel
theorem dX12_count_223 : decode cX12_count 223 = .ok (.aload_n 0, 1) := by decide +kernel
theorem dX12_count_224 : decode cX12_count 224 = .ok (.getfield 31, 3) := by decide +kernel
theorem dX12_count_227 : decode cX12_count 227 = .ok (.iconst 0, 1) := by decide +kernel
theorem dX12_count_228 : decode cX12_count 228 = .ok (.iaload, 1) := by decide +kernel
theorem dX12_count_229 : decode cX12_count 229 = .ok (.ireturn, 1) := by decide +kernel
theorem dX12_count_230 : decode cX12_count 230 = .ok (.aload_n 0, 1) := by decide +kernel
theorem dX12_count_231 : decode cX12_count 231 = .ok (.getfield 34, 3) := by decide +kernel
theorem dX12_count_234 : decode cX12_count 234 = .ok (.iconst 0, 1) := by decide +kernel
theorem dX12_count_235 : decode cX12_count 235 = .ok (.iaload, 1) := by decide +kernel
theorem dX12_count_236 : decode cX12_count 236 = .ok (.ireturn, 1) := by decide +kernel
theorem dX12_count_237 : decode cX12_count 237 = .ok (.aload_n 0, 1) := by decide +kernel
theorem dX12_count_238 : decode cX12_count 238 = .ok (.getfield 115, 3) := by decide +kernel
theorem dX12_count_241 : decode cX12_count 241 = .ok (.ireturn, 1) := by decide +kernel
theorem dX12_count_242 : decode cX12_count 242 = .ok (.aload_n 0, 1) := by decide +kernel
theorem dX12_count_243 : decode cX12_count 243 = .ok (.getfield 17, 3) := by decide +kernel
theorem dX12_count_246 : decode cX12_count 246 = .ok (.sipush 161, 3) := by decide +kernel
theorem dX12_count_249 : decode cX12_count 249 = .ok (.iaload, 1) := by decide +kernel
theorem dX12_count_250 : decode cX12_count 250 = .ok (.ireturn, 1) := by decide +kernel
theorem dX12_count_251 : decode cX12_count 251 = .ok (.iconst (-1), 1) := by decide +kernel
theorem dX12_count_252 : decode cX12_count 252 = .ok (.ireturn, 1) := by decide +kernel
