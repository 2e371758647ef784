theorem dX7_readCell_74 : decode cX7_readCell 74 = .ok (.if_icmp .ne 5, 3) := by decide +kernel
theorem dX7_readCell_77 : decode cX7_readCell 77 = .ok (.iconst 0, 1) := by decide +kernel
theorem dX7_readCell_78 : decode cX7_readCell 78 = .ok (.ireturn, 1) := by decide +kernel
theorem dX7_readCell_79 : decode cX7_readCell 79 = .ok (.aload_n 0, 1) := by decide +kernel
theorem dX7_readCell_80 : decode cX7_readCell 80 = .ok (.dup, 1) := by decide +kernel
theorem dX7_readCell_81 : decode cX7_readCell 81 = .ok (.getfield 72, 3) := by decide +kernel
theorem dX7_readCell_84 : decode cX7_readCell 84 = .ok (.iconst 1, 1) := by decide +kernel
theorem dX7_readCell_85 : decode cX7_readCell 85 = .ok (.iadd, 1) := by decide +kernel
theorem dX7_readCell_86 : decode cX7_readCell 86 = .ok (.putfield 72, 3) := by decide +kernel
theorem dX7_readCell_89 : decode cX7_readCell 89 = .ok (.aload_n 0, 1) := by decide +kernel
theorem dX7_readCell_90 : decode cX7_readCell 90 = .ok (.getfield 72, 3) := by decide +kernel
theorem dX7_readCell_93 : decode cX7_readCell 93 = .ok (.iload_n 1, 1) := by decide +kernel
theorem dX7_readCell_94 : decode cX7_readCell 94 = .ok (.if_icmp .ge 22, 3) := by decide +kernel
theorem dX7_readCell_97 : decode cX7_readCell 97 = .ok (.aload_n 0, 1) := by decide +kernel
theorem dX7_readCell_98 : decode cX7_readCell 98 = .ok (.getfield 16, 3) := by decide +kernel
theorem dX7_readCell_101 : decode cX7_readCell 101 = .ok (.aload_n 0, 1) := by decide +kernel
theorem dX7_readCell_102 : decode cX7_readCell 102 = .ok (.getfield 72, 3) := by decide +kernel
theorem dX7_readCell_105 : decode cX7_readCell 105 = .ok (.iaload, 1) := by decide +kernel
theorem dX7_readCell_106 : decode cX7_readCell 106 = .ok (.bipush 49, 2) := by decide +kernel
theorem dX7_readCell_108 : decode cX7_readCell 108 = .ok (.bipush 57, 2) := by decide +kernel
theorem dX7_readCell_110 : decode cX7_readCell 110 = .ok (.invokestatic 65, 3) := by decide +kernel
theorem dX7_readCell_113 : decode cX7_readCell 113 = .ok (.ifCond .ne 5, 3) := by decide +kernel
theorem dX7_readCell_116 : decode cX7_readCell 116 = .ok (.iconst 0, 1) := by decide +kernel
theorem dX7_readCell_117 : decode cX7_readCell 117 = .ok (.ireturn, 1) := by decide +kernel
theorem dX7_readCell_118 : decode cX7_readCell 118 = .ok (.aload_n 0, 1) := by decide +kernel
theorem dX7_readCell_119 : decode cX7_readCell 119 = .ok (.getfield 42, 3) := by decide +kernel
theorem dX7_readCell_122 : decode cX7_readCell 122 = .ok (.aload_n 0, 1) := by decide +kernel
theorem dX7_readCell_123 : decode cX7_readCell 123 = .ok (.getfield 93, 3) := by decide +kernel
theorem dX7_readCell_126 : decode cX7_readCell 126 = .ok (.aload_n 0, 1) := by decide +kernel
theorem dX7_readCell_127 : decode cX7_readCell 127 = .ok (.getfield 16, 3) := by decide +kernel
theorem dX7_readCell_130 : decode cX7_readCell 130 = .ok (.aload_n 0, 1) := by decide +kernel
theorem dX7_readCell_131 : decode cX7_readCell 131 = .ok (.getfield 72, 3) := by decide +kernel
theorem dX7_readCell_134 : decode cX7_readCell 134 = .ok (.iaload, 1) := by decide +kernel
theorem dX7_readCell_135 : decode cX7_readCell 135 = .ok (.bipush 48, 2) := by decide +kernel
theorem dX7_readCell_137 : decode cX7_readCell 137 = .ok (.isub, 1) := by decide +kernel
theorem dX7_readCell_138 : decode cX7_readCell 138 = .ok (.iastore, 1) := by decide +kernel
theorem dX7_readCell_139 : decode cX7_readCell 139 = .ok (.aload_n 0, 1) := by decide +kernel
theorem dX7_readCell_140 : decode cX7_readCell 140 = .ok (.dup, 1) := by decide +kernel
theorem dX7_readCell_141 : decode cX7_readCell 141 = .ok (.getfield 72, 3) := by decide +kernel
theorem dX7_readCell_144 : decode cX7_readCell 144 = .ok (.iconst 1, 1) := by decide +kernel
theorem dX7_readCell_145 : decode cX7_readCell 145 = .ok (.iadd, 1) := by decide +kernel
theorem dX7_readCell_146 : decode cX7_readCell 146 = .ok (.putfield 72, 3) := by decide +kernel
theorem dX7_readCell_149 : decode cX7_readCell 149 = .ok (.aload_n 0, 1) := by decide +kernel
theorem dX7_readCell_150 : decode cX7_readCell 150 = .ok (.getfield 72, 3) := by decide +kernel
theorem dX7_readCell_153 : decode cX7_readCell 153 = .ok (.iload_n 1, 1) := by decide +kernel
theorem dX7_readCell_154 : decode cX7_readCell 154 = .ok (.if_icmp .ge 15, 3) := by decide +kernel
theorem dX7_readCell_157 : decode cX7_readCell 157 = .ok (.aload_n 0, 1) := by decide +kernel
theorem dX7_readCell_158 : decode cX7_readCell 158 = .ok (.getfield 16, 3) := by decide +kernel
theorem dX7_readCell_161 : decode cX7_readCell 161 = .ok (.aload_n 0, 1) := by decide +kernel
theorem dX7_readCell_162 : decode cX7_readCell 162 = .ok (.getfield 72, 3) := by decide +kernel
theorem dX7_readCell_165 : decode cX7_readCell 165 = .ok (.iaload, 1) := by decide +kernel
theorem dX7_readCell_166 : decode cX7_readCell 166 = .ok (.goto 4, 3) := by decide +kernel
theorem dX7_readCell_169 : decode cX7_readCell 169 = .ok (.iconst 0, 1) := by decide +kernel
theorem dX7_readCell_170 : decode cX7_readCell 170 = .ok (.istore_n 2, 1) := by decide +kernel
theorem dX7_readCell_171 : decode cX7_readCell 171 = .ok (.iload_n 2, 1) := by decide +kernel
theorem dX7_readCell_172 : decode cX7_readCell 172 = .ok (.bipush 108, 2) := by decide +kernel
theorem dX7_readCell_174 : decode cX7_readCell 174 = .ok (.if_icmp .eq 23, 3) := by decide +kernel
theorem dX7_readCell_177 : decode cX7_readCell 177 = .ok (.iload_n 2, 1) := by decide +kernel
theorem dX7_readCell_178 : decode cX7_readCell 178 = .ok (.bipush 114, 2) := by decide +kernel
theorem dX7_readCell_180 : decode cX7_readCell 180 = .ok (.if_icmp .eq 17, 3) := by decide +kernel
theorem dX7_readCell_183 : decode cX7_readCell 183 = .ok (.iload_n 2, 1) := by decide +kernel
theorem dX7_readCell_184 : decode cX7_readCell 184 = .ok (.bipush 76, 2) := by decide +kernel
theorem dX7_readCell_186 : decode cX7_readCell 186 = .ok (.if_icmp .eq 11, 3) := by decide +kernel
theorem dX7_readCell_189 : decode cX7_readCell 189 = .ok (.iload_n 2, 1) := by decide +kernel
theorem dX7_readCell_190 : decode cX7_readCell 190 = .ok (.bipush 82, 2) := by decide +kernel
theorem dX7_readCell_192 : decode cX7_readCell 192 = .ok (.if_icmp .eq 5, 3) := by decide +kernel
theorem dX7_readCell_195 : decode cX7_readCell 195 = .ok (.iconst 0, 1) := by decide +kernel
theorem dX7_readCell_196 : decode cX7_readCell 196 = .ok (.ireturn, 1) := by decide +kernel
theorem dX7_readCell_197 : decode cX7_readCell 197 = .ok (.aload_n 0, 1) := by decide +kernel
theorem dX7_readCell_198 : decode cX7_readCell 198 = .ok (.dup, 1) := by decide +kernel
theorem dX7_readCell_199 : decode cX7_readCell 199 = .ok (.getfield 72, 3) := by decide +kernel
theorem dX7_readCell_202 : decode cX7_readCell 202 = .ok (.iconst 1, 1) := by decide +kernel
theorem dX7_readCell_203 : decode cX7_readCell 203 = .ok (.iadd, 1) := by decide +kernel
theorem dX7_readCell_204 : decode cX7_readCell 204 = .ok (.putfield 72, 3) := by decide +kernel
theorem dX7_readCell_207 : decode cX7_readCell 207 = .ok (.aload_n 0, 1) := by decide +kernel
theorem dX7_readCell_208 : decode cX7_readCell 208 = .ok (.dup, 1) := by decide +kernel
theorem dX7_readCell_209 : decode cX7_readCell 209 = .ok (.getfield 102, 3) := by decide +kernel
theorem dX7_readCell_212 : decode cX7_readCell 212 = .ok (.iload_n 2, 1) := by decide +kernel
theorem dX7_readCell_213 : decode cX7_readCell 213 = .ok (.bipush 114, 2) := by decide +kernel
theorem dX7_readCell_215 : decode cX7_readCell 215 = .ok (.if_icmp .eq 9, 3) := by decide +kernel
theorem dX7_readCell_218 : decode cX7_readCell 218 = .ok (.iload_n 2, 1) := by decide +kernel
theorem dX7_readCell_219 : decode cX7_readCell 219 = .ok (.bipush 82, 2) := by decide +kernel
theorem dX7_readCell_221 : decode cX7_readCell 221 = .ok (.if_icmp .ne 12, 3) := by decide +kernel
theorem dX7_readCell_224 : decode cX7_readCell 224 = .ok (.iconst 1, 1) := by decide +kernel
theorem dX7_readCell_225 : decode cX7_readCell 225 = .ok (.aload_n 0, 1) := by decide +kernel
theorem dX7_readCell_226 : decode cX7_readCell 226 = .ok (.getfield 93, 3) := by decide +kernel
theorem dX7_readCell_229 : decode cX7_readCell 229 = .ok (.ishl, 1) := by decide +kernel
theorem dX7_readCell_230 : decode cX7_readCell 230 = .ok (.goto 4, 3) := by decide +kernel
theorem dX7_readCell_233 : decode cX7_readCell 233 = .ok (.iconst 0, 1) := by decide +kernel
theorem dX7_readCell_234 : decode cX7_readCell 234 = .ok (.ior, 1) := by decide +kernel
theorem dX7_readCell_235 : decode cX7_readCell 235 = .ok (.putfield 102, 3) := by decide +kernel
theorem dX7_readCell_238 : decode cX7_readCell 238 = .ok (.aload_n 0, 1) := by decide +kernel
theorem dX7_readCell_239 : decode cX7_readCell 239 = .ok (.dup, 1) := by decide +kernel
theorem dX7_readCell_240 : decode cX7_readCell 240 = .ok (.getfield 108, 3) := by decide +kernel
theorem dX7_readCell_243 : decode cX7_readCell 243 = .ok (.iload_n 2, 1) := by decide +kernel
theorem dX7_readCell_244 : decode cX7_readCell 244 = .ok (.bipush 76, 2) := by decide +kernel
theorem dX7_readCell_246 : decode cX7_readCell 246 = .ok (.if_icmp .eq 9, 3) := by decide +kernel
theorem dX7_readCell_249 : decode cX7_readCell 249 = .ok (.iload_n 2, 1) := by decide +kernel
theorem dX7_readCell_250 : decode cX7_readCell 250 = .ok (.bipush 82, 2) := by decide +kernel
theorem dX7_readCell_252 : decode cX7_readCell 252 = .ok (.if_icmp .ne 12, 3) := by decide +kernel
theorem dX7_readCell_255 : decode cX7_readCell 255 = .ok (.iconst 1, 1) := by decide +kernel
theorem dX7_readCell_256 : decode cX7_readCell 256 = .ok (.aload_n 0, 1) := by decide +kernel
theorem dX7_readCell_257 : decode cX7_readCell 257 = .ok (.getfield 93, 3) := by decide +kernel
theorem dX7_readCell_260 : decode cX7_readCell 260 = .ok (.ishl, 1) := by decide +kernel
theorem dX7_readCell_261 : decode cX7_readCell 261 = .ok (.goto 4, 3) := by decide +kernel
theorem dX7_readCell_264 : decode cX7_readCell 264 = .ok (.iconst 0, 1) := by decide +kernel
theorem dX7_readCell_265 : decode cX7_readCell 265 = .ok (.ior, 1) := by decide +kernel
theorem dX7_readCell_266 : decode cX7_readCell 266 = .ok (.putfield 108, 3) := by decide +kernel
theorem dX7_readCell_269 : decode cX7_readCell 269 = .ok (.aload_n 0, 1) := by decide +kernel
theorem dX7_readCell_270 : decode cX7_readCell 270 = .ok (.dup, 1) := by decide +kernel
theorem dX7_readCell_271 : decode cX7_readCell 271 = .ok (.getfield 93, 3) := by decide +kernel
theorem dX7_readCell_274 : decode cX7_readCell 274 = .ok (.iconst 1, 1) := by decide +kernel
theorem dX7_readCell_275 : decode cX7_readCell 275 = .ok (.iadd, 1) := by decide +kernel
theorem dX7_readCell_276 : decode cX7_readCell 276 = .ok (.putfield 93, 3) := by decide +kernel
theorem dX7_readCell_279 : decode cX7_readCell 279 = .ok (.iconst 1, 1) := by decide +kernel
theorem dX7_readCell_280 : decode cX7_readCell 280 = .ok (.ireturn, 1) := by decide +kernel
theorem dX7_readNetNext_0 : decode cX7_readNetNext 0 = .ok (.iconst 0, 1) := by decide +kernel
theorem dX7_readNetNext_1 : decode cX7_readNetNext 1 = .ok (.istore_n 2, 1) := by decide +kernel
theorem dX7_readNetNext_2 : decode cX7_readNetNext 2 = .ok (.iconst 1, 1) := by decide +kernel
theorem dX7_readNetNext_3 : decode cX7_readNetNext 3 = .ok (.istore_n 3, 1) := by decide +kernel
theorem dX7_readNetNext_4 : decode cX7_readNetNext 4 = .ok (.iload_n 3, 1) := by decide +kernel
theorem dX7_readNetNext_5 : decode cX7_readNetNext 5 = .ok (.ifCond .eq 87, 3) := by decide +kernel
theorem dX7_readNetNext_8 : decode cX7_readNetNext 8 = .ok (.iload_n 2, 1) := by decide +kernel
theorem dX7_readNetNext_9 : decode cX7_readNetNext 9 = .ok (.invokestatic 130, 3) := by decide +kernel
theorem dX7_readNetNext_12 : decode cX7_readNetNext 12 = .ok (.iconst 4, 1) := by decide +kernel
theorem dX7_readNetNext_13 : decode cX7_readNetNext 13 = .ok (.if_icmp .ge 79, 3) := by decide +kernel
theorem dX7_readNetNext_16 : decode cX7_readNetNext 16 = .ok (.aload_n 0, 1) := by decide +kernel
theorem dX7_readNetNext_17 : decode cX7_readNetNext 17 = .ok (.getfield 72, 3) := by decide +kernel
theorem dX7_readNetNext_20 : decode cX7_readNetNext 20 = .ok (.iload_n 1, 1) := by decide +kernel
theorem dX7_readNetNext_21 : decode cX7_readNetNext 21 = .ok (.if_icmp .ge 71, 3) := by decide +kernel
theorem dX7_readNetNext_24 : decode cX7_readNetNext 24 = .ok (.aload_n 0, 1) := by decide +kernel
theorem dX7_readNetNext_25 : decode cX7_readNetNext 25 = .ok (.getfield 16, 3) := by decide +kernel
theorem dX7_readNetNext_28 : decode cX7_readNetNext 28 = .ok (.aload_n 0, 1) := by decide +kernel
theorem dX7_readNetNext_29 : decode cX7_readNetNext 29 = .ok (.getfield 72, 3) := by decide +kernel
theorem dX7_readNetNext_32 : decode cX7_readNetNext 32 = .ok (.iaload, 1) := by decide +kernel
theorem dX7_readNetNext_33 : decode cX7_readNetNext 33 = .ok (.bipush 48, 2) := by decide +kernel
theorem dX7_readNetNext_35 : decode cX7_readNetNext 35 = .ok (.isub, 1) := by decide +kernel
theorem dX7_readNetNext_36 : decode cX7_readNetNext 36 = .ok (.istore 4, 2) := by decide +kernel
theorem dX7_readNetNext_38 : decode cX7_readNetNext 38 = .ok (.iload 4, 2) := by decide +kernel
theorem dX7_readNetNext_40 : decode cX7_readNetNext 40 = .ok (.iconst 0, 1) := by decide +kernel
theorem dX7_readNetNext_41 : decode cX7_readNetNext 41 = .ok (.aload_n 0, 1) := by decide +kernel
theorem dX7_readNetNext_42 : decode cX7_readNetNext 42 = .ok (.getfield 93, 3) := by decide +kernel
theorem dX7_readNetNext_45 : decode cX7_readNetNext 45 = .ok (.iconst 1, 1) := by decide +kernel
theorem dX7_readNetNext_46 : decode cX7_readNetNext 46 = .ok (.isub, 1) := by decide +kernel
theorem dX7_readNetNext_47 : decode cX7_readNetNext 47 = .ok (.invokestatic 65, 3) := by decide +kernel
theorem dX7_readNetNext_50 : decode cX7_readNetNext 50 = .ok (.ifCond .eq 16, 3) := by decide +kernel
theorem dX7_readNetNext_53 : decode cX7_readNetNext 53 = .ok (.iload_n 2, 1) := by decide +kernel
theorem dX7_readNetNext_54 : decode cX7_readNetNext 54 = .ok (.iload 4, 2) := by decide +kernel
theorem dX7_readNetNext_56 : decode cX7_readNetNext 56 = .ok (.invokestatic 133, 3) := by decide +kernel
theorem dX7_readNetNext_59 : decode cX7_readNetNext 59 = .ok (.ifCond .ne 7, 3) := by decide +kernel
theorem dX7_readNetNext_62 : decode cX7_readNetNext 62 = .ok (.iconst 1, 1) := by decide +kernel
theorem dX7_readNetNext_63 : decode cX7_readNetNext 63 = .ok (.goto 4, 3) := by decide +kernel
theorem dX7_readNetNext_66 : decode cX7_readNetNext 66 = .ok (.iconst 0, 1) := by decide +kernel
theorem dX7_readNetNext_67 : decode cX7_readNetNext 67 = .ok (.istore_n 3, 1) := by decide +kernel
theorem dX7_readNetNext_68 : decode cX7_readNetNext 68 = .ok (.iload_n 3, 1) := by decide +kernel
theorem dX7_readNetNext_69 : decode cX7_readNetNext 69 = .ok (.ifCond .eq 20, 3) := by decide +kernel
theorem dX7_readNetNext_72 : decode cX7_readNetNext 72 = .ok (.iload_n 2, 1) := by decide +kernel
theorem dX7_readNetNext_73 : decode cX7_readNetNext 73 = .ok (.iconst 1, 1) := by decide +kernel
theorem dX7_readNetNext_74 : decode cX7_readNetNext 74 = .ok (.iload 4, 2) := by decide +kernel
theorem dX7_readNetNext_76 : decode cX7_readNetNext 76 = .ok (.ishl, 1) := by decide +kernel
theorem dX7_readNetNext_77 : decode cX7_readNetNext 77 = .ok (.ior, 1) := by decide +kernel
theorem dX7_readNetNext_78 : decode cX7_readNetNext 78 = .ok (.istore_n 2, 1) := by decide +kernel
theorem dX7_readNetNext_79 : decode cX7_readNetNext 79 = .ok (.aload_n 0, 1) := by decide +kernel
theorem dX7_readNetNext_80 : decode cX7_readNetNext 80 = .ok (.dup, 1) := by decide +kernel
theorem dX7_readNetNext_81 : decode cX7_readNetNext 81 = .ok (.getfield 72, 3) := by decide +kernel
theorem dX7_readNetNext_84 : decode cX7_readNetNext 84 = .ok (.iconst 1, 1) := by decide +kernel
theorem dX7_readNetNext_85 : decode cX7_readNetNext 85 = .ok (.iadd, 1) := by decide +kernel
theorem dX7_readNetNext_86 : decode cX7_readNetNext 86 = .ok (.putfield 72, 3) := by decide +kernel
theorem dX7_readNetNext_89 : decode cX7_readNetNext 89 = .ok (.goto (-85), 3) := by decide +kernel
theorem dX7_readNetNext_92 : decode cX7_readNetNext 92 = .ok (.iload_n 2, 1) := by decide +kernel
theorem dX7_readNetNext_93 : decode cX7_readNetNext 93 = .ok (.invokestatic 130, 3) := by decide +kernel
theorem dX7_readNetNext_96 : decode cX7_readNetNext 96 = .ok (.iconst 2, 1) := by decide +kernel
theorem dX7_readNetNext_97 : decode cX7_readNetNext 97 = .ok (.if_icmp .ge 5, 3) := by decide +kernel
theorem dX7_readNetNext_100 : decode cX7_readNetNext 100 = .ok (.iconst 0, 1) := by decide +kernel
theorem dX7_readNetNext_101 : decode cX7_readNetNext 101 = .ok (.ireturn, 1) := by decide +kernel
theorem dX7_readNetNext_102 : decode cX7_readNetNext 102 = .ok (.aload_n 0, 1) := by decide +kernel
theorem dX7_readNetNext_103 : decode cX7_readNetNext 103 = .ok (.getfield 45, 3) := by decide +kernel
theorem dX7_readNetNext_106 : decode cX7_readNetNext 106 = .ok (.aload_n 0, 1) := by decide +kernel
theorem dX7_readNetNext_107 : decode cX7_readNetNext 107 = .ok (.getfield 96, 3) := by decide +kernel
theorem dX7_readNetNext_110 : decode cX7_readNetNext 110 = .ok (.iload_n 2, 1) := by decide +kernel
theorem dX7_readNetNext_111 : decode cX7_readNetNext 111 = .ok (.iastore, 1) := by decide +kernel
theorem dX7_readNetNext_112 : decode cX7_readNetNext 112 = .ok (.aload_n 0, 1) := by decide +kernel
theorem dX7_readNetNext_113 : decode cX7_readNetNext 113 = .ok (.dup, 1) := by decide +kernel
theorem dX7_readNetNext_114 : decode cX7_readNetNext 114 = .ok (.getfield 96, 3) := by decide +kernel
theorem dX7_readNetNext_117 : decode cX7_readNetNext 117 = .ok (.iconst 1, 1) := by decide +kernel
theorem dX7_readNetNext_118 : decode cX7_readNetNext 118 = .ok (.iadd, 1) := by decide +kernel
theorem dX7_readNetNext_119 : decode cX7_readNetNext 119 = .ok (.putfield 96, 3) := by decide +kernel
theorem dX7_readNetNext_122 : decode cX7_readNetNext 122 = .ok (.iconst 1, 1) := by decide +kernel
theorem dX7_readNetNext_123 : decode cX7_readNetNext 123 = .ok (.ireturn, 1) := by decide +kernel
theorem dX7_weightOf_0 : decode cX7_weightOf 0 = .ok (.aload_n 0, 1) := by decide +kernel
theorem dX7_weightOf_1 : decode cX7_weightOf 1 = .ok (.getfield 30, 3) := by decide +kernel
theorem dX7_weightOf_4 : decode cX7_weightOf 4 = .ok (.iload_n 1, 1) := by decide +kernel
theorem dX7_weightOf_5 : decode cX7_weightOf 5 = .ok (.iaload, 1) := by decide +kernel
theorem dX7_weightOf_6 : decode cX7_weightOf 6 = .ok (.ifCond .ne 12, 3) := by decide +kernel
theorem dX7_weightOf_9 : decode cX7_weightOf 9 = .ok (.aload_n 0, 1) := by decide +kernel
theorem dX7_weightOf_10 : decode cX7_weightOf 10 = .ok (.getfield 33, 3) := by decide +kernel
theorem dX7_weightOf_13 : decode cX7_weightOf 13 = .ok (.iload_n 1, 1) := by decide +kernel
theorem dX7_weightOf_14 : decode cX7_weightOf 14 = .ok (.iaload, 1) := by decide +kernel
theorem dX7_weightOf_15 : decode cX7_weightOf 15 = .ok (.goto 32, 3) := by decide +kernel
theorem dX7_weightOf_18 : decode cX7_weightOf 18 = .ok (.aload_n 0, 1) := by decide +kernel
theorem dX7_weightOf_19 : decode cX7_weightOf 19 = .ok (.getfield 30, 3) := by decide +kernel
theorem dX7_weightOf_22 : decode cX7_weightOf 22 = .ok (.iload_n 1, 1) := by decide +kernel
theorem dX7_weightOf_23 : decode cX7_weightOf 23 = .ok (.iaload, 1) := by decide +kernel
theorem dX7_weightOf_24 : decode cX7_weightOf 24 = .ok (.iconst 1, 1) := by decide +kernel
theorem dX7_weightOf_25 : decode cX7_weightOf 25 = .ok (.if_icmp .ne 14, 3) := by decide +kernel
theorem dX7_weightOf_28 : decode cX7_weightOf 28 = .ok (.aload_n 0, 1) := by decide +kernel
theorem dX7_weightOf_29 : decode cX7_weightOf 29 = .ok (.getfield 33, 3) := by decide +kernel
theorem dX7_weightOf_32 : decode cX7_weightOf 32 = .ok (.iload_n 1, 1) := by decide +kernel
theorem dX7_weightOf_33 : decode cX7_weightOf 33 = .ok (.iaload, 1) := by decide +kernel
theorem dX7_weightOf_34 : decode cX7_weightOf 34 = .ok (.iconst 1, 1) := by decide +kernel
theorem dX7_weightOf_35 : decode cX7_weightOf 35 = .ok (.iadd, 1) := by decide +kernel
theorem dX7_weightOf_36 : decode cX7_weightOf 36 = .ok (.goto 11, 3) := by decide +kernel
theorem dX7_weightOf_39 : decode cX7_weightOf 39 = .ok (.iconst 2, 1) := by decide +kernel
theorem dX7_weightOf_40 : decode cX7_weightOf 40 = .ok (.aload_n 0, 1) := by decide +kernel
theorem dX7_weightOf_41 : decode cX7_weightOf 41 = .ok (.getfield 33, 3) := by decide +kernel
theorem dX7_weightOf_44 : decode cX7_weightOf 44 = .ok (.iload_n 1, 1) := by decide +kernel
theorem dX7_weightOf_45 : decode cX7_weightOf 45 = .ok (.iaload, 1) := by decide +kernel
theorem dX7_weightOf_46 : decode cX7_weightOf 46 = .ok (.imul, 1) := by decide +kernel
theorem dX7_weightOf_47 : decode cX7_weightOf 47 = .ok (.ireturn, 1) := by decide +kernel
theorem dX7_weightOfSet_0 : decode cX7_weightOfSet 0 = .ok (.iconst 0, 1) := by decide +kernel
theorem dX7_weightOfSet_1 : decode cX7_weightOfSet 1 = .ok (.istore_n 2, 1) := by decide +kernel
theorem dX7_weightOfSet_2 : decode cX7_weightOfSet 2 = .ok (.iconst 0, 1) := by decide +kernel
theorem dX7_weightOfSet_3 : decode cX7_weightOfSet 3 = .ok (.istore_n 3, 1) := by decide +kernel
theorem dX7_weightOfSet_4 : decode cX7_weightOfSet 4 = .ok (.iload_n 3, 1) := by decide +kernel
theorem dX7_weightOfSet_5 : decode cX7_weightOfSet 5 = .ok (.aload_n 0, 1) := by decide +kernel
theorem dX7_weightOfSet_6 : decode cX7_weightOfSet 6 = .ok (.getfield 69, 3) := by decide +kernel
theorem dX7_weightOfSet_9 : decode cX7_weightOfSet 9 = .ok (.if_icmp .ge 29, 3) := by decide +kernel
theorem dX7_weightOfSet_12 : decode cX7_weightOfSet 12 = .ok (.iload_n 2, 1) := by decide +kernel
theorem dX7_weightOfSet_13 : decode cX7_weightOfSet 13 = .ok (.iload_n 1, 1) := by decide +kernel
theorem dX7_weightOfSet_14 : decode cX7_weightOfSet 14 = .ok (.iload_n 3, 1) := by decide +kernel
theorem dX7_weightOfSet_15 : decode cX7_weightOfSet 15 = .ok (.invokestatic 133, 3) := by decide +kernel
theorem dX7_weightOfSet_18 : decode cX7_weightOfSet 18 = .ok (.ifCond .eq 11, 3) := by decide +kernel
theorem dX7_weightOfSet_21 : decode cX7_weightOfSet 21 = .ok (.aload_n 0, 1) := by decide +kernel
theorem dX7_weightOfSet_22 : decode cX7_weightOfSet 22 = .ok (.iload_n 3, 1) := by decide +kernel
theorem dX7_weightOfSet_23 : decode cX7_weightOfSet 23 = .ok (.invokevirtual 136, 3) := by decide +kernel
theorem dX7_weightOfSet_26 : decode cX7_weightOfSet 26 = .ok (.goto 4, 3) := by decide +kernel
theorem dX7_weightOfSet_29 : decode cX7_weightOfSet 29 = .ok (.iconst 0, 1) := by decide +kernel
theorem dX7_weightOfSet_30 : decode cX7_weightOfSet 30 = .ok (.iadd, 1) := by decide +kernel
theorem dX7_weightOfSet_31 : decode cX7_weightOfSet 31 = .ok (.istore_n 2, 1) := by decide +kernel
theorem dX7_weightOfSet_32 : decode cX7_weightOfSet 32 = .ok (.iinc 3 1, 3) := by decide +kernel
theorem dX7_weightOfSet_35 : decode cX7_weightOfSet 35 = .ok (.goto (-31), 3) := by decide +kernel
theorem dX7_weightOfSet_38 : decode cX7_weightOfSet 38 = .ok (.iload_n 2, 1) := by decide +kernel
theorem dX7_weightOfSet_39 : decode cX7_weightOfSet 39 = .ok (.ireturn, 1) := by decide +kernel
theorem dX7_all_0 : decode cX7_all 0 = .ok (.iconst 1, 1) := by decide +kernel
theorem dX7_all_1 : decode cX7_all 1 = .ok (.aload_n 0, 1) := by decide +kernel
theorem dX7_all_2 : decode cX7_all 2 = .ok (.getfield 69, 3) := by decide +kernel
theorem dX7_all_5 : decode cX7_all 5 = .ok (.ishl, 1) := by decide +kernel
theorem dX7_all_6 : decode cX7_all 6 = .ok (.iconst 1, 1) := by decide +kernel
theorem dX7_all_7 : decode cX7_all 7 = .ok (.isub, 1) := by decide +kernel
theorem dX7_all_8 : decode cX7_all 8 = .ok (.ireturn, 1) := by decide +kernel
theorem dX7_floatOf_0 : decode cX7_floatOf 0 = .ok (.iload_n 0, 1) := by decide +kernel
theorem dX7_floatOf_1 : decode cX7_floatOf 1 = .ok (.ifCond .ne 5, 3) := by decide +kernel
theorem dX7_floatOf_4 : decode cX7_floatOf 4 = .ok (.iconst 0, 1) := by decide +kernel
theorem dX7_floatOf_5 : decode cX7_floatOf 5 = .ok (.ireturn, 1) := by decide +kernel
theorem dX7_floatOf_6 : decode cX7_floatOf 6 = .ok (.iconst 0, 1) := by decide +kernel
theorem dX7_floatOf_7 : decode cX7_floatOf 7 = .ok (.istore_n 2, 1) := by decide +kernel
theorem dX7_floatOf_8 : decode cX7_floatOf 8 = .ok (.iload_n 0, 1) := by decide +kernel
theorem dX7_floatOf_9 : decode cX7_floatOf 9 = .ok (.iload_n 2, 1) := by decide +kernel
theorem dX7_floatOf_10 : decode cX7_floatOf 10 = .ok (.ishl, 1) := by decide +kernel
theorem dX7_floatOf_11 : decode cX7_floatOf 11 = .ok (.iload_n 1, 1) := by decide +kernel
theorem dX7_floatOf_12 : decode cX7_floatOf 12 = .ok (.if_icmp .ge 9, 3) := by decide +kernel
theorem dX7_floatOf_15 : decode cX7_floatOf 15 = .ok (.iinc 2 1, 3) := by decide +kernel
theorem dX7_floatOf_18 : decode cX7_floatOf 18 = .ok (.goto (-10), 3) := by decide +kernel
theorem dX7_floatOf_21 : decode cX7_floatOf 21 = .ok (.iload_n 0, 1) := by decide +kernel
theorem dX7_floatOf_22 : decode cX7_floatOf 22 = .ok (.i2l, 1) := by decide +kernel
theorem dX7_floatOf_23 : decode cX7_floatOf 23 = .ok (.bipush 23, 2) := by decide +kernel
theorem dX7_floatOf_25 : decode cX7_floatOf 25 = .ok (.iload_n 2, 1) := by decide +kernel
theorem dX7_floatOf_26 : decode cX7_floatOf 26 = .ok (.iadd, 1) := by decide +kernel
theorem dX7_floatOf_27 : decode cX7_floatOf 27 = .ok (.lshl, 1) := by decide +kernel
theorem dX7_floatOf_28 : decode cX7_floatOf 28 = .ok (.lstore_n 3, 1) := by decide +kernel
theorem dX7_floatOf_29 : decode cX7_floatOf 29 = .ok (.lload_n 3, 1) := by decide +kernel
theorem dX7_floatOf_30 : decode cX7_floatOf 30 = .ok (.iload_n 1, 1) := by decide +kernel
theorem dX7_floatOf_31 : decode cX7_floatOf 31 = .ok (.i2l, 1) := by decide +kernel
theorem dX7_floatOf_32 : decode cX7_floatOf 32 = .ok (.ldiv, 1) := by decide +kernel
theorem dX7_floatOf_33 : decode cX7_floatOf 33 = .ok (.lstore 5, 2) := by decide +kernel
theorem dX7_floatOf_35 : decode cX7_floatOf 35 = .ok (.ldc2_w 139, 3) := by decide +kernel
theorem dX7_floatOf_38 : decode cX7_floatOf 38 = .ok (.lload_n 3, 1) := by decide +kernel
theorem dX7_floatOf_39 : decode cX7_floatOf 39 = .ok (.iload_n 1, 1) := by decide +kernel
theorem dX7_floatOf_40 : decode cX7_floatOf 40 = .ok (.i2l, 1) := by decide +kernel
theorem dX7_floatOf_41 : decode cX7_floatOf 41 = .ok (.lrem, 1) := by decide +kernel
theorem dX7_floatOf_42 : decode cX7_floatOf 42 = .ok (.lmul, 1) := by decide +kernel
theorem dX7_floatOf_43 : decode cX7_floatOf 43 = .ok (.lstore 7, 2) := by decide +kernel
theorem dX7_floatOf_45 : decode cX7_floatOf 45 = .ok (.lload 7, 2) := by decide +kernel
theorem dX7_floatOf_47 : decode cX7_floatOf 47 = .ok (.iload_n 1, 1) := by decide +kernel
theorem dX7_floatOf_48 : decode cX7_floatOf 48 = .ok (.i2l, 1) := by decide +kernel
theorem dX7_floatOf_49 : decode cX7_floatOf 49 = .ok (.lcmp, 1) := by decide +kernel
theorem dX7_floatOf_50 : decode cX7_floatOf 50 = .ok (.ifCond .gt 22, 3) := by decide +kernel
theorem dX7_floatOf_53 : decode cX7_floatOf 53 = .ok (.lload 7, 2) := by decide +kernel
theorem dX7_floatOf_55 : decode cX7_floatOf 55 = .ok (.iload_n 1, 1) := by decide +kernel
theorem dX7_floatOf_56 : decode cX7_floatOf 56 = .ok (.i2l, 1) := by decide +kernel
theorem dX7_floatOf_57 : decode cX7_floatOf 57 = .ok (.lcmp, 1) := by decide +kernel
theorem dX7_floatOf_58 : decode cX7_floatOf 58 = .ok (.ifCond .ne 20, 3) := by decide +kernel
theorem dX7_floatOf_61 : decode cX7_floatOf 61 = .ok (.lload 5, 2) := by decide +kernel
theorem dX7_floatOf_63 : decode cX7_floatOf 63 = .ok (.ldc2_w 139, 3) := by decide +kernel
theorem dX7_floatOf_66 : decode cX7_floatOf 66 = .ok (.lrem, 1) := by decide +kernel
theorem dX7_floatOf_67 : decode cX7_floatOf 67 = .ok (.lconst 1, 1) := by decide +kernel
theorem dX7_floatOf_68 : decode cX7_floatOf 68 = .ok (.lcmp, 1) := by decide +kernel
theorem dX7_floatOf_69 : decode cX7_floatOf 69 = .ok (.ifCond .ne 9, 3) := by decide +kernel
theorem dX7_floatOf_72 : decode cX7_floatOf 72 = .ok (.lload 5, 2) := by decide +kernel
theorem dX7_floatOf_74 : decode cX7_floatOf 74 = .ok (.lconst 1, 1) := by decide +kernel
theorem dX7_floatOf_75 : decode cX7_floatOf 75 = .ok (.ladd, 1) := by decide +kernel
theorem dX7_floatOf_76 : decode cX7_floatOf 76 = .ok (.lstore 5, 2) := by decide +kernel
theorem dX7_floatOf_78 : decode cX7_floatOf 78 = .ok (.bipush 127, 2) := by decide +kernel
theorem dX7_floatOf_80 : decode cX7_floatOf 80 = .ok (.iload_n 2, 1) := by decide +kernel
theorem dX7_floatOf_81 : decode cX7_floatOf 81 = .ok (.isub, 1) := by decide +kernel
theorem dX7_floatOf_82 : decode cX7_floatOf 82 = .ok (.bipush 23, 2) := by decide +kernel
theorem dX7_floatOf_84 : decode cX7_floatOf 84 = .ok (.ishl, 1) := by decide +kernel
theorem dX7_floatOf_85 : decode cX7_floatOf 85 = .ok (.lload 5, 2) := by decide +kernel
theorem dX7_floatOf_87 : decode cX7_floatOf 87 = .ok (.ldc2_w 141, 3) := by decide +kernel
theorem dX7_floatOf_90 : decode cX7_floatOf 90 = .ok (.lsub, 1) := by decide +kernel
theorem dX7_floatOf_91 : decode cX7_floatOf 91 = .ok (.l2i, 1) := by decide +kernel
theorem dX7_floatOf_92 : decode cX7_floatOf 92 = .ok (.iadd, 1) := by decide +kernel
theorem dX7_floatOf_93 : decode cX7_floatOf 93 = .ok (.ireturn, 1) := by decide +kernel
theorem dX7_shareOf_0 : decode cX7_shareOf 0 = .ok (.aload_n 0, 1) := by decide +kernel
theorem dX7_shareOf_1 : decode cX7_shareOf 1 = .ok (.iload_n 1, 1) := by decide +kernel
theorem dX7_shareOf_2 : decode cX7_shareOf 2 = .ok (.iconst 1, 1) := by decide +kernel
theorem dX7_shareOf_3 : decode cX7_shareOf 3 = .ok (.if_icmp .ne 7, 3) := by decide +kernel
theorem dX7_shareOf_6 : decode cX7_shareOf 6 = .ok (.iload_n 2, 1) := by decide +kernel
theorem dX7_shareOf_7 : decode cX7_shareOf 7 = .ok (.goto 11, 3) := by decide +kernel
theorem dX7_shareOf_10 : decode cX7_shareOf 10 = .ok (.aload_n 0, 1) := by decide +kernel
theorem dX7_shareOf_11 : decode cX7_shareOf 11 = .ok (.invokevirtual 143, 3) := by decide +kernel
theorem dX7_shareOf_14 : decode cX7_shareOf 14 = .ok (.iload_n 2, 1) := by decide +kernel
theorem dX7_shareOf_15 : decode cX7_shareOf 15 = .ok (.iconst (-1), 1) := by decide +kernel
theorem dX7_shareOf_16 : decode cX7_shareOf 16 = .ok (.ixor, 1) := by decide +kernel
theorem dX7_shareOf_17 : decode cX7_shareOf 17 = .ok (.iand, 1) := by decide +kernel
theorem dX7_shareOf_18 : decode cX7_shareOf 18 = .ok (.invokevirtual 147, 3) := by decide +kernel
theorem dX7_shareOf_21 : decode cX7_shareOf 21 = .ok (.aload_n 0, 1) := by decide +kernel
theorem dX7_shareOf_22 : decode cX7_shareOf 22 = .ok (.aload_n 0, 1) := by decide +kernel
theorem dX7_shareOf_23 : decode cX7_shareOf 23 = .ok (.invokevirtual 143, 3) := by decide +kernel
theorem dX7_shareOf_26 : decode cX7_shareOf 26 = .ok (.invokevirtual 147, 3) := by decide +kernel
theorem dX7_shareOf_29 : decode cX7_shareOf 29 = .ok (.invokestatic 150, 3) := by decide +kernel
theorem dX7_shareOf_32 : decode cX7_shareOf 32 = .ok (.ireturn, 1) := by decide +kernel
theorem dX7_isWithin_0 : decode cX7_isWithin 0 = .ok (.aload_n 0, 1) := by decide +kernel
theorem dX7_isWithin_1 : decode cX7_isWithin 1 = .ok (.iload_n 1, 1) := by decide +kernel
theorem dX7_isWithin_2 : decode cX7_isWithin 2 = .ok (.iload_n 2, 1) := by decide +kernel
theorem dX7_isWithin_3 : decode cX7_isWithin 3 = .ok (.invokevirtual 154, 3) := by decide +kernel
theorem dX7_isWithin_6 : decode cX7_isWithin 6 = .ok (.aload_n 0, 1) := by decide +kernel
theorem dX7_isWithin_7 : decode cX7_isWithin 7 = .ok (.getfield 20, 3) := by decide +kernel
theorem dX7_isWithin_10 : decode cX7_isWithin 10 = .ok (.if_icmp .gt 7, 3) := by decide +kernel
theorem dX7_isWithin_13 : decode cX7_isWithin 13 = .ok (.iconst 1, 1) := by decide +kernel
theorem dX7_isWithin_14 : decode cX7_isWithin 14 = .ok (.goto 4, 3) := by decide +kernel
theorem dX7_isWithin_17 : decode cX7_isWithin 17 = .ok (.iconst 0, 1) := by decide +kernel
theorem dX7_isWithin_18 : decode cX7_isWithin 18 = .ok (.ireturn, 1) := by decide +kernel
theorem dX7_isCut_0 : decode cX7_isCut 0 = .ok (.aload_n 0, 1) := by decide +kernel
theorem dX7_isCut_1 : decode cX7_isCut 1 = .ok (.getfield 36, 3) := by decide +kernel
theorem dX7_isCut_4 : decode cX7_isCut 4 = .ok (.iload_n 1, 1) := by decide +kernel
theorem dX7_isCut_5 : decode cX7_isCut 5 = .ok (.iaload, 1) := by decide +kernel
theorem dX7_isCut_6 : decode cX7_isCut 6 = .ok (.iload_n 2, 1) := by decide +kernel
theorem dX7_isCut_7 : decode cX7_isCut 7 = .ok (.iand, 1) := by decide +kernel
theorem dX7_isCut_8 : decode cX7_isCut 8 = .ok (.istore_n 3, 1) := by decide +kernel
theorem dX7_isCut_9 : decode cX7_isCut 9 = .ok (.iload_n 3, 1) := by decide +kernel
theorem dX7_isCut_10 : decode cX7_isCut 10 = .ok (.ifCond .eq 17, 3) := by decide +kernel
theorem dX7_isCut_13 : decode cX7_isCut 13 = .ok (.iload_n 3, 1) := by decide +kernel
theorem dX7_isCut_14 : decode cX7_isCut 14 = .ok (.aload_n 0, 1) := by decide +kernel
theorem dX7_isCut_15 : decode cX7_isCut 15 = .ok (.getfield 36, 3) := by decide +kernel
theorem dX7_isCut_18 : decode cX7_isCut 18 = .ok (.iload_n 1, 1) := by decide +kernel
theorem dX7_isCut_19 : decode cX7_isCut 19 = .ok (.iaload, 1) := by decide +kernel
theorem dX7_isCut_20 : decode cX7_isCut 20 = .ok (.if_icmp .eq 7, 3) := by decide +kernel
theorem dX7_isCut_23 : decode cX7_isCut 23 = .ok (.iconst 1, 1) := by decide +kernel
theorem dX7_isCut_24 : decode cX7_isCut 24 = .ok (.goto 4, 3) := by decide +kernel
theorem dX7_isCut_27 : decode cX7_isCut 27 = .ok (.iconst 0, 1) := by decide +kernel
theorem dX7_isCut_28 : decode cX7_isCut 28 = .ok (.ireturn, 1) := by decide +kernel
theorem dX7_cutsBy_0 : decode cX7_cutsBy 0 = .ok (.iconst 0, 1) := by decide +kernel
theorem dX7_cutsBy_1 : decode cX7_cutsBy 1 = .ok (.istore_n 2, 1) := by decide +kernel
theorem dX7_cutsBy_2 : decode cX7_cutsBy 2 = .ok (.iconst 0, 1) := by decide +kernel
theorem dX7_cutsBy_3 : decode cX7_cutsBy 3 = .ok (.istore_n 3, 1) := by decide +kernel
theorem dX7_cutsBy_4 : decode cX7_cutsBy 4 = .ok (.iload_n 3, 1) := by decide +kernel
theorem dX7_cutsBy_5 : decode cX7_cutsBy 5 = .ok (.aload_n 0, 1) := by decide +kernel
theorem dX7_cutsBy_6 : decode cX7_cutsBy 6 = .ok (.getfield 99, 3) := by decide +kernel
theorem dX7_cutsBy_9 : decode cX7_cutsBy 9 = .ok (.if_icmp .ge 26, 3) := by decide +kernel
theorem dX7_cutsBy_12 : decode cX7_cutsBy 12 = .ok (.iload_n 2, 1) := by decide +kernel
theorem dX7_cutsBy_13 : decode cX7_cutsBy 13 = .ok (.aload_n 0, 1) := by decide +kernel
theorem dX7_cutsBy_14 : decode cX7_cutsBy 14 = .ok (.iload_n 3, 1) := by decide +kernel
theorem dX7_cutsBy_15 : decode cX7_cutsBy 15 = .ok (.iload_n 1, 1) := by decide +kernel
theorem dX7_cutsBy_16 : decode cX7_cutsBy 16 = .ok (.invokevirtual 157, 3) := by decide +kernel
theorem dX7_cutsBy_19 : decode cX7_cutsBy 19 = .ok (.ifCond .eq 7, 3) := by decide +kernel
theorem dX7_cutsBy_22 : decode cX7_cutsBy 22 = .ok (.iconst 1, 1) := by decide +kernel
theorem dX7_cutsBy_23 : decode cX7_cutsBy 23 = .ok (.goto 4, 3) := by decide +kernel
theorem dX7_cutsBy_26 : decode cX7_cutsBy 26 = .ok (.iconst 0, 1) := by decide +kernel
theorem dX7_cutsBy_27 : decode cX7_cutsBy 27 = .ok (.iadd, 1) := by decide +kernel
theorem dX7_cutsBy_28 : decode cX7_cutsBy 28 = .ok (.istore_n 2, 1) := by decide +kernel
theorem dX7_cutsBy_29 : decode cX7_cutsBy 29 = .ok (.iinc 3 1, 3) := by decide +kernel
theorem dX7_cutsBy_32 : decode cX7_cutsBy 32 = .ok (.goto (-28), 3) := by decide +kernel
theorem dX7_cutsBy_35 : decode cX7_cutsBy 35 = .ok (.iload_n 2, 1) := by decide +kernel
theorem dX7_cutsBy_36 : decode cX7_cutsBy 36 = .ok (.ireturn, 1) := by decide +kernel
theorem dX7_gainOf_0 : decode cX7_gainOf 0 = .ok (.aload_n 0, 1) := by decide +kernel
theorem dX7_gainOf_1 : decode cX7_gainOf 1 = .ok (.iload_n 2, 1) := by decide +kernel
theorem dX7_gainOf_2 : decode cX7_gainOf 2 = .ok (.invokevirtual 160, 3) := by decide +kernel
theorem dX7_gainOf_5 : decode cX7_gainOf 5 = .ok (.aload_n 0, 1) := by decide +kernel
theorem dX7_gainOf_6 : decode cX7_gainOf 6 = .ok (.iload_n 2, 1) := by decide +kernel
theorem dX7_gainOf_7 : decode cX7_gainOf 7 = .ok (.iconst 1, 1) := by decide +kernel
theorem dX7_gainOf_8 : decode cX7_gainOf 8 = .ok (.iload_n 1, 1) := by decide +kernel
theorem dX7_gainOf_9 : decode cX7_gainOf 9 = .ok (.ishl, 1) := by decide +kernel
theorem dX7_gainOf_10 : decode cX7_gainOf 10 = .ok (.ixor, 1) := by decide +kernel
theorem dX7_gainOf_11 : decode cX7_gainOf 11 = .ok (.invokevirtual 160, 3) := by decide +kernel
theorem dX7_gainOf_14 : decode cX7_gainOf 14 = .ok (.isub, 1) := by decide +kernel
theorem dX7_gainOf_15 : decode cX7_gainOf 15 = .ok (.ireturn, 1) := by decide +kernel
theorem dX7_netsOf_0 : decode cX7_netsOf 0 = .ok (.iconst 0, 1) := by decide +kernel
theorem dX7_netsOf_1 : decode cX7_netsOf 1 = .ok (.istore_n 2, 1) := by decide +kernel
theorem dX7_netsOf_2 : decode cX7_netsOf 2 = .ok (.iconst 0, 1) := by decide +kernel
theorem dX7_netsOf_3 : decode cX7_netsOf 3 = .ok (.istore_n 3, 1) := by decide +kernel
theorem dX7_netsOf_4 : decode cX7_netsOf 4 = .ok (.iload_n 3, 1) := by decide +kernel
theorem dX7_netsOf_5 : decode cX7_netsOf 5 = .ok (.aload_n 0, 1) := by decide +kernel
theorem dX7_netsOf_6 : decode cX7_netsOf 6 = .ok (.getfield 99, 3) := by decide +kernel
theorem dX7_netsOf_9 : decode cX7_netsOf 9 = .ok (.if_icmp .ge 32, 3) := by decide +kernel
theorem dX7_netsOf_12 : decode cX7_netsOf 12 = .ok (.iload_n 2, 1) := by decide +kernel
theorem dX7_netsOf_13 : decode cX7_netsOf 13 = .ok (.aload_n 0, 1) := by decide +kernel
theorem dX7_netsOf_14 : decode cX7_netsOf 14 = .ok (.getfield 36, 3) := by decide +kernel
theorem dX7_netsOf_17 : decode cX7_netsOf 17 = .ok (.iload_n 3, 1) := by decide +kernel
theorem dX7_netsOf_18 : decode cX7_netsOf 18 = .ok (.iaload, 1) := by decide +kernel
theorem dX7_netsOf_19 : decode cX7_netsOf 19 = .ok (.iload_n 1, 1) := by decide +kernel
theorem dX7_netsOf_20 : decode cX7_netsOf 20 = .ok (.invokestatic 133, 3) := by decide +kernel
theorem dX7_netsOf_23 : decode cX7_netsOf 23 = .ok (.ifCond .eq 9, 3) := by decide +kernel
theorem dX7_netsOf_26 : decode cX7_netsOf 26 = .ok (.iconst 1, 1) := by decide +kernel
theorem dX7_netsOf_27 : decode cX7_netsOf 27 = .ok (.iload_n 3, 1) := by decide +kernel
theorem dX7_netsOf_28 : decode cX7_netsOf 28 = .ok (.ishl, 1) := by decide +kernel
theorem dX7_netsOf_29 : decode cX7_netsOf 29 = .ok (.goto 4, 3) := by decide +kernel
theorem dX7_netsOf_32 : decode cX7_netsOf 32 = .ok (.iconst 0, 1) := by decide +kernel
theorem dX7_netsOf_33 : decode cX7_netsOf 33 = .ok (.ior, 1) := by decide +kernel
theorem dX7_netsOf_34 : decode cX7_netsOf 34 = .ok (.istore_n 2, 1) := by decide +kernel
theorem dX7_netsOf_35 : decode cX7_netsOf 35 = .ok (.iinc 3 1, 3) := by decide +kernel
theorem dX7_netsOf_38 : decode cX7_netsOf 38 = .ok (.goto (-34), 3) := by decide +kernel
theorem dX7_netsOf_41 : decode cX7_netsOf 41 = .ok (.iload_n 2, 1) := by decide +kernel
theorem dX7_netsOf_42 : decode cX7_netsOf 42 = .ok (.ireturn, 1) := by decide +kernel
theorem dX7_ofCell_0 : decode cX7_ofCell 0 = .ok (.aload_n 0, 1) := by decide +kernel
theorem dX7_ofCell_1 : decode cX7_ofCell 1 = .ok (.iload_n 1, 1) := by decide +kernel
theorem dX7_ofCell_2 : decode cX7_ofCell 2 = .ok (.invokevirtual 163, 3) := by decide +kernel
theorem dX7_ofCell_5 : decode cX7_ofCell 5 = .ok (.ifCond .ne 5, 3) := by decide +kernel
theorem dX7_ofCell_8 : decode cX7_ofCell 8 = .ok (.iconst (-1), 1) := by decide +kernel
theorem dX7_ofCell_9 : decode cX7_ofCell 9 = .ok (.ireturn, 1) := by decide +kernel
theorem dX7_ofCell_10 : decode cX7_ofCell 10 = .ok (.iload_n 2, 1) := by decide +kernel
theorem dX7_ofCell_11 : decode cX7_ofCell 11 = .ok (.tableswitch 119 0 7 #[45, 52, 59, 65, 74, 83, 89, 102], 45) := by decide +kernel
theorem dX7_ofCell_56 : decode cX7_ofCell 56 = .ok (.aload_n 0, 1) := by decide +kernel
theorem dX7_ofCell_57 : decode cX7_ofCell 57 = .ok (.getfield 30, 3) := by decide +kernel
theorem dX7_ofCell_60 : decode cX7_ofCell 60 = .ok (.iload_n 1, 1) := by decide +kernel
theorem dX7_ofCell_61 : decode cX7_ofCell 61 = .ok (.iaload, 1) := by decide +kernel
theorem dX7_ofCell_62 : decode cX7_ofCell 62 = .ok (.ireturn, 1) := by decide +kernel
theorem dX7_ofCell_63 : decode cX7_ofCell 63 = .ok (.aload_n 0, 1) := by decide +kernel
theorem dX7_ofCell_64 : decode cX7_ofCell 64 = .ok (.getfield 33, 3) := by decide +kernel
theorem dX7_ofCell_67 : decode cX7_ofCell 67 = .ok (.iload_n 1, 1) := by decide +kernel
theorem dX7_ofCell_68 : decode cX7_ofCell 68 = .ok (.iaload, 1) := by decide +kernel
theorem dX7_ofCell_69 : decode cX7_ofCell 69 = .ok (.ireturn, 1) := by decide +kernel
theorem dX7_ofCell_70 : decode cX7_ofCell 70 = .ok (.aload_n 0, 1) := by decide +kernel
theorem dX7_ofCell_71 : decode cX7_ofCell 71 = .ok (.iload_n 1, 1) := by decide +kernel
theorem dX7_ofCell_72 : decode cX7_ofCell 72 = .ok (.invokevirtual 136, 3) := by decide +kernel
theorem dX7_ofCell_75 : decode cX7_ofCell 75 = .ok (.ireturn, 1) := by decide +kernel
theorem dX7_ofCell_76 : decode cX7_ofCell 76 = .ok (.aload_n 0, 1) := by decide +kernel
theorem dX7_ofCell_77 : decode cX7_ofCell 77 = .ok (.getfield 105, 3) := by decide +kernel
theorem dX7_ofCell_80 : decode cX7_ofCell 80 = .ok (.iload_n 1, 1) := by decide +kernel
theorem dX7_ofCell_81 : decode cX7_ofCell 81 = .ok (.ishr, 1) := by decide +kernel
theorem dX7_ofCell_82 : decode cX7_ofCell 82 = .ok (.iconst 1, 1) := by decide +kernel
theorem dX7_ofCell_83 : decode cX7_ofCell 83 = .ok (.iand, 1) := by decide +kernel
theorem dX7_ofCell_84 : decode cX7_ofCell 84 = .ok (.ireturn, 1) := by decide +kernel
theorem dX7_ofCell_85 : decode cX7_ofCell 85 = .ok (.aload_n 0, 1) := by decide +kernel
theorem dX7_ofCell_86 : decode cX7_ofCell 86 = .ok (.getfield 111, 3) := by decide +kernel
theorem dX7_ofCell_89 : decode cX7_ofCell 89 = .ok (.iload_n 1, 1) := by decide +kernel
theorem dX7_ofCell_90 : decode cX7_ofCell 90 = .ok (.ishr, 1) := by decide +kernel
theorem dX7_ofCell_91 : decode cX7_ofCell 91 = .ok (.iconst 1, 1) := by decide +kernel
theorem dX7_ofCell_92 : decode cX7_ofCell 92 = .ok (.iand, 1) := by decide +kernel
theorem dX7_ofCell_93 : decode cX7_ofCell 93 = .ok (.ireturn, 1) := by decide +kernel
theorem dX7_ofCell_94 : decode cX7_ofCell 94 = .ok (.aload_n 0, 1) := by decide +kernel
theorem dX7_ofCell_95 : decode cX7_ofCell 95 = .ok (.iload_n 1, 1) := by decide +kernel
theorem dX7_ofCell_96 : decode cX7_ofCell 96 = .ok (.invokevirtual 166, 3) := by decide +kernel
theorem dX7_ofCell_99 : decode cX7_ofCell 99 = .ok (.ireturn, 1) := by decide +kernel
theorem dX7_ofCell_100 : decode cX7_ofCell 100 = .ok (.aload_n 0, 1) := by decide +kernel
theorem dX7_ofCell_101 : decode cX7_ofCell 101 = .ok (.iload_n 1, 1) := by decide +kernel
theorem dX7_ofCell_102 : decode cX7_ofCell 102 = .ok (.aload_n 0, 1) := by decide +kernel
theorem dX7_ofCell_103 : decode cX7_ofCell 103 = .ok (.getfield 105, 3) := by decide +kernel
theorem dX7_ofCell_106 : decode cX7_ofCell 106 = .ok (.invokevirtual 169, 3) := by decide +kernel
theorem dX7_ofCell_109 : decode cX7_ofCell 109 = .ok (.bipush 10, 2) := by decide +kernel
theorem dX7_ofCell_111 : decode cX7_ofCell 111 = .ok (.iadd, 1) := by decide +kernel
theorem dX7_ofCell_112 : decode cX7_ofCell 112 = .ok (.ireturn, 1) := by decide +kernel
theorem dX7_ofCell_113 : decode cX7_ofCell 113 = .ok (.aload_n 0, 1) := by decide +kernel
theorem dX7_ofCell_114 : decode cX7_ofCell 114 = .ok (.iload_n 1, 1) := by decide +kernel
theorem dX7_ofCell_115 : decode cX7_ofCell 115 = .ok (.invokevirtual 136, 3) := by decide +kernel
theorem dX7_ofCell_118 : decode cX7_ofCell 118 = .ok (.aload_n 0, 1) := by decide +kernel
theorem dX7_ofCell_119 : decode cX7_ofCell 119 = .ok (.aload_n 0, 1) := by decide +kernel
theorem dX7_ofCell_120 : decode cX7_ofCell 120 = .ok (.invokevirtual 143, 3) := by decide +kernel
theorem dX7_ofCell_123 : decode cX7_ofCell 123 = .ok (.invokevirtual 147, 3) := by decide +kernel
theorem dX7_ofCell_126 : decode cX7_ofCell 126 = .ok (.invokestatic 150, 3) := by decide +kernel
theorem dX7_ofCell_129 : decode cX7_ofCell 129 = .ok (.ireturn, 1) := by decide +kernel
theorem dX7_ofCell_130 : decode cX7_ofCell 130 = .ok (.bipush (-2), 2) := by decide +kernel
theorem dX7_ofCell_132 : decode cX7_ofCell 132 = .ok (.ireturn, 1) := by decide +kernel
theorem dX7_ofNet_0 : decode cX7_ofNet 0 = .ok (.iload_n 1, 1) := by decide +kernel
theorem dX7_ofNet_1 : decode cX7_ofNet 1 = .ok (.ifCond .lt 11, 3) := by decide +kernel
theorem dX7_ofNet_4 : decode cX7_ofNet 4 = .ok (.iload_n 1, 1) := by decide +kernel
theorem dX7_ofNet_5 : decode cX7_ofNet 5 = .ok (.aload_n 0, 1) := by decide +kernel
theorem dX7_ofNet_6 : decode cX7_ofNet 6 = .ok (.getfield 99, 3) := by decide +kernel
theorem dX7_ofNet_9 : decode cX7_ofNet 9 = .ok (.if_icmp .lt 5, 3) := by decide +kernel
theorem dX7_ofNet_12 : decode cX7_ofNet 12 = .ok (.iconst (-1), 1) := by decide +kernel
theorem dX7_ofNet_13 : decode cX7_ofNet 13 = .ok (.ireturn, 1) := by decide +kernel
theorem dX7_ofNet_14 : decode cX7_ofNet 14 = .ok (.iload_n 2, 1) := by decide +kernel
theorem dX7_ofNet_15 : decode cX7_ofNet 15 = .ok (.ifCond .ne 12, 3) := by decide +kernel
theorem dX7_ofNet_18 : decode cX7_ofNet 18 = .ok (.aload_n 0, 1) := by decide +kernel
theorem dX7_ofNet_19 : decode cX7_ofNet 19 = .ok (.getfield 36, 3) := by decide +kernel
theorem dX7_ofNet_22 : decode cX7_ofNet 22 = .ok (.iload_n 1, 1) := by decide +kernel
theorem dX7_ofNet_23 : decode cX7_ofNet 23 = .ok (.iaload, 1) := by decide +kernel
theorem dX7_ofNet_24 : decode cX7_ofNet 24 = .ok (.goto 49, 3) := by decide +kernel
theorem dX7_ofNet_27 : decode cX7_ofNet 27 = .ok (.iload_n 2, 1) := by decide +kernel
theorem dX7_ofNet_28 : decode cX7_ofNet 28 = .ok (.iconst 1, 1) := by decide +kernel
theorem dX7_ofNet_29 : decode cX7_ofNet 29 = .ok (.if_icmp .ne 17, 3) := by decide +kernel
theorem dX7_ofNet_32 : decode cX7_ofNet 32 = .ok (.aload_n 0, 1) := by decide +kernel
theorem dX7_ofNet_33 : decode cX7_ofNet 33 = .ok (.getfield 36, 3) := by decide +kernel
theorem dX7_ofNet_36 : decode cX7_ofNet 36 = .ok (.iload_n 1, 1) := by decide +kernel
theorem dX7_ofNet_37 : decode cX7_ofNet 37 = .ok (.iaload, 1) := by decide +kernel
theorem dX7_ofNet_38 : decode cX7_ofNet 38 = .ok (.aload_n 0, 1) := by decide +kernel
theorem dX7_ofNet_39 : decode cX7_ofNet 39 = .ok (.getfield 105, 3) := by decide +kernel
theorem dX7_ofNet_42 : decode cX7_ofNet 42 = .ok (.iand, 1) := by decide +kernel
theorem dX7_ofNet_43 : decode cX7_ofNet 43 = .ok (.goto 30, 3) := by decide +kernel
theorem dX7_ofNet_46 : decode cX7_ofNet 46 = .ok (.iload_n 2, 1) := by decide +kernel
theorem dX7_ofNet_47 : decode cX7_ofNet 47 = .ok (.iconst 2, 1) := by decide +kernel
theorem dX7_ofNet_48 : decode cX7_ofNet 48 = .ok (.if_icmp .ne 23, 3) := by decide +kernel
theorem dX7_ofNet_51 : decode cX7_ofNet 51 = .ok (.aload_n 0, 1) := by decide +kernel
theorem dX7_ofNet_52 : decode cX7_ofNet 52 = .ok (.iload_n 1, 1) := by decide +kernel
theorem dX7_ofNet_53 : decode cX7_ofNet 53 = .ok (.aload_n 0, 1) := by decide +kernel
theorem dX7_ofNet_54 : decode cX7_ofNet 54 = .ok (.getfield 105, 3) := by decide +kernel
theorem dX7_ofNet_57 : decode cX7_ofNet 57 = .ok (.invokevirtual 157, 3) := by decide +kernel
theorem dX7_ofNet_60 : decode cX7_ofNet 60 = .ok (.ifCond .eq 7, 3) := by decide +kernel
theorem dX7_ofNet_63 : decode cX7_ofNet 63 = .ok (.iconst 1, 1) := by decide +kernel
theorem dX7_ofNet_64 : decode cX7_ofNet 64 = .ok (.goto 9, 3) := by decide +kernel
theorem dX7_ofNet_67 : decode cX7_ofNet 67 = .ok (.iconst 0, 1) := by decide +kernel
theorem dX7_ofNet_68 : decode cX7_ofNet 68 = .ok (.goto 5, 3) := by decide +kernel
theorem dX7_ofNet_71 : decode cX7_ofNet 71 = .ok (.bipush (-2), 2) := by decide +kernel
theorem dX7_ofNet_73 : decode cX7_ofNet 73 = .ok (.ireturn, 1) := by decide +kernel
theorem dX7_ofSide_0 : decode cX7_ofSide 0 = .ok (.aload_n 0, 1) := by decide +kernel
theorem dX7_ofSide_1 : decode cX7_ofSide 1 = .ok (.getfield 69, 3) := by decide +kernel
theorem dX7_ofSide_4 : decode cX7_ofSide 4 = .ok (.ifCond .ne 6, 3) := by decide +kernel
theorem dX7_ofSide_7 : decode cX7_ofSide 7 = .ok (.bipush (-3), 2) := by decide +kernel
theorem dX7_ofSide_9 : decode cX7_ofSide 9 = .ok (.ireturn, 1) := by decide +kernel
theorem dX7_ofSide_10 : decode cX7_ofSide 10 = .ok (.iload_n 1, 1) := by decide +kernel
theorem dX7_ofSide_11 : decode cX7_ofSide 11 = .ok (.iconst 0, 1) := by decide +kernel
theorem dX7_ofSide_12 : decode cX7_ofSide 12 = .ok (.iconst 1, 1) := by decide +kernel
theorem dX7_ofSide_13 : decode cX7_ofSide 13 = .ok (.invokestatic 65, 3) := by decide +kernel
theorem dX7_ofSide_16 : decode cX7_ofSide 16 = .ok (.ifCond .ne 6, 3) := by decide +kernel
theorem dX7_ofSide_19 : decode cX7_ofSide 19 = .ok (.bipush (-2), 2) := by decide +kernel
theorem dX7_ofSide_21 : decode cX7_ofSide 21 = .ok (.ireturn, 1) := by decide +kernel
theorem dX7_ofSide_22 : decode cX7_ofSide 22 = .ok (.iload_n 1, 1) := by decide +kernel
theorem dX7_ofSide_23 : decode cX7_ofSide 23 = .ok (.iconst 1, 1) := by decide +kernel
theorem dX7_ofSide_24 : decode cX7_ofSide 24 = .ok (.if_icmp .ne 10, 3) := by decide +kernel
theorem dX7_ofSide_27 : decode cX7_ofSide 27 = .ok (.aload_n 0, 1) := by decide +kernel
theorem dX7_ofSide_28 : decode cX7_ofSide 28 = .ok (.getfield 105, 3) := by decide +kernel
theorem dX7_ofSide_31 : decode cX7_ofSide 31 = .ok (.goto 14, 3) := by decide +kernel
theorem dX7_ofSide_34 : decode cX7_ofSide 34 = .ok (.aload_n 0, 1) := by decide +kernel
theorem dX7_ofSide_35 : decode cX7_ofSide 35 = .ok (.invokevirtual 143, 3) := by decide +kernel
theorem dX7_ofSide_38 : decode cX7_ofSide 38 = .ok (.aload_n 0, 1) := by decide +kernel
theorem dX7_ofSide_39 : decode cX7_ofSide 39 = .ok (.getfield 105, 3) := by decide +kernel
theorem dX7_ofSide_42 : decode cX7_ofSide 42 = .ok (.iconst (-1), 1) := by decide +kernel
theorem dX7_ofSide_43 : decode cX7_ofSide 43 = .ok (.ixor, 1) := by decide +kernel
theorem dX7_ofSide_44 : decode cX7_ofSide 44 = .ok (.iand, 1) := by decide +kernel
theorem dX7_ofSide_45 : decode cX7_ofSide 45 = .ok (.istore_n 3, 1) := by decide +kernel
theorem dX7_ofSide_46 : decode cX7_ofSide 46 = .ok (.iload_n 2, 1) := by decide +kernel
theorem dX7_ofSide_47 : decode cX7_ofSide 47 = .ok (.ifCond .ne 7, 3) := by decide +kernel
theorem dX7_ofSide_50 : decode cX7_ofSide 50 = .ok (.iload_n 3, 1) := by decide +kernel
theorem dX7_ofSide_51 : decode cX7_ofSide 51 = .ok (.goto 60, 3) := by decide +kernel
theorem dX7_ofSide_54 : decode cX7_ofSide 54 = .ok (.iload_n 2, 1) := by decide +kernel
theorem dX7_ofSide_55 : decode cX7_ofSide 55 = .ok (.iconst 1, 1) := by decide +kernel
theorem dX7_ofSide_56 : decode cX7_ofSide 56 = .ok (.if_icmp .ne 11, 3) := by decide +kernel
theorem dX7_ofSide_59 : decode cX7_ofSide 59 = .ok (.aload_n 0, 1) := by decide +kernel
theorem dX7_ofSide_60 : decode cX7_ofSide 60 = .ok (.iload_n 3, 1) := by decide +kernel
theorem dX7_ofSide_61 : decode cX7_ofSide 61 = .ok (.invokevirtual 147, 3) := by decide +kernel
theorem dX7_ofSide_64 : decode cX7_ofSide 64 = .ok (.goto 47, 3) := by decide +kernel
theorem dX7_ofSide_67 : decode cX7_ofSide 67 = .ok (.iload_n 2, 1) := by decide +kernel
theorem dX7_ofSide_68 : decode cX7_ofSide 68 = .ok (.iconst 2, 1) := by decide +kernel
theorem dX7_ofSide_69 : decode cX7_ofSide 69 = .ok (.if_icmp .ne 15, 3) := by decide +kernel
theorem dX7_ofSide_72 : decode cX7_ofSide 72 = .ok (.aload_n 0, 1) := by decide +kernel
theorem dX7_ofSide_73 : decode cX7_ofSide 73 = .ok (.iload_n 1, 1) := by decide +kernel
theorem dX7_ofSide_74 : decode cX7_ofSide 74 = .ok (.aload_n 0, 1) := by decide +kernel
theorem dX7_ofSide_75 : decode cX7_ofSide 75 = .ok (.getfield 105, 3) := by decide +kernel
theorem dX7_ofSide_78 : decode cX7_ofSide 78 = .ok (.invokevirtual 154, 3) := by decide +kernel
theorem dX7_ofSide_81 : decode cX7_ofSide 81 = .ok (.goto 30, 3) := by decide +kernel
theorem dX7_ofSide_84 : decode cX7_ofSide 84 = .ok (.iload_n 2, 1) := by decide +kernel
theorem dX7_ofSide_85 : decode cX7_ofSide 85 = .ok (.iconst 3, 1) := by decide +kernel
theorem dX7_ofSide_86 : decode cX7_ofSide 86 = .ok (.if_icmp .ne 23, 3) := by decide +kernel
theorem dX7_ofSide_89 : decode cX7_ofSide 89 = .ok (.aload_n 0, 1) := by decide +kernel
theorem dX7_ofSide_90 : decode cX7_ofSide 90 = .ok (.iload_n 1, 1) := by decide +kernel
theorem dX7_ofSide_91 : decode cX7_ofSide 91 = .ok (.aload_n 0, 1) := by decide +kernel
theorem dX7_ofSide_92 : decode cX7_ofSide 92 = .ok (.getfield 105, 3) := by decide +kernel
theorem dX7_ofSide_95 : decode cX7_ofSide 95 = .ok (.invokevirtual 172, 3) := by decide +kernel
theorem dX7_ofSide_98 : decode cX7_ofSide 98 = .ok (.ifCond .eq 7, 3) := by decide +kernel
theorem dX7_ofSide_101 : decode cX7_ofSide 101 = .ok (.iconst 1, 1) := by decide +kernel
theorem dX7_ofSide_102 : decode cX7_ofSide 102 = .ok (.goto 9, 3) := by decide +kernel
theorem dX7_ofSide_105 : decode cX7_ofSide 105 = .ok (.iconst 0, 1) := by decide +kernel
theorem dX7_ofSide_106 : decode cX7_ofSide 106 = .ok (.goto 5, 3) := by decide +kernel
theorem dX7_ofSide_109 : decode cX7_ofSide 109 = .ok (.bipush (-2), 2) := by decide +kernel
theorem dX7_ofSide_111 : decode cX7_ofSide 111 = .ok (.ireturn, 1) := by decide +kernel
theorem dX7_bulk_0 : decode cX7_bulk 0 = .ok (.aload_n 0, 1) := by decide +kernel
theorem dX7_bulk_1 : decode cX7_bulk 1 = .ok (.iload_n 1, 1) := by decide +kernel
theorem dX7_bulk_2 : decode cX7_bulk 2 = .ok (.invokevirtual 163, 3) := by decide +kernel
theorem dX7_bulk_5 : decode cX7_bulk 5 = .ok (.ifCond .ne 5, 3) := by decide +kernel
theorem dX7_bulk_8 : decode cX7_bulk 8 = .ok (.iconst (-1), 1) := by decide +kernel
theorem dX7_bulk_9 : decode cX7_bulk 9 = .ok (.ireturn, 1) := by decide +kernel
theorem dX7_bulk_10 : decode cX7_bulk 10 = .ok (.iload_n 2, 1) := by decide +kernel
theorem dX7_bulk_11 : decode cX7_bulk 11 = .ok (.iconst 1, 1) := by decide +kernel
theorem dX7_bulk_12 : decode cX7_bulk 12 = .ok (.bipush 9, 2) := by decide +kernel
theorem dX7_bulk_14 : decode cX7_bulk 14 = .ok (.invokestatic 65, 3) := by decide +kernel
theorem dX7_bulk_17 : decode cX7_bulk 17 = .ok (.ifCond .ne 6, 3) := by decide +kernel
theorem dX7_bulk_20 : decode cX7_bulk 20 = .ok (.bipush (-2), 2) := by decide +kernel
theorem dX7_bulk_22 : decode cX7_bulk 22 = .ok (.ireturn, 1) := by decide +kernel
theorem dX7_bulk_23 : decode cX7_bulk 23 = .ok (.aload_n 0, 1) := by decide +kernel
theorem dX7_bulk_24 : decode cX7_bulk 24 = .ok (.getfield 33, 3) := by decide +kernel
theorem dX7_bulk_27 : decode cX7_bulk 27 = .ok (.iload_n 1, 1) := by decide +kernel
theorem dX7_bulk_28 : decode cX7_bulk 28 = .ok (.iaload, 1) := by decide +kernel
theorem dX7_bulk_29 : decode cX7_bulk 29 = .ok (.istore_n 3, 1) := by decide +kernel
theorem dX7_bulk_30 : decode cX7_bulk 30 = .ok (.aload_n 0, 1) := by decide +kernel
theorem dX7_bulk_31 : decode cX7_bulk 31 = .ok (.getfield 33, 3) := by decide +kernel
theorem dX7_bulk_34 : decode cX7_bulk 34 = .ok (.iload_n 1, 1) := by decide +kernel
theorem dX7_bulk_35 : decode cX7_bulk 35 = .ok (.iload_n 2, 1) := by decide +kernel
theorem dX7_bulk_36 : decode cX7_bulk 36 = .ok (.iastore, 1) := by decide +kernel
theorem dX7_bulk_37 : decode cX7_bulk 37 = .ok (.iload_n 3, 1) := by decide +kernel
theorem dX7_bulk_38 : decode cX7_bulk 38 = .ok (.ireturn, 1) := by decide +kernel
theorem dX7_bound_0 : decode cX7_bound 0 = .ok (.aload_n 0, 1) := by decide +kernel
theorem dX7_bound_1 : decode cX7_bound 1 = .ok (.getfield 69, 3) := by decide +kernel
theorem dX7_bound_4 : decode cX7_bound 4 = .ok (.ifCond .ne 6, 3) := by decide +kernel
theorem dX7_bound_7 : decode cX7_bound 7 = .ok (.bipush (-3), 2) := by decide +kernel
theorem dX7_bound_9 : decode cX7_bound 9 = .ok (.ireturn, 1) := by decide +kernel
theorem dX7_bound_10 : decode cX7_bound 10 = .ok (.iload_n 1, 1) := by decide +kernel
theorem dX7_bound_11 : decode cX7_bound 11 = .ok (.ldc 175, 2) := by decide +kernel
theorem dX7_bound_13 : decode cX7_bound 13 = .ok (.ldc 19, 2) := by decide +kernel
theorem dX7_bound_15 : decode cX7_bound 15 = .ok (.invokestatic 65, 3) := by decide +kernel
theorem dX7_bound_18 : decode cX7_bound 18 = .ok (.ifCond .ne 6, 3) := by decide +kernel
theorem dX7_bound_21 : decode cX7_bound 21 = .ok (.bipush (-2), 2) := by decide +kernel
theorem dX7_bound_23 : decode cX7_bound 23 = .ok (.ireturn, 1) := by decide +kernel
theorem dX7_bound_24 : decode cX7_bound 24 = .ok (.aload_n 0, 1) := by decide +kernel
theorem dX7_bound_25 : decode cX7_bound 25 = .ok (.getfield 20, 3) := by decide +kernel
theorem dX7_bound_28 : decode cX7_bound 28 = .ok (.istore_n 2, 1) := by decide +kernel
theorem dX7_bound_29 : decode cX7_bound 29 = .ok (.aload_n 0, 1) := by decide +kernel
theorem dX7_bound_30 : decode cX7_bound 30 = .ok (.iload_n 1, 1) := by decide +kernel
theorem dX7_bound_31 : decode cX7_bound 31 = .ok (.putfield 20, 3) := by decide +kernel
theorem dX7_bound_34 : decode cX7_bound 34 = .ok (.iload_n 2, 1) := by decide +kernel
theorem dX7_bound_35 : decode cX7_bound 35 = .ok (.ireturn, 1) := by decide +kernel
theorem dX7_move_0 : decode cX7_move 0 = .ok (.aload_n 0, 1) := by decide +kernel
theorem dX7_move_1 : decode cX7_move 1 = .ok (.iload_n 1, 1) := by decide +kernel
theorem dX7_move_2 : decode cX7_move 2 = .ok (.invokevirtual 163, 3) := by decide +kernel
theorem dX7_move_5 : decode cX7_move 5 = .ok (.ifCond .ne 5, 3) := by decide +kernel
theorem dX7_move_8 : decode cX7_move 8 = .ok (.iconst (-1), 1) := by decide +kernel
theorem dX7_move_9 : decode cX7_move 9 = .ok (.ireturn, 1) := by decide +kernel
theorem dX7_move_10 : decode cX7_move 10 = .ok (.aload_n 0, 1) := by decide +kernel
theorem dX7_move_11 : decode cX7_move 11 = .ok (.getfield 111, 3) := by decide +kernel
theorem dX7_move_14 : decode cX7_move 14 = .ok (.iload_n 1, 1) := by decide +kernel
theorem dX7_move_15 : decode cX7_move 15 = .ok (.invokestatic 133, 3) := by decide +kernel
theorem dX7_move_18 : decode cX7_move 18 = .ok (.ifCond .eq 6, 3) := by decide +kernel
theorem dX7_move_21 : decode cX7_move 21 = .ok (.bipush (-3), 2) := by decide +kernel
theorem dX7_move_23 : decode cX7_move 23 = .ok (.ireturn, 1) := by decide +kernel
theorem dX7_move_24 : decode cX7_move 24 = .ok (.aload_n 0, 1) := by decide +kernel
theorem dX7_move_25 : decode cX7_move 25 = .ok (.dup, 1) := by decide +kernel
theorem dX7_move_26 : decode cX7_move 26 = .ok (.getfield 105, 3) := by decide +kernel
theorem dX7_move_29 : decode cX7_move 29 = .ok (.iconst 1, 1) := by decide +kernel
theorem dX7_move_30 : decode cX7_move 30 = .ok (.iload_n 1, 1) := by decide +kernel
theorem dX7_move_31 : decode cX7_move 31 = .ok (.ishl, 1) := by decide +kernel
theorem dX7_move_32 : decode cX7_move 32 = .ok (.ixor, 1) := by decide +kernel
theorem dX7_move_33 : decode cX7_move 33 = .ok (.putfield 105, 3) := by decide +kernel
theorem dX7_move_36 : decode cX7_move 36 = .ok (.aload_n 0, 1) := by decide +kernel
theorem dX7_move_37 : decode cX7_move 37 = .ok (.aload_n 0, 1) := by decide +kernel
theorem dX7_move_38 : decode cX7_move 38 = .ok (.getfield 105, 3) := by decide +kernel
theorem dX7_move_41 : decode cX7_move 41 = .ok (.invokevirtual 160, 3) := by decide +kernel
theorem dX7_move_44 : decode cX7_move 44 = .ok (.ireturn, 1) := by decide +kernel
theorem dX7_isBetter_0 : decode cX7_isBetter 0 = .ok (.aload_n 0, 1) := by decide +kernel
theorem dX7_isBetter_1 : decode cX7_isBetter 1 = .ok (.iload_n 1, 1) := by decide +kernel
theorem dX7_isBetter_2 : decode cX7_isBetter 2 = .ok (.iload 4, 2) := by decide +kernel
theorem dX7_isBetter_4 : decode cX7_isBetter 4 = .ok (.invokevirtual 169, 3) := by decide +kernel
theorem dX7_isBetter_7 : decode cX7_isBetter 7 = .ok (.istore 5, 2) := by decide +kernel
theorem dX7_isBetter_9 : decode cX7_isBetter 9 = .ok (.aload_n 0, 1) := by decide +kernel
theorem dX7_isBetter_10 : decode cX7_isBetter 10 = .ok (.iload_n 2, 1) := by decide +kernel
theorem dX7_isBetter_11 : decode cX7_isBetter 11 = .ok (.iload 4, 2) := by decide +kernel
theorem dX7_isBetter_13 : decode cX7_isBetter 13 = .ok (.invokevirtual 169, 3) := by decide +kernel
theorem dX7_isBetter_16 : decode cX7_isBetter 16 = .ok (.istore 6, 2) := by decide +kernel
theorem dX7_isBetter_18 : decode cX7_isBetter 18 = .ok (.iload_n 3, 1) := by decide +kernel
theorem dX7_isBetter_19 : decode cX7_isBetter 19 = .ok (.iconst 2, 1) := by decide +kernel
theorem dX7_isBetter_20 : decode cX7_isBetter 20 = .ok (.if_icmp .ne 28, 3) := by decide +kernel
theorem dX7_isBetter_23 : decode cX7_isBetter 23 = .ok (.iload 5, 2) := by decide +kernel
theorem dX7_isBetter_25 : decode cX7_isBetter 25 = .ok (.aload_n 0, 1) := by decide +kernel
theorem dX7_isBetter_26 : decode cX7_isBetter 26 = .ok (.iload_n 2, 1) := by decide +kernel
theorem dX7_isBetter_27 : decode cX7_isBetter 27 = .ok (.invokevirtual 136, 3) := by decide +kernel
theorem dX7_isBetter_30 : decode cX7_isBetter 30 = .ok (.imul, 1) := by decide +kernel
theorem dX7_isBetter_31 : decode cX7_isBetter 31 = .ok (.iload 6, 2) := by decide +kernel
theorem dX7_isBetter_33 : decode cX7_isBetter 33 = .ok (.aload_n 0, 1) := by decide +kernel
theorem dX7_isBetter_34 : decode cX7_isBetter 34 = .ok (.iload_n 1, 1) := by decide +kernel
theorem dX7_isBetter_35 : decode cX7_isBetter 35 = .ok (.invokevirtual 136, 3) := by decide +kernel
theorem dX7_isBetter_38 : decode cX7_isBetter 38 = .ok (.imul, 1) := by decide +kernel
theorem dX7_isBetter_39 : decode cX7_isBetter 39 = .ok (.if_icmp .le 7, 3) := by decide +kernel
theorem dX7_isBetter_42 : decode cX7_isBetter 42 = .ok (.iconst 1, 1) := by decide +kernel
theorem dX7_isBetter_43 : decode cX7_isBetter 43 = .ok (.goto 4, 3) := by decide +kernel
theorem dX7_isBetter_46 : decode cX7_isBetter 46 = .ok (.iconst 0, 1) := by decide +kernel
theorem dX7_isBetter_47 : decode cX7_isBetter 47 = .ok (.ireturn, 1) := by decide +kernel
theorem dX7_isBetter_48 : decode cX7_isBetter 48 = .ok (.iload 5, 2) := by decide +kernel
theorem dX7_isBetter_50 : decode cX7_isBetter 50 = .ok (.iload 6, 2) := by decide +kernel
theorem dX7_isBetter_52 : decode cX7_isBetter 52 = .ok (.if_icmp .eq 18, 3) := by decide +kernel
theorem dX7_isBetter_55 : decode cX7_isBetter 55 = .ok (.iload 5, 2) := by decide +kernel
theorem dX7_isBetter_57 : decode cX7_isBetter 57 = .ok (.iload 6, 2) := by decide +kernel
theorem dX7_isBetter_59 : decode cX7_isBetter 59 = .ok (.if_icmp .le 7, 3) := by decide +kernel
theorem dX7_isBetter_62 : decode cX7_isBetter 62 = .ok (.iconst 1, 1) := by decide +kernel
theorem dX7_isBetter_63 : decode cX7_isBetter 63 = .ok (.goto 30, 3) := by decide +kernel
theorem dX7_isBetter_66 : decode cX7_isBetter 66 = .ok (.iconst 0, 1) := by decide +kernel
theorem dX7_isBetter_67 : decode cX7_isBetter 67 = .ok (.goto 26, 3) := by decide +kernel
theorem dX7_isBetter_70 : decode cX7_isBetter 70 = .ok (.iload_n 3, 1) := by decide +kernel
theorem dX7_isBetter_71 : decode cX7_isBetter 71 = .ok (.iconst 1, 1) := by decide +kernel
theorem dX7_isBetter_72 : decode cX7_isBetter 72 = .ok (.if_icmp .ne 20, 3) := by decide +kernel
theorem dX7_isBetter_75 : decode cX7_isBetter 75 = .ok (.aload_n 0, 1) := by decide +kernel
theorem dX7_isBetter_76 : decode cX7_isBetter 76 = .ok (.iload_n 1, 1) := by decide +kernel
theorem dX7_isBetter_77 : decode cX7_isBetter 77 = .ok (.invokevirtual 136, 3) := by decide +kernel
theorem dX7_isBetter_80 : decode cX7_isBetter 80 = .ok (.aload_n 0, 1) := by decide +kernel
theorem dX7_isBetter_81 : decode cX7_isBetter 81 = .ok (.iload_n 2, 1) := by decide +kernel
theorem dX7_isBetter_82 : decode cX7_isBetter 82 = .ok (.invokevirtual 136, 3) := by decide +kernel
theorem dX7_isBetter_85 : decode cX7_isBetter 85 = .ok (.if_icmp .le 7, 3) := by decide +kernel
theorem dX7_isBetter_88 : decode cX7_isBetter 88 = .ok (.iconst 1, 1) := by decide +kernel
theorem dX7_isBetter_89 : decode cX7_isBetter 89 = .ok (.goto 4, 3) := by decide +kernel
theorem dX7_isBetter_92 : decode cX7_isBetter 92 = .ok (.iconst 0, 1) := by decide +kernel
theorem dX7_isBetter_93 : decode cX7_isBetter 93 = .ok (.ireturn, 1) := by decide +kernel
theorem dX7_bestOf_0 : decode cX7_bestOf 0 = .ok (.bipush (-9), 2) := by decide +kernel
theorem dX7_bestOf_2 : decode cX7_bestOf 2 = .ok (.istore 4, 2) := by decide +kernel
theorem dX7_bestOf_4 : decode cX7_bestOf 4 = .ok (.iconst 0, 1) := by decide +kernel
theorem dX7_bestOf_5 : decode cX7_bestOf 5 = .ok (.istore 5, 2) := by decide +kernel
theorem dX7_bestOf_7 : decode cX7_bestOf 7 = .ok (.iload 5, 2) := by decide +kernel
theorem dX7_bestOf_9 : decode cX7_bestOf 9 = .ok (.aload_n 0, 1) := by decide +kernel
theorem dX7_bestOf_10 : decode cX7_bestOf 10 = .ok (.getfield 69, 3) := by decide +kernel
theorem dX7_bestOf_13 : decode cX7_bestOf 13 = .ok (.if_icmp .ge 95, 3) := by decide +kernel
theorem dX7_bestOf_16 : decode cX7_bestOf 16 = .ok (.iload_n 2, 1) := by decide +kernel
theorem dX7_bestOf_17 : decode cX7_bestOf 17 = .ok (.iconst 1, 1) := by decide +kernel
theorem dX7_bestOf_18 : decode cX7_bestOf 18 = .ok (.iload 5, 2) := by decide +kernel
theorem dX7_bestOf_20 : decode cX7_bestOf 20 = .ok (.ishl, 1) := by decide +kernel
theorem dX7_bestOf_21 : decode cX7_bestOf 21 = .ok (.ixor, 1) := by decide +kernel
theorem dX7_bestOf_22 : decode cX7_bestOf 22 = .ok (.istore 6, 2) := by decide +kernel
theorem dX7_bestOf_24 : decode cX7_bestOf 24 = .ok (.iload_n 3, 1) := by decide +kernel
theorem dX7_bestOf_25 : decode cX7_bestOf 25 = .ok (.iload 5, 2) := by decide +kernel
theorem dX7_bestOf_27 : decode cX7_bestOf 27 = .ok (.invokestatic 133, 3) := by decide +kernel
theorem dX7_bestOf_30 : decode cX7_bestOf 30 = .ok (.ifCond .ne 35, 3) := by decide +kernel
theorem dX7_bestOf_33 : decode cX7_bestOf 33 = .ok (.aload_n 0, 1) := by decide +kernel
theorem dX7_bestOf_34 : decode cX7_bestOf 34 = .ok (.getfield 111, 3) := by decide +kernel
theorem dX7_bestOf_37 : decode cX7_bestOf 37 = .ok (.iload 5, 2) := by decide +kernel
theorem dX7_bestOf_39 : decode cX7_bestOf 39 = .ok (.invokestatic 133, 3) := by decide +kernel
theorem dX7_bestOf_42 : decode cX7_bestOf 42 = .ok (.ifCond .ne 23, 3) := by decide +kernel
theorem dX7_bestOf_45 : decode cX7_bestOf 45 = .ok (.aload_n 0, 1) := by decide +kernel
theorem dX7_bestOf_46 : decode cX7_bestOf 46 = .ok (.iload 6, 2) := by decide +kernel
theorem dX7_bestOf_48 : decode cX7_bestOf 48 = .ok (.iload 5, 2) := by decide +kernel
theorem dX7_bestOf_50 : decode cX7_bestOf 50 = .ok (.ishr, 1) := by decide +kernel
theorem dX7_bestOf_51 : decode cX7_bestOf 51 = .ok (.iconst 1, 1) := by decide +kernel
theorem dX7_bestOf_52 : decode cX7_bestOf 52 = .ok (.iand, 1) := by decide +kernel
theorem dX7_bestOf_53 : decode cX7_bestOf 53 = .ok (.iload 6, 2) := by decide +kernel
theorem dX7_bestOf_55 : decode cX7_bestOf 55 = .ok (.invokevirtual 172, 3) := by decide +kernel
theorem dX7_bestOf_58 : decode cX7_bestOf 58 = .ok (.ifCond .eq 7, 3) := by decide +kernel
theorem dX7_bestOf_61 : decode cX7_bestOf 61 = .ok (.iconst 1, 1) := by decide +kernel
theorem dX7_bestOf_62 : decode cX7_bestOf 62 = .ok (.goto 4, 3) := by decide +kernel
theorem dX7_bestOf_65 : decode cX7_bestOf 65 = .ok (.iconst 0, 1) := by decide +kernel
theorem dX7_bestOf_66 : decode cX7_bestOf 66 = .ok (.istore 7, 2) := by decide +kernel
theorem dX7_bestOf_68 : decode cX7_bestOf 68 = .ok (.iload 7, 2) := by decide +kernel
theorem dX7_bestOf_70 : decode cX7_bestOf 70 = .ok (.ifCond .eq 28, 3) := by decide +kernel
theorem dX7_bestOf_73 : decode cX7_bestOf 73 = .ok (.iload 4, 2) := by decide +kernel
theorem dX7_bestOf_75 : decode cX7_bestOf 75 = .ok (.bipush (-9), 2) := by decide +kernel
theorem dX7_bestOf_77 : decode cX7_bestOf 77 = .ok (.if_icmp .eq 16, 3) := by decide +kernel
theorem dX7_bestOf_80 : decode cX7_bestOf 80 = .ok (.aload_n 0, 1) := by decide +kernel
theorem dX7_bestOf_81 : decode cX7_bestOf 81 = .ok (.iload 5, 2) := by decide +kernel
theorem dX7_bestOf_83 : decode cX7_bestOf 83 = .ok (.iload 4, 2) := by decide +kernel
theorem dX7_bestOf_85 : decode cX7_bestOf 85 = .ok (.iload_n 1, 1) := by decide +kernel
theorem dX7_bestOf_86 : decode cX7_bestOf 86 = .ok (.iload_n 2, 1) := by decide +kernel
theorem dX7_bestOf_87 : decode cX7_bestOf 87 = .ok (.invokevirtual 176, 3) := by decide +kernel
theorem dX7_bestOf_90 : decode cX7_bestOf 90 = .ok (.ifCond .eq 8, 3) := by decide +kernel
theorem dX7_bestOf_93 : decode cX7_bestOf 93 = .ok (.iload 5, 2) := by decide +kernel
theorem dX7_bestOf_95 : decode cX7_bestOf 95 = .ok (.goto 5, 3) := by decide +kernel
theorem dX7_bestOf_98 : decode cX7_bestOf 98 = .ok (.iload 4, 2) := by decide +kernel
theorem dX7_bestOf_100 : decode cX7_bestOf 100 = .ok (.istore 4, 2) := by decide +kernel
theorem dX7_bestOf_102 : decode cX7_bestOf 102 = .ok (.iinc 5 1, 3) := by decide +kernel
theorem dX7_bestOf_105 : decode cX7_bestOf 105 = .ok (.goto (-98), 3) := by decide +kernel
theorem dX7_bestOf_108 : decode cX7_bestOf 108 = .ok (.iload 4, 2) := by decide +kernel
theorem dX7_bestOf_110 : decode cX7_bestOf 110 = .ok (.ireturn, 1) := by decide +kernel
theorem dX7_findPass_0 : decode cX7_findPass 0 = .ok (.aload_n 0, 1) := by decide +kernel
theorem dX7_findPass_1 : decode cX7_findPass 1 = .ok (.getfield 105, 3) := by decide +kernel
theorem dX7_findPass_4 : decode cX7_findPass 4 = .ok (.istore_n 2, 1) := by decide +kernel
theorem dX7_findPass_5 : decode cX7_findPass 5 = .ok (.iconst 0, 1) := by decide +kernel
theorem dX7_findPass_6 : decode cX7_findPass 6 = .ok (.istore_n 3, 1) := by decide +kernel
theorem dX7_findPass_7 : decode cX7_findPass 7 = .ok (.aload_n 0, 1) := by decide +kernel
theorem dX7_findPass_8 : decode cX7_findPass 8 = .ok (.aload_n 0, 1) := by decide +kernel
theorem dX7_findPass_9 : decode cX7_findPass 9 = .ok (.getfield 105, 3) := by decide +kernel
theorem dX7_findPass_12 : decode cX7_findPass 12 = .ok (.invokevirtual 160, 3) := by decide +kernel
theorem dX7_findPass_15 : decode cX7_findPass 15 = .ok (.istore 4, 2) := by decide +kernel
theorem dX7_findPass_17 : decode cX7_findPass 17 = .ok (.aload_n 0, 1) := by decide +kernel
theorem dX7_findPass_18 : decode cX7_findPass 18 = .ok (.iconst 0, 1) := by decide +kernel
theorem dX7_findPass_19 : decode cX7_findPass 19 = .ok (.putfield 180, 3) := by decide +kernel
theorem dX7_findPass_22 : decode cX7_findPass 22 = .ok (.aload_n 0, 1) := by decide +kernel
theorem dX7_findPass_23 : decode cX7_findPass 23 = .ok (.iconst 0, 1) := by decide +kernel
theorem dX7_findPass_24 : decode cX7_findPass 24 = .ok (.putfield 183, 3) := by decide +kernel
theorem dX7_findPass_27 : decode cX7_findPass 27 = .ok (.aload_n 0, 1) := by decide +kernel
theorem dX7_findPass_28 : decode cX7_findPass 28 = .ok (.aload_n 0, 1) := by decide +kernel
theorem dX7_findPass_29 : decode cX7_findPass 29 = .ok (.getfield 105, 3) := by decide +kernel
theorem dX7_findPass_32 : decode cX7_findPass 32 = .ok (.putfield 186, 3) := by decide +kernel
theorem dX7_findPass_35 : decode cX7_findPass 35 = .ok (.aload_n 0, 1) := by decide +kernel
theorem dX7_findPass_36 : decode cX7_findPass 36 = .ok (.iload_n 1, 1) := by decide +kernel
theorem dX7_findPass_37 : decode cX7_findPass 37 = .ok (.iload_n 2, 1) := by decide +kernel
theorem dX7_findPass_38 : decode cX7_findPass 38 = .ok (.iload_n 3, 1) := by decide +kernel
theorem dX7_findPass_39 : decode cX7_findPass 39 = .ok (.invokevirtual 189, 3) := by decide +kernel
theorem dX7_findPass_42 : decode cX7_findPass 42 = .ok (.istore 5, 2) := by decide +kernel
theorem dX7_findPass_44 : decode cX7_findPass 44 = .ok (.iload 5, 2) := by decide +kernel
theorem dX7_findPass_46 : decode cX7_findPass 46 = .ok (.bipush (-9), 2) := by decide +kernel
theorem dX7_findPass_48 : decode cX7_findPass 48 = .ok (.if_icmp .eq 80, 3) := by decide +kernel
theorem dX7_findPass_51 : decode cX7_findPass 51 = .ok (.aload_n 0, 1) := by decide +kernel
theorem dX7_findPass_52 : decode cX7_findPass 52 = .ok (.getfield 48, 3) := by decide +kernel
theorem dX7_findPass_55 : decode cX7_findPass 55 = .ok (.aload_n 0, 1) := by decide +kernel
theorem dX7_findPass_56 : decode cX7_findPass 56 = .ok (.getfield 180, 3) := by decide +kernel
theorem dX7_findPass_59 : decode cX7_findPass 59 = .ok (.iload 5, 2) := by decide +kernel
theorem dX7_findPass_61 : decode cX7_findPass 61 = .ok (.iastore, 1) := by decide +kernel
theorem dX7_findPass_62 : decode cX7_findPass 62 = .ok (.aload_n 0, 1) := by decide +kernel
theorem dX7_findPass_63 : decode cX7_findPass 63 = .ok (.dup, 1) := by decide +kernel
theorem dX7_findPass_64 : decode cX7_findPass 64 = .ok (.getfield 180, 3) := by decide +kernel
theorem dX7_findPass_67 : decode cX7_findPass 67 = .ok (.iconst 1, 1) := by decide +kernel
theorem dX7_findPass_68 : decode cX7_findPass 68 = .ok (.iadd, 1) := by decide +kernel
theorem dX7_findPass_69 : decode cX7_findPass 69 = .ok (.putfield 180, 3) := by decide +kernel
theorem dX7_findPass_72 : decode cX7_findPass 72 = .ok (.iload_n 3, 1) := by decide +kernel
theorem dX7_findPass_73 : decode cX7_findPass 73 = .ok (.iconst 1, 1) := by decide +kernel
theorem dX7_findPass_74 : decode cX7_findPass 74 = .ok (.iload 5, 2) := by decide +kernel
theorem dX7_findPass_76 : decode cX7_findPass 76 = .ok (.ishl, 1) := by decide +kernel
theorem dX7_findPass_77 : decode cX7_findPass 77 = .ok (.ior, 1) := by decide +kernel
theorem dX7_findPass_78 : decode cX7_findPass 78 = .ok (.istore_n 3, 1) := by decide +kernel
theorem dX7_findPass_79 : decode cX7_findPass 79 = .ok (.iload_n 2, 1) := by decide +kernel
theorem dX7_findPass_80 : decode cX7_findPass 80 = .ok (.iconst 1, 1) := by decide +kernel
theorem dX7_findPass_81 : decode cX7_findPass 81 = .ok (.iload 5, 2) := by decide +kernel
theorem dX7_findPass_83 : decode cX7_findPass 83 = .ok (.ishl, 1) := by decide +kernel
theorem dX7_findPass_84 : decode cX7_findPass 84 = .ok (.ixor, 1) := by decide +kernel
theorem dX7_findPass_85 : decode cX7_findPass 85 = .ok (.istore_n 2, 1) := by decide +kernel
theorem dX7_findPass_86 : decode cX7_findPass 86 = .ok (.aload_n 0, 1) := by decide +kernel
theorem dX7_findPass_87 : decode cX7_findPass 87 = .ok (.iload_n 2, 1) := by decide +kernel
theorem dX7_findPass_88 : decode cX7_findPass 88 = .ok (.invokevirtual 160, 3) := by decide +kernel
theorem dX7_findPass_91 : decode cX7_findPass 91 = .ok (.iload 4, 2) := by decide +kernel
theorem dX7_findPass_93 : decode cX7_findPass 93 = .ok (.if_icmp .ge 23, 3) := by decide +kernel
theorem dX7_findPass_96 : decode cX7_findPass 96 = .ok (.aload_n 0, 1) := by decide +kernel
theorem dX7_findPass_97 : decode cX7_findPass 97 = .ok (.iload_n 2, 1) := by decide +kernel
theorem dX7_findPass_98 : decode cX7_findPass 98 = .ok (.invokevirtual 160, 3) := by decide +kernel
theorem dX7_findPass_101 : decode cX7_findPass 101 = .ok (.istore 4, 2) := by decide +kernel
theorem dX7_findPass_103 : decode cX7_findPass 103 = .ok (.aload_n 0, 1) := by decide +kernel
theorem dX7_findPass_104 : decode cX7_findPass 104 = .ok (.aload_n 0, 1) := by decide +kernel
theorem dX7_findPass_105 : decode cX7_findPass 105 = .ok (.getfield 180, 3) := by decide +kernel
theorem dX7_findPass_108 : decode cX7_findPass 108 = .ok (.putfield 183, 3) := by decide +kernel
theorem dX7_findPass_111 : decode cX7_findPass 111 = .ok (.aload_n 0, 1) := by decide +kernel
theorem dX7_findPass_112 : decode cX7_findPass 112 = .ok (.iload_n 2, 1) := by decide +kernel
theorem dX7_findPass_113 : decode cX7_findPass 113 = .ok (.putfield 186, 3) := by decide +kernel
theorem dX7_findPass_116 : decode cX7_findPass 116 = .ok (.aload_n 0, 1) := by decide +kernel
theorem dX7_findPass_117 : decode cX7_findPass 117 = .ok (.iload_n 1, 1) := by decide +kernel
theorem dX7_findPass_118 : decode cX7_findPass 118 = .ok (.iload_n 2, 1) := by decide +kernel
theorem dX7_findPass_119 : decode cX7_findPass 119 = .ok (.iload_n 3, 1) := by decide +kernel
theorem dX7_findPass_120 : decode cX7_findPass 120 = .ok (.invokevirtual 189, 3) := by decide +kernel
theorem dX7_findPass_123 : decode cX7_findPass 123 = .ok (.istore 5, 2) := by decide +kernel
theorem dX7_findPass_125 : decode cX7_findPass 125 = .ok (.goto (-81), 3) := by decide +kernel
theorem dX7_findPass_128 : decode cX7_findPass 128 = .ok (.return_, 1) := by decide +kernel
theorem dX7_pass_0 : decode cX7_pass 0 = .ok (.aload_n 0, 1) := by decide +kernel
theorem dX7_pass_1 : decode cX7_pass 1 = .ok (.getfield 69, 3) := by decide +kernel
theorem dX7_pass_4 : decode cX7_pass 4 = .ok (.ifCond .ne 6, 3) := by decide +kernel
theorem dX7_pass_7 : decode cX7_pass 7 = .ok (.bipush (-3), 2) := by decide +kernel
theorem dX7_pass_9 : decode cX7_pass 9 = .ok (.ireturn, 1) := by decide +kernel
theorem dX7_pass_10 : decode cX7_pass 10 = .ok (.iload_n 1, 1) := by decide +kernel
theorem dX7_pass_11 : decode cX7_pass 11 = .ok (.iconst 0, 1) := by decide +kernel
theorem dX7_pass_12 : decode cX7_pass 12 = .ok (.iconst 2, 1) := by decide +kernel
theorem dX7_pass_13 : decode cX7_pass 13 = .ok (.invokestatic 65, 3) := by decide +kernel
theorem dX7_pass_16 : decode cX7_pass 16 = .ok (.ifCond .ne 6, 3) := by decide +kernel
theorem dX7_pass_19 : decode cX7_pass 19 = .ok (.bipush (-2), 2) := by decide +kernel
theorem dX7_pass_21 : decode cX7_pass 21 = .ok (.ireturn, 1) := by decide +kernel
theorem dX7_pass_22 : decode cX7_pass 22 = .ok (.aload_n 0, 1) := by decide +kernel
theorem dX7_pass_23 : decode cX7_pass 23 = .ok (.iload_n 1, 1) := by decide +kernel
theorem dX7_pass_24 : decode cX7_pass 24 = .ok (.invokevirtual 193, 3) := by decide +kernel
theorem dX7_pass_27 : decode cX7_pass 27 = .ok (.aload_n 0, 1) := by decide +kernel
theorem dX7_pass_28 : decode cX7_pass 28 = .ok (.aload_n 0, 1) := by decide +kernel
theorem dX7_pass_29 : decode cX7_pass 29 = .ok (.getfield 186, 3) := by decide +kernel
theorem dX7_pass_32 : decode cX7_pass 32 = .ok (.putfield 105, 3) := by decide +kernel
theorem dX7_pass_35 : decode cX7_pass 35 = .ok (.aload_n 0, 1) := by decide +kernel
theorem dX7_pass_36 : decode cX7_pass 36 = .ok (.getfield 183, 3) := by decide +kernel
theorem dX7_pass_39 : decode cX7_pass 39 = .ok (.ireturn, 1) := by decide +kernel
theorem dX7_tries_0 : decode cX7_tries 0 = .ok (.aload_n 0, 1) := by decide +kernel
theorem dX7_tries_1 : decode cX7_tries 1 = .ok (.getfield 69, 3) := by decide +kernel
theorem dX7_tries_4 : decode cX7_tries 4 = .ok (.ifCond .ne 6, 3) := by decide +kernel
theorem dX7_tries_7 : decode cX7_tries 7 = .ok (.bipush (-3), 2) := by decide +kernel
theorem dX7_tries_9 : decode cX7_tries 9 = .ok (.ireturn, 1) := by decide +kernel
theorem dX7_tries_10 : decode cX7_tries 10 = .ok (.iload_n 1, 1) := by decide +kernel
theorem dX7_tries_11 : decode cX7_tries 11 = .ok (.iconst 0, 1) := by decide +kernel
theorem dX7_tries_12 : decode cX7_tries 12 = .ok (.iconst 2, 1) := by decide +kernel
theorem dX7_tries_13 : decode cX7_tries 13 = .ok (.invokestatic 65, 3) := by decide +kernel
theorem dX7_tries_16 : decode cX7_tries 16 = .ok (.ifCond .eq 23, 3) := by decide +kernel
theorem dX7_tries_19 : decode cX7_tries 19 = .ok (.iload_n 2, 1) := by decide +kernel
theorem dX7_tries_20 : decode cX7_tries 20 = .ok (.iconst 0, 1) := by decide +kernel
theorem dX7_tries_21 : decode cX7_tries 21 = .ok (.iconst 2, 1) := by decide +kernel
theorem dX7_tries_22 : decode cX7_tries 22 = .ok (.invokestatic 65, 3) := by decide +kernel
theorem dX7_tries_25 : decode cX7_tries 25 = .ok (.ifCond .ne 17, 3) := by decide +kernel
theorem dX7_tries_28 : decode cX7_tries 28 = .ok (.iload_n 2, 1) := by decide +kernel
theorem dX7_tries_29 : decode cX7_tries 29 = .ok (.bipush 10, 2) := by decide +kernel
theorem dX7_tries_31 : decode cX7_tries 31 = .ok (.bipush 16, 2) := by decide +kernel
theorem dX7_tries_33 : decode cX7_tries 33 = .ok (.invokestatic 65, 3) := by decide +kernel
theorem dX7_tries_36 : decode cX7_tries 36 = .ok (.ifCond .ne 6, 3) := by decide +kernel
theorem dX7_tries_39 : decode cX7_tries 39 = .ok (.bipush (-2), 2) := by decide +kernel
theorem dX7_tries_41 : decode cX7_tries 41 = .ok (.ireturn, 1) := by decide +kernel
theorem dX7_tries_42 : decode cX7_tries 42 = .ok (.aload_n 0, 1) := by decide +kernel
theorem dX7_tries_43 : decode cX7_tries 43 = .ok (.iload_n 1, 1) := by decide +kernel
theorem dX7_tries_44 : decode cX7_tries 44 = .ok (.invokevirtual 193, 3) := by decide +kernel
theorem dX7_tries_47 : decode cX7_tries 47 = .ok (.iload_n 2, 1) := by decide +kernel
theorem dX7_tries_48 : decode cX7_tries 48 = .ok (.bipush 10, 2) := by decide +kernel
theorem dX7_tries_50 : decode cX7_tries 50 = .ok (.if_icmp .lt 29, 3) := by decide +kernel
theorem dX7_tries_53 : decode cX7_tries 53 = .ok (.iload_n 2, 1) := by decide +kernel
theorem dX7_tries_54 : decode cX7_tries 54 = .ok (.bipush 10, 2) := by decide +kernel
theorem dX7_tries_56 : decode cX7_tries 56 = .ok (.isub, 1) := by decide +kernel
theorem dX7_tries_57 : decode cX7_tries 57 = .ok (.aload_n 0, 1) := by decide +kernel
theorem dX7_tries_58 : decode cX7_tries 58 = .ok (.getfield 180, 3) := by decide +kernel
theorem dX7_tries_61 : decode cX7_tries 61 = .ok (.if_icmp .ge 15, 3) := by decide +kernel
theorem dX7_tries_64 : decode cX7_tries 64 = .ok (.aload_n 0, 1) := by decide +kernel
theorem dX7_tries_65 : decode cX7_tries 65 = .ok (.getfield 48, 3) := by decide +kernel
theorem dX7_tries_68 : decode cX7_tries 68 = .ok (.iload_n 2, 1) := by decide +kernel
theorem dX7_tries_69 : decode cX7_tries 69 = .ok (.bipush 10, 2) := by decide +kernel
theorem dX7_tries_71 : decode cX7_tries 71 = .ok (.isub, 1) := by decide +kernel
theorem dX7_tries_72 : decode cX7_tries 72 = .ok (.iaload, 1) := by decide +kernel
theorem dX7_tries_73 : decode cX7_tries 73 = .ok (.goto 5, 3) := by decide +kernel
theorem dX7_tries_76 : decode cX7_tries 76 = .ok (.bipush (-9), 2) := by decide +kernel
theorem dX7_tries_78 : decode cX7_tries 78 = .ok (.ireturn, 1) := by decide +kernel
theorem dX7_tries_79 : decode cX7_tries 79 = .ok (.iload_n 2, 1) := by decide +kernel
theorem dX7_tries_80 : decode cX7_tries 80 = .ok (.ifCond .ne 10, 3) := by decide +kernel
theorem dX7_tries_83 : decode cX7_tries 83 = .ok (.aload_n 0, 1) := by decide +kernel
theorem dX7_tries_84 : decode cX7_tries 84 = .ok (.getfield 180, 3) := by decide +kernel
theorem dX7_tries_87 : decode cX7_tries 87 = .ok (.goto 23, 3) := by decide +kernel
theorem dX7_tries_90 : decode cX7_tries 90 = .ok (.iload_n 2, 1) := by decide +kernel
theorem dX7_tries_91 : decode cX7_tries 91 = .ok (.iconst 1, 1) := by decide +kernel
theorem dX7_tries_92 : decode cX7_tries 92 = .ok (.if_icmp .ne 10, 3) := by decide +kernel
theorem dX7_tries_95 : decode cX7_tries 95 = .ok (.aload_n 0, 1) := by decide +kernel
theorem dX7_tries_96 : decode cX7_tries 96 = .ok (.getfield 183, 3) := by decide +kernel
theorem dX7_tries_99 : decode cX7_tries 99 = .ok (.goto 11, 3) := by decide +kernel
theorem dX7_tries_102 : decode cX7_tries 102 = .ok (.aload_n 0, 1) := by decide +kernel
theorem dX7_tries_103 : decode cX7_tries 103 = .ok (.aload_n 0, 1) := by decide +kernel
theorem dX7_tries_104 : decode cX7_tries 104 = .ok (.getfield 186, 3) := by decide +kernel
theorem dX7_tries_107 : decode cX7_tries 107 = .ok (.invokevirtual 160, 3) := by decide +kernel
theorem dX7_tries_110 : decode cX7_tries 110 = .ok (.ireturn, 1) := by decide +kernel
theorem dX7_settle_0 : decode cX7_settle 0 = .ok (.aload_n 0, 1) := by decide +kernel
theorem dX7_settle_1 : decode cX7_settle 1 = .ok (.getfield 69, 3) := by decide +kernel
theorem dX7_settle_4 : decode cX7_settle 4 = .ok (.ifCond .ne 6, 3) := by decide +kernel
theorem dX7_settle_7 : decode cX7_settle 7 = .ok (.bipush (-3), 2) := by decide +kernel
theorem dX7_settle_9 : decode cX7_settle 9 = .ok (.ireturn, 1) := by decide +kernel
theorem dX7_settle_10 : decode cX7_settle 10 = .ok (.iload_n 1, 1) := by decide +kernel
theorem dX7_settle_11 : decode cX7_settle 11 = .ok (.iconst 0, 1) := by decide +kernel
theorem dX7_settle_12 : decode cX7_settle 12 = .ok (.iconst 2, 1) := by decide +kernel
theorem dX7_settle_13 : decode cX7_settle 13 = .ok (.invokestatic 65, 3) := by decide +kernel
theorem dX7_settle_16 : decode cX7_settle 16 = .ok (.ifCond .ne 6, 3) := by decide +kernel
theorem dX7_settle_19 : decode cX7_settle 19 = .ok (.bipush (-2), 2) := by decide +kernel
theorem dX7_settle_21 : decode cX7_settle 21 = .ok (.ireturn, 1) := by decide +kernel
theorem dX7_settle_22 : decode cX7_settle 22 = .ok (.iconst 0, 1) := by decide +kernel
theorem dX7_settle_23 : decode cX7_settle 23 = .ok (.istore_n 2, 1) := by decide +kernel
theorem dX7_settle_24 : decode cX7_settle 24 = .ok (.iconst 1, 1) := by decide +kernel
theorem dX7_settle_25 : decode cX7_settle 25 = .ok (.istore_n 3, 1) := by decide +kernel
theorem dX7_settle_26 : decode cX7_settle 26 = .ok (.iload_n 3, 1) := by decide +kernel
theorem dX7_settle_27 : decode cX7_settle 27 = .ok (.ifCond .eq 51, 3) := by decide +kernel
theorem dX7_settle_30 : decode cX7_settle 30 = .ok (.aload_n 0, 1) := by decide +kernel
theorem dX7_settle_31 : decode cX7_settle 31 = .ok (.aload_n 0, 1) := by decide +kernel
theorem dX7_settle_32 : decode cX7_settle 32 = .ok (.getfield 105, 3) := by decide +kernel
theorem dX7_settle_35 : decode cX7_settle 35 = .ok (.invokevirtual 160, 3) := by decide +kernel
theorem dX7_settle_38 : decode cX7_settle 38 = .ok (.istore 4, 2) := by decide +kernel
theorem dX7_settle_40 : decode cX7_settle 40 = .ok (.aload_n 0, 1) := by decide +kernel
theorem dX7_settle_41 : decode cX7_settle 41 = .ok (.iload_n 1, 1) := by decide +kernel
theorem dX7_settle_42 : decode cX7_settle 42 = .ok (.invokevirtual 193, 3) := by decide +kernel
theorem dX7_settle_45 : decode cX7_settle 45 = .ok (.aload_n 0, 1) := by decide +kernel
theorem dX7_settle_46 : decode cX7_settle 46 = .ok (.aload_n 0, 1) := by decide +kernel
theorem dX7_settle_47 : decode cX7_settle 47 = .ok (.getfield 186, 3) := by decide +kernel
theorem dX7_settle_50 : decode cX7_settle 50 = .ok (.putfield 105, 3) := by decide +kernel
theorem dX7_settle_53 : decode cX7_settle 53 = .ok (.iinc 2 1, 3) := by decide +kernel
theorem dX7_settle_56 : decode cX7_settle 56 = .ok (.aload_n 0, 1) := by decide +kernel
theorem dX7_settle_57 : decode cX7_settle 57 = .ok (.aload_n 0, 1) := by decide +kernel
theorem dX7_settle_58 : decode cX7_settle 58 = .ok (.getfield 105, 3) := by decide +kernel
theorem dX7_settle_61 : decode cX7_settle 61 = .ok (.invokevirtual 160, 3) := by decide +kernel
theorem dX7_settle_64 : decode cX7_settle 64 = .ok (.iload 4, 2) := by decide +kernel
theorem dX7_settle_66 : decode cX7_settle 66 = .ok (.if_icmp .ge 7, 3) := by decide +kernel
theorem dX7_settle_69 : decode cX7_settle 69 = .ok (.iconst 1, 1) := by decide +kernel
theorem dX7_settle_70 : decode cX7_settle 70 = .ok (.goto 4, 3) := by decide +kernel
theorem dX7_settle_73 : decode cX7_settle 73 = .ok (.iconst 0, 1) := by decide +kernel
theorem dX7_settle_74 : decode cX7_settle 74 = .ok (.istore_n 3, 1) := by decide +kernel
theorem dX7_settle_75 : decode cX7_settle 75 = .ok (.goto (-49), 3) := by decide +kernel
theorem dX7_settle_78 : decode cX7_settle 78 = .ok (.iload_n 2, 1) := by decide +kernel
theorem dX7_settle_79 : decode cX7_settle 79 = .ok (.ireturn, 1) := by decide +kernel
theorem dX7_does_0 : decode cX7_does 0 = .ok (.iload_n 2, 1) := by decide +kernel
theorem dX7_does_1 : decode cX7_does 1 = .ok (.bipush 20, 2) := by decide +kernel
theorem dX7_does_3 : decode cX7_does 3 = .ok (.if_icmp .ne 18, 3) := by decide +kernel
theorem dX7_does_6 : decode cX7_does 6 = .ok (.aload_n 0, 1) := by decide +kernel
theorem dX7_does_7 : decode cX7_does 7 = .ok (.iload_n 1, 1) := by decide +kernel
theorem dX7_does_8 : decode cX7_does 8 = .ok (.invokevirtual 193, 3) := by decide +kernel
theorem dX7_does_11 : decode cX7_does 11 = .ok (.aload_n 0, 1) := by decide +kernel
theorem dX7_does_12 : decode cX7_does 12 = .ok (.aload_n 0, 1) := by decide +kernel
theorem dX7_does_13 : decode cX7_does 13 = .ok (.getfield 186, 3) := by decide +kernel
theorem dX7_does_16 : decode cX7_does 16 = .ok (.putfield 105, 3) := by decide +kernel
theorem dX7_does_19 : decode cX7_does 19 = .ok (.iconst 1, 1) := by decide +kernel
theorem dX7_does_20 : decode cX7_does 20 = .ok (.ireturn, 1) := by decide +kernel
theorem dX7_does_21 : decode cX7_does 21 = .ok (.iload_n 2, 1) := by decide +kernel
theorem dX7_does_22 : decode cX7_does 22 = .ok (.bipush 10, 2) := by decide +kernel
theorem dX7_does_24 : decode cX7_does 24 = .ok (.if_icmp .lt 10, 3) := by decide +kernel
theorem dX7_does_27 : decode cX7_does 27 = .ok (.iload_n 2, 1) := by decide +kernel
theorem dX7_does_28 : decode cX7_does 28 = .ok (.bipush 10, 2) := by decide +kernel
theorem dX7_does_30 : decode cX7_does 30 = .ok (.isub, 1) := by decide +kernel
theorem dX7_does_31 : decode cX7_does 31 = .ok (.goto 4, 3) := by decide +kernel
theorem dX7_does_34 : decode cX7_does 34 = .ok (.iload_n 2, 1) := by decide +kernel
theorem dX7_does_35 : decode cX7_does 35 = .ok (.istore_n 3, 1) := by decide +kernel
theorem dX7_does_36 : decode cX7_does 36 = .ok (.aload_n 0, 1) := by decide +kernel
theorem dX7_does_37 : decode cX7_does 37 = .ok (.iload_n 3, 1) := by decide +kernel
theorem dX7_does_38 : decode cX7_does 38 = .ok (.invokevirtual 163, 3) := by decide +kernel
theorem dX7_does_41 : decode cX7_does 41 = .ok (.ifCond .eq 20, 3) := by decide +kernel
theorem dX7_does_44 : decode cX7_does 44 = .ok (.iload_n 2, 1) := by decide +kernel
theorem dX7_does_45 : decode cX7_does 45 = .ok (.bipush 10, 2) := by decide +kernel
theorem dX7_does_47 : decode cX7_does 47 = .ok (.if_icmp .ge 16, 3) := by decide +kernel
theorem dX7_does_50 : decode cX7_does 50 = .ok (.aload_n 0, 1) := by decide +kernel
theorem dX7_does_51 : decode cX7_does 51 = .ok (.getfield 111, 3) := by decide +kernel
theorem dX7_does_54 : decode cX7_does 54 = .ok (.iload_n 3, 1) := by decide +kernel
theorem dX7_does_55 : decode cX7_does 55 = .ok (.invokestatic 133, 3) := by decide +kernel
theorem dX7_does_58 : decode cX7_does 58 = .ok (.ifCond .eq 5, 3) := by decide +kernel
theorem dX7_does_61 : decode cX7_does 61 = .ok (.iconst 0, 1) := by decide +kernel
theorem dX7_does_62 : decode cX7_does 62 = .ok (.ireturn, 1) := by decide +kernel
theorem dX7_does_63 : decode cX7_does 63 = .ok (.iload_n 2, 1) := by decide +kernel
theorem dX7_does_64 : decode cX7_does 64 = .ok (.bipush 10, 2) := by decide +kernel
theorem dX7_does_66 : decode cX7_does 66 = .ok (.if_icmp .lt 13, 3) := by decide +kernel
theorem dX7_does_69 : decode cX7_does 69 = .ok (.aload_n 0, 1) := by decide +kernel
theorem dX7_does_70 : decode cX7_does 70 = .ok (.getfield 33, 3) := by decide +kernel
theorem dX7_does_73 : decode cX7_does 73 = .ok (.iload_n 3, 1) := by decide +kernel
theorem dX7_does_74 : decode cX7_does 74 = .ok (.iload_n 1, 1) := by decide +kernel
theorem dX7_does_75 : decode cX7_does 75 = .ok (.iastore, 1) := by decide +kernel
theorem dX7_does_76 : decode cX7_does 76 = .ok (.goto 15, 3) := by decide +kernel
theorem dX7_does_79 : decode cX7_does 79 = .ok (.aload_n 0, 1) := by decide +kernel
theorem dX7_does_80 : decode cX7_does 80 = .ok (.dup, 1) := by decide +kernel
theorem dX7_does_81 : decode cX7_does 81 = .ok (.getfield 105, 3) := by decide +kernel
theorem dX7_does_84 : decode cX7_does 84 = .ok (.iconst 1, 1) := by decide +kernel
theorem dX7_does_85 : decode cX7_does 85 = .ok (.iload_n 3, 1) := by decide +kernel
theorem dX7_does_86 : decode cX7_does 86 = .ok (.ishl, 1) := by decide +kernel
theorem dX7_does_87 : decode cX7_does 87 = .ok (.ixor, 1) := by decide +kernel
theorem dX7_does_88 : decode cX7_does 88 = .ok (.putfield 105, 3) := by decide +kernel
theorem dX7_does_91 : decode cX7_does 91 = .ok (.iconst 1, 1) := by decide +kernel
theorem dX7_does_92 : decode cX7_does 92 = .ok (.ireturn, 1) := by decide +kernel
theorem dX7_isPair_0 : decode cX7_isPair 0 = .ok (.iload_n 1, 1) := by decide +kernel
theorem dX7_isPair_1 : decode cX7_isPair 1 = .ok (.bipush 20, 2) := by decide +kernel
theorem dX7_isPair_3 : decode cX7_isPair 3 = .ok (.if_icmp .ne 12, 3) := by decide +kernel
theorem dX7_isPair_6 : decode cX7_isPair 6 = .ok (.iload_n 0, 1) := by decide +kernel
theorem dX7_isPair_7 : decode cX7_isPair 7 = .ok (.iconst 0, 1) := by decide +kernel
theorem dX7_isPair_8 : decode cX7_isPair 8 = .ok (.iconst 2, 1) := by decide +kernel
theorem dX7_isPair_9 : decode cX7_isPair 9 = .ok (.invokestatic 65, 3) := by decide +kernel
theorem dX7_isPair_12 : decode cX7_isPair 12 = .ok (.goto 43, 3) := by decide +kernel
theorem dX7_isPair_15 : decode cX7_isPair 15 = .ok (.iload_n 1, 1) := by decide +kernel
theorem dX7_isPair_16 : decode cX7_isPair 16 = .ok (.bipush 10, 2) := by decide +kernel
theorem dX7_isPair_18 : decode cX7_isPair 18 = .ok (.bipush 16, 2) := by decide +kernel
theorem dX7_isPair_20 : decode cX7_isPair 20 = .ok (.invokestatic 65, 3) := by decide +kernel
theorem dX7_isPair_23 : decode cX7_isPair 23 = .ok (.ifCond .eq 13, 3) := by decide +kernel
theorem dX7_isPair_26 : decode cX7_isPair 26 = .ok (.iload_n 0, 1) := by decide +kernel
theorem dX7_isPair_27 : decode cX7_isPair 27 = .ok (.iconst 1, 1) := by decide +kernel
theorem dX7_isPair_28 : decode cX7_isPair 28 = .ok (.bipush 9, 2) := by decide +kernel
theorem dX7_isPair_30 : decode cX7_isPair 30 = .ok (.invokestatic 65, 3) := by decide +kernel
theorem dX7_isPair_33 : decode cX7_isPair 33 = .ok (.goto 22, 3) := by decide +kernel
theorem dX7_isPair_36 : decode cX7_isPair 36 = .ok (.iload_n 1, 1) := by decide +kernel
theorem dX7_isPair_37 : decode cX7_isPair 37 = .ok (.iconst 0, 1) := by decide +kernel
theorem dX7_isPair_38 : decode cX7_isPair 38 = .ok (.bipush 6, 2) := by decide +kernel
theorem dX7_isPair_40 : decode cX7_isPair 40 = .ok (.invokestatic 65, 3) := by decide +kernel
theorem dX7_isPair_43 : decode cX7_isPair 43 = .ok (.ifCond .eq 11, 3) := by decide +kernel
theorem dX7_isPair_46 : decode cX7_isPair 46 = .ok (.iload_n 0, 1) := by decide +kernel
theorem dX7_isPair_47 : decode cX7_isPair 47 = .ok (.ifCond .ne 7, 3) := by decide +kernel
theorem dX7_isPair_50 : decode cX7_isPair 50 = .ok (.iconst 1, 1) := by decide +kernel
theorem dX7_isPair_51 : decode cX7_isPair 51 = .ok (.goto 4, 3) := by decide +kernel
theorem dX7_isPair_54 : decode cX7_isPair 54 = .ok (.iconst 0, 1) := by decide +kernel
theorem dX7_isPair_55 : decode cX7_isPair 55 = .ok (.ireturn, 1) := by decide +kernel
theorem dX7_goDay_0 : decode cX7_goDay 0 = .ok (.iconst 0, 1) := by decide +kernel
theorem dX7_goDay_1 : decode cX7_goDay 1 = .ok (.istore_n 3, 1) := by decide +kernel
theorem dX7_goDay_2 : decode cX7_goDay 2 = .ok (.iload_n 3, 1) := by decide +kernel
theorem dX7_goDay_3 : decode cX7_goDay 3 = .ok (.iload_n 2, 1) := by decide +kernel
theorem dX7_goDay_4 : decode cX7_goDay 4 = .ok (.if_icmp .ge 40, 3) := by decide +kernel
theorem dX7_goDay_7 : decode cX7_goDay 7 = .ok (.aload_n 0, 1) := by decide +kernel
theorem dX7_goDay_8 : decode cX7_goDay 8 = .ok (.aload_n 0, 1) := by decide +kernel
theorem dX7_goDay_9 : decode cX7_goDay 9 = .ok (.getfield 16, 3) := by decide +kernel
theorem dX7_goDay_12 : decode cX7_goDay 12 = .ok (.iload_n 1, 1) := by decide +kernel
theorem dX7_goDay_13 : decode cX7_goDay 13 = .ok (.iconst 2, 1) := by decide +kernel
theorem dX7_goDay_14 : decode cX7_goDay 14 = .ok (.iload_n 3, 1) := by decide +kernel
theorem dX7_goDay_15 : decode cX7_goDay 15 = .ok (.imul, 1) := by decide +kernel
theorem dX7_goDay_16 : decode cX7_goDay 16 = .ok (.iadd, 1) := by decide +kernel
theorem dX7_goDay_17 : decode cX7_goDay 17 = .ok (.iaload, 1) := by decide +kernel
theorem dX7_goDay_18 : decode cX7_goDay 18 = .ok (.aload_n 0, 1) := by decide +kernel
theorem dX7_goDay_19 : decode cX7_goDay 19 = .ok (.getfield 16, 3) := by decide +kernel
theorem dX7_goDay_22 : decode cX7_goDay 22 = .ok (.iload_n 1, 1) := by decide +kernel
theorem dX7_goDay_23 : decode cX7_goDay 23 = .ok (.iconst 2, 1) := by decide +kernel
theorem dX7_goDay_24 : decode cX7_goDay 24 = .ok (.iload_n 3, 1) := by decide +kernel
theorem dX7_goDay_25 : decode cX7_goDay 25 = .ok (.imul, 1) := by decide +kernel
theorem dX7_goDay_26 : decode cX7_goDay 26 = .ok (.iadd, 1) := by decide +kernel
theorem dX7_goDay_27 : decode cX7_goDay 27 = .ok (.iconst 1, 1) := by decide +kernel
theorem dX7_goDay_28 : decode cX7_goDay 28 = .ok (.iadd, 1) := by decide +kernel
theorem dX7_goDay_29 : decode cX7_goDay 29 = .ok (.iaload, 1) := by decide +kernel
theorem dX7_goDay_30 : decode cX7_goDay 30 = .ok (.invokevirtual 197, 3) := by decide +kernel
theorem dX7_goDay_33 : decode cX7_goDay 33 = .ok (.ifCond .ne 5, 3) := by decide +kernel
theorem dX7_goDay_36 : decode cX7_goDay 36 = .ok (.iload_n 3, 1) := by decide +kernel
theorem dX7_goDay_37 : decode cX7_goDay 37 = .ok (.ireturn, 1) := by decide +kernel
theorem dX7_goDay_38 : decode cX7_goDay 38 = .ok (.iinc 3 1, 3) := by decide +kernel
theorem dX7_goDay_41 : decode cX7_goDay 41 = .ok (.goto (-39), 3) := by decide +kernel
theorem dX7_goDay_44 : decode cX7_goDay 44 = .ok (.bipush (-9), 2) := by decide +kernel
theorem dX7_goDay_46 : decode cX7_goDay 46 = .ok (.ireturn, 1) := by decide +kernel
theorem dX7_day_0 : decode cX7_day 0 = .ok (.aload_n 0, 1) := by decide +kernel
theorem dX7_day_1 : decode cX7_day 1 = .ok (.iconst 0, 1) := by decide +kernel
theorem dX7_day_2 : decode cX7_day 2 = .ok (.putfield 60, 3) := by decide +kernel
theorem dX7_day_5 : decode cX7_day 5 = .ok (.iload_n 1, 1) := by decide +kernel
theorem dX7_day_6 : decode cX7_day 6 = .ok (.invokestatic 75, 3) := by decide +kernel
theorem dX7_day_9 : decode cX7_day 9 = .ok (.ifCond .ne 5, 3) := by decide +kernel
theorem dX7_day_12 : decode cX7_day 12 = .ok (.iconst (-1), 1) := by decide +kernel
theorem dX7_day_13 : decode cX7_day 13 = .ok (.ireturn, 1) := by decide +kernel
theorem dX7_day_14 : decode cX7_day 14 = .ok (.iload_n 2, 1) := by decide +kernel
theorem dX7_day_15 : decode cX7_day 15 = .ok (.invokestatic 79, 3) := by decide +kernel
theorem dX7_day_18 : decode cX7_day 18 = .ok (.ifCond .eq 36, 3) := by decide +kernel
theorem dX7_day_21 : decode cX7_day 21 = .ok (.iload 4, 2) := by decide +kernel
theorem dX7_day_23 : decode cX7_day 23 = .ok (.iconst 0, 1) := by decide +kernel
theorem dX7_day_24 : decode cX7_day 24 = .ok (.bipush 20, 2) := by decide +kernel
theorem dX7_day_26 : decode cX7_day 26 = .ok (.invokestatic 65, 3) := by decide +kernel
theorem dX7_day_29 : decode cX7_day 29 = .ok (.ifCond .eq 25, 3) := by decide +kernel
theorem dX7_day_32 : decode cX7_day 32 = .ok (.iload 5, 2) := by decide +kernel
theorem dX7_day_34 : decode cX7_day 34 = .ok (.iconst 0, 1) := by decide +kernel
theorem dX7_day_35 : decode cX7_day 35 = .ok (.iconst 4, 1) := by decide +kernel
theorem dX7_day_36 : decode cX7_day 36 = .ok (.invokestatic 65, 3) := by decide +kernel
theorem dX7_day_39 : decode cX7_day 39 = .ok (.ifCond .ne 18, 3) := by decide +kernel
theorem dX7_day_42 : decode cX7_day 42 = .ok (.iload 5, 2) := by decide +kernel
theorem dX7_day_44 : decode cX7_day 44 = .ok (.bipush 10, 2) := by decide +kernel
theorem dX7_day_46 : decode cX7_day 46 = .ok (.bipush 16, 2) := by decide +kernel
theorem dX7_day_48 : decode cX7_day 48 = .ok (.invokestatic 65, 3) := by decide +kernel
theorem dX7_day_51 : decode cX7_day 51 = .ok (.ifCond .ne 6, 3) := by decide +kernel
theorem dX7_day_54 : decode cX7_day 54 = .ok (.bipush (-2), 2) := by decide +kernel
theorem dX7_day_56 : decode cX7_day 56 = .ok (.ireturn, 1) := by decide +kernel
theorem dX7_day_57 : decode cX7_day 57 = .ok (.aload_n 0, 1) := by decide +kernel
theorem dX7_day_58 : decode cX7_day 58 = .ok (.iload_n 1, 1) := by decide +kernel
theorem dX7_day_59 : decode cX7_day 59 = .ok (.iload_n 2, 1) := by decide +kernel
theorem dX7_day_60 : decode cX7_day 60 = .ok (.iload_n 3, 1) := by decide +kernel
theorem dX7_day_61 : decode cX7_day 61 = .ok (.iconst 2, 1) := by decide +kernel
theorem dX7_day_62 : decode cX7_day 62 = .ok (.iload 4, 2) := by decide +kernel
theorem dX7_day_64 : decode cX7_day 64 = .ok (.imul, 1) := by decide +kernel
theorem dX7_day_65 : decode cX7_day 65 = .ok (.invokevirtual 82, 3) := by decide +kernel
theorem dX7_day_68 : decode cX7_day 68 = .ok (.istore 6, 2) := by decide +kernel
theorem dX7_day_70 : decode cX7_day 70 = .ok (.iload 6, 2) := by decide +kernel
theorem dX7_day_72 : decode cX7_day 72 = .ok (.ifCond .eq 10, 3) := by decide +kernel
theorem dX7_day_75 : decode cX7_day 75 = .ok (.aload_n 0, 1) := by decide +kernel
theorem dX7_day_76 : decode cX7_day 76 = .ok (.iload 6, 2) := by decide +kernel
theorem dX7_day_78 : decode cX7_day 78 = .ok (.invokevirtual 86, 3) := by decide +kernel
theorem dX7_day_81 : decode cX7_day 81 = .ok (.ireturn, 1) := by decide +kernel
theorem dX7_day_82 : decode cX7_day 82 = .ok (.aload_n 0, 1) := by decide +kernel
theorem dX7_day_83 : decode cX7_day 83 = .ok (.getfield 69, 3) := by decide +kernel
theorem dX7_day_86 : decode cX7_day 86 = .ok (.ifCond .ne 6, 3) := by decide +kernel
theorem dX7_day_89 : decode cX7_day 89 = .ok (.bipush (-3), 2) := by decide +kernel
theorem dX7_day_91 : decode cX7_day 91 = .ok (.ireturn, 1) := by decide +kernel
theorem dX7_day_92 : decode cX7_day 92 = .ok (.bipush 60, 2) := by decide +kernel
theorem dX7_day_94 : decode cX7_day 94 = .ok (.iload_n 1, 1) := by decide +kernel
theorem dX7_day_95 : decode cX7_day 95 = .ok (.imul, 1) := by decide +kernel
theorem dX7_day_96 : decode cX7_day 96 = .ok (.iload_n 3, 1) := by decide +kernel
theorem dX7_day_97 : decode cX7_day 97 = .ok (.iadd, 1) := by decide +kernel
theorem dX7_day_98 : decode cX7_day 98 = .ok (.istore 7, 2) := by decide +kernel
theorem dX7_day_100 : decode cX7_day 100 = .ok (.iconst 0, 1) := by decide +kernel
theorem dX7_day_101 : decode cX7_day 101 = .ok (.istore 8, 2) := by decide +kernel
theorem dX7_day_103 : decode cX7_day 103 = .ok (.iload 8, 2) := by decide +kernel
theorem dX7_day_105 : decode cX7_day 105 = .ok (.iload 4, 2) := by decide +kernel
theorem dX7_day_107 : decode cX7_day 107 = .ok (.if_icmp .ge 44, 3) := by decide +kernel
theorem dX7_day_110 : decode cX7_day 110 = .ok (.aload_n 0, 1) := by decide +kernel
theorem dX7_day_111 : decode cX7_day 111 = .ok (.getfield 16, 3) := by decide +kernel
theorem dX7_day_114 : decode cX7_day 114 = .ok (.iload 7, 2) := by decide +kernel
theorem dX7_day_116 : decode cX7_day 116 = .ok (.iconst 2, 1) := by decide +kernel
theorem dX7_day_117 : decode cX7_day 117 = .ok (.iload 8, 2) := by decide +kernel
theorem dX7_day_119 : decode cX7_day 119 = .ok (.imul, 1) := by decide +kernel
theorem dX7_day_120 : decode cX7_day 120 = .ok (.iadd, 1) := by decide +kernel
theorem dX7_day_121 : decode cX7_day 121 = .ok (.iaload, 1) := by decide +kernel
theorem dX7_day_122 : decode cX7_day 122 = .ok (.aload_n 0, 1) := by decide +kernel
theorem dX7_day_123 : decode cX7_day 123 = .ok (.getfield 16, 3) := by decide +kernel
theorem dX7_day_126 : decode cX7_day 126 = .ok (.iload 7, 2) := by decide +kernel
theorem dX7_day_128 : decode cX7_day 128 = .ok (.iconst 2, 1) := by decide +kernel
theorem dX7_day_129 : decode cX7_day 129 = .ok (.iload 8, 2) := by decide +kernel
theorem dX7_day_131 : decode cX7_day 131 = .ok (.imul, 1) := by decide +kernel
theorem dX7_day_132 : decode cX7_day 132 = .ok (.iadd, 1) := by decide +kernel
theorem dX7_day_133 : decode cX7_day 133 = .ok (.iconst 1, 1) := by decide +kernel
theorem dX7_day_134 : decode cX7_day 134 = .ok (.iadd, 1) := by decide +kernel
theorem dX7_day_135 : decode cX7_day 135 = .ok (.iaload, 1) := by decide +kernel
theorem dX7_day_136 : decode cX7_day 136 = .ok (.invokestatic 200, 3) := by decide +kernel
theorem dX7_day_139 : decode cX7_day 139 = .ok (.ifCond .ne 6, 3) := by decide +kernel
theorem dX7_day_142 : decode cX7_day 142 = .ok (.bipush (-2), 2) := by decide +kernel
theorem dX7_day_144 : decode cX7_day 144 = .ok (.ireturn, 1) := by decide +kernel
theorem dX7_day_145 : decode cX7_day 145 = .ok (.iinc 8 1, 3) := by decide +kernel
theorem dX7_day_148 : decode cX7_day 148 = .ok (.goto (-45), 3) := by decide +kernel
theorem dX7_day_151 : decode cX7_day 151 = .ok (.aload_n 0, 1) := by decide +kernel
theorem dX7_day_152 : decode cX7_day 152 = .ok (.getfield 105, 3) := by decide +kernel
theorem dX7_day_155 : decode cX7_day 155 = .ok (.istore 8, 2) := by decide +kernel
theorem dX7_day_157 : decode cX7_day 157 = .ok (.iconst 0, 1) := by decide +kernel
theorem dX7_day_158 : decode cX7_day 158 = .ok (.istore 9, 2) := by decide +kernel
theorem dX7_day_160 : decode cX7_day 160 = .ok (.iload 9, 2) := by decide +kernel
theorem dX7_day_162 : decode cX7_day 162 = .ok (.aload_n 0, 1) := by decide +kernel
theorem dX7_day_163 : decode cX7_day 163 = .ok (.getfield 69, 3) := by decide +kernel
theorem dX7_day_166 : decode cX7_day 166 = .ok (.if_icmp .ge 23, 3) := by decide +kernel
theorem dX7_day_169 : decode cX7_day 169 = .ok (.aload_n 0, 1) := by decide +kernel
theorem dX7_day_170 : decode cX7_day 170 = .ok (.getfield 51, 3) := by decide +kernel
theorem dX7_day_173 : decode cX7_day 173 = .ok (.iload 9, 2) := by decide +kernel
theorem dX7_day_175 : decode cX7_day 175 = .ok (.aload_n 0, 1) := by decide +kernel
theorem dX7_day_176 : decode cX7_day 176 = .ok (.getfield 33, 3) := by decide +kernel
theorem dX7_day_179 : decode cX7_day 179 = .ok (.iload 9, 2) := by decide +kernel
theorem dX7_day_181 : decode cX7_day 181 = .ok (.iaload, 1) := by decide +kernel
theorem dX7_day_182 : decode cX7_day 182 = .ok (.iastore, 1) := by decide +kernel
theorem dX7_day_183 : decode cX7_day 183 = .ok (.iinc 9 1, 3) := by decide +kernel
theorem dX7_day_186 : decode cX7_day 186 = .ok (.goto (-26), 3) := by decide +kernel
theorem dX7_day_189 : decode cX7_day 189 = .ok (.aload_n 0, 1) := by decide +kernel
theorem dX7_day_190 : decode cX7_day 190 = .ok (.iload 7, 2) := by decide +kernel
theorem dX7_day_192 : decode cX7_day 192 = .ok (.iload 4, 2) := by decide +kernel
theorem dX7_day_194 : decode cX7_day 194 = .ok (.invokevirtual 203, 3) := by decide +kernel
theorem dX7_day_197 : decode cX7_day 197 = .ok (.istore 9, 2) := by decide +kernel
theorem dX7_day_199 : decode cX7_day 199 = .ok (.aload_n 0, 1) := by decide +kernel
theorem dX7_day_200 : decode cX7_day 200 = .ok (.iload 5, 2) := by decide +kernel
theorem dX7_day_202 : decode cX7_day 202 = .ok (.invokevirtual 206, 3) := by decide +kernel
theorem dX7_day_205 : decode cX7_day 205 = .ok (.istore 10, 2) := by decide +kernel
theorem dX7_day_207 : decode cX7_day 207 = .ok (.aload_n 0, 1) := by decide +kernel
theorem dX7_day_208 : decode cX7_day 208 = .ok (.iload 8, 2) := by decide +kernel
theorem dX7_day_210 : decode cX7_day 210 = .ok (.putfield 105, 3) := by decide +kernel
theorem dX7_day_213 : decode cX7_day 213 = .ok (.iconst 0, 1) := by decide +kernel
theorem dX7_day_214 : decode cX7_day 214 = .ok (.istore 11, 2) := by decide +kernel
theorem dX7_day_216 : decode cX7_day 216 = .ok (.iload 11, 2) := by decide +kernel
theorem dX7_day_218 : decode cX7_day 218 = .ok (.aload_n 0, 1) := by decide +kernel
theorem dX7_day_219 : decode cX7_day 219 = .ok (.getfield 69, 3) := by decide +kernel
theorem dX7_day_222 : decode cX7_day 222 = .ok (.if_icmp .ge 23, 3) := by decide +kernel
theorem dX7_day_225 : decode cX7_day 225 = .ok (.aload_n 0, 1) := by decide +kernel
theorem dX7_day_226 : decode cX7_day 226 = .ok (.getfield 33, 3) := by decide +kernel
theorem dX7_day_229 : decode cX7_day 229 = .ok (.iload 11, 2) := by decide +kernel
theorem dX7_day_231 : decode cX7_day 231 = .ok (.aload_n 0, 1) := by decide +kernel
theorem dX7_day_232 : decode cX7_day 232 = .ok (.getfield 51, 3) := by decide +kernel
theorem dX7_day_235 : decode cX7_day 235 = .ok (.iload 11, 2) := by decide +kernel
theorem dX7_day_237 : decode cX7_day 237 = .ok (.iaload, 1) := by decide +kernel
theorem dX7_day_238 : decode cX7_day 238 = .ok (.iastore, 1) := by decide +kernel
theorem dX7_day_239 : decode cX7_day 239 = .ok (.iinc 11 1, 3) := by decide +kernel
theorem dX7_day_242 : decode cX7_day 242 = .ok (.goto (-26), 3) := by decide +kernel
theorem dX7_day_245 : decode cX7_day 245 = .ok (.iload 5, 2) := by decide +kernel
theorem dX7_day_247 : decode cX7_day 247 = .ok (.iconst 1, 1) := by decide +kernel
theorem dX7_day_248 : decode cX7_day 248 = .ok (.if_icmp .ne 8, 3) := by decide +kernel
theorem dX7_day_251 : decode cX7_day 251 = .ok (.iload 9, 2) := by decide +kernel
theorem dX7_day_253 : decode cX7_day 253 = .ok (.goto 20, 3) := by decide +kernel
theorem dX7_day_256 : decode cX7_day 256 = .ok (.iload 9, 2) := by decide +kernel
theorem dX7_day_258 : decode cX7_day 258 = .ok (.bipush (-9), 2) := by decide +kernel
theorem dX7_day_260 : decode cX7_day 260 = .ok (.if_icmp .ne 8, 3) := by decide +kernel
theorem dX7_day_263 : decode cX7_day 263 = .ok (.iload 10, 2) := by decide +kernel
theorem dX7_day_265 : decode cX7_day 265 = .ok (.goto 8, 3) := by decide +kernel
theorem dX7_day_268 : decode cX7_day 268 = .ok (.bipush (-100), 2) := by decide +kernel
theorem dX7_day_270 : decode cX7_day 270 = .ok (.iload 9, 2) := by decide +kernel
theorem dX7_day_272 : decode cX7_day 272 = .ok (.isub, 1) := by decide +kernel
theorem dX7_day_273 : decode cX7_day 273 = .ok (.ireturn, 1) := by decide +kernel
theorem dX7_tellDay_0 : decode cX7_tellDay 0 = .ok (.iload_n 1, 1) := by decide +kernel
theorem dX7_tellDay_1 : decode cX7_tellDay 1 = .ok (.bipush 10, 2) := by decide +kernel
theorem dX7_tellDay_3 : decode cX7_tellDay 3 = .ok (.if_icmp .lt 35, 3) := by decide +kernel
theorem dX7_tellDay_6 : decode cX7_tellDay 6 = .ok (.aload_n 0, 1) := by decide +kernel
theorem dX7_tellDay_7 : decode cX7_tellDay 7 = .ok (.iload_n 1, 1) := by decide +kernel
theorem dX7_tellDay_8 : decode cX7_tellDay 8 = .ok (.bipush 10, 2) := by decide +kernel
theorem dX7_tellDay_10 : decode cX7_tellDay 10 = .ok (.isub, 1) := by decide +kernel
theorem dX7_tellDay_11 : decode cX7_tellDay 11 = .ok (.invokevirtual 163, 3) := by decide +kernel
theorem dX7_tellDay_14 : decode cX7_tellDay 14 = .ok (.ifCond .eq 21, 3) := by decide +kernel
theorem dX7_tellDay_17 : decode cX7_tellDay 17 = .ok (.aload_n 0, 1) := by decide +kernel
theorem dX7_tellDay_18 : decode cX7_tellDay 18 = .ok (.iload_n 1, 1) := by decide +kernel
theorem dX7_tellDay_19 : decode cX7_tellDay 19 = .ok (.bipush 10, 2) := by decide +kernel
theorem dX7_tellDay_21 : decode cX7_tellDay 21 = .ok (.isub, 1) := by decide +kernel
theorem dX7_tellDay_22 : decode cX7_tellDay 22 = .ok (.aload_n 0, 1) := by decide +kernel
theorem dX7_tellDay_23 : decode cX7_tellDay 23 = .ok (.getfield 105, 3) := by decide +kernel
theorem dX7_tellDay_26 : decode cX7_tellDay 26 = .ok (.invokevirtual 169, 3) := by decide +kernel
theorem dX7_tellDay_29 : decode cX7_tellDay 29 = .ok (.bipush 10, 2) := by decide +kernel
theorem dX7_tellDay_31 : decode cX7_tellDay 31 = .ok (.iadd, 1) := by decide +kernel
theorem dX7_tellDay_32 : decode cX7_tellDay 32 = .ok (.goto 5, 3) := by decide +kernel
theorem dX7_tellDay_35 : decode cX7_tellDay 35 = .ok (.bipush (-9), 2) := by decide +kernel
theorem dX7_tellDay_37 : decode cX7_tellDay 37 = .ok (.ireturn, 1) := by decide +kernel
theorem dX7_tellDay_38 : decode cX7_tellDay 38 = .ok (.iload_n 1, 1) := by decide +kernel
theorem dX7_tellDay_39 : decode cX7_tellDay 39 = .ok (.ifCond .ne 14, 3) := by decide +kernel
theorem dX7_tellDay_42 : decode cX7_tellDay 42 = .ok (.aload_n 0, 1) := by decide +kernel
theorem dX7_tellDay_43 : decode cX7_tellDay 43 = .ok (.aload_n 0, 1) := by decide +kernel
theorem dX7_tellDay_44 : decode cX7_tellDay 44 = .ok (.getfield 105, 3) := by decide +kernel
theorem dX7_tellDay_47 : decode cX7_tellDay 47 = .ok (.invokevirtual 160, 3) := by decide +kernel
theorem dX7_tellDay_50 : decode cX7_tellDay 50 = .ok (.goto 47, 3) := by decide +kernel
theorem dX7_tellDay_53 : decode cX7_tellDay 53 = .ok (.iload_n 1, 1) := by decide +kernel
theorem dX7_tellDay_54 : decode cX7_tellDay 54 = .ok (.iconst 2, 1) := by decide +kernel
theorem dX7_tellDay_55 : decode cX7_tellDay 55 = .ok (.if_icmp .ne 10, 3) := by decide +kernel
theorem dX7_tellDay_58 : decode cX7_tellDay 58 = .ok (.aload_n 0, 1) := by decide +kernel
theorem dX7_tellDay_59 : decode cX7_tellDay 59 = .ok (.getfield 105, 3) := by decide +kernel
theorem dX7_tellDay_62 : decode cX7_tellDay 62 = .ok (.goto 35, 3) := by decide +kernel
theorem dX7_tellDay_65 : decode cX7_tellDay 65 = .ok (.iload_n 1, 1) := by decide +kernel
theorem dX7_tellDay_66 : decode cX7_tellDay 66 = .ok (.iconst 3, 1) := by decide +kernel
theorem dX7_tellDay_67 : decode cX7_tellDay 67 = .ok (.if_icmp .ne 21, 3) := by decide +kernel
theorem dX7_tellDay_70 : decode cX7_tellDay 70 = .ok (.aload_n 0, 1) := by decide +kernel
theorem dX7_tellDay_71 : decode cX7_tellDay 71 = .ok (.aload_n 0, 1) := by decide +kernel
theorem dX7_tellDay_72 : decode cX7_tellDay 72 = .ok (.invokevirtual 143, 3) := by decide +kernel
theorem dX7_tellDay_75 : decode cX7_tellDay 75 = .ok (.aload_n 0, 1) := by decide +kernel
theorem dX7_tellDay_76 : decode cX7_tellDay 76 = .ok (.getfield 105, 3) := by decide +kernel
theorem dX7_tellDay_79 : decode cX7_tellDay 79 = .ok (.iconst (-1), 1) := by decide +kernel
theorem dX7_tellDay_80 : decode cX7_tellDay 80 = .ok (.ixor, 1) := by decide +kernel
theorem dX7_tellDay_81 : decode cX7_tellDay 81 = .ok (.iand, 1) := by decide +kernel
theorem dX7_tellDay_82 : decode cX7_tellDay 82 = .ok (.invokevirtual 147, 3) := by decide +kernel
theorem dX7_tellDay_85 : decode cX7_tellDay 85 = .ok (.goto 12, 3) := by decide +kernel
theorem dX7_tellDay_88 : decode cX7_tellDay 88 = .ok (.aload_n 0, 1) := by decide +kernel
theorem dX7_tellDay_89 : decode cX7_tellDay 89 = .ok (.iconst 0, 1) := by decide +kernel
theorem dX7_tellDay_90 : decode cX7_tellDay 90 = .ok (.aload_n 0, 1) := by decide +kernel
theorem dX7_tellDay_91 : decode cX7_tellDay 91 = .ok (.getfield 105, 3) := by decide +kernel
theorem dX7_tellDay_94 : decode cX7_tellDay 94 = .ok (.invokevirtual 154, 3) := by decide +kernel
theorem dX7_tellDay_97 : decode cX7_tellDay 97 = .ok (.ireturn, 1) := by decide +kernel
theorem dX7_least_0 : decode cX7_least 0 = .ok (.aload_n 0, 1) := by decide +kernel
theorem dX7_least_1 : decode cX7_least 1 = .ok (.getfield 69, 3) := by decide +kernel
theorem dX7_least_4 : decode cX7_least 4 = .ok (.ifCond .ne 6, 3) := by decide +kernel
theorem dX7_least_7 : decode cX7_least 7 = .ok (.bipush (-3), 2) := by decide +kernel
theorem dX7_least_9 : decode cX7_least 9 = .ok (.ireturn, 1) := by decide +kernel
theorem dX7_least_10 : decode cX7_least 10 = .ok (.iload_n 1, 1) := by decide +kernel
theorem dX7_least_11 : decode cX7_least 11 = .ok (.iconst 0, 1) := by decide +kernel
theorem dX7_least_12 : decode cX7_least 12 = .ok (.iconst 1, 1) := by decide +kernel
theorem dX7_least_13 : decode cX7_least 13 = .ok (.invokestatic 65, 3) := by decide +kernel
theorem dX7_least_16 : decode cX7_least 16 = .ok (.ifCond .ne 6, 3) := by decide +kernel
theorem dX7_least_19 : decode cX7_least 19 = .ok (.bipush (-2), 2) := by decide +kernel
theorem dX7_least_21 : decode cX7_least 21 = .ok (.ireturn, 1) := by decide +kernel
theorem dX7_least_22 : decode cX7_least 22 = .ok (.bipush (-9), 2) := by decide +kernel
theorem dX7_least_24 : decode cX7_least 24 = .ok (.istore_n 2, 1) := by decide +kernel
theorem dX7_least_25 : decode cX7_least 25 = .ok (.iconst 0, 1) := by decide +kernel
theorem dX7_least_26 : decode cX7_least 26 = .ok (.istore_n 3, 1) := by decide +kernel
theorem dX7_least_27 : decode cX7_least 27 = .ok (.iload_n 3, 1) := by decide +kernel
theorem dX7_least_28 : decode cX7_least 28 = .ok (.aload_n 0, 1) := by decide +kernel
theorem dX7_least_29 : decode cX7_least 29 = .ok (.invokevirtual 143, 3) := by decide +kernel
theorem dX7_least_32 : decode cX7_least 32 = .ok (.if_icmp .gt 82, 3) := by decide +kernel
theorem dX7_least_35 : decode cX7_least 35 = .ok (.iload_n 3, 1) := by decide +kernel
theorem dX7_least_36 : decode cX7_least 36 = .ok (.aload_n 0, 1) := by decide +kernel
theorem dX7_least_37 : decode cX7_least 37 = .ok (.getfield 111, 3) := by decide +kernel
theorem dX7_least_40 : decode cX7_least 40 = .ok (.iand, 1) := by decide +kernel
theorem dX7_least_41 : decode cX7_least 41 = .ok (.aload_n 0, 1) := by decide +kernel
theorem dX7_least_42 : decode cX7_least 42 = .ok (.getfield 105, 3) := by decide +kernel
theorem dX7_least_45 : decode cX7_least 45 = .ok (.aload_n 0, 1) := by decide +kernel
theorem dX7_least_46 : decode cX7_least 46 = .ok (.getfield 111, 3) := by decide +kernel
theorem dX7_least_49 : decode cX7_least 49 = .ok (.iand, 1) := by decide +kernel
theorem dX7_least_50 : decode cX7_least 50 = .ok (.if_icmp .ne 25, 3) := by decide +kernel
theorem dX7_least_53 : decode cX7_least 53 = .ok (.aload_n 0, 1) := by decide +kernel
theorem dX7_least_54 : decode cX7_least 54 = .ok (.iconst 0, 1) := by decide +kernel
theorem dX7_least_55 : decode cX7_least 55 = .ok (.iload_n 3, 1) := by decide +kernel
theorem dX7_least_56 : decode cX7_least 56 = .ok (.invokevirtual 172, 3) := by decide +kernel
theorem dX7_least_59 : decode cX7_least 59 = .ok (.ifCond .eq 16, 3) := by decide +kernel
theorem dX7_least_62 : decode cX7_least 62 = .ok (.aload_n 0, 1) := by decide +kernel
theorem dX7_least_63 : decode cX7_least 63 = .ok (.iconst 1, 1) := by decide +kernel
theorem dX7_least_64 : decode cX7_least 64 = .ok (.iload_n 3, 1) := by decide +kernel
theorem dX7_least_65 : decode cX7_least 65 = .ok (.invokevirtual 172, 3) := by decide +kernel
theorem dX7_least_68 : decode cX7_least 68 = .ok (.ifCond .eq 7, 3) := by decide +kernel
theorem dX7_least_71 : decode cX7_least 71 = .ok (.iconst 1, 1) := by decide +kernel
theorem dX7_least_72 : decode cX7_least 72 = .ok (.goto 4, 3) := by decide +kernel
theorem dX7_least_75 : decode cX7_least 75 = .ok (.iconst 0, 1) := by decide +kernel
theorem dX7_least_76 : decode cX7_least 76 = .ok (.istore 4, 2) := by decide +kernel
theorem dX7_least_78 : decode cX7_least 78 = .ok (.iload 4, 2) := by decide +kernel
theorem dX7_least_80 : decode cX7_least 80 = .ok (.ifCond .eq 26, 3) := by decide +kernel
theorem dX7_least_83 : decode cX7_least 83 = .ok (.iload_n 2, 1) := by decide +kernel
theorem dX7_least_84 : decode cX7_least 84 = .ok (.bipush (-9), 2) := by decide +kernel
theorem dX7_least_86 : decode cX7_least 86 = .ok (.if_icmp .eq 16, 3) := by decide +kernel
theorem dX7_least_89 : decode cX7_least 89 = .ok (.aload_n 0, 1) := by decide +kernel
theorem dX7_least_90 : decode cX7_least 90 = .ok (.iload_n 3, 1) := by decide +kernel
theorem dX7_least_91 : decode cX7_least 91 = .ok (.invokevirtual 160, 3) := by decide +kernel
theorem dX7_least_94 : decode cX7_least 94 = .ok (.aload_n 0, 1) := by decide +kernel
theorem dX7_least_95 : decode cX7_least 95 = .ok (.iload_n 2, 1) := by decide +kernel
theorem dX7_least_96 : decode cX7_least 96 = .ok (.invokevirtual 160, 3) := by decide +kernel
theorem dX7_least_99 : decode cX7_least 99 = .ok (.if_icmp .ge 7, 3) := by decide +kernel
theorem dX7_least_102 : decode cX7_least 102 = .ok (.iload_n 3, 1) := by decide +kernel
theorem dX7_least_103 : decode cX7_least 103 = .ok (.goto 4, 3) := by decide +kernel
theorem dX7_least_106 : decode cX7_least 106 = .ok (.iload_n 2, 1) := by decide +kernel
theorem dX7_least_107 : decode cX7_least 107 = .ok (.istore_n 2, 1) := by decide +kernel
theorem dX7_least_108 : decode cX7_least 108 = .ok (.iinc 3 1, 3) := by decide +kernel
theorem dX7_least_111 : decode cX7_least 111 = .ok (.goto (-84), 3) := by decide +kernel
theorem dX7_least_114 : decode cX7_least 114 = .ok (.iload_n 2, 1) := by decide +kernel
theorem dX7_least_115 : decode cX7_least 115 = .ok (.bipush (-9), 2) := by decide +kernel
theorem dX7_least_117 : decode cX7_least 117 = .ok (.if_icmp .ne 8, 3) := by decide +kernel
theorem dX7_least_120 : decode cX7_least 120 = .ok (.bipush (-9), 2) := by decide +kernel
theorem dX7_least_122 : decode cX7_least 122 = .ok (.goto 16, 3) := by decide +kernel
theorem dX7_least_125 : decode cX7_least 125 = .ok (.iload_n 1, 1) := by decide +kernel
theorem dX7_least_126 : decode cX7_least 126 = .ok (.ifCond .ne 11, 3) := by decide +kernel
theorem dX7_least_129 : decode cX7_least 129 = .ok (.aload_n 0, 1) := by decide +kernel
theorem dX7_least_130 : decode cX7_least 130 = .ok (.iload_n 2, 1) := by decide +kernel
theorem dX7_least_131 : decode cX7_least 131 = .ok (.invokevirtual 160, 3) := by decide +kernel
theorem dX7_least_134 : decode cX7_least 134 = .ok (.goto 4, 3) := by decide +kernel
theorem dX7_least_137 : decode cX7_least 137 = .ok (.iload_n 2, 1) := by decide +kernel
theorem dX7_least_138 : decode cX7_least 138 = .ok (.ireturn, 1) := by decide +kernel
theorem dX7_apart_0 : decode cX7_apart 0 = .ok (.aload_n 0, 1) := by decide +kernel
theorem dX7_apart_1 : decode cX7_apart 1 = .ok (.iload_n 1, 1) := by decide +kernel
theorem dX7_apart_2 : decode cX7_apart 2 = .ok (.invokevirtual 163, 3) := by decide +kernel
theorem dX7_apart_5 : decode cX7_apart 5 = .ok (.ifCond .eq 16, 3) := by decide +kernel
theorem dX7_apart_8 : decode cX7_apart 8 = .ok (.aload_n 0, 1) := by decide +kernel
theorem dX7_apart_9 : decode cX7_apart 9 = .ok (.iload_n 2, 1) := by decide +kernel
theorem dX7_apart_10 : decode cX7_apart 10 = .ok (.invokevirtual 163, 3) := by decide +kernel
theorem dX7_apart_13 : decode cX7_apart 13 = .ok (.ifCond .eq 8, 3) := by decide +kernel
theorem dX7_apart_16 : decode cX7_apart 16 = .ok (.iload_n 1, 1) := by decide +kernel
theorem dX7_apart_17 : decode cX7_apart 17 = .ok (.iload_n 2, 1) := by decide +kernel
theorem dX7_apart_18 : decode cX7_apart 18 = .ok (.if_icmp .ne 5, 3) := by decide +kernel
theorem dX7_apart_21 : decode cX7_apart 21 = .ok (.iconst (-1), 1) := by decide +kernel
theorem dX7_apart_22 : decode cX7_apart 22 = .ok (.ireturn, 1) := by decide +kernel
theorem dX7_apart_23 : decode cX7_apart 23 = .ok (.bipush 6, 2) := by decide +kernel
theorem dX7_apart_25 : decode cX7_apart 25 = .ok (.istore_n 3, 1) := by decide +kernel
theorem dX7_apart_26 : decode cX7_apart 26 = .ok (.iconst 0, 1) := by decide +kernel
theorem dX7_apart_27 : decode cX7_apart 27 = .ok (.istore 4, 2) := by decide +kernel
theorem dX7_apart_29 : decode cX7_apart 29 = .ok (.iload 4, 2) := by decide +kernel
theorem dX7_apart_31 : decode cX7_apart 31 = .ok (.aload_n 0, 1) := by decide +kernel
theorem dX7_apart_32 : decode cX7_apart 32 = .ok (.invokevirtual 143, 3) := by decide +kernel
theorem dX7_apart_35 : decode cX7_apart 35 = .ok (.if_icmp .gt 60, 3) := by decide +kernel
theorem dX7_apart_38 : decode cX7_apart 38 = .ok (.iload 4, 2) := by decide +kernel
theorem dX7_apart_40 : decode cX7_apart 40 = .ok (.iload_n 1, 1) := by decide +kernel
theorem dX7_apart_41 : decode cX7_apart 41 = .ok (.invokestatic 133, 3) := by decide +kernel
theorem dX7_apart_44 : decode cX7_apart 44 = .ok (.ifCond .ne 16, 3) := by decide +kernel
theorem dX7_apart_47 : decode cX7_apart 47 = .ok (.iload 4, 2) := by decide +kernel
theorem dX7_apart_49 : decode cX7_apart 49 = .ok (.iload_n 2, 1) := by decide +kernel
theorem dX7_apart_50 : decode cX7_apart 50 = .ok (.invokestatic 133, 3) := by decide +kernel
theorem dX7_apart_53 : decode cX7_apart 53 = .ok (.ifCond .eq 7, 3) := by decide +kernel
theorem dX7_apart_56 : decode cX7_apart 56 = .ok (.iconst 1, 1) := by decide +kernel
theorem dX7_apart_57 : decode cX7_apart 57 = .ok (.goto 4, 3) := by decide +kernel
theorem dX7_apart_60 : decode cX7_apart 60 = .ok (.iconst 0, 1) := by decide +kernel
theorem dX7_apart_61 : decode cX7_apart 61 = .ok (.istore 5, 2) := by decide +kernel
theorem dX7_apart_63 : decode cX7_apart 63 = .ok (.iload 5, 2) := by decide +kernel
theorem dX7_apart_65 : decode cX7_apart 65 = .ok (.ifCond .eq 22, 3) := by decide +kernel
theorem dX7_apart_68 : decode cX7_apart 68 = .ok (.aload_n 0, 1) := by decide +kernel
theorem dX7_apart_69 : decode cX7_apart 69 = .ok (.iload 4, 2) := by decide +kernel
theorem dX7_apart_71 : decode cX7_apart 71 = .ok (.invokevirtual 160, 3) := by decide +kernel
theorem dX7_apart_74 : decode cX7_apart 74 = .ok (.iload_n 3, 1) := by decide +kernel
theorem dX7_apart_75 : decode cX7_apart 75 = .ok (.if_icmp .ge 12, 3) := by decide +kernel
theorem dX7_apart_78 : decode cX7_apart 78 = .ok (.aload_n 0, 1) := by decide +kernel
theorem dX7_apart_79 : decode cX7_apart 79 = .ok (.iload 4, 2) := by decide +kernel
theorem dX7_apart_81 : decode cX7_apart 81 = .ok (.invokevirtual 160, 3) := by decide +kernel
theorem dX7_apart_84 : decode cX7_apart 84 = .ok (.goto 4, 3) := by decide +kernel
theorem dX7_apart_87 : decode cX7_apart 87 = .ok (.iload_n 3, 1) := by decide +kernel
theorem dX7_apart_88 : decode cX7_apart 88 = .ok (.istore_n 3, 1) := by decide +kernel
theorem dX7_apart_89 : decode cX7_apart 89 = .ok (.iinc 4 1, 3) := by decide +kernel
theorem dX7_apart_92 : decode cX7_apart 92 = .ok (.goto (-63), 3) := by decide +kernel
theorem dX7_apart_95 : decode cX7_apart 95 = .ok (.iload_n 3, 1) := by decide +kernel
theorem dX7_apart_96 : decode cX7_apart 96 = .ok (.ireturn, 1) := by decide +kernel
theorem dX7_closest_0 : decode cX7_closest 0 = .ok (.aload_n 0, 1) := by decide +kernel
theorem dX7_closest_1 : decode cX7_closest 1 = .ok (.getfield 69, 3) := by decide +kernel
theorem dX7_closest_4 : decode cX7_closest 4 = .ok (.iconst 2, 1) := by decide +kernel
theorem dX7_closest_5 : decode cX7_closest 5 = .ok (.if_icmp .ge 6, 3) := by decide +kernel
theorem dX7_closest_8 : decode cX7_closest 8 = .ok (.bipush (-3), 2) := by decide +kernel
theorem dX7_closest_10 : decode cX7_closest 10 = .ok (.ireturn, 1) := by decide +kernel
theorem dX7_closest_11 : decode cX7_closest 11 = .ok (.iload_n 1, 1) := by decide +kernel
theorem dX7_closest_12 : decode cX7_closest 12 = .ok (.iconst 0, 1) := by decide +kernel
theorem dX7_closest_13 : decode cX7_closest 13 = .ok (.iconst 2, 1) := by decide +kernel
theorem dX7_closest_14 : decode cX7_closest 14 = .ok (.invokestatic 65, 3) := by decide +kernel
theorem dX7_closest_17 : decode cX7_closest 17 = .ok (.ifCond .ne 6, 3) := by decide +kernel
theorem dX7_closest_20 : decode cX7_closest 20 = .ok (.bipush (-2), 2) := by decide +kernel
theorem dX7_closest_22 : decode cX7_closest 22 = .ok (.ireturn, 1) := by decide +kernel
theorem dX7_closest_23 : decode cX7_closest 23 = .ok (.bipush (-9), 2) := by decide +kernel
theorem dX7_closest_25 : decode cX7_closest 25 = .ok (.istore_n 2, 1) := by decide +kernel
theorem dX7_closest_26 : decode cX7_closest 26 = .ok (.iconst 0, 1) := by decide +kernel
theorem dX7_closest_27 : decode cX7_closest 27 = .ok (.istore_n 3, 1) := by decide +kernel
theorem dX7_closest_28 : decode cX7_closest 28 = .ok (.iconst 0, 1) := by decide +kernel
theorem dX7_closest_29 : decode cX7_closest 29 = .ok (.istore 4, 2) := by decide +kernel
theorem dX7_closest_31 : decode cX7_closest 31 = .ok (.iconst 0, 1) := by decide +kernel
theorem dX7_closest_32 : decode cX7_closest 32 = .ok (.istore 5, 2) := by decide +kernel
theorem dX7_closest_34 : decode cX7_closest 34 = .ok (.iload 5, 2) := by decide +kernel
theorem dX7_closest_36 : decode cX7_closest 36 = .ok (.aload_n 0, 1) := by decide +kernel
theorem dX7_closest_37 : decode cX7_closest 37 = .ok (.getfield 69, 3) := by decide +kernel
theorem dX7_closest_40 : decode cX7_closest 40 = .ok (.if_icmp .ge 64, 3) := by decide +kernel
theorem dX7_closest_43 : decode cX7_closest 43 = .ok (.iload 5, 2) := by decide +kernel
theorem dX7_closest_45 : decode cX7_closest 45 = .ok (.iconst 1, 1) := by decide +kernel
theorem dX7_closest_46 : decode cX7_closest 46 = .ok (.iadd, 1) := by decide +kernel
theorem dX7_closest_47 : decode cX7_closest 47 = .ok (.istore 6, 2) := by decide +kernel
theorem dX7_closest_49 : decode cX7_closest 49 = .ok (.iload 6, 2) := by decide +kernel
theorem dX7_closest_51 : decode cX7_closest 51 = .ok (.aload_n 0, 1) := by decide +kernel
theorem dX7_closest_52 : decode cX7_closest 52 = .ok (.getfield 69, 3) := by decide +kernel
theorem dX7_closest_55 : decode cX7_closest 55 = .ok (.if_icmp .ge 43, 3) := by decide +kernel
theorem dX7_closest_58 : decode cX7_closest 58 = .ok (.aload_n 0, 1) := by decide +kernel
theorem dX7_closest_59 : decode cX7_closest 59 = .ok (.iload 5, 2) := by decide +kernel
theorem dX7_closest_61 : decode cX7_closest 61 = .ok (.invokevirtual 166, 3) := by decide +kernel
theorem dX7_closest_64 : decode cX7_closest 64 = .ok (.aload_n 0, 1) := by decide +kernel
theorem dX7_closest_65 : decode cX7_closest 65 = .ok (.iload 6, 2) := by decide +kernel
theorem dX7_closest_67 : decode cX7_closest 67 = .ok (.invokevirtual 166, 3) := by decide +kernel
theorem dX7_closest_70 : decode cX7_closest 70 = .ok (.iand, 1) := by decide +kernel
theorem dX7_closest_71 : decode cX7_closest 71 = .ok (.invokestatic 130, 3) := by decide +kernel
theorem dX7_closest_74 : decode cX7_closest 74 = .ok (.istore 7, 2) := by decide +kernel
theorem dX7_closest_76 : decode cX7_closest 76 = .ok (.iload 7, 2) := by decide +kernel
theorem dX7_closest_78 : decode cX7_closest 78 = .ok (.iload_n 2, 1) := by decide +kernel
theorem dX7_closest_79 : decode cX7_closest 79 = .ok (.if_icmp .le 13, 3) := by decide +kernel
theorem dX7_closest_82 : decode cX7_closest 82 = .ok (.iload 7, 2) := by decide +kernel
theorem dX7_closest_84 : decode cX7_closest 84 = .ok (.istore_n 2, 1) := by decide +kernel
theorem dX7_closest_85 : decode cX7_closest 85 = .ok (.iload 5, 2) := by decide +kernel
theorem dX7_closest_87 : decode cX7_closest 87 = .ok (.istore_n 3, 1) := by decide +kernel
theorem dX7_closest_88 : decode cX7_closest 88 = .ok (.iload 6, 2) := by decide +kernel
theorem dX7_closest_90 : decode cX7_closest 90 = .ok (.istore 4, 2) := by decide +kernel
theorem dX7_closest_92 : decode cX7_closest 92 = .ok (.iinc 6 1, 3) := by decide +kernel
theorem dX7_closest_95 : decode cX7_closest 95 = .ok (.goto (-46), 3) := by decide +kernel
theorem dX7_closest_98 : decode cX7_closest 98 = .ok (.iinc 5 1, 3) := by decide +kernel
theorem dX7_closest_101 : decode cX7_closest 101 = .ok (.goto (-67), 3) := by decide +kernel
theorem dX7_closest_104 : decode cX7_closest 104 = .ok (.iload_n 1, 1) := by decide +kernel
theorem dX7_closest_105 : decode cX7_closest 105 = .ok (.ifCond .ne 7, 3) := by decide +kernel
theorem dX7_closest_108 : decode cX7_closest 108 = .ok (.iload_n 2, 1) := by decide +kernel
theorem dX7_closest_109 : decode cX7_closest 109 = .ok (.goto 14, 3) := by decide +kernel
theorem dX7_closest_112 : decode cX7_closest 112 = .ok (.iload_n 1, 1) := by decide +kernel
theorem dX7_closest_113 : decode cX7_closest 113 = .ok (.iconst 1, 1) := by decide +kernel
theorem dX7_closest_114 : decode cX7_closest 114 = .ok (.if_icmp .ne 7, 3) := by decide +kernel
theorem dX7_closest_117 : decode cX7_closest 117 = .ok (.iload_n 3, 1) := by decide +kernel
theorem dX7_closest_118 : decode cX7_closest 118 = .ok (.goto 5, 3) := by decide +kernel
theorem dX7_closest_121 : decode cX7_closest 121 = .ok (.iload 4, 2) := by decide +kernel
theorem dX7_closest_123 : decode cX7_closest 123 = .ok (.ireturn, 1) := by decide +kernel
theorem dX7_rack_0 : decode cX7_rack 0 = .ok (.aload_n 0, 1) := by decide +kernel
theorem dX7_rack_1 : decode cX7_rack 1 = .ok (.iconst 0, 1) := by decide +kernel
theorem dX7_rack_2 : decode cX7_rack 2 = .ok (.putfield 60, 3) := by decide +kernel
theorem dX7_rack_5 : decode cX7_rack 5 = .ok (.aload_n 0, 1) := by decide +kernel
theorem dX7_rack_6 : decode cX7_rack 6 = .ok (.getfield 69, 3) := by decide +kernel
theorem dX7_rack_9 : decode cX7_rack 9 = .ok (.ifCond .ne 6, 3) := by decide +kernel
theorem dX7_rack_12 : decode cX7_rack 12 = .ok (.bipush (-3), 2) := by decide +kernel
theorem dX7_rack_14 : decode cX7_rack 14 = .ok (.ireturn, 1) := by decide +kernel
theorem dX7_rack_15 : decode cX7_rack 15 = .ok (.iload_n 1, 1) := by decide +kernel
theorem dX7_rack_16 : decode cX7_rack 16 = .ok (.iconst 0, 1) := by decide +kernel
theorem dX7_rack_17 : decode cX7_rack 17 = .ok (.iconst 2, 1) := by decide +kernel
theorem dX7_rack_18 : decode cX7_rack 18 = .ok (.invokestatic 65, 3) := by decide +kernel
theorem dX7_rack_21 : decode cX7_rack 21 = .ok (.ifCond .eq 9, 3) := by decide +kernel
theorem dX7_rack_24 : decode cX7_rack 24 = .ok (.iload_n 2, 1) := by decide +kernel
theorem dX7_rack_25 : decode cX7_rack 25 = .ok (.bipush 9, 2) := by decide +kernel
theorem dX7_rack_27 : decode cX7_rack 27 = .ok (.if_icmp .le 6, 3) := by decide +kernel
theorem dX7_rack_30 : decode cX7_rack 30 = .ok (.bipush (-2), 2) := by decide +kernel
theorem dX7_rack_32 : decode cX7_rack 32 = .ok (.ireturn, 1) := by decide +kernel
theorem dX7_rack_33 : decode cX7_rack 33 = .ok (.iload_n 2, 1) := by decide +kernel
theorem dX7_rack_34 : decode cX7_rack 34 = .ok (.ifCond .ge 9, 3) := by decide +kernel
theorem dX7_rack_37 : decode cX7_rack 37 = .ok (.aload_n 0, 1) := by decide +kernel
theorem dX7_rack_38 : decode cX7_rack 38 = .ok (.iconst 4, 1) := by decide +kernel
theorem dX7_rack_39 : decode cX7_rack 39 = .ok (.invokevirtual 86, 3) := by decide +kernel
theorem dX7_rack_42 : decode cX7_rack 42 = .ok (.ireturn, 1) := by decide +kernel
theorem dX7_rack_43 : decode cX7_rack 43 = .ok (.aload_n 0, 1) := by decide +kernel
theorem dX7_rack_44 : decode cX7_rack 44 = .ok (.iload_n 1, 1) := by decide +kernel
theorem dX7_rack_45 : decode cX7_rack 45 = .ok (.putfield 24, 3) := by decide +kernel
theorem dX7_rack_48 : decode cX7_rack 48 = .ok (.aload_n 0, 1) := by decide +kernel
theorem dX7_rack_49 : decode cX7_rack 49 = .ok (.iload_n 2, 1) := by decide +kernel
theorem dX7_rack_50 : decode cX7_rack 50 = .ok (.putfield 114, 3) := by decide +kernel
theorem dX7_rack_53 : decode cX7_rack 53 = .ok (.iconst 0, 1) := by decide +kernel
theorem dX7_rack_54 : decode cX7_rack 54 = .ok (.istore_n 3, 1) := by decide +kernel
theorem dX7_rack_55 : decode cX7_rack 55 = .ok (.iload_n 3, 1) := by decide +kernel
theorem dX7_rack_56 : decode cX7_rack 56 = .ok (.bipush 9, 2) := by decide +kernel
theorem dX7_rack_58 : decode cX7_rack 58 = .ok (.if_icmp .ge 17, 3) := by decide +kernel
theorem dX7_rack_61 : decode cX7_rack 61 = .ok (.aload_n 0, 1) := by decide +kernel
theorem dX7_rack_62 : decode cX7_rack 62 = .ok (.getfield 27, 3) := by decide +kernel
theorem dX7_rack_65 : decode cX7_rack 65 = .ok (.iload_n 3, 1) := by decide +kernel
theorem dX7_rack_66 : decode cX7_rack 66 = .ok (.bipush (-9), 2) := by decide +kernel
theorem dX7_rack_68 : decode cX7_rack 68 = .ok (.iastore, 1) := by decide +kernel
theorem dX7_rack_69 : decode cX7_rack 69 = .ok (.iinc 3 1, 3) := by decide +kernel
theorem dX7_rack_72 : decode cX7_rack 72 = .ok (.goto (-17), 3) := by decide +kernel
theorem dX7_rack_75 : decode cX7_rack 75 = .ok (.iload_n 2, 1) := by decide +kernel
theorem dX7_rack_76 : decode cX7_rack 76 = .ok (.ireturn, 1) := by decide +kernel
theorem dX7_stow_0 : decode cX7_stow 0 = .ok (.aload_n 0, 1) := by decide +kernel
theorem dX7_stow_1 : decode cX7_stow 1 = .ok (.iconst 0, 1) := by decide +kernel
theorem dX7_stow_2 : decode cX7_stow 2 = .ok (.putfield 60, 3) := by decide +kernel
theorem dX7_stow_5 : decode cX7_stow 5 = .ok (.aload_n 0, 1) := by decide +kernel
theorem dX7_stow_6 : decode cX7_stow 6 = .ok (.iload_n 2, 1) := by decide +kernel
theorem dX7_stow_7 : decode cX7_stow 7 = .ok (.invokevirtual 163, 3) := by decide +kernel
theorem dX7_stow_10 : decode cX7_stow 10 = .ok (.ifCond .ne 5, 3) := by decide +kernel
theorem dX7_stow_13 : decode cX7_stow 13 = .ok (.iconst (-1), 1) := by decide +kernel
theorem dX7_stow_14 : decode cX7_stow 14 = .ok (.ireturn, 1) := by decide +kernel
theorem dX7_stow_15 : decode cX7_stow 15 = .ok (.aload_n 0, 1) := by decide +kernel
theorem dX7_stow_16 : decode cX7_stow 16 = .ok (.getfield 24, 3) := by decide +kernel
theorem dX7_stow_19 : decode cX7_stow 19 = .ok (.bipush (-9), 2) := by decide +kernel
theorem dX7_stow_21 : decode cX7_stow 21 = .ok (.if_icmp .ne 9, 3) := by decide +kernel
theorem dX7_stow_24 : decode cX7_stow 24 = .ok (.aload_n 0, 1) := by decide +kernel
theorem dX7_stow_25 : decode cX7_stow 25 = .ok (.iconst 1, 1) := by decide +kernel
theorem dX7_stow_26 : decode cX7_stow 26 = .ok (.invokevirtual 86, 3) := by decide +kernel
theorem dX7_stow_29 : decode cX7_stow 29 = .ok (.ireturn, 1) := by decide +kernel
theorem dX7_stow_30 : decode cX7_stow 30 = .ok (.iload_n 1, 1) := by decide +kernel
theorem dX7_stow_31 : decode cX7_stow 31 = .ok (.ifCond .lt 11, 3) := by decide +kernel
theorem dX7_stow_34 : decode cX7_stow 34 = .ok (.iload_n 1, 1) := by decide +kernel
theorem dX7_stow_35 : decode cX7_stow 35 = .ok (.aload_n 0, 1) := by decide +kernel
theorem dX7_stow_36 : decode cX7_stow 36 = .ok (.getfield 114, 3) := by decide +kernel
theorem dX7_stow_39 : decode cX7_stow 39 = .ok (.if_icmp .lt 9, 3) := by decide +kernel
theorem dX7_stow_42 : decode cX7_stow 42 = .ok (.aload_n 0, 1) := by decide +kernel
theorem dX7_stow_43 : decode cX7_stow 43 = .ok (.iconst 3, 1) := by decide +kernel
theorem dX7_stow_44 : decode cX7_stow 44 = .ok (.invokevirtual 86, 3) := by decide +kernel
theorem dX7_stow_47 : decode cX7_stow 47 = .ok (.ireturn, 1) := by decide +kernel
theorem dX7_stow_48 : decode cX7_stow 48 = .ok (.aload_n 0, 1) := by decide +kernel
theorem dX7_stow_49 : decode cX7_stow 49 = .ok (.getfield 30, 3) := by decide +kernel
theorem dX7_stow_52 : decode cX7_stow 52 = .ok (.iload_n 2, 1) := by decide +kernel
theorem dX7_stow_53 : decode cX7_stow 53 = .ok (.iaload, 1) := by decide +kernel
theorem dX7_stow_54 : decode cX7_stow 54 = .ok (.aload_n 0, 1) := by decide +kernel
theorem dX7_stow_55 : decode cX7_stow 55 = .ok (.getfield 24, 3) := by decide +kernel
theorem dX7_stow_58 : decode cX7_stow 58 = .ok (.if_icmp .ge 9, 3) := by decide +kernel
theorem dX7_stow_61 : decode cX7_stow 61 = .ok (.aload_n 0, 1) := by decide +kernel
theorem dX7_stow_62 : decode cX7_stow 62 = .ok (.iconst 5, 1) := by decide +kernel
theorem dX7_stow_63 : decode cX7_stow 63 = .ok (.invokevirtual 86, 3) := by decide +kernel
theorem dX7_stow_66 : decode cX7_stow 66 = .ok (.ireturn, 1) := by decide +kernel
theorem dX7_stow_67 : decode cX7_stow 67 = .ok (.aload_n 0, 1) := by decide +kernel
theorem dX7_stow_68 : decode cX7_stow 68 = .ok (.getfield 27, 3) := by decide +kernel
theorem dX7_stow_71 : decode cX7_stow 71 = .ok (.iload_n 1, 1) := by decide +kernel
theorem dX7_stow_72 : decode cX7_stow 72 = .ok (.iload_n 2, 1) := by decide +kernel
theorem dX7_stow_73 : decode cX7_stow 73 = .ok (.iastore, 1) := by decide +kernel
theorem dX7_stow_74 : decode cX7_stow 74 = .ok (.iconst 1, 1) := by decide +kernel
theorem dX7_stow_75 : decode cX7_stow 75 = .ok (.ireturn, 1) := by decide +kernel
theorem dX7_stowed_0 : decode cX7_stowed 0 = .ok (.aload_n 0, 1) := by decide +kernel
theorem dX7_stowed_1 : decode cX7_stowed 1 = .ok (.iconst 0, 1) := by decide +kernel
theorem dX7_stowed_2 : decode cX7_stowed 2 = .ok (.putfield 60, 3) := by decide +kernel
theorem dX7_stowed_5 : decode cX7_stowed 5 = .ok (.aload_n 0, 1) := by decide +kernel
theorem dX7_stowed_6 : decode cX7_stowed 6 = .ok (.getfield 24, 3) := by decide +kernel
theorem dX7_stowed_9 : decode cX7_stowed 9 = .ok (.bipush (-9), 2) := by decide +kernel
theorem dX7_stowed_11 : decode cX7_stowed 11 = .ok (.if_icmp .ne 9, 3) := by decide +kernel
theorem dX7_stowed_14 : decode cX7_stowed 14 = .ok (.aload_n 0, 1) := by decide +kernel
theorem dX7_stowed_15 : decode cX7_stowed 15 = .ok (.iconst 1, 1) := by decide +kernel
theorem dX7_stowed_16 : decode cX7_stowed 16 = .ok (.invokevirtual 86, 3) := by decide +kernel
theorem dX7_stowed_19 : decode cX7_stowed 19 = .ok (.ireturn, 1) := by decide +kernel
theorem dX7_stowed_20 : decode cX7_stowed 20 = .ok (.iload_n 1, 1) := by decide +kernel
theorem dX7_stowed_21 : decode cX7_stowed 21 = .ok (.ifCond .lt 11, 3) := by decide +kernel
theorem dX7_stowed_24 : decode cX7_stowed 24 = .ok (.iload_n 1, 1) := by decide +kernel
theorem dX7_stowed_25 : decode cX7_stowed 25 = .ok (.aload_n 0, 1) := by decide +kernel
theorem dX7_stowed_26 : decode cX7_stowed 26 = .ok (.getfield 114, 3) := by decide +kernel
theorem dX7_stowed_29 : decode cX7_stowed 29 = .ok (.if_icmp .lt 11, 3) := by decide +kernel
theorem dX7_stowed_32 : decode cX7_stowed 32 = .ok (.aload_n 0, 1) := by decide +kernel
theorem dX7_stowed_33 : decode cX7_stowed 33 = .ok (.iconst 3, 1) := by decide +kernel
theorem dX7_stowed_34 : decode cX7_stowed 34 = .ok (.invokevirtual 86, 3) := by decide +kernel
theorem dX7_stowed_37 : decode cX7_stowed 37 = .ok (.goto 9, 3) := by decide +kernel
theorem dX7_stowed_40 : decode cX7_stowed 40 = .ok (.aload_n 0, 1) := by decide +kernel
theorem dX7_stowed_41 : decode cX7_stowed 41 = .ok (.getfield 27, 3) := by decide +kernel
theorem dX7_stowed_44 : decode cX7_stowed 44 = .ok (.iload_n 1, 1) := by decide +kernel
theorem dX7_stowed_45 : decode cX7_stowed 45 = .ok (.iaload, 1) := by decide +kernel
theorem dX7_stowed_46 : decode cX7_stowed 46 = .ok (.ireturn, 1) := by decide +kernel
theorem dX7_reading_0 : decode cX7_reading 0 = .ok (.aload_n 0, 1) := by decide +kernel
theorem dX7_reading_1 : decode cX7_reading 1 = .ok (.iload_n 1, 1) := by decide +kernel
theorem dX7_reading_2 : decode cX7_reading 2 = .ok (.invokevirtual 163, 3) := by decide +kernel
theorem dX7_reading_5 : decode cX7_reading 5 = .ok (.ifCond .ne 5, 3) := by decide +kernel
theorem dX7_reading_8 : decode cX7_reading 8 = .ok (.iconst (-1), 1) := by decide +kernel
theorem dX7_reading_9 : decode cX7_reading 9 = .ok (.ireturn, 1) := by decide +kernel
theorem dX7_reading_10 : decode cX7_reading 10 = .ok (.iload_n 2, 1) := by decide +kernel
theorem dX7_reading_11 : decode cX7_reading 11 = .ok (.iconst 0, 1) := by decide +kernel
theorem dX7_reading_12 : decode cX7_reading 12 = .ok (.ldc 19, 2) := by decide +kernel
theorem dX7_reading_14 : decode cX7_reading 14 = .ok (.invokestatic 65, 3) := by decide +kernel
theorem dX7_reading_17 : decode cX7_reading 17 = .ok (.ifCond .ne 6, 3) := by decide +kernel
theorem dX7_reading_20 : decode cX7_reading 20 = .ok (.bipush (-2), 2) := by decide +kernel
theorem dX7_reading_22 : decode cX7_reading 22 = .ok (.ireturn, 1) := by decide +kernel
theorem dX7_reading_23 : decode cX7_reading 23 = .ok (.aload_n 0, 1) := by decide +kernel
theorem dX7_reading_24 : decode cX7_reading 24 = .ok (.getfield 117, 3) := by decide +kernel
theorem dX7_reading_27 : decode cX7_reading 27 = .ok (.bipush 8, 2) := by decide +kernel
theorem dX7_reading_29 : decode cX7_reading 29 = .ok (.if_icmp .ne 6, 3) := by decide +kernel
theorem dX7_reading_32 : decode cX7_reading 32 = .ok (.bipush (-4), 2) := by decide +kernel
theorem dX7_reading_34 : decode cX7_reading 34 = .ok (.ireturn, 1) := by decide +kernel
theorem dX7_reading_35 : decode cX7_reading 35 = .ok (.aload_n 0, 1) := by decide +kernel
theorem dX7_reading_36 : decode cX7_reading 36 = .ok (.getfield 54, 3) := by decide +kernel
theorem dX7_reading_39 : decode cX7_reading 39 = .ok (.aload_n 0, 1) := by decide +kernel
theorem dX7_reading_40 : decode cX7_reading 40 = .ok (.getfield 117, 3) := by decide +kernel
theorem dX7_reading_43 : decode cX7_reading 43 = .ok (.iload_n 1, 1) := by decide +kernel
theorem dX7_reading_44 : decode cX7_reading 44 = .ok (.iastore, 1) := by decide +kernel
theorem dX7_reading_45 : decode cX7_reading 45 = .ok (.aload_n 0, 1) := by decide +kernel
theorem dX7_reading_46 : decode cX7_reading 46 = .ok (.getfield 57, 3) := by decide +kernel
