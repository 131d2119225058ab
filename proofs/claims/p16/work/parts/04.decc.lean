theorem dX12_init_0 : decode cX12_init 0 = .ok (.aload_n 0, 1) := by decide +kernel
theorem dX12_init_1 : decode cX12_init 1 = .ok (.invokespecial 3, 3) := by decide +kernel
theorem dX12_init_4 : decode cX12_init 4 = .ok (.aload_n 0, 1) := by decide +kernel
theorem dX12_init_5 : decode cX12_init 5 = .ok (.iconst 2, 1) := by decide +kernel
theorem dX12_init_6 : decode cX12_init 6 = .ok (.putfield 9, 3) := by decide +kernel
theorem dX12_init_9 : decode cX12_init 9 = .ok (.aload_n 0, 1) := by decide +kernel
theorem dX12_init_10 : decode cX12_init 10 = .ok (.bipush 32, 2) := by decide +kernel
theorem dX12_init_12 : decode cX12_init 12 = .ok (.newarray .int, 2) := by decide +kernel
theorem dX12_init_14 : decode cX12_init 14 = .ok (.putfield 13, 3) := by decide +kernel
theorem dX12_init_17 : decode cX12_init 17 = .ok (.aload_n 0, 1) := by decide +kernel
theorem dX12_init_18 : decode cX12_init 18 = .ok (.bipush 8, 2) := by decide +kernel
theorem dX12_init_20 : decode cX12_init 20 = .ok (.newarray .boolean, 2) := by decide +kernel
theorem dX12_init_22 : decode cX12_init 22 = .ok (.putfield 17, 3) := by decide +kernel
theorem dX12_init_25 : decode cX12_init 25 = .ok (.aload_n 0, 1) := by decide +kernel
theorem dX12_init_26 : decode cX12_init 26 = .ok (.bipush 8, 2) := by decide +kernel
theorem dX12_init_28 : decode cX12_init 28 = .ok (.newarray .int, 2) := by decide +kernel
theorem dX12_init_30 : decode cX12_init 30 = .ok (.putfield 21, 3) := by decide +kernel
theorem dX12_init_33 : decode cX12_init 33 = .ok (.aload_n 0, 1) := by decide +kernel
theorem dX12_init_34 : decode cX12_init 34 = .ok (.bipush 8, 2) := by decide +kernel
theorem dX12_init_36 : decode cX12_init 36 = .ok (.newarray .int, 2) := by decide +kernel
theorem dX12_init_38 : decode cX12_init 38 = .ok (.putfield 24, 3) := by decide +kernel
theorem dX12_init_41 : decode cX12_init 41 = .ok (.aload_n 0, 1) := by decide +kernel
theorem dX12_init_42 : decode cX12_init 42 = .ok (.bipush 8, 2) := by decide +kernel
theorem dX12_init_44 : decode cX12_init 44 = .ok (.newarray .int, 2) := by decide +kernel
theorem dX12_init_46 : decode cX12_init 46 = .ok (.putfield 27, 3) := by decide +kernel
theorem dX12_init_49 : decode cX12_init 49 = .ok (.aload_n 0, 1) := by decide +kernel
theorem dX12_init_50 : decode cX12_init 50 = .ok (.iconst 5, 1) := by decide +kernel
theorem dX12_init_51 : decode cX12_init 51 = .ok (.newarray .int, 2) := by decide +kernel
theorem dX12_init_53 : decode cX12_init 53 = .ok (.dup, 1) := by decide +kernel
theorem dX12_init_54 : decode cX12_init 54 = .ok (.iconst 0, 1) := by decide +kernel
theorem dX12_init_55 : decode cX12_init 55 = .ok (.iconst 0, 1) := by decide +kernel
theorem dX12_init_56 : decode cX12_init 56 = .ok (.iastore, 1) := by decide +kernel
theorem dX12_init_57 : decode cX12_init 57 = .ok (.dup, 1) := by decide +kernel
theorem dX12_init_58 : decode cX12_init 58 = .ok (.iconst 1, 1) := by decide +kernel
theorem dX12_init_59 : decode cX12_init 59 = .ok (.iconst 1, 1) := by decide +kernel
theorem dX12_init_60 : decode cX12_init 60 = .ok (.iastore, 1) := by decide +kernel
theorem dX12_init_61 : decode cX12_init 61 = .ok (.dup, 1) := by decide +kernel
theorem dX12_init_62 : decode cX12_init 62 = .ok (.iconst 2, 1) := by decide +kernel
theorem dX12_init_63 : decode cX12_init 63 = .ok (.iconst 1, 1) := by decide +kernel
theorem dX12_init_64 : decode cX12_init 64 = .ok (.iastore, 1) := by decide +kernel
theorem dX12_init_65 : decode cX12_init 65 = .ok (.dup, 1) := by decide +kernel
theorem dX12_init_66 : decode cX12_init 66 = .ok (.iconst 3, 1) := by decide +kernel
theorem dX12_init_67 : decode cX12_init 67 = .ok (.iconst 0, 1) := by decide +kernel
theorem dX12_init_68 : decode cX12_init 68 = .ok (.iastore, 1) := by decide +kernel
theorem dX12_init_69 : decode cX12_init 69 = .ok (.dup, 1) := by decide +kernel
theorem dX12_init_70 : decode cX12_init 70 = .ok (.iconst 4, 1) := by decide +kernel
theorem dX12_init_71 : decode cX12_init 71 = .ok (.iconst 0, 1) := by decide +kernel
theorem dX12_init_72 : decode cX12_init 72 = .ok (.iastore, 1) := by decide +kernel
theorem dX12_init_73 : decode cX12_init 73 = .ok (.putfield 30, 3) := by decide +kernel
theorem dX12_init_76 : decode cX12_init 76 = .ok (.aload_n 0, 1) := by decide +kernel
theorem dX12_init_77 : decode cX12_init 77 = .ok (.iconst 1, 1) := by decide +kernel
theorem dX12_init_78 : decode cX12_init 78 = .ok (.putfield 33, 3) := by decide +kernel
theorem dX12_init_81 : decode cX12_init 81 = .ok (.aload_n 0, 1) := by decide +kernel
theorem dX12_init_82 : decode cX12_init 82 = .ok (.sipush 160, 3) := by decide +kernel
theorem dX12_init_85 : decode cX12_init 85 = .ok (.newarray .int, 2) := by decide +kernel
theorem dX12_init_87 : decode cX12_init 87 = .ok (.putfield 36, 3) := by decide +kernel
theorem dX12_init_90 : decode cX12_init 90 = .ok (.aload_n 0, 1) := by decide +kernel
theorem dX12_init_91 : decode cX12_init 91 = .ok (.bipush 80, 2) := by decide +kernel
theorem dX12_init_93 : decode cX12_init 93 = .ok (.newarray .byte, 2) := by decide +kernel
theorem dX12_init_95 : decode cX12_init 95 = .ok (.putfield 39, 3) := by decide +kernel
theorem dX12_init_98 : decode cX12_init 98 = .ok (.aload_n 0, 1) := by decide +kernel
theorem dX12_init_99 : decode cX12_init 99 = .ok (.bipush 16, 2) := by decide +kernel
theorem dX12_init_101 : decode cX12_init 101 = .ok (.newarray .long, 2) := by decide +kernel
theorem dX12_init_103 : decode cX12_init 103 = .ok (.putfield 43, 3) := by decide +kernel
theorem dX12_init_106 : decode cX12_init 106 = .ok (.aload_n 0, 1) := by decide +kernel
theorem dX12_init_107 : decode cX12_init 107 = .ok (.bipush 32, 2) := by decide +kernel
theorem dX12_init_109 : decode cX12_init 109 = .ok (.newarray .int, 2) := by decide +kernel
theorem dX12_init_111 : decode cX12_init 111 = .ok (.putfield 47, 3) := by decide +kernel
theorem dX12_init_114 : decode cX12_init 114 = .ok (.aload_n 0, 1) := by decide +kernel
theorem dX12_init_115 : decode cX12_init 115 = .ok (.bipush 8, 2) := by decide +kernel
theorem dX12_init_117 : decode cX12_init 117 = .ok (.newarray .boolean, 2) := by decide +kernel
theorem dX12_init_119 : decode cX12_init 119 = .ok (.putfield 50, 3) := by decide +kernel
theorem dX12_init_122 : decode cX12_init 122 = .ok (.aload_n 0, 1) := by decide +kernel
theorem dX12_init_123 : decode cX12_init 123 = .ok (.sipush 160, 3) := by decide +kernel
theorem dX12_init_126 : decode cX12_init 126 = .ok (.newarray .int, 2) := by decide +kernel
theorem dX12_init_128 : decode cX12_init 128 = .ok (.putfield 53, 3) := by decide +kernel
theorem dX12_init_131 : decode cX12_init 131 = .ok (.aload_n 0, 1) := by decide +kernel
theorem dX12_init_132 : decode cX12_init 132 = .ok (.bipush 40, 2) := by decide +kernel
theorem dX12_init_134 : decode cX12_init 134 = .ok (.newarray .byte, 2) := by decide +kernel
theorem dX12_init_136 : decode cX12_init 136 = .ok (.putfield 56, 3) := by decide +kernel
theorem dX12_init_139 : decode cX12_init 139 = .ok (.aload_n 0, 1) := by decide +kernel
theorem dX12_init_140 : decode cX12_init 140 = .ok (.iconst (-1), 1) := by decide +kernel
theorem dX12_init_141 : decode cX12_init 141 = .ok (.putfield 59, 3) := by decide +kernel
theorem dX12_init_144 : decode cX12_init 144 = .ok (.aload_n 0, 1) := by decide +kernel
theorem dX12_init_145 : decode cX12_init 145 = .ok (.sipush 1140, 3) := by decide +kernel
theorem dX12_init_148 : decode cX12_init 148 = .ok (.newarray .int, 2) := by decide +kernel
theorem dX12_init_150 : decode cX12_init 150 = .ok (.putfield 62, 3) := by decide +kernel
theorem dX12_init_153 : decode cX12_init 153 = .ok (.aload_n 0, 1) := by decide +kernel
theorem dX12_init_154 : decode cX12_init 154 = .ok (.bipush 57, 2) := by decide +kernel
theorem dX12_init_156 : decode cX12_init 156 = .ok (.newarray .int, 2) := by decide +kernel
theorem dX12_init_158 : decode cX12_init 158 = .ok (.putfield 65, 3) := by decide +kernel
theorem dX12_init_161 : decode cX12_init 161 = .ok (.aload_n 0, 1) := by decide +kernel
theorem dX12_init_162 : decode cX12_init 162 = .ok (.bipush 9, 2) := by decide +kernel
theorem dX12_init_164 : decode cX12_init 164 = .ok (.newarray .int, 2) := by decide +kernel
theorem dX12_init_166 : decode cX12_init 166 = .ok (.putfield 68, 3) := by decide +kernel
theorem dX12_init_169 : decode cX12_init 169 = .ok (.aload_n 0, 1) := by decide +kernel
theorem dX12_init_170 : decode cX12_init 170 = .ok (.bipush 57, 2) := by decide +kernel
theorem dX12_init_172 : decode cX12_init 172 = .ok (.newarray .int, 2) := by decide +kernel
theorem dX12_init_174 : decode cX12_init 174 = .ok (.putfield 71, 3) := by decide +kernel
theorem dX12_init_177 : decode cX12_init 177 = .ok (.aload_n 0, 1) := by decide +kernel
theorem dX12_init_178 : decode cX12_init 178 = .ok (.sipush 3000, 3) := by decide +kernel
theorem dX12_init_181 : decode cX12_init 181 = .ok (.newarray .long, 2) := by decide +kernel
theorem dX12_init_183 : decode cX12_init 183 = .ok (.putfield 74, 3) := by decide +kernel
theorem dX12_init_186 : decode cX12_init 186 = .ok (.aload_n 0, 1) := by decide +kernel
theorem dX12_init_187 : decode cX12_init 187 = .ok (.sipush 3000, 3) := by decide +kernel
theorem dX12_init_190 : decode cX12_init 190 = .ok (.newarray .long, 2) := by decide +kernel
theorem dX12_init_192 : decode cX12_init 192 = .ok (.putfield 77, 3) := by decide +kernel
theorem dX12_init_195 : decode cX12_init 195 = .ok (.aload_n 0, 1) := by decide +kernel
theorem dX12_init_196 : decode cX12_init 196 = .ok (.sipush 3000, 3) := by decide +kernel
theorem dX12_init_199 : decode cX12_init 199 = .ok (.newarray .int, 2) := by decide +kernel
theorem dX12_init_201 : decode cX12_init 201 = .ok (.putfield 80, 3) := by decide +kernel
theorem dX12_init_204 : decode cX12_init 204 = .ok (.aload_n 0, 1) := by decide +kernel
theorem dX12_init_205 : decode cX12_init 205 = .ok (.sipush 3000, 3) := by decide +kernel
theorem dX12_init_208 : decode cX12_init 208 = .ok (.newarray .int, 2) := by decide +kernel
theorem dX12_init_210 : decode cX12_init 210 = .ok (.putfield 83, 3) := by decide +kernel
theorem dX12_init_213 : decode cX12_init 213 = .ok (.aload_n 0, 1) := by decide +kernel
theorem dX12_init_214 : decode cX12_init 214 = .ok (.sipush 3000, 3) := by decide +kernel
theorem dX12_init_217 : decode cX12_init 217 = .ok (.newarray .int, 2) := by decide +kernel
theorem dX12_init_219 : decode cX12_init 219 = .ok (.putfield 86, 3) := by decide +kernel
theorem dX12_init_222 : decode cX12_init 222 = .ok (.aload_n 0, 1) := by decide +kernel
theorem dX12_init_223 : decode cX12_init 223 = .ok (.sipush 8192, 3) := by decide +kernel
theorem dX12_init_226 : decode cX12_init 226 = .ok (.newarray .int, 2) := by decide +kernel
theorem dX12_init_228 : decode cX12_init 228 = .ok (.putfield 89, 3) := by decide +kernel
theorem dX12_init_231 : decode cX12_init 231 = .ok (.aload_n 0, 1) := by decide +kernel
theorem dX12_init_232 : decode cX12_init 232 = .ok (.sipush 399, 3) := by decide +kernel
theorem dX12_init_235 : decode cX12_init 235 = .ok (.newarray .int, 2) := by decide +kernel
theorem dX12_init_237 : decode cX12_init 237 = .ok (.putfield 92, 3) := by decide +kernel
theorem dX12_init_240 : decode cX12_init 240 = .ok (.aload_n 0, 1) := by decide +kernel
theorem dX12_init_241 : decode cX12_init 241 = .ok (.sipush 3000, 3) := by decide +kernel
theorem dX12_init_244 : decode cX12_init 244 = .ok (.newarray .int, 2) := by decide +kernel
theorem dX12_init_246 : decode cX12_init 246 = .ok (.putfield 95, 3) := by decide +kernel
theorem dX12_init_249 : decode cX12_init 249 = .ok (.aload_n 0, 1) := by decide +kernel
theorem dX12_init_250 : decode cX12_init 250 = .ok (.bipush 36, 2) := by decide +kernel
theorem dX12_init_252 : decode cX12_init 252 = .ok (.newarray .int, 2) := by decide +kernel
theorem dX12_init_254 : decode cX12_init 254 = .ok (.putfield 98, 3) := by decide +kernel
theorem dX12_init_257 : decode cX12_init 257 = .ok (.aload_n 0, 1) := by decide +kernel
theorem dX12_init_258 : decode cX12_init 258 = .ok (.sipush 142, 3) := by decide +kernel
theorem dX12_init_261 : decode cX12_init 261 = .ok (.newarray .int, 2) := by decide +kernel
theorem dX12_init_263 : decode cX12_init 263 = .ok (.putfield 101, 3) := by decide +kernel
theorem dX12_init_266 : decode cX12_init 266 = .ok (.aload_n 0, 1) := by decide +kernel
theorem dX12_init_267 : decode cX12_init 267 = .ok (.iconst 2, 1) := by decide +kernel
theorem dX12_init_268 : decode cX12_init 268 = .ok (.newarray .boolean, 2) := by decide +kernel
theorem dX12_init_270 : decode cX12_init 270 = .ok (.putfield 104, 3) := by decide +kernel
theorem dX12_init_273 : decode cX12_init 273 = .ok (.aload_n 0, 1) := by decide +kernel
theorem dX12_init_274 : decode cX12_init 274 = .ok (.iconst 2, 1) := by decide +kernel
theorem dX12_init_275 : decode cX12_init 275 = .ok (.newarray .int, 2) := by decide +kernel
theorem dX12_init_277 : decode cX12_init 277 = .ok (.putfield 107, 3) := by decide +kernel
theorem dX12_init_280 : decode cX12_init 280 = .ok (.return_, 1) := by decide +kernel
theorem dX12_in_0 : decode cX12_in 0 = .ok (.lload_n 0, 1) := by decide +kernel
theorem dX12_in_1 : decode cX12_in 1 = .ok (.lload_n 2, 1) := by decide +kernel
theorem dX12_in_2 : decode cX12_in 2 = .ok (.lcmp, 1) := by decide +kernel
theorem dX12_in_3 : decode cX12_in 3 = .ok (.ifCond .lt 14, 3) := by decide +kernel
theorem dX12_in_6 : decode cX12_in 6 = .ok (.lload_n 0, 1) := by decide +kernel
theorem dX12_in_7 : decode cX12_in 7 = .ok (.lload 4, 2) := by decide +kernel
theorem dX12_in_9 : decode cX12_in 9 = .ok (.lcmp, 1) := by decide +kernel
theorem dX12_in_10 : decode cX12_in 10 = .ok (.ifCond .gt 7, 3) := by decide +kernel
theorem dX12_in_13 : decode cX12_in 13 = .ok (.iconst 1, 1) := by decide +kernel
theorem dX12_in_14 : decode cX12_in 14 = .ok (.goto 4, 3) := by decide +kernel
theorem dX12_in_17 : decode cX12_in 17 = .ok (.iconst 0, 1) := by decide +kernel
theorem dX12_in_18 : decode cX12_in 18 = .ok (.ireturn, 1) := by decide +kernel
theorem dX12_has_0 : decode cX12_has 0 = .ok (.iload_n 0, 1) := by decide +kernel
theorem dX12_has_1 : decode cX12_has 1 = .ok (.iload_n 1, 1) := by decide +kernel
theorem dX12_has_2 : decode cX12_has 2 = .ok (.ishr, 1) := by decide +kernel
theorem dX12_has_3 : decode cX12_has 3 = .ok (.iconst 1, 1) := by decide +kernel
theorem dX12_has_4 : decode cX12_has 4 = .ok (.iand, 1) := by decide +kernel
theorem dX12_has_5 : decode cX12_has 5 = .ok (.iconst 1, 1) := by decide +kernel
theorem dX12_has_6 : decode cX12_has 6 = .ok (.if_icmp .ne 7, 3) := by decide +kernel
theorem dX12_has_9 : decode cX12_has 9 = .ok (.iconst 1, 1) := by decide +kernel
theorem dX12_has_10 : decode cX12_has 10 = .ok (.goto 4, 3) := by decide +kernel
theorem dX12_has_13 : decode cX12_has 13 = .ok (.iconst 0, 1) := by decide +kernel
theorem dX12_has_14 : decode cX12_has 14 = .ok (.ireturn, 1) := by decide +kernel
theorem dX12_lost_0 : decode cX12_lost 0 = .ok (.aload_n 0, 1) := by decide +kernel
theorem dX12_lost_1 : decode cX12_lost 1 = .ok (.iconst 1, 1) := by decide +kernel
theorem dX12_lost_2 : decode cX12_lost 2 = .ok (.putfield 110, 3) := by decide +kernel
theorem dX12_lost_5 : decode cX12_lost 5 = .ok (.iconst 0, 1) := by decide +kernel
theorem dX12_lost_6 : decode cX12_lost 6 = .ok (.ireturn, 1) := by decide +kernel
theorem dX12_tell_0 : decode cX12_tell 0 = .ok (.aload_n 0, 1) := by decide +kernel
theorem dX12_tell_1 : decode cX12_tell 1 = .ok (.getfield 43, 3) := by decide +kernel
theorem dX12_tell_4 : decode cX12_tell 4 = .ok (.aload_n 0, 1) := by decide +kernel
theorem dX12_tell_5 : decode cX12_tell 5 = .ok (.getfield 113, 3) := by decide +kernel
theorem dX12_tell_8 : decode cX12_tell 8 = .ok (.lload_n 1, 1) := by decide +kernel
theorem dX12_tell_9 : decode cX12_tell 9 = .ok (.lastore, 1) := by decide +kernel
theorem dX12_tell_10 : decode cX12_tell 10 = .ok (.aload_n 0, 1) := by decide +kernel
theorem dX12_tell_11 : decode cX12_tell 11 = .ok (.dup, 1) := by decide +kernel
theorem dX12_tell_12 : decode cX12_tell 12 = .ok (.getfield 113, 3) := by decide +kernel
theorem dX12_tell_15 : decode cX12_tell 15 = .ok (.iconst 1, 1) := by decide +kernel
theorem dX12_tell_16 : decode cX12_tell 16 = .ok (.iadd, 1) := by decide +kernel
theorem dX12_tell_17 : decode cX12_tell 17 = .ok (.putfield 113, 3) := by decide +kernel
theorem dX12_tell_20 : decode cX12_tell 20 = .ok (.return_, 1) := by decide +kernel
theorem dX12_isSide_0 : decode cX12_isSide 0 = .ok (.iload_n 1, 1) := by decide +kernel
theorem dX12_isSide_1 : decode cX12_isSide 1 = .ok (.i2l, 1) := by decide +kernel
theorem dX12_isSide_2 : decode cX12_isSide 2 = .ok (.lconst 0, 1) := by decide +kernel
theorem dX12_isSide_3 : decode cX12_isSide 3 = .ok (.aload_n 0, 1) := by decide +kernel
theorem dX12_isSide_4 : decode cX12_isSide 4 = .ok (.getfield 116, 3) := by decide +kernel
theorem dX12_isSide_7 : decode cX12_isSide 7 = .ok (.iconst 1, 1) := by decide +kernel
theorem dX12_isSide_8 : decode cX12_isSide 8 = .ok (.isub, 1) := by decide +kernel
theorem dX12_isSide_9 : decode cX12_isSide 9 = .ok (.i2l, 1) := by decide +kernel
theorem dX12_isSide_10 : decode cX12_isSide 10 = .ok (.invokestatic 119, 3) := by decide +kernel
theorem dX12_isSide_13 : decode cX12_isSide 13 = .ok (.ireturn, 1) := by decide +kernel
theorem dX12_isArt_0 : decode cX12_isArt 0 = .ok (.iload_n 1, 1) := by decide +kernel
theorem dX12_isArt_1 : decode cX12_isArt 1 = .ok (.i2l, 1) := by decide +kernel
theorem dX12_isArt_2 : decode cX12_isArt 2 = .ok (.lconst 0, 1) := by decide +kernel
theorem dX12_isArt_3 : decode cX12_isArt 3 = .ok (.aload_n 0, 1) := by decide +kernel
theorem dX12_isArt_4 : decode cX12_isArt 4 = .ok (.getfield 9, 3) := by decide +kernel
theorem dX12_isArt_7 : decode cX12_isArt 7 = .ok (.iconst 1, 1) := by decide +kernel
theorem dX12_isArt_8 : decode cX12_isArt 8 = .ok (.isub, 1) := by decide +kernel
theorem dX12_isArt_9 : decode cX12_isArt 9 = .ok (.i2l, 1) := by decide +kernel
theorem dX12_isArt_10 : decode cX12_isArt 10 = .ok (.invokestatic 119, 3) := by decide +kernel
theorem dX12_isArt_13 : decode cX12_isArt 13 = .ok (.ireturn, 1) := by decide +kernel
theorem dX12_areTwo_0 : decode cX12_areTwo 0 = .ok (.aload_n 0, 1) := by decide +kernel
theorem dX12_areTwo_1 : decode cX12_areTwo 1 = .ok (.iload_n 1, 1) := by decide +kernel
theorem dX12_areTwo_2 : decode cX12_areTwo 2 = .ok (.invokevirtual 123, 3) := by decide +kernel
theorem dX12_areTwo_5 : decode cX12_areTwo 5 = .ok (.ifCond .eq 20, 3) := by decide +kernel
theorem dX12_areTwo_8 : decode cX12_areTwo 8 = .ok (.aload_n 0, 1) := by decide +kernel
theorem dX12_areTwo_9 : decode cX12_areTwo 9 = .ok (.iload_n 2, 1) := by decide +kernel
theorem dX12_areTwo_10 : decode cX12_areTwo 10 = .ok (.invokevirtual 123, 3) := by decide +kernel
theorem dX12_areTwo_13 : decode cX12_areTwo 13 = .ok (.ifCond .eq 12, 3) := by decide +kernel
theorem dX12_areTwo_16 : decode cX12_areTwo 16 = .ok (.iload_n 1, 1) := by decide +kernel
theorem dX12_areTwo_17 : decode cX12_areTwo 17 = .ok (.iload_n 2, 1) := by decide +kernel
theorem dX12_areTwo_18 : decode cX12_areTwo 18 = .ok (.if_icmp .eq 7, 3) := by decide +kernel
theorem dX12_areTwo_21 : decode cX12_areTwo 21 = .ok (.iconst 1, 1) := by decide +kernel
theorem dX12_areTwo_22 : decode cX12_areTwo 22 = .ok (.goto 4, 3) := by decide +kernel
theorem dX12_areTwo_25 : decode cX12_areTwo 25 = .ok (.iconst 0, 1) := by decide +kernel
theorem dX12_areTwo_26 : decode cX12_areTwo 26 = .ok (.ireturn, 1) := by decide +kernel
theorem dX12_common_0 : decode cX12_common 0 = .ok (.lload_n 2, 1) := by decide +kernel
theorem dX12_common_1 : decode cX12_common 1 = .ok (.lconst 0, 1) := by decide +kernel
theorem dX12_common_2 : decode cX12_common 2 = .ok (.lcmp, 1) := by decide +kernel
theorem dX12_common_3 : decode cX12_common 3 = .ok (.ifCond .ne 7, 3) := by decide +kernel
theorem dX12_common_6 : decode cX12_common 6 = .ok (.lload_n 0, 1) := by decide +kernel
theorem dX12_common_7 : decode cX12_common 7 = .ok (.goto 10, 3) := by decide +kernel
theorem dX12_common_10 : decode cX12_common 10 = .ok (.lload_n 2, 1) := by decide +kernel
theorem dX12_common_11 : decode cX12_common 11 = .ok (.lload_n 0, 1) := by decide +kernel
theorem dX12_common_12 : decode cX12_common 12 = .ok (.lload_n 2, 1) := by decide +kernel
theorem dX12_common_13 : decode cX12_common 13 = .ok (.lrem, 1) := by decide +kernel
theorem dX12_common_14 : decode cX12_common 14 = .ok (.invokestatic 127, 3) := by decide +kernel
theorem dX12_common_17 : decode cX12_common 17 = .ok (.lreturn, 1) := by decide +kernel
theorem dX12_tellPart_0 : decode cX12_tellPart 0 = .ok (.lload_n 1, 1) := by decide +kernel
theorem dX12_tellPart_1 : decode cX12_tellPart 1 = .ok (.lload_n 3, 1) := by decide +kernel
theorem dX12_tellPart_2 : decode cX12_tellPart 2 = .ok (.invokestatic 127, 3) := by decide +kernel
theorem dX12_tellPart_5 : decode cX12_tellPart 5 = .ok (.lstore 5, 2) := by decide +kernel
theorem dX12_tellPart_7 : decode cX12_tellPart 7 = .ok (.aload_n 0, 1) := by decide +kernel
theorem dX12_tellPart_8 : decode cX12_tellPart 8 = .ok (.lload_n 1, 1) := by decide +kernel
theorem dX12_tellPart_9 : decode cX12_tellPart 9 = .ok (.lload 5, 2) := by decide +kernel
theorem dX12_tellPart_11 : decode cX12_tellPart 11 = .ok (.ldiv, 1) := by decide +kernel
theorem dX12_tellPart_12 : decode cX12_tellPart 12 = .ok (.invokevirtual 131, 3) := by decide +kernel
theorem dX12_tellPart_15 : decode cX12_tellPart 15 = .ok (.aload_n 0, 1) := by decide +kernel
theorem dX12_tellPart_16 : decode cX12_tellPart 16 = .ok (.lload_n 3, 1) := by decide +kernel
theorem dX12_tellPart_17 : decode cX12_tellPart 17 = .ok (.lload 5, 2) := by decide +kernel
theorem dX12_tellPart_19 : decode cX12_tellPart 19 = .ok (.ldiv, 1) := by decide +kernel
theorem dX12_tellPart_20 : decode cX12_tellPart 20 = .ok (.invokevirtual 131, 3) := by decide +kernel
theorem dX12_tellPart_23 : decode cX12_tellPart 23 = .ok (.return_, 1) := by decide +kernel
theorem dX12_sign_0 : decode cX12_sign 0 = .ok (.aload_n 0, 1) := by decide +kernel
theorem dX12_sign_1 : decode cX12_sign 1 = .ok (.iconst 0, 1) := by decide +kernel
theorem dX12_sign_2 : decode cX12_sign 2 = .ok (.putfield 110, 3) := by decide +kernel
theorem dX12_sign_5 : decode cX12_sign 5 = .ok (.aload_n 0, 1) := by decide +kernel
theorem dX12_sign_6 : decode cX12_sign 6 = .ok (.getfield 135, 3) := by decide +kernel
theorem dX12_sign_9 : decode cX12_sign 9 = .ok (.iconst 4, 1) := by decide +kernel
theorem dX12_sign_10 : decode cX12_sign 10 = .ok (.iadd, 1) := by decide +kernel
theorem dX12_sign_11 : decode cX12_sign 11 = .ok (.bipush 80, 2) := by decide +kernel
theorem dX12_sign_13 : decode cX12_sign 13 = .ok (.if_icmp .le 5, 3) := by decide +kernel
theorem dX12_sign_16 : decode cX12_sign 16 = .ok (.iconst (-1), 1) := by decide +kernel
theorem dX12_sign_17 : decode cX12_sign 17 = .ok (.ireturn, 1) := by decide +kernel
theorem dX12_sign_18 : decode cX12_sign 18 = .ok (.iconst 3, 1) := by decide +kernel
theorem dX12_sign_19 : decode cX12_sign 19 = .ok (.istore_n 2, 1) := by decide +kernel
theorem dX12_sign_20 : decode cX12_sign 20 = .ok (.iload_n 2, 1) := by decide +kernel
theorem dX12_sign_21 : decode cX12_sign 21 = .ok (.ifCond .lt 32, 3) := by decide +kernel
theorem dX12_sign_24 : decode cX12_sign 24 = .ok (.aload_n 0, 1) := by decide +kernel
theorem dX12_sign_25 : decode cX12_sign 25 = .ok (.getfield 39, 3) := by decide +kernel
theorem dX12_sign_28 : decode cX12_sign 28 = .ok (.aload_n 0, 1) := by decide +kernel
theorem dX12_sign_29 : decode cX12_sign 29 = .ok (.dup, 1) := by decide +kernel
theorem dX12_sign_30 : decode cX12_sign 30 = .ok (.getfield 135, 3) := by decide +kernel
theorem dX12_sign_33 : decode cX12_sign 33 = .ok (.dup_x1, 1) := by decide +kernel
theorem dX12_sign_34 : decode cX12_sign 34 = .ok (.iconst 1, 1) := by decide +kernel
theorem dX12_sign_35 : decode cX12_sign 35 = .ok (.iadd, 1) := by decide +kernel
theorem dX12_sign_36 : decode cX12_sign 36 = .ok (.putfield 135, 3) := by decide +kernel
theorem dX12_sign_39 : decode cX12_sign 39 = .ok (.iload_n 1, 1) := by decide +kernel
theorem dX12_sign_40 : decode cX12_sign 40 = .ok (.bipush 8, 2) := by decide +kernel
theorem dX12_sign_42 : decode cX12_sign 42 = .ok (.iload_n 2, 1) := by decide +kernel
theorem dX12_sign_43 : decode cX12_sign 43 = .ok (.imul, 1) := by decide +kernel
theorem dX12_sign_44 : decode cX12_sign 44 = .ok (.ishr, 1) := by decide +kernel
theorem dX12_sign_45 : decode cX12_sign 45 = .ok (.i2b, 1) := by decide +kernel
theorem dX12_sign_46 : decode cX12_sign 46 = .ok (.bastore, 1) := by decide +kernel
theorem dX12_sign_47 : decode cX12_sign 47 = .ok (.iinc 2 (-1), 3) := by decide +kernel
theorem dX12_sign_50 : decode cX12_sign 50 = .ok (.goto (-30), 3) := by decide +kernel
theorem dX12_sign_53 : decode cX12_sign 53 = .ok (.aload_n 0, 1) := by decide +kernel
theorem dX12_sign_54 : decode cX12_sign 54 = .ok (.getfield 135, 3) := by decide +kernel
theorem dX12_sign_57 : decode cX12_sign 57 = .ok (.ireturn, 1) := by decide +kernel
theorem dX12_end_0 : decode cX12_end 0 = .ok (.aload_n 0, 1) := by decide +kernel
theorem dX12_end_1 : decode cX12_end 1 = .ok (.iconst 0, 1) := by decide +kernel
theorem dX12_end_2 : decode cX12_end 2 = .ok (.putfield 110, 3) := by decide +kernel
theorem dX12_end_5 : decode cX12_end 5 = .ok (.iload_n 1, 1) := by decide +kernel
theorem dX12_end_6 : decode cX12_end 6 = .ok (.i2l, 1) := by decide +kernel
theorem dX12_end_7 : decode cX12_end 7 = .ok (.lconst 0, 1) := by decide +kernel
theorem dX12_end_8 : decode cX12_end 8 = .ok (.aload_n 0, 1) := by decide +kernel
theorem dX12_end_9 : decode cX12_end 9 = .ok (.getfield 135, 3) := by decide +kernel
theorem dX12_end_12 : decode cX12_end 12 = .ok (.i2l, 1) := by decide +kernel
theorem dX12_end_13 : decode cX12_end 13 = .ok (.invokestatic 119, 3) := by decide +kernel
theorem dX12_end_16 : decode cX12_end 16 = .ok (.ifCond .ne 5, 3) := by decide +kernel
theorem dX12_end_19 : decode cX12_end 19 = .ok (.iconst 0, 1) := by decide +kernel
theorem dX12_end_20 : decode cX12_end 20 = .ok (.ireturn, 1) := by decide +kernel
theorem dX12_end_21 : decode cX12_end 21 = .ok (.aload_n 0, 1) := by decide +kernel
theorem dX12_end_22 : decode cX12_end 22 = .ok (.iload_n 1, 1) := by decide +kernel
theorem dX12_end_23 : decode cX12_end 23 = .ok (.putfield 135, 3) := by decide +kernel
theorem dX12_end_26 : decode cX12_end 26 = .ok (.iconst 1, 1) := by decide +kernel
theorem dX12_end_27 : decode cX12_end 27 = .ok (.ireturn, 1) := by decide +kernel
theorem dX12_begin_0 : decode cX12_begin 0 = .ok (.aload_n 0, 1) := by decide +kernel
theorem dX12_begin_1 : decode cX12_begin 1 = .ok (.aload_n 1, 1) := by decide +kernel
theorem dX12_begin_2 : decode cX12_begin 2 = .ok (.putfield 138, 3) := by decide +kernel
theorem dX12_begin_5 : decode cX12_begin 5 = .ok (.aload_n 0, 1) := by decide +kernel
theorem dX12_begin_6 : decode cX12_begin 6 = .ok (.iload_n 2, 1) := by decide +kernel
theorem dX12_begin_7 : decode cX12_begin 7 = .ok (.putfield 141, 3) := by decide +kernel
theorem dX12_begin_10 : decode cX12_begin 10 = .ok (.aload_n 0, 1) := by decide +kernel
theorem dX12_begin_11 : decode cX12_begin 11 = .ok (.iload_n 3, 1) := by decide +kernel
theorem dX12_begin_12 : decode cX12_begin 12 = .ok (.putfield 144, 3) := by decide +kernel
theorem dX12_begin_15 : decode cX12_begin 15 = .ok (.aload_n 0, 1) := by decide +kernel
theorem dX12_begin_16 : decode cX12_begin 16 = .ok (.iconst 0, 1) := by decide +kernel
theorem dX12_begin_17 : decode cX12_begin 17 = .ok (.putfield 147, 3) := by decide +kernel
theorem dX12_begin_20 : decode cX12_begin 20 = .ok (.aload_n 0, 1) := by decide +kernel
theorem dX12_begin_21 : decode cX12_begin 21 = .ok (.iconst (-1), 1) := by decide +kernel
theorem dX12_begin_22 : decode cX12_begin 22 = .ok (.putfield 150, 3) := by decide +kernel
theorem dX12_begin_25 : decode cX12_begin 25 = .ok (.return_, 1) := by decide +kernel
theorem dX12_here_0 : decode cX12_here 0 = .ok (.aload_n 0, 1) := by decide +kernel
theorem dX12_here_1 : decode cX12_here 1 = .ok (.getfield 147, 3) := by decide +kernel
theorem dX12_here_4 : decode cX12_here 4 = .ok (.aload_n 0, 1) := by decide +kernel
theorem dX12_here_5 : decode cX12_here 5 = .ok (.getfield 141, 3) := by decide +kernel
theorem dX12_here_8 : decode cX12_here 8 = .ok (.if_icmp .ge 26, 3) := by decide +kernel
theorem dX12_here_11 : decode cX12_here 11 = .ok (.aload_n 0, 1) := by decide +kernel
theorem dX12_here_12 : decode cX12_here 12 = .ok (.getfield 147, 3) := by decide +kernel
theorem dX12_here_15 : decode cX12_here 15 = .ok (.aload_n 0, 1) := by decide +kernel
theorem dX12_here_16 : decode cX12_here 16 = .ok (.getfield 144, 3) := by decide +kernel
theorem dX12_here_19 : decode cX12_here 19 = .ok (.if_icmp .ge 15, 3) := by decide +kernel
theorem dX12_here_22 : decode cX12_here 22 = .ok (.aload_n 0, 1) := by decide +kernel
theorem dX12_here_23 : decode cX12_here 23 = .ok (.getfield 138, 3) := by decide +kernel
theorem dX12_here_26 : decode cX12_here 26 = .ok (.aload_n 0, 1) := by decide +kernel
theorem dX12_here_27 : decode cX12_here 27 = .ok (.getfield 147, 3) := by decide +kernel
theorem dX12_here_30 : decode cX12_here 30 = .ok (.baload, 1) := by decide +kernel
theorem dX12_here_31 : decode cX12_here 31 = .ok (.goto 4, 3) := by decide +kernel
theorem dX12_here_34 : decode cX12_here 34 = .ok (.iconst (-1), 1) := by decide +kernel
theorem dX12_here_35 : decode cX12_here 35 = .ok (.ireturn, 1) := by decide +kernel
theorem dX12_fine_0 : decode cX12_fine 0 = .ok (.aload_n 0, 1) := by decide +kernel
theorem dX12_fine_1 : decode cX12_fine 1 = .ok (.getfield 150, 3) := by decide +kernel
theorem dX12_fine_4 : decode cX12_fine 4 = .ok (.iconst (-1), 1) := by decide +kernel
theorem dX12_fine_5 : decode cX12_fine 5 = .ok (.if_icmp .ne 7, 3) := by decide +kernel
theorem dX12_fine_8 : decode cX12_fine 8 = .ok (.iconst 1, 1) := by decide +kernel
theorem dX12_fine_9 : decode cX12_fine 9 = .ok (.goto 4, 3) := by decide +kernel
theorem dX12_fine_12 : decode cX12_fine 12 = .ok (.iconst 0, 1) := by decide +kernel
theorem dX12_fine_13 : decode cX12_fine 13 = .ok (.ireturn, 1) := by decide +kernel
theorem dX12_fault_0 : decode cX12_fault 0 = .ok (.aload_n 0, 1) := by decide +kernel
theorem dX12_fault_1 : decode cX12_fault 1 = .ok (.invokevirtual 153, 3) := by decide +kernel
theorem dX12_fault_4 : decode cX12_fault 4 = .ok (.ifCond .eq 8, 3) := by decide +kernel
theorem dX12_fault_7 : decode cX12_fault 7 = .ok (.aload_n 0, 1) := by decide +kernel
theorem dX12_fault_8 : decode cX12_fault 8 = .ok (.iload_n 1, 1) := by decide +kernel
theorem dX12_fault_9 : decode cX12_fault 9 = .ok (.putfield 150, 3) := by decide +kernel
theorem dX12_fault_12 : decode cX12_fault 12 = .ok (.return_, 1) := by decide +kernel
theorem dX12_passes_0 : decode cX12_passes 0 = .ok (.aload_n 0, 1) := by decide +kernel
theorem dX12_passes_1 : decode cX12_passes 1 = .ok (.invokevirtual 153, 3) := by decide +kernel
theorem dX12_passes_4 : decode cX12_passes 4 = .ok (.ifCond .eq 11, 3) := by decide +kernel
theorem dX12_passes_7 : decode cX12_passes 7 = .ok (.aload_n 0, 1) := by decide +kernel
theorem dX12_passes_8 : decode cX12_passes 8 = .ok (.invokevirtual 157, 3) := by decide +kernel
theorem dX12_passes_11 : decode cX12_passes 11 = .ok (.iload_n 1, 1) := by decide +kernel
theorem dX12_passes_12 : decode cX12_passes 12 = .ok (.if_icmp .eq 5, 3) := by decide +kernel
theorem dX12_passes_15 : decode cX12_passes 15 = .ok (.iconst 0, 1) := by decide +kernel
theorem dX12_passes_16 : decode cX12_passes 16 = .ok (.ireturn, 1) := by decide +kernel
theorem dX12_passes_17 : decode cX12_passes 17 = .ok (.aload_n 0, 1) := by decide +kernel
theorem dX12_passes_18 : decode cX12_passes 18 = .ok (.dup, 1) := by decide +kernel
theorem dX12_passes_19 : decode cX12_passes 19 = .ok (.getfield 147, 3) := by decide +kernel
theorem dX12_passes_22 : decode cX12_passes 22 = .ok (.iconst 1, 1) := by decide +kernel
theorem dX12_passes_23 : decode cX12_passes 23 = .ok (.iadd, 1) := by decide +kernel
theorem dX12_passes_24 : decode cX12_passes 24 = .ok (.putfield 147, 3) := by decide +kernel
theorem dX12_passes_27 : decode cX12_passes 27 = .ok (.iconst 1, 1) := by decide +kernel
theorem dX12_passes_28 : decode cX12_passes 28 = .ok (.ireturn, 1) := by decide +kernel
theorem dX12_need_0 : decode cX12_need 0 = .ok (.aload_n 0, 1) := by decide +kernel
theorem dX12_need_1 : decode cX12_need 1 = .ok (.iload_n 1, 1) := by decide +kernel
theorem dX12_need_2 : decode cX12_need 2 = .ok (.invokevirtual 161, 3) := by decide +kernel
theorem dX12_need_5 : decode cX12_need 5 = .ok (.ifCond .ne 11, 3) := by decide +kernel
theorem dX12_need_8 : decode cX12_need 8 = .ok (.aload_n 0, 1) := by decide +kernel
theorem dX12_need_9 : decode cX12_need 9 = .ok (.aload_n 0, 1) := by decide +kernel
theorem dX12_need_10 : decode cX12_need 10 = .ok (.getfield 147, 3) := by decide +kernel
theorem dX12_need_13 : decode cX12_need 13 = .ok (.invokevirtual 165, 3) := by decide +kernel
theorem dX12_need_16 : decode cX12_need 16 = .ok (.return_, 1) := by decide +kernel
theorem dX12_digit_0 : decode cX12_digit 0 = .ok (.aload_n 0, 1) := by decide +kernel
theorem dX12_digit_1 : decode cX12_digit 1 = .ok (.invokevirtual 153, 3) := by decide +kernel
theorem dX12_digit_4 : decode cX12_digit 4 = .ok (.ifCond .ne 5, 3) := by decide +kernel
theorem dX12_digit_7 : decode cX12_digit 7 = .ok (.iconst 0, 1) := by decide +kernel
theorem dX12_digit_8 : decode cX12_digit 8 = .ok (.ireturn, 1) := by decide +kernel
theorem dX12_digit_9 : decode cX12_digit 9 = .ok (.aload_n 0, 1) := by decide +kernel
theorem dX12_digit_10 : decode cX12_digit 10 = .ok (.invokevirtual 157, 3) := by decide +kernel
theorem dX12_digit_13 : decode cX12_digit 13 = .ok (.i2l, 1) := by decide +kernel
theorem dX12_digit_14 : decode cX12_digit 14 = .ok (.bipush 48, 2) := by decide +kernel
theorem dX12_digit_16 : decode cX12_digit 16 = .ok (.iload_n 1, 1) := by decide +kernel
theorem dX12_digit_17 : decode cX12_digit 17 = .ok (.iadd, 1) := by decide +kernel
theorem dX12_digit_18 : decode cX12_digit 18 = .ok (.i2l, 1) := by decide +kernel
theorem dX12_digit_19 : decode cX12_digit 19 = .ok (.bipush 48, 2) := by decide +kernel
theorem dX12_digit_21 : decode cX12_digit 21 = .ok (.iload_n 2, 1) := by decide +kernel
theorem dX12_digit_22 : decode cX12_digit 22 = .ok (.iadd, 1) := by decide +kernel
theorem dX12_digit_23 : decode cX12_digit 23 = .ok (.i2l, 1) := by decide +kernel
theorem dX12_digit_24 : decode cX12_digit 24 = .ok (.invokestatic 119, 3) := by decide +kernel
theorem dX12_digit_27 : decode cX12_digit 27 = .ok (.ifCond .ne 13, 3) := by decide +kernel
theorem dX12_digit_30 : decode cX12_digit 30 = .ok (.aload_n 0, 1) := by decide +kernel
theorem dX12_digit_31 : decode cX12_digit 31 = .ok (.aload_n 0, 1) := by decide +kernel
theorem dX12_digit_32 : decode cX12_digit 32 = .ok (.getfield 147, 3) := by decide +kernel
theorem dX12_digit_35 : decode cX12_digit 35 = .ok (.invokevirtual 165, 3) := by decide +kernel
theorem dX12_digit_38 : decode cX12_digit 38 = .ok (.iconst 0, 1) := by decide +kernel
theorem dX12_digit_39 : decode cX12_digit 39 = .ok (.ireturn, 1) := by decide +kernel
theorem dX12_digit_40 : decode cX12_digit 40 = .ok (.aload_n 0, 1) := by decide +kernel
theorem dX12_digit_41 : decode cX12_digit 41 = .ok (.dup, 1) := by decide +kernel
theorem dX12_digit_42 : decode cX12_digit 42 = .ok (.getfield 147, 3) := by decide +kernel
theorem dX12_digit_45 : decode cX12_digit 45 = .ok (.iconst 1, 1) := by decide +kernel
theorem dX12_digit_46 : decode cX12_digit 46 = .ok (.iadd, 1) := by decide +kernel
theorem dX12_digit_47 : decode cX12_digit 47 = .ok (.putfield 147, 3) := by decide +kernel
theorem dX12_digit_50 : decode cX12_digit 50 = .ok (.aload_n 0, 1) := by decide +kernel
theorem dX12_digit_51 : decode cX12_digit 51 = .ok (.getfield 138, 3) := by decide +kernel
theorem dX12_digit_54 : decode cX12_digit 54 = .ok (.aload_n 0, 1) := by decide +kernel
theorem dX12_digit_55 : decode cX12_digit 55 = .ok (.getfield 147, 3) := by decide +kernel
theorem dX12_digit_58 : decode cX12_digit 58 = .ok (.iconst 1, 1) := by decide +kernel
theorem dX12_digit_59 : decode cX12_digit 59 = .ok (.isub, 1) := by decide +kernel
theorem dX12_digit_60 : decode cX12_digit 60 = .ok (.baload, 1) := by decide +kernel
theorem dX12_digit_61 : decode cX12_digit 61 = .ok (.bipush 48, 2) := by decide +kernel
theorem dX12_digit_63 : decode cX12_digit 63 = .ok (.isub, 1) := by decide +kernel
theorem dX12_digit_64 : decode cX12_digit 64 = .ok (.ireturn, 1) := by decide +kernel
theorem dX12_number_0 : decode cX12_number 0 = .ok (.iconst 0, 1) := by decide +kernel
theorem dX12_number_1 : decode cX12_number 1 = .ok (.istore_n 2, 1) := by decide +kernel
theorem dX12_number_2 : decode cX12_number 2 = .ok (.iconst 0, 1) := by decide +kernel
theorem dX12_number_3 : decode cX12_number 3 = .ok (.istore_n 3, 1) := by decide +kernel
theorem dX12_number_4 : decode cX12_number 4 = .ok (.iload_n 3, 1) := by decide +kernel
theorem dX12_number_5 : decode cX12_number 5 = .ok (.iload_n 1, 1) := by decide +kernel
theorem dX12_number_6 : decode cX12_number 6 = .ok (.if_icmp .ge 49, 3) := by decide +kernel
theorem dX12_number_9 : decode cX12_number 9 = .ok (.aload_n 0, 1) := by decide +kernel
theorem dX12_number_10 : decode cX12_number 10 = .ok (.invokevirtual 157, 3) := by decide +kernel
theorem dX12_number_13 : decode cX12_number 13 = .ok (.i2l, 1) := by decide +kernel
theorem dX12_number_14 : decode cX12_number 14 = .ok (.ldc2_w 169, 3) := by decide +kernel
theorem dX12_number_17 : decode cX12_number 17 = .ok (.ldc2_w 171, 3) := by decide +kernel
theorem dX12_number_20 : decode cX12_number 20 = .ok (.invokestatic 119, 3) := by decide +kernel
theorem dX12_number_23 : decode cX12_number 23 = .ok (.ifCond .eq 32, 3) := by decide +kernel
theorem dX12_number_26 : decode cX12_number 26 = .ok (.bipush 10, 2) := by decide +kernel
theorem dX12_number_28 : decode cX12_number 28 = .ok (.iload_n 2, 1) := by decide +kernel
theorem dX12_number_29 : decode cX12_number 29 = .ok (.imul, 1) := by decide +kernel
theorem dX12_number_30 : decode cX12_number 30 = .ok (.aload_n 0, 1) := by decide +kernel
theorem dX12_number_31 : decode cX12_number 31 = .ok (.invokevirtual 157, 3) := by decide +kernel
theorem dX12_number_34 : decode cX12_number 34 = .ok (.iadd, 1) := by decide +kernel
theorem dX12_number_35 : decode cX12_number 35 = .ok (.bipush 48, 2) := by decide +kernel
theorem dX12_number_37 : decode cX12_number 37 = .ok (.isub, 1) := by decide +kernel
theorem dX12_number_38 : decode cX12_number 38 = .ok (.istore_n 2, 1) := by decide +kernel
theorem dX12_number_39 : decode cX12_number 39 = .ok (.aload_n 0, 1) := by decide +kernel
theorem dX12_number_40 : decode cX12_number 40 = .ok (.dup, 1) := by decide +kernel
theorem dX12_number_41 : decode cX12_number 41 = .ok (.getfield 147, 3) := by decide +kernel
theorem dX12_number_44 : decode cX12_number 44 = .ok (.iconst 1, 1) := by decide +kernel
theorem dX12_number_45 : decode cX12_number 45 = .ok (.iadd, 1) := by decide +kernel
theorem dX12_number_46 : decode cX12_number 46 = .ok (.putfield 147, 3) := by decide +kernel
theorem dX12_number_49 : decode cX12_number 49 = .ok (.iinc 3 1, 3) := by decide +kernel
theorem dX12_number_52 : decode cX12_number 52 = .ok (.goto (-48), 3) := by decide +kernel
theorem dX12_number_55 : decode cX12_number 55 = .ok (.iload_n 2, 1) := by decide +kernel
theorem dX12_number_56 : decode cX12_number 56 = .ok (.ireturn, 1) := by decide +kernel
theorem dX12_league_0 : decode cX12_league 0 = .ok (.aload_n 0, 1) := by decide +kernel
theorem dX12_league_1 : decode cX12_league 1 = .ok (.iconst 0, 1) := by decide +kernel
theorem dX12_league_2 : decode cX12_league 2 = .ok (.putfield 110, 3) := by decide +kernel
theorem dX12_league_5 : decode cX12_league 5 = .ok (.aload_n 0, 1) := by decide +kernel
theorem dX12_league_6 : decode cX12_league 6 = .ok (.aload_n 0, 1) := by decide +kernel
theorem dX12_league_7 : decode cX12_league 7 = .ok (.getfield 39, 3) := by decide +kernel
theorem dX12_league_10 : decode cX12_league 10 = .ok (.aload_n 0, 1) := by decide +kernel
theorem dX12_league_11 : decode cX12_league 11 = .ok (.getfield 135, 3) := by decide +kernel
theorem dX12_league_14 : decode cX12_league 14 = .ok (.bipush 76, 2) := by decide +kernel
theorem dX12_league_16 : decode cX12_league 16 = .ok (.invokevirtual 173, 3) := by decide +kernel
theorem dX12_league_19 : decode cX12_league 19 = .ok (.aload_n 0, 1) := by decide +kernel
theorem dX12_league_20 : decode cX12_league 20 = .ok (.iconst 0, 1) := by decide +kernel
theorem dX12_league_21 : decode cX12_league 21 = .ok (.putfield 135, 3) := by decide +kernel
theorem dX12_league_24 : decode cX12_league 24 = .ok (.aload_n 0, 1) := by decide +kernel
theorem dX12_league_25 : decode cX12_league 25 = .ok (.getfield 141, 3) := by decide +kernel
theorem dX12_league_28 : decode cX12_league 28 = .ok (.ifCond .ne 5, 3) := by decide +kernel
theorem dX12_league_31 : decode cX12_league 31 = .ok (.iconst 0, 1) := by decide +kernel
theorem dX12_league_32 : decode cX12_league 32 = .ok (.ireturn, 1) := by decide +kernel
theorem dX12_league_33 : decode cX12_league 33 = .ok (.aload_n 0, 1) := by decide +kernel
theorem dX12_league_34 : decode cX12_league 34 = .ok (.getfield 9, 3) := by decide +kernel
theorem dX12_league_37 : decode cX12_league 37 = .ok (.istore_n 1, 1) := by decide +kernel
theorem dX12_league_38 : decode cX12_league 38 = .ok (.aload_n 0, 1) := by decide +kernel
theorem dX12_league_39 : decode cX12_league 39 = .ok (.getfield 116, 3) := by decide +kernel
theorem dX12_league_42 : decode cX12_league 42 = .ok (.istore_n 2, 1) := by decide +kernel
theorem dX12_league_43 : decode cX12_league 43 = .ok (.aload_n 0, 1) := by decide +kernel
theorem dX12_league_44 : decode cX12_league 44 = .ok (.getfield 116, 3) := by decide +kernel
theorem dX12_league_47 : decode cX12_league 47 = .ok (.istore_n 3, 1) := by decide +kernel
theorem dX12_league_48 : decode cX12_league 48 = .ok (.iconst 0, 1) := by decide +kernel
theorem dX12_league_49 : decode cX12_league 49 = .ok (.istore 4, 2) := by decide +kernel
theorem dX12_league_51 : decode cX12_league 51 = .ok (.iconst 0, 1) := by decide +kernel
theorem dX12_league_52 : decode cX12_league 52 = .ok (.istore 5, 2) := by decide +kernel
theorem dX12_league_54 : decode cX12_league 54 = .ok (.iconst 1, 1) := by decide +kernel
theorem dX12_league_55 : decode cX12_league 55 = .ok (.istore 6, 2) := by decide +kernel
theorem dX12_league_57 : decode cX12_league 57 = .ok (.iload 6, 2) := by decide +kernel
theorem dX12_league_59 : decode cX12_league 59 = .ok (.ifCond .eq 125, 3) := by decide +kernel
theorem dX12_league_62 : decode cX12_league 62 = .ok (.aload_n 0, 1) := by decide +kernel
theorem dX12_league_63 : decode cX12_league 63 = .ok (.invokevirtual 153, 3) := by decide +kernel
theorem dX12_league_66 : decode cX12_league 66 = .ok (.ifCond .eq 118, 3) := by decide +kernel
theorem dX12_league_69 : decode cX12_league 69 = .ok (.aload_n 0, 1) := by decide +kernel
theorem dX12_league_70 : decode cX12_league 70 = .ok (.bipush 119, 2) := by decide +kernel
theorem dX12_league_72 : decode cX12_league 72 = .ok (.invokevirtual 161, 3) := by decide +kernel
theorem dX12_league_75 : decode cX12_league 75 = .ok (.ifCond .eq 20, 3) := by decide +kernel
theorem dX12_league_78 : decode cX12_league 78 = .ok (.aload_n 0, 1) := by decide +kernel
theorem dX12_league_79 : decode cX12_league 79 = .ok (.iconst 1, 1) := by decide +kernel
theorem dX12_league_80 : decode cX12_league 80 = .ok (.iconst 4, 1) := by decide +kernel
theorem dX12_league_81 : decode cX12_league 81 = .ok (.invokevirtual 177, 3) := by decide +kernel
theorem dX12_league_84 : decode cX12_league 84 = .ok (.istore_n 1, 1) := by decide +kernel
theorem dX12_league_85 : decode cX12_league 85 = .ok (.iconst 0, 1) := by decide +kernel
theorem dX12_league_86 : decode cX12_league 86 = .ok (.istore_n 2, 1) := by decide +kernel
theorem dX12_league_87 : decode cX12_league 87 = .ok (.iconst 0, 1) := by decide +kernel
theorem dX12_league_88 : decode cX12_league 88 = .ok (.istore_n 3, 1) := by decide +kernel
theorem dX12_league_89 : decode cX12_league 89 = .ok (.iconst 1, 1) := by decide +kernel
theorem dX12_league_90 : decode cX12_league 90 = .ok (.istore 4, 2) := by decide +kernel
theorem dX12_league_92 : decode cX12_league 92 = .ok (.goto 78, 3) := by decide +kernel
theorem dX12_league_95 : decode cX12_league 95 = .ok (.iload_n 3, 1) := by decide +kernel
theorem dX12_league_96 : decode cX12_league 96 = .ok (.bipush 8, 2) := by decide +kernel
theorem dX12_league_98 : decode cX12_league 98 = .ok (.if_icmp .ne 14, 3) := by decide +kernel
theorem dX12_league_101 : decode cX12_league 101 = .ok (.aload_n 0, 1) := by decide +kernel
theorem dX12_league_102 : decode cX12_league 102 = .ok (.aload_n 0, 1) := by decide +kernel
theorem dX12_league_103 : decode cX12_league 103 = .ok (.getfield 147, 3) := by decide +kernel
theorem dX12_league_106 : decode cX12_league 106 = .ok (.invokevirtual 165, 3) := by decide +kernel
theorem dX12_league_109 : decode cX12_league 109 = .ok (.goto 61, 3) := by decide +kernel
theorem dX12_league_112 : decode cX12_league 112 = .ok (.iconst 0, 1) := by decide +kernel
theorem dX12_league_113 : decode cX12_league 113 = .ok (.istore 7, 2) := by decide +kernel
theorem dX12_league_115 : decode cX12_league 115 = .ok (.iload 7, 2) := by decide +kernel
theorem dX12_league_117 : decode cX12_league 117 = .ok (.iconst 4, 1) := by decide +kernel
theorem dX12_league_118 : decode cX12_league 118 = .ok (.if_icmp .ge 37, 3) := by decide +kernel
theorem dX12_league_121 : decode cX12_league 121 = .ok (.aload_n 0, 1) := by decide +kernel
theorem dX12_league_122 : decode cX12_league 122 = .ok (.getfield 47, 3) := by decide +kernel
theorem dX12_league_125 : decode cX12_league 125 = .ok (.iconst 4, 1) := by decide +kernel
theorem dX12_league_126 : decode cX12_league 126 = .ok (.iload_n 3, 1) := by decide +kernel
theorem dX12_league_127 : decode cX12_league 127 = .ok (.imul, 1) := by decide +kernel
theorem dX12_league_128 : decode cX12_league 128 = .ok (.iload 7, 2) := by decide +kernel
theorem dX12_league_130 : decode cX12_league 130 = .ok (.iadd, 1) := by decide +kernel
theorem dX12_league_131 : decode cX12_league 131 = .ok (.iload 7, 2) := by decide +kernel
theorem dX12_league_133 : decode cX12_league 133 = .ok (.iload_n 1, 1) := by decide +kernel
theorem dX12_league_134 : decode cX12_league 134 = .ok (.if_icmp .ge 13, 3) := by decide +kernel
theorem dX12_league_137 : decode cX12_league 137 = .ok (.aload_n 0, 1) := by decide +kernel
theorem dX12_league_138 : decode cX12_league 138 = .ok (.iconst 0, 1) := by decide +kernel
theorem dX12_league_139 : decode cX12_league 139 = .ok (.bipush 7, 2) := by decide +kernel
theorem dX12_league_141 : decode cX12_league 141 = .ok (.invokevirtual 177, 3) := by decide +kernel
theorem dX12_league_144 : decode cX12_league 144 = .ok (.goto 4, 3) := by decide +kernel
theorem dX12_league_147 : decode cX12_league 147 = .ok (.iconst 0, 1) := by decide +kernel
theorem dX12_league_148 : decode cX12_league 148 = .ok (.iastore, 1) := by decide +kernel
theorem dX12_league_149 : decode cX12_league 149 = .ok (.iinc 7 1, 3) := by decide +kernel
theorem dX12_league_152 : decode cX12_league 152 = .ok (.goto (-37), 3) := by decide +kernel
theorem dX12_league_155 : decode cX12_league 155 = .ok (.aload_n 0, 1) := by decide +kernel
theorem dX12_league_156 : decode cX12_league 156 = .ok (.getfield 50, 3) := by decide +kernel
theorem dX12_league_159 : decode cX12_league 159 = .ok (.iload_n 3, 1) := by decide +kernel
theorem dX12_league_160 : decode cX12_league 160 = .ok (.aload_n 0, 1) := by decide +kernel
theorem dX12_league_161 : decode cX12_league 161 = .ok (.bipush 33, 2) := by decide +kernel
theorem dX12_league_163 : decode cX12_league 163 = .ok (.invokevirtual 161, 3) := by decide +kernel
theorem dX12_league_166 : decode cX12_league 166 = .ok (.bastore, 1) := by decide +kernel
theorem dX12_league_167 : decode cX12_league 167 = .ok (.iinc 3 1, 3) := by decide +kernel
theorem dX12_league_170 : decode cX12_league 170 = .ok (.iinc 5 1, 3) := by decide +kernel
theorem dX12_league_173 : decode cX12_league 173 = .ok (.aload_n 0, 1) := by decide +kernel
theorem dX12_league_174 : decode cX12_league 174 = .ok (.bipush 59, 2) := by decide +kernel
theorem dX12_league_176 : decode cX12_league 176 = .ok (.invokevirtual 161, 3) := by decide +kernel
theorem dX12_league_179 : decode cX12_league 179 = .ok (.istore 6, 2) := by decide +kernel
theorem dX12_league_181 : decode cX12_league 181 = .ok (.goto (-124), 3) := by decide +kernel
theorem dX12_league_184 : decode cX12_league 184 = .ok (.aload_n 0, 1) := by decide +kernel
theorem dX12_league_185 : decode cX12_league 185 = .ok (.getfield 147, 3) := by decide +kernel
theorem dX12_league_188 : decode cX12_league 188 = .ok (.aload_n 0, 1) := by decide +kernel
theorem dX12_league_189 : decode cX12_league 189 = .ok (.getfield 141, 3) := by decide +kernel
theorem dX12_league_192 : decode cX12_league 192 = .ok (.if_icmp .ge 11, 3) := by decide +kernel
theorem dX12_league_195 : decode cX12_league 195 = .ok (.aload_n 0, 1) := by decide +kernel
theorem dX12_league_196 : decode cX12_league 196 = .ok (.aload_n 0, 1) := by decide +kernel
theorem dX12_league_197 : decode cX12_league 197 = .ok (.getfield 147, 3) := by decide +kernel
theorem dX12_league_200 : decode cX12_league 200 = .ok (.invokevirtual 165, 3) := by decide +kernel
theorem dX12_league_203 : decode cX12_league 203 = .ok (.aload_n 0, 1) := by decide +kernel
theorem dX12_league_204 : decode cX12_league 204 = .ok (.invokevirtual 153, 3) := by decide +kernel
theorem dX12_league_207 : decode cX12_league 207 = .ok (.ifCond .ne 10, 3) := by decide +kernel
theorem dX12_league_210 : decode cX12_league 210 = .ok (.iconst (-1), 1) := by decide +kernel
theorem dX12_league_211 : decode cX12_league 211 = .ok (.aload_n 0, 1) := by decide +kernel
theorem dX12_league_212 : decode cX12_league 212 = .ok (.getfield 150, 3) := by decide +kernel
theorem dX12_league_215 : decode cX12_league 215 = .ok (.isub, 1) := by decide +kernel
theorem dX12_league_216 : decode cX12_league 216 = .ok (.ireturn, 1) := by decide +kernel
theorem dX12_league_217 : decode cX12_league 217 = .ok (.iload 4, 2) := by decide +kernel
theorem dX12_league_219 : decode cX12_league 219 = .ok (.ifCond .eq 28, 3) := by decide +kernel
theorem dX12_league_222 : decode cX12_league 222 = .ok (.aload_n 0, 1) := by decide +kernel
theorem dX12_league_223 : decode cX12_league 223 = .ok (.iload_n 1, 1) := by decide +kernel
theorem dX12_league_224 : decode cX12_league 224 = .ok (.putfield 9, 3) := by decide +kernel
theorem dX12_league_227 : decode cX12_league 227 = .ok (.aload_n 0, 1) := by decide +kernel
theorem dX12_league_228 : decode cX12_league 228 = .ok (.iconst 0, 1) := by decide +kernel
theorem dX12_league_229 : decode cX12_league 229 = .ok (.putfield 181, 3) := by decide +kernel
theorem dX12_league_232 : decode cX12_league 232 = .ok (.aload_n 0, 1) := by decide +kernel
theorem dX12_league_233 : decode cX12_league 233 = .ok (.iconst 0, 1) := by decide +kernel
theorem dX12_league_234 : decode cX12_league 234 = .ok (.putfield 184, 3) := by decide +kernel
theorem dX12_league_237 : decode cX12_league 237 = .ok (.aload_n 0, 1) := by decide +kernel
theorem dX12_league_238 : decode cX12_league 238 = .ok (.iconst 0, 1) := by decide +kernel
theorem dX12_league_239 : decode cX12_league 239 = .ok (.putfield 187, 3) := by decide +kernel
theorem dX12_league_242 : decode cX12_league 242 = .ok (.aload_n 0, 1) := by decide +kernel
theorem dX12_league_243 : decode cX12_league 243 = .ok (.iconst 0, 1) := by decide +kernel
theorem dX12_league_244 : decode cX12_league 244 = .ok (.putfield 190, 3) := by decide +kernel
theorem dX12_league_247 : decode cX12_league 247 = .ok (.iload_n 2, 1) := by decide +kernel
theorem dX12_league_248 : decode cX12_league 248 = .ok (.istore 7, 2) := by decide +kernel
theorem dX12_league_250 : decode cX12_league 250 = .ok (.iload 7, 2) := by decide +kernel
theorem dX12_league_252 : decode cX12_league 252 = .ok (.iload_n 3, 1) := by decide +kernel
theorem dX12_league_253 : decode cX12_league 253 = .ok (.if_icmp .ge 86, 3) := by decide +kernel
theorem dX12_league_256 : decode cX12_league 256 = .ok (.iconst 0, 1) := by decide +kernel
theorem dX12_league_257 : decode cX12_league 257 = .ok (.istore 8, 2) := by decide +kernel
theorem dX12_league_259 : decode cX12_league 259 = .ok (.iload 8, 2) := by decide +kernel
theorem dX12_league_261 : decode cX12_league 261 = .ok (.iconst 4, 1) := by decide +kernel
theorem dX12_league_262 : decode cX12_league 262 = .ok (.if_icmp .ge 33, 3) := by decide +kernel
theorem dX12_league_265 : decode cX12_league 265 = .ok (.aload_n 0, 1) := by decide +kernel
theorem dX12_league_266 : decode cX12_league 266 = .ok (.getfield 13, 3) := by decide +kernel
theorem dX12_league_269 : decode cX12_league 269 = .ok (.iconst 4, 1) := by decide +kernel
theorem dX12_league_270 : decode cX12_league 270 = .ok (.iload 7, 2) := by decide +kernel
theorem dX12_league_272 : decode cX12_league 272 = .ok (.imul, 1) := by decide +kernel
theorem dX12_league_273 : decode cX12_league 273 = .ok (.iload 8, 2) := by decide +kernel
theorem dX12_league_275 : decode cX12_league 275 = .ok (.iadd, 1) := by decide +kernel
theorem dX12_league_276 : decode cX12_league 276 = .ok (.aload_n 0, 1) := by decide +kernel
theorem dX12_league_277 : decode cX12_league 277 = .ok (.getfield 47, 3) := by decide +kernel
theorem dX12_league_280 : decode cX12_league 280 = .ok (.iconst 4, 1) := by decide +kernel
theorem dX12_league_281 : decode cX12_league 281 = .ok (.iload 7, 2) := by decide +kernel
theorem dX12_league_283 : decode cX12_league 283 = .ok (.imul, 1) := by decide +kernel
theorem dX12_league_284 : decode cX12_league 284 = .ok (.iload 8, 2) := by decide +kernel
theorem dX12_league_286 : decode cX12_league 286 = .ok (.iadd, 1) := by decide +kernel
theorem dX12_league_287 : decode cX12_league 287 = .ok (.iaload, 1) := by decide +kernel
theorem dX12_league_288 : decode cX12_league 288 = .ok (.iastore, 1) := by decide +kernel
theorem dX12_league_289 : decode cX12_league 289 = .ok (.iinc 8 1, 3) := by decide +kernel
theorem dX12_league_292 : decode cX12_league 292 = .ok (.goto (-33), 3) := by decide +kernel
theorem dX12_league_295 : decode cX12_league 295 = .ok (.aload_n 0, 1) := by decide +kernel
theorem dX12_league_296 : decode cX12_league 296 = .ok (.getfield 17, 3) := by decide +kernel
theorem dX12_league_299 : decode cX12_league 299 = .ok (.iload 7, 2) := by decide +kernel
theorem dX12_league_301 : decode cX12_league 301 = .ok (.aload_n 0, 1) := by decide +kernel
theorem dX12_league_302 : decode cX12_league 302 = .ok (.getfield 50, 3) := by decide +kernel
theorem dX12_league_305 : decode cX12_league 305 = .ok (.iload 7, 2) := by decide +kernel
theorem dX12_league_307 : decode cX12_league 307 = .ok (.baload, 1) := by decide +kernel
theorem dX12_league_308 : decode cX12_league 308 = .ok (.bastore, 1) := by decide +kernel
theorem dX12_league_309 : decode cX12_league 309 = .ok (.aload_n 0, 1) := by decide +kernel
theorem dX12_league_310 : decode cX12_league 310 = .ok (.getfield 21, 3) := by decide +kernel
theorem dX12_league_313 : decode cX12_league 313 = .ok (.iload 7, 2) := by decide +kernel
theorem dX12_league_315 : decode cX12_league 315 = .ok (.iconst 0, 1) := by decide +kernel
theorem dX12_league_316 : decode cX12_league 316 = .ok (.iastore, 1) := by decide +kernel
theorem dX12_league_317 : decode cX12_league 317 = .ok (.aload_n 0, 1) := by decide +kernel
theorem dX12_league_318 : decode cX12_league 318 = .ok (.getfield 24, 3) := by decide +kernel
theorem dX12_league_321 : decode cX12_league 321 = .ok (.iload 7, 2) := by decide +kernel
theorem dX12_league_323 : decode cX12_league 323 = .ok (.iconst 0, 1) := by decide +kernel
theorem dX12_league_324 : decode cX12_league 324 = .ok (.iastore, 1) := by decide +kernel
theorem dX12_league_325 : decode cX12_league 325 = .ok (.aload_n 0, 1) := by decide +kernel
theorem dX12_league_326 : decode cX12_league 326 = .ok (.getfield 27, 3) := by decide +kernel
theorem dX12_league_329 : decode cX12_league 329 = .ok (.iload 7, 2) := by decide +kernel
theorem dX12_league_331 : decode cX12_league 331 = .ok (.iconst 0, 1) := by decide +kernel
theorem dX12_league_332 : decode cX12_league 332 = .ok (.iastore, 1) := by decide +kernel
theorem dX12_league_333 : decode cX12_league 333 = .ok (.iinc 7 1, 3) := by decide +kernel
theorem dX12_league_336 : decode cX12_league 336 = .ok (.goto (-86), 3) := by decide +kernel
theorem dX12_league_339 : decode cX12_league 339 = .ok (.iload 4, 2) := by decide +kernel
theorem dX12_league_341 : decode cX12_league 341 = .ok (.ifCond .ne 11, 3) := by decide +kernel
theorem dX12_league_344 : decode cX12_league 344 = .ok (.iload_n 3, 1) := by decide +kernel
theorem dX12_league_345 : decode cX12_league 345 = .ok (.aload_n 0, 1) := by decide +kernel
theorem dX12_league_346 : decode cX12_league 346 = .ok (.getfield 116, 3) := by decide +kernel
theorem dX12_league_349 : decode cX12_league 349 = .ok (.if_icmp .le 13, 3) := by decide +kernel
theorem dX12_league_352 : decode cX12_league 352 = .ok (.aload_n 0, 1) := by decide +kernel
theorem dX12_league_353 : decode cX12_league 353 = .ok (.dup, 1) := by decide +kernel
theorem dX12_league_354 : decode cX12_league 354 = .ok (.getfield 193, 3) := by decide +kernel
theorem dX12_league_357 : decode cX12_league 357 = .ok (.iconst 1, 1) := by decide +kernel
theorem dX12_league_358 : decode cX12_league 358 = .ok (.iadd, 1) := by decide +kernel
theorem dX12_league_359 : decode cX12_league 359 = .ok (.putfield 193, 3) := by decide +kernel
theorem dX12_league_362 : decode cX12_league 362 = .ok (.aload_n 0, 1) := by decide +kernel
theorem dX12_league_363 : decode cX12_league 363 = .ok (.iload_n 3, 1) := by decide +kernel
theorem dX12_league_364 : decode cX12_league 364 = .ok (.putfield 116, 3) := by decide +kernel
theorem dX12_league_367 : decode cX12_league 367 = .ok (.aload_n 0, 1) := by decide +kernel
theorem dX12_league_368 : decode cX12_league 368 = .ok (.iconst 0, 1) := by decide +kernel
theorem dX12_league_369 : decode cX12_league 369 = .ok (.putfield 196, 3) := by decide +kernel
theorem dX12_league_372 : decode cX12_league 372 = .ok (.iload 5, 2) := by decide +kernel
theorem dX12_league_374 : decode cX12_league 374 = .ok (.ireturn, 1) := by decide +kernel
theorem dX12_plan_0 : decode cX12_plan 0 = .ok (.aload_n 0, 1) := by decide +kernel
theorem dX12_plan_1 : decode cX12_plan 1 = .ok (.iconst 0, 1) := by decide +kernel
theorem dX12_plan_2 : decode cX12_plan 2 = .ok (.putfield 110, 3) := by decide +kernel
theorem dX12_plan_5 : decode cX12_plan 5 = .ok (.aload_n 0, 1) := by decide +kernel
theorem dX12_plan_6 : decode cX12_plan 6 = .ok (.aload_n 0, 1) := by decide +kernel
theorem dX12_plan_7 : decode cX12_plan 7 = .ok (.getfield 39, 3) := by decide +kernel
theorem dX12_plan_10 : decode cX12_plan 10 = .ok (.aload_n 0, 1) := by decide +kernel
theorem dX12_plan_11 : decode cX12_plan 11 = .ok (.getfield 135, 3) := by decide +kernel
theorem dX12_plan_14 : decode cX12_plan 14 = .ok (.bipush 76, 2) := by decide +kernel
theorem dX12_plan_16 : decode cX12_plan 16 = .ok (.invokevirtual 173, 3) := by decide +kernel
theorem dX12_plan_19 : decode cX12_plan 19 = .ok (.aload_n 0, 1) := by decide +kernel
theorem dX12_plan_20 : decode cX12_plan 20 = .ok (.iconst 0, 1) := by decide +kernel
theorem dX12_plan_21 : decode cX12_plan 21 = .ok (.putfield 135, 3) := by decide +kernel
theorem dX12_plan_24 : decode cX12_plan 24 = .ok (.iconst 0, 1) := by decide +kernel
theorem dX12_plan_25 : decode cX12_plan 25 = .ok (.istore_n 1, 1) := by decide +kernel
theorem dX12_plan_26 : decode cX12_plan 26 = .ok (.iconst 0, 1) := by decide +kernel
theorem dX12_plan_27 : decode cX12_plan 27 = .ok (.istore_n 2, 1) := by decide +kernel
theorem dX12_plan_28 : decode cX12_plan 28 = .ok (.aload_n 0, 1) := by decide +kernel
theorem dX12_plan_29 : decode cX12_plan 29 = .ok (.getfield 141, 3) := by decide +kernel
theorem dX12_plan_32 : decode cX12_plan 32 = .ok (.ifCond .le 7, 3) := by decide +kernel
theorem dX12_plan_35 : decode cX12_plan 35 = .ok (.iconst 1, 1) := by decide +kernel
theorem dX12_plan_36 : decode cX12_plan 36 = .ok (.goto 4, 3) := by decide +kernel
theorem dX12_plan_39 : decode cX12_plan 39 = .ok (.iconst 0, 1) := by decide +kernel
theorem dX12_plan_40 : decode cX12_plan 40 = .ok (.istore_n 3, 1) := by decide +kernel
theorem dX12_plan_41 : decode cX12_plan 41 = .ok (.iload_n 3, 1) := by decide +kernel
theorem dX12_plan_42 : decode cX12_plan 42 = .ok (.ifCond .eq 196, 3) := by decide +kernel
theorem dX12_plan_45 : decode cX12_plan 45 = .ok (.aload_n 0, 1) := by decide +kernel
theorem dX12_plan_46 : decode cX12_plan 46 = .ok (.invokevirtual 153, 3) := by decide +kernel
theorem dX12_plan_49 : decode cX12_plan 49 = .ok (.ifCond .eq 189, 3) := by decide +kernel
theorem dX12_plan_52 : decode cX12_plan 52 = .ok (.iload_n 1, 1) := by decide +kernel
theorem dX12_plan_53 : decode cX12_plan 53 = .ok (.bipush 12, 2) := by decide +kernel
theorem dX12_plan_55 : decode cX12_plan 55 = .ok (.if_icmp .ne 11, 3) := by decide +kernel
theorem dX12_plan_58 : decode cX12_plan 58 = .ok (.aload_n 0, 1) := by decide +kernel
theorem dX12_plan_59 : decode cX12_plan 59 = .ok (.aload_n 0, 1) := by decide +kernel
theorem dX12_plan_60 : decode cX12_plan 60 = .ok (.getfield 147, 3) := by decide +kernel
theorem dX12_plan_63 : decode cX12_plan 63 = .ok (.invokevirtual 165, 3) := by decide +kernel
theorem dX12_plan_66 : decode cX12_plan 66 = .ok (.iconst 0, 1) := by decide +kernel
theorem dX12_plan_67 : decode cX12_plan 67 = .ok (.istore 4, 2) := by decide +kernel
theorem dX12_plan_69 : decode cX12_plan 69 = .ok (.iconst 1, 1) := by decide +kernel
theorem dX12_plan_70 : decode cX12_plan 70 = .ok (.istore 5, 2) := by decide +kernel
theorem dX12_plan_72 : decode cX12_plan 72 = .ok (.iload 5, 2) := by decide +kernel
theorem dX12_plan_74 : decode cX12_plan 74 = .ok (.ifCond .eq 151, 3) := by decide +kernel
theorem dX12_plan_77 : decode cX12_plan 77 = .ok (.aload_n 0, 1) := by decide +kernel
theorem dX12_plan_78 : decode cX12_plan 78 = .ok (.invokevirtual 153, 3) := by decide +kernel
theorem dX12_plan_81 : decode cX12_plan 81 = .ok (.ifCond .eq 144, 3) := by decide +kernel
theorem dX12_plan_84 : decode cX12_plan 84 = .ok (.aload_n 0, 1) := by decide +kernel
theorem dX12_plan_85 : decode cX12_plan 85 = .ok (.iload 4, 2) := by decide +kernel
theorem dX12_plan_87 : decode cX12_plan 87 = .ok (.invokevirtual 199, 3) := by decide +kernel
theorem dX12_plan_90 : decode cX12_plan 90 = .ok (.istore 6, 2) := by decide +kernel
theorem dX12_plan_92 : decode cX12_plan 92 = .ok (.aload_n 0, 1) := by decide +kernel
theorem dX12_plan_93 : decode cX12_plan 93 = .ok (.bipush 33, 2) := by decide +kernel
theorem dX12_plan_95 : decode cX12_plan 95 = .ok (.invokevirtual 161, 3) := by decide +kernel
theorem dX12_plan_98 : decode cX12_plan 98 = .ok (.istore 7, 2) := by decide +kernel
theorem dX12_plan_100 : decode cX12_plan 100 = .ok (.iload 4, 2) := by decide +kernel
theorem dX12_plan_102 : decode cX12_plan 102 = .ok (.iconst 1, 1) := by decide +kernel
theorem dX12_plan_103 : decode cX12_plan 103 = .ok (.iload 6, 2) := by decide +kernel
theorem dX12_plan_105 : decode cX12_plan 105 = .ok (.ishl, 1) := by decide +kernel
theorem dX12_plan_106 : decode cX12_plan 106 = .ok (.ior, 1) := by decide +kernel
theorem dX12_plan_107 : decode cX12_plan 107 = .ok (.istore 4, 2) := by decide +kernel
theorem dX12_plan_109 : decode cX12_plan 109 = .ok (.aload_n 0, 1) := by decide +kernel
theorem dX12_plan_110 : decode cX12_plan 110 = .ok (.bipush 45, 2) := by decide +kernel
theorem dX12_plan_112 : decode cX12_plan 112 = .ok (.invokevirtual 203, 3) := by decide +kernel
theorem dX12_plan_115 : decode cX12_plan 115 = .ok (.aload_n 0, 1) := by decide +kernel
theorem dX12_plan_116 : decode cX12_plan 116 = .ok (.iload 4, 2) := by decide +kernel
theorem dX12_plan_118 : decode cX12_plan 118 = .ok (.invokevirtual 199, 3) := by decide +kernel
theorem dX12_plan_121 : decode cX12_plan 121 = .ok (.istore 8, 2) := by decide +kernel
theorem dX12_plan_123 : decode cX12_plan 123 = .ok (.aload_n 0, 1) := by decide +kernel
theorem dX12_plan_124 : decode cX12_plan 124 = .ok (.bipush 33, 2) := by decide +kernel
theorem dX12_plan_126 : decode cX12_plan 126 = .ok (.invokevirtual 161, 3) := by decide +kernel
theorem dX12_plan_129 : decode cX12_plan 129 = .ok (.istore 9, 2) := by decide +kernel
theorem dX12_plan_131 : decode cX12_plan 131 = .ok (.iload 4, 2) := by decide +kernel
theorem dX12_plan_133 : decode cX12_plan 133 = .ok (.iconst 1, 1) := by decide +kernel
theorem dX12_plan_134 : decode cX12_plan 134 = .ok (.iload 8, 2) := by decide +kernel
theorem dX12_plan_136 : decode cX12_plan 136 = .ok (.ishl, 1) := by decide +kernel
theorem dX12_plan_137 : decode cX12_plan 137 = .ok (.ior, 1) := by decide +kernel
theorem dX12_plan_138 : decode cX12_plan 138 = .ok (.istore 4, 2) := by decide +kernel
theorem dX12_plan_140 : decode cX12_plan 140 = .ok (.aload_n 0, 1) := by decide +kernel
theorem dX12_plan_141 : decode cX12_plan 141 = .ok (.invokevirtual 153, 3) := by decide +kernel
theorem dX12_plan_144 : decode cX12_plan 144 = .ok (.ifCond .eq 70, 3) := by decide +kernel
theorem dX12_plan_147 : decode cX12_plan 147 = .ok (.aload_n 0, 1) := by decide +kernel
theorem dX12_plan_148 : decode cX12_plan 148 = .ok (.getfield 53, 3) := by decide +kernel
theorem dX12_plan_151 : decode cX12_plan 151 = .ok (.iconst 4, 1) := by decide +kernel
theorem dX12_plan_152 : decode cX12_plan 152 = .ok (.iload_n 2, 1) := by decide +kernel
theorem dX12_plan_153 : decode cX12_plan 153 = .ok (.imul, 1) := by decide +kernel
theorem dX12_plan_154 : decode cX12_plan 154 = .ok (.iload 6, 2) := by decide +kernel
theorem dX12_plan_156 : decode cX12_plan 156 = .ok (.iastore, 1) := by decide +kernel
theorem dX12_plan_157 : decode cX12_plan 157 = .ok (.aload_n 0, 1) := by decide +kernel
theorem dX12_plan_158 : decode cX12_plan 158 = .ok (.getfield 53, 3) := by decide +kernel
theorem dX12_plan_161 : decode cX12_plan 161 = .ok (.iconst 4, 1) := by decide +kernel
theorem dX12_plan_162 : decode cX12_plan 162 = .ok (.iload_n 2, 1) := by decide +kernel
theorem dX12_plan_163 : decode cX12_plan 163 = .ok (.imul, 1) := by decide +kernel
theorem dX12_plan_164 : decode cX12_plan 164 = .ok (.iconst 1, 1) := by decide +kernel
theorem dX12_plan_165 : decode cX12_plan 165 = .ok (.iadd, 1) := by decide +kernel
theorem dX12_plan_166 : decode cX12_plan 166 = .ok (.iload 8, 2) := by decide +kernel
theorem dX12_plan_168 : decode cX12_plan 168 = .ok (.iastore, 1) := by decide +kernel
theorem dX12_plan_169 : decode cX12_plan 169 = .ok (.aload_n 0, 1) := by decide +kernel
theorem dX12_plan_170 : decode cX12_plan 170 = .ok (.getfield 53, 3) := by decide +kernel
theorem dX12_plan_173 : decode cX12_plan 173 = .ok (.iconst 4, 1) := by decide +kernel
theorem dX12_plan_174 : decode cX12_plan 174 = .ok (.iload_n 2, 1) := by decide +kernel
theorem dX12_plan_175 : decode cX12_plan 175 = .ok (.imul, 1) := by decide +kernel
theorem dX12_plan_176 : decode cX12_plan 176 = .ok (.iconst 2, 1) := by decide +kernel
theorem dX12_plan_177 : decode cX12_plan 177 = .ok (.iadd, 1) := by decide +kernel
theorem dX12_plan_178 : decode cX12_plan 178 = .ok (.iload 7, 2) := by decide +kernel
theorem dX12_plan_180 : decode cX12_plan 180 = .ok (.ifCond .eq 7, 3) := by decide +kernel
theorem dX12_plan_183 : decode cX12_plan 183 = .ok (.iconst 1, 1) := by decide +kernel
theorem dX12_plan_184 : decode cX12_plan 184 = .ok (.goto 4, 3) := by decide +kernel
theorem dX12_plan_187 : decode cX12_plan 187 = .ok (.iconst 0, 1) := by decide +kernel
theorem dX12_plan_188 : decode cX12_plan 188 = .ok (.iload 9, 2) := by decide +kernel
theorem dX12_plan_190 : decode cX12_plan 190 = .ok (.ifCond .eq 7, 3) := by decide +kernel
theorem dX12_plan_193 : decode cX12_plan 193 = .ok (.iconst 2, 1) := by decide +kernel
theorem dX12_plan_194 : decode cX12_plan 194 = .ok (.goto 4, 3) := by decide +kernel
theorem dX12_plan_197 : decode cX12_plan 197 = .ok (.iconst 0, 1) := by decide +kernel
theorem dX12_plan_198 : decode cX12_plan 198 = .ok (.iadd, 1) := by decide +kernel
theorem dX12_plan_199 : decode cX12_plan 199 = .ok (.iastore, 1) := by decide +kernel
theorem dX12_plan_200 : decode cX12_plan 200 = .ok (.aload_n 0, 1) := by decide +kernel
theorem dX12_plan_201 : decode cX12_plan 201 = .ok (.getfield 53, 3) := by decide +kernel
theorem dX12_plan_204 : decode cX12_plan 204 = .ok (.iconst 4, 1) := by decide +kernel
theorem dX12_plan_205 : decode cX12_plan 205 = .ok (.iload_n 2, 1) := by decide +kernel
theorem dX12_plan_206 : decode cX12_plan 206 = .ok (.imul, 1) := by decide +kernel
theorem dX12_plan_207 : decode cX12_plan 207 = .ok (.iconst 3, 1) := by decide +kernel
theorem dX12_plan_208 : decode cX12_plan 208 = .ok (.iadd, 1) := by decide +kernel
theorem dX12_plan_209 : decode cX12_plan 209 = .ok (.iload_n 1, 1) := by decide +kernel
theorem dX12_plan_210 : decode cX12_plan 210 = .ok (.iastore, 1) := by decide +kernel
theorem dX12_plan_211 : decode cX12_plan 211 = .ok (.iinc 2 1, 3) := by decide +kernel
theorem dX12_plan_214 : decode cX12_plan 214 = .ok (.aload_n 0, 1) := by decide +kernel
theorem dX12_plan_215 : decode cX12_plan 215 = .ok (.bipush 44, 2) := by decide +kernel
theorem dX12_plan_217 : decode cX12_plan 217 = .ok (.invokevirtual 161, 3) := by decide +kernel
theorem dX12_plan_220 : decode cX12_plan 220 = .ok (.istore 5, 2) := by decide +kernel
theorem dX12_plan_222 : decode cX12_plan 222 = .ok (.goto (-150), 3) := by decide +kernel
theorem dX12_plan_225 : decode cX12_plan 225 = .ok (.iinc 1 1, 3) := by decide +kernel
theorem dX12_plan_228 : decode cX12_plan 228 = .ok (.aload_n 0, 1) := by decide +kernel
theorem dX12_plan_229 : decode cX12_plan 229 = .ok (.bipush 59, 2) := by decide +kernel
theorem dX12_plan_231 : decode cX12_plan 231 = .ok (.invokevirtual 161, 3) := by decide +kernel
theorem dX12_plan_234 : decode cX12_plan 234 = .ok (.istore_n 3, 1) := by decide +kernel
theorem dX12_plan_235 : decode cX12_plan 235 = .ok (.goto (-194), 3) := by decide +kernel
theorem dX12_plan_238 : decode cX12_plan 238 = .ok (.aload_n 0, 1) := by decide +kernel
theorem dX12_plan_239 : decode cX12_plan 239 = .ok (.getfield 147, 3) := by decide +kernel
theorem dX12_plan_242 : decode cX12_plan 242 = .ok (.aload_n 0, 1) := by decide +kernel
theorem dX12_plan_243 : decode cX12_plan 243 = .ok (.getfield 141, 3) := by decide +kernel
theorem dX12_plan_246 : decode cX12_plan 246 = .ok (.if_icmp .ge 11, 3) := by decide +kernel
theorem dX12_plan_249 : decode cX12_plan 249 = .ok (.aload_n 0, 1) := by decide +kernel
theorem dX12_plan_250 : decode cX12_plan 250 = .ok (.aload_n 0, 1) := by decide +kernel
theorem dX12_plan_251 : decode cX12_plan 251 = .ok (.getfield 147, 3) := by decide +kernel
theorem dX12_plan_254 : decode cX12_plan 254 = .ok (.invokevirtual 165, 3) := by decide +kernel
theorem dX12_plan_257 : decode cX12_plan 257 = .ok (.aload_n 0, 1) := by decide +kernel
theorem dX12_plan_258 : decode cX12_plan 258 = .ok (.invokevirtual 153, 3) := by decide +kernel
theorem dX12_plan_261 : decode cX12_plan 261 = .ok (.ifCond .ne 10, 3) := by decide +kernel
theorem dX12_plan_264 : decode cX12_plan 264 = .ok (.iconst (-1), 1) := by decide +kernel
theorem dX12_plan_265 : decode cX12_plan 265 = .ok (.aload_n 0, 1) := by decide +kernel
theorem dX12_plan_266 : decode cX12_plan 266 = .ok (.getfield 150, 3) := by decide +kernel
theorem dX12_plan_269 : decode cX12_plan 269 = .ok (.isub, 1) := by decide +kernel
theorem dX12_plan_270 : decode cX12_plan 270 = .ok (.ireturn, 1) := by decide +kernel
theorem dX12_plan_271 : decode cX12_plan 271 = .ok (.iconst 0, 1) := by decide +kernel
theorem dX12_plan_272 : decode cX12_plan 272 = .ok (.istore 4, 2) := by decide +kernel
theorem dX12_plan_274 : decode cX12_plan 274 = .ok (.iload 4, 2) := by decide +kernel
theorem dX12_plan_276 : decode cX12_plan 276 = .ok (.iconst 4, 1) := by decide +kernel
theorem dX12_plan_277 : decode cX12_plan 277 = .ok (.iload_n 2, 1) := by decide +kernel
theorem dX12_plan_278 : decode cX12_plan 278 = .ok (.imul, 1) := by decide +kernel
theorem dX12_plan_279 : decode cX12_plan 279 = .ok (.if_icmp .ge 23, 3) := by decide +kernel
theorem dX12_plan_282 : decode cX12_plan 282 = .ok (.aload_n 0, 1) := by decide +kernel
theorem dX12_plan_283 : decode cX12_plan 283 = .ok (.getfield 36, 3) := by decide +kernel
theorem dX12_plan_286 : decode cX12_plan 286 = .ok (.iload 4, 2) := by decide +kernel
theorem dX12_plan_288 : decode cX12_plan 288 = .ok (.aload_n 0, 1) := by decide +kernel
theorem dX12_plan_289 : decode cX12_plan 289 = .ok (.getfield 53, 3) := by decide +kernel
theorem dX12_plan_292 : decode cX12_plan 292 = .ok (.iload 4, 2) := by decide +kernel
theorem dX12_plan_294 : decode cX12_plan 294 = .ok (.iaload, 1) := by decide +kernel
theorem dX12_plan_295 : decode cX12_plan 295 = .ok (.iastore, 1) := by decide +kernel
theorem dX12_plan_296 : decode cX12_plan 296 = .ok (.iinc 4 1, 3) := by decide +kernel
theorem dX12_plan_299 : decode cX12_plan 299 = .ok (.goto (-25), 3) := by decide +kernel
theorem dX12_plan_302 : decode cX12_plan 302 = .ok (.aload_n 0, 1) := by decide +kernel
theorem dX12_plan_303 : decode cX12_plan 303 = .ok (.iload_n 2, 1) := by decide +kernel
theorem dX12_plan_304 : decode cX12_plan 304 = .ok (.putfield 181, 3) := by decide +kernel
theorem dX12_plan_307 : decode cX12_plan 307 = .ok (.aload_n 0, 1) := by decide +kernel
theorem dX12_plan_308 : decode cX12_plan 308 = .ok (.iload_n 1, 1) := by decide +kernel
theorem dX12_plan_309 : decode cX12_plan 309 = .ok (.putfield 184, 3) := by decide +kernel
theorem dX12_plan_312 : decode cX12_plan 312 = .ok (.aload_n 0, 1) := by decide +kernel
theorem dX12_plan_313 : decode cX12_plan 313 = .ok (.iconst 0, 1) := by decide +kernel
theorem dX12_plan_314 : decode cX12_plan 314 = .ok (.putfield 187, 3) := by decide +kernel
theorem dX12_plan_317 : decode cX12_plan 317 = .ok (.iload_n 1, 1) := by decide +kernel
theorem dX12_plan_318 : decode cX12_plan 318 = .ok (.ireturn, 1) := by decide +kernel
theorem dX12_side_0 : decode cX12_side 0 = .ok (.aload_n 0, 1) := by decide +kernel
theorem dX12_side_1 : decode cX12_side 1 = .ok (.iconst 0, 1) := by decide +kernel
theorem dX12_side_2 : decode cX12_side 2 = .ok (.bipush 9, 2) := by decide +kernel
theorem dX12_side_4 : decode cX12_side 4 = .ok (.invokevirtual 177, 3) := by decide +kernel
theorem dX12_side_7 : decode cX12_side 7 = .ok (.istore_n 2, 1) := by decide +kernel
theorem dX12_side_8 : decode cX12_side 8 = .ok (.aload_n 0, 1) := by decide +kernel
theorem dX12_side_9 : decode cX12_side 9 = .ok (.invokevirtual 153, 3) := by decide +kernel
theorem dX12_side_12 : decode cX12_side 12 = .ok (.ifCond .eq 29, 3) := by decide +kernel
theorem dX12_side_15 : decode cX12_side 15 = .ok (.aload_n 0, 1) := by decide +kernel
theorem dX12_side_16 : decode cX12_side 16 = .ok (.iload_n 2, 1) := by decide +kernel
theorem dX12_side_17 : decode cX12_side 17 = .ok (.invokevirtual 123, 3) := by decide +kernel
theorem dX12_side_20 : decode cX12_side 20 = .ok (.ifCond .eq 11, 3) := by decide +kernel
theorem dX12_side_23 : decode cX12_side 23 = .ok (.iload_n 1, 1) := by decide +kernel
theorem dX12_side_24 : decode cX12_side 24 = .ok (.iload_n 2, 1) := by decide +kernel
theorem dX12_side_25 : decode cX12_side 25 = .ok (.invokestatic 207, 3) := by decide +kernel
theorem dX12_side_28 : decode cX12_side 28 = .ok (.ifCond .eq 13, 3) := by decide +kernel
theorem dX12_side_31 : decode cX12_side 31 = .ok (.aload_n 0, 1) := by decide +kernel
theorem dX12_side_32 : decode cX12_side 32 = .ok (.aload_n 0, 1) := by decide +kernel
theorem dX12_side_33 : decode cX12_side 33 = .ok (.getfield 147, 3) := by decide +kernel
theorem dX12_side_36 : decode cX12_side 36 = .ok (.iconst 1, 1) := by decide +kernel
theorem dX12_side_37 : decode cX12_side 37 = .ok (.isub, 1) := by decide +kernel
theorem dX12_side_38 : decode cX12_side 38 = .ok (.invokevirtual 165, 3) := by decide +kernel
theorem dX12_side_41 : decode cX12_side 41 = .ok (.iload_n 2, 1) := by decide +kernel
theorem dX12_side_42 : decode cX12_side 42 = .ok (.ireturn, 1) := by decide +kernel
theorem dX12_held_0 : decode cX12_held 0 = .ok (.aload_n 0, 1) := by decide +kernel
theorem dX12_held_1 : decode cX12_held 1 = .ok (.iload_n 1, 1) := by decide +kernel
theorem dX12_held_2 : decode cX12_held 2 = .ok (.invokevirtual 211, 3) := by decide +kernel
theorem dX12_held_5 : decode cX12_held 5 = .ok (.istore_n 2, 1) := by decide +kernel
theorem dX12_held_6 : decode cX12_held 6 = .ok (.aload_n 0, 1) := by decide +kernel
theorem dX12_held_7 : decode cX12_held 7 = .ok (.bipush 60, 2) := by decide +kernel
theorem dX12_held_9 : decode cX12_held 9 = .ok (.invokevirtual 161, 3) := by decide +kernel
theorem dX12_held_12 : decode cX12_held 12 = .ok (.ifCond .eq 18, 3) := by decide +kernel
theorem dX12_held_15 : decode cX12_held 15 = .ok (.iload_n 2, 1) := by decide +kernel
theorem dX12_held_16 : decode cX12_held 16 = .ok (.aload_n 0, 1) := by decide +kernel
theorem dX12_held_17 : decode cX12_held 17 = .ok (.iload_n 1, 1) := by decide +kernel
theorem dX12_held_18 : decode cX12_held 18 = .ok (.invokevirtual 211, 3) := by decide +kernel
theorem dX12_held_21 : decode cX12_held 21 = .ok (.if_icmp .ge 7, 3) := by decide +kernel
theorem dX12_held_24 : decode cX12_held 24 = .ok (.iconst 1, 1) := by decide +kernel
theorem dX12_held_25 : decode cX12_held 25 = .ok (.goto 4, 3) := by decide +kernel
theorem dX12_held_28 : decode cX12_held 28 = .ok (.iconst 0, 1) := by decide +kernel
theorem dX12_held_29 : decode cX12_held 29 = .ok (.ireturn, 1) := by decide +kernel
theorem dX12_held_30 : decode cX12_held 30 = .ok (.aload_n 0, 1) := by decide +kernel
theorem dX12_held_31 : decode cX12_held 31 = .ok (.bipush 62, 2) := by decide +kernel
theorem dX12_held_33 : decode cX12_held 33 = .ok (.invokevirtual 161, 3) := by decide +kernel
theorem dX12_held_36 : decode cX12_held 36 = .ok (.ifCond .eq 18, 3) := by decide +kernel
theorem dX12_held_39 : decode cX12_held 39 = .ok (.iload_n 2, 1) := by decide +kernel
theorem dX12_held_40 : decode cX12_held 40 = .ok (.aload_n 0, 1) := by decide +kernel
theorem dX12_held_41 : decode cX12_held 41 = .ok (.iload_n 1, 1) := by decide +kernel
theorem dX12_held_42 : decode cX12_held 42 = .ok (.invokevirtual 211, 3) := by decide +kernel
theorem dX12_held_45 : decode cX12_held 45 = .ok (.if_icmp .le 7, 3) := by decide +kernel
theorem dX12_held_48 : decode cX12_held 48 = .ok (.iconst 1, 1) := by decide +kernel
theorem dX12_held_49 : decode cX12_held 49 = .ok (.goto 4, 3) := by decide +kernel
theorem dX12_held_52 : decode cX12_held 52 = .ok (.iconst 0, 1) := by decide +kernel
theorem dX12_held_53 : decode cX12_held 53 = .ok (.ireturn, 1) := by decide +kernel
theorem dX12_held_54 : decode cX12_held 54 = .ok (.aload_n 0, 1) := by decide +kernel
theorem dX12_held_55 : decode cX12_held 55 = .ok (.bipush 61, 2) := by decide +kernel
theorem dX12_held_57 : decode cX12_held 57 = .ok (.invokevirtual 161, 3) := by decide +kernel
theorem dX12_held_60 : decode cX12_held 60 = .ok (.ifCond .eq 18, 3) := by decide +kernel
theorem dX12_held_63 : decode cX12_held 63 = .ok (.iload_n 2, 1) := by decide +kernel
theorem dX12_held_64 : decode cX12_held 64 = .ok (.aload_n 0, 1) := by decide +kernel
theorem dX12_held_65 : decode cX12_held 65 = .ok (.iload_n 1, 1) := by decide +kernel
theorem dX12_held_66 : decode cX12_held 66 = .ok (.invokevirtual 211, 3) := by decide +kernel
theorem dX12_held_69 : decode cX12_held 69 = .ok (.if_icmp .ne 7, 3) := by decide +kernel
theorem dX12_held_72 : decode cX12_held 72 = .ok (.iconst 1, 1) := by decide +kernel
theorem dX12_held_73 : decode cX12_held 73 = .ok (.goto 4, 3) := by decide +kernel
theorem dX12_held_76 : decode cX12_held 76 = .ok (.iconst 0, 1) := by decide +kernel
theorem dX12_held_77 : decode cX12_held 77 = .ok (.ireturn, 1) := by decide +kernel
theorem dX12_held_78 : decode cX12_held 78 = .ok (.iload_n 2, 1) := by decide +kernel
theorem dX12_held_79 : decode cX12_held 79 = .ok (.ireturn, 1) := by decide +kernel
theorem dX12_sum_0 : decode cX12_sum 0 = .ok (.aload_n 0, 1) := by decide +kernel
theorem dX12_sum_1 : decode cX12_sum 1 = .ok (.iload_n 1, 1) := by decide +kernel
theorem dX12_sum_2 : decode cX12_sum 2 = .ok (.invokevirtual 214, 3) := by decide +kernel
theorem dX12_sum_5 : decode cX12_sum 5 = .ok (.istore_n 2, 1) := by decide +kernel
theorem dX12_sum_6 : decode cX12_sum 6 = .ok (.aload_n 0, 1) := by decide +kernel
theorem dX12_sum_7 : decode cX12_sum 7 = .ok (.invokevirtual 153, 3) := by decide +kernel
theorem dX12_sum_10 : decode cX12_sum 10 = .ok (.ifCond .eq 72, 3) := by decide +kernel
theorem dX12_sum_13 : decode cX12_sum 13 = .ok (.aload_n 0, 1) := by decide +kernel
theorem dX12_sum_14 : decode cX12_sum 14 = .ok (.invokevirtual 157, 3) := by decide +kernel
theorem dX12_sum_17 : decode cX12_sum 17 = .ok (.bipush 43, 2) := by decide +kernel
theorem dX12_sum_19 : decode cX12_sum 19 = .ok (.if_icmp .eq 12, 3) := by decide +kernel
theorem dX12_sum_22 : decode cX12_sum 22 = .ok (.aload_n 0, 1) := by decide +kernel
theorem dX12_sum_23 : decode cX12_sum 23 = .ok (.invokevirtual 157, 3) := by decide +kernel
theorem dX12_sum_26 : decode cX12_sum 26 = .ok (.bipush 45, 2) := by decide +kernel
theorem dX12_sum_28 : decode cX12_sum 28 = .ok (.if_icmp .ne 54, 3) := by decide +kernel
theorem dX12_sum_31 : decode cX12_sum 31 = .ok (.aload_n 0, 1) := by decide +kernel
theorem dX12_sum_32 : decode cX12_sum 32 = .ok (.invokevirtual 157, 3) := by decide +kernel
theorem dX12_sum_35 : decode cX12_sum 35 = .ok (.bipush 43, 2) := by decide +kernel
theorem dX12_sum_37 : decode cX12_sum 37 = .ok (.if_icmp .ne 7, 3) := by decide +kernel
theorem dX12_sum_40 : decode cX12_sum 40 = .ok (.iconst 1, 1) := by decide +kernel
theorem dX12_sum_41 : decode cX12_sum 41 = .ok (.goto 4, 3) := by decide +kernel
theorem dX12_sum_44 : decode cX12_sum 44 = .ok (.iconst 0, 1) := by decide +kernel
theorem dX12_sum_45 : decode cX12_sum 45 = .ok (.istore_n 3, 1) := by decide +kernel
theorem dX12_sum_46 : decode cX12_sum 46 = .ok (.aload_n 0, 1) := by decide +kernel
theorem dX12_sum_47 : decode cX12_sum 47 = .ok (.dup, 1) := by decide +kernel
theorem dX12_sum_48 : decode cX12_sum 48 = .ok (.getfield 147, 3) := by decide +kernel
theorem dX12_sum_51 : decode cX12_sum 51 = .ok (.iconst 1, 1) := by decide +kernel
theorem dX12_sum_52 : decode cX12_sum 52 = .ok (.iadd, 1) := by decide +kernel
theorem dX12_sum_53 : decode cX12_sum 53 = .ok (.putfield 147, 3) := by decide +kernel
theorem dX12_sum_56 : decode cX12_sum 56 = .ok (.aload_n 0, 1) := by decide +kernel
theorem dX12_sum_57 : decode cX12_sum 57 = .ok (.iload_n 1, 1) := by decide +kernel
theorem dX12_sum_58 : decode cX12_sum 58 = .ok (.invokevirtual 214, 3) := by decide +kernel
theorem dX12_sum_61 : decode cX12_sum 61 = .ok (.istore 4, 2) := by decide +kernel
theorem dX12_sum_63 : decode cX12_sum 63 = .ok (.iload_n 3, 1) := by decide +kernel
theorem dX12_sum_64 : decode cX12_sum 64 = .ok (.ifCond .eq 10, 3) := by decide +kernel
theorem dX12_sum_67 : decode cX12_sum 67 = .ok (.iload_n 2, 1) := by decide +kernel
theorem dX12_sum_68 : decode cX12_sum 68 = .ok (.iload 4, 2) := by decide +kernel
theorem dX12_sum_70 : decode cX12_sum 70 = .ok (.iadd, 1) := by decide +kernel
theorem dX12_sum_71 : decode cX12_sum 71 = .ok (.goto 7, 3) := by decide +kernel
theorem dX12_sum_74 : decode cX12_sum 74 = .ok (.iload_n 2, 1) := by decide +kernel
theorem dX12_sum_75 : decode cX12_sum 75 = .ok (.iload 4, 2) := by decide +kernel
theorem dX12_sum_77 : decode cX12_sum 77 = .ok (.isub, 1) := by decide +kernel
theorem dX12_sum_78 : decode cX12_sum 78 = .ok (.istore_n 2, 1) := by decide +kernel
theorem dX12_sum_79 : decode cX12_sum 79 = .ok (.goto (-73), 3) := by decide +kernel
theorem dX12_sum_82 : decode cX12_sum 82 = .ok (.iload_n 2, 1) := by decide +kernel
theorem dX12_sum_83 : decode cX12_sum 83 = .ok (.ireturn, 1) := by decide +kernel
theorem dX12_product_0 : decode cX12_product 0 = .ok (.aload_n 0, 1) := by decide +kernel
theorem dX12_product_1 : decode cX12_product 1 = .ok (.iload_n 1, 1) := by decide +kernel
theorem dX12_product_2 : decode cX12_product 2 = .ok (.invokevirtual 217, 3) := by decide +kernel
theorem dX12_product_5 : decode cX12_product 5 = .ok (.istore_n 2, 1) := by decide +kernel
theorem dX12_product_6 : decode cX12_product 6 = .ok (.aload_n 0, 1) := by decide +kernel
theorem dX12_product_7 : decode cX12_product 7 = .ok (.invokevirtual 153, 3) := by decide +kernel
theorem dX12_product_10 : decode cX12_product 10 = .ok (.ifCond .eq 81, 3) := by decide +kernel
theorem dX12_product_13 : decode cX12_product 13 = .ok (.aload_n 0, 1) := by decide +kernel
theorem dX12_product_14 : decode cX12_product 14 = .ok (.invokevirtual 157, 3) := by decide +kernel
theorem dX12_product_17 : decode cX12_product 17 = .ok (.bipush 42, 2) := by decide +kernel
theorem dX12_product_19 : decode cX12_product 19 = .ok (.if_icmp .eq 12, 3) := by decide +kernel
theorem dX12_product_22 : decode cX12_product 22 = .ok (.aload_n 0, 1) := by decide +kernel
theorem dX12_product_23 : decode cX12_product 23 = .ok (.invokevirtual 157, 3) := by decide +kernel
theorem dX12_product_26 : decode cX12_product 26 = .ok (.bipush 47, 2) := by decide +kernel
theorem dX12_product_28 : decode cX12_product 28 = .ok (.if_icmp .ne 63, 3) := by decide +kernel
theorem dX12_product_31 : decode cX12_product 31 = .ok (.aload_n 0, 1) := by decide +kernel
theorem dX12_product_32 : decode cX12_product 32 = .ok (.invokevirtual 157, 3) := by decide +kernel
theorem dX12_product_35 : decode cX12_product 35 = .ok (.bipush 42, 2) := by decide +kernel
theorem dX12_product_37 : decode cX12_product 37 = .ok (.if_icmp .ne 7, 3) := by decide +kernel
theorem dX12_product_40 : decode cX12_product 40 = .ok (.iconst 1, 1) := by decide +kernel
theorem dX12_product_41 : decode cX12_product 41 = .ok (.goto 4, 3) := by decide +kernel
theorem dX12_product_44 : decode cX12_product 44 = .ok (.iconst 0, 1) := by decide +kernel
theorem dX12_product_45 : decode cX12_product 45 = .ok (.istore_n 3, 1) := by decide +kernel
theorem dX12_product_46 : decode cX12_product 46 = .ok (.aload_n 0, 1) := by decide +kernel
theorem dX12_product_47 : decode cX12_product 47 = .ok (.dup, 1) := by decide +kernel
theorem dX12_product_48 : decode cX12_product 48 = .ok (.getfield 147, 3) := by decide +kernel
theorem dX12_product_51 : decode cX12_product 51 = .ok (.iconst 1, 1) := by decide +kernel
theorem dX12_product_52 : decode cX12_product 52 = .ok (.iadd, 1) := by decide +kernel
theorem dX12_product_53 : decode cX12_product 53 = .ok (.putfield 147, 3) := by decide +kernel
theorem dX12_product_56 : decode cX12_product 56 = .ok (.aload_n 0, 1) := by decide +kernel
theorem dX12_product_57 : decode cX12_product 57 = .ok (.iload_n 1, 1) := by decide +kernel
theorem dX12_product_58 : decode cX12_product 58 = .ok (.invokevirtual 217, 3) := by decide +kernel
theorem dX12_product_61 : decode cX12_product 61 = .ok (.istore 4, 2) := by decide +kernel
theorem dX12_product_63 : decode cX12_product 63 = .ok (.iload_n 3, 1) := by decide +kernel
theorem dX12_product_64 : decode cX12_product 64 = .ok (.ifCond .eq 10, 3) := by decide +kernel
theorem dX12_product_67 : decode cX12_product 67 = .ok (.iload_n 2, 1) := by decide +kernel
theorem dX12_product_68 : decode cX12_product 68 = .ok (.iload 4, 2) := by decide +kernel
theorem dX12_product_70 : decode cX12_product 70 = .ok (.imul, 1) := by decide +kernel
theorem dX12_product_71 : decode cX12_product 71 = .ok (.goto 16, 3) := by decide +kernel
theorem dX12_product_74 : decode cX12_product 74 = .ok (.iload 4, 2) := by decide +kernel
theorem dX12_product_76 : decode cX12_product 76 = .ok (.ifCond .ne 7, 3) := by decide +kernel
theorem dX12_product_79 : decode cX12_product 79 = .ok (.iconst 0, 1) := by decide +kernel
theorem dX12_product_80 : decode cX12_product 80 = .ok (.goto 7, 3) := by decide +kernel
theorem dX12_product_83 : decode cX12_product 83 = .ok (.iload_n 2, 1) := by decide +kernel
theorem dX12_product_84 : decode cX12_product 84 = .ok (.iload 4, 2) := by decide +kernel
theorem dX12_product_86 : decode cX12_product 86 = .ok (.idiv, 1) := by decide +kernel
theorem dX12_product_87 : decode cX12_product 87 = .ok (.istore_n 2, 1) := by decide +kernel
theorem dX12_product_88 : decode cX12_product 88 = .ok (.goto (-82), 3) := by decide +kernel
theorem dX12_product_91 : decode cX12_product 91 = .ok (.iload_n 2, 1) := by decide +kernel
theorem dX12_product_92 : decode cX12_product 92 = .ok (.ireturn, 1) := by decide +kernel
theorem dX12_thing_0 : decode cX12_thing 0 = .ok (.aload_n 0, 1) := by decide +kernel
theorem dX12_thing_1 : decode cX12_thing 1 = .ok (.bipush 45, 2) := by decide +kernel
theorem dX12_thing_3 : decode cX12_thing 3 = .ok (.invokevirtual 161, 3) := by decide +kernel
theorem dX12_thing_6 : decode cX12_thing 6 = .ok (.ifCond .eq 10, 3) := by decide +kernel
theorem dX12_thing_9 : decode cX12_thing 9 = .ok (.aload_n 0, 1) := by decide +kernel
theorem dX12_thing_10 : decode cX12_thing 10 = .ok (.iload_n 1, 1) := by decide +kernel
theorem dX12_thing_11 : decode cX12_thing 11 = .ok (.invokevirtual 217, 3) := by decide +kernel
theorem dX12_thing_14 : decode cX12_thing 14 = .ok (.ineg, 1) := by decide +kernel
theorem dX12_thing_15 : decode cX12_thing 15 = .ok (.ireturn, 1) := by decide +kernel
theorem dX12_thing_16 : decode cX12_thing 16 = .ok (.aload_n 0, 1) := by decide +kernel
theorem dX12_thing_17 : decode cX12_thing 17 = .ok (.invokevirtual 153, 3) := by decide +kernel
theorem dX12_thing_20 : decode cX12_thing 20 = .ok (.ifCond .ne 5, 3) := by decide +kernel
theorem dX12_thing_23 : decode cX12_thing 23 = .ok (.iconst 0, 1) := by decide +kernel
theorem dX12_thing_24 : decode cX12_thing 24 = .ok (.ireturn, 1) := by decide +kernel
theorem dX12_thing_25 : decode cX12_thing 25 = .ok (.aload_n 0, 1) := by decide +kernel
theorem dX12_thing_26 : decode cX12_thing 26 = .ok (.invokevirtual 157, 3) := by decide +kernel
theorem dX12_thing_29 : decode cX12_thing 29 = .ok (.istore_n 2, 1) := by decide +kernel
theorem dX12_thing_30 : decode cX12_thing 30 = .ok (.iload_n 2, 1) := by decide +kernel
theorem dX12_thing_31 : decode cX12_thing 31 = .ok (.bipush 40, 2) := by decide +kernel
theorem dX12_thing_33 : decode cX12_thing 33 = .ok (.if_icmp .ne 34, 3) := by decide +kernel
theorem dX12_thing_36 : decode cX12_thing 36 = .ok (.iload_n 1, 1) := by decide +kernel
theorem dX12_thing_37 : decode cX12_thing 37 = .ok (.iconst 4, 1) := by decide +kernel
theorem dX12_thing_38 : decode cX12_thing 38 = .ok (.if_icmp .ge 29, 3) := by decide +kernel
theorem dX12_thing_41 : decode cX12_thing 41 = .ok (.aload_n 0, 1) := by decide +kernel
theorem dX12_thing_42 : decode cX12_thing 42 = .ok (.dup, 1) := by decide +kernel
theorem dX12_thing_43 : decode cX12_thing 43 = .ok (.getfield 147, 3) := by decide +kernel
theorem dX12_thing_46 : decode cX12_thing 46 = .ok (.iconst 1, 1) := by decide +kernel
theorem dX12_thing_47 : decode cX12_thing 47 = .ok (.iadd, 1) := by decide +kernel
theorem dX12_thing_48 : decode cX12_thing 48 = .ok (.putfield 147, 3) := by decide +kernel
theorem dX12_thing_51 : decode cX12_thing 51 = .ok (.aload_n 0, 1) := by decide +kernel
theorem dX12_thing_52 : decode cX12_thing 52 = .ok (.iload_n 1, 1) := by decide +kernel
theorem dX12_thing_53 : decode cX12_thing 53 = .ok (.iconst 1, 1) := by decide +kernel
theorem dX12_thing_54 : decode cX12_thing 54 = .ok (.iadd, 1) := by decide +kernel
theorem dX12_thing_55 : decode cX12_thing 55 = .ok (.invokevirtual 220, 3) := by decide +kernel
theorem dX12_thing_58 : decode cX12_thing 58 = .ok (.istore_n 3, 1) := by decide +kernel
theorem dX12_thing_59 : decode cX12_thing 59 = .ok (.aload_n 0, 1) := by decide +kernel
theorem dX12_thing_60 : decode cX12_thing 60 = .ok (.bipush 41, 2) := by decide +kernel
theorem dX12_thing_62 : decode cX12_thing 62 = .ok (.invokevirtual 203, 3) := by decide +kernel
theorem dX12_thing_65 : decode cX12_thing 65 = .ok (.iload_n 3, 1) := by decide +kernel
theorem dX12_thing_66 : decode cX12_thing 66 = .ok (.ireturn, 1) := by decide +kernel
theorem dX12_thing_67 : decode cX12_thing 67 = .ok (.iload_n 2, 1) := by decide +kernel
theorem dX12_thing_68 : decode cX12_thing 68 = .ok (.i2l, 1) := by decide +kernel
theorem dX12_thing_69 : decode cX12_thing 69 = .ok (.ldc2_w 169, 3) := by decide +kernel
theorem dX12_thing_72 : decode cX12_thing 72 = .ok (.ldc2_w 171, 3) := by decide +kernel
theorem dX12_thing_75 : decode cX12_thing 75 = .ok (.invokestatic 119, 3) := by decide +kernel
theorem dX12_thing_78 : decode cX12_thing 78 = .ok (.ifCond .eq 9, 3) := by decide +kernel
theorem dX12_thing_81 : decode cX12_thing 81 = .ok (.aload_n 0, 1) := by decide +kernel
theorem dX12_thing_82 : decode cX12_thing 82 = .ok (.iconst 3, 1) := by decide +kernel
theorem dX12_thing_83 : decode cX12_thing 83 = .ok (.invokevirtual 223, 3) := by decide +kernel
theorem dX12_thing_86 : decode cX12_thing 86 = .ok (.ireturn, 1) := by decide +kernel
theorem dX12_thing_87 : decode cX12_thing 87 = .ok (.iload_n 2, 1) := by decide +kernel
theorem dX12_thing_88 : decode cX12_thing 88 = .ok (.i2l, 1) := by decide +kernel
theorem dX12_thing_89 : decode cX12_thing 89 = .ok (.ldc2_w 226, 3) := by decide +kernel
theorem dX12_thing_92 : decode cX12_thing 92 = .ok (.ldc2_w 228, 3) := by decide +kernel
theorem dX12_thing_95 : decode cX12_thing 95 = .ok (.invokestatic 119, 3) := by decide +kernel
theorem dX12_thing_98 : decode cX12_thing 98 = .ok (.ifCond .ne 49, 3) := by decide +kernel
theorem dX12_thing_101 : decode cX12_thing 101 = .ok (.iload_n 2, 1) := by decide +kernel
theorem dX12_thing_102 : decode cX12_thing 102 = .ok (.bipush 115, 2) := by decide +kernel
theorem dX12_thing_104 : decode cX12_thing 104 = .ok (.if_icmp .eq 43, 3) := by decide +kernel
theorem dX12_thing_107 : decode cX12_thing 107 = .ok (.iload_n 2, 1) := by decide +kernel
theorem dX12_thing_108 : decode cX12_thing 108 = .ok (.bipush 109, 2) := by decide +kernel
theorem dX12_thing_110 : decode cX12_thing 110 = .ok (.if_icmp .eq 37, 3) := by decide +kernel
theorem dX12_thing_113 : decode cX12_thing 113 = .ok (.iload_n 2, 1) := by decide +kernel
theorem dX12_thing_114 : decode cX12_thing 114 = .ok (.bipush 108, 2) := by decide +kernel
theorem dX12_thing_116 : decode cX12_thing 116 = .ok (.if_icmp .eq 31, 3) := by decide +kernel
theorem dX12_thing_119 : decode cX12_thing 119 = .ok (.iload_n 2, 1) := by decide +kernel
theorem dX12_thing_120 : decode cX12_thing 120 = .ok (.bipush 105, 2) := by decide +kernel
theorem dX12_thing_122 : decode cX12_thing 122 = .ok (.if_icmp .eq 25, 3) := by decide +kernel
theorem dX12_thing_125 : decode cX12_thing 125 = .ok (.iload_n 2, 1) := by decide +kernel
theorem dX12_thing_126 : decode cX12_thing 126 = .ok (.bipush 112, 2) := by decide +kernel
theorem dX12_thing_128 : decode cX12_thing 128 = .ok (.if_icmp .eq 19, 3) := by decide +kernel
theorem dX12_thing_131 : decode cX12_thing 131 = .ok (.iload_n 2, 1) := by decide +kernel
theorem dX12_thing_132 : decode cX12_thing 132 = .ok (.bipush 114, 2) := by decide +kernel
theorem dX12_thing_134 : decode cX12_thing 134 = .ok (.if_icmp .eq 13, 3) := by decide +kernel
theorem dX12_thing_137 : decode cX12_thing 137 = .ok (.aload_n 0, 1) := by decide +kernel
theorem dX12_thing_138 : decode cX12_thing 138 = .ok (.aload_n 0, 1) := by decide +kernel
theorem dX12_thing_139 : decode cX12_thing 139 = .ok (.getfield 147, 3) := by decide +kernel
theorem dX12_thing_142 : decode cX12_thing 142 = .ok (.invokevirtual 165, 3) := by decide +kernel
theorem dX12_thing_145 : decode cX12_thing 145 = .ok (.iconst 0, 1) := by decide +kernel
theorem dX12_thing_146 : decode cX12_thing 146 = .ok (.ireturn, 1) := by decide +kernel
theorem dX12_thing_147 : decode cX12_thing 147 = .ok (.aload_n 0, 1) := by decide +kernel
theorem dX12_thing_148 : decode cX12_thing 148 = .ok (.dup, 1) := by decide +kernel
theorem dX12_thing_149 : decode cX12_thing 149 = .ok (.getfield 147, 3) := by decide +kernel
theorem dX12_thing_152 : decode cX12_thing 152 = .ok (.iconst 1, 1) := by decide +kernel
theorem dX12_thing_153 : decode cX12_thing 153 = .ok (.iadd, 1) := by decide +kernel
theorem dX12_thing_154 : decode cX12_thing 154 = .ok (.putfield 147, 3) := by decide +kernel
theorem dX12_thing_157 : decode cX12_thing 157 = .ok (.aload_n 0, 1) := by decide +kernel
theorem dX12_thing_158 : decode cX12_thing 158 = .ok (.getfield 59, 3) := by decide +kernel
theorem dX12_thing_161 : decode cX12_thing 161 = .ok (.iconst (-1), 1) := by decide +kernel
theorem dX12_thing_162 : decode cX12_thing 162 = .ok (.if_icmp .ne 7, 3) := by decide +kernel
theorem dX12_thing_165 : decode cX12_thing 165 = .ok (.iconst 0, 1) := by decide +kernel
theorem dX12_thing_166 : decode cX12_thing 166 = .ok (.goto 8, 3) := by decide +kernel
theorem dX12_thing_169 : decode cX12_thing 169 = .ok (.aload_n 0, 1) := by decide +kernel
theorem dX12_thing_170 : decode cX12_thing 170 = .ok (.iload_n 2, 1) := by decide +kernel
theorem dX12_thing_171 : decode cX12_thing 171 = .ok (.invokevirtual 230, 3) := by decide +kernel
theorem dX12_thing_174 : decode cX12_thing 174 = .ok (.ireturn, 1) := by decide +kernel
theorem dX12_letter_0 : decode cX12_letter 0 = .ok (.aload_n 0, 1) := by decide +kernel
theorem dX12_letter_1 : decode cX12_letter 1 = .ok (.getfield 59, 3) := by decide +kernel
theorem dX12_letter_4 : decode cX12_letter 4 = .ok (.istore_n 2, 1) := by decide +kernel
theorem dX12_letter_5 : decode cX12_letter 5 = .ok (.iconst 0, 1) := by decide +kernel
theorem dX12_letter_6 : decode cX12_letter 6 = .ok (.istore_n 3, 1) := by decide +kernel
theorem dX12_letter_7 : decode cX12_letter 7 = .ok (.bipush 7, 2) := by decide +kernel
theorem dX12_letter_9 : decode cX12_letter 9 = .ok (.istore 4, 2) := by decide +kernel
theorem dX12_letter_11 : decode cX12_letter 11 = .ok (.iconst 0, 1) := by decide +kernel
theorem dX12_letter_12 : decode cX12_letter 12 = .ok (.istore 5, 2) := by decide +kernel
theorem dX12_letter_14 : decode cX12_letter 14 = .ok (.iload 5, 2) := by decide +kernel
theorem dX12_letter_16 : decode cX12_letter 16 = .ok (.aload_n 0, 1) := by decide +kernel
theorem dX12_letter_17 : decode cX12_letter 17 = .ok (.getfield 9, 3) := by decide +kernel
theorem dX12_letter_20 : decode cX12_letter 20 = .ok (.if_icmp .ge 43, 3) := by decide +kernel
theorem dX12_letter_23 : decode cX12_letter 23 = .ok (.iload_n 3, 1) := by decide +kernel
theorem dX12_letter_24 : decode cX12_letter 24 = .ok (.aload_n 0, 1) := by decide +kernel
theorem dX12_letter_25 : decode cX12_letter 25 = .ok (.getfield 13, 3) := by decide +kernel
theorem dX12_letter_28 : decode cX12_letter 28 = .ok (.iconst 4, 1) := by decide +kernel
theorem dX12_letter_29 : decode cX12_letter 29 = .ok (.iload_n 2, 1) := by decide +kernel
theorem dX12_letter_30 : decode cX12_letter 30 = .ok (.imul, 1) := by decide +kernel
theorem dX12_letter_31 : decode cX12_letter 31 = .ok (.iload 5, 2) := by decide +kernel
theorem dX12_letter_33 : decode cX12_letter 33 = .ok (.iadd, 1) := by decide +kernel
theorem dX12_letter_34 : decode cX12_letter 34 = .ok (.iaload, 1) := by decide +kernel
theorem dX12_letter_35 : decode cX12_letter 35 = .ok (.invokestatic 233, 3) := by decide +kernel
theorem dX12_letter_38 : decode cX12_letter 38 = .ok (.istore_n 3, 1) := by decide +kernel
theorem dX12_letter_39 : decode cX12_letter 39 = .ok (.iload 4, 2) := by decide +kernel
theorem dX12_letter_41 : decode cX12_letter 41 = .ok (.aload_n 0, 1) := by decide +kernel
theorem dX12_letter_42 : decode cX12_letter 42 = .ok (.getfield 13, 3) := by decide +kernel
theorem dX12_letter_45 : decode cX12_letter 45 = .ok (.iconst 4, 1) := by decide +kernel
theorem dX12_letter_46 : decode cX12_letter 46 = .ok (.iload_n 2, 1) := by decide +kernel
theorem dX12_letter_47 : decode cX12_letter 47 = .ok (.imul, 1) := by decide +kernel
theorem dX12_letter_48 : decode cX12_letter 48 = .ok (.iload 5, 2) := by decide +kernel
theorem dX12_letter_50 : decode cX12_letter 50 = .ok (.iadd, 1) := by decide +kernel
theorem dX12_letter_51 : decode cX12_letter 51 = .ok (.iaload, 1) := by decide +kernel
theorem dX12_letter_52 : decode cX12_letter 52 = .ok (.invokestatic 238, 3) := by decide +kernel
theorem dX12_letter_55 : decode cX12_letter 55 = .ok (.istore 4, 2) := by decide +kernel
theorem dX12_letter_57 : decode cX12_letter 57 = .ok (.iinc 5 1, 3) := by decide +kernel
theorem dX12_letter_60 : decode cX12_letter 60 = .ok (.goto (-46), 3) := by decide +kernel
theorem dX12_letter_63 : decode cX12_letter 63 = .ok (.iload_n 1, 1) := by decide +kernel
theorem dX12_letter_64 : decode cX12_letter 64 = .ok (.tableswitch 87 105 115 #[71, 87, 87, 68, 66, 87, 87, 73, 87, 80, 60], 60) := by decide +kernel
theorem dX12_letter_124 : decode cX12_letter 124 = .ok (.aload_n 0, 1) := by decide +kernel
theorem dX12_letter_125 : decode cX12_letter 125 = .ok (.iload_n 2, 1) := by decide +kernel
theorem dX12_letter_126 : decode cX12_letter 126 = .ok (.invokevirtual 241, 3) := by decide +kernel
theorem dX12_letter_129 : decode cX12_letter 129 = .ok (.ireturn, 1) := by decide +kernel
theorem dX12_letter_130 : decode cX12_letter 130 = .ok (.iload_n 3, 1) := by decide +kernel
theorem dX12_letter_131 : decode cX12_letter 131 = .ok (.ireturn, 1) := by decide +kernel
theorem dX12_letter_132 : decode cX12_letter 132 = .ok (.iload 4, 2) := by decide +kernel
theorem dX12_letter_134 : decode cX12_letter 134 = .ok (.ireturn, 1) := by decide +kernel
theorem dX12_letter_135 : decode cX12_letter 135 = .ok (.iload_n 2, 1) := by decide +kernel
theorem dX12_letter_136 : decode cX12_letter 136 = .ok (.ireturn, 1) := by decide +kernel
theorem dX12_letter_137 : decode cX12_letter 137 = .ok (.aload_n 0, 1) := by decide +kernel
theorem dX12_letter_138 : decode cX12_letter 138 = .ok (.getfield 21, 3) := by decide +kernel
theorem dX12_letter_141 : decode cX12_letter 141 = .ok (.iload_n 2, 1) := by decide +kernel
theorem dX12_letter_142 : decode cX12_letter 142 = .ok (.iaload, 1) := by decide +kernel
theorem dX12_letter_143 : decode cX12_letter 143 = .ok (.ireturn, 1) := by decide +kernel
theorem dX12_letter_144 : decode cX12_letter 144 = .ok (.aload_n 0, 1) := by decide +kernel
theorem dX12_letter_145 : decode cX12_letter 145 = .ok (.getfield 24, 3) := by decide +kernel
theorem dX12_letter_148 : decode cX12_letter 148 = .ok (.iload_n 2, 1) := by decide +kernel
theorem dX12_letter_149 : decode cX12_letter 149 = .ok (.iaload, 1) := by decide +kernel
theorem dX12_letter_150 : decode cX12_letter 150 = .ok (.ireturn, 1) := by decide +kernel
theorem dX12_letter_151 : decode cX12_letter 151 = .ok (.aload_n 0, 1) := by decide +kernel
theorem dX12_letter_152 : decode cX12_letter 152 = .ok (.iload_n 1, 1) := by decide +kernel
theorem dX12_letter_153 : decode cX12_letter 153 = .ok (.bipush 97, 2) := by decide +kernel
theorem dX12_letter_155 : decode cX12_letter 155 = .ok (.isub, 1) := by decide +kernel
theorem dX12_letter_156 : decode cX12_letter 156 = .ok (.invokevirtual 244, 3) := by decide +kernel
theorem dX12_letter_159 : decode cX12_letter 159 = .ok (.ifCond .eq 19, 3) := by decide +kernel
theorem dX12_letter_162 : decode cX12_letter 162 = .ok (.aload_n 0, 1) := by decide +kernel
theorem dX12_letter_163 : decode cX12_letter 163 = .ok (.getfield 13, 3) := by decide +kernel
theorem dX12_letter_166 : decode cX12_letter 166 = .ok (.iconst 4, 1) := by decide +kernel
theorem dX12_letter_167 : decode cX12_letter 167 = .ok (.iload_n 2, 1) := by decide +kernel
theorem dX12_letter_168 : decode cX12_letter 168 = .ok (.imul, 1) := by decide +kernel
theorem dX12_letter_169 : decode cX12_letter 169 = .ok (.iload_n 1, 1) := by decide +kernel
theorem dX12_letter_170 : decode cX12_letter 170 = .ok (.iadd, 1) := by decide +kernel
theorem dX12_letter_171 : decode cX12_letter 171 = .ok (.bipush 97, 2) := by decide +kernel
theorem dX12_letter_173 : decode cX12_letter 173 = .ok (.isub, 1) := by decide +kernel
theorem dX12_letter_174 : decode cX12_letter 174 = .ok (.iaload, 1) := by decide +kernel
theorem dX12_letter_175 : decode cX12_letter 175 = .ok (.goto 4, 3) := by decide +kernel
theorem dX12_letter_178 : decode cX12_letter 178 = .ok (.iconst 0, 1) := by decide +kernel
theorem dX12_letter_179 : decode cX12_letter 179 = .ok (.ireturn, 1) := by decide +kernel
theorem dX12_rule_0 : decode cX12_rule 0 = .ok (.aload_n 0, 1) := by decide +kernel
theorem dX12_rule_1 : decode cX12_rule 1 = .ok (.iconst 0, 1) := by decide +kernel
theorem dX12_rule_2 : decode cX12_rule 2 = .ok (.putfield 110, 3) := by decide +kernel
theorem dX12_rule_5 : decode cX12_rule 5 = .ok (.aload_n 0, 1) := by decide +kernel
theorem dX12_rule_6 : decode cX12_rule 6 = .ok (.getfield 135, 3) := by decide +kernel
theorem dX12_rule_9 : decode cX12_rule 9 = .ok (.istore_n 1, 1) := by decide +kernel
theorem dX12_rule_10 : decode cX12_rule 10 = .ok (.aload_n 0, 1) := by decide +kernel
theorem dX12_rule_11 : decode cX12_rule 11 = .ok (.aload_n 0, 1) := by decide +kernel
theorem dX12_rule_12 : decode cX12_rule 12 = .ok (.getfield 39, 3) := by decide +kernel
theorem dX12_rule_15 : decode cX12_rule 15 = .ok (.iload_n 1, 1) := by decide +kernel
theorem dX12_rule_16 : decode cX12_rule 16 = .ok (.bipush 40, 2) := by decide +kernel
theorem dX12_rule_18 : decode cX12_rule 18 = .ok (.invokevirtual 173, 3) := by decide +kernel
theorem dX12_rule_21 : decode cX12_rule 21 = .ok (.aload_n 0, 1) := by decide +kernel
theorem dX12_rule_22 : decode cX12_rule 22 = .ok (.iconst 0, 1) := by decide +kernel
theorem dX12_rule_23 : decode cX12_rule 23 = .ok (.putfield 135, 3) := by decide +kernel
theorem dX12_rule_26 : decode cX12_rule 26 = .ok (.aload_n 0, 1) := by decide +kernel
theorem dX12_rule_27 : decode cX12_rule 27 = .ok (.iconst (-1), 1) := by decide +kernel
theorem dX12_rule_28 : decode cX12_rule 28 = .ok (.putfield 59, 3) := by decide +kernel
theorem dX12_rule_31 : decode cX12_rule 31 = .ok (.iload_n 1, 1) := by decide +kernel
theorem dX12_rule_32 : decode cX12_rule 32 = .ok (.ifCond .le 39, 3) := by decide +kernel
theorem dX12_rule_35 : decode cX12_rule 35 = .ok (.aload_n 0, 1) := by decide +kernel
theorem dX12_rule_36 : decode cX12_rule 36 = .ok (.iconst 0, 1) := by decide +kernel
theorem dX12_rule_37 : decode cX12_rule 37 = .ok (.invokevirtual 220, 3) := by decide +kernel
theorem dX12_rule_40 : decode cX12_rule 40 = .ok (.pop, 1) := by decide +kernel
theorem dX12_rule_41 : decode cX12_rule 41 = .ok (.aload_n 0, 1) := by decide +kernel
theorem dX12_rule_42 : decode cX12_rule 42 = .ok (.getfield 147, 3) := by decide +kernel
theorem dX12_rule_45 : decode cX12_rule 45 = .ok (.iload_n 1, 1) := by decide +kernel
theorem dX12_rule_46 : decode cX12_rule 46 = .ok (.if_icmp .ge 11, 3) := by decide +kernel
theorem dX12_rule_49 : decode cX12_rule 49 = .ok (.aload_n 0, 1) := by decide +kernel
theorem dX12_rule_50 : decode cX12_rule 50 = .ok (.aload_n 0, 1) := by decide +kernel
theorem dX12_rule_51 : decode cX12_rule 51 = .ok (.getfield 147, 3) := by decide +kernel
theorem dX12_rule_54 : decode cX12_rule 54 = .ok (.invokevirtual 165, 3) := by decide +kernel
theorem dX12_rule_57 : decode cX12_rule 57 = .ok (.aload_n 0, 1) := by decide +kernel
theorem dX12_rule_58 : decode cX12_rule 58 = .ok (.invokevirtual 153, 3) := by decide +kernel
theorem dX12_rule_61 : decode cX12_rule 61 = .ok (.ifCond .ne 10, 3) := by decide +kernel
theorem dX12_rule_64 : decode cX12_rule 64 = .ok (.iconst (-1), 1) := by decide +kernel
theorem dX12_rule_65 : decode cX12_rule 65 = .ok (.aload_n 0, 1) := by decide +kernel
theorem dX12_rule_66 : decode cX12_rule 66 = .ok (.getfield 150, 3) := by decide +kernel
theorem dX12_rule_69 : decode cX12_rule 69 = .ok (.isub, 1) := by decide +kernel
theorem dX12_rule_70 : decode cX12_rule 70 = .ok (.ireturn, 1) := by decide +kernel
theorem dX12_rule_71 : decode cX12_rule 71 = .ok (.iconst 0, 1) := by decide +kernel
theorem dX12_rule_72 : decode cX12_rule 72 = .ok (.istore_n 2, 1) := by decide +kernel
theorem dX12_rule_73 : decode cX12_rule 73 = .ok (.iload_n 2, 1) := by decide +kernel
theorem dX12_rule_74 : decode cX12_rule 74 = .ok (.iload_n 1, 1) := by decide +kernel
theorem dX12_rule_75 : decode cX12_rule 75 = .ok (.if_icmp .ge 21, 3) := by decide +kernel
theorem dX12_rule_78 : decode cX12_rule 78 = .ok (.aload_n 0, 1) := by decide +kernel
theorem dX12_rule_79 : decode cX12_rule 79 = .ok (.getfield 56, 3) := by decide +kernel
theorem dX12_rule_82 : decode cX12_rule 82 = .ok (.iload_n 2, 1) := by decide +kernel
theorem dX12_rule_83 : decode cX12_rule 83 = .ok (.aload_n 0, 1) := by decide +kernel
theorem dX12_rule_84 : decode cX12_rule 84 = .ok (.getfield 39, 3) := by decide +kernel
theorem dX12_rule_87 : decode cX12_rule 87 = .ok (.iload_n 2, 1) := by decide +kernel
theorem dX12_rule_88 : decode cX12_rule 88 = .ok (.baload, 1) := by decide +kernel
theorem dX12_rule_89 : decode cX12_rule 89 = .ok (.bastore, 1) := by decide +kernel
theorem dX12_rule_90 : decode cX12_rule 90 = .ok (.iinc 2 1, 3) := by decide +kernel
theorem dX12_rule_93 : decode cX12_rule 93 = .ok (.goto (-20), 3) := by decide +kernel
theorem dX12_rule_96 : decode cX12_rule 96 = .ok (.aload_n 0, 1) := by decide +kernel
theorem dX12_rule_97 : decode cX12_rule 97 = .ok (.iload_n 1, 1) := by decide +kernel
theorem dX12_rule_98 : decode cX12_rule 98 = .ok (.putfield 247, 3) := by decide +kernel
theorem dX12_rule_101 : decode cX12_rule 101 = .ok (.iconst 0, 1) := by decide +kernel
theorem dX12_rule_102 : decode cX12_rule 102 = .ok (.ireturn, 1) := by decide +kernel
theorem dX12_sumOf_0 : decode cX12_sumOf 0 = .ok (.iconst 0, 1) := by decide +kernel
theorem dX12_sumOf_1 : decode cX12_sumOf 1 = .ok (.istore_n 2, 1) := by decide +kernel
theorem dX12_sumOf_2 : decode cX12_sumOf 2 = .ok (.iconst 0, 1) := by decide +kernel
theorem dX12_sumOf_3 : decode cX12_sumOf 3 = .ok (.istore_n 3, 1) := by decide +kernel
theorem dX12_sumOf_4 : decode cX12_sumOf 4 = .ok (.iload_n 3, 1) := by decide +kernel
theorem dX12_sumOf_5 : decode cX12_sumOf 5 = .ok (.aload_n 0, 1) := by decide +kernel
theorem dX12_sumOf_6 : decode cX12_sumOf 6 = .ok (.getfield 9, 3) := by decide +kernel
theorem dX12_sumOf_9 : decode cX12_sumOf 9 = .ok (.if_icmp .ge 22, 3) := by decide +kernel
theorem dX12_sumOf_12 : decode cX12_sumOf 12 = .ok (.iload_n 2, 1) := by decide +kernel
theorem dX12_sumOf_13 : decode cX12_sumOf 13 = .ok (.aload_n 0, 1) := by decide +kernel
theorem dX12_sumOf_14 : decode cX12_sumOf 14 = .ok (.getfield 13, 3) := by decide +kernel
theorem dX12_sumOf_17 : decode cX12_sumOf 17 = .ok (.iconst 4, 1) := by decide +kernel
theorem dX12_sumOf_18 : decode cX12_sumOf 18 = .ok (.iload_n 1, 1) := by decide +kernel
theorem dX12_sumOf_19 : decode cX12_sumOf 19 = .ok (.imul, 1) := by decide +kernel
theorem dX12_sumOf_20 : decode cX12_sumOf 20 = .ok (.iload_n 3, 1) := by decide +kernel
theorem dX12_sumOf_21 : decode cX12_sumOf 21 = .ok (.iadd, 1) := by decide +kernel
theorem dX12_sumOf_22 : decode cX12_sumOf 22 = .ok (.iaload, 1) := by decide +kernel
theorem dX12_sumOf_23 : decode cX12_sumOf 23 = .ok (.iadd, 1) := by decide +kernel
theorem dX12_sumOf_24 : decode cX12_sumOf 24 = .ok (.istore_n 2, 1) := by decide +kernel
theorem dX12_sumOf_25 : decode cX12_sumOf 25 = .ok (.iinc 3 1, 3) := by decide +kernel
theorem dX12_sumOf_28 : decode cX12_sumOf 28 = .ok (.goto (-24), 3) := by decide +kernel
theorem dX12_sumOf_31 : decode cX12_sumOf 31 = .ok (.iload_n 2, 1) := by decide +kernel
theorem dX12_sumOf_32 : decode cX12_sumOf 32 = .ok (.ireturn, 1) := by decide +kernel
theorem dX12_sumOfAll_0 : decode cX12_sumOfAll 0 = .ok (.iconst 0, 1) := by decide +kernel
theorem dX12_sumOfAll_1 : decode cX12_sumOfAll 1 = .ok (.istore_n 1, 1) := by decide +kernel
theorem dX12_sumOfAll_2 : decode cX12_sumOfAll 2 = .ok (.iconst 0, 1) := by decide +kernel
theorem dX12_sumOfAll_3 : decode cX12_sumOfAll 3 = .ok (.istore_n 2, 1) := by decide +kernel
theorem dX12_sumOfAll_4 : decode cX12_sumOfAll 4 = .ok (.iload_n 2, 1) := by decide +kernel
theorem dX12_sumOfAll_5 : decode cX12_sumOfAll 5 = .ok (.aload_n 0, 1) := by decide +kernel
theorem dX12_sumOfAll_6 : decode cX12_sumOfAll 6 = .ok (.getfield 116, 3) := by decide +kernel
theorem dX12_sumOfAll_9 : decode cX12_sumOfAll 9 = .ok (.if_icmp .ge 17, 3) := by decide +kernel
theorem dX12_sumOfAll_12 : decode cX12_sumOfAll 12 = .ok (.iload_n 1, 1) := by decide +kernel
theorem dX12_sumOfAll_13 : decode cX12_sumOfAll 13 = .ok (.aload_n 0, 1) := by decide +kernel
theorem dX12_sumOfAll_14 : decode cX12_sumOfAll 14 = .ok (.iload_n 2, 1) := by decide +kernel
theorem dX12_sumOfAll_15 : decode cX12_sumOfAll 15 = .ok (.invokevirtual 241, 3) := by decide +kernel
theorem dX12_sumOfAll_18 : decode cX12_sumOfAll 18 = .ok (.iadd, 1) := by decide +kernel
theorem dX12_sumOfAll_19 : decode cX12_sumOfAll 19 = .ok (.istore_n 1, 1) := by decide +kernel
theorem dX12_sumOfAll_20 : decode cX12_sumOfAll 20 = .ok (.iinc 2 1, 3) := by decide +kernel
theorem dX12_sumOfAll_23 : decode cX12_sumOfAll 23 = .ok (.goto (-19), 3) := by decide +kernel
theorem dX12_sumOfAll_26 : decode cX12_sumOfAll 26 = .ok (.iload_n 1, 1) := by decide +kernel
theorem dX12_sumOfAll_27 : decode cX12_sumOfAll 27 = .ok (.ireturn, 1) := by decide +kernel
theorem dX12_power_0 : decode cX12_power 0 = .ok (.aload_n 0, 1) := by decide +kernel
theorem dX12_power_1 : decode cX12_power 1 = .ok (.getfield 247, 3) := by decide +kernel
theorem dX12_power_4 : decode cX12_power 4 = .ok (.ifCond .ne 9, 3) := by decide +kernel
theorem dX12_power_7 : decode cX12_power 7 = .ok (.aload_n 0, 1) := by decide +kernel
theorem dX12_power_8 : decode cX12_power 8 = .ok (.iload_n 1, 1) := by decide +kernel
theorem dX12_power_9 : decode cX12_power 9 = .ok (.invokevirtual 241, 3) := by decide +kernel
theorem dX12_power_12 : decode cX12_power 12 = .ok (.ireturn, 1) := by decide +kernel
theorem dX12_power_13 : decode cX12_power 13 = .ok (.aload_n 0, 1) := by decide +kernel
theorem dX12_power_14 : decode cX12_power 14 = .ok (.aload_n 0, 1) := by decide +kernel
theorem dX12_power_15 : decode cX12_power 15 = .ok (.getfield 56, 3) := by decide +kernel
theorem dX12_power_18 : decode cX12_power 18 = .ok (.aload_n 0, 1) := by decide +kernel
theorem dX12_power_19 : decode cX12_power 19 = .ok (.getfield 247, 3) := by decide +kernel
theorem dX12_power_22 : decode cX12_power 22 = .ok (.bipush 40, 2) := by decide +kernel
theorem dX12_power_24 : decode cX12_power 24 = .ok (.invokevirtual 173, 3) := by decide +kernel
theorem dX12_power_27 : decode cX12_power 27 = .ok (.aload_n 0, 1) := by decide +kernel
theorem dX12_power_28 : decode cX12_power 28 = .ok (.iload_n 1, 1) := by decide +kernel
theorem dX12_power_29 : decode cX12_power 29 = .ok (.putfield 59, 3) := by decide +kernel
theorem dX12_power_32 : decode cX12_power 32 = .ok (.sipush (-9999), 3) := by decide +kernel
theorem dX12_power_35 : decode cX12_power 35 = .ok (.sipush 9999, 3) := by decide +kernel
theorem dX12_power_38 : decode cX12_power 38 = .ok (.aload_n 0, 1) := by decide +kernel
theorem dX12_power_39 : decode cX12_power 39 = .ok (.iconst 0, 1) := by decide +kernel
theorem dX12_power_40 : decode cX12_power 40 = .ok (.invokevirtual 220, 3) := by decide +kernel
theorem dX12_power_43 : decode cX12_power 43 = .ok (.invokestatic 238, 3) := by decide +kernel
theorem dX12_power_46 : decode cX12_power 46 = .ok (.invokestatic 233, 3) := by decide +kernel
theorem dX12_power_49 : decode cX12_power 49 = .ok (.ireturn, 1) := by decide +kernel
theorem dX12_skill_0 : decode cX12_skill 0 = .ok (.aload_n 0, 1) := by decide +kernel
theorem dX12_skill_1 : decode cX12_skill 1 = .ok (.iconst 0, 1) := by decide +kernel
theorem dX12_skill_2 : decode cX12_skill 2 = .ok (.putfield 110, 3) := by decide +kernel
theorem dX12_skill_5 : decode cX12_skill 5 = .ok (.aload_n 0, 1) := by decide +kernel
theorem dX12_skill_6 : decode cX12_skill 6 = .ok (.iload_n 1, 1) := by decide +kernel
theorem dX12_skill_7 : decode cX12_skill 7 = .ok (.invokevirtual 123, 3) := by decide +kernel
theorem dX12_skill_10 : decode cX12_skill 10 = .ok (.ifCond .eq 24, 3) := by decide +kernel
theorem dX12_skill_13 : decode cX12_skill 13 = .ok (.aload_n 0, 1) := by decide +kernel
theorem dX12_skill_14 : decode cX12_skill 14 = .ok (.iload_n 2, 1) := by decide +kernel
theorem dX12_skill_15 : decode cX12_skill 15 = .ok (.invokevirtual 244, 3) := by decide +kernel
theorem dX12_skill_18 : decode cX12_skill 18 = .ok (.ifCond .eq 16, 3) := by decide +kernel
theorem dX12_skill_21 : decode cX12_skill 21 = .ok (.aload_n 0, 1) := by decide +kernel
theorem dX12_skill_22 : decode cX12_skill 22 = .ok (.getfield 13, 3) := by decide +kernel
theorem dX12_skill_25 : decode cX12_skill 25 = .ok (.iconst 4, 1) := by decide +kernel
theorem dX12_skill_26 : decode cX12_skill 26 = .ok (.iload_n 1, 1) := by decide +kernel
theorem dX12_skill_27 : decode cX12_skill 27 = .ok (.imul, 1) := by decide +kernel
theorem dX12_skill_28 : decode cX12_skill 28 = .ok (.iload_n 2, 1) := by decide +kernel
theorem dX12_skill_29 : decode cX12_skill 29 = .ok (.iadd, 1) := by decide +kernel
theorem dX12_skill_30 : decode cX12_skill 30 = .ok (.iaload, 1) := by decide +kernel
theorem dX12_skill_31 : decode cX12_skill 31 = .ok (.goto 4, 3) := by decide +kernel
theorem dX12_skill_34 : decode cX12_skill 34 = .ok (.iconst (-1), 1) := by decide +kernel
theorem dX12_skill_35 : decode cX12_skill 35 = .ok (.ireturn, 1) := by decide +kernel
theorem dX12_of_0 : decode cX12_of 0 = .ok (.aload_n 0, 1) := by decide +kernel
theorem dX12_of_1 : decode cX12_of 1 = .ok (.iconst 0, 1) := by decide +kernel
theorem dX12_of_2 : decode cX12_of 2 = .ok (.putfield 110, 3) := by decide +kernel
theorem dX12_of_5 : decode cX12_of 5 = .ok (.aload_n 0, 1) := by decide +kernel
theorem dX12_of_6 : decode cX12_of 6 = .ok (.iload_n 1, 1) := by decide +kernel
theorem dX12_of_7 : decode cX12_of 7 = .ok (.invokevirtual 123, 3) := by decide +kernel
theorem dX12_of_10 : decode cX12_of 10 = .ok (.ifCond .eq 15, 3) := by decide +kernel
theorem dX12_of_13 : decode cX12_of 13 = .ok (.iload_n 2, 1) := by decide +kernel
theorem dX12_of_14 : decode cX12_of 14 = .ok (.i2l, 1) := by decide +kernel
theorem dX12_of_15 : decode cX12_of 15 = .ok (.lconst 0, 1) := by decide +kernel
theorem dX12_of_16 : decode cX12_of 16 = .ok (.ldc2_w 250, 3) := by decide +kernel
theorem dX12_of_19 : decode cX12_of 19 = .ok (.invokestatic 119, 3) := by decide +kernel
theorem dX12_of_22 : decode cX12_of 22 = .ok (.ifCond .ne 8, 3) := by decide +kernel
theorem dX12_of_25 : decode cX12_of 25 = .ok (.aload_n 0, 1) := by decide +kernel
theorem dX12_of_26 : decode cX12_of 26 = .ok (.invokevirtual 252, 3) := by decide +kernel
theorem dX12_of_29 : decode cX12_of 29 = .ok (.ireturn, 1) := by decide +kernel
theorem dX12_of_30 : decode cX12_of 30 = .ok (.iload_n 2, 1) := by decide +kernel
theorem dX12_of_31 : decode cX12_of 31 = .ok (.ifCond .ne 11, 3) := by decide +kernel
theorem dX12_of_34 : decode cX12_of 34 = .ok (.aload_n 0, 1) := by decide +kernel
theorem dX12_of_35 : decode cX12_of 35 = .ok (.iload_n 1, 1) := by decide +kernel
theorem dX12_of_36 : decode cX12_of 36 = .ok (.invokevirtual 255, 3) := by decide +kernel
theorem dX12_of_39 : decode cX12_of 39 = .ok (.goto 59, 3) := by decide +kernel
theorem dX12_of_42 : decode cX12_of 42 = .ok (.iload_n 2, 1) := by decide +kernel
theorem dX12_of_43 : decode cX12_of 43 = .ok (.iconst 1, 1) := by decide +kernel
theorem dX12_of_44 : decode cX12_of 44 = .ok (.if_icmp .ne 12, 3) := by decide +kernel
theorem dX12_of_47 : decode cX12_of 47 = .ok (.aload_n 0, 1) := by decide +kernel
theorem dX12_of_48 : decode cX12_of 48 = .ok (.getfield 21, 3) := by decide +kernel
theorem dX12_of_51 : decode cX12_of 51 = .ok (.iload_n 1, 1) := by decide +kernel
theorem dX12_of_52 : decode cX12_of 52 = .ok (.iaload, 1) := by decide +kernel
theorem dX12_of_53 : decode cX12_of 53 = .ok (.goto 45, 3) := by decide +kernel
theorem dX12_of_56 : decode cX12_of 56 = .ok (.iload_n 2, 1) := by decide +kernel
theorem dX12_of_57 : decode cX12_of 57 = .ok (.iconst 2, 1) := by decide +kernel
theorem dX12_of_58 : decode cX12_of 58 = .ok (.if_icmp .ne 12, 3) := by decide +kernel
theorem dX12_of_61 : decode cX12_of 61 = .ok (.aload_n 0, 1) := by decide +kernel
theorem dX12_of_62 : decode cX12_of 62 = .ok (.getfield 24, 3) := by decide +kernel
theorem dX12_of_65 : decode cX12_of 65 = .ok (.iload_n 1, 1) := by decide +kernel
theorem dX12_of_66 : decode cX12_of 66 = .ok (.iaload, 1) := by decide +kernel
theorem dX12_of_67 : decode cX12_of 67 = .ok (.goto 31, 3) := by decide +kernel
theorem dX12_of_70 : decode cX12_of 70 = .ok (.iload_n 2, 1) := by decide +kernel
theorem dX12_of_71 : decode cX12_of 71 = .ok (.iconst 3, 1) := by decide +kernel
theorem dX12_of_72 : decode cX12_of 72 = .ok (.if_icmp .ne 20, 3) := by decide +kernel
theorem dX12_of_75 : decode cX12_of 75 = .ok (.aload_n 0, 1) := by decide +kernel
theorem dX12_of_76 : decode cX12_of 76 = .ok (.getfield 17, 3) := by decide +kernel
theorem dX12_of_79 : decode cX12_of 79 = .ok (.iload_n 1, 1) := by decide +kernel
theorem dX12_of_80 : decode cX12_of 80 = .ok (.baload, 1) := by decide +kernel
theorem dX12_of_81 : decode cX12_of 81 = .ok (.ifCond .eq 7, 3) := by decide +kernel
theorem dX12_of_84 : decode cX12_of 84 = .ok (.iconst 1, 1) := by decide +kernel
theorem dX12_of_85 : decode cX12_of 85 = .ok (.goto 13, 3) := by decide +kernel
theorem dX12_of_88 : decode cX12_of 88 = .ok (.iconst 0, 1) := by decide +kernel
theorem dX12_of_89 : decode cX12_of 89 = .ok (.goto 9, 3) := by decide +kernel
theorem dX12_of_92 : decode cX12_of 92 = .ok (.aload_n 0, 1) := by decide +kernel
theorem dX12_of_93 : decode cX12_of 93 = .ok (.getfield 27, 3) := by decide +kernel
theorem dX12_of_96 : decode cX12_of 96 = .ok (.iload_n 1, 1) := by decide +kernel
theorem dX12_of_97 : decode cX12_of 97 = .ok (.iaload, 1) := by decide +kernel
theorem dX12_of_98 : decode cX12_of 98 = .ok (.ireturn, 1) := by decide +kernel
theorem dX12_law_0 : decode cX12_law 0 = .ok (.aload_n 0, 1) := by decide +kernel
theorem dX12_law_1 : decode cX12_law 1 = .ok (.iconst 0, 1) := by decide +kernel
theorem dX12_law_2 : decode cX12_law 2 = .ok (.putfield 110, 3) := by decide +kernel
theorem dX12_law_5 : decode cX12_law 5 = .ok (.iload_n 1, 1) := by decide +kernel
theorem dX12_law_6 : decode cX12_law 6 = .ok (.iconst 1, 1) := by decide +kernel
theorem dX12_law_7 : decode cX12_law 7 = .ok (.if_icmp .ne 7, 3) := by decide +kernel
theorem dX12_law_10 : decode cX12_law 10 = .ok (.iconst 1, 1) := by decide +kernel
theorem dX12_law_11 : decode cX12_law 11 = .ok (.goto 4, 3) := by decide +kernel
theorem dX12_law_14 : decode cX12_law 14 = .ok (.iconst 0, 1) := by decide +kernel
theorem dX12_law_15 : decode cX12_law 15 = .ok (.istore_n 3, 1) := by decide +kernel
theorem dX12_law_16 : decode cX12_law 16 = .ok (.iload_n 1, 1) := by decide +kernel
theorem dX12_law_17 : decode cX12_law 17 = .ok (.ifCond .eq 8, 3) := by decide +kernel
theorem dX12_law_20 : decode cX12_law 20 = .ok (.iload_n 1, 1) := by decide +kernel
theorem dX12_law_21 : decode cX12_law 21 = .ok (.iconst 1, 1) := by decide +kernel
theorem dX12_law_22 : decode cX12_law 22 = .ok (.if_icmp .ne 7, 3) := by decide +kernel
theorem dX12_law_25 : decode cX12_law 25 = .ok (.iconst 3, 1) := by decide +kernel
theorem dX12_law_26 : decode cX12_law 26 = .ok (.goto 24, 3) := by decide +kernel
theorem dX12_law_29 : decode cX12_law 29 = .ok (.iload_n 1, 1) := by decide +kernel
theorem dX12_law_30 : decode cX12_law 30 = .ok (.iconst 2, 1) := by decide +kernel
theorem dX12_law_31 : decode cX12_law 31 = .ok (.if_icmp .ne 7, 3) := by decide +kernel
theorem dX12_law_34 : decode cX12_law 34 = .ok (.iconst 2, 1) := by decide +kernel
theorem dX12_law_35 : decode cX12_law 35 = .ok (.goto 15, 3) := by decide +kernel
theorem dX12_law_38 : decode cX12_law 38 = .ok (.iload_n 1, 1) := by decide +kernel
theorem dX12_law_39 : decode cX12_law 39 = .ok (.iconst 3, 1) := by decide +kernel
theorem dX12_law_40 : decode cX12_law 40 = .ok (.if_icmp .ne 8, 3) := by decide +kernel
theorem dX12_law_43 : decode cX12_law 43 = .ok (.bipush 99, 2) := by decide +kernel
theorem dX12_law_45 : decode cX12_law 45 = .ok (.goto 5, 3) := by decide +kernel
theorem dX12_law_48 : decode cX12_law 48 = .ok (.bipush 50, 2) := by decide +kernel
theorem dX12_law_50 : decode cX12_law 50 = .ok (.istore 4, 2) := by decide +kernel
theorem dX12_law_52 : decode cX12_law 52 = .ok (.iload_n 1, 1) := by decide +kernel
theorem dX12_law_53 : decode cX12_law 53 = .ok (.i2l, 1) := by decide +kernel
theorem dX12_law_54 : decode cX12_law 54 = .ok (.lconst 0, 1) := by decide +kernel
theorem dX12_law_55 : decode cX12_law 55 = .ok (.ldc2_w 250, 3) := by decide +kernel
theorem dX12_law_58 : decode cX12_law 58 = .ok (.invokestatic 119, 3) := by decide +kernel
theorem dX12_law_61 : decode cX12_law 61 = .ok (.ifCond .eq 16, 3) := by decide +kernel
theorem dX12_law_64 : decode cX12_law 64 = .ok (.iload_n 2, 1) := by decide +kernel
theorem dX12_law_65 : decode cX12_law 65 = .ok (.i2l, 1) := by decide +kernel
theorem dX12_law_66 : decode cX12_law 66 = .ok (.iload_n 3, 1) := by decide +kernel
theorem dX12_law_67 : decode cX12_law 67 = .ok (.i2l, 1) := by decide +kernel
theorem dX12_law_68 : decode cX12_law 68 = .ok (.iload 4, 2) := by decide +kernel
theorem dX12_law_70 : decode cX12_law 70 = .ok (.i2l, 1) := by decide +kernel
theorem dX12_law_71 : decode cX12_law 71 = .ok (.invokestatic 119, 3) := by decide +kernel
theorem dX12_law_74 : decode cX12_law 74 = .ok (.ifCond .ne 5, 3) := by decide +kernel
theorem dX12_law_77 : decode cX12_law 77 = .ok (.iconst (-1), 1) := by decide +kernel
theorem dX12_law_78 : decode cX12_law 78 = .ok (.ireturn, 1) := by decide +kernel
theorem dX12_law_79 : decode cX12_law 79 = .ok (.aload_n 0, 1) := by decide +kernel
theorem dX12_law_80 : decode cX12_law 80 = .ok (.getfield 30, 3) := by decide +kernel
theorem dX12_law_83 : decode cX12_law 83 = .ok (.iload_n 1, 1) := by decide +kernel
theorem dX12_law_84 : decode cX12_law 84 = .ok (.iaload, 1) := by decide +kernel
theorem dX12_law_85 : decode cX12_law 85 = .ok (.istore 5, 2) := by decide +kernel
theorem dX12_law_87 : decode cX12_law 87 = .ok (.aload_n 0, 1) := by decide +kernel
theorem dX12_law_88 : decode cX12_law 88 = .ok (.getfield 30, 3) := by decide +kernel
theorem dX12_law_91 : decode cX12_law 91 = .ok (.iload_n 1, 1) := by decide +kernel
theorem dX12_law_92 : decode cX12_law 92 = .ok (.iload_n 2, 1) := by decide +kernel
theorem dX12_law_93 : decode cX12_law 93 = .ok (.iastore, 1) := by decide +kernel
theorem dX12_law_94 : decode cX12_law 94 = .ok (.iload 5, 2) := by decide +kernel
theorem dX12_law_96 : decode cX12_law 96 = .ok (.ireturn, 1) := by decide +kernel
theorem dX12_sheet_0 : decode cX12_sheet 0 = .ok (.aload_n 0, 1) := by decide +kernel
theorem dX12_sheet_1 : decode cX12_sheet 1 = .ok (.iconst 0, 1) := by decide +kernel
theorem dX12_sheet_2 : decode cX12_sheet 2 = .ok (.putfield 110, 3) := by decide +kernel
theorem dX12_sheet_5 : decode cX12_sheet 5 = .ok (.aload_n 0, 1) := by decide +kernel
theorem dX12_sheet_6 : decode cX12_sheet 6 = .ok (.iload_n 1, 1) := by decide +kernel
theorem dX12_sheet_7 : decode cX12_sheet 7 = .ok (.invokevirtual 244, 3) := by decide +kernel
theorem dX12_sheet_10 : decode cX12_sheet 10 = .ok (.ifCond .eq 21, 3) := by decide +kernel
theorem dX12_sheet_13 : decode cX12_sheet 13 = .ok (.iload_n 2, 1) := by decide +kernel
theorem dX12_sheet_14 : decode cX12_sheet 14 = .ok (.i2l, 1) := by decide +kernel
theorem dX12_sheet_15 : decode cX12_sheet 15 = .ok (.lconst 0, 1) := by decide +kernel
theorem dX12_sheet_16 : decode cX12_sheet 16 = .ok (.ldc2_w 258, 3) := by decide +kernel
theorem dX12_sheet_19 : decode cX12_sheet 19 = .ok (.invokestatic 119, 3) := by decide +kernel
theorem dX12_sheet_22 : decode cX12_sheet 22 = .ok (.ifCond .eq 9, 3) := by decide +kernel
theorem dX12_sheet_25 : decode cX12_sheet 25 = .ok (.iload_n 3, 1) := by decide +kernel
theorem dX12_sheet_26 : decode cX12_sheet 26 = .ok (.bipush 8, 2) := by decide +kernel
theorem dX12_sheet_28 : decode cX12_sheet 28 = .ok (.if_icmp .le 5, 3) := by decide +kernel
theorem dX12_sheet_31 : decode cX12_sheet 31 = .ok (.iconst (-1), 1) := by decide +kernel
theorem dX12_sheet_32 : decode cX12_sheet 32 = .ok (.ireturn, 1) := by decide +kernel
theorem dX12_sheet_33 : decode cX12_sheet 33 = .ok (.iload_n 2, 1) := by decide +kernel
theorem dX12_sheet_34 : decode cX12_sheet 34 = .ok (.iconst 3, 1) := by decide +kernel
theorem dX12_sheet_35 : decode cX12_sheet 35 = .ok (.if_icmp .ge 10, 3) := by decide +kernel
theorem dX12_sheet_38 : decode cX12_sheet 38 = .ok (.iload_n 3, 1) := by decide +kernel
theorem dX12_sheet_39 : decode cX12_sheet 39 = .ok (.ifCond .ge 6, 3) := by decide +kernel
theorem dX12_sheet_42 : decode cX12_sheet 42 = .ok (.bipush (-2), 2) := by decide +kernel
theorem dX12_sheet_44 : decode cX12_sheet 44 = .ok (.ireturn, 1) := by decide +kernel
theorem dX12_sheet_45 : decode cX12_sheet 45 = .ok (.iconst 0, 1) := by decide +kernel
theorem dX12_sheet_46 : decode cX12_sheet 46 = .ok (.istore 6, 2) := by decide +kernel
theorem dX12_sheet_48 : decode cX12_sheet 48 = .ok (.iload 4, 2) := by decide +kernel
theorem dX12_sheet_50 : decode cX12_sheet 50 = .ok (.istore 7, 2) := by decide +kernel
theorem dX12_sheet_52 : decode cX12_sheet 52 = .ok (.iconst 0, 1) := by decide +kernel
theorem dX12_sheet_53 : decode cX12_sheet 53 = .ok (.istore 8, 2) := by decide +kernel
theorem dX12_sheet_55 : decode cX12_sheet 55 = .ok (.iload 8, 2) := by decide +kernel
theorem dX12_sheet_57 : decode cX12_sheet 57 = .ok (.aload_n 0, 1) := by decide +kernel
theorem dX12_sheet_58 : decode cX12_sheet 58 = .ok (.getfield 116, 3) := by decide +kernel
theorem dX12_sheet_61 : decode cX12_sheet 61 = .ok (.if_icmp .ge 94, 3) := by decide +kernel
theorem dX12_sheet_64 : decode cX12_sheet 64 = .ok (.iload_n 2, 1) := by decide +kernel
theorem dX12_sheet_65 : decode cX12_sheet 65 = .ok (.ifCond .ne 9, 3) := by decide +kernel
theorem dX12_sheet_68 : decode cX12_sheet 68 = .ok (.iload 7, 2) := by decide +kernel
theorem dX12_sheet_70 : decode cX12_sheet 70 = .ok (.i2b, 1) := by decide +kernel
theorem dX12_sheet_71 : decode cX12_sheet 71 = .ok (.goto 16, 3) := by decide +kernel
theorem dX12_sheet_74 : decode cX12_sheet 74 = .ok (.iload_n 2, 1) := by decide +kernel
theorem dX12_sheet_75 : decode cX12_sheet 75 = .ok (.iconst 1, 1) := by decide +kernel
theorem dX12_sheet_76 : decode cX12_sheet 76 = .ok (.if_icmp .ne 9, 3) := by decide +kernel
theorem dX12_sheet_79 : decode cX12_sheet 79 = .ok (.iload 7, 2) := by decide +kernel
theorem dX12_sheet_81 : decode cX12_sheet 81 = .ok (.i2s, 1) := by decide +kernel
theorem dX12_sheet_82 : decode cX12_sheet 82 = .ok (.goto 5, 3) := by decide +kernel
theorem dX12_sheet_85 : decode cX12_sheet 85 = .ok (.iload 7, 2) := by decide +kernel
theorem dX12_sheet_87 : decode cX12_sheet 87 = .ok (.istore 9, 2) := by decide +kernel
theorem dX12_sheet_89 : decode cX12_sheet 89 = .ok (.aload_n 0, 1) := by decide +kernel
theorem dX12_sheet_90 : decode cX12_sheet 90 = .ok (.getfield 13, 3) := by decide +kernel
theorem dX12_sheet_93 : decode cX12_sheet 93 = .ok (.iconst 4, 1) := by decide +kernel
theorem dX12_sheet_94 : decode cX12_sheet 94 = .ok (.iload 8, 2) := by decide +kernel
theorem dX12_sheet_96 : decode cX12_sheet 96 = .ok (.imul, 1) := by decide +kernel
theorem dX12_sheet_97 : decode cX12_sheet 97 = .ok (.iload_n 1, 1) := by decide +kernel
theorem dX12_sheet_98 : decode cX12_sheet 98 = .ok (.iadd, 1) := by decide +kernel
theorem dX12_sheet_99 : decode cX12_sheet 99 = .ok (.iload_n 2, 1) := by decide +kernel
theorem dX12_sheet_100 : decode cX12_sheet 100 = .ok (.iconst 3, 1) := by decide +kernel
theorem dX12_sheet_101 : decode cX12_sheet 101 = .ok (.if_icmp .eq 9, 3) := by decide +kernel
theorem dX12_sheet_104 : decode cX12_sheet 104 = .ok (.iload 8, 2) := by decide +kernel
theorem dX12_sheet_106 : decode cX12_sheet 106 = .ok (.iload_n 3, 1) := by decide +kernel
theorem dX12_sheet_107 : decode cX12_sheet 107 = .ok (.if_icmp .lt 7, 3) := by decide +kernel
theorem dX12_sheet_110 : decode cX12_sheet 110 = .ok (.iconst 0, 1) := by decide +kernel
theorem dX12_sheet_111 : decode cX12_sheet 111 = .ok (.goto 14, 3) := by decide +kernel
theorem dX12_sheet_114 : decode cX12_sheet 114 = .ok (.iconst 0, 1) := by decide +kernel
theorem dX12_sheet_115 : decode cX12_sheet 115 = .ok (.bipush 7, 2) := by decide +kernel
theorem dX12_sheet_117 : decode cX12_sheet 117 = .ok (.iload 9, 2) := by decide +kernel
theorem dX12_sheet_119 : decode cX12_sheet 119 = .ok (.invokestatic 238, 3) := by decide +kernel
theorem dX12_sheet_122 : decode cX12_sheet 122 = .ok (.invokestatic 233, 3) := by decide +kernel
theorem dX12_sheet_125 : decode cX12_sheet 125 = .ok (.iastore, 1) := by decide +kernel
theorem dX12_sheet_126 : decode cX12_sheet 126 = .ok (.iload 6, 2) := by decide +kernel
theorem dX12_sheet_128 : decode cX12_sheet 128 = .ok (.aload_n 0, 1) := by decide +kernel
theorem dX12_sheet_129 : decode cX12_sheet 129 = .ok (.getfield 13, 3) := by decide +kernel
theorem dX12_sheet_132 : decode cX12_sheet 132 = .ok (.iconst 4, 1) := by decide +kernel
theorem dX12_sheet_133 : decode cX12_sheet 133 = .ok (.iload 8, 2) := by decide +kernel
theorem dX12_sheet_135 : decode cX12_sheet 135 = .ok (.imul, 1) := by decide +kernel
theorem dX12_sheet_136 : decode cX12_sheet 136 = .ok (.iload_n 1, 1) := by decide +kernel
theorem dX12_sheet_137 : decode cX12_sheet 137 = .ok (.iadd, 1) := by decide +kernel
theorem dX12_sheet_138 : decode cX12_sheet 138 = .ok (.iaload, 1) := by decide +kernel
theorem dX12_sheet_139 : decode cX12_sheet 139 = .ok (.iadd, 1) := by decide +kernel
theorem dX12_sheet_140 : decode cX12_sheet 140 = .ok (.istore 6, 2) := by decide +kernel
theorem dX12_sheet_142 : decode cX12_sheet 142 = .ok (.iload 7, 2) := by decide +kernel
theorem dX12_sheet_144 : decode cX12_sheet 144 = .ok (.iload 5, 2) := by decide +kernel
theorem dX12_sheet_146 : decode cX12_sheet 146 = .ok (.iadd, 1) := by decide +kernel
theorem dX12_sheet_147 : decode cX12_sheet 147 = .ok (.istore 7, 2) := by decide +kernel
theorem dX12_sheet_149 : decode cX12_sheet 149 = .ok (.iinc 8 1, 3) := by decide +kernel
theorem dX12_sheet_152 : decode cX12_sheet 152 = .ok (.goto (-97), 3) := by decide +kernel
theorem dX12_sheet_155 : decode cX12_sheet 155 = .ok (.aload_n 0, 1) := by decide +kernel
theorem dX12_sheet_156 : decode cX12_sheet 156 = .ok (.iconst 0, 1) := by decide +kernel
theorem dX12_sheet_157 : decode cX12_sheet 157 = .ok (.putfield 196, 3) := by decide +kernel
theorem dX12_sheet_160 : decode cX12_sheet 160 = .ok (.iload_n 2, 1) := by decide +kernel
theorem dX12_sheet_161 : decode cX12_sheet 161 = .ok (.iconst 3, 1) := by decide +kernel
theorem dX12_sheet_162 : decode cX12_sheet 162 = .ok (.if_icmp .ne 8, 3) := by decide +kernel
theorem dX12_sheet_165 : decode cX12_sheet 165 = .ok (.bipush (-3), 2) := by decide +kernel
theorem dX12_sheet_167 : decode cX12_sheet 167 = .ok (.goto 5, 3) := by decide +kernel
theorem dX12_sheet_170 : decode cX12_sheet 170 = .ok (.iload 6, 2) := by decide +kernel
theorem dX12_sheet_172 : decode cX12_sheet 172 = .ok (.ireturn, 1) := by decide +kernel
theorem dX12_ill_0 : decode cX12_ill 0 = .ok (.aload_n 0, 1) := by decide +kernel
theorem dX12_ill_1 : decode cX12_ill 1 = .ok (.iconst 0, 1) := by decide +kernel
theorem dX12_ill_2 : decode cX12_ill 2 = .ok (.putfield 110, 3) := by decide +kernel
theorem dX12_ill_5 : decode cX12_ill 5 = .ok (.aload_n 0, 1) := by decide +kernel
theorem dX12_ill_6 : decode cX12_ill 6 = .ok (.iload_n 1, 1) := by decide +kernel
theorem dX12_ill_7 : decode cX12_ill 7 = .ok (.invokevirtual 123, 3) := by decide +kernel
theorem dX12_ill_10 : decode cX12_ill 10 = .ok (.ifCond .ne 5, 3) := by decide +kernel
theorem dX12_ill_13 : decode cX12_ill 13 = .ok (.iconst 0, 1) := by decide +kernel
theorem dX12_ill_14 : decode cX12_ill 14 = .ok (.ireturn, 1) := by decide +kernel
theorem dX12_ill_15 : decode cX12_ill 15 = .ok (.aload_n 0, 1) := by decide +kernel
theorem dX12_ill_16 : decode cX12_ill 16 = .ok (.getfield 17, 3) := by decide +kernel
theorem dX12_ill_19 : decode cX12_ill 19 = .ok (.iload_n 1, 1) := by decide +kernel
theorem dX12_ill_20 : decode cX12_ill 20 = .ok (.iload_n 2, 1) := by decide +kernel
theorem dX12_ill_21 : decode cX12_ill 21 = .ok (.bastore, 1) := by decide +kernel
theorem dX12_ill_22 : decode cX12_ill 22 = .ok (.iconst 1, 1) := by decide +kernel
theorem dX12_ill_23 : decode cX12_ill 23 = .ok (.ireturn, 1) := by decide +kernel
theorem dX12_winner_0 : decode cX12_winner 0 = .ok (.iload_n 3, 1) := by decide +kernel
theorem dX12_winner_1 : decode cX12_winner 1 = .ok (.iconst 1, 1) := by decide +kernel
theorem dX12_winner_2 : decode cX12_winner 2 = .ok (.if_icmp .ne 5, 3) := by decide +kernel
theorem dX12_winner_5 : decode cX12_winner 5 = .ok (.iconst 1, 1) := by decide +kernel
theorem dX12_winner_6 : decode cX12_winner 6 = .ok (.ireturn, 1) := by decide +kernel
theorem dX12_winner_7 : decode cX12_winner 7 = .ok (.iload_n 3, 1) := by decide +kernel
theorem dX12_winner_8 : decode cX12_winner 8 = .ok (.iconst 2, 1) := by decide +kernel
theorem dX12_winner_9 : decode cX12_winner 9 = .ok (.if_icmp .ne 5, 3) := by decide +kernel
theorem dX12_winner_12 : decode cX12_winner 12 = .ok (.iconst 0, 1) := by decide +kernel
theorem dX12_winner_13 : decode cX12_winner 13 = .ok (.ireturn, 1) := by decide +kernel
theorem dX12_winner_14 : decode cX12_winner 14 = .ok (.iload_n 3, 1) := by decide +kernel
theorem dX12_winner_15 : decode cX12_winner 15 = .ok (.iconst 3, 1) := by decide +kernel
theorem dX12_winner_16 : decode cX12_winner 16 = .ok (.if_icmp .ne 5, 3) := by decide +kernel
theorem dX12_winner_19 : decode cX12_winner 19 = .ok (.iconst 2, 1) := by decide +kernel
theorem dX12_winner_20 : decode cX12_winner 20 = .ok (.ireturn, 1) := by decide +kernel
theorem dX12_winner_21 : decode cX12_winner 21 = .ok (.aload_n 0, 1) := by decide +kernel
theorem dX12_winner_22 : decode cX12_winner 22 = .ok (.iload_n 1, 1) := by decide +kernel
theorem dX12_winner_23 : decode cX12_winner 23 = .ok (.invokevirtual 255, 3) := by decide +kernel
theorem dX12_winner_26 : decode cX12_winner 26 = .ok (.aload_n 0, 1) := by decide +kernel
theorem dX12_winner_27 : decode cX12_winner 27 = .ok (.iload_n 2, 1) := by decide +kernel
theorem dX12_winner_28 : decode cX12_winner 28 = .ok (.invokevirtual 255, 3) := by decide +kernel
theorem dX12_winner_31 : decode cX12_winner 31 = .ok (.isub, 1) := by decide +kernel
theorem dX12_winner_32 : decode cX12_winner 32 = .ok (.istore 4, 2) := by decide +kernel
theorem dX12_winner_34 : decode cX12_winner 34 = .ok (.iload 4, 2) := by decide +kernel
theorem dX12_winner_36 : decode cX12_winner 36 = .ok (.aload_n 0, 1) := by decide +kernel
theorem dX12_winner_37 : decode cX12_winner 37 = .ok (.getfield 30, 3) := by decide +kernel
theorem dX12_winner_40 : decode cX12_winner 40 = .ok (.iconst 3, 1) := by decide +kernel
theorem dX12_winner_41 : decode cX12_winner 41 = .ok (.iaload, 1) := by decide +kernel
theorem dX12_winner_42 : decode cX12_winner 42 = .ok (.if_icmp .le 7, 3) := by decide +kernel
theorem dX12_winner_45 : decode cX12_winner 45 = .ok (.iconst 0, 1) := by decide +kernel
theorem dX12_winner_46 : decode cX12_winner 46 = .ok (.goto 20, 3) := by decide +kernel
theorem dX12_winner_49 : decode cX12_winner 49 = .ok (.iload 4, 2) := by decide +kernel
theorem dX12_winner_51 : decode cX12_winner 51 = .ok (.ineg, 1) := by decide +kernel
theorem dX12_winner_52 : decode cX12_winner 52 = .ok (.aload_n 0, 1) := by decide +kernel
theorem dX12_winner_53 : decode cX12_winner 53 = .ok (.getfield 30, 3) := by decide +kernel
theorem dX12_winner_56 : decode cX12_winner 56 = .ok (.iconst 3, 1) := by decide +kernel
theorem dX12_winner_57 : decode cX12_winner 57 = .ok (.iaload, 1) := by decide +kernel
theorem dX12_winner_58 : decode cX12_winner 58 = .ok (.if_icmp .le 7, 3) := by decide +kernel
theorem dX12_winner_61 : decode cX12_winner 61 = .ok (.iconst 1, 1) := by decide +kernel
theorem dX12_winner_62 : decode cX12_winner 62 = .ok (.goto 4, 3) := by decide +kernel
theorem dX12_winner_65 : decode cX12_winner 65 = .ok (.iconst 2, 1) := by decide +kernel
theorem dX12_winner_66 : decode cX12_winner 66 = .ok (.ireturn, 1) := by decide +kernel
theorem dX12_artOf_0 : decode cX12_artOf 0 = .ok (.iconst (-1), 1) := by decide +kernel
theorem dX12_artOf_1 : decode cX12_artOf 1 = .ok (.istore_n 3, 1) := by decide +kernel
theorem dX12_artOf_2 : decode cX12_artOf 2 = .ok (.iconst 0, 1) := by decide +kernel
theorem dX12_artOf_3 : decode cX12_artOf 3 = .ok (.istore 4, 2) := by decide +kernel
theorem dX12_artOf_5 : decode cX12_artOf 5 = .ok (.iconst 0, 1) := by decide +kernel
theorem dX12_artOf_6 : decode cX12_artOf 6 = .ok (.istore 5, 2) := by decide +kernel
theorem dX12_artOf_8 : decode cX12_artOf 8 = .ok (.iload 5, 2) := by decide +kernel
theorem dX12_artOf_10 : decode cX12_artOf 10 = .ok (.aload_n 0, 1) := by decide +kernel
theorem dX12_artOf_11 : decode cX12_artOf 11 = .ok (.getfield 9, 3) := by decide +kernel
theorem dX12_artOf_14 : decode cX12_artOf 14 = .ok (.if_icmp .ge 51, 3) := by decide +kernel
theorem dX12_artOf_17 : decode cX12_artOf 17 = .ok (.aload_n 0, 1) := by decide +kernel
theorem dX12_artOf_18 : decode cX12_artOf 18 = .ok (.getfield 13, 3) := by decide +kernel
theorem dX12_artOf_21 : decode cX12_artOf 21 = .ok (.iconst 4, 1) := by decide +kernel
theorem dX12_artOf_22 : decode cX12_artOf 22 = .ok (.iload_n 1, 1) := by decide +kernel
theorem dX12_artOf_23 : decode cX12_artOf 23 = .ok (.imul, 1) := by decide +kernel
theorem dX12_artOf_24 : decode cX12_artOf 24 = .ok (.iload 5, 2) := by decide +kernel
theorem dX12_artOf_26 : decode cX12_artOf 26 = .ok (.iadd, 1) := by decide +kernel
theorem dX12_artOf_27 : decode cX12_artOf 27 = .ok (.iaload, 1) := by decide +kernel
theorem dX12_artOf_28 : decode cX12_artOf 28 = .ok (.aload_n 0, 1) := by decide +kernel
theorem dX12_artOf_29 : decode cX12_artOf 29 = .ok (.getfield 13, 3) := by decide +kernel
theorem dX12_artOf_32 : decode cX12_artOf 32 = .ok (.iconst 4, 1) := by decide +kernel
theorem dX12_artOf_33 : decode cX12_artOf 33 = .ok (.iload_n 2, 1) := by decide +kernel
theorem dX12_artOf_34 : decode cX12_artOf 34 = .ok (.imul, 1) := by decide +kernel
theorem dX12_artOf_35 : decode cX12_artOf 35 = .ok (.iload 5, 2) := by decide +kernel
theorem dX12_artOf_37 : decode cX12_artOf 37 = .ok (.iadd, 1) := by decide +kernel
theorem dX12_artOf_38 : decode cX12_artOf 38 = .ok (.iaload, 1) := by decide +kernel
theorem dX12_artOf_39 : decode cX12_artOf 39 = .ok (.isub, 1) := by decide +kernel
theorem dX12_artOf_40 : decode cX12_artOf 40 = .ok (.istore 6, 2) := by decide +kernel
theorem dX12_artOf_42 : decode cX12_artOf 42 = .ok (.iload 6, 2) := by decide +kernel
theorem dX12_artOf_44 : decode cX12_artOf 44 = .ok (.iload 4, 2) := by decide +kernel
theorem dX12_artOf_46 : decode cX12_artOf 46 = .ok (.if_icmp .gt 6, 3) := by decide +kernel
theorem dX12_artOf_49 : decode cX12_artOf 49 = .ok (.goto 10, 3) := by decide +kernel
theorem dX12_artOf_52 : decode cX12_artOf 52 = .ok (.iload 5, 2) := by decide +kernel
theorem dX12_artOf_54 : decode cX12_artOf 54 = .ok (.istore_n 3, 1) := by decide +kernel
theorem dX12_artOf_55 : decode cX12_artOf 55 = .ok (.iload 6, 2) := by decide +kernel
theorem dX12_artOf_57 : decode cX12_artOf 57 = .ok (.istore 4, 2) := by decide +kernel
theorem dX12_artOf_59 : decode cX12_artOf 59 = .ok (.iinc 5 1, 3) := by decide +kernel
theorem dX12_artOf_62 : decode cX12_artOf 62 = .ok (.goto (-54), 3) := by decide +kernel
theorem dX12_artOf_65 : decode cX12_artOf 65 = .ok (.iload_n 3, 1) := by decide +kernel
theorem dX12_artOf_66 : decode cX12_artOf 66 = .ok (.ireturn, 1) := by decide +kernel
theorem dX12_gainOf_0 : decode cX12_gainOf 0 = .ok (.aload_n 0, 1) := by decide +kernel
theorem dX12_gainOf_1 : decode cX12_gainOf 1 = .ok (.getfield 17, 3) := by decide +kernel
theorem dX12_gainOf_4 : decode cX12_gainOf 4 = .ok (.iload_n 1, 1) := by decide +kernel
theorem dX12_gainOf_5 : decode cX12_gainOf 5 = .ok (.baload, 1) := by decide +kernel
theorem dX12_gainOf_6 : decode cX12_gainOf 6 = .ok (.ifCond .eq 7, 3) := by decide +kernel
theorem dX12_gainOf_9 : decode cX12_gainOf 9 = .ok (.iconst 0, 1) := by decide +kernel
theorem dX12_gainOf_10 : decode cX12_gainOf 10 = .ok (.goto 33, 3) := by decide +kernel
theorem dX12_gainOf_13 : decode cX12_gainOf 13 = .ok (.aload_n 0, 1) := by decide +kernel
theorem dX12_gainOf_14 : decode cX12_gainOf 14 = .ok (.getfield 30, 3) := by decide +kernel
theorem dX12_gainOf_17 : decode cX12_gainOf 17 = .ok (.iconst 1, 1) := by decide +kernel
theorem dX12_gainOf_18 : decode cX12_gainOf 18 = .ok (.iaload, 1) := by decide +kernel
theorem dX12_gainOf_19 : decode cX12_gainOf 19 = .ok (.aload_n 0, 1) := by decide +kernel
theorem dX12_gainOf_20 : decode cX12_gainOf 20 = .ok (.getfield 13, 3) := by decide +kernel
theorem dX12_gainOf_23 : decode cX12_gainOf 23 = .ok (.iconst 4, 1) := by decide +kernel
theorem dX12_gainOf_24 : decode cX12_gainOf 24 = .ok (.iload_n 1, 1) := by decide +kernel
theorem dX12_gainOf_25 : decode cX12_gainOf 25 = .ok (.imul, 1) := by decide +kernel
theorem dX12_gainOf_26 : decode cX12_gainOf 26 = .ok (.iload_n 3, 1) := by decide +kernel
theorem dX12_gainOf_27 : decode cX12_gainOf 27 = .ok (.iadd, 1) := by decide +kernel
theorem dX12_gainOf_28 : decode cX12_gainOf 28 = .ok (.iaload, 1) := by decide +kernel
theorem dX12_gainOf_29 : decode cX12_gainOf 29 = .ok (.aload_n 0, 1) := by decide +kernel
theorem dX12_gainOf_30 : decode cX12_gainOf 30 = .ok (.getfield 13, 3) := by decide +kernel
theorem dX12_gainOf_33 : decode cX12_gainOf 33 = .ok (.iconst 4, 1) := by decide +kernel
theorem dX12_gainOf_34 : decode cX12_gainOf 34 = .ok (.iload_n 2, 1) := by decide +kernel
theorem dX12_gainOf_35 : decode cX12_gainOf 35 = .ok (.imul, 1) := by decide +kernel
theorem dX12_gainOf_36 : decode cX12_gainOf 36 = .ok (.iload_n 3, 1) := by decide +kernel
theorem dX12_gainOf_37 : decode cX12_gainOf 37 = .ok (.iadd, 1) := by decide +kernel
theorem dX12_gainOf_38 : decode cX12_gainOf 38 = .ok (.iaload, 1) := by decide +kernel
theorem dX12_gainOf_39 : decode cX12_gainOf 39 = .ok (.isub, 1) := by decide +kernel
theorem dX12_gainOf_40 : decode cX12_gainOf 40 = .ok (.invokestatic 238, 3) := by decide +kernel
theorem dX12_gainOf_43 : decode cX12_gainOf 43 = .ok (.ireturn, 1) := by decide +kernel
theorem dX12_teach_0 : decode cX12_teach 0 = .ok (.aload_n 0, 1) := by decide +kernel
theorem dX12_teach_1 : decode cX12_teach 1 = .ok (.iload_n 1, 1) := by decide +kernel
theorem dX12_teach_2 : decode cX12_teach 2 = .ok (.iload_n 2, 1) := by decide +kernel
theorem dX12_teach_3 : decode cX12_teach 3 = .ok (.invokevirtual 260, 3) := by decide +kernel
theorem dX12_teach_6 : decode cX12_teach 6 = .ok (.istore_n 3, 1) := by decide +kernel
theorem dX12_teach_7 : decode cX12_teach 7 = .ok (.iload_n 3, 1) := by decide +kernel
theorem dX12_teach_8 : decode cX12_teach 8 = .ok (.iconst (-1), 1) := by decide +kernel
theorem dX12_teach_9 : decode cX12_teach 9 = .ok (.if_icmp .ne 4, 3) := by decide +kernel
theorem dX12_teach_12 : decode cX12_teach 12 = .ok (.return_, 1) := by decide +kernel
theorem dX12_teach_13 : decode cX12_teach 13 = .ok (.aload_n 0, 1) := by decide +kernel
theorem dX12_teach_14 : decode cX12_teach 14 = .ok (.iload_n 1, 1) := by decide +kernel
theorem dX12_teach_15 : decode cX12_teach 15 = .ok (.iload_n 2, 1) := by decide +kernel
theorem dX12_teach_16 : decode cX12_teach 16 = .ok (.iload_n 3, 1) := by decide +kernel
theorem dX12_teach_17 : decode cX12_teach 17 = .ok (.invokevirtual 263, 3) := by decide +kernel
theorem dX12_teach_20 : decode cX12_teach 20 = .ok (.istore 4, 2) := by decide +kernel
theorem dX12_teach_22 : decode cX12_teach 22 = .ok (.aload_n 0, 1) := by decide +kernel
theorem dX12_teach_23 : decode cX12_teach 23 = .ok (.getfield 13, 3) := by decide +kernel
theorem dX12_teach_26 : decode cX12_teach 26 = .ok (.iconst 4, 1) := by decide +kernel
theorem dX12_teach_27 : decode cX12_teach 27 = .ok (.iload_n 2, 1) := by decide +kernel
theorem dX12_teach_28 : decode cX12_teach 28 = .ok (.imul, 1) := by decide +kernel
theorem dX12_teach_29 : decode cX12_teach 29 = .ok (.iload_n 3, 1) := by decide +kernel
theorem dX12_teach_30 : decode cX12_teach 30 = .ok (.iadd, 1) := by decide +kernel
theorem dX12_teach_31 : decode cX12_teach 31 = .ok (.dup2, 1) := by decide +kernel
theorem dX12_teach_32 : decode cX12_teach 32 = .ok (.iaload, 1) := by decide +kernel
theorem dX12_teach_33 : decode cX12_teach 33 = .ok (.iload 4, 2) := by decide +kernel
theorem dX12_teach_35 : decode cX12_teach 35 = .ok (.iadd, 1) := by decide +kernel
theorem dX12_teach_36 : decode cX12_teach 36 = .ok (.iastore, 1) := by decide +kernel
theorem dX12_teach_37 : decode cX12_teach 37 = .ok (.aload_n 0, 1) := by decide +kernel
theorem dX12_teach_38 : decode cX12_teach 38 = .ok (.getfield 24, 3) := by decide +kernel
theorem dX12_teach_41 : decode cX12_teach 41 = .ok (.iload_n 1, 1) := by decide +kernel
theorem dX12_teach_42 : decode cX12_teach 42 = .ok (.dup2, 1) := by decide +kernel
theorem dX12_teach_43 : decode cX12_teach 43 = .ok (.iaload, 1) := by decide +kernel
theorem dX12_teach_44 : decode cX12_teach 44 = .ok (.iload 4, 2) := by decide +kernel
theorem dX12_teach_46 : decode cX12_teach 46 = .ok (.iadd, 1) := by decide +kernel
theorem dX12_teach_47 : decode cX12_teach 47 = .ok (.iastore, 1) := by decide +kernel
theorem dX12_teach_48 : decode cX12_teach 48 = .ok (.aload_n 0, 1) := by decide +kernel
theorem dX12_teach_49 : decode cX12_teach 49 = .ok (.getfield 13, 3) := by decide +kernel
theorem dX12_teach_52 : decode cX12_teach 52 = .ok (.iconst 4, 1) := by decide +kernel
theorem dX12_teach_53 : decode cX12_teach 53 = .ok (.iload_n 1, 1) := by decide +kernel
theorem dX12_teach_54 : decode cX12_teach 54 = .ok (.imul, 1) := by decide +kernel
theorem dX12_teach_55 : decode cX12_teach 55 = .ok (.iload_n 3, 1) := by decide +kernel
theorem dX12_teach_56 : decode cX12_teach 56 = .ok (.iadd, 1) := by decide +kernel
theorem dX12_teach_57 : decode cX12_teach 57 = .ok (.iconst 0, 1) := by decide +kernel
theorem dX12_teach_58 : decode cX12_teach 58 = .ok (.bipush 7, 2) := by decide +kernel
theorem dX12_teach_60 : decode cX12_teach 60 = .ok (.aload_n 0, 1) := by decide +kernel
theorem dX12_teach_61 : decode cX12_teach 61 = .ok (.getfield 13, 3) := by decide +kernel
theorem dX12_teach_64 : decode cX12_teach 64 = .ok (.iconst 4, 1) := by decide +kernel
theorem dX12_teach_65 : decode cX12_teach 65 = .ok (.iload_n 1, 1) := by decide +kernel
theorem dX12_teach_66 : decode cX12_teach 66 = .ok (.imul, 1) := by decide +kernel
theorem dX12_teach_67 : decode cX12_teach 67 = .ok (.iload_n 3, 1) := by decide +kernel
theorem dX12_teach_68 : decode cX12_teach 68 = .ok (.iadd, 1) := by decide +kernel
theorem dX12_teach_69 : decode cX12_teach 69 = .ok (.iaload, 1) := by decide +kernel
theorem dX12_teach_70 : decode cX12_teach 70 = .ok (.aload_n 0, 1) := by decide +kernel
theorem dX12_teach_71 : decode cX12_teach 71 = .ok (.getfield 30, 3) := by decide +kernel
theorem dX12_teach_74 : decode cX12_teach 74 = .ok (.iconst 2, 1) := by decide +kernel
theorem dX12_teach_75 : decode cX12_teach 75 = .ok (.iaload, 1) := by decide +kernel
theorem dX12_teach_76 : decode cX12_teach 76 = .ok (.iadd, 1) := by decide +kernel
theorem dX12_teach_77 : decode cX12_teach 77 = .ok (.iconst 1, 1) := by decide +kernel
theorem dX12_teach_78 : decode cX12_teach 78 = .ok (.isub, 1) := by decide +kernel
theorem dX12_teach_79 : decode cX12_teach 79 = .ok (.invokestatic 238, 3) := by decide +kernel
theorem dX12_teach_82 : decode cX12_teach 82 = .ok (.invokestatic 233, 3) := by decide +kernel
theorem dX12_teach_85 : decode cX12_teach 85 = .ok (.iastore, 1) := by decide +kernel
theorem dX12_teach_86 : decode cX12_teach 86 = .ok (.return_, 1) := by decide +kernel
theorem dX12_isThrown_0 : decode cX12_isThrown 0 = .ok (.iload_n 0, 1) := by decide +kernel
theorem dX12_isThrown_1 : decode cX12_isThrown 1 = .ok (.i2l, 1) := by decide +kernel
theorem dX12_isThrown_2 : decode cX12_isThrown 2 = .ok (.lconst 0, 1) := by decide +kernel
theorem dX12_isThrown_3 : decode cX12_isThrown 3 = .ok (.ldc2_w 258, 3) := by decide +kernel
theorem dX12_isThrown_6 : decode cX12_isThrown 6 = .ok (.invokestatic 119, 3) := by decide +kernel
theorem dX12_isThrown_9 : decode cX12_isThrown 9 = .ok (.ireturn, 1) := by decide +kernel
theorem dX12_game_0 : decode cX12_game 0 = .ok (.aload_n 0, 1) := by decide +kernel
theorem dX12_game_1 : decode cX12_game 1 = .ok (.iconst 0, 1) := by decide +kernel
theorem dX12_game_2 : decode cX12_game 2 = .ok (.putfield 110, 3) := by decide +kernel
theorem dX12_game_5 : decode cX12_game 5 = .ok (.aload_n 0, 1) := by decide +kernel
theorem dX12_game_6 : decode cX12_game 6 = .ok (.iload_n 1, 1) := by decide +kernel
theorem dX12_game_7 : decode cX12_game 7 = .ok (.iload_n 2, 1) := by decide +kernel
theorem dX12_game_8 : decode cX12_game 8 = .ok (.invokevirtual 267, 3) := by decide +kernel
theorem dX12_game_11 : decode cX12_game 11 = .ok (.ifCond .eq 10, 3) := by decide +kernel
theorem dX12_game_14 : decode cX12_game 14 = .ok (.iload_n 3, 1) := by decide +kernel
theorem dX12_game_15 : decode cX12_game 15 = .ok (.invokestatic 270, 3) := by decide +kernel
theorem dX12_game_18 : decode cX12_game 18 = .ok (.ifCond .ne 5, 3) := by decide +kernel
theorem dX12_game_21 : decode cX12_game 21 = .ok (.iconst (-1), 1) := by decide +kernel
theorem dX12_game_22 : decode cX12_game 22 = .ok (.ireturn, 1) := by decide +kernel
theorem dX12_game_23 : decode cX12_game 23 = .ok (.aload_n 0, 1) := by decide +kernel
theorem dX12_game_24 : decode cX12_game 24 = .ok (.iload_n 1, 1) := by decide +kernel
theorem dX12_game_25 : decode cX12_game 25 = .ok (.iload_n 2, 1) := by decide +kernel
theorem dX12_game_26 : decode cX12_game 26 = .ok (.iload_n 3, 1) := by decide +kernel
theorem dX12_game_27 : decode cX12_game 27 = .ok (.invokevirtual 273, 3) := by decide +kernel
theorem dX12_game_30 : decode cX12_game 30 = .ok (.istore 4, 2) := by decide +kernel
theorem dX12_game_32 : decode cX12_game 32 = .ok (.aload_n 0, 1) := by decide +kernel
theorem dX12_game_33 : decode cX12_game 33 = .ok (.iconst 0, 1) := by decide +kernel
theorem dX12_game_34 : decode cX12_game 34 = .ok (.putfield 113, 3) := by decide +kernel
theorem dX12_game_37 : decode cX12_game 37 = .ok (.iconst (-1), 1) := by decide +kernel
theorem dX12_game_38 : decode cX12_game 38 = .ok (.istore 5, 2) := by decide +kernel
theorem dX12_game_40 : decode cX12_game 40 = .ok (.iconst 0, 1) := by decide +kernel
theorem dX12_game_41 : decode cX12_game 41 = .ok (.istore 6, 2) := by decide +kernel
theorem dX12_game_43 : decode cX12_game 43 = .ok (.iload 4, 2) := by decide +kernel
theorem dX12_game_45 : decode cX12_game 45 = .ok (.iconst 2, 1) := by decide +kernel
theorem dX12_game_46 : decode cX12_game 46 = .ok (.if_icmp .eq 104, 3) := by decide +kernel
theorem dX12_game_49 : decode cX12_game 49 = .ok (.aload_n 0, 1) := by decide +kernel
theorem dX12_game_50 : decode cX12_game 50 = .ok (.getfield 30, 3) := by decide +kernel
theorem dX12_game_53 : decode cX12_game 53 = .ok (.iconst 0, 1) := by decide +kernel
theorem dX12_game_54 : decode cX12_game 54 = .ok (.iaload, 1) := by decide +kernel
theorem dX12_game_55 : decode cX12_game 55 = .ok (.iconst 3, 1) := by decide +kernel
theorem dX12_game_56 : decode cX12_game 56 = .ok (.if_icmp .eq 94, 3) := by decide +kernel
theorem dX12_game_59 : decode cX12_game 59 = .ok (.iload 4, 2) := by decide +kernel
theorem dX12_game_61 : decode cX12_game 61 = .ok (.ifCond .ne 7, 3) := by decide +kernel
theorem dX12_game_64 : decode cX12_game 64 = .ok (.iconst 1, 1) := by decide +kernel
theorem dX12_game_65 : decode cX12_game 65 = .ok (.goto 4, 3) := by decide +kernel
theorem dX12_game_68 : decode cX12_game 68 = .ok (.iconst 0, 1) := by decide +kernel
theorem dX12_game_69 : decode cX12_game 69 = .ok (.aload_n 0, 1) := by decide +kernel
theorem dX12_game_70 : decode cX12_game 70 = .ok (.getfield 30, 3) := by decide +kernel
theorem dX12_game_73 : decode cX12_game 73 = .ok (.iconst 0, 1) := by decide +kernel
theorem dX12_game_74 : decode cX12_game 74 = .ok (.iaload, 1) := by decide +kernel
theorem dX12_game_75 : decode cX12_game 75 = .ok (.iconst 1, 1) := by decide +kernel
theorem dX12_game_76 : decode cX12_game 76 = .ok (.if_icmp .eq 7, 3) := by decide +kernel
theorem dX12_game_79 : decode cX12_game 79 = .ok (.iconst 1, 1) := by decide +kernel
theorem dX12_game_80 : decode cX12_game 80 = .ok (.goto 4, 3) := by decide +kernel
theorem dX12_game_83 : decode cX12_game 83 = .ok (.iconst 0, 1) := by decide +kernel
theorem dX12_game_84 : decode cX12_game 84 = .ok (.if_icmp .ne 7, 3) := by decide +kernel
theorem dX12_game_87 : decode cX12_game 87 = .ok (.iconst 1, 1) := by decide +kernel
theorem dX12_game_88 : decode cX12_game 88 = .ok (.goto 4, 3) := by decide +kernel
theorem dX12_game_91 : decode cX12_game 91 = .ok (.iconst 0, 1) := by decide +kernel
theorem dX12_game_92 : decode cX12_game 92 = .ok (.istore 7, 2) := by decide +kernel
theorem dX12_game_94 : decode cX12_game 94 = .ok (.iload 7, 2) := by decide +kernel
theorem dX12_game_96 : decode cX12_game 96 = .ok (.ifCond .eq 7, 3) := by decide +kernel
theorem dX12_game_99 : decode cX12_game 99 = .ok (.iload_n 1, 1) := by decide +kernel
theorem dX12_game_100 : decode cX12_game 100 = .ok (.goto 4, 3) := by decide +kernel
theorem dX12_game_103 : decode cX12_game 103 = .ok (.iload_n 2, 1) := by decide +kernel
theorem dX12_game_104 : decode cX12_game 104 = .ok (.istore 8, 2) := by decide +kernel
theorem dX12_game_106 : decode cX12_game 106 = .ok (.iload 7, 2) := by decide +kernel
theorem dX12_game_108 : decode cX12_game 108 = .ok (.ifCond .eq 7, 3) := by decide +kernel
theorem dX12_game_111 : decode cX12_game 111 = .ok (.iload_n 2, 1) := by decide +kernel
theorem dX12_game_112 : decode cX12_game 112 = .ok (.goto 4, 3) := by decide +kernel
theorem dX12_game_115 : decode cX12_game 115 = .ok (.iload_n 1, 1) := by decide +kernel
theorem dX12_game_116 : decode cX12_game 116 = .ok (.istore 9, 2) := by decide +kernel
theorem dX12_game_118 : decode cX12_game 118 = .ok (.aload_n 0, 1) := by decide +kernel
theorem dX12_game_119 : decode cX12_game 119 = .ok (.iload 8, 2) := by decide +kernel
theorem dX12_game_121 : decode cX12_game 121 = .ok (.iload 9, 2) := by decide +kernel
theorem dX12_game_123 : decode cX12_game 123 = .ok (.invokevirtual 260, 3) := by decide +kernel
theorem dX12_game_126 : decode cX12_game 126 = .ok (.istore 5, 2) := by decide +kernel
theorem dX12_game_128 : decode cX12_game 128 = .ok (.iload 5, 2) := by decide +kernel
theorem dX12_game_130 : decode cX12_game 130 = .ok (.iconst (-1), 1) := by decide +kernel
theorem dX12_game_131 : decode cX12_game 131 = .ok (.if_icmp .ne 7, 3) := by decide +kernel
theorem dX12_game_134 : decode cX12_game 134 = .ok (.iconst 0, 1) := by decide +kernel
theorem dX12_game_135 : decode cX12_game 135 = .ok (.goto 13, 3) := by decide +kernel
theorem dX12_game_138 : decode cX12_game 138 = .ok (.aload_n 0, 1) := by decide +kernel
theorem dX12_game_139 : decode cX12_game 139 = .ok (.iload 8, 2) := by decide +kernel
theorem dX12_game_141 : decode cX12_game 141 = .ok (.iload 9, 2) := by decide +kernel
theorem dX12_game_143 : decode cX12_game 143 = .ok (.iload 5, 2) := by decide +kernel
theorem dX12_game_145 : decode cX12_game 145 = .ok (.invokevirtual 263, 3) := by decide +kernel
theorem dX12_game_148 : decode cX12_game 148 = .ok (.istore 6, 2) := by decide +kernel
theorem dX12_game_150 : decode cX12_game 150 = .ok (.aload_n 0, 1) := by decide +kernel
theorem dX12_game_151 : decode cX12_game 151 = .ok (.iload 5, 2) := by decide +kernel
theorem dX12_game_153 : decode cX12_game 153 = .ok (.i2l, 1) := by decide +kernel
theorem dX12_game_154 : decode cX12_game 154 = .ok (.invokevirtual 131, 3) := by decide +kernel
theorem dX12_game_157 : decode cX12_game 157 = .ok (.aload_n 0, 1) := by decide +kernel
theorem dX12_game_158 : decode cX12_game 158 = .ok (.iload 6, 2) := by decide +kernel
theorem dX12_game_160 : decode cX12_game 160 = .ok (.i2l, 1) := by decide +kernel
theorem dX12_game_161 : decode cX12_game 161 = .ok (.invokevirtual 131, 3) := by decide +kernel
theorem dX12_game_164 : decode cX12_game 164 = .ok (.iload 4, 2) := by decide +kernel
theorem dX12_game_166 : decode cX12_game 166 = .ok (.ireturn, 1) := by decide +kernel
theorem dX12_chanceOf_0 : decode cX12_chanceOf 0 = .ok (.iconst 0, 1) := by decide +kernel
theorem dX12_chanceOf_1 : decode cX12_chanceOf 1 = .ok (.bipush 100, 2) := by decide +kernel
theorem dX12_chanceOf_3 : decode cX12_chanceOf 3 = .ok (.bipush 50, 2) := by decide +kernel
theorem dX12_chanceOf_5 : decode cX12_chanceOf 5 = .ok (.aload_n 0, 1) := by decide +kernel
theorem dX12_chanceOf_6 : decode cX12_chanceOf 6 = .ok (.getfield 30, 3) := by decide +kernel
theorem dX12_chanceOf_9 : decode cX12_chanceOf 9 = .ok (.iconst 4, 1) := by decide +kernel
theorem dX12_chanceOf_10 : decode cX12_chanceOf 10 = .ok (.iaload, 1) := by decide +kernel
theorem dX12_chanceOf_11 : decode cX12_chanceOf 11 = .ok (.aload_n 0, 1) := by decide +kernel
theorem dX12_chanceOf_12 : decode cX12_chanceOf 12 = .ok (.iload_n 1, 1) := by decide +kernel
theorem dX12_chanceOf_13 : decode cX12_chanceOf 13 = .ok (.invokevirtual 255, 3) := by decide +kernel
theorem dX12_chanceOf_16 : decode cX12_chanceOf 16 = .ok (.aload_n 0, 1) := by decide +kernel
theorem dX12_chanceOf_17 : decode cX12_chanceOf 17 = .ok (.iload_n 2, 1) := by decide +kernel
theorem dX12_chanceOf_18 : decode cX12_chanceOf 18 = .ok (.invokevirtual 255, 3) := by decide +kernel
theorem dX12_chanceOf_21 : decode cX12_chanceOf 21 = .ok (.isub, 1) := by decide +kernel
theorem dX12_chanceOf_22 : decode cX12_chanceOf 22 = .ok (.imul, 1) := by decide +kernel
theorem dX12_chanceOf_23 : decode cX12_chanceOf 23 = .ok (.iadd, 1) := by decide +kernel
theorem dX12_chanceOf_24 : decode cX12_chanceOf 24 = .ok (.invokestatic 238, 3) := by decide +kernel
theorem dX12_chanceOf_27 : decode cX12_chanceOf 27 = .ok (.invokestatic 233, 3) := by decide +kernel
theorem dX12_chanceOf_30 : decode cX12_chanceOf 30 = .ok (.ireturn, 1) := by decide +kernel
theorem dX12_odds_0 : decode cX12_odds 0 = .ok (.aload_n 0, 1) := by decide +kernel
theorem dX12_odds_1 : decode cX12_odds 1 = .ok (.iconst 0, 1) := by decide +kernel
theorem dX12_odds_2 : decode cX12_odds 2 = .ok (.putfield 110, 3) := by decide +kernel
theorem dX12_odds_5 : decode cX12_odds 5 = .ok (.aload_n 0, 1) := by decide +kernel
theorem dX12_odds_6 : decode cX12_odds 6 = .ok (.iload_n 1, 1) := by decide +kernel
theorem dX12_odds_7 : decode cX12_odds 7 = .ok (.iload_n 2, 1) := by decide +kernel
theorem dX12_odds_8 : decode cX12_odds 8 = .ok (.invokevirtual 267, 3) := by decide +kernel
theorem dX12_odds_11 : decode cX12_odds 11 = .ok (.ifCond .eq 12, 3) := by decide +kernel
theorem dX12_odds_14 : decode cX12_odds 14 = .ok (.aload_n 0, 1) := by decide +kernel
theorem dX12_odds_15 : decode cX12_odds 15 = .ok (.iload_n 1, 1) := by decide +kernel
theorem dX12_odds_16 : decode cX12_odds 16 = .ok (.iload_n 2, 1) := by decide +kernel
theorem dX12_odds_17 : decode cX12_odds 17 = .ok (.invokevirtual 276, 3) := by decide +kernel
theorem dX12_odds_20 : decode cX12_odds 20 = .ok (.goto 4, 3) := by decide +kernel
theorem dX12_odds_23 : decode cX12_odds 23 = .ok (.iconst (-1), 1) := by decide +kernel
theorem dX12_odds_24 : decode cX12_odds 24 = .ok (.ireturn, 1) := by decide +kernel
theorem dX12_settle_0 : decode cX12_settle 0 = .ok (.iload_n 3, 1) := by decide +kernel
theorem dX12_settle_1 : decode cX12_settle 1 = .ok (.iconst 0, 1) := by decide +kernel
theorem dX12_settle_2 : decode cX12_settle 2 = .ok (.invokestatic 207, 3) := by decide +kernel
theorem dX12_settle_5 : decode cX12_settle 5 = .ok (.ifCond .eq 13, 3) := by decide +kernel
theorem dX12_settle_8 : decode cX12_settle 8 = .ok (.aload_n 0, 1) := by decide +kernel
theorem dX12_settle_9 : decode cX12_settle 9 = .ok (.getfield 27, 3) := by decide +kernel
theorem dX12_settle_12 : decode cX12_settle 12 = .ok (.iload_n 1, 1) := by decide +kernel
theorem dX12_settle_13 : decode cX12_settle 13 = .ok (.dup2, 1) := by decide +kernel
theorem dX12_settle_14 : decode cX12_settle 14 = .ok (.iaload, 1) := by decide +kernel
theorem dX12_settle_15 : decode cX12_settle 15 = .ok (.iconst 1, 1) := by decide +kernel
theorem dX12_settle_16 : decode cX12_settle 16 = .ok (.iadd, 1) := by decide +kernel
theorem dX12_settle_17 : decode cX12_settle 17 = .ok (.iastore, 1) := by decide +kernel
theorem dX12_settle_18 : decode cX12_settle 18 = .ok (.iload_n 3, 1) := by decide +kernel
theorem dX12_settle_19 : decode cX12_settle 19 = .ok (.iconst 1, 1) := by decide +kernel
theorem dX12_settle_20 : decode cX12_settle 20 = .ok (.invokestatic 207, 3) := by decide +kernel
theorem dX12_settle_23 : decode cX12_settle 23 = .ok (.ifCond .eq 13, 3) := by decide +kernel
theorem dX12_settle_26 : decode cX12_settle 26 = .ok (.aload_n 0, 1) := by decide +kernel
theorem dX12_settle_27 : decode cX12_settle 27 = .ok (.getfield 27, 3) := by decide +kernel
theorem dX12_settle_30 : decode cX12_settle 30 = .ok (.iload_n 2, 1) := by decide +kernel
theorem dX12_settle_31 : decode cX12_settle 31 = .ok (.dup2, 1) := by decide +kernel
theorem dX12_settle_32 : decode cX12_settle 32 = .ok (.iaload, 1) := by decide +kernel
theorem dX12_settle_33 : decode cX12_settle 33 = .ok (.iconst 1, 1) := by decide +kernel
theorem dX12_settle_34 : decode cX12_settle 34 = .ok (.iadd, 1) := by decide +kernel
theorem dX12_settle_35 : decode cX12_settle 35 = .ok (.iastore, 1) := by decide +kernel
theorem dX12_settle_36 : decode cX12_settle 36 = .ok (.iload 4, 2) := by decide +kernel
theorem dX12_settle_38 : decode cX12_settle 38 = .ok (.iconst 2, 1) := by decide +kernel
theorem dX12_settle_39 : decode cX12_settle 39 = .ok (.if_icmp .ne 24, 3) := by decide +kernel
theorem dX12_settle_42 : decode cX12_settle 42 = .ok (.aload_n 0, 1) := by decide +kernel
theorem dX12_settle_43 : decode cX12_settle 43 = .ok (.getfield 21, 3) := by decide +kernel
theorem dX12_settle_46 : decode cX12_settle 46 = .ok (.iload_n 1, 1) := by decide +kernel
theorem dX12_settle_47 : decode cX12_settle 47 = .ok (.dup2, 1) := by decide +kernel
theorem dX12_settle_48 : decode cX12_settle 48 = .ok (.iaload, 1) := by decide +kernel
theorem dX12_settle_49 : decode cX12_settle 49 = .ok (.iconst 1, 1) := by decide +kernel
theorem dX12_settle_50 : decode cX12_settle 50 = .ok (.iadd, 1) := by decide +kernel
theorem dX12_settle_51 : decode cX12_settle 51 = .ok (.iastore, 1) := by decide +kernel
theorem dX12_settle_52 : decode cX12_settle 52 = .ok (.aload_n 0, 1) := by decide +kernel
theorem dX12_settle_53 : decode cX12_settle 53 = .ok (.getfield 21, 3) := by decide +kernel
theorem dX12_settle_56 : decode cX12_settle 56 = .ok (.iload_n 2, 1) := by decide +kernel
theorem dX12_settle_57 : decode cX12_settle 57 = .ok (.dup2, 1) := by decide +kernel
theorem dX12_settle_58 : decode cX12_settle 58 = .ok (.iaload, 1) := by decide +kernel
theorem dX12_settle_59 : decode cX12_settle 59 = .ok (.iconst 1, 1) := by decide +kernel
theorem dX12_settle_60 : decode cX12_settle 60 = .ok (.iadd, 1) := by decide +kernel
theorem dX12_settle_61 : decode cX12_settle 61 = .ok (.iastore, 1) := by decide +kernel
theorem dX12_settle_62 : decode cX12_settle 62 = .ok (.return_, 1) := by decide +kernel
theorem dX12_settle_63 : decode cX12_settle 63 = .ok (.iload 4, 2) := by decide +kernel
theorem dX12_settle_65 : decode cX12_settle 65 = .ok (.ifCond .ne 7, 3) := by decide +kernel
theorem dX12_settle_68 : decode cX12_settle 68 = .ok (.iload_n 1, 1) := by decide +kernel
theorem dX12_settle_69 : decode cX12_settle 69 = .ok (.goto 4, 3) := by decide +kernel
theorem dX12_settle_72 : decode cX12_settle 72 = .ok (.iload_n 2, 1) := by decide +kernel
theorem dX12_settle_73 : decode cX12_settle 73 = .ok (.istore 5, 2) := by decide +kernel
theorem dX12_settle_75 : decode cX12_settle 75 = .ok (.iload 4, 2) := by decide +kernel
theorem dX12_settle_77 : decode cX12_settle 77 = .ok (.ifCond .ne 7, 3) := by decide +kernel
theorem dX12_settle_80 : decode cX12_settle 80 = .ok (.iload_n 2, 1) := by decide +kernel
theorem dX12_settle_81 : decode cX12_settle 81 = .ok (.goto 4, 3) := by decide +kernel
theorem dX12_settle_84 : decode cX12_settle 84 = .ok (.iload_n 1, 1) := by decide +kernel
theorem dX12_settle_85 : decode cX12_settle 85 = .ok (.istore 6, 2) := by decide +kernel
theorem dX12_settle_87 : decode cX12_settle 87 = .ok (.aload_n 0, 1) := by decide +kernel
theorem dX12_settle_88 : decode cX12_settle 88 = .ok (.getfield 21, 3) := by decide +kernel
theorem dX12_settle_91 : decode cX12_settle 91 = .ok (.iload 5, 2) := by decide +kernel
theorem dX12_settle_93 : decode cX12_settle 93 = .ok (.dup2, 1) := by decide +kernel
theorem dX12_settle_94 : decode cX12_settle 94 = .ok (.iaload, 1) := by decide +kernel
theorem dX12_settle_95 : decode cX12_settle 95 = .ok (.iconst 3, 1) := by decide +kernel
theorem dX12_settle_96 : decode cX12_settle 96 = .ok (.iadd, 1) := by decide +kernel
theorem dX12_settle_97 : decode cX12_settle 97 = .ok (.iastore, 1) := by decide +kernel
theorem dX12_settle_98 : decode cX12_settle 98 = .ok (.aload_n 0, 1) := by decide +kernel
theorem dX12_settle_99 : decode cX12_settle 99 = .ok (.getfield 30, 3) := by decide +kernel
theorem dX12_settle_102 : decode cX12_settle 102 = .ok (.iconst 0, 1) := by decide +kernel
theorem dX12_settle_103 : decode cX12_settle 103 = .ok (.iaload, 1) := by decide +kernel
theorem dX12_settle_104 : decode cX12_settle 104 = .ok (.ifCond .eq 13, 3) := by decide +kernel
theorem dX12_settle_107 : decode cX12_settle 107 = .ok (.aload_n 0, 1) := by decide +kernel
theorem dX12_settle_108 : decode cX12_settle 108 = .ok (.getfield 30, 3) := by decide +kernel
theorem dX12_settle_111 : decode cX12_settle 111 = .ok (.iconst 0, 1) := by decide +kernel
theorem dX12_settle_112 : decode cX12_settle 112 = .ok (.iaload, 1) := by decide +kernel
theorem dX12_settle_113 : decode cX12_settle 113 = .ok (.iconst 2, 1) := by decide +kernel
theorem dX12_settle_114 : decode cX12_settle 114 = .ok (.if_icmp .ne 11, 3) := by decide +kernel
theorem dX12_settle_117 : decode cX12_settle 117 = .ok (.aload_n 0, 1) := by decide +kernel
theorem dX12_settle_118 : decode cX12_settle 118 = .ok (.iload 5, 2) := by decide +kernel
theorem dX12_settle_120 : decode cX12_settle 120 = .ok (.iload 6, 2) := by decide +kernel
theorem dX12_settle_122 : decode cX12_settle 122 = .ok (.invokevirtual 279, 3) := by decide +kernel
theorem dX12_settle_125 : decode cX12_settle 125 = .ok (.aload_n 0, 1) := by decide +kernel
theorem dX12_settle_126 : decode cX12_settle 126 = .ok (.getfield 30, 3) := by decide +kernel
theorem dX12_settle_129 : decode cX12_settle 129 = .ok (.iconst 0, 1) := by decide +kernel
theorem dX12_settle_130 : decode cX12_settle 130 = .ok (.iaload, 1) := by decide +kernel
theorem dX12_settle_131 : decode cX12_settle 131 = .ok (.iconst 1, 1) := by decide +kernel
theorem dX12_settle_132 : decode cX12_settle 132 = .ok (.if_icmp .eq 13, 3) := by decide +kernel
theorem dX12_settle_135 : decode cX12_settle 135 = .ok (.aload_n 0, 1) := by decide +kernel
theorem dX12_settle_136 : decode cX12_settle 136 = .ok (.getfield 30, 3) := by decide +kernel
theorem dX12_settle_139 : decode cX12_settle 139 = .ok (.iconst 0, 1) := by decide +kernel
theorem dX12_settle_140 : decode cX12_settle 140 = .ok (.iaload, 1) := by decide +kernel
theorem dX12_settle_141 : decode cX12_settle 141 = .ok (.iconst 2, 1) := by decide +kernel
theorem dX12_settle_142 : decode cX12_settle 142 = .ok (.if_icmp .ne 11, 3) := by decide +kernel
theorem dX12_settle_145 : decode cX12_settle 145 = .ok (.aload_n 0, 1) := by decide +kernel
theorem dX12_settle_146 : decode cX12_settle 146 = .ok (.iload 6, 2) := by decide +kernel
theorem dX12_settle_148 : decode cX12_settle 148 = .ok (.iload 5, 2) := by decide +kernel
theorem dX12_settle_150 : decode cX12_settle 150 = .ok (.invokevirtual 279, 3) := by decide +kernel
theorem dX12_settle_153 : decode cX12_settle 153 = .ok (.return_, 1) := by decide +kernel
theorem dX12_drawHundred_0 : decode cX12_drawHundred 0 = .ok (.aload_n 0, 1) := by decide +kernel
theorem dX12_drawHundred_1 : decode cX12_drawHundred 1 = .ok (.aload_n 0, 1) := by decide +kernel
theorem dX12_drawHundred_2 : decode cX12_drawHundred 2 = .ok (.getfield 33, 3) := by decide +kernel
theorem dX12_drawHundred_5 : decode cX12_drawHundred 5 = .ok (.ldc_w 283, 3) := by decide +kernel
theorem dX12_drawHundred_8 : decode cX12_drawHundred 8 = .ok (.imul, 1) := by decide +kernel
theorem dX12_drawHundred_9 : decode cX12_drawHundred 9 = .ok (.sipush 12345, 3) := by decide +kernel
theorem dX12_drawHundred_12 : decode cX12_drawHundred 12 = .ok (.iadd, 1) := by decide +kernel
theorem dX12_drawHundred_13 : decode cX12_drawHundred 13 = .ok (.putfield 33, 3) := by decide +kernel
theorem dX12_drawHundred_16 : decode cX12_drawHundred 16 = .ok (.aload_n 0, 1) := by decide +kernel
theorem dX12_drawHundred_17 : decode cX12_drawHundred 17 = .ok (.getfield 33, 3) := by decide +kernel
theorem dX12_drawHundred_20 : decode cX12_drawHundred 20 = .ok (.bipush 16, 2) := by decide +kernel
theorem dX12_drawHundred_22 : decode cX12_drawHundred 22 = .ok (.iushr, 1) := by decide +kernel
theorem dX12_drawHundred_23 : decode cX12_drawHundred 23 = .ok (.bipush 100, 2) := by decide +kernel
theorem dX12_drawHundred_25 : decode cX12_drawHundred 25 = .ok (.irem, 1) := by decide +kernel
theorem dX12_drawHundred_26 : decode cX12_drawHundred 26 = .ok (.ireturn, 1) := by decide +kernel
theorem dX12_goGame_0 : decode cX12_goGame 0 = .ok (.iload 4, 2) := by decide +kernel
theorem dX12_goGame_2 : decode cX12_goGame 2 = .ok (.ifCond .eq 37, 3) := by decide +kernel
theorem dX12_goGame_5 : decode cX12_goGame 5 = .ok (.aload_n 0, 1) := by decide +kernel
theorem dX12_goGame_6 : decode cX12_goGame 6 = .ok (.getfield 30, 3) := by decide +kernel
theorem dX12_goGame_9 : decode cX12_goGame 9 = .ok (.iconst 4, 1) := by decide +kernel
theorem dX12_goGame_10 : decode cX12_goGame 10 = .ok (.iaload, 1) := by decide +kernel
theorem dX12_goGame_11 : decode cX12_goGame 11 = .ok (.ifCond .le 28, 3) := by decide +kernel
theorem dX12_goGame_14 : decode cX12_goGame 14 = .ok (.iload_n 3, 1) := by decide +kernel
theorem dX12_goGame_15 : decode cX12_goGame 15 = .ok (.ifCond .ne 24, 3) := by decide +kernel
theorem dX12_goGame_18 : decode cX12_goGame 18 = .ok (.aload_n 0, 1) := by decide +kernel
theorem dX12_goGame_19 : decode cX12_goGame 19 = .ok (.invokevirtual 284, 3) := by decide +kernel
theorem dX12_goGame_22 : decode cX12_goGame 22 = .ok (.aload_n 0, 1) := by decide +kernel
theorem dX12_goGame_23 : decode cX12_goGame 23 = .ok (.iload_n 1, 1) := by decide +kernel
theorem dX12_goGame_24 : decode cX12_goGame 24 = .ok (.iload_n 2, 1) := by decide +kernel
theorem dX12_goGame_25 : decode cX12_goGame 25 = .ok (.invokevirtual 276, 3) := by decide +kernel
theorem dX12_goGame_28 : decode cX12_goGame 28 = .ok (.if_icmp .ge 7, 3) := by decide +kernel
theorem dX12_goGame_31 : decode cX12_goGame 31 = .ok (.iconst 0, 1) := by decide +kernel
theorem dX12_goGame_32 : decode cX12_goGame 32 = .ok (.goto 14, 3) := by decide +kernel
theorem dX12_goGame_35 : decode cX12_goGame 35 = .ok (.iconst 1, 1) := by decide +kernel
theorem dX12_goGame_36 : decode cX12_goGame 36 = .ok (.goto 10, 3) := by decide +kernel
theorem dX12_goGame_39 : decode cX12_goGame 39 = .ok (.aload_n 0, 1) := by decide +kernel
theorem dX12_goGame_40 : decode cX12_goGame 40 = .ok (.iload_n 1, 1) := by decide +kernel
theorem dX12_goGame_41 : decode cX12_goGame 41 = .ok (.iload_n 2, 1) := by decide +kernel
theorem dX12_goGame_42 : decode cX12_goGame 42 = .ok (.iload_n 3, 1) := by decide +kernel
theorem dX12_goGame_43 : decode cX12_goGame 43 = .ok (.invokevirtual 273, 3) := by decide +kernel
theorem dX12_goGame_46 : decode cX12_goGame 46 = .ok (.istore 5, 2) := by decide +kernel
theorem dX12_goGame_48 : decode cX12_goGame 48 = .ok (.aload_n 0, 1) := by decide +kernel
theorem dX12_goGame_49 : decode cX12_goGame 49 = .ok (.iload_n 1, 1) := by decide +kernel
theorem dX12_goGame_50 : decode cX12_goGame 50 = .ok (.iload_n 2, 1) := by decide +kernel
theorem dX12_goGame_51 : decode cX12_goGame 51 = .ok (.iload_n 3, 1) := by decide +kernel
theorem dX12_goGame_52 : decode cX12_goGame 52 = .ok (.iload 5, 2) := by decide +kernel
theorem dX12_goGame_54 : decode cX12_goGame 54 = .ok (.invokevirtual 287, 3) := by decide +kernel
theorem dX12_goGame_57 : decode cX12_goGame 57 = .ok (.iload 5, 2) := by decide +kernel
theorem dX12_goGame_59 : decode cX12_goGame 59 = .ok (.ireturn, 1) := by decide +kernel
theorem dX12_lay_0 : decode cX12_lay 0 = .ok (.iload_n 2, 1) := by decide +kernel
theorem dX12_lay_1 : decode cX12_lay 1 = .ok (.istore_n 3, 1) := by decide +kernel
theorem dX12_lay_2 : decode cX12_lay 2 = .ok (.iconst 0, 1) := by decide +kernel
theorem dX12_lay_3 : decode cX12_lay 3 = .ok (.istore 4, 2) := by decide +kernel
theorem dX12_lay_5 : decode cX12_lay 5 = .ok (.iload 4, 2) := by decide +kernel
theorem dX12_lay_7 : decode cX12_lay 7 = .ok (.bipush 32, 2) := by decide +kernel
theorem dX12_lay_9 : decode cX12_lay 9 = .ok (.if_icmp .ge 22, 3) := by decide +kernel
theorem dX12_lay_12 : decode cX12_lay 12 = .ok (.aload_n 1, 1) := by decide +kernel
theorem dX12_lay_13 : decode cX12_lay 13 = .ok (.iload_n 3, 1) := by decide +kernel
theorem dX12_lay_14 : decode cX12_lay 14 = .ok (.iload 4, 2) := by decide +kernel
theorem dX12_lay_16 : decode cX12_lay 16 = .ok (.iadd, 1) := by decide +kernel
theorem dX12_lay_17 : decode cX12_lay 17 = .ok (.aload_n 0, 1) := by decide +kernel
theorem dX12_lay_18 : decode cX12_lay 18 = .ok (.getfield 13, 3) := by decide +kernel
theorem dX12_lay_21 : decode cX12_lay 21 = .ok (.iload 4, 2) := by decide +kernel
theorem dX12_lay_23 : decode cX12_lay 23 = .ok (.iaload, 1) := by decide +kernel
theorem dX12_lay_24 : decode cX12_lay 24 = .ok (.iastore, 1) := by decide +kernel
theorem dX12_lay_25 : decode cX12_lay 25 = .ok (.iinc 4 1, 3) := by decide +kernel
theorem dX12_lay_28 : decode cX12_lay 28 = .ok (.goto (-23), 3) := by decide +kernel
theorem dX12_lay_31 : decode cX12_lay 31 = .ok (.iinc 3 32, 3) := by decide +kernel
theorem dX12_lay_34 : decode cX12_lay 34 = .ok (.iconst 0, 1) := by decide +kernel
theorem dX12_lay_35 : decode cX12_lay 35 = .ok (.istore 4, 2) := by decide +kernel
theorem dX12_lay_37 : decode cX12_lay 37 = .ok (.iload 4, 2) := by decide +kernel
theorem dX12_lay_39 : decode cX12_lay 39 = .ok (.bipush 8, 2) := by decide +kernel
theorem dX12_lay_41 : decode cX12_lay 41 = .ok (.if_icmp .ge 58, 3) := by decide +kernel
theorem dX12_lay_44 : decode cX12_lay 44 = .ok (.aload_n 1, 1) := by decide +kernel
theorem dX12_lay_45 : decode cX12_lay 45 = .ok (.iload_n 3, 1) := by decide +kernel
theorem dX12_lay_46 : decode cX12_lay 46 = .ok (.iconst 3, 1) := by decide +kernel
theorem dX12_lay_47 : decode cX12_lay 47 = .ok (.iload 4, 2) := by decide +kernel
theorem dX12_lay_49 : decode cX12_lay 49 = .ok (.imul, 1) := by decide +kernel
theorem dX12_lay_50 : decode cX12_lay 50 = .ok (.iadd, 1) := by decide +kernel
theorem dX12_lay_51 : decode cX12_lay 51 = .ok (.aload_n 0, 1) := by decide +kernel
theorem dX12_lay_52 : decode cX12_lay 52 = .ok (.getfield 21, 3) := by decide +kernel
theorem dX12_lay_55 : decode cX12_lay 55 = .ok (.iload 4, 2) := by decide +kernel
theorem dX12_lay_57 : decode cX12_lay 57 = .ok (.iaload, 1) := by decide +kernel
theorem dX12_lay_58 : decode cX12_lay 58 = .ok (.iastore, 1) := by decide +kernel
theorem dX12_lay_59 : decode cX12_lay 59 = .ok (.aload_n 1, 1) := by decide +kernel
theorem dX12_lay_60 : decode cX12_lay 60 = .ok (.iload_n 3, 1) := by decide +kernel
theorem dX12_lay_61 : decode cX12_lay 61 = .ok (.iconst 3, 1) := by decide +kernel
theorem dX12_lay_62 : decode cX12_lay 62 = .ok (.iload 4, 2) := by decide +kernel
theorem dX12_lay_64 : decode cX12_lay 64 = .ok (.imul, 1) := by decide +kernel
theorem dX12_lay_65 : decode cX12_lay 65 = .ok (.iadd, 1) := by decide +kernel
theorem dX12_lay_66 : decode cX12_lay 66 = .ok (.iconst 1, 1) := by decide +kernel
theorem dX12_lay_67 : decode cX12_lay 67 = .ok (.iadd, 1) := by decide +kernel
theorem dX12_lay_68 : decode cX12_lay 68 = .ok (.aload_n 0, 1) := by decide +kernel
theorem dX12_lay_69 : decode cX12_lay 69 = .ok (.getfield 24, 3) := by decide +kernel
theorem dX12_lay_72 : decode cX12_lay 72 = .ok (.iload 4, 2) := by decide +kernel
theorem dX12_lay_74 : decode cX12_lay 74 = .ok (.iaload, 1) := by decide +kernel
theorem dX12_lay_75 : decode cX12_lay 75 = .ok (.iastore, 1) := by decide +kernel
theorem dX12_lay_76 : decode cX12_lay 76 = .ok (.aload_n 1, 1) := by decide +kernel
theorem dX12_lay_77 : decode cX12_lay 77 = .ok (.iload_n 3, 1) := by decide +kernel
theorem dX12_lay_78 : decode cX12_lay 78 = .ok (.iconst 3, 1) := by decide +kernel
theorem dX12_lay_79 : decode cX12_lay 79 = .ok (.iload 4, 2) := by decide +kernel
theorem dX12_lay_81 : decode cX12_lay 81 = .ok (.imul, 1) := by decide +kernel
theorem dX12_lay_82 : decode cX12_lay 82 = .ok (.iadd, 1) := by decide +kernel
theorem dX12_lay_83 : decode cX12_lay 83 = .ok (.iconst 2, 1) := by decide +kernel
theorem dX12_lay_84 : decode cX12_lay 84 = .ok (.iadd, 1) := by decide +kernel
theorem dX12_lay_85 : decode cX12_lay 85 = .ok (.aload_n 0, 1) := by decide +kernel
theorem dX12_lay_86 : decode cX12_lay 86 = .ok (.getfield 27, 3) := by decide +kernel
theorem dX12_lay_89 : decode cX12_lay 89 = .ok (.iload 4, 2) := by decide +kernel
theorem dX12_lay_91 : decode cX12_lay 91 = .ok (.iaload, 1) := by decide +kernel
theorem dX12_lay_92 : decode cX12_lay 92 = .ok (.iastore, 1) := by decide +kernel
theorem dX12_lay_93 : decode cX12_lay 93 = .ok (.iinc 4 1, 3) := by decide +kernel
theorem dX12_lay_96 : decode cX12_lay 96 = .ok (.goto (-59), 3) := by decide +kernel
theorem dX12_lay_99 : decode cX12_lay 99 = .ok (.aload_n 1, 1) := by decide +kernel
theorem dX12_lay_100 : decode cX12_lay 100 = .ok (.iload_n 3, 1) := by decide +kernel
theorem dX12_lay_101 : decode cX12_lay 101 = .ok (.bipush 24, 2) := by decide +kernel
theorem dX12_lay_103 : decode cX12_lay 103 = .ok (.iadd, 1) := by decide +kernel
theorem dX12_lay_104 : decode cX12_lay 104 = .ok (.aload_n 0, 1) := by decide +kernel
theorem dX12_lay_105 : decode cX12_lay 105 = .ok (.getfield 33, 3) := by decide +kernel
theorem dX12_lay_108 : decode cX12_lay 108 = .ok (.iastore, 1) := by decide +kernel
theorem dX12_lay_109 : decode cX12_lay 109 = .ok (.return_, 1) := by decide +kernel
theorem dX12_bring_0 : decode cX12_bring 0 = .ok (.iload_n 2, 1) := by decide +kernel
theorem dX12_bring_1 : decode cX12_bring 1 = .ok (.istore_n 3, 1) := by decide +kernel
theorem dX12_bring_2 : decode cX12_bring 2 = .ok (.iconst 0, 1) := by decide +kernel
theorem dX12_bring_3 : decode cX12_bring 3 = .ok (.istore 4, 2) := by decide +kernel
theorem dX12_bring_5 : decode cX12_bring 5 = .ok (.iload 4, 2) := by decide +kernel
theorem dX12_bring_7 : decode cX12_bring 7 = .ok (.bipush 32, 2) := by decide +kernel
theorem dX12_bring_9 : decode cX12_bring 9 = .ok (.if_icmp .ge 22, 3) := by decide +kernel
theorem dX12_bring_12 : decode cX12_bring 12 = .ok (.aload_n 0, 1) := by decide +kernel
theorem dX12_bring_13 : decode cX12_bring 13 = .ok (.getfield 13, 3) := by decide +kernel
theorem dX12_bring_16 : decode cX12_bring 16 = .ok (.iload 4, 2) := by decide +kernel
theorem dX12_bring_18 : decode cX12_bring 18 = .ok (.aload_n 1, 1) := by decide +kernel
theorem dX12_bring_19 : decode cX12_bring 19 = .ok (.iload_n 3, 1) := by decide +kernel
theorem dX12_bring_20 : decode cX12_bring 20 = .ok (.iload 4, 2) := by decide +kernel
theorem dX12_bring_22 : decode cX12_bring 22 = .ok (.iadd, 1) := by decide +kernel
theorem dX12_bring_23 : decode cX12_bring 23 = .ok (.iaload, 1) := by decide +kernel
theorem dX12_bring_24 : decode cX12_bring 24 = .ok (.iastore, 1) := by decide +kernel
theorem dX12_bring_25 : decode cX12_bring 25 = .ok (.iinc 4 1, 3) := by decide +kernel
theorem dX12_bring_28 : decode cX12_bring 28 = .ok (.goto (-23), 3) := by decide +kernel
theorem dX12_bring_31 : decode cX12_bring 31 = .ok (.iinc 3 32, 3) := by decide +kernel
theorem dX12_bring_34 : decode cX12_bring 34 = .ok (.iconst 0, 1) := by decide +kernel
theorem dX12_bring_35 : decode cX12_bring 35 = .ok (.istore 4, 2) := by decide +kernel
theorem dX12_bring_37 : decode cX12_bring 37 = .ok (.iload 4, 2) := by decide +kernel
theorem dX12_bring_39 : decode cX12_bring 39 = .ok (.bipush 8, 2) := by decide +kernel
theorem dX12_bring_41 : decode cX12_bring 41 = .ok (.if_icmp .ge 58, 3) := by decide +kernel
theorem dX12_bring_44 : decode cX12_bring 44 = .ok (.aload_n 0, 1) := by decide +kernel
theorem dX12_bring_45 : decode cX12_bring 45 = .ok (.getfield 21, 3) := by decide +kernel
theorem dX12_bring_48 : decode cX12_bring 48 = .ok (.iload 4, 2) := by decide +kernel
theorem dX12_bring_50 : decode cX12_bring 50 = .ok (.aload_n 1, 1) := by decide +kernel
theorem dX12_bring_51 : decode cX12_bring 51 = .ok (.iload_n 3, 1) := by decide +kernel
theorem dX12_bring_52 : decode cX12_bring 52 = .ok (.iconst 3, 1) := by decide +kernel
theorem dX12_bring_53 : decode cX12_bring 53 = .ok (.iload 4, 2) := by decide +kernel
theorem dX12_bring_55 : decode cX12_bring 55 = .ok (.imul, 1) := by decide +kernel
theorem dX12_bring_56 : decode cX12_bring 56 = .ok (.iadd, 1) := by decide +kernel
theorem dX12_bring_57 : decode cX12_bring 57 = .ok (.iaload, 1) := by decide +kernel
theorem dX12_bring_58 : decode cX12_bring 58 = .ok (.iastore, 1) := by decide +kernel
theorem dX12_bring_59 : decode cX12_bring 59 = .ok (.aload_n 0, 1) := by decide +kernel
theorem dX12_bring_60 : decode cX12_bring 60 = .ok (.getfield 24, 3) := by decide +kernel
theorem dX12_bring_63 : decode cX12_bring 63 = .ok (.iload 4, 2) := by decide +kernel
theorem dX12_bring_65 : decode cX12_bring 65 = .ok (.aload_n 1, 1) := by decide +kernel
theorem dX12_bring_66 : decode cX12_bring 66 = .ok (.iload_n 3, 1) := by decide +kernel
theorem dX12_bring_67 : decode cX12_bring 67 = .ok (.iconst 3, 1) := by decide +kernel
theorem dX12_bring_68 : decode cX12_bring 68 = .ok (.iload 4, 2) := by decide +kernel
theorem dX12_bring_70 : decode cX12_bring 70 = .ok (.imul, 1) := by decide +kernel
theorem dX12_bring_71 : decode cX12_bring 71 = .ok (.iadd, 1) := by decide +kernel
theorem dX12_bring_72 : decode cX12_bring 72 = .ok (.iconst 1, 1) := by decide +kernel
theorem dX12_bring_73 : decode cX12_bring 73 = .ok (.iadd, 1) := by decide +kernel
theorem dX12_bring_74 : decode cX12_bring 74 = .ok (.iaload, 1) := by decide +kernel
theorem dX12_bring_75 : decode cX12_bring 75 = .ok (.iastore, 1) := by decide +kernel
theorem dX12_bring_76 : decode cX12_bring 76 = .ok (.aload_n 0, 1) := by decide +kernel
theorem dX12_bring_77 : decode cX12_bring 77 = .ok (.getfield 27, 3) := by decide +kernel
theorem dX12_bring_80 : decode cX12_bring 80 = .ok (.iload 4, 2) := by decide +kernel
theorem dX12_bring_82 : decode cX12_bring 82 = .ok (.aload_n 1, 1) := by decide +kernel
theorem dX12_bring_83 : decode cX12_bring 83 = .ok (.iload_n 3, 1) := by decide +kernel
theorem dX12_bring_84 : decode cX12_bring 84 = .ok (.iconst 3, 1) := by decide +kernel
theorem dX12_bring_85 : decode cX12_bring 85 = .ok (.iload 4, 2) := by decide +kernel
theorem dX12_bring_87 : decode cX12_bring 87 = .ok (.imul, 1) := by decide +kernel
theorem dX12_bring_88 : decode cX12_bring 88 = .ok (.iadd, 1) := by decide +kernel
theorem dX12_bring_89 : decode cX12_bring 89 = .ok (.iconst 2, 1) := by decide +kernel
theorem dX12_bring_90 : decode cX12_bring 90 = .ok (.iadd, 1) := by decide +kernel
theorem dX12_bring_91 : decode cX12_bring 91 = .ok (.iaload, 1) := by decide +kernel
theorem dX12_bring_92 : decode cX12_bring 92 = .ok (.iastore, 1) := by decide +kernel
theorem dX12_bring_93 : decode cX12_bring 93 = .ok (.iinc 4 1, 3) := by decide +kernel
theorem dX12_bring_96 : decode cX12_bring 96 = .ok (.goto (-59), 3) := by decide +kernel
theorem dX12_bring_99 : decode cX12_bring 99 = .ok (.aload_n 0, 1) := by decide +kernel
theorem dX12_bring_100 : decode cX12_bring 100 = .ok (.aload_n 1, 1) := by decide +kernel
theorem dX12_bring_101 : decode cX12_bring 101 = .ok (.iload_n 3, 1) := by decide +kernel
theorem dX12_bring_102 : decode cX12_bring 102 = .ok (.bipush 24, 2) := by decide +kernel
theorem dX12_bring_104 : decode cX12_bring 104 = .ok (.iadd, 1) := by decide +kernel
theorem dX12_bring_105 : decode cX12_bring 105 = .ok (.iaload, 1) := by decide +kernel
theorem dX12_bring_106 : decode cX12_bring 106 = .ok (.putfield 33, 3) := by decide +kernel
theorem dX12_bring_109 : decode cX12_bring 109 = .ok (.return_, 1) := by decide +kernel
theorem dX12_remember_0 : decode cX12_remember 0 = .ok (.aload_n 0, 1) := by decide +kernel
theorem dX12_remember_1 : decode cX12_remember 1 = .ok (.getfield 196, 3) := by decide +kernel
theorem dX12_remember_4 : decode cX12_remember 4 = .ok (.bipush 20, 2) := by decide +kernel
theorem dX12_remember_6 : decode cX12_remember 6 = .ok (.if_icmp .ne 43, 3) := by decide +kernel
theorem dX12_remember_9 : decode cX12_remember 9 = .ok (.iconst 0, 1) := by decide +kernel
theorem dX12_remember_10 : decode cX12_remember 10 = .ok (.istore_n 1, 1) := by decide +kernel
theorem dX12_remember_11 : decode cX12_remember 11 = .ok (.iload_n 1, 1) := by decide +kernel
theorem dX12_remember_12 : decode cX12_remember 12 = .ok (.sipush 1083, 3) := by decide +kernel
theorem dX12_remember_15 : decode cX12_remember 15 = .ok (.if_icmp .ge 24, 3) := by decide +kernel
theorem dX12_remember_18 : decode cX12_remember 18 = .ok (.aload_n 0, 1) := by decide +kernel
theorem dX12_remember_19 : decode cX12_remember 19 = .ok (.getfield 62, 3) := by decide +kernel
theorem dX12_remember_22 : decode cX12_remember 22 = .ok (.iload_n 1, 1) := by decide +kernel
theorem dX12_remember_23 : decode cX12_remember 23 = .ok (.aload_n 0, 1) := by decide +kernel
theorem dX12_remember_24 : decode cX12_remember 24 = .ok (.getfield 62, 3) := by decide +kernel
theorem dX12_remember_27 : decode cX12_remember 27 = .ok (.iload_n 1, 1) := by decide +kernel
theorem dX12_remember_28 : decode cX12_remember 28 = .ok (.bipush 57, 2) := by decide +kernel
theorem dX12_remember_30 : decode cX12_remember 30 = .ok (.iadd, 1) := by decide +kernel
theorem dX12_remember_31 : decode cX12_remember 31 = .ok (.iaload, 1) := by decide +kernel
theorem dX12_remember_32 : decode cX12_remember 32 = .ok (.iastore, 1) := by decide +kernel
theorem dX12_remember_33 : decode cX12_remember 33 = .ok (.iinc 1 1, 3) := by decide +kernel
theorem dX12_remember_36 : decode cX12_remember 36 = .ok (.goto (-25), 3) := by decide +kernel
theorem dX12_remember_39 : decode cX12_remember 39 = .ok (.aload_n 0, 1) := by decide +kernel
theorem dX12_remember_40 : decode cX12_remember 40 = .ok (.dup, 1) := by decide +kernel
theorem dX12_remember_41 : decode cX12_remember 41 = .ok (.getfield 196, 3) := by decide +kernel
theorem dX12_remember_44 : decode cX12_remember 44 = .ok (.iconst 1, 1) := by decide +kernel
theorem dX12_remember_45 : decode cX12_remember 45 = .ok (.isub, 1) := by decide +kernel
theorem dX12_remember_46 : decode cX12_remember 46 = .ok (.putfield 196, 3) := by decide +kernel
theorem dX12_remember_49 : decode cX12_remember 49 = .ok (.aload_n 0, 1) := by decide +kernel
theorem dX12_remember_50 : decode cX12_remember 50 = .ok (.aload_n 0, 1) := by decide +kernel
theorem dX12_remember_51 : decode cX12_remember 51 = .ok (.getfield 62, 3) := by decide +kernel
theorem dX12_remember_54 : decode cX12_remember 54 = .ok (.bipush 57, 2) := by decide +kernel
theorem dX12_remember_56 : decode cX12_remember 56 = .ok (.aload_n 0, 1) := by decide +kernel
theorem dX12_remember_57 : decode cX12_remember 57 = .ok (.getfield 196, 3) := by decide +kernel
theorem dX12_remember_60 : decode cX12_remember 60 = .ok (.imul, 1) := by decide +kernel
theorem dX12_remember_61 : decode cX12_remember 61 = .ok (.invokevirtual 291, 3) := by decide +kernel
theorem dX12_remember_64 : decode cX12_remember 64 = .ok (.aload_n 0, 1) := by decide +kernel
theorem dX12_remember_65 : decode cX12_remember 65 = .ok (.dup, 1) := by decide +kernel
theorem dX12_remember_66 : decode cX12_remember 66 = .ok (.getfield 196, 3) := by decide +kernel
theorem dX12_remember_69 : decode cX12_remember 69 = .ok (.iconst 1, 1) := by decide +kernel
theorem dX12_remember_70 : decode cX12_remember 70 = .ok (.iadd, 1) := by decide +kernel
theorem dX12_remember_71 : decode cX12_remember 71 = .ok (.putfield 196, 3) := by decide +kernel
theorem dX12_remember_74 : decode cX12_remember 74 = .ok (.return_, 1) := by decide +kernel
theorem dX12_play_0 : decode cX12_play 0 = .ok (.aload_n 0, 1) := by decide +kernel
theorem dX12_play_1 : decode cX12_play 1 = .ok (.iconst 0, 1) := by decide +kernel
theorem dX12_play_2 : decode cX12_play 2 = .ok (.putfield 110, 3) := by decide +kernel
theorem dX12_play_5 : decode cX12_play 5 = .ok (.aload_n 0, 1) := by decide +kernel
theorem dX12_play_6 : decode cX12_play 6 = .ok (.iload_n 1, 1) := by decide +kernel
theorem dX12_play_7 : decode cX12_play 7 = .ok (.iload_n 2, 1) := by decide +kernel
theorem dX12_play_8 : decode cX12_play 8 = .ok (.invokevirtual 267, 3) := by decide +kernel
theorem dX12_play_11 : decode cX12_play 11 = .ok (.ifCond .eq 10, 3) := by decide +kernel
theorem dX12_play_14 : decode cX12_play 14 = .ok (.iload_n 3, 1) := by decide +kernel
theorem dX12_play_15 : decode cX12_play 15 = .ok (.invokestatic 270, 3) := by decide +kernel
theorem dX12_play_18 : decode cX12_play 18 = .ok (.ifCond .ne 5, 3) := by decide +kernel
theorem dX12_play_21 : decode cX12_play 21 = .ok (.iconst (-1), 1) := by decide +kernel
theorem dX12_play_22 : decode cX12_play 22 = .ok (.ireturn, 1) := by decide +kernel
theorem dX12_play_23 : decode cX12_play 23 = .ok (.aload_n 0, 1) := by decide +kernel
theorem dX12_play_24 : decode cX12_play 24 = .ok (.invokevirtual 295, 3) := by decide +kernel
theorem dX12_play_27 : decode cX12_play 27 = .ok (.aload_n 0, 1) := by decide +kernel
theorem dX12_play_28 : decode cX12_play 28 = .ok (.iload_n 1, 1) := by decide +kernel
theorem dX12_play_29 : decode cX12_play 29 = .ok (.iload_n 2, 1) := by decide +kernel
theorem dX12_play_30 : decode cX12_play 30 = .ok (.iload_n 3, 1) := by decide +kernel
theorem dX12_play_31 : decode cX12_play 31 = .ok (.iconst 1, 1) := by decide +kernel
theorem dX12_play_32 : decode cX12_play 32 = .ok (.invokevirtual 298, 3) := by decide +kernel
theorem dX12_play_35 : decode cX12_play 35 = .ok (.istore 4, 2) := by decide +kernel
theorem dX12_play_37 : decode cX12_play 37 = .ok (.aload_n 0, 1) := by decide +kernel
theorem dX12_play_38 : decode cX12_play 38 = .ok (.iconst 0, 1) := by decide +kernel
theorem dX12_play_39 : decode cX12_play 39 = .ok (.putfield 113, 3) := by decide +kernel
theorem dX12_play_42 : decode cX12_play 42 = .ok (.aload_n 0, 1) := by decide +kernel
theorem dX12_play_43 : decode cX12_play 43 = .ok (.aload_n 0, 1) := by decide +kernel
theorem dX12_play_44 : decode cX12_play 44 = .ok (.getfield 21, 3) := by decide +kernel
theorem dX12_play_47 : decode cX12_play 47 = .ok (.iload_n 1, 1) := by decide +kernel
theorem dX12_play_48 : decode cX12_play 48 = .ok (.iaload, 1) := by decide +kernel
theorem dX12_play_49 : decode cX12_play 49 = .ok (.i2l, 1) := by decide +kernel
theorem dX12_play_50 : decode cX12_play 50 = .ok (.invokevirtual 131, 3) := by decide +kernel
theorem dX12_play_53 : decode cX12_play 53 = .ok (.aload_n 0, 1) := by decide +kernel
theorem dX12_play_54 : decode cX12_play 54 = .ok (.aload_n 0, 1) := by decide +kernel
theorem dX12_play_55 : decode cX12_play 55 = .ok (.getfield 21, 3) := by decide +kernel
theorem dX12_play_58 : decode cX12_play 58 = .ok (.iload_n 2, 1) := by decide +kernel
theorem dX12_play_59 : decode cX12_play 59 = .ok (.iaload, 1) := by decide +kernel
theorem dX12_play_60 : decode cX12_play 60 = .ok (.i2l, 1) := by decide +kernel
theorem dX12_play_61 : decode cX12_play 61 = .ok (.invokevirtual 131, 3) := by decide +kernel
theorem dX12_play_64 : decode cX12_play 64 = .ok (.iload 4, 2) := by decide +kernel
theorem dX12_play_66 : decode cX12_play 66 = .ok (.ireturn, 1) := by decide +kernel
theorem dX12_undo_0 : decode cX12_undo 0 = .ok (.aload_n 0, 1) := by decide +kernel
theorem dX12_undo_1 : decode cX12_undo 1 = .ok (.iconst 0, 1) := by decide +kernel
theorem dX12_undo_2 : decode cX12_undo 2 = .ok (.putfield 110, 3) := by decide +kernel
theorem dX12_undo_5 : decode cX12_undo 5 = .ok (.aload_n 0, 1) := by decide +kernel
theorem dX12_undo_6 : decode cX12_undo 6 = .ok (.getfield 196, 3) := by decide +kernel
theorem dX12_undo_9 : decode cX12_undo 9 = .ok (.ifCond .ne 5, 3) := by decide +kernel
theorem dX12_undo_12 : decode cX12_undo 12 = .ok (.iconst (-1), 1) := by decide +kernel
theorem dX12_undo_13 : decode cX12_undo 13 = .ok (.ireturn, 1) := by decide +kernel
theorem dX12_undo_14 : decode cX12_undo 14 = .ok (.aload_n 0, 1) := by decide +kernel
theorem dX12_undo_15 : decode cX12_undo 15 = .ok (.dup, 1) := by decide +kernel
theorem dX12_undo_16 : decode cX12_undo 16 = .ok (.getfield 196, 3) := by decide +kernel
theorem dX12_undo_19 : decode cX12_undo 19 = .ok (.iconst 1, 1) := by decide +kernel
theorem dX12_undo_20 : decode cX12_undo 20 = .ok (.isub, 1) := by decide +kernel
theorem dX12_undo_21 : decode cX12_undo 21 = .ok (.putfield 196, 3) := by decide +kernel
theorem dX12_undo_24 : decode cX12_undo 24 = .ok (.aload_n 0, 1) := by decide +kernel
theorem dX12_undo_25 : decode cX12_undo 25 = .ok (.aload_n 0, 1) := by decide +kernel
theorem dX12_undo_26 : decode cX12_undo 26 = .ok (.getfield 62, 3) := by decide +kernel
theorem dX12_undo_29 : decode cX12_undo 29 = .ok (.bipush 57, 2) := by decide +kernel
theorem dX12_undo_31 : decode cX12_undo 31 = .ok (.aload_n 0, 1) := by decide +kernel
theorem dX12_undo_32 : decode cX12_undo 32 = .ok (.getfield 196, 3) := by decide +kernel
theorem dX12_undo_35 : decode cX12_undo 35 = .ok (.imul, 1) := by decide +kernel
theorem dX12_undo_36 : decode cX12_undo 36 = .ok (.invokevirtual 302, 3) := by decide +kernel
theorem dX12_undo_39 : decode cX12_undo 39 = .ok (.aload_n 0, 1) := by decide +kernel
theorem dX12_undo_40 : decode cX12_undo 40 = .ok (.getfield 196, 3) := by decide +kernel
theorem dX12_undo_43 : decode cX12_undo 43 = .ok (.ireturn, 1) := by decide +kernel
theorem dX12_judge_0 : decode cX12_judge 0 = .ok (.aload_n 0, 1) := by decide +kernel
theorem dX12_judge_1 : decode cX12_judge 1 = .ok (.iconst 0, 1) := by decide +kernel
theorem dX12_judge_2 : decode cX12_judge 2 = .ok (.putfield 110, 3) := by decide +kernel
theorem dX12_judge_5 : decode cX12_judge 5 = .ok (.iload_n 1, 1) := by decide +kernel
theorem dX12_judge_6 : decode cX12_judge 6 = .ok (.i2l, 1) := by decide +kernel
theorem dX12_judge_7 : decode cX12_judge 7 = .ok (.lconst 0, 1) := by decide +kernel
theorem dX12_judge_8 : decode cX12_judge 8 = .ok (.ldc2_w 258, 3) := by decide +kernel
theorem dX12_judge_11 : decode cX12_judge 11 = .ok (.invokestatic 119, 3) := by decide +kernel
theorem dX12_judge_14 : decode cX12_judge 14 = .ok (.ifCond .ne 5, 3) := by decide +kernel
theorem dX12_judge_17 : decode cX12_judge 17 = .ok (.iconst (-1), 1) := by decide +kernel
theorem dX12_judge_18 : decode cX12_judge 18 = .ok (.ireturn, 1) := by decide +kernel
theorem dX12_judge_19 : decode cX12_judge 19 = .ok (.aload_n 0, 1) := by decide +kernel
theorem dX12_judge_20 : decode cX12_judge 20 = .ok (.aload_n 0, 1) := by decide +kernel
theorem dX12_judge_21 : decode cX12_judge 21 = .ok (.getfield 65, 3) := by decide +kernel
theorem dX12_judge_24 : decode cX12_judge 24 = .ok (.iconst 0, 1) := by decide +kernel
theorem dX12_judge_25 : decode cX12_judge 25 = .ok (.invokevirtual 291, 3) := by decide +kernel
theorem dX12_judge_28 : decode cX12_judge 28 = .ok (.aload_n 0, 1) := by decide +kernel
theorem dX12_judge_29 : decode cX12_judge 29 = .ok (.invokevirtual 305, 3) := by decide +kernel
theorem dX12_judge_32 : decode cX12_judge 32 = .ok (.istore_n 3, 1) := by decide +kernel
theorem dX12_judge_33 : decode cX12_judge 33 = .ok (.bipush (-2), 2) := by decide +kernel
theorem dX12_judge_35 : decode cX12_judge 35 = .ok (.istore 4, 2) := by decide +kernel
theorem dX12_judge_37 : decode cX12_judge 37 = .ok (.iconst 0, 1) := by decide +kernel
theorem dX12_judge_38 : decode cX12_judge 38 = .ok (.istore 5, 2) := by decide +kernel
theorem dX12_judge_40 : decode cX12_judge 40 = .ok (.iload 5, 2) := by decide +kernel
theorem dX12_judge_42 : decode cX12_judge 42 = .ok (.iload_n 1, 1) := by decide +kernel
theorem dX12_judge_43 : decode cX12_judge 43 = .ok (.if_icmp .ge 95, 3) := by decide +kernel
theorem dX12_judge_46 : decode cX12_judge 46 = .ok (.iload 4, 2) := by decide +kernel
theorem dX12_judge_48 : decode cX12_judge 48 = .ok (.bipush (-2), 2) := by decide +kernel
theorem dX12_judge_50 : decode cX12_judge 50 = .ok (.if_icmp .ne 88, 3) := by decide +kernel
theorem dX12_judge_53 : decode cX12_judge 53 = .ok (.iload_n 2, 1) := by decide +kernel
theorem dX12_judge_54 : decode cX12_judge 54 = .ok (.bipush 10, 2) := by decide +kernel
theorem dX12_judge_56 : decode cX12_judge 56 = .ok (.iload 5, 2) := by decide +kernel
theorem dX12_judge_58 : decode cX12_judge 58 = .ok (.imul, 1) := by decide +kernel
theorem dX12_judge_59 : decode cX12_judge 59 = .ok (.ishr, 1) := by decide +kernel
theorem dX12_judge_60 : decode cX12_judge 60 = .ok (.sipush 1023, 3) := by decide +kernel
theorem dX12_judge_63 : decode cX12_judge 63 = .ok (.iand, 1) := by decide +kernel
theorem dX12_judge_64 : decode cX12_judge 64 = .ok (.istore 6, 2) := by decide +kernel
theorem dX12_judge_66 : decode cX12_judge 66 = .ok (.iload 6, 2) := by decide +kernel
theorem dX12_judge_68 : decode cX12_judge 68 = .ok (.bipush 10, 2) := by decide +kernel
theorem dX12_judge_70 : decode cX12_judge 70 = .ok (.idiv, 1) := by decide +kernel
theorem dX12_judge_71 : decode cX12_judge 71 = .ok (.bipush 10, 2) := by decide +kernel
theorem dX12_judge_73 : decode cX12_judge 73 = .ok (.irem, 1) := by decide +kernel
theorem dX12_judge_74 : decode cX12_judge 74 = .ok (.istore 7, 2) := by decide +kernel
theorem dX12_judge_76 : decode cX12_judge 76 = .ok (.iload 6, 2) := by decide +kernel
theorem dX12_judge_78 : decode cX12_judge 78 = .ok (.bipush 10, 2) := by decide +kernel
theorem dX12_judge_80 : decode cX12_judge 80 = .ok (.irem, 1) := by decide +kernel
theorem dX12_judge_81 : decode cX12_judge 81 = .ok (.istore 8, 2) := by decide +kernel
theorem dX12_judge_83 : decode cX12_judge 83 = .ok (.iload 6, 2) := by decide +kernel
theorem dX12_judge_85 : decode cX12_judge 85 = .ok (.bipush 100, 2) := by decide +kernel
theorem dX12_judge_87 : decode cX12_judge 87 = .ok (.idiv, 1) := by decide +kernel
theorem dX12_judge_88 : decode cX12_judge 88 = .ok (.iconst 2, 1) := by decide +kernel
theorem dX12_judge_89 : decode cX12_judge 89 = .ok (.if_icmp .gt 21, 3) := by decide +kernel
theorem dX12_judge_92 : decode cX12_judge 92 = .ok (.aload_n 0, 1) := by decide +kernel
theorem dX12_judge_93 : decode cX12_judge 93 = .ok (.iload 7, 2) := by decide +kernel
theorem dX12_judge_95 : decode cX12_judge 95 = .ok (.iload 8, 2) := by decide +kernel
theorem dX12_judge_97 : decode cX12_judge 97 = .ok (.invokevirtual 267, 3) := by decide +kernel
theorem dX12_judge_100 : decode cX12_judge 100 = .ok (.ifCond .eq 10, 3) := by decide +kernel
theorem dX12_judge_103 : decode cX12_judge 103 = .ok (.iload 7, 2) := by decide +kernel
theorem dX12_judge_105 : decode cX12_judge 105 = .ok (.iload 8, 2) := by decide +kernel
theorem dX12_judge_107 : decode cX12_judge 107 = .ok (.if_icmp .le 10, 3) := by decide +kernel
theorem dX12_judge_110 : decode cX12_judge 110 = .ok (.iload 5, 2) := by decide +kernel
theorem dX12_judge_112 : decode cX12_judge 112 = .ok (.istore 4, 2) := by decide +kernel
theorem dX12_judge_114 : decode cX12_judge 114 = .ok (.goto 18, 3) := by decide +kernel
theorem dX12_judge_117 : decode cX12_judge 117 = .ok (.aload_n 0, 1) := by decide +kernel
theorem dX12_judge_118 : decode cX12_judge 118 = .ok (.iload 7, 2) := by decide +kernel
theorem dX12_judge_120 : decode cX12_judge 120 = .ok (.iload 8, 2) := by decide +kernel
theorem dX12_judge_122 : decode cX12_judge 122 = .ok (.iload 6, 2) := by decide +kernel
theorem dX12_judge_124 : decode cX12_judge 124 = .ok (.bipush 100, 2) := by decide +kernel
theorem dX12_judge_126 : decode cX12_judge 126 = .ok (.idiv, 1) := by decide +kernel
theorem dX12_judge_127 : decode cX12_judge 127 = .ok (.iconst 0, 1) := by decide +kernel
theorem dX12_judge_128 : decode cX12_judge 128 = .ok (.invokevirtual 298, 3) := by decide +kernel
theorem dX12_judge_131 : decode cX12_judge 131 = .ok (.pop, 1) := by decide +kernel
theorem dX12_judge_132 : decode cX12_judge 132 = .ok (.iinc 5 1, 3) := by decide +kernel
theorem dX12_judge_135 : decode cX12_judge 135 = .ok (.goto (-95), 3) := by decide +kernel
theorem dX12_judge_138 : decode cX12_judge 138 = .ok (.aload_n 0, 1) := by decide +kernel
theorem dX12_judge_139 : decode cX12_judge 139 = .ok (.invokevirtual 305, 3) := by decide +kernel
theorem dX12_judge_142 : decode cX12_judge 142 = .ok (.iload_n 3, 1) := by decide +kernel
theorem dX12_judge_143 : decode cX12_judge 143 = .ok (.isub, 1) := by decide +kernel
theorem dX12_judge_144 : decode cX12_judge 144 = .ok (.istore 5, 2) := by decide +kernel
theorem dX12_judge_146 : decode cX12_judge 146 = .ok (.aload_n 0, 1) := by decide +kernel
theorem dX12_judge_147 : decode cX12_judge 147 = .ok (.aload_n 0, 1) := by decide +kernel
theorem dX12_judge_148 : decode cX12_judge 148 = .ok (.getfield 65, 3) := by decide +kernel
theorem dX12_judge_151 : decode cX12_judge 151 = .ok (.iconst 0, 1) := by decide +kernel
theorem dX12_judge_152 : decode cX12_judge 152 = .ok (.invokevirtual 302, 3) := by decide +kernel
theorem dX12_judge_155 : decode cX12_judge 155 = .ok (.aload_n 0, 1) := by decide +kernel
theorem dX12_judge_156 : decode cX12_judge 156 = .ok (.iconst 0, 1) := by decide +kernel
theorem dX12_judge_157 : decode cX12_judge 157 = .ok (.putfield 113, 3) := by decide +kernel
theorem dX12_judge_160 : decode cX12_judge 160 = .ok (.aload_n 0, 1) := by decide +kernel
theorem dX12_judge_161 : decode cX12_judge 161 = .ok (.iload 5, 2) := by decide +kernel
theorem dX12_judge_163 : decode cX12_judge 163 = .ok (.i2l, 1) := by decide +kernel
theorem dX12_judge_164 : decode cX12_judge 164 = .ok (.invokevirtual 131, 3) := by decide +kernel
theorem dX12_judge_167 : decode cX12_judge 167 = .ok (.iload 4, 2) := by decide +kernel
theorem dX12_judge_169 : decode cX12_judge 169 = .ok (.ireturn, 1) := by decide +kernel
theorem dX12_goRounds_0 : decode cX12_goRounds 0 = .ok (.aload_n 0, 1) := by decide +kernel
theorem dX12_goRounds_1 : decode cX12_goRounds 1 = .ok (.iconst 0, 1) := by decide +kernel
theorem dX12_goRounds_2 : decode cX12_goRounds 2 = .ok (.putfield 308, 3) := by decide +kernel
theorem dX12_goRounds_5 : decode cX12_goRounds 5 = .ok (.aload_n 0, 1) := by decide +kernel
theorem dX12_goRounds_6 : decode cX12_goRounds 6 = .ok (.iconst 0, 1) := by decide +kernel
theorem dX12_goRounds_7 : decode cX12_goRounds 7 = .ok (.putfield 311, 3) := by decide +kernel
theorem dX12_goRounds_10 : decode cX12_goRounds 10 = .ok (.iconst 0, 1) := by decide +kernel
theorem dX12_goRounds_11 : decode cX12_goRounds 11 = .ok (.istore 5, 2) := by decide +kernel
theorem dX12_goRounds_13 : decode cX12_goRounds 13 = .ok (.iload 5, 2) := by decide +kernel
theorem dX12_goRounds_15 : decode cX12_goRounds 15 = .ok (.iload_n 1, 1) := by decide +kernel
theorem dX12_goRounds_16 : decode cX12_goRounds 16 = .ok (.if_icmp .ge 130, 3) := by decide +kernel
theorem dX12_goRounds_19 : decode cX12_goRounds 19 = .ok (.iload_n 2, 1) := by decide +kernel
theorem dX12_goRounds_20 : decode cX12_goRounds 20 = .ok (.iload 5, 2) := by decide +kernel
theorem dX12_goRounds_22 : decode cX12_goRounds 22 = .ok (.iadd, 1) := by decide +kernel
theorem dX12_goRounds_23 : decode cX12_goRounds 23 = .ok (.aload_n 0, 1) := by decide +kernel
theorem dX12_goRounds_24 : decode cX12_goRounds 24 = .ok (.getfield 184, 3) := by decide +kernel
theorem dX12_goRounds_27 : decode cX12_goRounds 27 = .ok (.irem, 1) := by decide +kernel
theorem dX12_goRounds_28 : decode cX12_goRounds 28 = .ok (.istore 6, 2) := by decide +kernel
theorem dX12_goRounds_30 : decode cX12_goRounds 30 = .ok (.iconst 0, 1) := by decide +kernel
theorem dX12_goRounds_31 : decode cX12_goRounds 31 = .ok (.istore 7, 2) := by decide +kernel
theorem dX12_goRounds_33 : decode cX12_goRounds 33 = .ok (.iload 7, 2) := by decide +kernel
theorem dX12_goRounds_35 : decode cX12_goRounds 35 = .ok (.aload_n 0, 1) := by decide +kernel
theorem dX12_goRounds_36 : decode cX12_goRounds 36 = .ok (.getfield 181, 3) := by decide +kernel
theorem dX12_goRounds_39 : decode cX12_goRounds 39 = .ok (.if_icmp .ge 101, 3) := by decide +kernel
theorem dX12_goRounds_42 : decode cX12_goRounds 42 = .ok (.aload_n 0, 1) := by decide +kernel
theorem dX12_goRounds_43 : decode cX12_goRounds 43 = .ok (.getfield 36, 3) := by decide +kernel
theorem dX12_goRounds_46 : decode cX12_goRounds 46 = .ok (.iconst 4, 1) := by decide +kernel
theorem dX12_goRounds_47 : decode cX12_goRounds 47 = .ok (.iload 7, 2) := by decide +kernel
theorem dX12_goRounds_49 : decode cX12_goRounds 49 = .ok (.imul, 1) := by decide +kernel
theorem dX12_goRounds_50 : decode cX12_goRounds 50 = .ok (.iconst 3, 1) := by decide +kernel
theorem dX12_goRounds_51 : decode cX12_goRounds 51 = .ok (.iadd, 1) := by decide +kernel
theorem dX12_goRounds_52 : decode cX12_goRounds 52 = .ok (.iaload, 1) := by decide +kernel
theorem dX12_goRounds_53 : decode cX12_goRounds 53 = .ok (.iload 6, 2) := by decide +kernel
theorem dX12_goRounds_55 : decode cX12_goRounds 55 = .ok (.if_icmp .eq 6, 3) := by decide +kernel
theorem dX12_goRounds_58 : decode cX12_goRounds 58 = .ok (.goto 76, 3) := by decide +kernel
theorem dX12_goRounds_61 : decode cX12_goRounds 61 = .ok (.iload_n 3, 1) := by decide +kernel
theorem dX12_goRounds_62 : decode cX12_goRounds 62 = .ok (.ifCond .eq 7, 3) := by decide +kernel
theorem dX12_goRounds_65 : decode cX12_goRounds 65 = .ok (.aload_n 0, 1) := by decide +kernel
theorem dX12_goRounds_66 : decode cX12_goRounds 66 = .ok (.invokevirtual 295, 3) := by decide +kernel
theorem dX12_goRounds_69 : decode cX12_goRounds 69 = .ok (.aload_n 0, 1) := by decide +kernel
theorem dX12_goRounds_70 : decode cX12_goRounds 70 = .ok (.dup, 1) := by decide +kernel
theorem dX12_goRounds_71 : decode cX12_goRounds 71 = .ok (.getfield 311, 3) := by decide +kernel
theorem dX12_goRounds_74 : decode cX12_goRounds 74 = .ok (.aload_n 0, 1) := by decide +kernel
theorem dX12_goRounds_75 : decode cX12_goRounds 75 = .ok (.aload_n 0, 1) := by decide +kernel
theorem dX12_goRounds_76 : decode cX12_goRounds 76 = .ok (.getfield 36, 3) := by decide +kernel
theorem dX12_goRounds_79 : decode cX12_goRounds 79 = .ok (.iconst 4, 1) := by decide +kernel
theorem dX12_goRounds_80 : decode cX12_goRounds 80 = .ok (.iload 7, 2) := by decide +kernel
theorem dX12_goRounds_82 : decode cX12_goRounds 82 = .ok (.imul, 1) := by decide +kernel
theorem dX12_goRounds_83 : decode cX12_goRounds 83 = .ok (.iaload, 1) := by decide +kernel
theorem dX12_goRounds_84 : decode cX12_goRounds 84 = .ok (.aload_n 0, 1) := by decide +kernel
theorem dX12_goRounds_85 : decode cX12_goRounds 85 = .ok (.getfield 36, 3) := by decide +kernel
theorem dX12_goRounds_88 : decode cX12_goRounds 88 = .ok (.iconst 4, 1) := by decide +kernel
theorem dX12_goRounds_89 : decode cX12_goRounds 89 = .ok (.iload 7, 2) := by decide +kernel
theorem dX12_goRounds_91 : decode cX12_goRounds 91 = .ok (.imul, 1) := by decide +kernel
theorem dX12_goRounds_92 : decode cX12_goRounds 92 = .ok (.iconst 1, 1) := by decide +kernel
theorem dX12_goRounds_93 : decode cX12_goRounds 93 = .ok (.iadd, 1) := by decide +kernel
theorem dX12_goRounds_94 : decode cX12_goRounds 94 = .ok (.iaload, 1) := by decide +kernel
theorem dX12_goRounds_95 : decode cX12_goRounds 95 = .ok (.aload_n 0, 1) := by decide +kernel
theorem dX12_goRounds_96 : decode cX12_goRounds 96 = .ok (.getfield 36, 3) := by decide +kernel
theorem dX12_goRounds_99 : decode cX12_goRounds 99 = .ok (.iconst 4, 1) := by decide +kernel
theorem dX12_goRounds_100 : decode cX12_goRounds 100 = .ok (.iload 7, 2) := by decide +kernel
theorem dX12_goRounds_102 : decode cX12_goRounds 102 = .ok (.imul, 1) := by decide +kernel
theorem dX12_goRounds_103 : decode cX12_goRounds 103 = .ok (.iconst 2, 1) := by decide +kernel
theorem dX12_goRounds_104 : decode cX12_goRounds 104 = .ok (.iadd, 1) := by decide +kernel
theorem dX12_goRounds_105 : decode cX12_goRounds 105 = .ok (.iaload, 1) := by decide +kernel
theorem dX12_goRounds_106 : decode cX12_goRounds 106 = .ok (.iload 4, 2) := by decide +kernel
theorem dX12_goRounds_108 : decode cX12_goRounds 108 = .ok (.invokevirtual 298, 3) := by decide +kernel
theorem dX12_goRounds_111 : decode cX12_goRounds 111 = .ok (.iconst 2, 1) := by decide +kernel
theorem dX12_goRounds_112 : decode cX12_goRounds 112 = .ok (.if_icmp .ne 7, 3) := by decide +kernel
theorem dX12_goRounds_115 : decode cX12_goRounds 115 = .ok (.iconst 1, 1) := by decide +kernel
theorem dX12_goRounds_116 : decode cX12_goRounds 116 = .ok (.goto 4, 3) := by decide +kernel
theorem dX12_goRounds_119 : decode cX12_goRounds 119 = .ok (.iconst 0, 1) := by decide +kernel
theorem dX12_goRounds_120 : decode cX12_goRounds 120 = .ok (.iadd, 1) := by decide +kernel
theorem dX12_goRounds_121 : decode cX12_goRounds 121 = .ok (.putfield 311, 3) := by decide +kernel
theorem dX12_goRounds_124 : decode cX12_goRounds 124 = .ok (.aload_n 0, 1) := by decide +kernel
theorem dX12_goRounds_125 : decode cX12_goRounds 125 = .ok (.dup, 1) := by decide +kernel
theorem dX12_goRounds_126 : decode cX12_goRounds 126 = .ok (.getfield 308, 3) := by decide +kernel
theorem dX12_goRounds_129 : decode cX12_goRounds 129 = .ok (.iconst 1, 1) := by decide +kernel
theorem dX12_goRounds_130 : decode cX12_goRounds 130 = .ok (.iadd, 1) := by decide +kernel
theorem dX12_goRounds_131 : decode cX12_goRounds 131 = .ok (.putfield 308, 3) := by decide +kernel
theorem dX12_goRounds_134 : decode cX12_goRounds 134 = .ok (.iinc 7 1, 3) := by decide +kernel
theorem dX12_goRounds_137 : decode cX12_goRounds 137 = .ok (.goto (-104), 3) := by decide +kernel
theorem dX12_goRounds_140 : decode cX12_goRounds 140 = .ok (.iinc 5 1, 3) := by decide +kernel
theorem dX12_goRounds_143 : decode cX12_goRounds 143 = .ok (.goto (-130), 3) := by decide +kernel
theorem dX12_goRounds_146 : decode cX12_goRounds 146 = .ok (.return_, 1) := by decide +kernel
theorem dX12_rounds_0 : decode cX12_rounds 0 = .ok (.aload_n 0, 1) := by decide +kernel
theorem dX12_rounds_1 : decode cX12_rounds 1 = .ok (.iconst 0, 1) := by decide +kernel
theorem dX12_rounds_2 : decode cX12_rounds 2 = .ok (.putfield 110, 3) := by decide +kernel
theorem dX12_rounds_5 : decode cX12_rounds 5 = .ok (.iload_n 1, 1) := by decide +kernel
theorem dX12_rounds_6 : decode cX12_rounds 6 = .ok (.i2l, 1) := by decide +kernel
theorem dX12_rounds_7 : decode cX12_rounds 7 = .ok (.lconst 0, 1) := by decide +kernel
theorem dX12_rounds_8 : decode cX12_rounds 8 = .ok (.ldc2_w 314, 3) := by decide +kernel
theorem dX12_rounds_11 : decode cX12_rounds 11 = .ok (.invokestatic 119, 3) := by decide +kernel
theorem dX12_rounds_14 : decode cX12_rounds 14 = .ok (.ifCond .eq 10, 3) := by decide +kernel
theorem dX12_rounds_17 : decode cX12_rounds 17 = .ok (.aload_n 0, 1) := by decide +kernel
theorem dX12_rounds_18 : decode cX12_rounds 18 = .ok (.getfield 184, 3) := by decide +kernel
theorem dX12_rounds_21 : decode cX12_rounds 21 = .ok (.ifCond .ne 5, 3) := by decide +kernel
theorem dX12_rounds_24 : decode cX12_rounds 24 = .ok (.iconst (-1), 1) := by decide +kernel
theorem dX12_rounds_25 : decode cX12_rounds 25 = .ok (.ireturn, 1) := by decide +kernel
theorem dX12_rounds_26 : decode cX12_rounds 26 = .ok (.aload_n 0, 1) := by decide +kernel
theorem dX12_rounds_27 : decode cX12_rounds 27 = .ok (.iload_n 1, 1) := by decide +kernel
theorem dX12_rounds_28 : decode cX12_rounds 28 = .ok (.aload_n 0, 1) := by decide +kernel
theorem dX12_rounds_29 : decode cX12_rounds 29 = .ok (.getfield 187, 3) := by decide +kernel
theorem dX12_rounds_32 : decode cX12_rounds 32 = .ok (.iconst 1, 1) := by decide +kernel
theorem dX12_rounds_33 : decode cX12_rounds 33 = .ok (.iconst 1, 1) := by decide +kernel
theorem dX12_rounds_34 : decode cX12_rounds 34 = .ok (.invokevirtual 316, 3) := by decide +kernel
theorem dX12_rounds_37 : decode cX12_rounds 37 = .ok (.aload_n 0, 1) := by decide +kernel
theorem dX12_rounds_38 : decode cX12_rounds 38 = .ok (.aload_n 0, 1) := by decide +kernel
theorem dX12_rounds_39 : decode cX12_rounds 39 = .ok (.getfield 187, 3) := by decide +kernel
theorem dX12_rounds_42 : decode cX12_rounds 42 = .ok (.iload_n 1, 1) := by decide +kernel
theorem dX12_rounds_43 : decode cX12_rounds 43 = .ok (.iadd, 1) := by decide +kernel
theorem dX12_rounds_44 : decode cX12_rounds 44 = .ok (.aload_n 0, 1) := by decide +kernel
theorem dX12_rounds_45 : decode cX12_rounds 45 = .ok (.getfield 184, 3) := by decide +kernel
theorem dX12_rounds_48 : decode cX12_rounds 48 = .ok (.irem, 1) := by decide +kernel
theorem dX12_rounds_49 : decode cX12_rounds 49 = .ok (.putfield 187, 3) := by decide +kernel
theorem dX12_rounds_52 : decode cX12_rounds 52 = .ok (.aload_n 0, 1) := by decide +kernel
theorem dX12_rounds_53 : decode cX12_rounds 53 = .ok (.iconst 0, 1) := by decide +kernel
theorem dX12_rounds_54 : decode cX12_rounds 54 = .ok (.putfield 113, 3) := by decide +kernel
theorem dX12_rounds_57 : decode cX12_rounds 57 = .ok (.aload_n 0, 1) := by decide +kernel
theorem dX12_rounds_58 : decode cX12_rounds 58 = .ok (.aload_n 0, 1) := by decide +kernel
theorem dX12_rounds_59 : decode cX12_rounds 59 = .ok (.getfield 311, 3) := by decide +kernel
theorem dX12_rounds_62 : decode cX12_rounds 62 = .ok (.i2l, 1) := by decide +kernel
theorem dX12_rounds_63 : decode cX12_rounds 63 = .ok (.invokevirtual 131, 3) := by decide +kernel
theorem dX12_rounds_66 : decode cX12_rounds 66 = .ok (.aload_n 0, 1) := by decide +kernel
theorem dX12_rounds_67 : decode cX12_rounds 67 = .ok (.aload_n 0, 1) := by decide +kernel
theorem dX12_rounds_68 : decode cX12_rounds 68 = .ok (.invokevirtual 305, 3) := by decide +kernel
theorem dX12_rounds_71 : decode cX12_rounds 71 = .ok (.i2l, 1) := by decide +kernel
theorem dX12_rounds_72 : decode cX12_rounds 72 = .ok (.invokevirtual 131, 3) := by decide +kernel
theorem dX12_rounds_75 : decode cX12_rounds 75 = .ok (.aload_n 0, 1) := by decide +kernel
theorem dX12_rounds_76 : decode cX12_rounds 76 = .ok (.getfield 308, 3) := by decide +kernel
theorem dX12_rounds_79 : decode cX12_rounds 79 = .ok (.ireturn, 1) := by decide +kernel
theorem dX12_isAhead_0 : decode cX12_isAhead 0 = .ok (.aload_n 0, 1) := by decide +kernel
theorem dX12_isAhead_1 : decode cX12_isAhead 1 = .ok (.getfield 21, 3) := by decide +kernel
theorem dX12_isAhead_4 : decode cX12_isAhead 4 = .ok (.iload_n 1, 1) := by decide +kernel
theorem dX12_isAhead_5 : decode cX12_isAhead 5 = .ok (.iaload, 1) := by decide +kernel
theorem dX12_isAhead_6 : decode cX12_isAhead 6 = .ok (.aload_n 0, 1) := by decide +kernel
theorem dX12_isAhead_7 : decode cX12_isAhead 7 = .ok (.getfield 21, 3) := by decide +kernel
theorem dX12_isAhead_10 : decode cX12_isAhead 10 = .ok (.iload_n 2, 1) := by decide +kernel
theorem dX12_isAhead_11 : decode cX12_isAhead 11 = .ok (.iaload, 1) := by decide +kernel
theorem dX12_isAhead_12 : decode cX12_isAhead 12 = .ok (.if_icmp .eq 24, 3) := by decide +kernel
theorem dX12_isAhead_15 : decode cX12_isAhead 15 = .ok (.aload_n 0, 1) := by decide +kernel
theorem dX12_isAhead_16 : decode cX12_isAhead 16 = .ok (.getfield 21, 3) := by decide +kernel
theorem dX12_isAhead_19 : decode cX12_isAhead 19 = .ok (.iload_n 1, 1) := by decide +kernel
theorem dX12_isAhead_20 : decode cX12_isAhead 20 = .ok (.iaload, 1) := by decide +kernel
theorem dX12_isAhead_21 : decode cX12_isAhead 21 = .ok (.aload_n 0, 1) := by decide +kernel
theorem dX12_isAhead_22 : decode cX12_isAhead 22 = .ok (.getfield 21, 3) := by decide +kernel
theorem dX12_isAhead_25 : decode cX12_isAhead 25 = .ok (.iload_n 2, 1) := by decide +kernel
theorem dX12_isAhead_26 : decode cX12_isAhead 26 = .ok (.iaload, 1) := by decide +kernel
theorem dX12_isAhead_27 : decode cX12_isAhead 27 = .ok (.if_icmp .le 7, 3) := by decide +kernel
theorem dX12_isAhead_30 : decode cX12_isAhead 30 = .ok (.iconst 1, 1) := by decide +kernel
theorem dX12_isAhead_31 : decode cX12_isAhead 31 = .ok (.goto 4, 3) := by decide +kernel
theorem dX12_isAhead_34 : decode cX12_isAhead 34 = .ok (.iconst 0, 1) := by decide +kernel
theorem dX12_isAhead_35 : decode cX12_isAhead 35 = .ok (.ireturn, 1) := by decide +kernel
theorem dX12_isAhead_36 : decode cX12_isAhead 36 = .ok (.aload_n 0, 1) := by decide +kernel
theorem dX12_isAhead_37 : decode cX12_isAhead 37 = .ok (.iload_n 1, 1) := by decide +kernel
theorem dX12_isAhead_38 : decode cX12_isAhead 38 = .ok (.invokevirtual 255, 3) := by decide +kernel
theorem dX12_isAhead_41 : decode cX12_isAhead 41 = .ok (.istore_n 3, 1) := by decide +kernel
theorem dX12_isAhead_42 : decode cX12_isAhead 42 = .ok (.aload_n 0, 1) := by decide +kernel
theorem dX12_isAhead_43 : decode cX12_isAhead 43 = .ok (.iload_n 2, 1) := by decide +kernel
theorem dX12_isAhead_44 : decode cX12_isAhead 44 = .ok (.invokevirtual 255, 3) := by decide +kernel
theorem dX12_isAhead_47 : decode cX12_isAhead 47 = .ok (.istore 4, 2) := by decide +kernel
theorem dX12_isAhead_49 : decode cX12_isAhead 49 = .ok (.iload_n 3, 1) := by decide +kernel
theorem dX12_isAhead_50 : decode cX12_isAhead 50 = .ok (.iload 4, 2) := by decide +kernel
theorem dX12_isAhead_52 : decode cX12_isAhead 52 = .ok (.if_icmp .eq 17, 3) := by decide +kernel
theorem dX12_isAhead_55 : decode cX12_isAhead 55 = .ok (.iload_n 3, 1) := by decide +kernel
theorem dX12_isAhead_56 : decode cX12_isAhead 56 = .ok (.iload 4, 2) := by decide +kernel
theorem dX12_isAhead_58 : decode cX12_isAhead 58 = .ok (.if_icmp .le 7, 3) := by decide +kernel
theorem dX12_isAhead_61 : decode cX12_isAhead 61 = .ok (.iconst 1, 1) := by decide +kernel
theorem dX12_isAhead_62 : decode cX12_isAhead 62 = .ok (.goto 17, 3) := by decide +kernel
theorem dX12_isAhead_65 : decode cX12_isAhead 65 = .ok (.iconst 0, 1) := by decide +kernel
theorem dX12_isAhead_66 : decode cX12_isAhead 66 = .ok (.goto 13, 3) := by decide +kernel
theorem dX12_isAhead_69 : decode cX12_isAhead 69 = .ok (.iload_n 1, 1) := by decide +kernel
theorem dX12_isAhead_70 : decode cX12_isAhead 70 = .ok (.iload_n 2, 1) := by decide +kernel
theorem dX12_isAhead_71 : decode cX12_isAhead 71 = .ok (.if_icmp .ge 7, 3) := by decide +kernel
theorem dX12_isAhead_74 : decode cX12_isAhead 74 = .ok (.iconst 1, 1) := by decide +kernel
theorem dX12_isAhead_75 : decode cX12_isAhead 75 = .ok (.goto 4, 3) := by decide +kernel
theorem dX12_isAhead_78 : decode cX12_isAhead 78 = .ok (.iconst 0, 1) := by decide +kernel
theorem dX12_isAhead_79 : decode cX12_isAhead 79 = .ok (.ireturn, 1) := by decide +kernel
theorem dX12_table_0 : decode cX12_table 0 = .ok (.aload_n 0, 1) := by decide +kernel
theorem dX12_table_1 : decode cX12_table 1 = .ok (.iconst 0, 1) := by decide +kernel
theorem dX12_table_2 : decode cX12_table 2 = .ok (.putfield 110, 3) := by decide +kernel
theorem dX12_table_5 : decode cX12_table 5 = .ok (.aload_n 0, 1) := by decide +kernel
theorem dX12_table_6 : decode cX12_table 6 = .ok (.iconst 0, 1) := by decide +kernel
theorem dX12_table_7 : decode cX12_table 7 = .ok (.putfield 113, 3) := by decide +kernel
theorem dX12_table_10 : decode cX12_table 10 = .ok (.iconst 0, 1) := by decide +kernel
theorem dX12_table_11 : decode cX12_table 11 = .ok (.istore_n 1, 1) := by decide +kernel
theorem dX12_table_12 : decode cX12_table 12 = .ok (.iload_n 1, 1) := by decide +kernel
theorem dX12_table_13 : decode cX12_table 13 = .ok (.aload_n 0, 1) := by decide +kernel
theorem dX12_table_14 : decode cX12_table 14 = .ok (.getfield 116, 3) := by decide +kernel
theorem dX12_table_17 : decode cX12_table 17 = .ok (.if_icmp .ge 80, 3) := by decide +kernel
theorem dX12_table_20 : decode cX12_table 20 = .ok (.iconst 0, 1) := by decide +kernel
theorem dX12_table_21 : decode cX12_table 21 = .ok (.istore_n 2, 1) := by decide +kernel
theorem dX12_table_22 : decode cX12_table 22 = .ok (.iload_n 2, 1) := by decide +kernel
theorem dX12_table_23 : decode cX12_table 23 = .ok (.aload_n 0, 1) := by decide +kernel
theorem dX12_table_24 : decode cX12_table 24 = .ok (.getfield 116, 3) := by decide +kernel
theorem dX12_table_27 : decode cX12_table 27 = .ok (.if_icmp .ge 64, 3) := by decide +kernel
theorem dX12_table_30 : decode cX12_table 30 = .ok (.iconst 0, 1) := by decide +kernel
theorem dX12_table_31 : decode cX12_table 31 = .ok (.istore_n 3, 1) := by decide +kernel
theorem dX12_table_32 : decode cX12_table 32 = .ok (.iconst 0, 1) := by decide +kernel
theorem dX12_table_33 : decode cX12_table 33 = .ok (.istore 4, 2) := by decide +kernel
theorem dX12_table_35 : decode cX12_table 35 = .ok (.iload 4, 2) := by decide +kernel
theorem dX12_table_37 : decode cX12_table 37 = .ok (.aload_n 0, 1) := by decide +kernel
theorem dX12_table_38 : decode cX12_table 38 = .ok (.getfield 116, 3) := by decide +kernel
theorem dX12_table_41 : decode cX12_table 41 = .ok (.if_icmp .ge 33, 3) := by decide +kernel
theorem dX12_table_44 : decode cX12_table 44 = .ok (.iload_n 3, 1) := by decide +kernel
theorem dX12_table_45 : decode cX12_table 45 = .ok (.iload 4, 2) := by decide +kernel
theorem dX12_table_47 : decode cX12_table 47 = .ok (.iload_n 2, 1) := by decide +kernel
theorem dX12_table_48 : decode cX12_table 48 = .ok (.if_icmp .eq 17, 3) := by decide +kernel
theorem dX12_table_51 : decode cX12_table 51 = .ok (.aload_n 0, 1) := by decide +kernel
theorem dX12_table_52 : decode cX12_table 52 = .ok (.iload 4, 2) := by decide +kernel
theorem dX12_table_54 : decode cX12_table 54 = .ok (.iload_n 2, 1) := by decide +kernel
theorem dX12_table_55 : decode cX12_table 55 = .ok (.invokevirtual 320, 3) := by decide +kernel
theorem dX12_table_58 : decode cX12_table 58 = .ok (.ifCond .eq 7, 3) := by decide +kernel
theorem dX12_table_61 : decode cX12_table 61 = .ok (.iconst 1, 1) := by decide +kernel
theorem dX12_table_62 : decode cX12_table 62 = .ok (.goto 4, 3) := by decide +kernel
theorem dX12_table_65 : decode cX12_table 65 = .ok (.iconst 0, 1) := by decide +kernel
theorem dX12_table_66 : decode cX12_table 66 = .ok (.iadd, 1) := by decide +kernel
theorem dX12_table_67 : decode cX12_table 67 = .ok (.istore_n 3, 1) := by decide +kernel
theorem dX12_table_68 : decode cX12_table 68 = .ok (.iinc 4 1, 3) := by decide +kernel
theorem dX12_table_71 : decode cX12_table 71 = .ok (.goto (-36), 3) := by decide +kernel
theorem dX12_table_74 : decode cX12_table 74 = .ok (.iload_n 3, 1) := by decide +kernel
theorem dX12_table_75 : decode cX12_table 75 = .ok (.iload_n 1, 1) := by decide +kernel
theorem dX12_table_76 : decode cX12_table 76 = .ok (.if_icmp .ne 9, 3) := by decide +kernel
theorem dX12_table_79 : decode cX12_table 79 = .ok (.aload_n 0, 1) := by decide +kernel
theorem dX12_table_80 : decode cX12_table 80 = .ok (.iload_n 2, 1) := by decide +kernel
theorem dX12_table_81 : decode cX12_table 81 = .ok (.i2l, 1) := by decide +kernel
theorem dX12_table_82 : decode cX12_table 82 = .ok (.invokevirtual 131, 3) := by decide +kernel
theorem dX12_table_85 : decode cX12_table 85 = .ok (.iinc 2 1, 3) := by decide +kernel
theorem dX12_table_88 : decode cX12_table 88 = .ok (.goto (-66), 3) := by decide +kernel
theorem dX12_table_91 : decode cX12_table 91 = .ok (.iinc 1 1, 3) := by decide +kernel
theorem dX12_table_94 : decode cX12_table 94 = .ok (.goto (-82), 3) := by decide +kernel
theorem dX12_table_97 : decode cX12_table 97 = .ok (.aload_n 0, 1) := by decide +kernel
theorem dX12_table_98 : decode cX12_table 98 = .ok (.getfield 116, 3) := by decide +kernel
theorem dX12_table_101 : decode cX12_table 101 = .ok (.ireturn, 1) := by decide +kernel
theorem dX12_spreadNow_0 : decode cX12_spreadNow 0 = .ok (.aload_n 0, 1) := by decide +kernel
theorem dX12_spreadNow_1 : decode cX12_spreadNow 1 = .ok (.iconst 0, 1) := by decide +kernel
theorem dX12_spreadNow_2 : decode cX12_spreadNow 2 = .ok (.putfield 323, 3) := by decide +kernel
theorem dX12_spreadNow_5 : decode cX12_spreadNow 5 = .ok (.aload_n 0, 1) := by decide +kernel
theorem dX12_spreadNow_6 : decode cX12_spreadNow 6 = .ok (.iconst 0, 1) := by decide +kernel
theorem dX12_spreadNow_7 : decode cX12_spreadNow 7 = .ok (.putfield 326, 3) := by decide +kernel
theorem dX12_spreadNow_10 : decode cX12_spreadNow 10 = .ok (.aload_n 0, 1) := by decide +kernel
theorem dX12_spreadNow_11 : decode cX12_spreadNow 11 = .ok (.getfield 116, 3) := by decide +kernel
theorem dX12_spreadNow_14 : decode cX12_spreadNow 14 = .ok (.ifCond .ne 5, 3) := by decide +kernel
theorem dX12_spreadNow_17 : decode cX12_spreadNow 17 = .ok (.iconst 0, 1) := by decide +kernel
theorem dX12_spreadNow_18 : decode cX12_spreadNow 18 = .ok (.ireturn, 1) := by decide +kernel
theorem dX12_spreadNow_19 : decode cX12_spreadNow 19 = .ok (.aload_n 0, 1) := by decide +kernel
theorem dX12_spreadNow_20 : decode cX12_spreadNow 20 = .ok (.iconst 0, 1) := by decide +kernel
theorem dX12_spreadNow_21 : decode cX12_spreadNow 21 = .ok (.invokevirtual 255, 3) := by decide +kernel
theorem dX12_spreadNow_24 : decode cX12_spreadNow 24 = .ok (.istore_n 1, 1) := by decide +kernel
theorem dX12_spreadNow_25 : decode cX12_spreadNow 25 = .ok (.iload_n 1, 1) := by decide +kernel
theorem dX12_spreadNow_26 : decode cX12_spreadNow 26 = .ok (.istore_n 2, 1) := by decide +kernel
theorem dX12_spreadNow_27 : decode cX12_spreadNow 27 = .ok (.iconst 1, 1) := by decide +kernel
theorem dX12_spreadNow_28 : decode cX12_spreadNow 28 = .ok (.istore_n 3, 1) := by decide +kernel
theorem dX12_spreadNow_29 : decode cX12_spreadNow 29 = .ok (.iload_n 3, 1) := by decide +kernel
theorem dX12_spreadNow_30 : decode cX12_spreadNow 30 = .ok (.aload_n 0, 1) := by decide +kernel
theorem dX12_spreadNow_31 : decode cX12_spreadNow 31 = .ok (.getfield 116, 3) := by decide +kernel
theorem dX12_spreadNow_34 : decode cX12_spreadNow 34 = .ok (.if_icmp .ge 44, 3) := by decide +kernel
theorem dX12_spreadNow_37 : decode cX12_spreadNow 37 = .ok (.aload_n 0, 1) := by decide +kernel
theorem dX12_spreadNow_38 : decode cX12_spreadNow 38 = .ok (.iload_n 3, 1) := by decide +kernel
theorem dX12_spreadNow_39 : decode cX12_spreadNow 39 = .ok (.invokevirtual 255, 3) := by decide +kernel
theorem dX12_spreadNow_42 : decode cX12_spreadNow 42 = .ok (.istore 4, 2) := by decide +kernel
theorem dX12_spreadNow_44 : decode cX12_spreadNow 44 = .ok (.iload 4, 2) := by decide +kernel
theorem dX12_spreadNow_46 : decode cX12_spreadNow 46 = .ok (.iload_n 1, 1) := by decide +kernel
theorem dX12_spreadNow_47 : decode cX12_spreadNow 47 = .ok (.if_icmp .le 11, 3) := by decide +kernel
theorem dX12_spreadNow_50 : decode cX12_spreadNow 50 = .ok (.iload 4, 2) := by decide +kernel
theorem dX12_spreadNow_52 : decode cX12_spreadNow 52 = .ok (.istore_n 1, 1) := by decide +kernel
theorem dX12_spreadNow_53 : decode cX12_spreadNow 53 = .ok (.aload_n 0, 1) := by decide +kernel
theorem dX12_spreadNow_54 : decode cX12_spreadNow 54 = .ok (.iload_n 3, 1) := by decide +kernel
theorem dX12_spreadNow_55 : decode cX12_spreadNow 55 = .ok (.putfield 323, 3) := by decide +kernel
theorem dX12_spreadNow_58 : decode cX12_spreadNow 58 = .ok (.iload 4, 2) := by decide +kernel
theorem dX12_spreadNow_60 : decode cX12_spreadNow 60 = .ok (.iload_n 2, 1) := by decide +kernel
theorem dX12_spreadNow_61 : decode cX12_spreadNow 61 = .ok (.if_icmp .ge 11, 3) := by decide +kernel
theorem dX12_spreadNow_64 : decode cX12_spreadNow 64 = .ok (.iload 4, 2) := by decide +kernel
theorem dX12_spreadNow_66 : decode cX12_spreadNow 66 = .ok (.istore_n 2, 1) := by decide +kernel
theorem dX12_spreadNow_67 : decode cX12_spreadNow 67 = .ok (.aload_n 0, 1) := by decide +kernel
theorem dX12_spreadNow_68 : decode cX12_spreadNow 68 = .ok (.iload_n 3, 1) := by decide +kernel
theorem dX12_spreadNow_69 : decode cX12_spreadNow 69 = .ok (.putfield 326, 3) := by decide +kernel
theorem dX12_spreadNow_72 : decode cX12_spreadNow 72 = .ok (.iinc 3 1, 3) := by decide +kernel
theorem dX12_spreadNow_75 : decode cX12_spreadNow 75 = .ok (.goto (-46), 3) := by decide +kernel
theorem dX12_spreadNow_78 : decode cX12_spreadNow 78 = .ok (.iload_n 1, 1) := by decide +kernel
theorem dX12_spreadNow_79 : decode cX12_spreadNow 79 = .ok (.iload_n 2, 1) := by decide +kernel
theorem dX12_spreadNow_80 : decode cX12_spreadNow 80 = .ok (.isub, 1) := by decide +kernel
theorem dX12_spreadNow_81 : decode cX12_spreadNow 81 = .ok (.ireturn, 1) := by decide +kernel
theorem dX12_spread_0 : decode cX12_spread 0 = .ok (.aload_n 0, 1) := by decide +kernel
theorem dX12_spread_1 : decode cX12_spread 1 = .ok (.iconst 0, 1) := by decide +kernel
theorem dX12_spread_2 : decode cX12_spread 2 = .ok (.putfield 110, 3) := by decide +kernel
theorem dX12_spread_5 : decode cX12_spread 5 = .ok (.aload_n 0, 1) := by decide +kernel
theorem dX12_spread_6 : decode cX12_spread 6 = .ok (.invokevirtual 329, 3) := by decide +kernel
theorem dX12_spread_9 : decode cX12_spread 9 = .ok (.istore_n 1, 1) := by decide +kernel
theorem dX12_spread_10 : decode cX12_spread 10 = .ok (.aload_n 0, 1) := by decide +kernel
theorem dX12_spread_11 : decode cX12_spread 11 = .ok (.iconst 0, 1) := by decide +kernel
theorem dX12_spread_12 : decode cX12_spread 12 = .ok (.putfield 113, 3) := by decide +kernel
theorem dX12_spread_15 : decode cX12_spread 15 = .ok (.aload_n 0, 1) := by decide +kernel
theorem dX12_spread_16 : decode cX12_spread 16 = .ok (.getfield 116, 3) := by decide +kernel
theorem dX12_spread_19 : decode cX12_spread 19 = .ok (.ifCond .le 21, 3) := by decide +kernel
theorem dX12_spread_22 : decode cX12_spread 22 = .ok (.aload_n 0, 1) := by decide +kernel
theorem dX12_spread_23 : decode cX12_spread 23 = .ok (.aload_n 0, 1) := by decide +kernel
theorem dX12_spread_24 : decode cX12_spread 24 = .ok (.getfield 323, 3) := by decide +kernel
theorem dX12_spread_27 : decode cX12_spread 27 = .ok (.i2l, 1) := by decide +kernel
theorem dX12_spread_28 : decode cX12_spread 28 = .ok (.invokevirtual 131, 3) := by decide +kernel
theorem dX12_spread_31 : decode cX12_spread 31 = .ok (.aload_n 0, 1) := by decide +kernel
theorem dX12_spread_32 : decode cX12_spread 32 = .ok (.aload_n 0, 1) := by decide +kernel
theorem dX12_spread_33 : decode cX12_spread 33 = .ok (.getfield 326, 3) := by decide +kernel
theorem dX12_spread_36 : decode cX12_spread 36 = .ok (.i2l, 1) := by decide +kernel
theorem dX12_spread_37 : decode cX12_spread 37 = .ok (.invokevirtual 131, 3) := by decide +kernel
theorem dX12_spread_40 : decode cX12_spread 40 = .ok (.iload_n 1, 1) := by decide +kernel
theorem dX12_spread_41 : decode cX12_spread 41 = .ok (.ireturn, 1) := by decide +kernel
theorem dX12_swap_0 : decode cX12_swap 0 = .ok (.aload_n 0, 1) := by decide +kernel
theorem dX12_swap_1 : decode cX12_swap 1 = .ok (.iconst 0, 1) := by decide +kernel
theorem dX12_swap_2 : decode cX12_swap 2 = .ok (.putfield 110, 3) := by decide +kernel
theorem dX12_swap_5 : decode cX12_swap 5 = .ok (.aload_n 0, 1) := by decide +kernel
theorem dX12_swap_6 : decode cX12_swap 6 = .ok (.iload_n 1, 1) := by decide +kernel
theorem dX12_swap_7 : decode cX12_swap 7 = .ok (.iload_n 2, 1) := by decide +kernel
theorem dX12_swap_8 : decode cX12_swap 8 = .ok (.invokevirtual 267, 3) := by decide +kernel
theorem dX12_swap_11 : decode cX12_swap 11 = .ok (.ifCond .ne 5, 3) := by decide +kernel
theorem dX12_swap_14 : decode cX12_swap 14 = .ok (.iconst 0, 1) := by decide +kernel
theorem dX12_swap_15 : decode cX12_swap 15 = .ok (.ireturn, 1) := by decide +kernel
theorem dX12_swap_16 : decode cX12_swap 16 = .ok (.iconst 0, 1) := by decide +kernel
theorem dX12_swap_17 : decode cX12_swap 17 = .ok (.istore_n 3, 1) := by decide +kernel
theorem dX12_swap_18 : decode cX12_swap 18 = .ok (.iload_n 3, 1) := by decide +kernel
theorem dX12_swap_19 : decode cX12_swap 19 = .ok (.iconst 4, 1) := by decide +kernel
theorem dX12_swap_20 : decode cX12_swap 20 = .ok (.if_icmp .ge 53, 3) := by decide +kernel
theorem dX12_swap_23 : decode cX12_swap 23 = .ok (.aload_n 0, 1) := by decide +kernel
theorem dX12_swap_24 : decode cX12_swap 24 = .ok (.getfield 13, 3) := by decide +kernel
theorem dX12_swap_27 : decode cX12_swap 27 = .ok (.iconst 4, 1) := by decide +kernel
theorem dX12_swap_28 : decode cX12_swap 28 = .ok (.iload_n 1, 1) := by decide +kernel
theorem dX12_swap_29 : decode cX12_swap 29 = .ok (.imul, 1) := by decide +kernel
theorem dX12_swap_30 : decode cX12_swap 30 = .ok (.iload_n 3, 1) := by decide +kernel
theorem dX12_swap_31 : decode cX12_swap 31 = .ok (.iadd, 1) := by decide +kernel
theorem dX12_swap_32 : decode cX12_swap 32 = .ok (.iaload, 1) := by decide +kernel
theorem dX12_swap_33 : decode cX12_swap 33 = .ok (.istore 4, 2) := by decide +kernel
theorem dX12_swap_35 : decode cX12_swap 35 = .ok (.aload_n 0, 1) := by decide +kernel
theorem dX12_swap_36 : decode cX12_swap 36 = .ok (.getfield 13, 3) := by decide +kernel
theorem dX12_swap_39 : decode cX12_swap 39 = .ok (.iconst 4, 1) := by decide +kernel
theorem dX12_swap_40 : decode cX12_swap 40 = .ok (.iload_n 1, 1) := by decide +kernel
theorem dX12_swap_41 : decode cX12_swap 41 = .ok (.imul, 1) := by decide +kernel
theorem dX12_swap_42 : decode cX12_swap 42 = .ok (.iload_n 3, 1) := by decide +kernel
theorem dX12_swap_43 : decode cX12_swap 43 = .ok (.iadd, 1) := by decide +kernel
theorem dX12_swap_44 : decode cX12_swap 44 = .ok (.aload_n 0, 1) := by decide +kernel
theorem dX12_swap_45 : decode cX12_swap 45 = .ok (.getfield 13, 3) := by decide +kernel
theorem dX12_swap_48 : decode cX12_swap 48 = .ok (.iconst 4, 1) := by decide +kernel
theorem dX12_swap_49 : decode cX12_swap 49 = .ok (.iload_n 2, 1) := by decide +kernel
theorem dX12_swap_50 : decode cX12_swap 50 = .ok (.imul, 1) := by decide +kernel
theorem dX12_swap_51 : decode cX12_swap 51 = .ok (.iload_n 3, 1) := by decide +kernel
theorem dX12_swap_52 : decode cX12_swap 52 = .ok (.iadd, 1) := by decide +kernel
theorem dX12_swap_53 : decode cX12_swap 53 = .ok (.iaload, 1) := by decide +kernel
theorem dX12_swap_54 : decode cX12_swap 54 = .ok (.iastore, 1) := by decide +kernel
theorem dX12_swap_55 : decode cX12_swap 55 = .ok (.aload_n 0, 1) := by decide +kernel
theorem dX12_swap_56 : decode cX12_swap 56 = .ok (.getfield 13, 3) := by decide +kernel
theorem dX12_swap_59 : decode cX12_swap 59 = .ok (.iconst 4, 1) := by decide +kernel
theorem dX12_swap_60 : decode cX12_swap 60 = .ok (.iload_n 2, 1) := by decide +kernel
theorem dX12_swap_61 : decode cX12_swap 61 = .ok (.imul, 1) := by decide +kernel
theorem dX12_swap_62 : decode cX12_swap 62 = .ok (.iload_n 3, 1) := by decide +kernel
theorem dX12_swap_63 : decode cX12_swap 63 = .ok (.iadd, 1) := by decide +kernel
theorem dX12_swap_64 : decode cX12_swap 64 = .ok (.iload 4, 2) := by decide +kernel
theorem dX12_swap_66 : decode cX12_swap 66 = .ok (.iastore, 1) := by decide +kernel
theorem dX12_swap_67 : decode cX12_swap 67 = .ok (.iinc 3 1, 3) := by decide +kernel
theorem dX12_swap_70 : decode cX12_swap 70 = .ok (.goto (-52), 3) := by decide +kernel
theorem dX12_swap_73 : decode cX12_swap 73 = .ok (.aload_n 0, 1) := by decide +kernel
theorem dX12_swap_74 : decode cX12_swap 74 = .ok (.iconst 0, 1) := by decide +kernel
theorem dX12_swap_75 : decode cX12_swap 75 = .ok (.putfield 196, 3) := by decide +kernel
theorem dX12_swap_78 : decode cX12_swap 78 = .ok (.iconst 1, 1) := by decide +kernel
theorem dX12_swap_79 : decode cX12_swap 79 = .ok (.ireturn, 1) := by decide +kernel
theorem dX12_circle_0 : decode cX12_circle 0 = .ok (.aload_n 0, 1) := by decide +kernel
theorem dX12_circle_1 : decode cX12_circle 1 = .ok (.iconst 0, 1) := by decide +kernel
theorem dX12_circle_2 : decode cX12_circle 2 = .ok (.putfield 110, 3) := by decide +kernel
theorem dX12_circle_5 : decode cX12_circle 5 = .ok (.aload_n 0, 1) := by decide +kernel
theorem dX12_circle_6 : decode cX12_circle 6 = .ok (.getfield 116, 3) := by decide +kernel
theorem dX12_circle_9 : decode cX12_circle 9 = .ok (.iconst 2, 1) := by decide +kernel
theorem dX12_circle_10 : decode cX12_circle 10 = .ok (.if_icmp .ge 5, 3) := by decide +kernel
theorem dX12_circle_13 : decode cX12_circle 13 = .ok (.iconst (-1), 1) := by decide +kernel
theorem dX12_circle_14 : decode cX12_circle 14 = .ok (.ireturn, 1) := by decide +kernel
theorem dX12_circle_15 : decode cX12_circle 15 = .ok (.aload_n 0, 1) := by decide +kernel
theorem dX12_circle_16 : decode cX12_circle 16 = .ok (.getfield 116, 3) := by decide +kernel
theorem dX12_circle_19 : decode cX12_circle 19 = .ok (.aload_n 0, 1) := by decide +kernel
theorem dX12_circle_20 : decode cX12_circle 20 = .ok (.getfield 116, 3) := by decide +kernel
theorem dX12_circle_23 : decode cX12_circle 23 = .ok (.iconst 2, 1) := by decide +kernel
theorem dX12_circle_24 : decode cX12_circle 24 = .ok (.irem, 1) := by decide +kernel
theorem dX12_circle_25 : decode cX12_circle 25 = .ok (.iadd, 1) := by decide +kernel
theorem dX12_circle_26 : decode cX12_circle 26 = .ok (.istore_n 1, 1) := by decide +kernel
theorem dX12_circle_27 : decode cX12_circle 27 = .ok (.iconst 0, 1) := by decide +kernel
theorem dX12_circle_28 : decode cX12_circle 28 = .ok (.istore_n 2, 1) := by decide +kernel
theorem dX12_circle_29 : decode cX12_circle 29 = .ok (.iload_n 2, 1) := by decide +kernel
theorem dX12_circle_30 : decode cX12_circle 30 = .ok (.iload_n 1, 1) := by decide +kernel
theorem dX12_circle_31 : decode cX12_circle 31 = .ok (.if_icmp .ge 16, 3) := by decide +kernel
theorem dX12_circle_34 : decode cX12_circle 34 = .ok (.aload_n 0, 1) := by decide +kernel
theorem dX12_circle_35 : decode cX12_circle 35 = .ok (.getfield 68, 3) := by decide +kernel
theorem dX12_circle_38 : decode cX12_circle 38 = .ok (.iload_n 2, 1) := by decide +kernel
theorem dX12_circle_39 : decode cX12_circle 39 = .ok (.iload_n 2, 1) := by decide +kernel
theorem dX12_circle_40 : decode cX12_circle 40 = .ok (.iastore, 1) := by decide +kernel
theorem dX12_circle_41 : decode cX12_circle 41 = .ok (.iinc 2 1, 3) := by decide +kernel
theorem dX12_circle_44 : decode cX12_circle 44 = .ok (.goto (-15), 3) := by decide +kernel
theorem dX12_circle_47 : decode cX12_circle 47 = .ok (.aload_n 0, 1) := by decide +kernel
theorem dX12_circle_48 : decode cX12_circle 48 = .ok (.iconst 0, 1) := by decide +kernel
theorem dX12_circle_49 : decode cX12_circle 49 = .ok (.putfield 181, 3) := by decide +kernel
theorem dX12_circle_52 : decode cX12_circle 52 = .ok (.iconst 0, 1) := by decide +kernel
theorem dX12_circle_53 : decode cX12_circle 53 = .ok (.istore_n 2, 1) := by decide +kernel
theorem dX12_circle_54 : decode cX12_circle 54 = .ok (.iload_n 2, 1) := by decide +kernel
theorem dX12_circle_55 : decode cX12_circle 55 = .ok (.iload_n 1, 1) := by decide +kernel
theorem dX12_circle_56 : decode cX12_circle 56 = .ok (.iconst 1, 1) := by decide +kernel
theorem dX12_circle_57 : decode cX12_circle 57 = .ok (.isub, 1) := by decide +kernel
theorem dX12_circle_58 : decode cX12_circle 58 = .ok (.if_icmp .ge 180, 3) := by decide +kernel
theorem dX12_circle_61 : decode cX12_circle 61 = .ok (.iconst 0, 1) := by decide +kernel
theorem dX12_circle_62 : decode cX12_circle 62 = .ok (.istore_n 3, 1) := by decide +kernel
theorem dX12_circle_63 : decode cX12_circle 63 = .ok (.iload_n 3, 1) := by decide +kernel
theorem dX12_circle_64 : decode cX12_circle 64 = .ok (.iload_n 1, 1) := by decide +kernel
theorem dX12_circle_65 : decode cX12_circle 65 = .ok (.iconst 2, 1) := by decide +kernel
theorem dX12_circle_66 : decode cX12_circle 66 = .ok (.idiv, 1) := by decide +kernel
theorem dX12_circle_67 : decode cX12_circle 67 = .ok (.if_icmp .ge 116, 3) := by decide +kernel
theorem dX12_circle_70 : decode cX12_circle 70 = .ok (.aload_n 0, 1) := by decide +kernel
theorem dX12_circle_71 : decode cX12_circle 71 = .ok (.getfield 68, 3) := by decide +kernel
theorem dX12_circle_74 : decode cX12_circle 74 = .ok (.iload_n 3, 1) := by decide +kernel
theorem dX12_circle_75 : decode cX12_circle 75 = .ok (.iaload, 1) := by decide +kernel
theorem dX12_circle_76 : decode cX12_circle 76 = .ok (.istore 4, 2) := by decide +kernel
theorem dX12_circle_78 : decode cX12_circle 78 = .ok (.aload_n 0, 1) := by decide +kernel
theorem dX12_circle_79 : decode cX12_circle 79 = .ok (.getfield 68, 3) := by decide +kernel
theorem dX12_circle_82 : decode cX12_circle 82 = .ok (.iload_n 1, 1) := by decide +kernel
theorem dX12_circle_83 : decode cX12_circle 83 = .ok (.iconst 1, 1) := by decide +kernel
theorem dX12_circle_84 : decode cX12_circle 84 = .ok (.isub, 1) := by decide +kernel
theorem dX12_circle_85 : decode cX12_circle 85 = .ok (.iload_n 3, 1) := by decide +kernel
theorem dX12_circle_86 : decode cX12_circle 86 = .ok (.isub, 1) := by decide +kernel
theorem dX12_circle_87 : decode cX12_circle 87 = .ok (.iaload, 1) := by decide +kernel
theorem dX12_circle_88 : decode cX12_circle 88 = .ok (.istore 5, 2) := by decide +kernel
theorem dX12_circle_90 : decode cX12_circle 90 = .ok (.aload_n 0, 1) := by decide +kernel
theorem dX12_circle_91 : decode cX12_circle 91 = .ok (.iload 4, 2) := by decide +kernel
theorem dX12_circle_93 : decode cX12_circle 93 = .ok (.invokevirtual 123, 3) := by decide +kernel
theorem dX12_circle_96 : decode cX12_circle 96 = .ok (.ifCond .eq 81, 3) := by decide +kernel
theorem dX12_circle_99 : decode cX12_circle 99 = .ok (.aload_n 0, 1) := by decide +kernel
theorem dX12_circle_100 : decode cX12_circle 100 = .ok (.iload 5, 2) := by decide +kernel
theorem dX12_circle_102 : decode cX12_circle 102 = .ok (.invokevirtual 123, 3) := by decide +kernel
theorem dX12_circle_105 : decode cX12_circle 105 = .ok (.ifCond .ne 6, 3) := by decide +kernel
theorem dX12_circle_108 : decode cX12_circle 108 = .ok (.goto 69, 3) := by decide +kernel
theorem dX12_circle_111 : decode cX12_circle 111 = .ok (.aload_n 0, 1) := by decide +kernel
theorem dX12_circle_112 : decode cX12_circle 112 = .ok (.getfield 36, 3) := by decide +kernel
theorem dX12_circle_115 : decode cX12_circle 115 = .ok (.iconst 4, 1) := by decide +kernel
theorem dX12_circle_116 : decode cX12_circle 116 = .ok (.aload_n 0, 1) := by decide +kernel
theorem dX12_circle_117 : decode cX12_circle 117 = .ok (.getfield 181, 3) := by decide +kernel
theorem dX12_circle_120 : decode cX12_circle 120 = .ok (.imul, 1) := by decide +kernel
theorem dX12_circle_121 : decode cX12_circle 121 = .ok (.iload 4, 2) := by decide +kernel
theorem dX12_circle_123 : decode cX12_circle 123 = .ok (.iastore, 1) := by decide +kernel
theorem dX12_circle_124 : decode cX12_circle 124 = .ok (.aload_n 0, 1) := by decide +kernel
theorem dX12_circle_125 : decode cX12_circle 125 = .ok (.getfield 36, 3) := by decide +kernel
theorem dX12_circle_128 : decode cX12_circle 128 = .ok (.iconst 4, 1) := by decide +kernel
theorem dX12_circle_129 : decode cX12_circle 129 = .ok (.aload_n 0, 1) := by decide +kernel
theorem dX12_circle_130 : decode cX12_circle 130 = .ok (.getfield 181, 3) := by decide +kernel
theorem dX12_circle_133 : decode cX12_circle 133 = .ok (.imul, 1) := by decide +kernel
theorem dX12_circle_134 : decode cX12_circle 134 = .ok (.iconst 1, 1) := by decide +kernel
theorem dX12_circle_135 : decode cX12_circle 135 = .ok (.iadd, 1) := by decide +kernel
theorem dX12_circle_136 : decode cX12_circle 136 = .ok (.iload 5, 2) := by decide +kernel
theorem dX12_circle_138 : decode cX12_circle 138 = .ok (.iastore, 1) := by decide +kernel
theorem dX12_circle_139 : decode cX12_circle 139 = .ok (.aload_n 0, 1) := by decide +kernel
theorem dX12_circle_140 : decode cX12_circle 140 = .ok (.getfield 36, 3) := by decide +kernel
theorem dX12_circle_143 : decode cX12_circle 143 = .ok (.iconst 4, 1) := by decide +kernel
theorem dX12_circle_144 : decode cX12_circle 144 = .ok (.aload_n 0, 1) := by decide +kernel
theorem dX12_circle_145 : decode cX12_circle 145 = .ok (.getfield 181, 3) := by decide +kernel
theorem dX12_circle_148 : decode cX12_circle 148 = .ok (.imul, 1) := by decide +kernel
theorem dX12_circle_149 : decode cX12_circle 149 = .ok (.iconst 2, 1) := by decide +kernel
theorem dX12_circle_150 : decode cX12_circle 150 = .ok (.iadd, 1) := by decide +kernel
theorem dX12_circle_151 : decode cX12_circle 151 = .ok (.iconst 0, 1) := by decide +kernel
theorem dX12_circle_152 : decode cX12_circle 152 = .ok (.iastore, 1) := by decide +kernel
theorem dX12_circle_153 : decode cX12_circle 153 = .ok (.aload_n 0, 1) := by decide +kernel
theorem dX12_circle_154 : decode cX12_circle 154 = .ok (.getfield 36, 3) := by decide +kernel
theorem dX12_circle_157 : decode cX12_circle 157 = .ok (.iconst 4, 1) := by decide +kernel
theorem dX12_circle_158 : decode cX12_circle 158 = .ok (.aload_n 0, 1) := by decide +kernel
theorem dX12_circle_159 : decode cX12_circle 159 = .ok (.getfield 181, 3) := by decide +kernel
theorem dX12_circle_162 : decode cX12_circle 162 = .ok (.imul, 1) := by decide +kernel
theorem dX12_circle_163 : decode cX12_circle 163 = .ok (.iconst 3, 1) := by decide +kernel
theorem dX12_circle_164 : decode cX12_circle 164 = .ok (.iadd, 1) := by decide +kernel
theorem dX12_circle_165 : decode cX12_circle 165 = .ok (.iload_n 2, 1) := by decide +kernel
theorem dX12_circle_166 : decode cX12_circle 166 = .ok (.iastore, 1) := by decide +kernel
theorem dX12_circle_167 : decode cX12_circle 167 = .ok (.aload_n 0, 1) := by decide +kernel
theorem dX12_circle_168 : decode cX12_circle 168 = .ok (.dup, 1) := by decide +kernel
theorem dX12_circle_169 : decode cX12_circle 169 = .ok (.getfield 181, 3) := by decide +kernel
theorem dX12_circle_172 : decode cX12_circle 172 = .ok (.iconst 1, 1) := by decide +kernel
theorem dX12_circle_173 : decode cX12_circle 173 = .ok (.iadd, 1) := by decide +kernel
theorem dX12_circle_174 : decode cX12_circle 174 = .ok (.putfield 181, 3) := by decide +kernel
theorem dX12_circle_177 : decode cX12_circle 177 = .ok (.iinc 3 1, 3) := by decide +kernel
theorem dX12_circle_180 : decode cX12_circle 180 = .ok (.goto (-117), 3) := by decide +kernel
theorem dX12_circle_183 : decode cX12_circle 183 = .ok (.aload_n 0, 1) := by decide +kernel
theorem dX12_circle_184 : decode cX12_circle 184 = .ok (.getfield 68, 3) := by decide +kernel
theorem dX12_circle_187 : decode cX12_circle 187 = .ok (.iload_n 1, 1) := by decide +kernel
theorem dX12_circle_188 : decode cX12_circle 188 = .ok (.iconst 1, 1) := by decide +kernel
theorem dX12_circle_189 : decode cX12_circle 189 = .ok (.isub, 1) := by decide +kernel
theorem dX12_circle_190 : decode cX12_circle 190 = .ok (.iaload, 1) := by decide +kernel
theorem dX12_circle_191 : decode cX12_circle 191 = .ok (.istore_n 3, 1) := by decide +kernel
theorem dX12_circle_192 : decode cX12_circle 192 = .ok (.iload_n 1, 1) := by decide +kernel
theorem dX12_circle_193 : decode cX12_circle 193 = .ok (.iconst 1, 1) := by decide +kernel
theorem dX12_circle_194 : decode cX12_circle 194 = .ok (.isub, 1) := by decide +kernel
theorem dX12_circle_195 : decode cX12_circle 195 = .ok (.istore 4, 2) := by decide +kernel
theorem dX12_circle_197 : decode cX12_circle 197 = .ok (.iload 4, 2) := by decide +kernel
theorem dX12_circle_199 : decode cX12_circle 199 = .ok (.iconst 1, 1) := by decide +kernel
theorem dX12_circle_200 : decode cX12_circle 200 = .ok (.if_icmp .le 25, 3) := by decide +kernel
theorem dX12_circle_203 : decode cX12_circle 203 = .ok (.aload_n 0, 1) := by decide +kernel
theorem dX12_circle_204 : decode cX12_circle 204 = .ok (.getfield 68, 3) := by decide +kernel
theorem dX12_circle_207 : decode cX12_circle 207 = .ok (.iload 4, 2) := by decide +kernel
theorem dX12_circle_209 : decode cX12_circle 209 = .ok (.aload_n 0, 1) := by decide +kernel
theorem dX12_circle_210 : decode cX12_circle 210 = .ok (.getfield 68, 3) := by decide +kernel
theorem dX12_circle_213 : decode cX12_circle 213 = .ok (.iload 4, 2) := by decide +kernel
theorem dX12_circle_215 : decode cX12_circle 215 = .ok (.iconst 1, 1) := by decide +kernel
theorem dX12_circle_216 : decode cX12_circle 216 = .ok (.isub, 1) := by decide +kernel
theorem dX12_circle_217 : decode cX12_circle 217 = .ok (.iaload, 1) := by decide +kernel
theorem dX12_circle_218 : decode cX12_circle 218 = .ok (.iastore, 1) := by decide +kernel
theorem dX12_circle_219 : decode cX12_circle 219 = .ok (.iinc 4 (-1), 3) := by decide +kernel
theorem dX12_circle_222 : decode cX12_circle 222 = .ok (.goto (-25), 3) := by decide +kernel
theorem dX12_circle_225 : decode cX12_circle 225 = .ok (.aload_n 0, 1) := by decide +kernel
theorem dX12_circle_226 : decode cX12_circle 226 = .ok (.getfield 68, 3) := by decide +kernel
theorem dX12_circle_229 : decode cX12_circle 229 = .ok (.iconst 1, 1) := by decide +kernel
theorem dX12_circle_230 : decode cX12_circle 230 = .ok (.iload_n 3, 1) := by decide +kernel
theorem dX12_circle_231 : decode cX12_circle 231 = .ok (.iastore, 1) := by decide +kernel
theorem dX12_circle_232 : decode cX12_circle 232 = .ok (.iinc 2 1, 3) := by decide +kernel
theorem dX12_circle_235 : decode cX12_circle 235 = .ok (.goto (-181), 3) := by decide +kernel
theorem dX12_circle_238 : decode cX12_circle 238 = .ok (.aload_n 0, 1) := by decide +kernel
theorem dX12_circle_239 : decode cX12_circle 239 = .ok (.iload_n 1, 1) := by decide +kernel
theorem dX12_circle_240 : decode cX12_circle 240 = .ok (.iconst 1, 1) := by decide +kernel
theorem dX12_circle_241 : decode cX12_circle 241 = .ok (.isub, 1) := by decide +kernel
theorem dX12_circle_242 : decode cX12_circle 242 = .ok (.putfield 184, 3) := by decide +kernel
theorem dX12_circle_245 : decode cX12_circle 245 = .ok (.aload_n 0, 1) := by decide +kernel
theorem dX12_circle_246 : decode cX12_circle 246 = .ok (.iconst 0, 1) := by decide +kernel
theorem dX12_circle_247 : decode cX12_circle 247 = .ok (.putfield 187, 3) := by decide +kernel
theorem dX12_circle_250 : decode cX12_circle 250 = .ok (.aload_n 0, 1) := by decide +kernel
theorem dX12_circle_251 : decode cX12_circle 251 = .ok (.getfield 184, 3) := by decide +kernel
theorem dX12_circle_254 : decode cX12_circle 254 = .ok (.ireturn, 1) := by decide +kernel
theorem dX12_beatenBy_0 : decode cX12_beatenBy 0 = .ok (.iconst 0, 1) := by decide +kernel
theorem dX12_beatenBy_1 : decode cX12_beatenBy 1 = .ok (.istore_n 2, 1) := by decide +kernel
theorem dX12_beatenBy_2 : decode cX12_beatenBy 2 = .ok (.iconst 0, 1) := by decide +kernel
theorem dX12_beatenBy_3 : decode cX12_beatenBy 3 = .ok (.istore_n 3, 1) := by decide +kernel
theorem dX12_beatenBy_4 : decode cX12_beatenBy 4 = .ok (.iload_n 3, 1) := by decide +kernel
theorem dX12_beatenBy_5 : decode cX12_beatenBy 5 = .ok (.aload_n 0, 1) := by decide +kernel
theorem dX12_beatenBy_6 : decode cX12_beatenBy 6 = .ok (.getfield 116, 3) := by decide +kernel
theorem dX12_beatenBy_9 : decode cX12_beatenBy 9 = .ok (.if_icmp .ge 34, 3) := by decide +kernel
theorem dX12_beatenBy_12 : decode cX12_beatenBy 12 = .ok (.iload_n 2, 1) := by decide +kernel
theorem dX12_beatenBy_13 : decode cX12_beatenBy 13 = .ok (.iload_n 3, 1) := by decide +kernel
theorem dX12_beatenBy_14 : decode cX12_beatenBy 14 = .ok (.iload_n 1, 1) := by decide +kernel
theorem dX12_beatenBy_15 : decode cX12_beatenBy 15 = .ok (.if_icmp .eq 19, 3) := by decide +kernel
theorem dX12_beatenBy_18 : decode cX12_beatenBy 18 = .ok (.aload_n 0, 1) := by decide +kernel
theorem dX12_beatenBy_19 : decode cX12_beatenBy 19 = .ok (.iload_n 1, 1) := by decide +kernel
theorem dX12_beatenBy_20 : decode cX12_beatenBy 20 = .ok (.iload_n 3, 1) := by decide +kernel
theorem dX12_beatenBy_21 : decode cX12_beatenBy 21 = .ok (.iconst 0, 1) := by decide +kernel
theorem dX12_beatenBy_22 : decode cX12_beatenBy 22 = .ok (.invokevirtual 273, 3) := by decide +kernel
theorem dX12_beatenBy_25 : decode cX12_beatenBy 25 = .ok (.ifCond .ne 9, 3) := by decide +kernel
theorem dX12_beatenBy_28 : decode cX12_beatenBy 28 = .ok (.iconst 1, 1) := by decide +kernel
theorem dX12_beatenBy_29 : decode cX12_beatenBy 29 = .ok (.iload_n 3, 1) := by decide +kernel
theorem dX12_beatenBy_30 : decode cX12_beatenBy 30 = .ok (.ishl, 1) := by decide +kernel
theorem dX12_beatenBy_31 : decode cX12_beatenBy 31 = .ok (.goto 4, 3) := by decide +kernel
theorem dX12_beatenBy_34 : decode cX12_beatenBy 34 = .ok (.iconst 0, 1) := by decide +kernel
theorem dX12_beatenBy_35 : decode cX12_beatenBy 35 = .ok (.ior, 1) := by decide +kernel
theorem dX12_beatenBy_36 : decode cX12_beatenBy 36 = .ok (.istore_n 2, 1) := by decide +kernel
theorem dX12_beatenBy_37 : decode cX12_beatenBy 37 = .ok (.iinc 3 1, 3) := by decide +kernel
theorem dX12_beatenBy_40 : decode cX12_beatenBy 40 = .ok (.goto (-36), 3) := by decide +kernel
theorem dX12_beatenBy_43 : decode cX12_beatenBy 43 = .ok (.iload_n 2, 1) := by decide +kernel
theorem dX12_beatenBy_44 : decode cX12_beatenBy 44 = .ok (.ireturn, 1) := by decide +kernel
theorem dX12_beats_0 : decode cX12_beats 0 = .ok (.aload_n 0, 1) := by decide +kernel
theorem dX12_beats_1 : decode cX12_beats 1 = .ok (.iconst 0, 1) := by decide +kernel
theorem dX12_beats_2 : decode cX12_beats 2 = .ok (.putfield 110, 3) := by decide +kernel
theorem dX12_beats_5 : decode cX12_beats 5 = .ok (.aload_n 0, 1) := by decide +kernel
theorem dX12_beats_6 : decode cX12_beats 6 = .ok (.iload_n 1, 1) := by decide +kernel
theorem dX12_beats_7 : decode cX12_beats 7 = .ok (.invokevirtual 123, 3) := by decide +kernel
theorem dX12_beats_10 : decode cX12_beats 10 = .ok (.ifCond .ne 5, 3) := by decide +kernel
theorem dX12_beats_13 : decode cX12_beats 13 = .ok (.iconst (-1), 1) := by decide +kernel
theorem dX12_beats_14 : decode cX12_beats 14 = .ok (.ireturn, 1) := by decide +kernel
theorem dX12_beats_15 : decode cX12_beats 15 = .ok (.iconst 0, 1) := by decide +kernel
theorem dX12_beats_16 : decode cX12_beats 16 = .ok (.istore_n 2, 1) := by decide +kernel
theorem dX12_beats_17 : decode cX12_beats 17 = .ok (.iconst 0, 1) := by decide +kernel
theorem dX12_beats_18 : decode cX12_beats 18 = .ok (.istore_n 3, 1) := by decide +kernel
theorem dX12_beats_19 : decode cX12_beats 19 = .ok (.iload_n 3, 1) := by decide +kernel
theorem dX12_beats_20 : decode cX12_beats 20 = .ok (.aload_n 0, 1) := by decide +kernel
theorem dX12_beats_21 : decode cX12_beats 21 = .ok (.getfield 116, 3) := by decide +kernel
theorem dX12_beats_24 : decode cX12_beats 24 = .ok (.if_icmp .ge 35, 3) := by decide +kernel
theorem dX12_beats_27 : decode cX12_beats 27 = .ok (.iload_n 2, 1) := by decide +kernel
theorem dX12_beats_28 : decode cX12_beats 28 = .ok (.iload_n 3, 1) := by decide +kernel
theorem dX12_beats_29 : decode cX12_beats 29 = .ok (.iload_n 1, 1) := by decide +kernel
theorem dX12_beats_30 : decode cX12_beats 30 = .ok (.if_icmp .eq 20, 3) := by decide +kernel
theorem dX12_beats_33 : decode cX12_beats 33 = .ok (.aload_n 0, 1) := by decide +kernel
theorem dX12_beats_34 : decode cX12_beats 34 = .ok (.iload_n 1, 1) := by decide +kernel
theorem dX12_beats_35 : decode cX12_beats 35 = .ok (.iload_n 3, 1) := by decide +kernel
theorem dX12_beats_36 : decode cX12_beats 36 = .ok (.iconst 0, 1) := by decide +kernel
theorem dX12_beats_37 : decode cX12_beats 37 = .ok (.invokevirtual 273, 3) := by decide +kernel
theorem dX12_beats_40 : decode cX12_beats 40 = .ok (.iconst 2, 1) := by decide +kernel
theorem dX12_beats_41 : decode cX12_beats 41 = .ok (.if_icmp .ne 9, 3) := by decide +kernel
theorem dX12_beats_44 : decode cX12_beats 44 = .ok (.iconst 1, 1) := by decide +kernel
theorem dX12_beats_45 : decode cX12_beats 45 = .ok (.iload_n 3, 1) := by decide +kernel
theorem dX12_beats_46 : decode cX12_beats 46 = .ok (.ishl, 1) := by decide +kernel
theorem dX12_beats_47 : decode cX12_beats 47 = .ok (.goto 4, 3) := by decide +kernel
theorem dX12_beats_50 : decode cX12_beats 50 = .ok (.iconst 0, 1) := by decide +kernel
theorem dX12_beats_51 : decode cX12_beats 51 = .ok (.ior, 1) := by decide +kernel
theorem dX12_beats_52 : decode cX12_beats 52 = .ok (.istore_n 2, 1) := by decide +kernel
theorem dX12_beats_53 : decode cX12_beats 53 = .ok (.iinc 3 1, 3) := by decide +kernel
theorem dX12_beats_56 : decode cX12_beats 56 = .ok (.goto (-37), 3) := by decide +kernel
theorem dX12_beats_59 : decode cX12_beats 59 = .ok (.aload_n 0, 1) := by decide +kernel
theorem dX12_beats_60 : decode cX12_beats 60 = .ok (.iconst 0, 1) := by decide +kernel
theorem dX12_beats_61 : decode cX12_beats 61 = .ok (.putfield 113, 3) := by decide +kernel
theorem dX12_beats_64 : decode cX12_beats 64 = .ok (.aload_n 0, 1) := by decide +kernel
theorem dX12_beats_65 : decode cX12_beats 65 = .ok (.iload_n 2, 1) := by decide +kernel
theorem dX12_beats_66 : decode cX12_beats 66 = .ok (.i2l, 1) := by decide +kernel
theorem dX12_beats_67 : decode cX12_beats 67 = .ok (.invokevirtual 131, 3) := by decide +kernel
theorem dX12_beats_70 : decode cX12_beats 70 = .ok (.aload_n 0, 1) := by decide +kernel
theorem dX12_beats_71 : decode cX12_beats 71 = .ok (.iload_n 1, 1) := by decide +kernel
theorem dX12_beats_72 : decode cX12_beats 72 = .ok (.invokevirtual 332, 3) := by decide +kernel
theorem dX12_beats_75 : decode cX12_beats 75 = .ok (.ireturn, 1) := by decide +kernel
theorem dX12_kings_0 : decode cX12_kings 0 = .ok (.aload_n 0, 1) := by decide +kernel
theorem dX12_kings_1 : decode cX12_kings 1 = .ok (.iconst 0, 1) := by decide +kernel
theorem dX12_kings_2 : decode cX12_kings 2 = .ok (.putfield 110, 3) := by decide +kernel
theorem dX12_kings_5 : decode cX12_kings 5 = .ok (.iconst 0, 1) := by decide +kernel
theorem dX12_kings_6 : decode cX12_kings 6 = .ok (.istore_n 1, 1) := by decide +kernel
theorem dX12_kings_7 : decode cX12_kings 7 = .ok (.iconst 0, 1) := by decide +kernel
theorem dX12_kings_8 : decode cX12_kings 8 = .ok (.istore_n 2, 1) := by decide +kernel
theorem dX12_kings_9 : decode cX12_kings 9 = .ok (.iconst 0, 1) := by decide +kernel
theorem dX12_kings_10 : decode cX12_kings 10 = .ok (.istore_n 3, 1) := by decide +kernel
theorem dX12_kings_11 : decode cX12_kings 11 = .ok (.iload_n 3, 1) := by decide +kernel
theorem dX12_kings_12 : decode cX12_kings 12 = .ok (.aload_n 0, 1) := by decide +kernel
theorem dX12_kings_13 : decode cX12_kings 13 = .ok (.getfield 116, 3) := by decide +kernel
theorem dX12_kings_16 : decode cX12_kings 16 = .ok (.if_icmp .ge 105, 3) := by decide +kernel
theorem dX12_kings_19 : decode cX12_kings 19 = .ok (.aload_n 0, 1) := by decide +kernel
theorem dX12_kings_20 : decode cX12_kings 20 = .ok (.iload_n 3, 1) := by decide +kernel
theorem dX12_kings_21 : decode cX12_kings 21 = .ok (.invokevirtual 332, 3) := by decide +kernel
theorem dX12_kings_24 : decode cX12_kings 24 = .ok (.istore 4, 2) := by decide +kernel
theorem dX12_kings_26 : decode cX12_kings 26 = .ok (.iload 4, 2) := by decide +kernel
theorem dX12_kings_28 : decode cX12_kings 28 = .ok (.iconst 1, 1) := by decide +kernel
theorem dX12_kings_29 : decode cX12_kings 29 = .ok (.iload_n 3, 1) := by decide +kernel
theorem dX12_kings_30 : decode cX12_kings 30 = .ok (.ishl, 1) := by decide +kernel
theorem dX12_kings_31 : decode cX12_kings 31 = .ok (.ior, 1) := by decide +kernel
theorem dX12_kings_32 : decode cX12_kings 32 = .ok (.istore 5, 2) := by decide +kernel
theorem dX12_kings_34 : decode cX12_kings 34 = .ok (.iconst 0, 1) := by decide +kernel
theorem dX12_kings_35 : decode cX12_kings 35 = .ok (.istore 6, 2) := by decide +kernel
theorem dX12_kings_37 : decode cX12_kings 37 = .ok (.iload 6, 2) := by decide +kernel
theorem dX12_kings_39 : decode cX12_kings 39 = .ok (.aload_n 0, 1) := by decide +kernel
theorem dX12_kings_40 : decode cX12_kings 40 = .ok (.getfield 116, 3) := by decide +kernel
theorem dX12_kings_43 : decode cX12_kings 43 = .ok (.if_icmp .ge 34, 3) := by decide +kernel
theorem dX12_kings_46 : decode cX12_kings 46 = .ok (.iload 5, 2) := by decide +kernel
theorem dX12_kings_48 : decode cX12_kings 48 = .ok (.iload 4, 2) := by decide +kernel
theorem dX12_kings_50 : decode cX12_kings 50 = .ok (.iload 6, 2) := by decide +kernel
theorem dX12_kings_52 : decode cX12_kings 52 = .ok (.invokestatic 207, 3) := by decide +kernel
theorem dX12_kings_55 : decode cX12_kings 55 = .ok (.ifCond .eq 12, 3) := by decide +kernel
theorem dX12_kings_58 : decode cX12_kings 58 = .ok (.aload_n 0, 1) := by decide +kernel
theorem dX12_kings_59 : decode cX12_kings 59 = .ok (.iload 6, 2) := by decide +kernel
theorem dX12_kings_61 : decode cX12_kings 61 = .ok (.invokevirtual 332, 3) := by decide +kernel
theorem dX12_kings_64 : decode cX12_kings 64 = .ok (.goto 4, 3) := by decide +kernel
theorem dX12_kings_67 : decode cX12_kings 67 = .ok (.iconst 0, 1) := by decide +kernel
theorem dX12_kings_68 : decode cX12_kings 68 = .ok (.ior, 1) := by decide +kernel
theorem dX12_kings_69 : decode cX12_kings 69 = .ok (.istore 5, 2) := by decide +kernel
theorem dX12_kings_71 : decode cX12_kings 71 = .ok (.iinc 6 1, 3) := by decide +kernel
theorem dX12_kings_74 : decode cX12_kings 74 = .ok (.goto (-37), 3) := by decide +kernel
theorem dX12_kings_77 : decode cX12_kings 77 = .ok (.iload_n 1, 1) := by decide +kernel
theorem dX12_kings_78 : decode cX12_kings 78 = .ok (.iload 5, 2) := by decide +kernel
theorem dX12_kings_80 : decode cX12_kings 80 = .ok (.iconst 1, 1) := by decide +kernel
theorem dX12_kings_81 : decode cX12_kings 81 = .ok (.aload_n 0, 1) := by decide +kernel
theorem dX12_kings_82 : decode cX12_kings 82 = .ok (.getfield 116, 3) := by decide +kernel
theorem dX12_kings_85 : decode cX12_kings 85 = .ok (.ishl, 1) := by decide +kernel
theorem dX12_kings_86 : decode cX12_kings 86 = .ok (.iconst 1, 1) := by decide +kernel
theorem dX12_kings_87 : decode cX12_kings 87 = .ok (.isub, 1) := by decide +kernel
theorem dX12_kings_88 : decode cX12_kings 88 = .ok (.if_icmp .ne 9, 3) := by decide +kernel
theorem dX12_kings_91 : decode cX12_kings 91 = .ok (.iconst 1, 1) := by decide +kernel
theorem dX12_kings_92 : decode cX12_kings 92 = .ok (.iload_n 3, 1) := by decide +kernel
theorem dX12_kings_93 : decode cX12_kings 93 = .ok (.ishl, 1) := by decide +kernel
theorem dX12_kings_94 : decode cX12_kings 94 = .ok (.goto 4, 3) := by decide +kernel
theorem dX12_kings_97 : decode cX12_kings 97 = .ok (.iconst 0, 1) := by decide +kernel
theorem dX12_kings_98 : decode cX12_kings 98 = .ok (.ior, 1) := by decide +kernel
theorem dX12_kings_99 : decode cX12_kings 99 = .ok (.istore_n 1, 1) := by decide +kernel
theorem dX12_kings_100 : decode cX12_kings 100 = .ok (.iload_n 2, 1) := by decide +kernel
theorem dX12_kings_101 : decode cX12_kings 101 = .ok (.iload 4, 2) := by decide +kernel
theorem dX12_kings_103 : decode cX12_kings 103 = .ok (.ifCond .ne 9, 3) := by decide +kernel
theorem dX12_kings_106 : decode cX12_kings 106 = .ok (.iconst 1, 1) := by decide +kernel
theorem dX12_kings_107 : decode cX12_kings 107 = .ok (.iload_n 3, 1) := by decide +kernel
theorem dX12_kings_108 : decode cX12_kings 108 = .ok (.ishl, 1) := by decide +kernel
theorem dX12_kings_109 : decode cX12_kings 109 = .ok (.goto 4, 3) := by decide +kernel
theorem dX12_kings_112 : decode cX12_kings 112 = .ok (.iconst 0, 1) := by decide +kernel
theorem dX12_kings_113 : decode cX12_kings 113 = .ok (.ior, 1) := by decide +kernel
theorem dX12_kings_114 : decode cX12_kings 114 = .ok (.istore_n 2, 1) := by decide +kernel
theorem dX12_kings_115 : decode cX12_kings 115 = .ok (.iinc 3 1, 3) := by decide +kernel
theorem dX12_kings_118 : decode cX12_kings 118 = .ok (.goto (-107), 3) := by decide +kernel
theorem dX12_kings_121 : decode cX12_kings 121 = .ok (.aload_n 0, 1) := by decide +kernel
theorem dX12_kings_122 : decode cX12_kings 122 = .ok (.iconst 0, 1) := by decide +kernel
theorem dX12_kings_123 : decode cX12_kings 123 = .ok (.putfield 113, 3) := by decide +kernel
theorem dX12_kings_126 : decode cX12_kings 126 = .ok (.aload_n 0, 1) := by decide +kernel
theorem dX12_kings_127 : decode cX12_kings 127 = .ok (.iload_n 2, 1) := by decide +kernel
theorem dX12_kings_128 : decode cX12_kings 128 = .ok (.i2l, 1) := by decide +kernel
theorem dX12_kings_129 : decode cX12_kings 129 = .ok (.invokevirtual 131, 3) := by decide +kernel
theorem dX12_kings_132 : decode cX12_kings 132 = .ok (.iload_n 1, 1) := by decide +kernel
theorem dX12_kings_133 : decode cX12_kings 133 = .ok (.ireturn, 1) := by decide +kernel
theorem dX12_master_0 : decode cX12_master 0 = .ok (.aload_n 0, 1) := by decide +kernel
theorem dX12_master_1 : decode cX12_master 1 = .ok (.iconst 0, 1) := by decide +kernel
theorem dX12_master_2 : decode cX12_master 2 = .ok (.putfield 110, 3) := by decide +kernel
theorem dX12_master_5 : decode cX12_master 5 = .ok (.aload_n 0, 1) := by decide +kernel
theorem dX12_master_6 : decode cX12_master 6 = .ok (.iload_n 1, 1) := by decide +kernel
theorem dX12_master_7 : decode cX12_master 7 = .ok (.invokevirtual 244, 3) := by decide +kernel
theorem dX12_master_10 : decode cX12_master 10 = .ok (.ifCond .ne 5, 3) := by decide +kernel
theorem dX12_master_13 : decode cX12_master 13 = .ok (.iconst (-1), 1) := by decide +kernel
theorem dX12_master_14 : decode cX12_master 14 = .ok (.ireturn, 1) := by decide +kernel
theorem dX12_master_15 : decode cX12_master 15 = .ok (.aload_n 0, 1) := by decide +kernel
theorem dX12_master_16 : decode cX12_master 16 = .ok (.getfield 116, 3) := by decide +kernel
theorem dX12_master_19 : decode cX12_master 19 = .ok (.ifCond .ne 6, 3) := by decide +kernel
theorem dX12_master_22 : decode cX12_master 22 = .ok (.bipush (-2), 2) := by decide +kernel
theorem dX12_master_24 : decode cX12_master 24 = .ok (.ireturn, 1) := by decide +kernel
theorem dX12_master_25 : decode cX12_master 25 = .ok (.iconst 0, 1) := by decide +kernel
theorem dX12_master_26 : decode cX12_master 26 = .ok (.istore_n 2, 1) := by decide +kernel
theorem dX12_master_27 : decode cX12_master 27 = .ok (.bipush 7, 2) := by decide +kernel
theorem dX12_master_29 : decode cX12_master 29 = .ok (.istore_n 3, 1) := by decide +kernel
theorem dX12_master_30 : decode cX12_master 30 = .ok (.iconst 0, 1) := by decide +kernel
theorem dX12_master_31 : decode cX12_master 31 = .ok (.istore 4, 2) := by decide +kernel
theorem dX12_master_33 : decode cX12_master 33 = .ok (.iload 4, 2) := by decide +kernel
theorem dX12_master_35 : decode cX12_master 35 = .ok (.aload_n 0, 1) := by decide +kernel
theorem dX12_master_36 : decode cX12_master 36 = .ok (.getfield 116, 3) := by decide +kernel
theorem dX12_master_39 : decode cX12_master 39 = .ok (.if_icmp .ge 52, 3) := by decide +kernel
theorem dX12_master_42 : decode cX12_master 42 = .ok (.aload_n 0, 1) := by decide +kernel
theorem dX12_master_43 : decode cX12_master 43 = .ok (.getfield 13, 3) := by decide +kernel
theorem dX12_master_46 : decode cX12_master 46 = .ok (.iconst 4, 1) := by decide +kernel
theorem dX12_master_47 : decode cX12_master 47 = .ok (.iload 4, 2) := by decide +kernel
theorem dX12_master_49 : decode cX12_master 49 = .ok (.imul, 1) := by decide +kernel
theorem dX12_master_50 : decode cX12_master 50 = .ok (.iload_n 1, 1) := by decide +kernel
theorem dX12_master_51 : decode cX12_master 51 = .ok (.iadd, 1) := by decide +kernel
theorem dX12_master_52 : decode cX12_master 52 = .ok (.iaload, 1) := by decide +kernel
theorem dX12_master_53 : decode cX12_master 53 = .ok (.aload_n 0, 1) := by decide +kernel
theorem dX12_master_54 : decode cX12_master 54 = .ok (.getfield 13, 3) := by decide +kernel
theorem dX12_master_57 : decode cX12_master 57 = .ok (.iconst 4, 1) := by decide +kernel
theorem dX12_master_58 : decode cX12_master 58 = .ok (.iload_n 2, 1) := by decide +kernel
theorem dX12_master_59 : decode cX12_master 59 = .ok (.imul, 1) := by decide +kernel
theorem dX12_master_60 : decode cX12_master 60 = .ok (.iload_n 1, 1) := by decide +kernel
theorem dX12_master_61 : decode cX12_master 61 = .ok (.iadd, 1) := by decide +kernel
theorem dX12_master_62 : decode cX12_master 62 = .ok (.iaload, 1) := by decide +kernel
theorem dX12_master_63 : decode cX12_master 63 = .ok (.if_icmp .le 6, 3) := by decide +kernel
theorem dX12_master_66 : decode cX12_master 66 = .ok (.iload 4, 2) := by decide +kernel
theorem dX12_master_68 : decode cX12_master 68 = .ok (.istore_n 2, 1) := by decide +kernel
theorem dX12_master_69 : decode cX12_master 69 = .ok (.iload_n 3, 1) := by decide +kernel
theorem dX12_master_70 : decode cX12_master 70 = .ok (.aload_n 0, 1) := by decide +kernel
theorem dX12_master_71 : decode cX12_master 71 = .ok (.getfield 13, 3) := by decide +kernel
theorem dX12_master_74 : decode cX12_master 74 = .ok (.iconst 4, 1) := by decide +kernel
theorem dX12_master_75 : decode cX12_master 75 = .ok (.iload 4, 2) := by decide +kernel
theorem dX12_master_77 : decode cX12_master 77 = .ok (.imul, 1) := by decide +kernel
theorem dX12_master_78 : decode cX12_master 78 = .ok (.iload_n 1, 1) := by decide +kernel
theorem dX12_master_79 : decode cX12_master 79 = .ok (.iadd, 1) := by decide +kernel
theorem dX12_master_80 : decode cX12_master 80 = .ok (.iaload, 1) := by decide +kernel
theorem dX12_master_81 : decode cX12_master 81 = .ok (.invokestatic 238, 3) := by decide +kernel
theorem dX12_master_84 : decode cX12_master 84 = .ok (.istore_n 3, 1) := by decide +kernel
theorem dX12_master_85 : decode cX12_master 85 = .ok (.iinc 4 1, 3) := by decide +kernel
theorem dX12_master_88 : decode cX12_master 88 = .ok (.goto (-55), 3) := by decide +kernel
theorem dX12_master_91 : decode cX12_master 91 = .ok (.iconst 0, 1) := by decide +kernel
theorem dX12_master_92 : decode cX12_master 92 = .ok (.istore 4, 2) := by decide +kernel
theorem dX12_master_94 : decode cX12_master 94 = .ok (.iconst 0, 1) := by decide +kernel
theorem dX12_master_95 : decode cX12_master 95 = .ok (.istore 5, 2) := by decide +kernel
theorem dX12_master_97 : decode cX12_master 97 = .ok (.iload 5, 2) := by decide +kernel
theorem dX12_master_99 : decode cX12_master 99 = .ok (.aload_n 0, 1) := by decide +kernel
theorem dX12_master_100 : decode cX12_master 100 = .ok (.getfield 116, 3) := by decide +kernel
theorem dX12_master_103 : decode cX12_master 103 = .ok (.if_icmp .ge 46, 3) := by decide +kernel
theorem dX12_master_106 : decode cX12_master 106 = .ok (.iload 4, 2) := by decide +kernel
theorem dX12_master_108 : decode cX12_master 108 = .ok (.aload_n 0, 1) := by decide +kernel
theorem dX12_master_109 : decode cX12_master 109 = .ok (.getfield 13, 3) := by decide +kernel
theorem dX12_master_112 : decode cX12_master 112 = .ok (.iconst 4, 1) := by decide +kernel
theorem dX12_master_113 : decode cX12_master 113 = .ok (.iload 5, 2) := by decide +kernel
theorem dX12_master_115 : decode cX12_master 115 = .ok (.imul, 1) := by decide +kernel
theorem dX12_master_116 : decode cX12_master 116 = .ok (.iload_n 1, 1) := by decide +kernel
theorem dX12_master_117 : decode cX12_master 117 = .ok (.iadd, 1) := by decide +kernel
theorem dX12_master_118 : decode cX12_master 118 = .ok (.iaload, 1) := by decide +kernel
theorem dX12_master_119 : decode cX12_master 119 = .ok (.aload_n 0, 1) := by decide +kernel
theorem dX12_master_120 : decode cX12_master 120 = .ok (.getfield 13, 3) := by decide +kernel
theorem dX12_master_123 : decode cX12_master 123 = .ok (.iconst 4, 1) := by decide +kernel
theorem dX12_master_124 : decode cX12_master 124 = .ok (.iload_n 2, 1) := by decide +kernel
theorem dX12_master_125 : decode cX12_master 125 = .ok (.imul, 1) := by decide +kernel
theorem dX12_master_126 : decode cX12_master 126 = .ok (.iload_n 1, 1) := by decide +kernel
theorem dX12_master_127 : decode cX12_master 127 = .ok (.iadd, 1) := by decide +kernel
theorem dX12_master_128 : decode cX12_master 128 = .ok (.iaload, 1) := by decide +kernel
theorem dX12_master_129 : decode cX12_master 129 = .ok (.if_icmp .ne 10, 3) := by decide +kernel
theorem dX12_master_132 : decode cX12_master 132 = .ok (.iconst 1, 1) := by decide +kernel
theorem dX12_master_133 : decode cX12_master 133 = .ok (.iload 5, 2) := by decide +kernel
theorem dX12_master_135 : decode cX12_master 135 = .ok (.ishl, 1) := by decide +kernel
theorem dX12_master_136 : decode cX12_master 136 = .ok (.goto 4, 3) := by decide +kernel
theorem dX12_master_139 : decode cX12_master 139 = .ok (.iconst 0, 1) := by decide +kernel
theorem dX12_master_140 : decode cX12_master 140 = .ok (.ior, 1) := by decide +kernel
theorem dX12_master_141 : decode cX12_master 141 = .ok (.istore 4, 2) := by decide +kernel
theorem dX12_master_143 : decode cX12_master 143 = .ok (.iinc 5 1, 3) := by decide +kernel
theorem dX12_master_146 : decode cX12_master 146 = .ok (.goto (-49), 3) := by decide +kernel
theorem dX12_master_149 : decode cX12_master 149 = .ok (.aload_n 0, 1) := by decide +kernel
theorem dX12_master_150 : decode cX12_master 150 = .ok (.iconst 0, 1) := by decide +kernel
theorem dX12_master_151 : decode cX12_master 151 = .ok (.putfield 113, 3) := by decide +kernel
theorem dX12_master_154 : decode cX12_master 154 = .ok (.aload_n 0, 1) := by decide +kernel
theorem dX12_master_155 : decode cX12_master 155 = .ok (.aload_n 0, 1) := by decide +kernel
theorem dX12_master_156 : decode cX12_master 156 = .ok (.getfield 13, 3) := by decide +kernel
theorem dX12_master_159 : decode cX12_master 159 = .ok (.iconst 4, 1) := by decide +kernel
theorem dX12_master_160 : decode cX12_master 160 = .ok (.iload_n 2, 1) := by decide +kernel
theorem dX12_master_161 : decode cX12_master 161 = .ok (.imul, 1) := by decide +kernel
theorem dX12_master_162 : decode cX12_master 162 = .ok (.iload_n 1, 1) := by decide +kernel
theorem dX12_master_163 : decode cX12_master 163 = .ok (.iadd, 1) := by decide +kernel
theorem dX12_master_164 : decode cX12_master 164 = .ok (.iaload, 1) := by decide +kernel
theorem dX12_master_165 : decode cX12_master 165 = .ok (.i2l, 1) := by decide +kernel
theorem dX12_master_166 : decode cX12_master 166 = .ok (.invokevirtual 131, 3) := by decide +kernel
theorem dX12_master_169 : decode cX12_master 169 = .ok (.aload_n 0, 1) := by decide +kernel
theorem dX12_master_170 : decode cX12_master 170 = .ok (.iload 4, 2) := by decide +kernel
theorem dX12_master_172 : decode cX12_master 172 = .ok (.i2l, 1) := by decide +kernel
theorem dX12_master_173 : decode cX12_master 173 = .ok (.invokevirtual 131, 3) := by decide +kernel
theorem dX12_master_176 : decode cX12_master 176 = .ok (.aload_n 0, 1) := by decide +kernel
theorem dX12_master_177 : decode cX12_master 177 = .ok (.iload_n 3, 1) := by decide +kernel
theorem dX12_master_178 : decode cX12_master 178 = .ok (.i2l, 1) := by decide +kernel
theorem dX12_master_179 : decode cX12_master 179 = .ok (.invokevirtual 131, 3) := by decide +kernel
theorem dX12_master_182 : decode cX12_master 182 = .ok (.iload_n 2, 1) := by decide +kernel
theorem dX12_master_183 : decode cX12_master 183 = .ok (.ireturn, 1) := by decide +kernel
theorem dX12_goQuiet_0 : decode cX12_goQuiet 0 = .ok (.aload_n 0, 1) := by decide +kernel
theorem dX12_goQuiet_1 : decode cX12_goQuiet 1 = .ok (.iload_n 1, 1) := by decide +kernel
theorem dX12_goQuiet_2 : decode cX12_goQuiet 2 = .ok (.iload_n 2, 1) := by decide +kernel
theorem dX12_goQuiet_3 : decode cX12_goQuiet 3 = .ok (.iload_n 3, 1) := by decide +kernel
theorem dX12_goQuiet_4 : decode cX12_goQuiet 4 = .ok (.aload_n 0, 1) := by decide +kernel
theorem dX12_goQuiet_5 : decode cX12_goQuiet 5 = .ok (.iload_n 1, 1) := by decide +kernel
theorem dX12_goQuiet_6 : decode cX12_goQuiet 6 = .ok (.iload_n 2, 1) := by decide +kernel
theorem dX12_goQuiet_7 : decode cX12_goQuiet 7 = .ok (.iload_n 3, 1) := by decide +kernel
theorem dX12_goQuiet_8 : decode cX12_goQuiet 8 = .ok (.invokevirtual 273, 3) := by decide +kernel
theorem dX12_goQuiet_11 : decode cX12_goQuiet 11 = .ok (.invokevirtual 287, 3) := by decide +kernel
theorem dX12_goQuiet_14 : decode cX12_goQuiet 14 = .ok (.iconst 0, 1) := by decide +kernel
theorem dX12_goQuiet_15 : decode cX12_goQuiet 15 = .ok (.istore 4, 2) := by decide +kernel
theorem dX12_goQuiet_17 : decode cX12_goQuiet 17 = .ok (.iload 4, 2) := by decide +kernel
theorem dX12_goQuiet_19 : decode cX12_goQuiet 19 = .ok (.bipush 8, 2) := by decide +kernel
theorem dX12_goQuiet_21 : decode cX12_goQuiet 21 = .ok (.if_icmp .ge 70, 3) := by decide +kernel
theorem dX12_goQuiet_24 : decode cX12_goQuiet 24 = .ok (.aload_n 0, 1) := by decide +kernel
theorem dX12_goQuiet_25 : decode cX12_goQuiet 25 = .ok (.getfield 21, 3) := by decide +kernel
theorem dX12_goQuiet_28 : decode cX12_goQuiet 28 = .ok (.iload 4, 2) := by decide +kernel
theorem dX12_goQuiet_30 : decode cX12_goQuiet 30 = .ok (.aload_n 0, 1) := by decide +kernel
theorem dX12_goQuiet_31 : decode cX12_goQuiet 31 = .ok (.getfield 71, 3) := by decide +kernel
theorem dX12_goQuiet_34 : decode cX12_goQuiet 34 = .ok (.bipush 32, 2) := by decide +kernel
theorem dX12_goQuiet_36 : decode cX12_goQuiet 36 = .ok (.iconst 3, 1) := by decide +kernel
theorem dX12_goQuiet_37 : decode cX12_goQuiet 37 = .ok (.iload 4, 2) := by decide +kernel
theorem dX12_goQuiet_39 : decode cX12_goQuiet 39 = .ok (.imul, 1) := by decide +kernel
theorem dX12_goQuiet_40 : decode cX12_goQuiet 40 = .ok (.iadd, 1) := by decide +kernel
theorem dX12_goQuiet_41 : decode cX12_goQuiet 41 = .ok (.iaload, 1) := by decide +kernel
theorem dX12_goQuiet_42 : decode cX12_goQuiet 42 = .ok (.iastore, 1) := by decide +kernel
theorem dX12_goQuiet_43 : decode cX12_goQuiet 43 = .ok (.aload_n 0, 1) := by decide +kernel
theorem dX12_goQuiet_44 : decode cX12_goQuiet 44 = .ok (.getfield 24, 3) := by decide +kernel
theorem dX12_goQuiet_47 : decode cX12_goQuiet 47 = .ok (.iload 4, 2) := by decide +kernel
theorem dX12_goQuiet_49 : decode cX12_goQuiet 49 = .ok (.aload_n 0, 1) := by decide +kernel
theorem dX12_goQuiet_50 : decode cX12_goQuiet 50 = .ok (.getfield 71, 3) := by decide +kernel
theorem dX12_goQuiet_53 : decode cX12_goQuiet 53 = .ok (.bipush 32, 2) := by decide +kernel
theorem dX12_goQuiet_55 : decode cX12_goQuiet 55 = .ok (.iconst 3, 1) := by decide +kernel
theorem dX12_goQuiet_56 : decode cX12_goQuiet 56 = .ok (.iload 4, 2) := by decide +kernel
theorem dX12_goQuiet_58 : decode cX12_goQuiet 58 = .ok (.imul, 1) := by decide +kernel
theorem dX12_goQuiet_59 : decode cX12_goQuiet 59 = .ok (.iadd, 1) := by decide +kernel
theorem dX12_goQuiet_60 : decode cX12_goQuiet 60 = .ok (.iconst 1, 1) := by decide +kernel
theorem dX12_goQuiet_61 : decode cX12_goQuiet 61 = .ok (.iadd, 1) := by decide +kernel
theorem dX12_goQuiet_62 : decode cX12_goQuiet 62 = .ok (.iaload, 1) := by decide +kernel
theorem dX12_goQuiet_63 : decode cX12_goQuiet 63 = .ok (.iastore, 1) := by decide +kernel
theorem dX12_goQuiet_64 : decode cX12_goQuiet 64 = .ok (.aload_n 0, 1) := by decide +kernel
theorem dX12_goQuiet_65 : decode cX12_goQuiet 65 = .ok (.getfield 27, 3) := by decide +kernel
theorem dX12_goQuiet_68 : decode cX12_goQuiet 68 = .ok (.iload 4, 2) := by decide +kernel
theorem dX12_goQuiet_70 : decode cX12_goQuiet 70 = .ok (.aload_n 0, 1) := by decide +kernel
theorem dX12_goQuiet_71 : decode cX12_goQuiet 71 = .ok (.getfield 71, 3) := by decide +kernel
theorem dX12_goQuiet_74 : decode cX12_goQuiet 74 = .ok (.bipush 32, 2) := by decide +kernel
theorem dX12_goQuiet_76 : decode cX12_goQuiet 76 = .ok (.iconst 3, 1) := by decide +kernel
theorem dX12_goQuiet_77 : decode cX12_goQuiet 77 = .ok (.iload 4, 2) := by decide +kernel
theorem dX12_goQuiet_79 : decode cX12_goQuiet 79 = .ok (.imul, 1) := by decide +kernel
theorem dX12_goQuiet_80 : decode cX12_goQuiet 80 = .ok (.iadd, 1) := by decide +kernel
theorem dX12_goQuiet_81 : decode cX12_goQuiet 81 = .ok (.iconst 2, 1) := by decide +kernel
theorem dX12_goQuiet_82 : decode cX12_goQuiet 82 = .ok (.iadd, 1) := by decide +kernel
theorem dX12_goQuiet_83 : decode cX12_goQuiet 83 = .ok (.iaload, 1) := by decide +kernel
theorem dX12_goQuiet_84 : decode cX12_goQuiet 84 = .ok (.iastore, 1) := by decide +kernel
theorem dX12_goQuiet_85 : decode cX12_goQuiet 85 = .ok (.iinc 4 1, 3) := by decide +kernel
theorem dX12_goQuiet_88 : decode cX12_goQuiet 88 = .ok (.goto (-71), 3) := by decide +kernel
theorem dX12_goQuiet_91 : decode cX12_goQuiet 91 = .ok (.return_, 1) := by decide +kernel
theorem dX12_half_0 : decode cX12_half 0 = .ok (.lconst 0, 1) := by decide +kernel
theorem dX12_half_1 : decode cX12_half 1 = .ok (.lstore_n 2, 1) := by decide +kernel
theorem dX12_half_2 : decode cX12_half 2 = .ok (.iconst 0, 1) := by decide +kernel
theorem dX12_half_3 : decode cX12_half 3 = .ok (.istore 4, 2) := by decide +kernel
theorem dX12_half_5 : decode cX12_half 5 = .ok (.iload 4, 2) := by decide +kernel
theorem dX12_half_7 : decode cX12_half 7 = .ok (.bipush 16, 2) := by decide +kernel
theorem dX12_half_9 : decode cX12_half 9 = .ok (.if_icmp .ge 24, 3) := by decide +kernel
theorem dX12_half_12 : decode cX12_half 12 = .ok (.lload_n 2, 1) := by decide +kernel
theorem dX12_half_13 : decode cX12_half 13 = .ok (.iconst 3, 1) := by decide +kernel
theorem dX12_half_14 : decode cX12_half 14 = .ok (.lshl, 1) := by decide +kernel
theorem dX12_half_15 : decode cX12_half 15 = .ok (.aload_n 0, 1) := by decide +kernel
theorem dX12_half_16 : decode cX12_half 16 = .ok (.getfield 13, 3) := by decide +kernel
theorem dX12_half_19 : decode cX12_half 19 = .ok (.iload_n 1, 1) := by decide +kernel
theorem dX12_half_20 : decode cX12_half 20 = .ok (.iload 4, 2) := by decide +kernel
theorem dX12_half_22 : decode cX12_half 22 = .ok (.iadd, 1) := by decide +kernel
theorem dX12_half_23 : decode cX12_half 23 = .ok (.iaload, 1) := by decide +kernel
theorem dX12_half_24 : decode cX12_half 24 = .ok (.i2l, 1) := by decide +kernel
theorem dX12_half_25 : decode cX12_half 25 = .ok (.lor, 1) := by decide +kernel
theorem dX12_half_26 : decode cX12_half 26 = .ok (.lstore_n 2, 1) := by decide +kernel
theorem dX12_half_27 : decode cX12_half 27 = .ok (.iinc 4 1, 3) := by decide +kernel
theorem dX12_half_30 : decode cX12_half 30 = .ok (.goto (-25), 3) := by decide +kernel
theorem dX12_half_33 : decode cX12_half 33 = .ok (.lload_n 2, 1) := by decide +kernel
theorem dX12_half_34 : decode cX12_half 34 = .ok (.lreturn, 1) := by decide +kernel
theorem dX12_load_0 : decode cX12_load 0 = .ok (.aload_n 0, 1) := by decide +kernel
theorem dX12_load_1 : decode cX12_load 1 = .ok (.getfield 74, 3) := by decide +kernel
theorem dX12_load_4 : decode cX12_load 4 = .ok (.iload_n 1, 1) := by decide +kernel
theorem dX12_load_5 : decode cX12_load 5 = .ok (.laload, 1) := by decide +kernel
theorem dX12_load_6 : decode cX12_load 6 = .ok (.lstore_n 2, 1) := by decide +kernel
theorem dX12_load_7 : decode cX12_load 7 = .ok (.aload_n 0, 1) := by decide +kernel
theorem dX12_load_8 : decode cX12_load 8 = .ok (.getfield 77, 3) := by decide +kernel
theorem dX12_load_11 : decode cX12_load 11 = .ok (.iload_n 1, 1) := by decide +kernel
theorem dX12_load_12 : decode cX12_load 12 = .ok (.laload, 1) := by decide +kernel
theorem dX12_load_13 : decode cX12_load 13 = .ok (.lstore 4, 2) := by decide +kernel
theorem dX12_load_15 : decode cX12_load 15 = .ok (.bipush 15, 2) := by decide +kernel
theorem dX12_load_17 : decode cX12_load 17 = .ok (.istore 6, 2) := by decide +kernel
theorem dX12_load_19 : decode cX12_load 19 = .ok (.iload 6, 2) := by decide +kernel
theorem dX12_load_21 : decode cX12_load 21 = .ok (.ifCond .lt 49, 3) := by decide +kernel
theorem dX12_load_24 : decode cX12_load 24 = .ok (.aload_n 0, 1) := by decide +kernel
theorem dX12_load_25 : decode cX12_load 25 = .ok (.getfield 13, 3) := by decide +kernel
theorem dX12_load_28 : decode cX12_load 28 = .ok (.iload 6, 2) := by decide +kernel
theorem dX12_load_30 : decode cX12_load 30 = .ok (.lload_n 2, 1) := by decide +kernel
theorem dX12_load_31 : decode cX12_load 31 = .ok (.ldc2_w 335, 3) := by decide +kernel
theorem dX12_load_34 : decode cX12_load 34 = .ok (.land, 1) := by decide +kernel
theorem dX12_load_35 : decode cX12_load 35 = .ok (.l2i, 1) := by decide +kernel
theorem dX12_load_36 : decode cX12_load 36 = .ok (.iastore, 1) := by decide +kernel
theorem dX12_load_37 : decode cX12_load 37 = .ok (.aload_n 0, 1) := by decide +kernel
theorem dX12_load_38 : decode cX12_load 38 = .ok (.getfield 13, 3) := by decide +kernel
theorem dX12_load_41 : decode cX12_load 41 = .ok (.bipush 16, 2) := by decide +kernel
theorem dX12_load_43 : decode cX12_load 43 = .ok (.iload 6, 2) := by decide +kernel
theorem dX12_load_45 : decode cX12_load 45 = .ok (.iadd, 1) := by decide +kernel
theorem dX12_load_46 : decode cX12_load 46 = .ok (.lload 4, 2) := by decide +kernel
theorem dX12_load_48 : decode cX12_load 48 = .ok (.ldc2_w 335, 3) := by decide +kernel
theorem dX12_load_51 : decode cX12_load 51 = .ok (.land, 1) := by decide +kernel
theorem dX12_load_52 : decode cX12_load 52 = .ok (.l2i, 1) := by decide +kernel
theorem dX12_load_53 : decode cX12_load 53 = .ok (.iastore, 1) := by decide +kernel
theorem dX12_load_54 : decode cX12_load 54 = .ok (.lload_n 2, 1) := by decide +kernel
theorem dX12_load_55 : decode cX12_load 55 = .ok (.iconst 3, 1) := by decide +kernel
theorem dX12_load_56 : decode cX12_load 56 = .ok (.lshr, 1) := by decide +kernel
theorem dX12_load_57 : decode cX12_load 57 = .ok (.lstore_n 2, 1) := by decide +kernel
theorem dX12_load_58 : decode cX12_load 58 = .ok (.lload 4, 2) := by decide +kernel
theorem dX12_load_60 : decode cX12_load 60 = .ok (.iconst 3, 1) := by decide +kernel
theorem dX12_load_61 : decode cX12_load 61 = .ok (.lshr, 1) := by decide +kernel
theorem dX12_load_62 : decode cX12_load 62 = .ok (.lstore 4, 2) := by decide +kernel
theorem dX12_load_64 : decode cX12_load 64 = .ok (.iinc 6 (-1), 3) := by decide +kernel
theorem dX12_load_67 : decode cX12_load 67 = .ok (.goto (-48), 3) := by decide +kernel
theorem dX12_load_70 : decode cX12_load 70 = .ok (.return_, 1) := by decide +kernel
theorem dX12_slot_0 : decode cX12_slot 0 = .ok (.lload_n 1, 1) := by decide +kernel
theorem dX12_slot_1 : decode cX12_slot 1 = .ok (.ldc2_w 337, 3) := by decide +kernel
theorem dX12_slot_4 : decode cX12_slot 4 = .ok (.lmul, 1) := by decide +kernel
theorem dX12_slot_5 : decode cX12_slot 5 = .ok (.lload_n 3, 1) := by decide +kernel
theorem dX12_slot_6 : decode cX12_slot 6 = .ok (.ldc2_w 339, 3) := by decide +kernel
theorem dX12_slot_9 : decode cX12_slot 9 = .ok (.lmul, 1) := by decide +kernel
theorem dX12_slot_10 : decode cX12_slot 10 = .ok (.lxor, 1) := by decide +kernel
theorem dX12_slot_11 : decode cX12_slot 11 = .ok (.lstore 5, 2) := by decide +kernel
theorem dX12_slot_13 : decode cX12_slot 13 = .ok (.lload 5, 2) := by decide +kernel
theorem dX12_slot_15 : decode cX12_slot 15 = .ok (.bipush 51, 2) := by decide +kernel
theorem dX12_slot_17 : decode cX12_slot 17 = .ok (.lushr, 1) := by decide +kernel
theorem dX12_slot_18 : decode cX12_slot 18 = .ok (.l2i, 1) := by decide +kernel
theorem dX12_slot_19 : decode cX12_slot 19 = .ok (.istore 7, 2) := by decide +kernel
theorem dX12_slot_21 : decode cX12_slot 21 = .ok (.aload_n 0, 1) := by decide +kernel
theorem dX12_slot_22 : decode cX12_slot 22 = .ok (.getfield 89, 3) := by decide +kernel
theorem dX12_slot_25 : decode cX12_slot 25 = .ok (.iload 7, 2) := by decide +kernel
theorem dX12_slot_27 : decode cX12_slot 27 = .ok (.iaload, 1) := by decide +kernel
theorem dX12_slot_28 : decode cX12_slot 28 = .ok (.ifCond .eq 54, 3) := by decide +kernel
theorem dX12_slot_31 : decode cX12_slot 31 = .ok (.aload_n 0, 1) := by decide +kernel
theorem dX12_slot_32 : decode cX12_slot 32 = .ok (.getfield 74, 3) := by decide +kernel
theorem dX12_slot_35 : decode cX12_slot 35 = .ok (.aload_n 0, 1) := by decide +kernel
theorem dX12_slot_36 : decode cX12_slot 36 = .ok (.getfield 89, 3) := by decide +kernel
theorem dX12_slot_39 : decode cX12_slot 39 = .ok (.iload 7, 2) := by decide +kernel
theorem dX12_slot_41 : decode cX12_slot 41 = .ok (.iaload, 1) := by decide +kernel
theorem dX12_slot_42 : decode cX12_slot 42 = .ok (.iconst 1, 1) := by decide +kernel
theorem dX12_slot_43 : decode cX12_slot 43 = .ok (.isub, 1) := by decide +kernel
theorem dX12_slot_44 : decode cX12_slot 44 = .ok (.laload, 1) := by decide +kernel
theorem dX12_slot_45 : decode cX12_slot 45 = .ok (.lload_n 1, 1) := by decide +kernel
theorem dX12_slot_46 : decode cX12_slot 46 = .ok (.lcmp, 1) := by decide +kernel
theorem dX12_slot_47 : decode cX12_slot 47 = .ok (.ifCond .ne 22, 3) := by decide +kernel
theorem dX12_slot_50 : decode cX12_slot 50 = .ok (.aload_n 0, 1) := by decide +kernel
theorem dX12_slot_51 : decode cX12_slot 51 = .ok (.getfield 77, 3) := by decide +kernel
theorem dX12_slot_54 : decode cX12_slot 54 = .ok (.aload_n 0, 1) := by decide +kernel
theorem dX12_slot_55 : decode cX12_slot 55 = .ok (.getfield 89, 3) := by decide +kernel
theorem dX12_slot_58 : decode cX12_slot 58 = .ok (.iload 7, 2) := by decide +kernel
theorem dX12_slot_60 : decode cX12_slot 60 = .ok (.iaload, 1) := by decide +kernel
theorem dX12_slot_61 : decode cX12_slot 61 = .ok (.iconst 1, 1) := by decide +kernel
theorem dX12_slot_62 : decode cX12_slot 62 = .ok (.isub, 1) := by decide +kernel
theorem dX12_slot_63 : decode cX12_slot 63 = .ok (.laload, 1) := by decide +kernel
theorem dX12_slot_64 : decode cX12_slot 64 = .ok (.lload_n 3, 1) := by decide +kernel
theorem dX12_slot_65 : decode cX12_slot 65 = .ok (.lcmp, 1) := by decide +kernel
theorem dX12_slot_66 : decode cX12_slot 66 = .ok (.ifCond .eq 16, 3) := by decide +kernel
theorem dX12_slot_69 : decode cX12_slot 69 = .ok (.iload 7, 2) := by decide +kernel
theorem dX12_slot_71 : decode cX12_slot 71 = .ok (.iconst 1, 1) := by decide +kernel
theorem dX12_slot_72 : decode cX12_slot 72 = .ok (.iadd, 1) := by decide +kernel
theorem dX12_slot_73 : decode cX12_slot 73 = .ok (.sipush 8191, 3) := by decide +kernel
theorem dX12_slot_76 : decode cX12_slot 76 = .ok (.iand, 1) := by decide +kernel
theorem dX12_slot_77 : decode cX12_slot 77 = .ok (.istore 7, 2) := by decide +kernel
theorem dX12_slot_79 : decode cX12_slot 79 = .ok (.goto (-58), 3) := by decide +kernel
theorem dX12_slot_82 : decode cX12_slot 82 = .ok (.iload 7, 2) := by decide +kernel
theorem dX12_slot_84 : decode cX12_slot 84 = .ok (.ireturn, 1) := by decide +kernel
theorem dX12_clearStates_0 : decode cX12_clearStates 0 = .ok (.iconst 0, 1) := by decide +kernel
theorem dX12_clearStates_1 : decode cX12_clearStates 1 = .ok (.istore_n 1, 1) := by decide +kernel
theorem dX12_clearStates_2 : decode cX12_clearStates 2 = .ok (.iload_n 1, 1) := by decide +kernel
theorem dX12_clearStates_3 : decode cX12_clearStates 3 = .ok (.sipush 8192, 3) := by decide +kernel
theorem dX12_clearStates_6 : decode cX12_clearStates 6 = .ok (.if_icmp .ge 16, 3) := by decide +kernel
theorem dX12_clearStates_9 : decode cX12_clearStates 9 = .ok (.aload_n 0, 1) := by decide +kernel
theorem dX12_clearStates_10 : decode cX12_clearStates 10 = .ok (.getfield 89, 3) := by decide +kernel
theorem dX12_clearStates_13 : decode cX12_clearStates 13 = .ok (.iload_n 1, 1) := by decide +kernel
theorem dX12_clearStates_14 : decode cX12_clearStates 14 = .ok (.iconst 0, 1) := by decide +kernel
theorem dX12_clearStates_15 : decode cX12_clearStates 15 = .ok (.iastore, 1) := by decide +kernel
theorem dX12_clearStates_16 : decode cX12_clearStates 16 = .ok (.iinc 1 1, 3) := by decide +kernel
theorem dX12_clearStates_19 : decode cX12_clearStates 19 = .ok (.goto (-17), 3) := by decide +kernel
theorem dX12_clearStates_22 : decode cX12_clearStates 22 = .ok (.aload_n 0, 1) := by decide +kernel
theorem dX12_clearStates_23 : decode cX12_clearStates 23 = .ok (.iconst 0, 1) := by decide +kernel
theorem dX12_clearStates_24 : decode cX12_clearStates 24 = .ok (.putfield 341, 3) := by decide +kernel
theorem dX12_clearStates_27 : decode cX12_clearStates 27 = .ok (.iconst 4, 1) := by decide +kernel
theorem dX12_clearStates_28 : decode cX12_clearStates 28 = .ok (.aload_n 0, 1) := by decide +kernel
theorem dX12_clearStates_29 : decode cX12_clearStates 29 = .ok (.getfield 116, 3) := by decide +kernel
theorem dX12_clearStates_32 : decode cX12_clearStates 32 = .ok (.imul, 1) := by decide +kernel
theorem dX12_clearStates_33 : decode cX12_clearStates 33 = .ok (.istore_n 1, 1) := by decide +kernel
theorem dX12_clearStates_34 : decode cX12_clearStates 34 = .ok (.iload_n 1, 1) := by decide +kernel
theorem dX12_clearStates_35 : decode cX12_clearStates 35 = .ok (.bipush 32, 2) := by decide +kernel
theorem dX12_clearStates_37 : decode cX12_clearStates 37 = .ok (.if_icmp .ge 16, 3) := by decide +kernel
theorem dX12_clearStates_40 : decode cX12_clearStates 40 = .ok (.aload_n 0, 1) := by decide +kernel
theorem dX12_clearStates_41 : decode cX12_clearStates 41 = .ok (.getfield 13, 3) := by decide +kernel
theorem dX12_clearStates_44 : decode cX12_clearStates 44 = .ok (.iload_n 1, 1) := by decide +kernel
theorem dX12_clearStates_45 : decode cX12_clearStates 45 = .ok (.iconst 0, 1) := by decide +kernel
theorem dX12_clearStates_46 : decode cX12_clearStates 46 = .ok (.iastore, 1) := by decide +kernel
theorem dX12_clearStates_47 : decode cX12_clearStates 47 = .ok (.iinc 1 1, 3) := by decide +kernel
theorem dX12_clearStates_50 : decode cX12_clearStates 50 = .ok (.goto (-16), 3) := by decide +kernel
theorem dX12_clearStates_53 : decode cX12_clearStates 53 = .ok (.aload_n 0, 1) := by decide +kernel
theorem dX12_clearStates_54 : decode cX12_clearStates 54 = .ok (.aload_n 0, 1) := by decide +kernel
theorem dX12_clearStates_55 : decode cX12_clearStates 55 = .ok (.getfield 71, 3) := by decide +kernel
theorem dX12_clearStates_58 : decode cX12_clearStates 58 = .ok (.iconst 0, 1) := by decide +kernel
theorem dX12_clearStates_59 : decode cX12_clearStates 59 = .ok (.invokevirtual 291, 3) := by decide +kernel
theorem dX12_clearStates_62 : decode cX12_clearStates 62 = .ok (.return_, 1) := by decide +kernel
theorem dX12_stateNow_0 : decode cX12_stateNow 0 = .ok (.aload_n 0, 1) := by decide +kernel
theorem dX12_stateNow_1 : decode cX12_stateNow 1 = .ok (.iconst 0, 1) := by decide +kernel
theorem dX12_stateNow_2 : decode cX12_stateNow 2 = .ok (.invokevirtual 344, 3) := by decide +kernel
theorem dX12_stateNow_5 : decode cX12_stateNow 5 = .ok (.lstore 4, 2) := by decide +kernel
theorem dX12_stateNow_7 : decode cX12_stateNow 7 = .ok (.aload_n 0, 1) := by decide +kernel
theorem dX12_stateNow_8 : decode cX12_stateNow 8 = .ok (.bipush 16, 2) := by decide +kernel
theorem dX12_stateNow_10 : decode cX12_stateNow 10 = .ok (.invokevirtual 344, 3) := by decide +kernel
theorem dX12_stateNow_13 : decode cX12_stateNow 13 = .ok (.lstore 6, 2) := by decide +kernel
theorem dX12_stateNow_15 : decode cX12_stateNow 15 = .ok (.aload_n 0, 1) := by decide +kernel
theorem dX12_stateNow_16 : decode cX12_stateNow 16 = .ok (.lload 4, 2) := by decide +kernel
theorem dX12_stateNow_18 : decode cX12_stateNow 18 = .ok (.lload 6, 2) := by decide +kernel
theorem dX12_stateNow_20 : decode cX12_stateNow 20 = .ok (.invokevirtual 348, 3) := by decide +kernel
theorem dX12_stateNow_23 : decode cX12_stateNow 23 = .ok (.istore 8, 2) := by decide +kernel
theorem dX12_stateNow_25 : decode cX12_stateNow 25 = .ok (.aload_n 0, 1) := by decide +kernel
theorem dX12_stateNow_26 : decode cX12_stateNow 26 = .ok (.getfield 89, 3) := by decide +kernel
theorem dX12_stateNow_29 : decode cX12_stateNow 29 = .ok (.iload 8, 2) := by decide +kernel
theorem dX12_stateNow_31 : decode cX12_stateNow 31 = .ok (.iaload, 1) := by decide +kernel
theorem dX12_stateNow_32 : decode cX12_stateNow 32 = .ok (.ifCond .eq 13, 3) := by decide +kernel
theorem dX12_stateNow_35 : decode cX12_stateNow 35 = .ok (.aload_n 0, 1) := by decide +kernel
theorem dX12_stateNow_36 : decode cX12_stateNow 36 = .ok (.getfield 89, 3) := by decide +kernel
theorem dX12_stateNow_39 : decode cX12_stateNow 39 = .ok (.iload 8, 2) := by decide +kernel
theorem dX12_stateNow_41 : decode cX12_stateNow 41 = .ok (.iaload, 1) := by decide +kernel
theorem dX12_stateNow_42 : decode cX12_stateNow 42 = .ok (.iconst 1, 1) := by decide +kernel
theorem dX12_stateNow_43 : decode cX12_stateNow 43 = .ok (.isub, 1) := by decide +kernel
theorem dX12_stateNow_44 : decode cX12_stateNow 44 = .ok (.ireturn, 1) := by decide +kernel
theorem dX12_stateNow_45 : decode cX12_stateNow 45 = .ok (.aload_n 0, 1) := by decide +kernel
theorem dX12_stateNow_46 : decode cX12_stateNow 46 = .ok (.getfield 341, 3) := by decide +kernel
theorem dX12_stateNow_49 : decode cX12_stateNow 49 = .ok (.iload_n 3, 1) := by decide +kernel
theorem dX12_stateNow_50 : decode cX12_stateNow 50 = .ok (.if_icmp .ne 5, 3) := by decide +kernel
theorem dX12_stateNow_53 : decode cX12_stateNow 53 = .ok (.iconst (-1), 1) := by decide +kernel
theorem dX12_stateNow_54 : decode cX12_stateNow 54 = .ok (.ireturn, 1) := by decide +kernel
theorem dX12_stateNow_55 : decode cX12_stateNow 55 = .ok (.aload_n 0, 1) := by decide +kernel
theorem dX12_stateNow_56 : decode cX12_stateNow 56 = .ok (.getfield 74, 3) := by decide +kernel
theorem dX12_stateNow_59 : decode cX12_stateNow 59 = .ok (.aload_n 0, 1) := by decide +kernel
theorem dX12_stateNow_60 : decode cX12_stateNow 60 = .ok (.getfield 341, 3) := by decide +kernel
theorem dX12_stateNow_63 : decode cX12_stateNow 63 = .ok (.lload 4, 2) := by decide +kernel
theorem dX12_stateNow_65 : decode cX12_stateNow 65 = .ok (.lastore, 1) := by decide +kernel
theorem dX12_stateNow_66 : decode cX12_stateNow 66 = .ok (.aload_n 0, 1) := by decide +kernel
theorem dX12_stateNow_67 : decode cX12_stateNow 67 = .ok (.getfield 77, 3) := by decide +kernel
theorem dX12_stateNow_70 : decode cX12_stateNow 70 = .ok (.aload_n 0, 1) := by decide +kernel
theorem dX12_stateNow_71 : decode cX12_stateNow 71 = .ok (.getfield 341, 3) := by decide +kernel
theorem dX12_stateNow_74 : decode cX12_stateNow 74 = .ok (.lload 6, 2) := by decide +kernel
theorem dX12_stateNow_76 : decode cX12_stateNow 76 = .ok (.lastore, 1) := by decide +kernel
theorem dX12_stateNow_77 : decode cX12_stateNow 77 = .ok (.aload_n 0, 1) := by decide +kernel
theorem dX12_stateNow_78 : decode cX12_stateNow 78 = .ok (.getfield 83, 3) := by decide +kernel
theorem dX12_stateNow_81 : decode cX12_stateNow 81 = .ok (.aload_n 0, 1) := by decide +kernel
theorem dX12_stateNow_82 : decode cX12_stateNow 82 = .ok (.getfield 341, 3) := by decide +kernel
theorem dX12_stateNow_85 : decode cX12_stateNow 85 = .ok (.iload_n 1, 1) := by decide +kernel
theorem dX12_stateNow_86 : decode cX12_stateNow 86 = .ok (.iastore, 1) := by decide +kernel
theorem dX12_stateNow_87 : decode cX12_stateNow 87 = .ok (.aload_n 0, 1) := by decide +kernel
theorem dX12_stateNow_88 : decode cX12_stateNow 88 = .ok (.getfield 86, 3) := by decide +kernel
theorem dX12_stateNow_91 : decode cX12_stateNow 91 = .ok (.aload_n 0, 1) := by decide +kernel
theorem dX12_stateNow_92 : decode cX12_stateNow 92 = .ok (.getfield 341, 3) := by decide +kernel
theorem dX12_stateNow_95 : decode cX12_stateNow 95 = .ok (.iload_n 2, 1) := by decide +kernel
theorem dX12_stateNow_96 : decode cX12_stateNow 96 = .ok (.iastore, 1) := by decide +kernel
theorem dX12_stateNow_97 : decode cX12_stateNow 97 = .ok (.aload_n 0, 1) := by decide +kernel
theorem dX12_stateNow_98 : decode cX12_stateNow 98 = .ok (.getfield 80, 3) := by decide +kernel
theorem dX12_stateNow_101 : decode cX12_stateNow 101 = .ok (.aload_n 0, 1) := by decide +kernel
theorem dX12_stateNow_102 : decode cX12_stateNow 102 = .ok (.getfield 341, 3) := by decide +kernel
theorem dX12_stateNow_105 : decode cX12_stateNow 105 = .ok (.iload_n 1, 1) := by decide +kernel
theorem dX12_stateNow_106 : decode cX12_stateNow 106 = .ok (.iconst (-1), 1) := by decide +kernel
theorem dX12_stateNow_107 : decode cX12_stateNow 107 = .ok (.if_icmp .ne 7, 3) := by decide +kernel
theorem dX12_stateNow_110 : decode cX12_stateNow 110 = .ok (.iconst 0, 1) := by decide +kernel
theorem dX12_stateNow_111 : decode cX12_stateNow 111 = .ok (.goto 11, 3) := by decide +kernel
theorem dX12_stateNow_114 : decode cX12_stateNow 114 = .ok (.aload_n 0, 1) := by decide +kernel
theorem dX12_stateNow_115 : decode cX12_stateNow 115 = .ok (.getfield 80, 3) := by decide +kernel
theorem dX12_stateNow_118 : decode cX12_stateNow 118 = .ok (.iload_n 1, 1) := by decide +kernel
theorem dX12_stateNow_119 : decode cX12_stateNow 119 = .ok (.iaload, 1) := by decide +kernel
theorem dX12_stateNow_120 : decode cX12_stateNow 120 = .ok (.iconst 1, 1) := by decide +kernel
theorem dX12_stateNow_121 : decode cX12_stateNow 121 = .ok (.iadd, 1) := by decide +kernel
theorem dX12_stateNow_122 : decode cX12_stateNow 122 = .ok (.iastore, 1) := by decide +kernel
theorem dX12_stateNow_123 : decode cX12_stateNow 123 = .ok (.aload_n 0, 1) := by decide +kernel
theorem dX12_stateNow_124 : decode cX12_stateNow 124 = .ok (.dup, 1) := by decide +kernel
theorem dX12_stateNow_125 : decode cX12_stateNow 125 = .ok (.getfield 341, 3) := by decide +kernel
theorem dX12_stateNow_128 : decode cX12_stateNow 128 = .ok (.iconst 1, 1) := by decide +kernel
theorem dX12_stateNow_129 : decode cX12_stateNow 129 = .ok (.iadd, 1) := by decide +kernel
theorem dX12_stateNow_130 : decode cX12_stateNow 130 = .ok (.putfield 341, 3) := by decide +kernel
theorem dX12_stateNow_133 : decode cX12_stateNow 133 = .ok (.aload_n 0, 1) := by decide +kernel
theorem dX12_stateNow_134 : decode cX12_stateNow 134 = .ok (.getfield 89, 3) := by decide +kernel
theorem dX12_stateNow_137 : decode cX12_stateNow 137 = .ok (.iload 8, 2) := by decide +kernel
theorem dX12_stateNow_139 : decode cX12_stateNow 139 = .ok (.aload_n 0, 1) := by decide +kernel
theorem dX12_stateNow_140 : decode cX12_stateNow 140 = .ok (.getfield 341, 3) := by decide +kernel
theorem dX12_stateNow_143 : decode cX12_stateNow 143 = .ok (.iastore, 1) := by decide +kernel
theorem dX12_stateNow_144 : decode cX12_stateNow 144 = .ok (.aload_n 0, 1) := by decide +kernel
theorem dX12_stateNow_145 : decode cX12_stateNow 145 = .ok (.getfield 341, 3) := by decide +kernel
theorem dX12_stateNow_148 : decode cX12_stateNow 148 = .ok (.iconst 1, 1) := by decide +kernel
theorem dX12_stateNow_149 : decode cX12_stateNow 149 = .ok (.isub, 1) := by decide +kernel
theorem dX12_stateNow_150 : decode cX12_stateNow 150 = .ok (.ireturn, 1) := by decide +kernel
theorem dX12_goTurn_0 : decode cX12_goTurn 0 = .ok (.iconst 0, 1) := by decide +kernel
theorem dX12_goTurn_1 : decode cX12_goTurn 1 = .ok (.istore_n 1, 1) := by decide +kernel
theorem dX12_goTurn_2 : decode cX12_goTurn 2 = .ok (.iload_n 1, 1) := by decide +kernel
theorem dX12_goTurn_3 : decode cX12_goTurn 3 = .ok (.aload_n 0, 1) := by decide +kernel
theorem dX12_goTurn_4 : decode cX12_goTurn 4 = .ok (.getfield 181, 3) := by decide +kernel
theorem dX12_goTurn_7 : decode cX12_goTurn 7 = .ok (.if_icmp .ge 41, 3) := by decide +kernel
theorem dX12_goTurn_10 : decode cX12_goTurn 10 = .ok (.aload_n 0, 1) := by decide +kernel
theorem dX12_goTurn_11 : decode cX12_goTurn 11 = .ok (.aload_n 0, 1) := by decide +kernel
theorem dX12_goTurn_12 : decode cX12_goTurn 12 = .ok (.getfield 36, 3) := by decide +kernel
theorem dX12_goTurn_15 : decode cX12_goTurn 15 = .ok (.iconst 4, 1) := by decide +kernel
theorem dX12_goTurn_16 : decode cX12_goTurn 16 = .ok (.iload_n 1, 1) := by decide +kernel
theorem dX12_goTurn_17 : decode cX12_goTurn 17 = .ok (.imul, 1) := by decide +kernel
theorem dX12_goTurn_18 : decode cX12_goTurn 18 = .ok (.iaload, 1) := by decide +kernel
theorem dX12_goTurn_19 : decode cX12_goTurn 19 = .ok (.aload_n 0, 1) := by decide +kernel
theorem dX12_goTurn_20 : decode cX12_goTurn 20 = .ok (.getfield 36, 3) := by decide +kernel
theorem dX12_goTurn_23 : decode cX12_goTurn 23 = .ok (.iconst 4, 1) := by decide +kernel
theorem dX12_goTurn_24 : decode cX12_goTurn 24 = .ok (.iload_n 1, 1) := by decide +kernel
theorem dX12_goTurn_25 : decode cX12_goTurn 25 = .ok (.imul, 1) := by decide +kernel
theorem dX12_goTurn_26 : decode cX12_goTurn 26 = .ok (.iconst 1, 1) := by decide +kernel
theorem dX12_goTurn_27 : decode cX12_goTurn 27 = .ok (.iadd, 1) := by decide +kernel
theorem dX12_goTurn_28 : decode cX12_goTurn 28 = .ok (.iaload, 1) := by decide +kernel
theorem dX12_goTurn_29 : decode cX12_goTurn 29 = .ok (.aload_n 0, 1) := by decide +kernel
theorem dX12_goTurn_30 : decode cX12_goTurn 30 = .ok (.getfield 36, 3) := by decide +kernel
theorem dX12_goTurn_33 : decode cX12_goTurn 33 = .ok (.iconst 4, 1) := by decide +kernel
theorem dX12_goTurn_34 : decode cX12_goTurn 34 = .ok (.iload_n 1, 1) := by decide +kernel
theorem dX12_goTurn_35 : decode cX12_goTurn 35 = .ok (.imul, 1) := by decide +kernel
theorem dX12_goTurn_36 : decode cX12_goTurn 36 = .ok (.iconst 2, 1) := by decide +kernel
theorem dX12_goTurn_37 : decode cX12_goTurn 37 = .ok (.iadd, 1) := by decide +kernel
theorem dX12_goTurn_38 : decode cX12_goTurn 38 = .ok (.iaload, 1) := by decide +kernel
theorem dX12_goTurn_39 : decode cX12_goTurn 39 = .ok (.invokevirtual 352, 3) := by decide +kernel
theorem dX12_goTurn_42 : decode cX12_goTurn 42 = .ok (.iinc 1 1, 3) := by decide +kernel
theorem dX12_goTurn_45 : decode cX12_goTurn 45 = .ok (.goto (-43), 3) := by decide +kernel
theorem dX12_goTurn_48 : decode cX12_goTurn 48 = .ok (.return_, 1) := by decide +kernel
theorem dX12_findRest_0 : decode cX12_findRest 0 = .ok (.aload_n 0, 1) := by decide +kernel
theorem dX12_findRest_1 : decode cX12_findRest 1 = .ok (.invokevirtual 356, 3) := by decide +kernel
theorem dX12_findRest_4 : decode cX12_findRest 4 = .ok (.iconst 0, 1) := by decide +kernel
theorem dX12_findRest_5 : decode cX12_findRest 5 = .ok (.istore_n 1, 1) := by decide +kernel
theorem dX12_findRest_6 : decode cX12_findRest 6 = .ok (.aload_n 0, 1) := by decide +kernel
theorem dX12_findRest_7 : decode cX12_findRest 7 = .ok (.iconst (-1), 1) := by decide +kernel
theorem dX12_findRest_8 : decode cX12_findRest 8 = .ok (.iconst 0, 1) := by decide +kernel
theorem dX12_findRest_9 : decode cX12_findRest 9 = .ok (.sipush 3000, 3) := by decide +kernel
theorem dX12_findRest_12 : decode cX12_findRest 12 = .ok (.invokevirtual 359, 3) := by decide +kernel
theorem dX12_findRest_15 : decode cX12_findRest 15 = .ok (.pop, 1) := by decide +kernel
theorem dX12_findRest_16 : decode cX12_findRest 16 = .ok (.iconst 1, 1) := by decide +kernel
theorem dX12_findRest_17 : decode cX12_findRest 17 = .ok (.istore_n 2, 1) := by decide +kernel
theorem dX12_findRest_18 : decode cX12_findRest 18 = .ok (.iload_n 2, 1) := by decide +kernel
theorem dX12_findRest_19 : decode cX12_findRest 19 = .ok (.sipush 2000, 3) := by decide +kernel
theorem dX12_findRest_22 : decode cX12_findRest 22 = .ok (.if_icmp .gt 68, 3) := by decide +kernel
theorem dX12_findRest_25 : decode cX12_findRest 25 = .ok (.iload_n 1, 1) := by decide +kernel
theorem dX12_findRest_26 : decode cX12_findRest 26 = .ok (.ifCond .ne 64, 3) := by decide +kernel
theorem dX12_findRest_29 : decode cX12_findRest 29 = .ok (.aload_n 0, 1) := by decide +kernel
theorem dX12_findRest_30 : decode cX12_findRest 30 = .ok (.invokevirtual 362, 3) := by decide +kernel
theorem dX12_findRest_33 : decode cX12_findRest 33 = .ok (.aload_n 0, 1) := by decide +kernel
theorem dX12_findRest_34 : decode cX12_findRest 34 = .ok (.getfield 341, 3) := by decide +kernel
theorem dX12_findRest_37 : decode cX12_findRest 37 = .ok (.istore_n 3, 1) := by decide +kernel
theorem dX12_findRest_38 : decode cX12_findRest 38 = .ok (.aload_n 0, 1) := by decide +kernel
theorem dX12_findRest_39 : decode cX12_findRest 39 = .ok (.iconst (-1), 1) := by decide +kernel
theorem dX12_findRest_40 : decode cX12_findRest 40 = .ok (.iconst 0, 1) := by decide +kernel
theorem dX12_findRest_41 : decode cX12_findRest 41 = .ok (.sipush 3000, 3) := by decide +kernel
theorem dX12_findRest_44 : decode cX12_findRest 44 = .ok (.invokevirtual 359, 3) := by decide +kernel
theorem dX12_findRest_47 : decode cX12_findRest 47 = .ok (.istore 4, 2) := by decide +kernel
theorem dX12_findRest_49 : decode cX12_findRest 49 = .ok (.aload_n 0, 1) := by decide +kernel
theorem dX12_findRest_50 : decode cX12_findRest 50 = .ok (.getfield 341, 3) := by decide +kernel
theorem dX12_findRest_53 : decode cX12_findRest 53 = .ok (.iload_n 3, 1) := by decide +kernel
theorem dX12_findRest_54 : decode cX12_findRest 54 = .ok (.if_icmp .ne 7, 3) := by decide +kernel
theorem dX12_findRest_57 : decode cX12_findRest 57 = .ok (.iconst 1, 1) := by decide +kernel
theorem dX12_findRest_58 : decode cX12_findRest 58 = .ok (.goto 4, 3) := by decide +kernel
theorem dX12_findRest_61 : decode cX12_findRest 61 = .ok (.iconst 0, 1) := by decide +kernel
theorem dX12_findRest_62 : decode cX12_findRest 62 = .ok (.istore_n 1, 1) := by decide +kernel
theorem dX12_findRest_63 : decode cX12_findRest 63 = .ok (.iload_n 1, 1) := by decide +kernel
theorem dX12_findRest_64 : decode cX12_findRest 64 = .ok (.ifCond .ne 6, 3) := by decide +kernel
theorem dX12_findRest_67 : decode cX12_findRest 67 = .ok (.goto 17, 3) := by decide +kernel
theorem dX12_findRest_70 : decode cX12_findRest 70 = .ok (.aload_n 0, 1) := by decide +kernel
theorem dX12_findRest_71 : decode cX12_findRest 71 = .ok (.iload 4, 2) := by decide +kernel
theorem dX12_findRest_73 : decode cX12_findRest 73 = .ok (.putfield 365, 3) := by decide +kernel
theorem dX12_findRest_76 : decode cX12_findRest 76 = .ok (.aload_n 0, 1) := by decide +kernel
theorem dX12_findRest_77 : decode cX12_findRest 77 = .ok (.iload_n 2, 1) := by decide +kernel
theorem dX12_findRest_78 : decode cX12_findRest 78 = .ok (.iload 4, 2) := by decide +kernel
theorem dX12_findRest_80 : decode cX12_findRest 80 = .ok (.isub, 1) := by decide +kernel
theorem dX12_findRest_81 : decode cX12_findRest 81 = .ok (.putfield 368, 3) := by decide +kernel
theorem dX12_findRest_84 : decode cX12_findRest 84 = .ok (.iinc 2 1, 3) := by decide +kernel
theorem dX12_findRest_87 : decode cX12_findRest 87 = .ok (.goto (-69), 3) := by decide +kernel
theorem dX12_findRest_90 : decode cX12_findRest 90 = .ok (.aload_n 0, 1) := by decide +kernel
theorem dX12_findRest_91 : decode cX12_findRest 91 = .ok (.aload_n 0, 1) := by decide +kernel
theorem dX12_findRest_92 : decode cX12_findRest 92 = .ok (.getfield 71, 3) := by decide +kernel
theorem dX12_findRest_95 : decode cX12_findRest 95 = .ok (.iconst 0, 1) := by decide +kernel
theorem dX12_findRest_96 : decode cX12_findRest 96 = .ok (.invokevirtual 302, 3) := by decide +kernel
theorem dX12_findRest_99 : decode cX12_findRest 99 = .ok (.iload_n 1, 1) := by decide +kernel
theorem dX12_findRest_100 : decode cX12_findRest 100 = .ok (.ireturn, 1) := by decide +kernel
theorem dX12_rest_0 : decode cX12_rest 0 = .ok (.aload_n 0, 1) := by decide +kernel
theorem dX12_rest_1 : decode cX12_rest 1 = .ok (.iconst 0, 1) := by decide +kernel
theorem dX12_rest_2 : decode cX12_rest 2 = .ok (.putfield 110, 3) := by decide +kernel
theorem dX12_rest_5 : decode cX12_rest 5 = .ok (.aload_n 0, 1) := by decide +kernel
theorem dX12_rest_6 : decode cX12_rest 6 = .ok (.getfield 184, 3) := by decide +kernel
theorem dX12_rest_9 : decode cX12_rest 9 = .ok (.ifCond .ne 5, 3) := by decide +kernel
theorem dX12_rest_12 : decode cX12_rest 12 = .ok (.iconst (-1), 1) := by decide +kernel
theorem dX12_rest_13 : decode cX12_rest 13 = .ok (.ireturn, 1) := by decide +kernel
theorem dX12_rest_14 : decode cX12_rest 14 = .ok (.aload_n 0, 1) := by decide +kernel
theorem dX12_rest_15 : decode cX12_rest 15 = .ok (.invokevirtual 371, 3) := by decide +kernel
theorem dX12_rest_18 : decode cX12_rest 18 = .ok (.ifCond .ne 6, 3) := by decide +kernel
theorem dX12_rest_21 : decode cX12_rest 21 = .ok (.bipush (-3), 2) := by decide +kernel
theorem dX12_rest_23 : decode cX12_rest 23 = .ok (.ireturn, 1) := by decide +kernel
theorem dX12_rest_24 : decode cX12_rest 24 = .ok (.aload_n 0, 1) := by decide +kernel
theorem dX12_rest_25 : decode cX12_rest 25 = .ok (.aload_n 0, 1) := by decide +kernel
theorem dX12_rest_26 : decode cX12_rest 26 = .ok (.getfield 365, 3) := by decide +kernel
theorem dX12_rest_29 : decode cX12_rest 29 = .ok (.invokevirtual 374, 3) := by decide +kernel
theorem dX12_rest_32 : decode cX12_rest 32 = .ok (.aload_n 0, 1) := by decide +kernel
theorem dX12_rest_33 : decode cX12_rest 33 = .ok (.invokevirtual 305, 3) := by decide +kernel
theorem dX12_rest_36 : decode cX12_rest 36 = .ok (.istore_n 1, 1) := by decide +kernel
theorem dX12_rest_37 : decode cX12_rest 37 = .ok (.aload_n 0, 1) := by decide +kernel
theorem dX12_rest_38 : decode cX12_rest 38 = .ok (.aload_n 0, 1) := by decide +kernel
theorem dX12_rest_39 : decode cX12_rest 39 = .ok (.getfield 71, 3) := by decide +kernel
theorem dX12_rest_42 : decode cX12_rest 42 = .ok (.iconst 0, 1) := by decide +kernel
theorem dX12_rest_43 : decode cX12_rest 43 = .ok (.invokevirtual 302, 3) := by decide +kernel
theorem dX12_rest_46 : decode cX12_rest 46 = .ok (.aload_n 0, 1) := by decide +kernel
theorem dX12_rest_47 : decode cX12_rest 47 = .ok (.iconst 0, 1) := by decide +kernel
theorem dX12_rest_48 : decode cX12_rest 48 = .ok (.putfield 113, 3) := by decide +kernel
theorem dX12_rest_51 : decode cX12_rest 51 = .ok (.aload_n 0, 1) := by decide +kernel
theorem dX12_rest_52 : decode cX12_rest 52 = .ok (.aload_n 0, 1) := by decide +kernel
theorem dX12_rest_53 : decode cX12_rest 53 = .ok (.getfield 368, 3) := by decide +kernel
theorem dX12_rest_56 : decode cX12_rest 56 = .ok (.i2l, 1) := by decide +kernel
theorem dX12_rest_57 : decode cX12_rest 57 = .ok (.invokevirtual 131, 3) := by decide +kernel
theorem dX12_rest_60 : decode cX12_rest 60 = .ok (.aload_n 0, 1) := by decide +kernel
theorem dX12_rest_61 : decode cX12_rest 61 = .ok (.iload_n 1, 1) := by decide +kernel
theorem dX12_rest_62 : decode cX12_rest 62 = .ok (.i2l, 1) := by decide +kernel
theorem dX12_rest_63 : decode cX12_rest 63 = .ok (.invokevirtual 131, 3) := by decide +kernel
theorem dX12_rest_66 : decode cX12_rest 66 = .ok (.aload_n 0, 1) := by decide +kernel
theorem dX12_rest_67 : decode cX12_rest 67 = .ok (.getfield 365, 3) := by decide +kernel
theorem dX12_rest_70 : decode cX12_rest 70 = .ok (.ireturn, 1) := by decide +kernel
theorem dX12_skillIn_0 : decode cX12_skillIn 0 = .ok (.iconst 4, 1) := by decide +kernel
theorem dX12_skillIn_1 : decode cX12_skillIn 1 = .ok (.iload_n 2, 1) := by decide +kernel
theorem dX12_skillIn_2 : decode cX12_skillIn 2 = .ok (.imul, 1) := by decide +kernel
theorem dX12_skillIn_3 : decode cX12_skillIn 3 = .ok (.iload_n 3, 1) := by decide +kernel
theorem dX12_skillIn_4 : decode cX12_skillIn 4 = .ok (.iadd, 1) := by decide +kernel
theorem dX12_skillIn_5 : decode cX12_skillIn 5 = .ok (.istore 4, 2) := by decide +kernel
theorem dX12_skillIn_7 : decode cX12_skillIn 7 = .ok (.iload 4, 2) := by decide +kernel
theorem dX12_skillIn_9 : decode cX12_skillIn 9 = .ok (.bipush 16, 2) := by decide +kernel
theorem dX12_skillIn_11 : decode cX12_skillIn 11 = .ok (.if_icmp .ge 12, 3) := by decide +kernel
theorem dX12_skillIn_14 : decode cX12_skillIn 14 = .ok (.aload_n 0, 1) := by decide +kernel
theorem dX12_skillIn_15 : decode cX12_skillIn 15 = .ok (.getfield 74, 3) := by decide +kernel
theorem dX12_skillIn_18 : decode cX12_skillIn 18 = .ok (.iload_n 1, 1) := by decide +kernel
theorem dX12_skillIn_19 : decode cX12_skillIn 19 = .ok (.laload, 1) := by decide +kernel
theorem dX12_skillIn_20 : decode cX12_skillIn 20 = .ok (.goto 9, 3) := by decide +kernel
theorem dX12_skillIn_23 : decode cX12_skillIn 23 = .ok (.aload_n 0, 1) := by decide +kernel
theorem dX12_skillIn_24 : decode cX12_skillIn 24 = .ok (.getfield 77, 3) := by decide +kernel
theorem dX12_skillIn_27 : decode cX12_skillIn 27 = .ok (.iload_n 1, 1) := by decide +kernel
theorem dX12_skillIn_28 : decode cX12_skillIn 28 = .ok (.laload, 1) := by decide +kernel
theorem dX12_skillIn_29 : decode cX12_skillIn 29 = .ok (.lstore 5, 2) := by decide +kernel
theorem dX12_skillIn_31 : decode cX12_skillIn 31 = .ok (.lload 5, 2) := by decide +kernel
theorem dX12_skillIn_33 : decode cX12_skillIn 33 = .ok (.iconst 3, 1) := by decide +kernel
theorem dX12_skillIn_34 : decode cX12_skillIn 34 = .ok (.bipush 15, 2) := by decide +kernel
theorem dX12_skillIn_36 : decode cX12_skillIn 36 = .ok (.iload 4, 2) := by decide +kernel
theorem dX12_skillIn_38 : decode cX12_skillIn 38 = .ok (.bipush 16, 2) := by decide +kernel
theorem dX12_skillIn_40 : decode cX12_skillIn 40 = .ok (.irem, 1) := by decide +kernel
theorem dX12_skillIn_41 : decode cX12_skillIn 41 = .ok (.isub, 1) := by decide +kernel
theorem dX12_skillIn_42 : decode cX12_skillIn 42 = .ok (.imul, 1) := by decide +kernel
theorem dX12_skillIn_43 : decode cX12_skillIn 43 = .ok (.lshr, 1) := by decide +kernel
theorem dX12_skillIn_44 : decode cX12_skillIn 44 = .ok (.ldc2_w 335, 3) := by decide +kernel
theorem dX12_skillIn_47 : decode cX12_skillIn 47 = .ok (.land, 1) := by decide +kernel
theorem dX12_skillIn_48 : decode cX12_skillIn 48 = .ok (.l2i, 1) := by decide +kernel
theorem dX12_skillIn_49 : decode cX12_skillIn 49 = .ok (.ireturn, 1) := by decide +kernel
theorem dX12_mean_0 : decode cX12_mean 0 = .ok (.aload_n 0, 1) := by decide +kernel
theorem dX12_mean_1 : decode cX12_mean 1 = .ok (.iconst 0, 1) := by decide +kernel
theorem dX12_mean_2 : decode cX12_mean 2 = .ok (.putfield 110, 3) := by decide +kernel
theorem dX12_mean_5 : decode cX12_mean 5 = .ok (.aload_n 0, 1) := by decide +kernel
theorem dX12_mean_6 : decode cX12_mean 6 = .ok (.iload_n 1, 1) := by decide +kernel
theorem dX12_mean_7 : decode cX12_mean 7 = .ok (.invokevirtual 123, 3) := by decide +kernel
theorem dX12_mean_10 : decode cX12_mean 10 = .ok (.ifCond .eq 18, 3) := by decide +kernel
theorem dX12_mean_13 : decode cX12_mean 13 = .ok (.aload_n 0, 1) := by decide +kernel
theorem dX12_mean_14 : decode cX12_mean 14 = .ok (.iload_n 2, 1) := by decide +kernel
theorem dX12_mean_15 : decode cX12_mean 15 = .ok (.invokevirtual 244, 3) := by decide +kernel
theorem dX12_mean_18 : decode cX12_mean 18 = .ok (.ifCond .eq 10, 3) := by decide +kernel
theorem dX12_mean_21 : decode cX12_mean 21 = .ok (.aload_n 0, 1) := by decide +kernel
theorem dX12_mean_22 : decode cX12_mean 22 = .ok (.getfield 184, 3) := by decide +kernel
theorem dX12_mean_25 : decode cX12_mean 25 = .ok (.ifCond .ne 5, 3) := by decide +kernel
theorem dX12_mean_28 : decode cX12_mean 28 = .ok (.iconst (-1), 1) := by decide +kernel
theorem dX12_mean_29 : decode cX12_mean 29 = .ok (.ireturn, 1) := by decide +kernel
theorem dX12_mean_30 : decode cX12_mean 30 = .ok (.aload_n 0, 1) := by decide +kernel
theorem dX12_mean_31 : decode cX12_mean 31 = .ok (.invokevirtual 371, 3) := by decide +kernel
theorem dX12_mean_34 : decode cX12_mean 34 = .ok (.ifCond .ne 6, 3) := by decide +kernel
theorem dX12_mean_37 : decode cX12_mean 37 = .ok (.bipush (-3), 2) := by decide +kernel
theorem dX12_mean_39 : decode cX12_mean 39 = .ok (.ireturn, 1) := by decide +kernel
theorem dX12_mean_40 : decode cX12_mean 40 = .ok (.lconst 0, 1) := by decide +kernel
theorem dX12_mean_41 : decode cX12_mean 41 = .ok (.lstore_n 3, 1) := by decide +kernel
theorem dX12_mean_42 : decode cX12_mean 42 = .ok (.aload_n 0, 1) := by decide +kernel
theorem dX12_mean_43 : decode cX12_mean 43 = .ok (.getfield 365, 3) := by decide +kernel
theorem dX12_mean_46 : decode cX12_mean 46 = .ok (.istore 5, 2) := by decide +kernel
theorem dX12_mean_48 : decode cX12_mean 48 = .ok (.iload 5, 2) := by decide +kernel
theorem dX12_mean_50 : decode cX12_mean 50 = .ok (.aload_n 0, 1) := by decide +kernel
theorem dX12_mean_51 : decode cX12_mean 51 = .ok (.getfield 365, 3) := by decide +kernel
theorem dX12_mean_54 : decode cX12_mean 54 = .ok (.aload_n 0, 1) := by decide +kernel
theorem dX12_mean_55 : decode cX12_mean 55 = .ok (.getfield 368, 3) := by decide +kernel
theorem dX12_mean_58 : decode cX12_mean 58 = .ok (.iadd, 1) := by decide +kernel
theorem dX12_mean_59 : decode cX12_mean 59 = .ok (.if_icmp .ge 21, 3) := by decide +kernel
theorem dX12_mean_62 : decode cX12_mean 62 = .ok (.lload_n 3, 1) := by decide +kernel
theorem dX12_mean_63 : decode cX12_mean 63 = .ok (.aload_n 0, 1) := by decide +kernel
theorem dX12_mean_64 : decode cX12_mean 64 = .ok (.iload 5, 2) := by decide +kernel
theorem dX12_mean_66 : decode cX12_mean 66 = .ok (.iload_n 1, 1) := by decide +kernel
theorem dX12_mean_67 : decode cX12_mean 67 = .ok (.iload_n 2, 1) := by decide +kernel
theorem dX12_mean_68 : decode cX12_mean 68 = .ok (.invokevirtual 377, 3) := by decide +kernel
theorem dX12_mean_71 : decode cX12_mean 71 = .ok (.i2l, 1) := by decide +kernel
theorem dX12_mean_72 : decode cX12_mean 72 = .ok (.ladd, 1) := by decide +kernel
theorem dX12_mean_73 : decode cX12_mean 73 = .ok (.lstore_n 3, 1) := by decide +kernel
theorem dX12_mean_74 : decode cX12_mean 74 = .ok (.iinc 5 1, 3) := by decide +kernel
theorem dX12_mean_77 : decode cX12_mean 77 = .ok (.goto (-29), 3) := by decide +kernel
theorem dX12_mean_80 : decode cX12_mean 80 = .ok (.aload_n 0, 1) := by decide +kernel
theorem dX12_mean_81 : decode cX12_mean 81 = .ok (.iconst 0, 1) := by decide +kernel
theorem dX12_mean_82 : decode cX12_mean 82 = .ok (.putfield 113, 3) := by decide +kernel
theorem dX12_mean_85 : decode cX12_mean 85 = .ok (.aload_n 0, 1) := by decide +kernel
theorem dX12_mean_86 : decode cX12_mean 86 = .ok (.lload_n 3, 1) := by decide +kernel
theorem dX12_mean_87 : decode cX12_mean 87 = .ok (.aload_n 0, 1) := by decide +kernel
theorem dX12_mean_88 : decode cX12_mean 88 = .ok (.getfield 368, 3) := by decide +kernel
theorem dX12_mean_91 : decode cX12_mean 91 = .ok (.i2l, 1) := by decide +kernel
theorem dX12_mean_92 : decode cX12_mean 92 = .ok (.invokevirtual 380, 3) := by decide +kernel
theorem dX12_mean_95 : decode cX12_mean 95 = .ok (.iconst 0, 1) := by decide +kernel
theorem dX12_mean_96 : decode cX12_mean 96 = .ok (.ireturn, 1) := by decide +kernel
theorem dX12_soon_0 : decode cX12_soon 0 = .ok (.aload_n 0, 1) := by decide +kernel
theorem dX12_soon_1 : decode cX12_soon 1 = .ok (.iconst 0, 1) := by decide +kernel
theorem dX12_soon_2 : decode cX12_soon 2 = .ok (.putfield 110, 3) := by decide +kernel
theorem dX12_soon_5 : decode cX12_soon 5 = .ok (.aload_n 0, 1) := by decide +kernel
theorem dX12_soon_6 : decode cX12_soon 6 = .ok (.iload_n 1, 1) := by decide +kernel
theorem dX12_soon_7 : decode cX12_soon 7 = .ok (.invokevirtual 123, 3) := by decide +kernel
theorem dX12_soon_10 : decode cX12_soon 10 = .ok (.ifCond .eq 30, 3) := by decide +kernel
theorem dX12_soon_13 : decode cX12_soon 13 = .ok (.aload_n 0, 1) := by decide +kernel
theorem dX12_soon_14 : decode cX12_soon 14 = .ok (.iload_n 2, 1) := by decide +kernel
theorem dX12_soon_15 : decode cX12_soon 15 = .ok (.invokevirtual 244, 3) := by decide +kernel
theorem dX12_soon_18 : decode cX12_soon 18 = .ok (.ifCond .eq 22, 3) := by decide +kernel
theorem dX12_soon_21 : decode cX12_soon 21 = .ok (.iload_n 3, 1) := by decide +kernel
theorem dX12_soon_22 : decode cX12_soon 22 = .ok (.i2l, 1) := by decide +kernel
theorem dX12_soon_23 : decode cX12_soon 23 = .ok (.lconst 0, 1) := by decide +kernel
theorem dX12_soon_24 : decode cX12_soon 24 = .ok (.ldc2_w 335, 3) := by decide +kernel
theorem dX12_soon_27 : decode cX12_soon 27 = .ok (.invokestatic 119, 3) := by decide +kernel
theorem dX12_soon_30 : decode cX12_soon 30 = .ok (.ifCond .eq 10, 3) := by decide +kernel
theorem dX12_soon_33 : decode cX12_soon 33 = .ok (.aload_n 0, 1) := by decide +kernel
theorem dX12_soon_34 : decode cX12_soon 34 = .ok (.getfield 184, 3) := by decide +kernel
theorem dX12_soon_37 : decode cX12_soon 37 = .ok (.ifCond .ne 5, 3) := by decide +kernel
theorem dX12_soon_40 : decode cX12_soon 40 = .ok (.iconst (-1), 1) := by decide +kernel
theorem dX12_soon_41 : decode cX12_soon 41 = .ok (.ireturn, 1) := by decide +kernel
theorem dX12_soon_42 : decode cX12_soon 42 = .ok (.aload_n 0, 1) := by decide +kernel
theorem dX12_soon_43 : decode cX12_soon 43 = .ok (.invokevirtual 371, 3) := by decide +kernel
theorem dX12_soon_46 : decode cX12_soon 46 = .ok (.istore 4, 2) := by decide +kernel
theorem dX12_soon_48 : decode cX12_soon 48 = .ok (.iconst 0, 1) := by decide +kernel
theorem dX12_soon_49 : decode cX12_soon 49 = .ok (.istore 5, 2) := by decide +kernel
theorem dX12_soon_51 : decode cX12_soon 51 = .ok (.iload 5, 2) := by decide +kernel
theorem dX12_soon_53 : decode cX12_soon 53 = .ok (.aload_n 0, 1) := by decide +kernel
theorem dX12_soon_54 : decode cX12_soon 54 = .ok (.getfield 341, 3) := by decide +kernel
theorem dX12_soon_57 : decode cX12_soon 57 = .ok (.if_icmp .ge 24, 3) := by decide +kernel
theorem dX12_soon_60 : decode cX12_soon 60 = .ok (.aload_n 0, 1) := by decide +kernel
theorem dX12_soon_61 : decode cX12_soon 61 = .ok (.iload 5, 2) := by decide +kernel
theorem dX12_soon_63 : decode cX12_soon 63 = .ok (.iload_n 1, 1) := by decide +kernel
theorem dX12_soon_64 : decode cX12_soon 64 = .ok (.iload_n 2, 1) := by decide +kernel
theorem dX12_soon_65 : decode cX12_soon 65 = .ok (.invokevirtual 377, 3) := by decide +kernel
theorem dX12_soon_68 : decode cX12_soon 68 = .ok (.iload_n 3, 1) := by decide +kernel
theorem dX12_soon_69 : decode cX12_soon 69 = .ok (.if_icmp .lt 6, 3) := by decide +kernel
theorem dX12_soon_72 : decode cX12_soon 72 = .ok (.iload 5, 2) := by decide +kernel
theorem dX12_soon_74 : decode cX12_soon 74 = .ok (.ireturn, 1) := by decide +kernel
theorem dX12_soon_75 : decode cX12_soon 75 = .ok (.iinc 5 1, 3) := by decide +kernel
theorem dX12_soon_78 : decode cX12_soon 78 = .ok (.goto (-27), 3) := by decide +kernel
theorem dX12_soon_81 : decode cX12_soon 81 = .ok (.iload 4, 2) := by decide +kernel
theorem dX12_soon_83 : decode cX12_soon 83 = .ok (.ifCond .eq 8, 3) := by decide +kernel
theorem dX12_soon_86 : decode cX12_soon 86 = .ok (.bipush (-2), 2) := by decide +kernel
theorem dX12_soon_88 : decode cX12_soon 88 = .ok (.goto 5, 3) := by decide +kernel
theorem dX12_soon_91 : decode cX12_soon 91 = .ok (.bipush (-3), 2) := by decide +kernel
theorem dX12_soon_93 : decode cX12_soon 93 = .ok (.ireturn, 1) := by decide +kernel
theorem dX12_power100_0 : decode cX12_power100 0 = .ok (.lconst 1, 1) := by decide +kernel
theorem dX12_power100_1 : decode cX12_power100 1 = .ok (.lstore_n 1, 1) := by decide +kernel
theorem dX12_power100_2 : decode cX12_power100 2 = .ok (.iconst 0, 1) := by decide +kernel
theorem dX12_power100_3 : decode cX12_power100 3 = .ok (.istore_n 3, 1) := by decide +kernel
theorem dX12_power100_4 : decode cX12_power100 4 = .ok (.iload_n 3, 1) := by decide +kernel
theorem dX12_power100_5 : decode cX12_power100 5 = .ok (.iload_n 0, 1) := by decide +kernel
theorem dX12_power100_6 : decode cX12_power100 6 = .ok (.if_icmp .ge 15, 3) := by decide +kernel
theorem dX12_power100_9 : decode cX12_power100 9 = .ok (.lload_n 1, 1) := by decide +kernel
theorem dX12_power100_10 : decode cX12_power100 10 = .ok (.ldc2_w 228, 3) := by decide +kernel
theorem dX12_power100_13 : decode cX12_power100 13 = .ok (.lmul, 1) := by decide +kernel
theorem dX12_power100_14 : decode cX12_power100 14 = .ok (.lstore_n 1, 1) := by decide +kernel
theorem dX12_power100_15 : decode cX12_power100 15 = .ok (.iinc 3 1, 3) := by decide +kernel
theorem dX12_power100_18 : decode cX12_power100 18 = .ok (.goto (-14), 3) := by decide +kernel
theorem dX12_power100_21 : decode cX12_power100 21 = .ok (.lload_n 1, 1) := by decide +kernel
theorem dX12_power100_22 : decode cX12_power100 22 = .ok (.lreturn, 1) := by decide +kernel
theorem dX12_chanceOfWins_0 : decode cX12_chanceOfWins 0 = .ok (.iload 4, 2) := by decide +kernel
theorem dX12_chanceOfWins_2 : decode cX12_chanceOfWins 2 = .ok (.ifCond .lt 11, 3) := by decide +kernel
theorem dX12_chanceOfWins_5 : decode cX12_chanceOfWins 5 = .ok (.iload 4, 2) := by decide +kernel
theorem dX12_chanceOfWins_7 : decode cX12_chanceOfWins 7 = .ok (.iload_n 3, 1) := by decide +kernel
theorem dX12_chanceOfWins_8 : decode cX12_chanceOfWins 8 = .ok (.iload_n 2, 1) := by decide +kernel
theorem dX12_chanceOfWins_9 : decode cX12_chanceOfWins 9 = .ok (.isub, 1) := by decide +kernel
theorem dX12_chanceOfWins_10 : decode cX12_chanceOfWins 10 = .ok (.if_icmp .le 5, 3) := by decide +kernel
theorem dX12_chanceOfWins_13 : decode cX12_chanceOfWins 13 = .ok (.lconst 0, 1) := by decide +kernel
theorem dX12_chanceOfWins_14 : decode cX12_chanceOfWins 14 = .ok (.lreturn, 1) := by decide +kernel
theorem dX12_chanceOfWins_15 : decode cX12_chanceOfWins 15 = .ok (.iload_n 2, 1) := by decide +kernel
theorem dX12_chanceOfWins_16 : decode cX12_chanceOfWins 16 = .ok (.iload_n 3, 1) := by decide +kernel
theorem dX12_chanceOfWins_17 : decode cX12_chanceOfWins 17 = .ok (.if_icmp .ne 5, 3) := by decide +kernel
theorem dX12_chanceOfWins_20 : decode cX12_chanceOfWins 20 = .ok (.lconst 1, 1) := by decide +kernel
theorem dX12_chanceOfWins_21 : decode cX12_chanceOfWins 21 = .ok (.lreturn, 1) := by decide +kernel
theorem dX12_chanceOfWins_22 : decode cX12_chanceOfWins 22 = .ok (.iconst 4, 1) := by decide +kernel
theorem dX12_chanceOfWins_23 : decode cX12_chanceOfWins 23 = .ok (.iload_n 2, 1) := by decide +kernel
theorem dX12_chanceOfWins_24 : decode cX12_chanceOfWins 24 = .ok (.aload_n 0, 1) := by decide +kernel
theorem dX12_chanceOfWins_25 : decode cX12_chanceOfWins 25 = .ok (.getfield 181, 3) := by decide +kernel
theorem dX12_chanceOfWins_28 : decode cX12_chanceOfWins 28 = .ok (.irem, 1) := by decide +kernel
theorem dX12_chanceOfWins_29 : decode cX12_chanceOfWins 29 = .ok (.imul, 1) := by decide +kernel
theorem dX12_chanceOfWins_30 : decode cX12_chanceOfWins 30 = .ok (.istore 5, 2) := by decide +kernel
theorem dX12_chanceOfWins_32 : decode cX12_chanceOfWins 32 = .ok (.aload_n 0, 1) := by decide +kernel
theorem dX12_chanceOfWins_33 : decode cX12_chanceOfWins 33 = .ok (.getfield 36, 3) := by decide +kernel
theorem dX12_chanceOfWins_36 : decode cX12_chanceOfWins 36 = .ok (.iload 5, 2) := by decide +kernel
theorem dX12_chanceOfWins_38 : decode cX12_chanceOfWins 38 = .ok (.iaload, 1) := by decide +kernel
theorem dX12_chanceOfWins_39 : decode cX12_chanceOfWins 39 = .ok (.istore 6, 2) := by decide +kernel
theorem dX12_chanceOfWins_41 : decode cX12_chanceOfWins 41 = .ok (.aload_n 0, 1) := by decide +kernel
theorem dX12_chanceOfWins_42 : decode cX12_chanceOfWins 42 = .ok (.getfield 36, 3) := by decide +kernel
theorem dX12_chanceOfWins_45 : decode cX12_chanceOfWins 45 = .ok (.iload 5, 2) := by decide +kernel
theorem dX12_chanceOfWins_47 : decode cX12_chanceOfWins 47 = .ok (.iconst 1, 1) := by decide +kernel
theorem dX12_chanceOfWins_48 : decode cX12_chanceOfWins 48 = .ok (.iadd, 1) := by decide +kernel
theorem dX12_chanceOfWins_49 : decode cX12_chanceOfWins 49 = .ok (.iaload, 1) := by decide +kernel
theorem dX12_chanceOfWins_50 : decode cX12_chanceOfWins 50 = .ok (.istore 7, 2) := by decide +kernel
theorem dX12_chanceOfWins_52 : decode cX12_chanceOfWins 52 = .ok (.aload_n 0, 1) := by decide +kernel
theorem dX12_chanceOfWins_53 : decode cX12_chanceOfWins 53 = .ok (.getfield 36, 3) := by decide +kernel
theorem dX12_chanceOfWins_56 : decode cX12_chanceOfWins 56 = .ok (.iload 5, 2) := by decide +kernel
theorem dX12_chanceOfWins_58 : decode cX12_chanceOfWins 58 = .ok (.iconst 2, 1) := by decide +kernel
theorem dX12_chanceOfWins_59 : decode cX12_chanceOfWins 59 = .ok (.iadd, 1) := by decide +kernel
theorem dX12_chanceOfWins_60 : decode cX12_chanceOfWins 60 = .ok (.iaload, 1) := by decide +kernel
theorem dX12_chanceOfWins_61 : decode cX12_chanceOfWins 61 = .ok (.istore 8, 2) := by decide +kernel
theorem dX12_chanceOfWins_63 : decode cX12_chanceOfWins 63 = .ok (.iload 8, 2) := by decide +kernel
theorem dX12_chanceOfWins_65 : decode cX12_chanceOfWins 65 = .ok (.ifCond .eq 31, 3) := by decide +kernel
theorem dX12_chanceOfWins_68 : decode cX12_chanceOfWins 68 = .ok (.aload_n 0, 1) := by decide +kernel
theorem dX12_chanceOfWins_69 : decode cX12_chanceOfWins 69 = .ok (.iload 6, 2) := by decide +kernel
theorem dX12_chanceOfWins_71 : decode cX12_chanceOfWins 71 = .ok (.iload 7, 2) := by decide +kernel
theorem dX12_chanceOfWins_73 : decode cX12_chanceOfWins 73 = .ok (.iload 8, 2) := by decide +kernel
theorem dX12_chanceOfWins_75 : decode cX12_chanceOfWins 75 = .ok (.invokevirtual 273, 3) := by decide +kernel
theorem dX12_chanceOfWins_78 : decode cX12_chanceOfWins 78 = .ok (.istore 9, 2) := by decide +kernel
theorem dX12_chanceOfWins_80 : decode cX12_chanceOfWins 80 = .ok (.ldc2_w 228, 3) := by decide +kernel
theorem dX12_chanceOfWins_83 : decode cX12_chanceOfWins 83 = .ok (.aload_n 0, 1) := by decide +kernel
theorem dX12_chanceOfWins_84 : decode cX12_chanceOfWins 84 = .ok (.iload_n 1, 1) := by decide +kernel
theorem dX12_chanceOfWins_85 : decode cX12_chanceOfWins 85 = .ok (.iload_n 2, 1) := by decide +kernel
theorem dX12_chanceOfWins_86 : decode cX12_chanceOfWins 86 = .ok (.iload_n 3, 1) := by decide +kernel
theorem dX12_chanceOfWins_87 : decode cX12_chanceOfWins 87 = .ok (.iload 4, 2) := by decide +kernel
theorem dX12_chanceOfWins_89 : decode cX12_chanceOfWins 89 = .ok (.iload 9, 2) := by decide +kernel
theorem dX12_chanceOfWins_91 : decode cX12_chanceOfWins 91 = .ok (.invokevirtual 384, 3) := by decide +kernel
theorem dX12_chanceOfWins_94 : decode cX12_chanceOfWins 94 = .ok (.lmul, 1) := by decide +kernel
theorem dX12_chanceOfWins_95 : decode cX12_chanceOfWins 95 = .ok (.lreturn, 1) := by decide +kernel
theorem dX12_chanceOfWins_96 : decode cX12_chanceOfWins 96 = .ok (.aload_n 0, 1) := by decide +kernel
theorem dX12_chanceOfWins_97 : decode cX12_chanceOfWins 97 = .ok (.iload 6, 2) := by decide +kernel
theorem dX12_chanceOfWins_99 : decode cX12_chanceOfWins 99 = .ok (.iload 7, 2) := by decide +kernel
theorem dX12_chanceOfWins_101 : decode cX12_chanceOfWins 101 = .ok (.invokevirtual 276, 3) := by decide +kernel
theorem dX12_chanceOfWins_104 : decode cX12_chanceOfWins 104 = .ok (.i2l, 1) := by decide +kernel
theorem dX12_chanceOfWins_105 : decode cX12_chanceOfWins 105 = .ok (.lstore 9, 2) := by decide +kernel
theorem dX12_chanceOfWins_107 : decode cX12_chanceOfWins 107 = .ok (.lload 9, 2) := by decide +kernel
theorem dX12_chanceOfWins_109 : decode cX12_chanceOfWins 109 = .ok (.lconst 0, 1) := by decide +kernel
theorem dX12_chanceOfWins_110 : decode cX12_chanceOfWins 110 = .ok (.lcmp, 1) := by decide +kernel
theorem dX12_chanceOfWins_111 : decode cX12_chanceOfWins 111 = .ok (.ifCond .le 19, 3) := by decide +kernel
theorem dX12_chanceOfWins_114 : decode cX12_chanceOfWins 114 = .ok (.lload 9, 2) := by decide +kernel
theorem dX12_chanceOfWins_116 : decode cX12_chanceOfWins 116 = .ok (.aload_n 0, 1) := by decide +kernel
theorem dX12_chanceOfWins_117 : decode cX12_chanceOfWins 117 = .ok (.iload_n 1, 1) := by decide +kernel
theorem dX12_chanceOfWins_118 : decode cX12_chanceOfWins 118 = .ok (.iload_n 2, 1) := by decide +kernel
theorem dX12_chanceOfWins_119 : decode cX12_chanceOfWins 119 = .ok (.iload_n 3, 1) := by decide +kernel
theorem dX12_chanceOfWins_120 : decode cX12_chanceOfWins 120 = .ok (.iload 4, 2) := by decide +kernel
theorem dX12_chanceOfWins_122 : decode cX12_chanceOfWins 122 = .ok (.iconst 0, 1) := by decide +kernel
theorem dX12_chanceOfWins_123 : decode cX12_chanceOfWins 123 = .ok (.invokevirtual 384, 3) := by decide +kernel
theorem dX12_chanceOfWins_126 : decode cX12_chanceOfWins 126 = .ok (.lmul, 1) := by decide +kernel
theorem dX12_chanceOfWins_127 : decode cX12_chanceOfWins 127 = .ok (.goto 4, 3) := by decide +kernel
theorem dX12_chanceOfWins_130 : decode cX12_chanceOfWins 130 = .ok (.lconst 0, 1) := by decide +kernel
theorem dX12_chanceOfWins_131 : decode cX12_chanceOfWins 131 = .ok (.lstore 11, 2) := by decide +kernel
theorem dX12_chanceOfWins_133 : decode cX12_chanceOfWins 133 = .ok (.lload 11, 2) := by decide +kernel
theorem dX12_chanceOfWins_135 : decode cX12_chanceOfWins 135 = .ok (.lload 9, 2) := by decide +kernel
theorem dX12_chanceOfWins_137 : decode cX12_chanceOfWins 137 = .ok (.ldc2_w 228, 3) := by decide +kernel
theorem dX12_chanceOfWins_140 : decode cX12_chanceOfWins 140 = .ok (.lcmp, 1) := by decide +kernel
theorem dX12_chanceOfWins_141 : decode cX12_chanceOfWins 141 = .ok (.ifCond .ge 23, 3) := by decide +kernel
theorem dX12_chanceOfWins_144 : decode cX12_chanceOfWins 144 = .ok (.ldc2_w 228, 3) := by decide +kernel
theorem dX12_chanceOfWins_147 : decode cX12_chanceOfWins 147 = .ok (.lload 9, 2) := by decide +kernel
theorem dX12_chanceOfWins_149 : decode cX12_chanceOfWins 149 = .ok (.lsub, 1) := by decide +kernel
theorem dX12_chanceOfWins_150 : decode cX12_chanceOfWins 150 = .ok (.aload_n 0, 1) := by decide +kernel
theorem dX12_chanceOfWins_151 : decode cX12_chanceOfWins 151 = .ok (.iload_n 1, 1) := by decide +kernel
theorem dX12_chanceOfWins_152 : decode cX12_chanceOfWins 152 = .ok (.iload_n 2, 1) := by decide +kernel
theorem dX12_chanceOfWins_153 : decode cX12_chanceOfWins 153 = .ok (.iload_n 3, 1) := by decide +kernel
theorem dX12_chanceOfWins_154 : decode cX12_chanceOfWins 154 = .ok (.iload 4, 2) := by decide +kernel
theorem dX12_chanceOfWins_156 : decode cX12_chanceOfWins 156 = .ok (.iconst 1, 1) := by decide +kernel
theorem dX12_chanceOfWins_157 : decode cX12_chanceOfWins 157 = .ok (.invokevirtual 384, 3) := by decide +kernel
theorem dX12_chanceOfWins_160 : decode cX12_chanceOfWins 160 = .ok (.lmul, 1) := by decide +kernel
theorem dX12_chanceOfWins_161 : decode cX12_chanceOfWins 161 = .ok (.goto 4, 3) := by decide +kernel
theorem dX12_chanceOfWins_164 : decode cX12_chanceOfWins 164 = .ok (.lconst 0, 1) := by decide +kernel
theorem dX12_chanceOfWins_165 : decode cX12_chanceOfWins 165 = .ok (.ladd, 1) := by decide +kernel
theorem dX12_chanceOfWins_166 : decode cX12_chanceOfWins 166 = .ok (.lreturn, 1) := by decide +kernel
theorem dX12_chanceBehind_0 : decode cX12_chanceBehind 0 = .ok (.iconst 4, 1) := by decide +kernel
theorem dX12_chanceBehind_1 : decode cX12_chanceBehind 1 = .ok (.iload_n 2, 1) := by decide +kernel
theorem dX12_chanceBehind_2 : decode cX12_chanceBehind 2 = .ok (.aload_n 0, 1) := by decide +kernel
theorem dX12_chanceBehind_3 : decode cX12_chanceBehind 3 = .ok (.getfield 181, 3) := by decide +kernel
theorem dX12_chanceBehind_6 : decode cX12_chanceBehind 6 = .ok (.irem, 1) := by decide +kernel
theorem dX12_chanceBehind_7 : decode cX12_chanceBehind 7 = .ok (.imul, 1) := by decide +kernel
theorem dX12_chanceBehind_8 : decode cX12_chanceBehind 8 = .ok (.istore 6, 2) := by decide +kernel
theorem dX12_chanceBehind_10 : decode cX12_chanceBehind 10 = .ok (.aload_n 0, 1) := by decide +kernel
theorem dX12_chanceBehind_11 : decode cX12_chanceBehind 11 = .ok (.getfield 36, 3) := by decide +kernel
theorem dX12_chanceBehind_14 : decode cX12_chanceBehind 14 = .ok (.iload 6, 2) := by decide +kernel
theorem dX12_chanceBehind_16 : decode cX12_chanceBehind 16 = .ok (.iaload, 1) := by decide +kernel
theorem dX12_chanceBehind_17 : decode cX12_chanceBehind 17 = .ok (.istore 7, 2) := by decide +kernel
theorem dX12_chanceBehind_19 : decode cX12_chanceBehind 19 = .ok (.aload_n 0, 1) := by decide +kernel
theorem dX12_chanceBehind_20 : decode cX12_chanceBehind 20 = .ok (.getfield 36, 3) := by decide +kernel
theorem dX12_chanceBehind_23 : decode cX12_chanceBehind 23 = .ok (.iload 6, 2) := by decide +kernel
theorem dX12_chanceBehind_25 : decode cX12_chanceBehind 25 = .ok (.iconst 1, 1) := by decide +kernel
theorem dX12_chanceBehind_26 : decode cX12_chanceBehind 26 = .ok (.iadd, 1) := by decide +kernel
theorem dX12_chanceBehind_27 : decode cX12_chanceBehind 27 = .ok (.iaload, 1) := by decide +kernel
theorem dX12_chanceBehind_28 : decode cX12_chanceBehind 28 = .ok (.istore 8, 2) := by decide +kernel
theorem dX12_chanceBehind_30 : decode cX12_chanceBehind 30 = .ok (.aload_n 0, 1) := by decide +kernel
theorem dX12_chanceBehind_31 : decode cX12_chanceBehind 31 = .ok (.aload_n 0, 1) := by decide +kernel
theorem dX12_chanceBehind_32 : decode cX12_chanceBehind 32 = .ok (.getfield 92, 3) := by decide +kernel
theorem dX12_chanceBehind_35 : decode cX12_chanceBehind 35 = .ok (.bipush 57, 2) := by decide +kernel
theorem dX12_chanceBehind_37 : decode cX12_chanceBehind 37 = .ok (.iload_n 2, 1) := by decide +kernel
theorem dX12_chanceBehind_38 : decode cX12_chanceBehind 38 = .ok (.imul, 1) := by decide +kernel
theorem dX12_chanceBehind_39 : decode cX12_chanceBehind 39 = .ok (.invokevirtual 291, 3) := by decide +kernel
theorem dX12_chanceBehind_42 : decode cX12_chanceBehind 42 = .ok (.aload_n 0, 1) := by decide +kernel
theorem dX12_chanceBehind_43 : decode cX12_chanceBehind 43 = .ok (.iload 7, 2) := by decide +kernel
theorem dX12_chanceBehind_45 : decode cX12_chanceBehind 45 = .ok (.iload 8, 2) := by decide +kernel
theorem dX12_chanceBehind_47 : decode cX12_chanceBehind 47 = .ok (.aload_n 0, 1) := by decide +kernel
theorem dX12_chanceBehind_48 : decode cX12_chanceBehind 48 = .ok (.getfield 36, 3) := by decide +kernel
theorem dX12_chanceBehind_51 : decode cX12_chanceBehind 51 = .ok (.iload 6, 2) := by decide +kernel
theorem dX12_chanceBehind_53 : decode cX12_chanceBehind 53 = .ok (.iconst 2, 1) := by decide +kernel
theorem dX12_chanceBehind_54 : decode cX12_chanceBehind 54 = .ok (.iadd, 1) := by decide +kernel
theorem dX12_chanceBehind_55 : decode cX12_chanceBehind 55 = .ok (.iaload, 1) := by decide +kernel
theorem dX12_chanceBehind_56 : decode cX12_chanceBehind 56 = .ok (.iload 5, 2) := by decide +kernel
theorem dX12_chanceBehind_58 : decode cX12_chanceBehind 58 = .ok (.invokevirtual 287, 3) := by decide +kernel
theorem dX12_chanceBehind_61 : decode cX12_chanceBehind 61 = .ok (.iload 5, 2) := by decide +kernel
theorem dX12_chanceBehind_63 : decode cX12_chanceBehind 63 = .ok (.ifCond .ne 9, 3) := by decide +kernel
theorem dX12_chanceBehind_66 : decode cX12_chanceBehind 66 = .ok (.iload 7, 2) := by decide +kernel
theorem dX12_chanceBehind_68 : decode cX12_chanceBehind 68 = .ok (.iload_n 1, 1) := by decide +kernel
theorem dX12_chanceBehind_69 : decode cX12_chanceBehind 69 = .ok (.if_icmp .eq 15, 3) := by decide +kernel
theorem dX12_chanceBehind_72 : decode cX12_chanceBehind 72 = .ok (.iload 5, 2) := by decide +kernel
theorem dX12_chanceBehind_74 : decode cX12_chanceBehind 74 = .ok (.iconst 1, 1) := by decide +kernel
theorem dX12_chanceBehind_75 : decode cX12_chanceBehind 75 = .ok (.if_icmp .ne 13, 3) := by decide +kernel
theorem dX12_chanceBehind_78 : decode cX12_chanceBehind 78 = .ok (.iload 8, 2) := by decide +kernel
theorem dX12_chanceBehind_80 : decode cX12_chanceBehind 80 = .ok (.iload_n 1, 1) := by decide +kernel
theorem dX12_chanceBehind_81 : decode cX12_chanceBehind 81 = .ok (.if_icmp .ne 7, 3) := by decide +kernel
theorem dX12_chanceBehind_84 : decode cX12_chanceBehind 84 = .ok (.iconst 1, 1) := by decide +kernel
theorem dX12_chanceBehind_85 : decode cX12_chanceBehind 85 = .ok (.goto 4, 3) := by decide +kernel
theorem dX12_chanceBehind_88 : decode cX12_chanceBehind 88 = .ok (.iconst 0, 1) := by decide +kernel
theorem dX12_chanceBehind_89 : decode cX12_chanceBehind 89 = .ok (.istore 9, 2) := by decide +kernel
theorem dX12_chanceBehind_91 : decode cX12_chanceBehind 91 = .ok (.aload_n 0, 1) := by decide +kernel
theorem dX12_chanceBehind_92 : decode cX12_chanceBehind 92 = .ok (.iload_n 1, 1) := by decide +kernel
theorem dX12_chanceBehind_93 : decode cX12_chanceBehind 93 = .ok (.iload_n 2, 1) := by decide +kernel
theorem dX12_chanceBehind_94 : decode cX12_chanceBehind 94 = .ok (.iconst 1, 1) := by decide +kernel
theorem dX12_chanceBehind_95 : decode cX12_chanceBehind 95 = .ok (.iadd, 1) := by decide +kernel
theorem dX12_chanceBehind_96 : decode cX12_chanceBehind 96 = .ok (.iload_n 3, 1) := by decide +kernel
theorem dX12_chanceBehind_97 : decode cX12_chanceBehind 97 = .ok (.iload 4, 2) := by decide +kernel
theorem dX12_chanceBehind_99 : decode cX12_chanceBehind 99 = .ok (.iload 9, 2) := by decide +kernel
theorem dX12_chanceBehind_101 : decode cX12_chanceBehind 101 = .ok (.ifCond .eq 7, 3) := by decide +kernel
theorem dX12_chanceBehind_104 : decode cX12_chanceBehind 104 = .ok (.iconst 1, 1) := by decide +kernel
theorem dX12_chanceBehind_105 : decode cX12_chanceBehind 105 = .ok (.goto 4, 3) := by decide +kernel
theorem dX12_chanceBehind_108 : decode cX12_chanceBehind 108 = .ok (.iconst 0, 1) := by decide +kernel
theorem dX12_chanceBehind_109 : decode cX12_chanceBehind 109 = .ok (.isub, 1) := by decide +kernel
theorem dX12_chanceBehind_110 : decode cX12_chanceBehind 110 = .ok (.invokevirtual 388, 3) := by decide +kernel
theorem dX12_chanceBehind_113 : decode cX12_chanceBehind 113 = .ok (.lstore 10, 2) := by decide +kernel
theorem dX12_chanceBehind_115 : decode cX12_chanceBehind 115 = .ok (.aload_n 0, 1) := by decide +kernel
theorem dX12_chanceBehind_116 : decode cX12_chanceBehind 116 = .ok (.aload_n 0, 1) := by decide +kernel
theorem dX12_chanceBehind_117 : decode cX12_chanceBehind 117 = .ok (.getfield 92, 3) := by decide +kernel
theorem dX12_chanceBehind_120 : decode cX12_chanceBehind 120 = .ok (.bipush 57, 2) := by decide +kernel
theorem dX12_chanceBehind_122 : decode cX12_chanceBehind 122 = .ok (.iload_n 2, 1) := by decide +kernel
theorem dX12_chanceBehind_123 : decode cX12_chanceBehind 123 = .ok (.imul, 1) := by decide +kernel
theorem dX12_chanceBehind_124 : decode cX12_chanceBehind 124 = .ok (.invokevirtual 302, 3) := by decide +kernel
theorem dX12_chanceBehind_127 : decode cX12_chanceBehind 127 = .ok (.lload 10, 2) := by decide +kernel
theorem dX12_chanceBehind_129 : decode cX12_chanceBehind 129 = .ok (.lreturn, 1) := by decide +kernel
theorem dX12_wins_0 : decode cX12_wins 0 = .ok (.aload_n 0, 1) := by decide +kernel
theorem dX12_wins_1 : decode cX12_wins 1 = .ok (.iconst 0, 1) := by decide +kernel
theorem dX12_wins_2 : decode cX12_wins 2 = .ok (.putfield 110, 3) := by decide +kernel
theorem dX12_wins_5 : decode cX12_wins 5 = .ok (.aload_n 0, 1) := by decide +kernel
theorem dX12_wins_6 : decode cX12_wins 6 = .ok (.iload_n 1, 1) := by decide +kernel
theorem dX12_wins_7 : decode cX12_wins 7 = .ok (.invokevirtual 123, 3) := by decide +kernel
theorem dX12_wins_10 : decode cX12_wins 10 = .ok (.ifCond .eq 33, 3) := by decide +kernel
theorem dX12_wins_13 : decode cX12_wins 13 = .ok (.iload_n 2, 1) := by decide +kernel
theorem dX12_wins_14 : decode cX12_wins 14 = .ok (.i2l, 1) := by decide +kernel
theorem dX12_wins_15 : decode cX12_wins 15 = .ok (.lconst 1, 1) := by decide +kernel
theorem dX12_wins_16 : decode cX12_wins 16 = .ok (.ldc2_w 392, 3) := by decide +kernel
theorem dX12_wins_19 : decode cX12_wins 19 = .ok (.invokestatic 119, 3) := by decide +kernel
theorem dX12_wins_22 : decode cX12_wins 22 = .ok (.ifCond .eq 21, 3) := by decide +kernel
theorem dX12_wins_25 : decode cX12_wins 25 = .ok (.iload_n 3, 1) := by decide +kernel
theorem dX12_wins_26 : decode cX12_wins 26 = .ok (.i2l, 1) := by decide +kernel
theorem dX12_wins_27 : decode cX12_wins 27 = .ok (.lconst 0, 1) := by decide +kernel
theorem dX12_wins_28 : decode cX12_wins 28 = .ok (.iload_n 2, 1) := by decide +kernel
theorem dX12_wins_29 : decode cX12_wins 29 = .ok (.i2l, 1) := by decide +kernel
theorem dX12_wins_30 : decode cX12_wins 30 = .ok (.invokestatic 119, 3) := by decide +kernel
theorem dX12_wins_33 : decode cX12_wins 33 = .ok (.ifCond .eq 10, 3) := by decide +kernel
theorem dX12_wins_36 : decode cX12_wins 36 = .ok (.aload_n 0, 1) := by decide +kernel
theorem dX12_wins_37 : decode cX12_wins 37 = .ok (.getfield 184, 3) := by decide +kernel
theorem dX12_wins_40 : decode cX12_wins 40 = .ok (.ifCond .ne 5, 3) := by decide +kernel
theorem dX12_wins_43 : decode cX12_wins 43 = .ok (.iconst (-1), 1) := by decide +kernel
theorem dX12_wins_44 : decode cX12_wins 44 = .ok (.ireturn, 1) := by decide +kernel
theorem dX12_wins_45 : decode cX12_wins 45 = .ok (.aload_n 0, 1) := by decide +kernel
theorem dX12_wins_46 : decode cX12_wins 46 = .ok (.iload_n 1, 1) := by decide +kernel
theorem dX12_wins_47 : decode cX12_wins 47 = .ok (.iconst 0, 1) := by decide +kernel
theorem dX12_wins_48 : decode cX12_wins 48 = .ok (.iload_n 2, 1) := by decide +kernel
theorem dX12_wins_49 : decode cX12_wins 49 = .ok (.iload_n 3, 1) := by decide +kernel
theorem dX12_wins_50 : decode cX12_wins 50 = .ok (.invokevirtual 388, 3) := by decide +kernel
theorem dX12_wins_53 : decode cX12_wins 53 = .ok (.lstore 4, 2) := by decide +kernel
theorem dX12_wins_55 : decode cX12_wins 55 = .ok (.aload_n 0, 1) := by decide +kernel
theorem dX12_wins_56 : decode cX12_wins 56 = .ok (.iconst 0, 1) := by decide +kernel
theorem dX12_wins_57 : decode cX12_wins 57 = .ok (.putfield 113, 3) := by decide +kernel
theorem dX12_wins_60 : decode cX12_wins 60 = .ok (.aload_n 0, 1) := by decide +kernel
theorem dX12_wins_61 : decode cX12_wins 61 = .ok (.lload 4, 2) := by decide +kernel
theorem dX12_wins_63 : decode cX12_wins 63 = .ok (.iload_n 2, 1) := by decide +kernel
theorem dX12_wins_64 : decode cX12_wins 64 = .ok (.invokestatic 394, 3) := by decide +kernel
theorem dX12_wins_67 : decode cX12_wins 67 = .ok (.invokevirtual 380, 3) := by decide +kernel
theorem dX12_wins_70 : decode cX12_wins 70 = .ok (.iconst 0, 1) := by decide +kernel
theorem dX12_wins_71 : decode cX12_wins 71 = .ok (.ireturn, 1) := by decide +kernel
theorem dX12_hopeOf_0 : decode cX12_hopeOf 0 = .ok (.iload_n 1, 1) := by decide +kernel
theorem dX12_hopeOf_1 : decode cX12_hopeOf 1 = .ok (.iload_n 2, 1) := by decide +kernel
theorem dX12_hopeOf_2 : decode cX12_hopeOf 2 = .ok (.if_icmp .ne 35, 3) := by decide +kernel
theorem dX12_hopeOf_5 : decode cX12_hopeOf 5 = .ok (.aload_n 0, 1) := by decide +kernel
theorem dX12_hopeOf_6 : decode cX12_hopeOf 6 = .ok (.invokevirtual 305, 3) := by decide +kernel
theorem dX12_hopeOf_9 : decode cX12_hopeOf 9 = .ok (.istore_n 3, 1) := by decide +kernel
theorem dX12_hopeOf_10 : decode cX12_hopeOf 10 = .ok (.aload_n 0, 1) := by decide +kernel
theorem dX12_hopeOf_11 : decode cX12_hopeOf 11 = .ok (.aload_n 0, 1) := by decide +kernel
theorem dX12_hopeOf_12 : decode cX12_hopeOf 12 = .ok (.getfield 397, 3) := by decide +kernel
theorem dX12_hopeOf_15 : decode cX12_hopeOf 15 = .ok (.iload_n 3, 1) := by decide +kernel
theorem dX12_hopeOf_16 : decode cX12_hopeOf 16 = .ok (.invokestatic 238, 3) := by decide +kernel
theorem dX12_hopeOf_19 : decode cX12_hopeOf 19 = .ok (.putfield 397, 3) := by decide +kernel
theorem dX12_hopeOf_22 : decode cX12_hopeOf 22 = .ok (.aload_n 0, 1) := by decide +kernel
theorem dX12_hopeOf_23 : decode cX12_hopeOf 23 = .ok (.aload_n 0, 1) := by decide +kernel
theorem dX12_hopeOf_24 : decode cX12_hopeOf 24 = .ok (.getfield 400, 3) := by decide +kernel
theorem dX12_hopeOf_27 : decode cX12_hopeOf 27 = .ok (.iload_n 3, 1) := by decide +kernel
theorem dX12_hopeOf_28 : decode cX12_hopeOf 28 = .ok (.invokestatic 233, 3) := by decide +kernel
theorem dX12_hopeOf_31 : decode cX12_hopeOf 31 = .ok (.putfield 400, 3) := by decide +kernel
theorem dX12_hopeOf_34 : decode cX12_hopeOf 34 = .ok (.iload_n 3, 1) := by decide +kernel
theorem dX12_hopeOf_35 : decode cX12_hopeOf 35 = .ok (.i2l, 1) := by decide +kernel
theorem dX12_hopeOf_36 : decode cX12_hopeOf 36 = .ok (.lreturn, 1) := by decide +kernel
theorem dX12_hopeOf_37 : decode cX12_hopeOf 37 = .ok (.iconst 4, 1) := by decide +kernel
theorem dX12_hopeOf_38 : decode cX12_hopeOf 38 = .ok (.iload_n 1, 1) := by decide +kernel
theorem dX12_hopeOf_39 : decode cX12_hopeOf 39 = .ok (.aload_n 0, 1) := by decide +kernel
theorem dX12_hopeOf_40 : decode cX12_hopeOf 40 = .ok (.getfield 181, 3) := by decide +kernel
theorem dX12_hopeOf_43 : decode cX12_hopeOf 43 = .ok (.irem, 1) := by decide +kernel
theorem dX12_hopeOf_44 : decode cX12_hopeOf 44 = .ok (.imul, 1) := by decide +kernel
theorem dX12_hopeOf_45 : decode cX12_hopeOf 45 = .ok (.istore_n 3, 1) := by decide +kernel
theorem dX12_hopeOf_46 : decode cX12_hopeOf 46 = .ok (.aload_n 0, 1) := by decide +kernel
theorem dX12_hopeOf_47 : decode cX12_hopeOf 47 = .ok (.getfield 36, 3) := by decide +kernel
theorem dX12_hopeOf_50 : decode cX12_hopeOf 50 = .ok (.iload_n 3, 1) := by decide +kernel
theorem dX12_hopeOf_51 : decode cX12_hopeOf 51 = .ok (.iconst 2, 1) := by decide +kernel
theorem dX12_hopeOf_52 : decode cX12_hopeOf 52 = .ok (.iadd, 1) := by decide +kernel
theorem dX12_hopeOf_53 : decode cX12_hopeOf 53 = .ok (.iaload, 1) := by decide +kernel
theorem dX12_hopeOf_54 : decode cX12_hopeOf 54 = .ok (.istore 4, 2) := by decide +kernel
theorem dX12_hopeOf_56 : decode cX12_hopeOf 56 = .ok (.iload 4, 2) := by decide +kernel
theorem dX12_hopeOf_58 : decode cX12_hopeOf 58 = .ok (.ifCond .eq 34, 3) := by decide +kernel
theorem dX12_hopeOf_61 : decode cX12_hopeOf 61 = .ok (.ldc2_w 228, 3) := by decide +kernel
theorem dX12_hopeOf_64 : decode cX12_hopeOf 64 = .ok (.aload_n 0, 1) := by decide +kernel
theorem dX12_hopeOf_65 : decode cX12_hopeOf 65 = .ok (.iload_n 1, 1) := by decide +kernel
theorem dX12_hopeOf_66 : decode cX12_hopeOf 66 = .ok (.iload_n 2, 1) := by decide +kernel
theorem dX12_hopeOf_67 : decode cX12_hopeOf 67 = .ok (.aload_n 0, 1) := by decide +kernel
theorem dX12_hopeOf_68 : decode cX12_hopeOf 68 = .ok (.aload_n 0, 1) := by decide +kernel
theorem dX12_hopeOf_69 : decode cX12_hopeOf 69 = .ok (.getfield 36, 3) := by decide +kernel
theorem dX12_hopeOf_72 : decode cX12_hopeOf 72 = .ok (.iload_n 3, 1) := by decide +kernel
theorem dX12_hopeOf_73 : decode cX12_hopeOf 73 = .ok (.iaload, 1) := by decide +kernel
theorem dX12_hopeOf_74 : decode cX12_hopeOf 74 = .ok (.aload_n 0, 1) := by decide +kernel
theorem dX12_hopeOf_75 : decode cX12_hopeOf 75 = .ok (.getfield 36, 3) := by decide +kernel
theorem dX12_hopeOf_78 : decode cX12_hopeOf 78 = .ok (.iload_n 3, 1) := by decide +kernel
theorem dX12_hopeOf_79 : decode cX12_hopeOf 79 = .ok (.iconst 1, 1) := by decide +kernel
theorem dX12_hopeOf_80 : decode cX12_hopeOf 80 = .ok (.iadd, 1) := by decide +kernel
theorem dX12_hopeOf_81 : decode cX12_hopeOf 81 = .ok (.iaload, 1) := by decide +kernel
theorem dX12_hopeOf_82 : decode cX12_hopeOf 82 = .ok (.iload 4, 2) := by decide +kernel
theorem dX12_hopeOf_84 : decode cX12_hopeOf 84 = .ok (.invokevirtual 273, 3) := by decide +kernel
theorem dX12_hopeOf_87 : decode cX12_hopeOf 87 = .ok (.invokevirtual 403, 3) := by decide +kernel
theorem dX12_hopeOf_90 : decode cX12_hopeOf 90 = .ok (.lmul, 1) := by decide +kernel
theorem dX12_hopeOf_91 : decode cX12_hopeOf 91 = .ok (.lreturn, 1) := by decide +kernel
theorem dX12_hopeOf_92 : decode cX12_hopeOf 92 = .ok (.aload_n 0, 1) := by decide +kernel
theorem dX12_hopeOf_93 : decode cX12_hopeOf 93 = .ok (.aload_n 0, 1) := by decide +kernel
theorem dX12_hopeOf_94 : decode cX12_hopeOf 94 = .ok (.getfield 36, 3) := by decide +kernel
theorem dX12_hopeOf_97 : decode cX12_hopeOf 97 = .ok (.iload_n 3, 1) := by decide +kernel
theorem dX12_hopeOf_98 : decode cX12_hopeOf 98 = .ok (.iaload, 1) := by decide +kernel
theorem dX12_hopeOf_99 : decode cX12_hopeOf 99 = .ok (.aload_n 0, 1) := by decide +kernel
theorem dX12_hopeOf_100 : decode cX12_hopeOf 100 = .ok (.getfield 36, 3) := by decide +kernel
theorem dX12_hopeOf_103 : decode cX12_hopeOf 103 = .ok (.iload_n 3, 1) := by decide +kernel
theorem dX12_hopeOf_104 : decode cX12_hopeOf 104 = .ok (.iconst 1, 1) := by decide +kernel
theorem dX12_hopeOf_105 : decode cX12_hopeOf 105 = .ok (.iadd, 1) := by decide +kernel
theorem dX12_hopeOf_106 : decode cX12_hopeOf 106 = .ok (.iaload, 1) := by decide +kernel
theorem dX12_hopeOf_107 : decode cX12_hopeOf 107 = .ok (.invokevirtual 276, 3) := by decide +kernel
theorem dX12_hopeOf_110 : decode cX12_hopeOf 110 = .ok (.i2l, 1) := by decide +kernel
theorem dX12_hopeOf_111 : decode cX12_hopeOf 111 = .ok (.lstore 5, 2) := by decide +kernel
theorem dX12_hopeOf_113 : decode cX12_hopeOf 113 = .ok (.lload 5, 2) := by decide +kernel
theorem dX12_hopeOf_115 : decode cX12_hopeOf 115 = .ok (.lconst 0, 1) := by decide +kernel
theorem dX12_hopeOf_116 : decode cX12_hopeOf 116 = .ok (.lcmp, 1) := by decide +kernel
theorem dX12_hopeOf_117 : decode cX12_hopeOf 117 = .ok (.ifCond .le 16, 3) := by decide +kernel
theorem dX12_hopeOf_120 : decode cX12_hopeOf 120 = .ok (.lload 5, 2) := by decide +kernel
theorem dX12_hopeOf_122 : decode cX12_hopeOf 122 = .ok (.aload_n 0, 1) := by decide +kernel
theorem dX12_hopeOf_123 : decode cX12_hopeOf 123 = .ok (.iload_n 1, 1) := by decide +kernel
theorem dX12_hopeOf_124 : decode cX12_hopeOf 124 = .ok (.iload_n 2, 1) := by decide +kernel
theorem dX12_hopeOf_125 : decode cX12_hopeOf 125 = .ok (.iconst 0, 1) := by decide +kernel
theorem dX12_hopeOf_126 : decode cX12_hopeOf 126 = .ok (.invokevirtual 403, 3) := by decide +kernel
theorem dX12_hopeOf_129 : decode cX12_hopeOf 129 = .ok (.lmul, 1) := by decide +kernel
theorem dX12_hopeOf_130 : decode cX12_hopeOf 130 = .ok (.goto 4, 3) := by decide +kernel
theorem dX12_hopeOf_133 : decode cX12_hopeOf 133 = .ok (.lconst 0, 1) := by decide +kernel
theorem dX12_hopeOf_134 : decode cX12_hopeOf 134 = .ok (.lstore 7, 2) := by decide +kernel
theorem dX12_hopeOf_136 : decode cX12_hopeOf 136 = .ok (.lload 7, 2) := by decide +kernel
theorem dX12_hopeOf_138 : decode cX12_hopeOf 138 = .ok (.lload 5, 2) := by decide +kernel
theorem dX12_hopeOf_140 : decode cX12_hopeOf 140 = .ok (.ldc2_w 228, 3) := by decide +kernel
theorem dX12_hopeOf_143 : decode cX12_hopeOf 143 = .ok (.lcmp, 1) := by decide +kernel
theorem dX12_hopeOf_144 : decode cX12_hopeOf 144 = .ok (.ifCond .ge 20, 3) := by decide +kernel
theorem dX12_hopeOf_147 : decode cX12_hopeOf 147 = .ok (.ldc2_w 228, 3) := by decide +kernel
theorem dX12_hopeOf_150 : decode cX12_hopeOf 150 = .ok (.lload 5, 2) := by decide +kernel
theorem dX12_hopeOf_152 : decode cX12_hopeOf 152 = .ok (.lsub, 1) := by decide +kernel
theorem dX12_hopeOf_153 : decode cX12_hopeOf 153 = .ok (.aload_n 0, 1) := by decide +kernel
theorem dX12_hopeOf_154 : decode cX12_hopeOf 154 = .ok (.iload_n 1, 1) := by decide +kernel
theorem dX12_hopeOf_155 : decode cX12_hopeOf 155 = .ok (.iload_n 2, 1) := by decide +kernel
theorem dX12_hopeOf_156 : decode cX12_hopeOf 156 = .ok (.iconst 1, 1) := by decide +kernel
theorem dX12_hopeOf_157 : decode cX12_hopeOf 157 = .ok (.invokevirtual 403, 3) := by decide +kernel
theorem dX12_hopeOf_160 : decode cX12_hopeOf 160 = .ok (.lmul, 1) := by decide +kernel
theorem dX12_hopeOf_161 : decode cX12_hopeOf 161 = .ok (.goto 4, 3) := by decide +kernel
theorem dX12_hopeOf_164 : decode cX12_hopeOf 164 = .ok (.lconst 0, 1) := by decide +kernel
theorem dX12_hopeOf_165 : decode cX12_hopeOf 165 = .ok (.ladd, 1) := by decide +kernel
theorem dX12_hopeOf_166 : decode cX12_hopeOf 166 = .ok (.lreturn, 1) := by decide +kernel
theorem dX12_hopeBehind_0 : decode cX12_hopeBehind 0 = .ok (.iconst 4, 1) := by decide +kernel
theorem dX12_hopeBehind_1 : decode cX12_hopeBehind 1 = .ok (.iload_n 1, 1) := by decide +kernel
theorem dX12_hopeBehind_2 : decode cX12_hopeBehind 2 = .ok (.aload_n 0, 1) := by decide +kernel
theorem dX12_hopeBehind_3 : decode cX12_hopeBehind 3 = .ok (.getfield 181, 3) := by decide +kernel
theorem dX12_hopeBehind_6 : decode cX12_hopeBehind 6 = .ok (.irem, 1) := by decide +kernel
theorem dX12_hopeBehind_7 : decode cX12_hopeBehind 7 = .ok (.imul, 1) := by decide +kernel
theorem dX12_hopeBehind_8 : decode cX12_hopeBehind 8 = .ok (.istore 4, 2) := by decide +kernel
theorem dX12_hopeBehind_10 : decode cX12_hopeBehind 10 = .ok (.aload_n 0, 1) := by decide +kernel
theorem dX12_hopeBehind_11 : decode cX12_hopeBehind 11 = .ok (.aload_n 0, 1) := by decide +kernel
theorem dX12_hopeBehind_12 : decode cX12_hopeBehind 12 = .ok (.getfield 92, 3) := by decide +kernel
theorem dX12_hopeBehind_15 : decode cX12_hopeBehind 15 = .ok (.bipush 57, 2) := by decide +kernel
theorem dX12_hopeBehind_17 : decode cX12_hopeBehind 17 = .ok (.iload_n 1, 1) := by decide +kernel
theorem dX12_hopeBehind_18 : decode cX12_hopeBehind 18 = .ok (.imul, 1) := by decide +kernel
theorem dX12_hopeBehind_19 : decode cX12_hopeBehind 19 = .ok (.invokevirtual 291, 3) := by decide +kernel
theorem dX12_hopeBehind_22 : decode cX12_hopeBehind 22 = .ok (.aload_n 0, 1) := by decide +kernel
theorem dX12_hopeBehind_23 : decode cX12_hopeBehind 23 = .ok (.aload_n 0, 1) := by decide +kernel
theorem dX12_hopeBehind_24 : decode cX12_hopeBehind 24 = .ok (.getfield 36, 3) := by decide +kernel
theorem dX12_hopeBehind_27 : decode cX12_hopeBehind 27 = .ok (.iload 4, 2) := by decide +kernel
theorem dX12_hopeBehind_29 : decode cX12_hopeBehind 29 = .ok (.iaload, 1) := by decide +kernel
theorem dX12_hopeBehind_30 : decode cX12_hopeBehind 30 = .ok (.aload_n 0, 1) := by decide +kernel
theorem dX12_hopeBehind_31 : decode cX12_hopeBehind 31 = .ok (.getfield 36, 3) := by decide +kernel
theorem dX12_hopeBehind_34 : decode cX12_hopeBehind 34 = .ok (.iload 4, 2) := by decide +kernel
theorem dX12_hopeBehind_36 : decode cX12_hopeBehind 36 = .ok (.iconst 1, 1) := by decide +kernel
theorem dX12_hopeBehind_37 : decode cX12_hopeBehind 37 = .ok (.iadd, 1) := by decide +kernel
theorem dX12_hopeBehind_38 : decode cX12_hopeBehind 38 = .ok (.iaload, 1) := by decide +kernel
theorem dX12_hopeBehind_39 : decode cX12_hopeBehind 39 = .ok (.aload_n 0, 1) := by decide +kernel
theorem dX12_hopeBehind_40 : decode cX12_hopeBehind 40 = .ok (.getfield 36, 3) := by decide +kernel
theorem dX12_hopeBehind_43 : decode cX12_hopeBehind 43 = .ok (.iload 4, 2) := by decide +kernel
theorem dX12_hopeBehind_45 : decode cX12_hopeBehind 45 = .ok (.iconst 2, 1) := by decide +kernel
theorem dX12_hopeBehind_46 : decode cX12_hopeBehind 46 = .ok (.iadd, 1) := by decide +kernel
theorem dX12_hopeBehind_47 : decode cX12_hopeBehind 47 = .ok (.iaload, 1) := by decide +kernel
theorem dX12_hopeBehind_48 : decode cX12_hopeBehind 48 = .ok (.iload_n 3, 1) := by decide +kernel
theorem dX12_hopeBehind_49 : decode cX12_hopeBehind 49 = .ok (.invokevirtual 287, 3) := by decide +kernel
theorem dX12_hopeBehind_52 : decode cX12_hopeBehind 52 = .ok (.aload_n 0, 1) := by decide +kernel
theorem dX12_hopeBehind_53 : decode cX12_hopeBehind 53 = .ok (.iload_n 1, 1) := by decide +kernel
theorem dX12_hopeBehind_54 : decode cX12_hopeBehind 54 = .ok (.iconst 1, 1) := by decide +kernel
theorem dX12_hopeBehind_55 : decode cX12_hopeBehind 55 = .ok (.iadd, 1) := by decide +kernel
theorem dX12_hopeBehind_56 : decode cX12_hopeBehind 56 = .ok (.iload_n 2, 1) := by decide +kernel
theorem dX12_hopeBehind_57 : decode cX12_hopeBehind 57 = .ok (.invokevirtual 407, 3) := by decide +kernel
theorem dX12_hopeBehind_60 : decode cX12_hopeBehind 60 = .ok (.lstore 5, 2) := by decide +kernel
theorem dX12_hopeBehind_62 : decode cX12_hopeBehind 62 = .ok (.aload_n 0, 1) := by decide +kernel
theorem dX12_hopeBehind_63 : decode cX12_hopeBehind 63 = .ok (.aload_n 0, 1) := by decide +kernel
theorem dX12_hopeBehind_64 : decode cX12_hopeBehind 64 = .ok (.getfield 92, 3) := by decide +kernel
theorem dX12_hopeBehind_67 : decode cX12_hopeBehind 67 = .ok (.bipush 57, 2) := by decide +kernel
theorem dX12_hopeBehind_69 : decode cX12_hopeBehind 69 = .ok (.iload_n 1, 1) := by decide +kernel
theorem dX12_hopeBehind_70 : decode cX12_hopeBehind 70 = .ok (.imul, 1) := by decide +kernel
theorem dX12_hopeBehind_71 : decode cX12_hopeBehind 71 = .ok (.invokevirtual 302, 3) := by decide +kernel
theorem dX12_hopeBehind_74 : decode cX12_hopeBehind 74 = .ok (.lload 5, 2) := by decide +kernel
theorem dX12_hopeBehind_76 : decode cX12_hopeBehind 76 = .ok (.lreturn, 1) := by decide +kernel
theorem dX12_hopes_0 : decode cX12_hopes 0 = .ok (.aload_n 0, 1) := by decide +kernel
theorem dX12_hopes_1 : decode cX12_hopes 1 = .ok (.iconst 0, 1) := by decide +kernel
theorem dX12_hopes_2 : decode cX12_hopes 2 = .ok (.putfield 110, 3) := by decide +kernel
theorem dX12_hopes_5 : decode cX12_hopes 5 = .ok (.iload_n 1, 1) := by decide +kernel
theorem dX12_hopes_6 : decode cX12_hopes 6 = .ok (.i2l, 1) := by decide +kernel
theorem dX12_hopes_7 : decode cX12_hopes 7 = .ok (.lconst 1, 1) := by decide +kernel
theorem dX12_hopes_8 : decode cX12_hopes 8 = .ok (.ldc2_w 392, 3) := by decide +kernel
theorem dX12_hopes_11 : decode cX12_hopes 11 = .ok (.invokestatic 119, 3) := by decide +kernel
theorem dX12_hopes_14 : decode cX12_hopes 14 = .ok (.ifCond .eq 10, 3) := by decide +kernel
theorem dX12_hopes_17 : decode cX12_hopes 17 = .ok (.aload_n 0, 1) := by decide +kernel
theorem dX12_hopes_18 : decode cX12_hopes 18 = .ok (.getfield 184, 3) := by decide +kernel
theorem dX12_hopes_21 : decode cX12_hopes 21 = .ok (.ifCond .ne 5, 3) := by decide +kernel
theorem dX12_hopes_24 : decode cX12_hopes 24 = .ok (.iconst (-1), 1) := by decide +kernel
theorem dX12_hopes_25 : decode cX12_hopes 25 = .ok (.ireturn, 1) := by decide +kernel
theorem dX12_hopes_26 : decode cX12_hopes 26 = .ok (.aload_n 0, 1) := by decide +kernel
theorem dX12_hopes_27 : decode cX12_hopes 27 = .ok (.sipush 256, 3) := by decide +kernel
theorem dX12_hopes_30 : decode cX12_hopes 30 = .ok (.putfield 397, 3) := by decide +kernel
theorem dX12_hopes_33 : decode cX12_hopes 33 = .ok (.aload_n 0, 1) := by decide +kernel
theorem dX12_hopes_34 : decode cX12_hopes 34 = .ok (.iconst 0, 1) := by decide +kernel
theorem dX12_hopes_35 : decode cX12_hopes 35 = .ok (.putfield 400, 3) := by decide +kernel
theorem dX12_hopes_38 : decode cX12_hopes 38 = .ok (.aload_n 0, 1) := by decide +kernel
theorem dX12_hopes_39 : decode cX12_hopes 39 = .ok (.iconst 0, 1) := by decide +kernel
theorem dX12_hopes_40 : decode cX12_hopes 40 = .ok (.iload_n 1, 1) := by decide +kernel
theorem dX12_hopes_41 : decode cX12_hopes 41 = .ok (.invokevirtual 407, 3) := by decide +kernel
theorem dX12_hopes_44 : decode cX12_hopes 44 = .ok (.lstore_n 2, 1) := by decide +kernel
theorem dX12_hopes_45 : decode cX12_hopes 45 = .ok (.aload_n 0, 1) := by decide +kernel
theorem dX12_hopes_46 : decode cX12_hopes 46 = .ok (.iconst 0, 1) := by decide +kernel
theorem dX12_hopes_47 : decode cX12_hopes 47 = .ok (.putfield 113, 3) := by decide +kernel
theorem dX12_hopes_50 : decode cX12_hopes 50 = .ok (.aload_n 0, 1) := by decide +kernel
theorem dX12_hopes_51 : decode cX12_hopes 51 = .ok (.lload_n 2, 1) := by decide +kernel
theorem dX12_hopes_52 : decode cX12_hopes 52 = .ok (.iload_n 1, 1) := by decide +kernel
theorem dX12_hopes_53 : decode cX12_hopes 53 = .ok (.invokestatic 394, 3) := by decide +kernel
theorem dX12_hopes_56 : decode cX12_hopes 56 = .ok (.invokevirtual 380, 3) := by decide +kernel
theorem dX12_hopes_59 : decode cX12_hopes 59 = .ok (.aload_n 0, 1) := by decide +kernel
theorem dX12_hopes_60 : decode cX12_hopes 60 = .ok (.aload_n 0, 1) := by decide +kernel
theorem dX12_hopes_61 : decode cX12_hopes 61 = .ok (.getfield 397, 3) := by decide +kernel
theorem dX12_hopes_64 : decode cX12_hopes 64 = .ok (.i2l, 1) := by decide +kernel
theorem dX12_hopes_65 : decode cX12_hopes 65 = .ok (.invokevirtual 131, 3) := by decide +kernel
theorem dX12_hopes_68 : decode cX12_hopes 68 = .ok (.aload_n 0, 1) := by decide +kernel
theorem dX12_hopes_69 : decode cX12_hopes 69 = .ok (.aload_n 0, 1) := by decide +kernel
theorem dX12_hopes_70 : decode cX12_hopes 70 = .ok (.getfield 400, 3) := by decide +kernel
theorem dX12_hopes_73 : decode cX12_hopes 73 = .ok (.i2l, 1) := by decide +kernel
theorem dX12_hopes_74 : decode cX12_hopes 74 = .ok (.invokevirtual 131, 3) := by decide +kernel
theorem dX12_hopes_77 : decode cX12_hopes 77 = .ok (.iconst 0, 1) := by decide +kernel
theorem dX12_hopes_78 : decode cX12_hopes 78 = .ok (.ireturn, 1) := by decide +kernel
theorem dX12_findStates_0 : decode cX12_findStates 0 = .ok (.aload_n 0, 1) := by decide +kernel
theorem dX12_findStates_1 : decode cX12_findStates 1 = .ok (.invokevirtual 356, 3) := by decide +kernel
theorem dX12_findStates_4 : decode cX12_findStates 4 = .ok (.aload_n 0, 1) := by decide +kernel
theorem dX12_findStates_5 : decode cX12_findStates 5 = .ok (.iconst (-1), 1) := by decide +kernel
theorem dX12_findStates_6 : decode cX12_findStates 6 = .ok (.iconst 0, 1) := by decide +kernel
theorem dX12_findStates_7 : decode cX12_findStates 7 = .ok (.sipush 3000, 3) := by decide +kernel
theorem dX12_findStates_10 : decode cX12_findStates 10 = .ok (.invokevirtual 359, 3) := by decide +kernel
theorem dX12_findStates_13 : decode cX12_findStates 13 = .ok (.pop, 1) := by decide +kernel
theorem dX12_findStates_14 : decode cX12_findStates 14 = .ok (.iconst 1, 1) := by decide +kernel
theorem dX12_findStates_15 : decode cX12_findStates 15 = .ok (.istore_n 2, 1) := by decide +kernel
theorem dX12_findStates_16 : decode cX12_findStates 16 = .ok (.iconst 0, 1) := by decide +kernel
theorem dX12_findStates_17 : decode cX12_findStates 17 = .ok (.istore_n 3, 1) := by decide +kernel
theorem dX12_findStates_18 : decode cX12_findStates 18 = .ok (.iload_n 3, 1) := by decide +kernel
theorem dX12_findStates_19 : decode cX12_findStates 19 = .ok (.aload_n 0, 1) := by decide +kernel
theorem dX12_findStates_20 : decode cX12_findStates 20 = .ok (.getfield 341, 3) := by decide +kernel
theorem dX12_findStates_23 : decode cX12_findStates 23 = .ok (.if_icmp .ge 131, 3) := by decide +kernel
theorem dX12_findStates_26 : decode cX12_findStates 26 = .ok (.iload_n 2, 1) := by decide +kernel
theorem dX12_findStates_27 : decode cX12_findStates 27 = .ok (.ifCond .eq 127, 3) := by decide +kernel
theorem dX12_findStates_30 : decode cX12_findStates 30 = .ok (.aload_n 0, 1) := by decide +kernel
theorem dX12_findStates_31 : decode cX12_findStates 31 = .ok (.getfield 80, 3) := by decide +kernel
theorem dX12_findStates_34 : decode cX12_findStates 34 = .ok (.iload_n 3, 1) := by decide +kernel
theorem dX12_findStates_35 : decode cX12_findStates 35 = .ok (.iaload, 1) := by decide +kernel
theorem dX12_findStates_36 : decode cX12_findStates 36 = .ok (.iload_n 1, 1) := by decide +kernel
theorem dX12_findStates_37 : decode cX12_findStates 37 = .ok (.if_icmp .ne 6, 3) := by decide +kernel
theorem dX12_findStates_40 : decode cX12_findStates 40 = .ok (.goto 108, 3) := by decide +kernel
theorem dX12_findStates_43 : decode cX12_findStates 43 = .ok (.iconst 0, 1) := by decide +kernel
theorem dX12_findStates_44 : decode cX12_findStates 44 = .ok (.istore 4, 2) := by decide +kernel
theorem dX12_findStates_46 : decode cX12_findStates 46 = .ok (.iload 4, 2) := by decide +kernel
theorem dX12_findStates_48 : decode cX12_findStates 48 = .ok (.iconst 3, 1) := by decide +kernel
theorem dX12_findStates_49 : decode cX12_findStates 49 = .ok (.if_icmp .ge 99, 3) := by decide +kernel
theorem dX12_findStates_52 : decode cX12_findStates 52 = .ok (.iconst 0, 1) := by decide +kernel
theorem dX12_findStates_53 : decode cX12_findStates 53 = .ok (.istore 5, 2) := by decide +kernel
theorem dX12_findStates_55 : decode cX12_findStates 55 = .ok (.iload 5, 2) := by decide +kernel
theorem dX12_findStates_57 : decode cX12_findStates 57 = .ok (.aload_n 0, 1) := by decide +kernel
theorem dX12_findStates_58 : decode cX12_findStates 58 = .ok (.getfield 116, 3) := by decide +kernel
theorem dX12_findStates_61 : decode cX12_findStates 61 = .ok (.if_icmp .ge 81, 3) := by decide +kernel
theorem dX12_findStates_64 : decode cX12_findStates 64 = .ok (.iload 5, 2) := by decide +kernel
theorem dX12_findStates_66 : decode cX12_findStates 66 = .ok (.iconst 1, 1) := by decide +kernel
theorem dX12_findStates_67 : decode cX12_findStates 67 = .ok (.iadd, 1) := by decide +kernel
theorem dX12_findStates_68 : decode cX12_findStates 68 = .ok (.istore 6, 2) := by decide +kernel
theorem dX12_findStates_70 : decode cX12_findStates 70 = .ok (.iload 6, 2) := by decide +kernel
theorem dX12_findStates_72 : decode cX12_findStates 72 = .ok (.aload_n 0, 1) := by decide +kernel
theorem dX12_findStates_73 : decode cX12_findStates 73 = .ok (.getfield 116, 3) := by decide +kernel
theorem dX12_findStates_76 : decode cX12_findStates 76 = .ok (.if_icmp .ge 60, 3) := by decide +kernel
theorem dX12_findStates_79 : decode cX12_findStates 79 = .ok (.iload_n 2, 1) := by decide +kernel
theorem dX12_findStates_80 : decode cX12_findStates 80 = .ok (.ifCond .eq 56, 3) := by decide +kernel
theorem dX12_findStates_83 : decode cX12_findStates 83 = .ok (.aload_n 0, 1) := by decide +kernel
theorem dX12_findStates_84 : decode cX12_findStates 84 = .ok (.iload_n 3, 1) := by decide +kernel
theorem dX12_findStates_85 : decode cX12_findStates 85 = .ok (.invokevirtual 374, 3) := by decide +kernel
theorem dX12_findStates_88 : decode cX12_findStates 88 = .ok (.aload_n 0, 1) := by decide +kernel
theorem dX12_findStates_89 : decode cX12_findStates 89 = .ok (.iload 5, 2) := by decide +kernel
theorem dX12_findStates_91 : decode cX12_findStates 91 = .ok (.iload 6, 2) := by decide +kernel
theorem dX12_findStates_93 : decode cX12_findStates 93 = .ok (.iload 4, 2) := by decide +kernel
theorem dX12_findStates_95 : decode cX12_findStates 95 = .ok (.invokevirtual 352, 3) := by decide +kernel
theorem dX12_findStates_98 : decode cX12_findStates 98 = .ok (.aload_n 0, 1) := by decide +kernel
theorem dX12_findStates_99 : decode cX12_findStates 99 = .ok (.iload_n 3, 1) := by decide +kernel
theorem dX12_findStates_100 : decode cX12_findStates 100 = .ok (.bipush 100, 2) := by decide +kernel
theorem dX12_findStates_102 : decode cX12_findStates 102 = .ok (.iload 4, 2) := by decide +kernel
theorem dX12_findStates_104 : decode cX12_findStates 104 = .ok (.imul, 1) := by decide +kernel
theorem dX12_findStates_105 : decode cX12_findStates 105 = .ok (.bipush 10, 2) := by decide +kernel
theorem dX12_findStates_107 : decode cX12_findStates 107 = .ok (.iload 5, 2) := by decide +kernel
theorem dX12_findStates_109 : decode cX12_findStates 109 = .ok (.imul, 1) := by decide +kernel
theorem dX12_findStates_110 : decode cX12_findStates 110 = .ok (.iadd, 1) := by decide +kernel
theorem dX12_findStates_111 : decode cX12_findStates 111 = .ok (.iload 6, 2) := by decide +kernel
theorem dX12_findStates_113 : decode cX12_findStates 113 = .ok (.iadd, 1) := by decide +kernel
theorem dX12_findStates_114 : decode cX12_findStates 114 = .ok (.sipush 3000, 3) := by decide +kernel
theorem dX12_findStates_117 : decode cX12_findStates 117 = .ok (.invokevirtual 359, 3) := by decide +kernel
theorem dX12_findStates_120 : decode cX12_findStates 120 = .ok (.iconst (-1), 1) := by decide +kernel
theorem dX12_findStates_121 : decode cX12_findStates 121 = .ok (.if_icmp .eq 7, 3) := by decide +kernel
theorem dX12_findStates_124 : decode cX12_findStates 124 = .ok (.iconst 1, 1) := by decide +kernel
theorem dX12_findStates_125 : decode cX12_findStates 125 = .ok (.goto 4, 3) := by decide +kernel
theorem dX12_findStates_128 : decode cX12_findStates 128 = .ok (.iconst 0, 1) := by decide +kernel
theorem dX12_findStates_129 : decode cX12_findStates 129 = .ok (.istore_n 2, 1) := by decide +kernel
theorem dX12_findStates_130 : decode cX12_findStates 130 = .ok (.iinc 6 1, 3) := by decide +kernel
theorem dX12_findStates_133 : decode cX12_findStates 133 = .ok (.goto (-63), 3) := by decide +kernel
theorem dX12_findStates_136 : decode cX12_findStates 136 = .ok (.iinc 5 1, 3) := by decide +kernel
theorem dX12_findStates_139 : decode cX12_findStates 139 = .ok (.goto (-84), 3) := by decide +kernel
theorem dX12_findStates_142 : decode cX12_findStates 142 = .ok (.iinc 4 1, 3) := by decide +kernel
theorem dX12_findStates_145 : decode cX12_findStates 145 = .ok (.goto (-99), 3) := by decide +kernel
theorem dX12_findStates_148 : decode cX12_findStates 148 = .ok (.iinc 3 1, 3) := by decide +kernel
theorem dX12_findStates_151 : decode cX12_findStates 151 = .ok (.goto (-133), 3) := by decide +kernel
theorem dX12_findStates_154 : decode cX12_findStates 154 = .ok (.aload_n 0, 1) := by decide +kernel
theorem dX12_findStates_155 : decode cX12_findStates 155 = .ok (.aload_n 0, 1) := by decide +kernel
theorem dX12_findStates_156 : decode cX12_findStates 156 = .ok (.getfield 71, 3) := by decide +kernel
theorem dX12_findStates_159 : decode cX12_findStates 159 = .ok (.iconst 0, 1) := by decide +kernel
theorem dX12_findStates_160 : decode cX12_findStates 160 = .ok (.invokevirtual 302, 3) := by decide +kernel
theorem dX12_findStates_163 : decode cX12_findStates 163 = .ok (.iload_n 2, 1) := by decide +kernel
theorem dX12_findStates_164 : decode cX12_findStates 164 = .ok (.ireturn, 1) := by decide +kernel
theorem dX12_tellWay_0 : decode cX12_tellWay 0 = .ok (.aload_n 0, 1) := by decide +kernel
theorem dX12_tellWay_1 : decode cX12_tellWay 1 = .ok (.getfield 80, 3) := by decide +kernel
theorem dX12_tellWay_4 : decode cX12_tellWay 4 = .ok (.iload_n 1, 1) := by decide +kernel
theorem dX12_tellWay_5 : decode cX12_tellWay 5 = .ok (.iaload, 1) := by decide +kernel
theorem dX12_tellWay_6 : decode cX12_tellWay 6 = .ok (.istore_n 2, 1) := by decide +kernel
theorem dX12_tellWay_7 : decode cX12_tellWay 7 = .ok (.iload_n 1, 1) := by decide +kernel
theorem dX12_tellWay_8 : decode cX12_tellWay 8 = .ok (.istore_n 3, 1) := by decide +kernel
theorem dX12_tellWay_9 : decode cX12_tellWay 9 = .ok (.iload_n 2, 1) := by decide +kernel
theorem dX12_tellWay_10 : decode cX12_tellWay 10 = .ok (.iconst 1, 1) := by decide +kernel
theorem dX12_tellWay_11 : decode cX12_tellWay 11 = .ok (.isub, 1) := by decide +kernel
theorem dX12_tellWay_12 : decode cX12_tellWay 12 = .ok (.istore 4, 2) := by decide +kernel
theorem dX12_tellWay_14 : decode cX12_tellWay 14 = .ok (.iload 4, 2) := by decide +kernel
theorem dX12_tellWay_16 : decode cX12_tellWay 16 = .ok (.ifCond .lt 29, 3) := by decide +kernel
theorem dX12_tellWay_19 : decode cX12_tellWay 19 = .ok (.aload_n 0, 1) := by decide +kernel
theorem dX12_tellWay_20 : decode cX12_tellWay 20 = .ok (.getfield 95, 3) := by decide +kernel
theorem dX12_tellWay_23 : decode cX12_tellWay 23 = .ok (.iload 4, 2) := by decide +kernel
theorem dX12_tellWay_25 : decode cX12_tellWay 25 = .ok (.aload_n 0, 1) := by decide +kernel
theorem dX12_tellWay_26 : decode cX12_tellWay 26 = .ok (.getfield 86, 3) := by decide +kernel
theorem dX12_tellWay_29 : decode cX12_tellWay 29 = .ok (.iload_n 3, 1) := by decide +kernel
theorem dX12_tellWay_30 : decode cX12_tellWay 30 = .ok (.iaload, 1) := by decide +kernel
theorem dX12_tellWay_31 : decode cX12_tellWay 31 = .ok (.iastore, 1) := by decide +kernel
theorem dX12_tellWay_32 : decode cX12_tellWay 32 = .ok (.aload_n 0, 1) := by decide +kernel
theorem dX12_tellWay_33 : decode cX12_tellWay 33 = .ok (.getfield 83, 3) := by decide +kernel
theorem dX12_tellWay_36 : decode cX12_tellWay 36 = .ok (.iload_n 3, 1) := by decide +kernel
theorem dX12_tellWay_37 : decode cX12_tellWay 37 = .ok (.iaload, 1) := by decide +kernel
theorem dX12_tellWay_38 : decode cX12_tellWay 38 = .ok (.istore_n 3, 1) := by decide +kernel
theorem dX12_tellWay_39 : decode cX12_tellWay 39 = .ok (.iinc 4 (-1), 3) := by decide +kernel
theorem dX12_tellWay_42 : decode cX12_tellWay 42 = .ok (.goto (-28), 3) := by decide +kernel
theorem dX12_tellWay_45 : decode cX12_tellWay 45 = .ok (.aload_n 0, 1) := by decide +kernel
theorem dX12_tellWay_46 : decode cX12_tellWay 46 = .ok (.iconst 0, 1) := by decide +kernel
theorem dX12_tellWay_47 : decode cX12_tellWay 47 = .ok (.putfield 113, 3) := by decide +kernel
theorem dX12_tellWay_50 : decode cX12_tellWay 50 = .ok (.iconst 0, 1) := by decide +kernel
theorem dX12_tellWay_51 : decode cX12_tellWay 51 = .ok (.istore 4, 2) := by decide +kernel
theorem dX12_tellWay_53 : decode cX12_tellWay 53 = .ok (.iload 4, 2) := by decide +kernel
theorem dX12_tellWay_55 : decode cX12_tellWay 55 = .ok (.iload_n 2, 1) := by decide +kernel
theorem dX12_tellWay_56 : decode cX12_tellWay 56 = .ok (.if_icmp .ge 28, 3) := by decide +kernel
theorem dX12_tellWay_59 : decode cX12_tellWay 59 = .ok (.iload 4, 2) := by decide +kernel
theorem dX12_tellWay_61 : decode cX12_tellWay 61 = .ok (.bipush 10, 2) := by decide +kernel
theorem dX12_tellWay_63 : decode cX12_tellWay 63 = .ok (.if_icmp .ge 21, 3) := by decide +kernel
theorem dX12_tellWay_66 : decode cX12_tellWay 66 = .ok (.aload_n 0, 1) := by decide +kernel
theorem dX12_tellWay_67 : decode cX12_tellWay 67 = .ok (.aload_n 0, 1) := by decide +kernel
theorem dX12_tellWay_68 : decode cX12_tellWay 68 = .ok (.getfield 95, 3) := by decide +kernel
theorem dX12_tellWay_71 : decode cX12_tellWay 71 = .ok (.iload 4, 2) := by decide +kernel
theorem dX12_tellWay_73 : decode cX12_tellWay 73 = .ok (.iaload, 1) := by decide +kernel
theorem dX12_tellWay_74 : decode cX12_tellWay 74 = .ok (.i2l, 1) := by decide +kernel
theorem dX12_tellWay_75 : decode cX12_tellWay 75 = .ok (.invokevirtual 131, 3) := by decide +kernel
theorem dX12_tellWay_78 : decode cX12_tellWay 78 = .ok (.iinc 4 1, 3) := by decide +kernel
theorem dX12_tellWay_81 : decode cX12_tellWay 81 = .ok (.goto (-28), 3) := by decide +kernel
theorem dX12_tellWay_84 : decode cX12_tellWay 84 = .ok (.iload_n 2, 1) := by decide +kernel
theorem dX12_tellWay_85 : decode cX12_tellWay 85 = .ok (.ireturn, 1) := by decide +kernel
theorem dX12_top_0 : decode cX12_top 0 = .ok (.aload_n 0, 1) := by decide +kernel
theorem dX12_top_1 : decode cX12_top 1 = .ok (.iconst 0, 1) := by decide +kernel
theorem dX12_top_2 : decode cX12_top 2 = .ok (.putfield 110, 3) := by decide +kernel
theorem dX12_top_5 : decode cX12_top 5 = .ok (.aload_n 0, 1) := by decide +kernel
theorem dX12_top_6 : decode cX12_top 6 = .ok (.iload_n 1, 1) := by decide +kernel
theorem dX12_top_7 : decode cX12_top 7 = .ok (.invokevirtual 123, 3) := by decide +kernel
theorem dX12_top_10 : decode cX12_top 10 = .ok (.ifCond .eq 23, 3) := by decide +kernel
theorem dX12_top_13 : decode cX12_top 13 = .ok (.aload_n 0, 1) := by decide +kernel
theorem dX12_top_14 : decode cX12_top 14 = .ok (.iload_n 2, 1) := by decide +kernel
theorem dX12_top_15 : decode cX12_top 15 = .ok (.invokevirtual 244, 3) := by decide +kernel
theorem dX12_top_18 : decode cX12_top 18 = .ok (.ifCond .eq 15, 3) := by decide +kernel
theorem dX12_top_21 : decode cX12_top 21 = .ok (.iload_n 3, 1) := by decide +kernel
theorem dX12_top_22 : decode cX12_top 22 = .ok (.i2l, 1) := by decide +kernel
theorem dX12_top_23 : decode cX12_top 23 = .ok (.lconst 0, 1) := by decide +kernel
theorem dX12_top_24 : decode cX12_top 24 = .ok (.ldc2_w 335, 3) := by decide +kernel
theorem dX12_top_27 : decode cX12_top 27 = .ok (.invokestatic 119, 3) := by decide +kernel
theorem dX12_top_30 : decode cX12_top 30 = .ok (.ifCond .ne 5, 3) := by decide +kernel
theorem dX12_top_33 : decode cX12_top 33 = .ok (.iconst (-1), 1) := by decide +kernel
theorem dX12_top_34 : decode cX12_top 34 = .ok (.ireturn, 1) := by decide +kernel
theorem dX12_top_35 : decode cX12_top 35 = .ok (.aload_n 0, 1) := by decide +kernel
theorem dX12_top_36 : decode cX12_top 36 = .ok (.sipush 3000, 3) := by decide +kernel
theorem dX12_top_39 : decode cX12_top 39 = .ok (.invokevirtual 411, 3) := by decide +kernel
theorem dX12_top_42 : decode cX12_top 42 = .ok (.ifCond .ne 6, 3) := by decide +kernel
theorem dX12_top_45 : decode cX12_top 45 = .ok (.bipush (-3), 2) := by decide +kernel
theorem dX12_top_47 : decode cX12_top 47 = .ok (.ireturn, 1) := by decide +kernel
theorem dX12_top_48 : decode cX12_top 48 = .ok (.iconst 0, 1) := by decide +kernel
theorem dX12_top_49 : decode cX12_top 49 = .ok (.istore 4, 2) := by decide +kernel
theorem dX12_top_51 : decode cX12_top 51 = .ok (.iload 4, 2) := by decide +kernel
theorem dX12_top_53 : decode cX12_top 53 = .ok (.aload_n 0, 1) := by decide +kernel
theorem dX12_top_54 : decode cX12_top 54 = .ok (.getfield 341, 3) := by decide +kernel
theorem dX12_top_57 : decode cX12_top 57 = .ok (.if_icmp .ge 28, 3) := by decide +kernel
theorem dX12_top_60 : decode cX12_top 60 = .ok (.aload_n 0, 1) := by decide +kernel
theorem dX12_top_61 : decode cX12_top 61 = .ok (.iload 4, 2) := by decide +kernel
theorem dX12_top_63 : decode cX12_top 63 = .ok (.iload_n 1, 1) := by decide +kernel
theorem dX12_top_64 : decode cX12_top 64 = .ok (.iload_n 2, 1) := by decide +kernel
theorem dX12_top_65 : decode cX12_top 65 = .ok (.invokevirtual 377, 3) := by decide +kernel
theorem dX12_top_68 : decode cX12_top 68 = .ok (.iload_n 3, 1) := by decide +kernel
theorem dX12_top_69 : decode cX12_top 69 = .ok (.if_icmp .lt 10, 3) := by decide +kernel
theorem dX12_top_72 : decode cX12_top 72 = .ok (.aload_n 0, 1) := by decide +kernel
theorem dX12_top_73 : decode cX12_top 73 = .ok (.iload 4, 2) := by decide +kernel
theorem dX12_top_75 : decode cX12_top 75 = .ok (.invokevirtual 414, 3) := by decide +kernel
theorem dX12_top_78 : decode cX12_top 78 = .ok (.ireturn, 1) := by decide +kernel
theorem dX12_top_79 : decode cX12_top 79 = .ok (.iinc 4 1, 3) := by decide +kernel
theorem dX12_top_82 : decode cX12_top 82 = .ok (.goto (-31), 3) := by decide +kernel
theorem dX12_top_85 : decode cX12_top 85 = .ok (.bipush (-2), 2) := by decide +kernel
theorem dX12_top_87 : decode cX12_top 87 = .ok (.ireturn, 1) := by decide +kernel
theorem dX12_quick_0 : decode cX12_quick 0 = .ok (.aload_n 0, 1) := by decide +kernel
theorem dX12_quick_1 : decode cX12_quick 1 = .ok (.iconst 0, 1) := by decide +kernel
theorem dX12_quick_2 : decode cX12_quick 2 = .ok (.putfield 110, 3) := by decide +kernel
theorem dX12_quick_5 : decode cX12_quick 5 = .ok (.aload_n 0, 1) := by decide +kernel
theorem dX12_quick_6 : decode cX12_quick 6 = .ok (.sipush 3000, 3) := by decide +kernel
theorem dX12_quick_9 : decode cX12_quick 9 = .ok (.invokevirtual 411, 3) := by decide +kernel
theorem dX12_quick_12 : decode cX12_quick 12 = .ok (.ifCond .ne 6, 3) := by decide +kernel
theorem dX12_quick_15 : decode cX12_quick 15 = .ok (.bipush (-3), 2) := by decide +kernel
theorem dX12_quick_17 : decode cX12_quick 17 = .ok (.ireturn, 1) := by decide +kernel
theorem dX12_quick_18 : decode cX12_quick 18 = .ok (.iconst (-1), 1) := by decide +kernel
theorem dX12_quick_19 : decode cX12_quick 19 = .ok (.istore_n 2, 1) := by decide +kernel
theorem dX12_quick_20 : decode cX12_quick 20 = .ok (.iconst 0, 1) := by decide +kernel
theorem dX12_quick_21 : decode cX12_quick 21 = .ok (.istore_n 3, 1) := by decide +kernel
theorem dX12_quick_22 : decode cX12_quick 22 = .ok (.iload_n 3, 1) := by decide +kernel
theorem dX12_quick_23 : decode cX12_quick 23 = .ok (.aload_n 0, 1) := by decide +kernel
theorem dX12_quick_24 : decode cX12_quick 24 = .ok (.getfield 341, 3) := by decide +kernel
theorem dX12_quick_27 : decode cX12_quick 27 = .ok (.if_icmp .ge 73, 3) := by decide +kernel
theorem dX12_quick_30 : decode cX12_quick 30 = .ok (.iload_n 2, 1) := by decide +kernel
theorem dX12_quick_31 : decode cX12_quick 31 = .ok (.iconst (-1), 1) := by decide +kernel
theorem dX12_quick_32 : decode cX12_quick 32 = .ok (.if_icmp .ne 68, 3) := by decide +kernel
theorem dX12_quick_35 : decode cX12_quick 35 = .ok (.aload_n 0, 1) := by decide +kernel
theorem dX12_quick_36 : decode cX12_quick 36 = .ok (.iload_n 3, 1) := by decide +kernel
theorem dX12_quick_37 : decode cX12_quick 37 = .ok (.invokevirtual 374, 3) := by decide +kernel
theorem dX12_quick_40 : decode cX12_quick 40 = .ok (.iconst 1, 1) := by decide +kernel
theorem dX12_quick_41 : decode cX12_quick 41 = .ok (.istore 4, 2) := by decide +kernel
theorem dX12_quick_43 : decode cX12_quick 43 = .ok (.iconst 0, 1) := by decide +kernel
theorem dX12_quick_44 : decode cX12_quick 44 = .ok (.istore 5, 2) := by decide +kernel
theorem dX12_quick_46 : decode cX12_quick 46 = .ok (.iload 5, 2) := by decide +kernel
theorem dX12_quick_48 : decode cX12_quick 48 = .ok (.aload_n 0, 1) := by decide +kernel
theorem dX12_quick_49 : decode cX12_quick 49 = .ok (.getfield 116, 3) := by decide +kernel
theorem dX12_quick_52 : decode cX12_quick 52 = .ok (.if_icmp .ge 31, 3) := by decide +kernel
theorem dX12_quick_55 : decode cX12_quick 55 = .ok (.iload 4, 2) := by decide +kernel
theorem dX12_quick_57 : decode cX12_quick 57 = .ok (.ifCond .eq 26, 3) := by decide +kernel
theorem dX12_quick_60 : decode cX12_quick 60 = .ok (.aload_n 0, 1) := by decide +kernel
theorem dX12_quick_61 : decode cX12_quick 61 = .ok (.iload 5, 2) := by decide +kernel
theorem dX12_quick_63 : decode cX12_quick 63 = .ok (.invokevirtual 255, 3) := by decide +kernel
theorem dX12_quick_66 : decode cX12_quick 66 = .ok (.iload_n 1, 1) := by decide +kernel
theorem dX12_quick_67 : decode cX12_quick 67 = .ok (.if_icmp .lt 7, 3) := by decide +kernel
theorem dX12_quick_70 : decode cX12_quick 70 = .ok (.iconst 1, 1) := by decide +kernel
theorem dX12_quick_71 : decode cX12_quick 71 = .ok (.goto 4, 3) := by decide +kernel
theorem dX12_quick_74 : decode cX12_quick 74 = .ok (.iconst 0, 1) := by decide +kernel
theorem dX12_quick_75 : decode cX12_quick 75 = .ok (.istore 4, 2) := by decide +kernel
theorem dX12_quick_77 : decode cX12_quick 77 = .ok (.iinc 5 1, 3) := by decide +kernel
theorem dX12_quick_80 : decode cX12_quick 80 = .ok (.goto (-34), 3) := by decide +kernel
theorem dX12_quick_83 : decode cX12_quick 83 = .ok (.iload 4, 2) := by decide +kernel
theorem dX12_quick_85 : decode cX12_quick 85 = .ok (.ifCond .eq 7, 3) := by decide +kernel
theorem dX12_quick_88 : decode cX12_quick 88 = .ok (.iload_n 3, 1) := by decide +kernel
theorem dX12_quick_89 : decode cX12_quick 89 = .ok (.goto 4, 3) := by decide +kernel
theorem dX12_quick_92 : decode cX12_quick 92 = .ok (.iconst (-1), 1) := by decide +kernel
theorem dX12_quick_93 : decode cX12_quick 93 = .ok (.istore_n 2, 1) := by decide +kernel
theorem dX12_quick_94 : decode cX12_quick 94 = .ok (.iinc 3 1, 3) := by decide +kernel
theorem dX12_quick_97 : decode cX12_quick 97 = .ok (.goto (-75), 3) := by decide +kernel
theorem dX12_quick_100 : decode cX12_quick 100 = .ok (.aload_n 0, 1) := by decide +kernel
theorem dX12_quick_101 : decode cX12_quick 101 = .ok (.aload_n 0, 1) := by decide +kernel
theorem dX12_quick_102 : decode cX12_quick 102 = .ok (.getfield 71, 3) := by decide +kernel
theorem dX12_quick_105 : decode cX12_quick 105 = .ok (.iconst 0, 1) := by decide +kernel
theorem dX12_quick_106 : decode cX12_quick 106 = .ok (.invokevirtual 302, 3) := by decide +kernel
theorem dX12_quick_109 : decode cX12_quick 109 = .ok (.iload_n 2, 1) := by decide +kernel
theorem dX12_quick_110 : decode cX12_quick 110 = .ok (.iconst (-1), 1) := by decide +kernel
theorem dX12_quick_111 : decode cX12_quick 111 = .ok (.if_icmp .ne 8, 3) := by decide +kernel
theorem dX12_quick_114 : decode cX12_quick 114 = .ok (.bipush (-2), 2) := by decide +kernel
theorem dX12_quick_116 : decode cX12_quick 116 = .ok (.goto 8, 3) := by decide +kernel
theorem dX12_quick_119 : decode cX12_quick 119 = .ok (.aload_n 0, 1) := by decide +kernel
theorem dX12_quick_120 : decode cX12_quick 120 = .ok (.iload_n 2, 1) := by decide +kernel
theorem dX12_quick_121 : decode cX12_quick 121 = .ok (.invokevirtual 414, 3) := by decide +kernel
theorem dX12_quick_124 : decode cX12_quick 124 = .ok (.ireturn, 1) := by decide +kernel
theorem dX12_best_0 : decode cX12_best 0 = .ok (.aload_n 0, 1) := by decide +kernel
theorem dX12_best_1 : decode cX12_best 1 = .ok (.iconst 0, 1) := by decide +kernel
theorem dX12_best_2 : decode cX12_best 2 = .ok (.putfield 110, 3) := by decide +kernel
theorem dX12_best_5 : decode cX12_best 5 = .ok (.aload_n 0, 1) := by decide +kernel
theorem dX12_best_6 : decode cX12_best 6 = .ok (.iload_n 1, 1) := by decide +kernel
theorem dX12_best_7 : decode cX12_best 7 = .ok (.invokevirtual 123, 3) := by decide +kernel
theorem dX12_best_10 : decode cX12_best 10 = .ok (.ifCond .eq 15, 3) := by decide +kernel
theorem dX12_best_13 : decode cX12_best 13 = .ok (.iload_n 2, 1) := by decide +kernel
theorem dX12_best_14 : decode cX12_best 14 = .ok (.i2l, 1) := by decide +kernel
theorem dX12_best_15 : decode cX12_best 15 = .ok (.lconst 0, 1) := by decide +kernel
theorem dX12_best_16 : decode cX12_best 16 = .ok (.ldc2_w 417, 3) := by decide +kernel
theorem dX12_best_19 : decode cX12_best 19 = .ok (.invokestatic 119, 3) := by decide +kernel
theorem dX12_best_22 : decode cX12_best 22 = .ok (.ifCond .ne 5, 3) := by decide +kernel
theorem dX12_best_25 : decode cX12_best 25 = .ok (.iconst (-1), 1) := by decide +kernel
theorem dX12_best_26 : decode cX12_best 26 = .ok (.ireturn, 1) := by decide +kernel
theorem dX12_best_27 : decode cX12_best 27 = .ok (.aload_n 0, 1) := by decide +kernel
theorem dX12_best_28 : decode cX12_best 28 = .ok (.iload_n 2, 1) := by decide +kernel
theorem dX12_best_29 : decode cX12_best 29 = .ok (.invokevirtual 411, 3) := by decide +kernel
theorem dX12_best_32 : decode cX12_best 32 = .ok (.ifCond .ne 6, 3) := by decide +kernel
theorem dX12_best_35 : decode cX12_best 35 = .ok (.bipush (-3), 2) := by decide +kernel
theorem dX12_best_37 : decode cX12_best 37 = .ok (.ireturn, 1) := by decide +kernel
theorem dX12_best_38 : decode cX12_best 38 = .ok (.iconst 0, 1) := by decide +kernel
theorem dX12_best_39 : decode cX12_best 39 = .ok (.istore_n 3, 1) := by decide +kernel
theorem dX12_best_40 : decode cX12_best 40 = .ok (.iconst 0, 1) := by decide +kernel
theorem dX12_best_41 : decode cX12_best 41 = .ok (.istore 4, 2) := by decide +kernel
theorem dX12_best_43 : decode cX12_best 43 = .ok (.iconst 0, 1) := by decide +kernel
theorem dX12_best_44 : decode cX12_best 44 = .ok (.istore 5, 2) := by decide +kernel
theorem dX12_best_46 : decode cX12_best 46 = .ok (.iload 5, 2) := by decide +kernel
theorem dX12_best_48 : decode cX12_best 48 = .ok (.aload_n 0, 1) := by decide +kernel
theorem dX12_best_49 : decode cX12_best 49 = .ok (.getfield 341, 3) := by decide +kernel
theorem dX12_best_52 : decode cX12_best 52 = .ok (.if_icmp .ge 44, 3) := by decide +kernel
theorem dX12_best_55 : decode cX12_best 55 = .ok (.aload_n 0, 1) := by decide +kernel
theorem dX12_best_56 : decode cX12_best 56 = .ok (.iload 5, 2) := by decide +kernel
theorem dX12_best_58 : decode cX12_best 58 = .ok (.invokevirtual 374, 3) := by decide +kernel
theorem dX12_best_61 : decode cX12_best 61 = .ok (.aload_n 0, 1) := by decide +kernel
theorem dX12_best_62 : decode cX12_best 62 = .ok (.iload_n 1, 1) := by decide +kernel
theorem dX12_best_63 : decode cX12_best 63 = .ok (.invokevirtual 255, 3) := by decide +kernel
theorem dX12_best_66 : decode cX12_best 66 = .ok (.istore 6, 2) := by decide +kernel
theorem dX12_best_68 : decode cX12_best 68 = .ok (.iload 5, 2) := by decide +kernel
theorem dX12_best_70 : decode cX12_best 70 = .ok (.ifCond .le 13, 3) := by decide +kernel
theorem dX12_best_73 : decode cX12_best 73 = .ok (.iload 6, 2) := by decide +kernel
theorem dX12_best_75 : decode cX12_best 75 = .ok (.iload 4, 2) := by decide +kernel
theorem dX12_best_77 : decode cX12_best 77 = .ok (.if_icmp .gt 6, 3) := by decide +kernel
theorem dX12_best_80 : decode cX12_best 80 = .ok (.goto 10, 3) := by decide +kernel
theorem dX12_best_83 : decode cX12_best 83 = .ok (.iload 5, 2) := by decide +kernel
theorem dX12_best_85 : decode cX12_best 85 = .ok (.istore_n 3, 1) := by decide +kernel
theorem dX12_best_86 : decode cX12_best 86 = .ok (.iload 6, 2) := by decide +kernel
theorem dX12_best_88 : decode cX12_best 88 = .ok (.istore 4, 2) := by decide +kernel
theorem dX12_best_90 : decode cX12_best 90 = .ok (.iinc 5 1, 3) := by decide +kernel
theorem dX12_best_93 : decode cX12_best 93 = .ok (.goto (-47), 3) := by decide +kernel
theorem dX12_best_96 : decode cX12_best 96 = .ok (.aload_n 0, 1) := by decide +kernel
theorem dX12_best_97 : decode cX12_best 97 = .ok (.aload_n 0, 1) := by decide +kernel
theorem dX12_best_98 : decode cX12_best 98 = .ok (.getfield 71, 3) := by decide +kernel
theorem dX12_best_101 : decode cX12_best 101 = .ok (.iconst 0, 1) := by decide +kernel
theorem dX12_best_102 : decode cX12_best 102 = .ok (.invokevirtual 302, 3) := by decide +kernel
theorem dX12_best_105 : decode cX12_best 105 = .ok (.aload_n 0, 1) := by decide +kernel
theorem dX12_best_106 : decode cX12_best 106 = .ok (.iconst 0, 1) := by decide +kernel
theorem dX12_best_107 : decode cX12_best 107 = .ok (.putfield 113, 3) := by decide +kernel
theorem dX12_best_110 : decode cX12_best 110 = .ok (.aload_n 0, 1) := by decide +kernel
theorem dX12_best_111 : decode cX12_best 111 = .ok (.aload_n 0, 1) := by decide +kernel
theorem dX12_best_112 : decode cX12_best 112 = .ok (.getfield 80, 3) := by decide +kernel
theorem dX12_best_115 : decode cX12_best 115 = .ok (.iload_n 3, 1) := by decide +kernel
theorem dX12_best_116 : decode cX12_best 116 = .ok (.iaload, 1) := by decide +kernel
theorem dX12_best_117 : decode cX12_best 117 = .ok (.i2l, 1) := by decide +kernel
theorem dX12_best_118 : decode cX12_best 118 = .ok (.invokevirtual 131, 3) := by decide +kernel
theorem dX12_best_121 : decode cX12_best 121 = .ok (.iload 4, 2) := by decide +kernel
theorem dX12_best_123 : decode cX12_best 123 = .ok (.ireturn, 1) := by decide +kernel
theorem dX12_even_0 : decode cX12_even 0 = .ok (.aload_n 0, 1) := by decide +kernel
theorem dX12_even_1 : decode cX12_even 1 = .ok (.iconst 0, 1) := by decide +kernel
theorem dX12_even_2 : decode cX12_even 2 = .ok (.putfield 110, 3) := by decide +kernel
theorem dX12_even_5 : decode cX12_even 5 = .ok (.iload_n 1, 1) := by decide +kernel
theorem dX12_even_6 : decode cX12_even 6 = .ok (.i2l, 1) := by decide +kernel
theorem dX12_even_7 : decode cX12_even 7 = .ok (.lconst 0, 1) := by decide +kernel
theorem dX12_even_8 : decode cX12_even 8 = .ok (.ldc2_w 417, 3) := by decide +kernel
theorem dX12_even_11 : decode cX12_even 11 = .ok (.invokestatic 119, 3) := by decide +kernel
theorem dX12_even_14 : decode cX12_even 14 = .ok (.ifCond .eq 10, 3) := by decide +kernel
theorem dX12_even_17 : decode cX12_even 17 = .ok (.aload_n 0, 1) := by decide +kernel
theorem dX12_even_18 : decode cX12_even 18 = .ok (.getfield 116, 3) := by decide +kernel
theorem dX12_even_21 : decode cX12_even 21 = .ok (.ifCond .ne 5, 3) := by decide +kernel
theorem dX12_even_24 : decode cX12_even 24 = .ok (.iconst (-1), 1) := by decide +kernel
theorem dX12_even_25 : decode cX12_even 25 = .ok (.ireturn, 1) := by decide +kernel
theorem dX12_even_26 : decode cX12_even 26 = .ok (.aload_n 0, 1) := by decide +kernel
theorem dX12_even_27 : decode cX12_even 27 = .ok (.iload_n 1, 1) := by decide +kernel
theorem dX12_even_28 : decode cX12_even 28 = .ok (.invokevirtual 411, 3) := by decide +kernel
theorem dX12_even_31 : decode cX12_even 31 = .ok (.ifCond .ne 6, 3) := by decide +kernel
theorem dX12_even_34 : decode cX12_even 34 = .ok (.bipush (-3), 2) := by decide +kernel
theorem dX12_even_36 : decode cX12_even 36 = .ok (.ireturn, 1) := by decide +kernel
theorem dX12_even_37 : decode cX12_even 37 = .ok (.iconst 0, 1) := by decide +kernel
theorem dX12_even_38 : decode cX12_even 38 = .ok (.istore_n 2, 1) := by decide +kernel
theorem dX12_even_39 : decode cX12_even 39 = .ok (.iconst 0, 1) := by decide +kernel
theorem dX12_even_40 : decode cX12_even 40 = .ok (.istore_n 3, 1) := by decide +kernel
theorem dX12_even_41 : decode cX12_even 41 = .ok (.iconst 0, 1) := by decide +kernel
theorem dX12_even_42 : decode cX12_even 42 = .ok (.istore 4, 2) := by decide +kernel
theorem dX12_even_44 : decode cX12_even 44 = .ok (.iload 4, 2) := by decide +kernel
theorem dX12_even_46 : decode cX12_even 46 = .ok (.aload_n 0, 1) := by decide +kernel
theorem dX12_even_47 : decode cX12_even 47 = .ok (.getfield 341, 3) := by decide +kernel
theorem dX12_even_50 : decode cX12_even 50 = .ok (.if_icmp .ge 41, 3) := by decide +kernel
theorem dX12_even_53 : decode cX12_even 53 = .ok (.aload_n 0, 1) := by decide +kernel
theorem dX12_even_54 : decode cX12_even 54 = .ok (.iload 4, 2) := by decide +kernel
theorem dX12_even_56 : decode cX12_even 56 = .ok (.invokevirtual 374, 3) := by decide +kernel
theorem dX12_even_59 : decode cX12_even 59 = .ok (.aload_n 0, 1) := by decide +kernel
theorem dX12_even_60 : decode cX12_even 60 = .ok (.invokevirtual 329, 3) := by decide +kernel
theorem dX12_even_63 : decode cX12_even 63 = .ok (.istore 5, 2) := by decide +kernel
theorem dX12_even_65 : decode cX12_even 65 = .ok (.iload 4, 2) := by decide +kernel
theorem dX12_even_67 : decode cX12_even 67 = .ok (.ifCond .le 12, 3) := by decide +kernel
theorem dX12_even_70 : decode cX12_even 70 = .ok (.iload 5, 2) := by decide +kernel
theorem dX12_even_72 : decode cX12_even 72 = .ok (.iload_n 3, 1) := by decide +kernel
theorem dX12_even_73 : decode cX12_even 73 = .ok (.if_icmp .lt 6, 3) := by decide +kernel
theorem dX12_even_76 : decode cX12_even 76 = .ok (.goto 9, 3) := by decide +kernel
theorem dX12_even_79 : decode cX12_even 79 = .ok (.iload 4, 2) := by decide +kernel
theorem dX12_even_81 : decode cX12_even 81 = .ok (.istore_n 2, 1) := by decide +kernel
theorem dX12_even_82 : decode cX12_even 82 = .ok (.iload 5, 2) := by decide +kernel
theorem dX12_even_84 : decode cX12_even 84 = .ok (.istore_n 3, 1) := by decide +kernel
theorem dX12_even_85 : decode cX12_even 85 = .ok (.iinc 4 1, 3) := by decide +kernel
theorem dX12_even_88 : decode cX12_even 88 = .ok (.goto (-44), 3) := by decide +kernel
theorem dX12_even_91 : decode cX12_even 91 = .ok (.aload_n 0, 1) := by decide +kernel
theorem dX12_even_92 : decode cX12_even 92 = .ok (.aload_n 0, 1) := by decide +kernel
theorem dX12_even_93 : decode cX12_even 93 = .ok (.getfield 71, 3) := by decide +kernel
theorem dX12_even_96 : decode cX12_even 96 = .ok (.iconst 0, 1) := by decide +kernel
theorem dX12_even_97 : decode cX12_even 97 = .ok (.invokevirtual 302, 3) := by decide +kernel
theorem dX12_even_100 : decode cX12_even 100 = .ok (.aload_n 0, 1) := by decide +kernel
theorem dX12_even_101 : decode cX12_even 101 = .ok (.iconst 0, 1) := by decide +kernel
theorem dX12_even_102 : decode cX12_even 102 = .ok (.putfield 113, 3) := by decide +kernel
theorem dX12_even_105 : decode cX12_even 105 = .ok (.aload_n 0, 1) := by decide +kernel
theorem dX12_even_106 : decode cX12_even 106 = .ok (.aload_n 0, 1) := by decide +kernel
theorem dX12_even_107 : decode cX12_even 107 = .ok (.getfield 80, 3) := by decide +kernel
theorem dX12_even_110 : decode cX12_even 110 = .ok (.iload_n 2, 1) := by decide +kernel
theorem dX12_even_111 : decode cX12_even 111 = .ok (.iaload, 1) := by decide +kernel
theorem dX12_even_112 : decode cX12_even 112 = .ok (.i2l, 1) := by decide +kernel
theorem dX12_even_113 : decode cX12_even 113 = .ok (.invokevirtual 131, 3) := by decide +kernel
theorem dX12_even_116 : decode cX12_even 116 = .ok (.iload_n 3, 1) := by decide +kernel
theorem dX12_even_117 : decode cX12_even 117 = .ok (.ireturn, 1) := by decide +kernel
theorem dX12_all_0 : decode cX12_all 0 = .ok (.aload_n 0, 1) := by decide +kernel
theorem dX12_all_1 : decode cX12_all 1 = .ok (.iconst 0, 1) := by decide +kernel
theorem dX12_all_2 : decode cX12_all 2 = .ok (.putfield 110, 3) := by decide +kernel
theorem dX12_all_5 : decode cX12_all 5 = .ok (.aload_n 0, 1) := by decide +kernel
theorem dX12_all_6 : decode cX12_all 6 = .ok (.sipush 3000, 3) := by decide +kernel
theorem dX12_all_9 : decode cX12_all 9 = .ok (.invokevirtual 411, 3) := by decide +kernel
theorem dX12_all_12 : decode cX12_all 12 = .ok (.ifCond .ne 6, 3) := by decide +kernel
theorem dX12_all_15 : decode cX12_all 15 = .ok (.bipush (-3), 2) := by decide +kernel
theorem dX12_all_17 : decode cX12_all 17 = .ok (.ireturn, 1) := by decide +kernel
theorem dX12_all_18 : decode cX12_all 18 = .ok (.iconst 0, 1) := by decide +kernel
theorem dX12_all_19 : decode cX12_all 19 = .ok (.istore_n 1, 1) := by decide +kernel
theorem dX12_all_20 : decode cX12_all 20 = .ok (.sipush 256, 3) := by decide +kernel
theorem dX12_all_23 : decode cX12_all 23 = .ok (.istore_n 2, 1) := by decide +kernel
theorem dX12_all_24 : decode cX12_all 24 = .ok (.iconst 0, 1) := by decide +kernel
theorem dX12_all_25 : decode cX12_all 25 = .ok (.istore_n 3, 1) := by decide +kernel
theorem dX12_all_26 : decode cX12_all 26 = .ok (.iload_n 3, 1) := by decide +kernel
theorem dX12_all_27 : decode cX12_all 27 = .ok (.aload_n 0, 1) := by decide +kernel
theorem dX12_all_28 : decode cX12_all 28 = .ok (.getfield 341, 3) := by decide +kernel
theorem dX12_all_31 : decode cX12_all 31 = .ok (.if_icmp .ge 34, 3) := by decide +kernel
theorem dX12_all_34 : decode cX12_all 34 = .ok (.aload_n 0, 1) := by decide +kernel
theorem dX12_all_35 : decode cX12_all 35 = .ok (.iload_n 3, 1) := by decide +kernel
theorem dX12_all_36 : decode cX12_all 36 = .ok (.invokevirtual 374, 3) := by decide +kernel
theorem dX12_all_39 : decode cX12_all 39 = .ok (.aload_n 0, 1) := by decide +kernel
theorem dX12_all_40 : decode cX12_all 40 = .ok (.invokevirtual 305, 3) := by decide +kernel
theorem dX12_all_43 : decode cX12_all 43 = .ok (.istore 4, 2) := by decide +kernel
theorem dX12_all_45 : decode cX12_all 45 = .ok (.iload_n 1, 1) := by decide +kernel
theorem dX12_all_46 : decode cX12_all 46 = .ok (.iload 4, 2) := by decide +kernel
theorem dX12_all_48 : decode cX12_all 48 = .ok (.invokestatic 233, 3) := by decide +kernel
theorem dX12_all_51 : decode cX12_all 51 = .ok (.istore_n 1, 1) := by decide +kernel
theorem dX12_all_52 : decode cX12_all 52 = .ok (.iload_n 2, 1) := by decide +kernel
theorem dX12_all_53 : decode cX12_all 53 = .ok (.iload 4, 2) := by decide +kernel
theorem dX12_all_55 : decode cX12_all 55 = .ok (.invokestatic 238, 3) := by decide +kernel
theorem dX12_all_58 : decode cX12_all 58 = .ok (.istore_n 2, 1) := by decide +kernel
theorem dX12_all_59 : decode cX12_all 59 = .ok (.iinc 3 1, 3) := by decide +kernel
theorem dX12_all_62 : decode cX12_all 62 = .ok (.goto (-36), 3) := by decide +kernel
theorem dX12_all_65 : decode cX12_all 65 = .ok (.aload_n 0, 1) := by decide +kernel
theorem dX12_all_66 : decode cX12_all 66 = .ok (.aload_n 0, 1) := by decide +kernel
theorem dX12_all_67 : decode cX12_all 67 = .ok (.getfield 71, 3) := by decide +kernel
theorem dX12_all_70 : decode cX12_all 70 = .ok (.iconst 0, 1) := by decide +kernel
theorem dX12_all_71 : decode cX12_all 71 = .ok (.invokevirtual 302, 3) := by decide +kernel
theorem dX12_all_74 : decode cX12_all 74 = .ok (.aload_n 0, 1) := by decide +kernel
theorem dX12_all_75 : decode cX12_all 75 = .ok (.iconst 0, 1) := by decide +kernel
theorem dX12_all_76 : decode cX12_all 76 = .ok (.putfield 113, 3) := by decide +kernel
theorem dX12_all_79 : decode cX12_all 79 = .ok (.aload_n 0, 1) := by decide +kernel
theorem dX12_all_80 : decode cX12_all 80 = .ok (.iload_n 1, 1) := by decide +kernel
theorem dX12_all_81 : decode cX12_all 81 = .ok (.i2l, 1) := by decide +kernel
theorem dX12_all_82 : decode cX12_all 82 = .ok (.invokevirtual 131, 3) := by decide +kernel
theorem dX12_all_85 : decode cX12_all 85 = .ok (.aload_n 0, 1) := by decide +kernel
theorem dX12_all_86 : decode cX12_all 86 = .ok (.iload_n 2, 1) := by decide +kernel
theorem dX12_all_87 : decode cX12_all 87 = .ok (.i2l, 1) := by decide +kernel
theorem dX12_all_88 : decode cX12_all 88 = .ok (.invokevirtual 131, 3) := by decide +kernel
theorem dX12_all_91 : decode cX12_all 91 = .ok (.aload_n 0, 1) := by decide +kernel
theorem dX12_all_92 : decode cX12_all 92 = .ok (.aload_n 0, 1) := by decide +kernel
theorem dX12_all_93 : decode cX12_all 93 = .ok (.getfield 80, 3) := by decide +kernel
theorem dX12_all_96 : decode cX12_all 96 = .ok (.aload_n 0, 1) := by decide +kernel
theorem dX12_all_97 : decode cX12_all 97 = .ok (.getfield 341, 3) := by decide +kernel
theorem dX12_all_100 : decode cX12_all 100 = .ok (.iconst 1, 1) := by decide +kernel
theorem dX12_all_101 : decode cX12_all 101 = .ok (.isub, 1) := by decide +kernel
theorem dX12_all_102 : decode cX12_all 102 = .ok (.iaload, 1) := by decide +kernel
theorem dX12_all_103 : decode cX12_all 103 = .ok (.i2l, 1) := by decide +kernel
theorem dX12_all_104 : decode cX12_all 104 = .ok (.invokevirtual 131, 3) := by decide +kernel
theorem dX12_all_107 : decode cX12_all 107 = .ok (.aload_n 0, 1) := by decide +kernel
theorem dX12_all_108 : decode cX12_all 108 = .ok (.getfield 341, 3) := by decide +kernel
theorem dX12_all_111 : decode cX12_all 111 = .ok (.ireturn, 1) := by decide +kernel
theorem dX12_next_0 : decode cX12_next 0 = .ok (.aload_n 0, 1) := by decide +kernel
theorem dX12_next_1 : decode cX12_next 1 = .ok (.iconst 0, 1) := by decide +kernel
theorem dX12_next_2 : decode cX12_next 2 = .ok (.putfield 110, 3) := by decide +kernel
theorem dX12_next_5 : decode cX12_next 5 = .ok (.aload_n 0, 1) := by decide +kernel
theorem dX12_next_6 : decode cX12_next 6 = .ok (.iload_n 1, 1) := by decide +kernel
theorem dX12_next_7 : decode cX12_next 7 = .ok (.invokevirtual 123, 3) := by decide +kernel
theorem dX12_next_10 : decode cX12_next 10 = .ok (.ifCond .ne 5, 3) := by decide +kernel
theorem dX12_next_13 : decode cX12_next 13 = .ok (.iconst (-1), 1) := by decide +kernel
theorem dX12_next_14 : decode cX12_next 14 = .ok (.ireturn, 1) := by decide +kernel
theorem dX12_next_15 : decode cX12_next 15 = .ok (.aload_n 0, 1) := by decide +kernel
theorem dX12_next_16 : decode cX12_next 16 = .ok (.getfield 116, 3) := by decide +kernel
theorem dX12_next_19 : decode cX12_next 19 = .ok (.iconst 2, 1) := by decide +kernel
theorem dX12_next_20 : decode cX12_next 20 = .ok (.if_icmp .ge 6, 3) := by decide +kernel
theorem dX12_next_23 : decode cX12_next 23 = .ok (.bipush (-2), 2) := by decide +kernel
theorem dX12_next_25 : decode cX12_next 25 = .ok (.ireturn, 1) := by decide +kernel
theorem dX12_next_26 : decode cX12_next 26 = .ok (.aload_n 0, 1) := by decide +kernel
theorem dX12_next_27 : decode cX12_next 27 = .ok (.aload_n 0, 1) := by decide +kernel
theorem dX12_next_28 : decode cX12_next 28 = .ok (.getfield 71, 3) := by decide +kernel
theorem dX12_next_31 : decode cX12_next 31 = .ok (.iconst 0, 1) := by decide +kernel
theorem dX12_next_32 : decode cX12_next 32 = .ok (.invokevirtual 291, 3) := by decide +kernel
theorem dX12_next_35 : decode cX12_next 35 = .ok (.iconst (-1), 1) := by decide +kernel
theorem dX12_next_36 : decode cX12_next 36 = .ok (.istore_n 2, 1) := by decide +kernel
theorem dX12_next_37 : decode cX12_next 37 = .ok (.iconst 0, 1) := by decide +kernel
theorem dX12_next_38 : decode cX12_next 38 = .ok (.istore_n 3, 1) := by decide +kernel
theorem dX12_next_39 : decode cX12_next 39 = .ok (.iconst 0, 1) := by decide +kernel
theorem dX12_next_40 : decode cX12_next 40 = .ok (.istore 4, 2) := by decide +kernel
theorem dX12_next_42 : decode cX12_next 42 = .ok (.iload 4, 2) := by decide +kernel
theorem dX12_next_44 : decode cX12_next 44 = .ok (.iconst 3, 1) := by decide +kernel
theorem dX12_next_45 : decode cX12_next 45 = .ok (.if_icmp .ge 106, 3) := by decide +kernel
theorem dX12_next_48 : decode cX12_next 48 = .ok (.iconst 0, 1) := by decide +kernel
theorem dX12_next_49 : decode cX12_next 49 = .ok (.istore 5, 2) := by decide +kernel
theorem dX12_next_51 : decode cX12_next 51 = .ok (.iload 5, 2) := by decide +kernel
theorem dX12_next_53 : decode cX12_next 53 = .ok (.aload_n 0, 1) := by decide +kernel
theorem dX12_next_54 : decode cX12_next 54 = .ok (.getfield 116, 3) := by decide +kernel
theorem dX12_next_57 : decode cX12_next 57 = .ok (.if_icmp .ge 88, 3) := by decide +kernel
theorem dX12_next_60 : decode cX12_next 60 = .ok (.iload 5, 2) := by decide +kernel
theorem dX12_next_62 : decode cX12_next 62 = .ok (.iconst 1, 1) := by decide +kernel
theorem dX12_next_63 : decode cX12_next 63 = .ok (.iadd, 1) := by decide +kernel
theorem dX12_next_64 : decode cX12_next 64 = .ok (.istore 6, 2) := by decide +kernel
theorem dX12_next_66 : decode cX12_next 66 = .ok (.iload 6, 2) := by decide +kernel
theorem dX12_next_68 : decode cX12_next 68 = .ok (.aload_n 0, 1) := by decide +kernel
theorem dX12_next_69 : decode cX12_next 69 = .ok (.getfield 116, 3) := by decide +kernel
theorem dX12_next_72 : decode cX12_next 72 = .ok (.if_icmp .ge 67, 3) := by decide +kernel
theorem dX12_next_75 : decode cX12_next 75 = .ok (.aload_n 0, 1) := by decide +kernel
theorem dX12_next_76 : decode cX12_next 76 = .ok (.iload 5, 2) := by decide +kernel
theorem dX12_next_78 : decode cX12_next 78 = .ok (.iload 6, 2) := by decide +kernel
theorem dX12_next_80 : decode cX12_next 80 = .ok (.iload 4, 2) := by decide +kernel
theorem dX12_next_82 : decode cX12_next 82 = .ok (.invokevirtual 352, 3) := by decide +kernel
theorem dX12_next_85 : decode cX12_next 85 = .ok (.aload_n 0, 1) := by decide +kernel
theorem dX12_next_86 : decode cX12_next 86 = .ok (.iload_n 1, 1) := by decide +kernel
theorem dX12_next_87 : decode cX12_next 87 = .ok (.invokevirtual 255, 3) := by decide +kernel
theorem dX12_next_90 : decode cX12_next 90 = .ok (.istore 7, 2) := by decide +kernel
theorem dX12_next_92 : decode cX12_next 92 = .ok (.aload_n 0, 1) := by decide +kernel
theorem dX12_next_93 : decode cX12_next 93 = .ok (.aload_n 0, 1) := by decide +kernel
theorem dX12_next_94 : decode cX12_next 94 = .ok (.getfield 71, 3) := by decide +kernel
theorem dX12_next_97 : decode cX12_next 97 = .ok (.iconst 0, 1) := by decide +kernel
theorem dX12_next_98 : decode cX12_next 98 = .ok (.invokevirtual 302, 3) := by decide +kernel
theorem dX12_next_101 : decode cX12_next 101 = .ok (.iload_n 2, 1) := by decide +kernel
theorem dX12_next_102 : decode cX12_next 102 = .ok (.iconst (-1), 1) := by decide +kernel
theorem dX12_next_103 : decode cX12_next 103 = .ok (.if_icmp .eq 12, 3) := by decide +kernel
theorem dX12_next_106 : decode cX12_next 106 = .ok (.iload 7, 2) := by decide +kernel
theorem dX12_next_108 : decode cX12_next 108 = .ok (.iload_n 3, 1) := by decide +kernel
theorem dX12_next_109 : decode cX12_next 109 = .ok (.if_icmp .gt 6, 3) := by decide +kernel
theorem dX12_next_112 : decode cX12_next 112 = .ok (.goto 21, 3) := by decide +kernel
theorem dX12_next_115 : decode cX12_next 115 = .ok (.bipush 100, 2) := by decide +kernel
theorem dX12_next_117 : decode cX12_next 117 = .ok (.iload 4, 2) := by decide +kernel
theorem dX12_next_119 : decode cX12_next 119 = .ok (.imul, 1) := by decide +kernel
theorem dX12_next_120 : decode cX12_next 120 = .ok (.bipush 10, 2) := by decide +kernel
theorem dX12_next_122 : decode cX12_next 122 = .ok (.iload 5, 2) := by decide +kernel
theorem dX12_next_124 : decode cX12_next 124 = .ok (.imul, 1) := by decide +kernel
theorem dX12_next_125 : decode cX12_next 125 = .ok (.iadd, 1) := by decide +kernel
theorem dX12_next_126 : decode cX12_next 126 = .ok (.iload 6, 2) := by decide +kernel
theorem dX12_next_128 : decode cX12_next 128 = .ok (.iadd, 1) := by decide +kernel
theorem dX12_next_129 : decode cX12_next 129 = .ok (.istore_n 2, 1) := by decide +kernel
theorem dX12_next_130 : decode cX12_next 130 = .ok (.iload 7, 2) := by decide +kernel
theorem dX12_next_132 : decode cX12_next 132 = .ok (.istore_n 3, 1) := by decide +kernel
theorem dX12_next_133 : decode cX12_next 133 = .ok (.iinc 6 1, 3) := by decide +kernel
theorem dX12_next_136 : decode cX12_next 136 = .ok (.goto (-70), 3) := by decide +kernel
theorem dX12_next_139 : decode cX12_next 139 = .ok (.iinc 5 1, 3) := by decide +kernel
theorem dX12_next_142 : decode cX12_next 142 = .ok (.goto (-91), 3) := by decide +kernel
theorem dX12_next_145 : decode cX12_next 145 = .ok (.iinc 4 1, 3) := by decide +kernel
theorem dX12_next_148 : decode cX12_next 148 = .ok (.goto (-106), 3) := by decide +kernel
theorem dX12_next_151 : decode cX12_next 151 = .ok (.aload_n 0, 1) := by decide +kernel
theorem dX12_next_152 : decode cX12_next 152 = .ok (.iconst 0, 1) := by decide +kernel
theorem dX12_next_153 : decode cX12_next 153 = .ok (.putfield 113, 3) := by decide +kernel
theorem dX12_next_156 : decode cX12_next 156 = .ok (.aload_n 0, 1) := by decide +kernel
theorem dX12_next_157 : decode cX12_next 157 = .ok (.iload_n 3, 1) := by decide +kernel
theorem dX12_next_158 : decode cX12_next 158 = .ok (.i2l, 1) := by decide +kernel
theorem dX12_next_159 : decode cX12_next 159 = .ok (.invokevirtual 131, 3) := by decide +kernel
theorem dX12_next_162 : decode cX12_next 162 = .ok (.iload_n 2, 1) := by decide +kernel
theorem dX12_next_163 : decode cX12_next 163 = .ok (.ireturn, 1) := by decide +kernel
theorem dX12_seen_0 : decode cX12_seen 0 = .ok (.aload_n 0, 1) := by decide +kernel
theorem dX12_seen_1 : decode cX12_seen 1 = .ok (.iconst 0, 1) := by decide +kernel
theorem dX12_seen_2 : decode cX12_seen 2 = .ok (.putfield 110, 3) := by decide +kernel
theorem dX12_seen_5 : decode cX12_seen 5 = .ok (.aload_n 0, 1) := by decide +kernel
theorem dX12_seen_6 : decode cX12_seen 6 = .ok (.iload_n 1, 1) := by decide +kernel
theorem dX12_seen_7 : decode cX12_seen 7 = .ok (.iload_n 2, 1) := by decide +kernel
theorem dX12_seen_8 : decode cX12_seen 8 = .ok (.invokevirtual 267, 3) := by decide +kernel
theorem dX12_seen_11 : decode cX12_seen 11 = .ok (.ifCond .eq 24, 3) := by decide +kernel
theorem dX12_seen_14 : decode cX12_seen 14 = .ok (.iload_n 3, 1) := by decide +kernel
theorem dX12_seen_15 : decode cX12_seen 15 = .ok (.i2l, 1) := by decide +kernel
theorem dX12_seen_16 : decode cX12_seen 16 = .ok (.lconst 0, 1) := by decide +kernel
theorem dX12_seen_17 : decode cX12_seen 17 = .ok (.ldc2_w 419, 3) := by decide +kernel
theorem dX12_seen_20 : decode cX12_seen 20 = .ok (.invokestatic 119, 3) := by decide +kernel
theorem dX12_seen_23 : decode cX12_seen 23 = .ok (.ifCond .eq 12, 3) := by decide +kernel
theorem dX12_seen_26 : decode cX12_seen 26 = .ok (.aload_n 0, 1) := by decide +kernel
theorem dX12_seen_27 : decode cX12_seen 27 = .ok (.getfield 190, 3) := by decide +kernel
theorem dX12_seen_30 : decode cX12_seen 30 = .ok (.bipush 12, 2) := by decide +kernel
theorem dX12_seen_32 : decode cX12_seen 32 = .ok (.if_icmp .ne 5, 3) := by decide +kernel
theorem dX12_seen_35 : decode cX12_seen 35 = .ok (.iconst (-1), 1) := by decide +kernel
theorem dX12_seen_36 : decode cX12_seen 36 = .ok (.ireturn, 1) := by decide +kernel
theorem dX12_seen_37 : decode cX12_seen 37 = .ok (.aload_n 0, 1) := by decide +kernel
theorem dX12_seen_38 : decode cX12_seen 38 = .ok (.getfield 98, 3) := by decide +kernel
theorem dX12_seen_41 : decode cX12_seen 41 = .ok (.iconst 3, 1) := by decide +kernel
theorem dX12_seen_42 : decode cX12_seen 42 = .ok (.aload_n 0, 1) := by decide +kernel
theorem dX12_seen_43 : decode cX12_seen 43 = .ok (.getfield 190, 3) := by decide +kernel
theorem dX12_seen_46 : decode cX12_seen 46 = .ok (.imul, 1) := by decide +kernel
theorem dX12_seen_47 : decode cX12_seen 47 = .ok (.iload_n 1, 1) := by decide +kernel
theorem dX12_seen_48 : decode cX12_seen 48 = .ok (.iastore, 1) := by decide +kernel
theorem dX12_seen_49 : decode cX12_seen 49 = .ok (.aload_n 0, 1) := by decide +kernel
theorem dX12_seen_50 : decode cX12_seen 50 = .ok (.getfield 98, 3) := by decide +kernel
theorem dX12_seen_53 : decode cX12_seen 53 = .ok (.iconst 3, 1) := by decide +kernel
theorem dX12_seen_54 : decode cX12_seen 54 = .ok (.aload_n 0, 1) := by decide +kernel
theorem dX12_seen_55 : decode cX12_seen 55 = .ok (.getfield 190, 3) := by decide +kernel
theorem dX12_seen_58 : decode cX12_seen 58 = .ok (.imul, 1) := by decide +kernel
theorem dX12_seen_59 : decode cX12_seen 59 = .ok (.iconst 1, 1) := by decide +kernel
theorem dX12_seen_60 : decode cX12_seen 60 = .ok (.iadd, 1) := by decide +kernel
theorem dX12_seen_61 : decode cX12_seen 61 = .ok (.iload_n 2, 1) := by decide +kernel
theorem dX12_seen_62 : decode cX12_seen 62 = .ok (.iastore, 1) := by decide +kernel
theorem dX12_seen_63 : decode cX12_seen 63 = .ok (.aload_n 0, 1) := by decide +kernel
theorem dX12_seen_64 : decode cX12_seen 64 = .ok (.getfield 98, 3) := by decide +kernel
theorem dX12_seen_67 : decode cX12_seen 67 = .ok (.iconst 3, 1) := by decide +kernel
theorem dX12_seen_68 : decode cX12_seen 68 = .ok (.aload_n 0, 1) := by decide +kernel
theorem dX12_seen_69 : decode cX12_seen 69 = .ok (.getfield 190, 3) := by decide +kernel
theorem dX12_seen_72 : decode cX12_seen 72 = .ok (.imul, 1) := by decide +kernel
theorem dX12_seen_73 : decode cX12_seen 73 = .ok (.iconst 2, 1) := by decide +kernel
theorem dX12_seen_74 : decode cX12_seen 74 = .ok (.iadd, 1) := by decide +kernel
theorem dX12_seen_75 : decode cX12_seen 75 = .ok (.iload_n 3, 1) := by decide +kernel
theorem dX12_seen_76 : decode cX12_seen 76 = .ok (.iastore, 1) := by decide +kernel
theorem dX12_seen_77 : decode cX12_seen 77 = .ok (.aload_n 0, 1) := by decide +kernel
theorem dX12_seen_78 : decode cX12_seen 78 = .ok (.dup, 1) := by decide +kernel
theorem dX12_seen_79 : decode cX12_seen 79 = .ok (.getfield 190, 3) := by decide +kernel
theorem dX12_seen_82 : decode cX12_seen 82 = .ok (.iconst 1, 1) := by decide +kernel
theorem dX12_seen_83 : decode cX12_seen 83 = .ok (.iadd, 1) := by decide +kernel
theorem dX12_seen_84 : decode cX12_seen 84 = .ok (.putfield 190, 3) := by decide +kernel
theorem dX12_seen_87 : decode cX12_seen 87 = .ok (.aload_n 0, 1) := by decide +kernel
theorem dX12_seen_88 : decode cX12_seen 88 = .ok (.getfield 190, 3) := by decide +kernel
theorem dX12_seen_91 : decode cX12_seen 91 = .ok (.ireturn, 1) := by decide +kernel
theorem dX12_found_0 : decode cX12_found 0 = .ok (.aload_n 0, 1) := by decide +kernel
theorem dX12_found_1 : decode cX12_found 1 = .ok (.iconst 0, 1) := by decide +kernel
theorem dX12_found_2 : decode cX12_found 2 = .ok (.putfield 110, 3) := by decide +kernel
theorem dX12_found_5 : decode cX12_found 5 = .ok (.iconst 0, 1) := by decide +kernel
theorem dX12_found_6 : decode cX12_found 6 = .ok (.istore_n 1, 1) := by decide +kernel
theorem dX12_found_7 : decode cX12_found 7 = .ok (.iconst (-1), 1) := by decide +kernel
theorem dX12_found_8 : decode cX12_found 8 = .ok (.istore_n 2, 1) := by decide +kernel
theorem dX12_found_9 : decode cX12_found 9 = .ok (.iconst 0, 1) := by decide +kernel
theorem dX12_found_10 : decode cX12_found 10 = .ok (.istore_n 3, 1) := by decide +kernel
theorem dX12_found_11 : decode cX12_found 11 = .ok (.iconst 0, 1) := by decide +kernel
theorem dX12_found_12 : decode cX12_found 12 = .ok (.istore 4, 2) := by decide +kernel
theorem dX12_found_14 : decode cX12_found 14 = .ok (.iload 4, 2) := by decide +kernel
theorem dX12_found_16 : decode cX12_found 16 = .ok (.aload_n 0, 1) := by decide +kernel
theorem dX12_found_17 : decode cX12_found 17 = .ok (.getfield 116, 3) := by decide +kernel
theorem dX12_found_20 : decode cX12_found 20 = .ok (.if_icmp .ge 141, 3) := by decide +kernel
theorem dX12_found_23 : decode cX12_found 23 = .ok (.iconst 0, 1) := by decide +kernel
theorem dX12_found_24 : decode cX12_found 24 = .ok (.istore 5, 2) := by decide +kernel
theorem dX12_found_26 : decode cX12_found 26 = .ok (.iconst 0, 1) := by decide +kernel
theorem dX12_found_27 : decode cX12_found 27 = .ok (.istore 6, 2) := by decide +kernel
theorem dX12_found_29 : decode cX12_found 29 = .ok (.iload 6, 2) := by decide +kernel
theorem dX12_found_31 : decode cX12_found 31 = .ok (.aload_n 0, 1) := by decide +kernel
theorem dX12_found_32 : decode cX12_found 32 = .ok (.getfield 190, 3) := by decide +kernel
theorem dX12_found_35 : decode cX12_found 35 = .ok (.if_icmp .ge 105, 3) := by decide +kernel
theorem dX12_found_38 : decode cX12_found 38 = .ok (.aload_n 0, 1) := by decide +kernel
theorem dX12_found_39 : decode cX12_found 39 = .ok (.getfield 98, 3) := by decide +kernel
theorem dX12_found_42 : decode cX12_found 42 = .ok (.iconst 3, 1) := by decide +kernel
theorem dX12_found_43 : decode cX12_found 43 = .ok (.iload 6, 2) := by decide +kernel
theorem dX12_found_45 : decode cX12_found 45 = .ok (.imul, 1) := by decide +kernel
theorem dX12_found_46 : decode cX12_found 46 = .ok (.iaload, 1) := by decide +kernel
theorem dX12_found_47 : decode cX12_found 47 = .ok (.istore 7, 2) := by decide +kernel
theorem dX12_found_49 : decode cX12_found 49 = .ok (.aload_n 0, 1) := by decide +kernel
theorem dX12_found_50 : decode cX12_found 50 = .ok (.getfield 98, 3) := by decide +kernel
theorem dX12_found_53 : decode cX12_found 53 = .ok (.iconst 3, 1) := by decide +kernel
theorem dX12_found_54 : decode cX12_found 54 = .ok (.iload 6, 2) := by decide +kernel
theorem dX12_found_56 : decode cX12_found 56 = .ok (.imul, 1) := by decide +kernel
theorem dX12_found_57 : decode cX12_found 57 = .ok (.iconst 1, 1) := by decide +kernel
theorem dX12_found_58 : decode cX12_found 58 = .ok (.iadd, 1) := by decide +kernel
theorem dX12_found_59 : decode cX12_found 59 = .ok (.iaload, 1) := by decide +kernel
theorem dX12_found_60 : decode cX12_found 60 = .ok (.istore 8, 2) := by decide +kernel
theorem dX12_found_62 : decode cX12_found 62 = .ok (.aload_n 0, 1) := by decide +kernel
theorem dX12_found_63 : decode cX12_found 63 = .ok (.getfield 98, 3) := by decide +kernel
theorem dX12_found_66 : decode cX12_found 66 = .ok (.iconst 3, 1) := by decide +kernel
theorem dX12_found_67 : decode cX12_found 67 = .ok (.iload 6, 2) := by decide +kernel
theorem dX12_found_69 : decode cX12_found 69 = .ok (.imul, 1) := by decide +kernel
theorem dX12_found_70 : decode cX12_found 70 = .ok (.iconst 2, 1) := by decide +kernel
theorem dX12_found_71 : decode cX12_found 71 = .ok (.iadd, 1) := by decide +kernel
theorem dX12_found_72 : decode cX12_found 72 = .ok (.iaload, 1) := by decide +kernel
theorem dX12_found_73 : decode cX12_found 73 = .ok (.istore 9, 2) := by decide +kernel
theorem dX12_found_75 : decode cX12_found 75 = .ok (.aload_n 0, 1) := by decide +kernel
theorem dX12_found_76 : decode cX12_found 76 = .ok (.iload 7, 2) := by decide +kernel
theorem dX12_found_78 : decode cX12_found 78 = .ok (.iload 8, 2) := by decide +kernel
theorem dX12_found_80 : decode cX12_found 80 = .ok (.iconst 0, 1) := by decide +kernel
theorem dX12_found_81 : decode cX12_found 81 = .ok (.invokevirtual 273, 3) := by decide +kernel
theorem dX12_found_84 : decode cX12_found 84 = .ok (.iload 9, 2) := by decide +kernel
theorem dX12_found_86 : decode cX12_found 86 = .ok (.if_icmp .ne 6, 3) := by decide +kernel
theorem dX12_found_89 : decode cX12_found 89 = .ok (.goto 45, 3) := by decide +kernel
theorem dX12_found_92 : decode cX12_found 92 = .ok (.iload_n 1, 1) := by decide +kernel
theorem dX12_found_93 : decode cX12_found 93 = .ok (.iconst 1, 1) := by decide +kernel
theorem dX12_found_94 : decode cX12_found 94 = .ok (.iload 6, 2) := by decide +kernel
theorem dX12_found_96 : decode cX12_found 96 = .ok (.ishl, 1) := by decide +kernel
theorem dX12_found_97 : decode cX12_found 97 = .ok (.ior, 1) := by decide +kernel
theorem dX12_found_98 : decode cX12_found 98 = .ok (.istore_n 1, 1) := by decide +kernel
theorem dX12_found_99 : decode cX12_found 99 = .ok (.iload 5, 2) := by decide +kernel
theorem dX12_found_101 : decode cX12_found 101 = .ok (.iload 9, 2) := by decide +kernel
theorem dX12_found_103 : decode cX12_found 103 = .ok (.ifCond .eq 10, 3) := by decide +kernel
theorem dX12_found_106 : decode cX12_found 106 = .ok (.iload 4, 2) := by decide +kernel
theorem dX12_found_108 : decode cX12_found 108 = .ok (.iload 7, 2) := by decide +kernel
theorem dX12_found_110 : decode cX12_found 110 = .ok (.if_icmp .eq 16, 3) := by decide +kernel
theorem dX12_found_113 : decode cX12_found 113 = .ok (.iload 9, 2) := by decide +kernel
theorem dX12_found_115 : decode cX12_found 115 = .ok (.iconst 1, 1) := by decide +kernel
theorem dX12_found_116 : decode cX12_found 116 = .ok (.if_icmp .eq 14, 3) := by decide +kernel
theorem dX12_found_119 : decode cX12_found 119 = .ok (.iload 4, 2) := by decide +kernel
theorem dX12_found_121 : decode cX12_found 121 = .ok (.iload 8, 2) := by decide +kernel
theorem dX12_found_123 : decode cX12_found 123 = .ok (.if_icmp .ne 7, 3) := by decide +kernel
theorem dX12_found_126 : decode cX12_found 126 = .ok (.iconst 1, 1) := by decide +kernel
theorem dX12_found_127 : decode cX12_found 127 = .ok (.goto 4, 3) := by decide +kernel
theorem dX12_found_130 : decode cX12_found 130 = .ok (.iconst 0, 1) := by decide +kernel
theorem dX12_found_131 : decode cX12_found 131 = .ok (.iadd, 1) := by decide +kernel
theorem dX12_found_132 : decode cX12_found 132 = .ok (.istore 5, 2) := by decide +kernel
theorem dX12_found_134 : decode cX12_found 134 = .ok (.iinc 6 1, 3) := by decide +kernel
theorem dX12_found_137 : decode cX12_found 137 = .ok (.goto (-108), 3) := by decide +kernel
theorem dX12_found_140 : decode cX12_found 140 = .ok (.iload 5, 2) := by decide +kernel
theorem dX12_found_142 : decode cX12_found 142 = .ok (.iload_n 3, 1) := by decide +kernel
theorem dX12_found_143 : decode cX12_found 143 = .ok (.if_icmp .gt 6, 3) := by decide +kernel
theorem dX12_found_146 : decode cX12_found 146 = .ok (.goto 9, 3) := by decide +kernel
theorem dX12_found_149 : decode cX12_found 149 = .ok (.iload 4, 2) := by decide +kernel
theorem dX12_found_151 : decode cX12_found 151 = .ok (.istore_n 2, 1) := by decide +kernel
theorem dX12_found_152 : decode cX12_found 152 = .ok (.iload 5, 2) := by decide +kernel
theorem dX12_found_154 : decode cX12_found 154 = .ok (.istore_n 3, 1) := by decide +kernel
theorem dX12_found_155 : decode cX12_found 155 = .ok (.iinc 4 1, 3) := by decide +kernel
theorem dX12_found_158 : decode cX12_found 158 = .ok (.goto (-144), 3) := by decide +kernel
theorem dX12_found_161 : decode cX12_found 161 = .ok (.aload_n 0, 1) := by decide +kernel
theorem dX12_found_162 : decode cX12_found 162 = .ok (.iconst 0, 1) := by decide +kernel
theorem dX12_found_163 : decode cX12_found 163 = .ok (.putfield 113, 3) := by decide +kernel
theorem dX12_found_166 : decode cX12_found 166 = .ok (.aload_n 0, 1) := by decide +kernel
theorem dX12_found_167 : decode cX12_found 167 = .ok (.iload_n 1, 1) := by decide +kernel
theorem dX12_found_168 : decode cX12_found 168 = .ok (.invokestatic 421, 3) := by decide +kernel
theorem dX12_found_171 : decode cX12_found 171 = .ok (.i2l, 1) := by decide +kernel
theorem dX12_found_172 : decode cX12_found 172 = .ok (.invokevirtual 131, 3) := by decide +kernel
theorem dX12_found_175 : decode cX12_found 175 = .ok (.aload_n 0, 1) := by decide +kernel
theorem dX12_found_176 : decode cX12_found 176 = .ok (.iload_n 2, 1) := by decide +kernel
theorem dX12_found_177 : decode cX12_found 177 = .ok (.i2l, 1) := by decide +kernel
theorem dX12_found_178 : decode cX12_found 178 = .ok (.invokevirtual 131, 3) := by decide +kernel
theorem dX12_found_181 : decode cX12_found 181 = .ok (.aload_n 0, 1) := by decide +kernel
theorem dX12_found_182 : decode cX12_found 182 = .ok (.iload_n 3, 1) := by decide +kernel
theorem dX12_found_183 : decode cX12_found 183 = .ok (.i2l, 1) := by decide +kernel
theorem dX12_found_184 : decode cX12_found 184 = .ok (.invokevirtual 131, 3) := by decide +kernel
theorem dX12_found_187 : decode cX12_found 187 = .ok (.iload_n 1, 1) := by decide +kernel
theorem dX12_found_188 : decode cX12_found 188 = .ok (.ireturn, 1) := by decide +kernel
theorem dX12_prize_0 : decode cX12_prize 0 = .ok (.aload_n 0, 1) := by decide +kernel
theorem dX12_prize_1 : decode cX12_prize 1 = .ok (.iconst 0, 1) := by decide +kernel
theorem dX12_prize_2 : decode cX12_prize 2 = .ok (.putfield 110, 3) := by decide +kernel
theorem dX12_prize_5 : decode cX12_prize 5 = .ok (.aload_n 0, 1) := by decide +kernel
theorem dX12_prize_6 : decode cX12_prize 6 = .ok (.getfield 116, 3) := by decide +kernel
theorem dX12_prize_9 : decode cX12_prize 9 = .ok (.ifCond .ne 6, 3) := by decide +kernel
theorem dX12_prize_12 : decode cX12_prize 12 = .ok (.bipush (-2), 2) := by decide +kernel
theorem dX12_prize_14 : decode cX12_prize 14 = .ok (.ireturn, 1) := by decide +kernel
theorem dX12_prize_15 : decode cX12_prize 15 = .ok (.iconst 0, 1) := by decide +kernel
theorem dX12_prize_16 : decode cX12_prize 16 = .ok (.istore_n 1, 1) := by decide +kernel
theorem dX12_prize_17 : decode cX12_prize 17 = .ok (.iconst 0, 1) := by decide +kernel
theorem dX12_prize_18 : decode cX12_prize 18 = .ok (.istore_n 2, 1) := by decide +kernel
theorem dX12_prize_19 : decode cX12_prize 19 = .ok (.iconst 0, 1) := by decide +kernel
theorem dX12_prize_20 : decode cX12_prize 20 = .ok (.istore_n 3, 1) := by decide +kernel
theorem dX12_prize_21 : decode cX12_prize 21 = .ok (.iload_n 3, 1) := by decide +kernel
theorem dX12_prize_22 : decode cX12_prize 22 = .ok (.aload_n 0, 1) := by decide +kernel
theorem dX12_prize_23 : decode cX12_prize 23 = .ok (.getfield 116, 3) := by decide +kernel
theorem dX12_prize_26 : decode cX12_prize 26 = .ok (.if_icmp .ge 35, 3) := by decide +kernel
theorem dX12_prize_29 : decode cX12_prize 29 = .ok (.iload_n 2, 1) := by decide +kernel
theorem dX12_prize_30 : decode cX12_prize 30 = .ok (.aload_n 0, 1) := by decide +kernel
theorem dX12_prize_31 : decode cX12_prize 31 = .ok (.getfield 24, 3) := by decide +kernel
theorem dX12_prize_34 : decode cX12_prize 34 = .ok (.iload_n 3, 1) := by decide +kernel
theorem dX12_prize_35 : decode cX12_prize 35 = .ok (.iaload, 1) := by decide +kernel
theorem dX12_prize_36 : decode cX12_prize 36 = .ok (.iadd, 1) := by decide +kernel
theorem dX12_prize_37 : decode cX12_prize 37 = .ok (.istore_n 2, 1) := by decide +kernel
theorem dX12_prize_38 : decode cX12_prize 38 = .ok (.aload_n 0, 1) := by decide +kernel
theorem dX12_prize_39 : decode cX12_prize 39 = .ok (.getfield 24, 3) := by decide +kernel
theorem dX12_prize_42 : decode cX12_prize 42 = .ok (.iload_n 3, 1) := by decide +kernel
theorem dX12_prize_43 : decode cX12_prize 43 = .ok (.iaload, 1) := by decide +kernel
theorem dX12_prize_44 : decode cX12_prize 44 = .ok (.aload_n 0, 1) := by decide +kernel
theorem dX12_prize_45 : decode cX12_prize 45 = .ok (.getfield 24, 3) := by decide +kernel
theorem dX12_prize_48 : decode cX12_prize 48 = .ok (.iload_n 1, 1) := by decide +kernel
theorem dX12_prize_49 : decode cX12_prize 49 = .ok (.iaload, 1) := by decide +kernel
theorem dX12_prize_50 : decode cX12_prize 50 = .ok (.if_icmp .le 5, 3) := by decide +kernel
theorem dX12_prize_53 : decode cX12_prize 53 = .ok (.iload_n 3, 1) := by decide +kernel
theorem dX12_prize_54 : decode cX12_prize 54 = .ok (.istore_n 1, 1) := by decide +kernel
theorem dX12_prize_55 : decode cX12_prize 55 = .ok (.iinc 3 1, 3) := by decide +kernel
theorem dX12_prize_58 : decode cX12_prize 58 = .ok (.goto (-37), 3) := by decide +kernel
theorem dX12_prize_61 : decode cX12_prize 61 = .ok (.aload_n 0, 1) := by decide +kernel
theorem dX12_prize_62 : decode cX12_prize 62 = .ok (.iconst 0, 1) := by decide +kernel
theorem dX12_prize_63 : decode cX12_prize 63 = .ok (.putfield 113, 3) := by decide +kernel
theorem dX12_prize_66 : decode cX12_prize 66 = .ok (.aload_n 0, 1) := by decide +kernel
theorem dX12_prize_67 : decode cX12_prize 67 = .ok (.aload_n 0, 1) := by decide +kernel
theorem dX12_prize_68 : decode cX12_prize 68 = .ok (.getfield 24, 3) := by decide +kernel
theorem dX12_prize_71 : decode cX12_prize 71 = .ok (.iload_n 1, 1) := by decide +kernel
theorem dX12_prize_72 : decode cX12_prize 72 = .ok (.iaload, 1) := by decide +kernel
theorem dX12_prize_73 : decode cX12_prize 73 = .ok (.i2l, 1) := by decide +kernel
theorem dX12_prize_74 : decode cX12_prize 74 = .ok (.invokevirtual 131, 3) := by decide +kernel
theorem dX12_prize_77 : decode cX12_prize 77 = .ok (.aload_n 0, 1) := by decide +kernel
theorem dX12_prize_78 : decode cX12_prize 78 = .ok (.iload_n 2, 1) := by decide +kernel
theorem dX12_prize_79 : decode cX12_prize 79 = .ok (.i2l, 1) := by decide +kernel
theorem dX12_prize_80 : decode cX12_prize 80 = .ok (.invokevirtual 131, 3) := by decide +kernel
theorem dX12_prize_83 : decode cX12_prize 83 = .ok (.iload_n 1, 1) := by decide +kernel
theorem dX12_prize_84 : decode cX12_prize 84 = .ok (.ireturn, 1) := by decide +kernel
theorem dX12_pointsBehind_0 : decode cX12_pointsBehind 0 = .ok (.aload_n 0, 1) := by decide +kernel
theorem dX12_pointsBehind_1 : decode cX12_pointsBehind 1 = .ok (.iload_n 2, 1) := by decide +kernel
theorem dX12_pointsBehind_2 : decode cX12_pointsBehind 2 = .ok (.aload_n 0, 1) := by decide +kernel
theorem dX12_pointsBehind_3 : decode cX12_pointsBehind 3 = .ok (.getfield 187, 3) := by decide +kernel
theorem dX12_pointsBehind_6 : decode cX12_pointsBehind 6 = .ok (.iconst 0, 1) := by decide +kernel
theorem dX12_pointsBehind_7 : decode cX12_pointsBehind 7 = .ok (.iconst 0, 1) := by decide +kernel
theorem dX12_pointsBehind_8 : decode cX12_pointsBehind 8 = .ok (.invokevirtual 316, 3) := by decide +kernel
theorem dX12_pointsBehind_11 : decode cX12_pointsBehind 11 = .ok (.aload_n 0, 1) := by decide +kernel
theorem dX12_pointsBehind_12 : decode cX12_pointsBehind 12 = .ok (.getfield 21, 3) := by decide +kernel
theorem dX12_pointsBehind_15 : decode cX12_pointsBehind 15 = .ok (.iload_n 1, 1) := by decide +kernel
theorem dX12_pointsBehind_16 : decode cX12_pointsBehind 16 = .ok (.iaload, 1) := by decide +kernel
theorem dX12_pointsBehind_17 : decode cX12_pointsBehind 17 = .ok (.istore_n 3, 1) := by decide +kernel
theorem dX12_pointsBehind_18 : decode cX12_pointsBehind 18 = .ok (.aload_n 0, 1) := by decide +kernel
theorem dX12_pointsBehind_19 : decode cX12_pointsBehind 19 = .ok (.aload_n 0, 1) := by decide +kernel
theorem dX12_pointsBehind_20 : decode cX12_pointsBehind 20 = .ok (.getfield 65, 3) := by decide +kernel
theorem dX12_pointsBehind_23 : decode cX12_pointsBehind 23 = .ok (.iconst 0, 1) := by decide +kernel
theorem dX12_pointsBehind_24 : decode cX12_pointsBehind 24 = .ok (.invokevirtual 302, 3) := by decide +kernel
theorem dX12_pointsBehind_27 : decode cX12_pointsBehind 27 = .ok (.iload_n 3, 1) := by decide +kernel
theorem dX12_pointsBehind_28 : decode cX12_pointsBehind 28 = .ok (.ireturn, 1) := by decide +kernel
theorem dX12_pays_0 : decode cX12_pays 0 = .ok (.aload_n 0, 1) := by decide +kernel
theorem dX12_pays_1 : decode cX12_pays 1 = .ok (.iconst 0, 1) := by decide +kernel
theorem dX12_pays_2 : decode cX12_pays 2 = .ok (.putfield 110, 3) := by decide +kernel
theorem dX12_pays_5 : decode cX12_pays 5 = .ok (.aload_n 0, 1) := by decide +kernel
theorem dX12_pays_6 : decode cX12_pays 6 = .ok (.iload_n 1, 1) := by decide +kernel
theorem dX12_pays_7 : decode cX12_pays 7 = .ok (.invokevirtual 123, 3) := by decide +kernel
theorem dX12_pays_10 : decode cX12_pays 10 = .ok (.ifCond .eq 22, 3) := by decide +kernel
theorem dX12_pays_13 : decode cX12_pays 13 = .ok (.iload_n 2, 1) := by decide +kernel
theorem dX12_pays_14 : decode cX12_pays 14 = .ok (.i2l, 1) := by decide +kernel
theorem dX12_pays_15 : decode cX12_pays 15 = .ok (.lconst 0, 1) := by decide +kernel
theorem dX12_pays_16 : decode cX12_pays 16 = .ok (.ldc2_w 426, 3) := by decide +kernel
theorem dX12_pays_19 : decode cX12_pays 19 = .ok (.invokestatic 119, 3) := by decide +kernel
theorem dX12_pays_22 : decode cX12_pays 22 = .ok (.ifCond .eq 10, 3) := by decide +kernel
theorem dX12_pays_25 : decode cX12_pays 25 = .ok (.aload_n 0, 1) := by decide +kernel
theorem dX12_pays_26 : decode cX12_pays 26 = .ok (.getfield 184, 3) := by decide +kernel
theorem dX12_pays_29 : decode cX12_pays 29 = .ok (.ifCond .ne 5, 3) := by decide +kernel
theorem dX12_pays_32 : decode cX12_pays 32 = .ok (.iconst (-1), 1) := by decide +kernel
theorem dX12_pays_33 : decode cX12_pays 33 = .ok (.ireturn, 1) := by decide +kernel
theorem dX12_pays_34 : decode cX12_pays 34 = .ok (.aload_n 0, 1) := by decide +kernel
theorem dX12_pays_35 : decode cX12_pays 35 = .ok (.aload_n 0, 1) := by decide +kernel
theorem dX12_pays_36 : decode cX12_pays 36 = .ok (.getfield 65, 3) := by decide +kernel
theorem dX12_pays_39 : decode cX12_pays 39 = .ok (.iconst 0, 1) := by decide +kernel
theorem dX12_pays_40 : decode cX12_pays 40 = .ok (.invokevirtual 291, 3) := by decide +kernel
theorem dX12_pays_43 : decode cX12_pays 43 = .ok (.aload_n 0, 1) := by decide +kernel
theorem dX12_pays_44 : decode cX12_pays 44 = .ok (.iload_n 1, 1) := by decide +kernel
theorem dX12_pays_45 : decode cX12_pays 45 = .ok (.iload_n 2, 1) := by decide +kernel
theorem dX12_pays_46 : decode cX12_pays 46 = .ok (.invokevirtual 428, 3) := by decide +kernel
theorem dX12_pays_49 : decode cX12_pays 49 = .ok (.istore_n 3, 1) := by decide +kernel
theorem dX12_pays_50 : decode cX12_pays 50 = .ok (.aload_n 0, 1) := by decide +kernel
theorem dX12_pays_51 : decode cX12_pays 51 = .ok (.getfield 17, 3) := by decide +kernel
theorem dX12_pays_54 : decode cX12_pays 54 = .ok (.iload_n 1, 1) := by decide +kernel
theorem dX12_pays_55 : decode cX12_pays 55 = .ok (.aload_n 0, 1) := by decide +kernel
theorem dX12_pays_56 : decode cX12_pays 56 = .ok (.getfield 17, 3) := by decide +kernel
theorem dX12_pays_59 : decode cX12_pays 59 = .ok (.iload_n 1, 1) := by decide +kernel
theorem dX12_pays_60 : decode cX12_pays 60 = .ok (.baload, 1) := by decide +kernel
theorem dX12_pays_61 : decode cX12_pays 61 = .ok (.ifCond .ne 7, 3) := by decide +kernel
theorem dX12_pays_64 : decode cX12_pays 64 = .ok (.iconst 1, 1) := by decide +kernel
theorem dX12_pays_65 : decode cX12_pays 65 = .ok (.goto 4, 3) := by decide +kernel
theorem dX12_pays_68 : decode cX12_pays 68 = .ok (.iconst 0, 1) := by decide +kernel
theorem dX12_pays_69 : decode cX12_pays 69 = .ok (.bastore, 1) := by decide +kernel
theorem dX12_pays_70 : decode cX12_pays 70 = .ok (.aload_n 0, 1) := by decide +kernel
theorem dX12_pays_71 : decode cX12_pays 71 = .ok (.iload_n 1, 1) := by decide +kernel
theorem dX12_pays_72 : decode cX12_pays 72 = .ok (.iload_n 2, 1) := by decide +kernel
theorem dX12_pays_73 : decode cX12_pays 73 = .ok (.invokevirtual 428, 3) := by decide +kernel
theorem dX12_pays_76 : decode cX12_pays 76 = .ok (.istore 4, 2) := by decide +kernel
theorem dX12_pays_78 : decode cX12_pays 78 = .ok (.aload_n 0, 1) := by decide +kernel
theorem dX12_pays_79 : decode cX12_pays 79 = .ok (.getfield 17, 3) := by decide +kernel
theorem dX12_pays_82 : decode cX12_pays 82 = .ok (.iload_n 1, 1) := by decide +kernel
theorem dX12_pays_83 : decode cX12_pays 83 = .ok (.aload_n 0, 1) := by decide +kernel
theorem dX12_pays_84 : decode cX12_pays 84 = .ok (.getfield 17, 3) := by decide +kernel
theorem dX12_pays_87 : decode cX12_pays 87 = .ok (.iload_n 1, 1) := by decide +kernel
theorem dX12_pays_88 : decode cX12_pays 88 = .ok (.baload, 1) := by decide +kernel
theorem dX12_pays_89 : decode cX12_pays 89 = .ok (.ifCond .ne 7, 3) := by decide +kernel
theorem dX12_pays_92 : decode cX12_pays 92 = .ok (.iconst 1, 1) := by decide +kernel
theorem dX12_pays_93 : decode cX12_pays 93 = .ok (.goto 4, 3) := by decide +kernel
theorem dX12_pays_96 : decode cX12_pays 96 = .ok (.iconst 0, 1) := by decide +kernel
theorem dX12_pays_97 : decode cX12_pays 97 = .ok (.bastore, 1) := by decide +kernel
theorem dX12_pays_98 : decode cX12_pays 98 = .ok (.aload_n 0, 1) := by decide +kernel
theorem dX12_pays_99 : decode cX12_pays 99 = .ok (.iconst 0, 1) := by decide +kernel
theorem dX12_pays_100 : decode cX12_pays 100 = .ok (.putfield 113, 3) := by decide +kernel
theorem dX12_pays_103 : decode cX12_pays 103 = .ok (.aload_n 0, 1) := by decide +kernel
theorem dX12_pays_104 : decode cX12_pays 104 = .ok (.iload_n 3, 1) := by decide +kernel
theorem dX12_pays_105 : decode cX12_pays 105 = .ok (.i2l, 1) := by decide +kernel
theorem dX12_pays_106 : decode cX12_pays 106 = .ok (.invokevirtual 131, 3) := by decide +kernel
theorem dX12_pays_109 : decode cX12_pays 109 = .ok (.aload_n 0, 1) := by decide +kernel
theorem dX12_pays_110 : decode cX12_pays 110 = .ok (.iload 4, 2) := by decide +kernel
theorem dX12_pays_112 : decode cX12_pays 112 = .ok (.i2l, 1) := by decide +kernel
theorem dX12_pays_113 : decode cX12_pays 113 = .ok (.invokevirtual 131, 3) := by decide +kernel
theorem dX12_pays_116 : decode cX12_pays 116 = .ok (.iload_n 3, 1) := by decide +kernel
theorem dX12_pays_117 : decode cX12_pays 117 = .ok (.iload 4, 2) := by decide +kernel
theorem dX12_pays_119 : decode cX12_pays 119 = .ok (.isub, 1) := by decide +kernel
theorem dX12_pays_120 : decode cX12_pays 120 = .ok (.ireturn, 1) := by decide +kernel
theorem dX12_laws_0 : decode cX12_laws 0 = .ok (.aload_n 0, 1) := by decide +kernel
theorem dX12_laws_1 : decode cX12_laws 1 = .ok (.iconst 0, 1) := by decide +kernel
theorem dX12_laws_2 : decode cX12_laws 2 = .ok (.putfield 110, 3) := by decide +kernel
theorem dX12_laws_5 : decode cX12_laws 5 = .ok (.iload_n 1, 1) := by decide +kernel
theorem dX12_laws_6 : decode cX12_laws 6 = .ok (.i2l, 1) := by decide +kernel
theorem dX12_laws_7 : decode cX12_laws 7 = .ok (.lconst 0, 1) := by decide +kernel
theorem dX12_laws_8 : decode cX12_laws 8 = .ok (.ldc2_w 426, 3) := by decide +kernel
theorem dX12_laws_11 : decode cX12_laws 11 = .ok (.invokestatic 119, 3) := by decide +kernel
theorem dX12_laws_14 : decode cX12_laws 14 = .ok (.ifCond .eq 10, 3) := by decide +kernel
theorem dX12_laws_17 : decode cX12_laws 17 = .ok (.aload_n 0, 1) := by decide +kernel
theorem dX12_laws_18 : decode cX12_laws 18 = .ok (.getfield 184, 3) := by decide +kernel
theorem dX12_laws_21 : decode cX12_laws 21 = .ok (.ifCond .ne 5, 3) := by decide +kernel
theorem dX12_laws_24 : decode cX12_laws 24 = .ok (.iconst (-1), 1) := by decide +kernel
theorem dX12_laws_25 : decode cX12_laws 25 = .ok (.ireturn, 1) := by decide +kernel
theorem dX12_laws_26 : decode cX12_laws 26 = .ok (.aload_n 0, 1) := by decide +kernel
theorem dX12_laws_27 : decode cX12_laws 27 = .ok (.getfield 30, 3) := by decide +kernel
theorem dX12_laws_30 : decode cX12_laws 30 = .ok (.iconst 0, 1) := by decide +kernel
theorem dX12_laws_31 : decode cX12_laws 31 = .ok (.iaload, 1) := by decide +kernel
theorem dX12_laws_32 : decode cX12_laws 32 = .ok (.istore_n 2, 1) := by decide +kernel
theorem dX12_laws_33 : decode cX12_laws 33 = .ok (.aload_n 0, 1) := by decide +kernel
theorem dX12_laws_34 : decode cX12_laws 34 = .ok (.aload_n 0, 1) := by decide +kernel
theorem dX12_laws_35 : decode cX12_laws 35 = .ok (.getfield 65, 3) := by decide +kernel
theorem dX12_laws_38 : decode cX12_laws 38 = .ok (.iconst 0, 1) := by decide +kernel
theorem dX12_laws_39 : decode cX12_laws 39 = .ok (.invokevirtual 291, 3) := by decide +kernel
theorem dX12_laws_42 : decode cX12_laws 42 = .ok (.iconst 0, 1) := by decide +kernel
theorem dX12_laws_43 : decode cX12_laws 43 = .ok (.istore_n 3, 1) := by decide +kernel
theorem dX12_laws_44 : decode cX12_laws 44 = .ok (.iconst 0, 1) := by decide +kernel
theorem dX12_laws_45 : decode cX12_laws 45 = .ok (.istore 4, 2) := by decide +kernel
theorem dX12_laws_47 : decode cX12_laws 47 = .ok (.aload_n 0, 1) := by decide +kernel
theorem dX12_laws_48 : decode cX12_laws 48 = .ok (.iconst 0, 1) := by decide +kernel
theorem dX12_laws_49 : decode cX12_laws 49 = .ok (.putfield 113, 3) := by decide +kernel
theorem dX12_laws_52 : decode cX12_laws 52 = .ok (.iconst 0, 1) := by decide +kernel
theorem dX12_laws_53 : decode cX12_laws 53 = .ok (.istore 5, 2) := by decide +kernel
theorem dX12_laws_55 : decode cX12_laws 55 = .ok (.iload 5, 2) := by decide +kernel
theorem dX12_laws_57 : decode cX12_laws 57 = .ok (.iconst 4, 1) := by decide +kernel
theorem dX12_laws_58 : decode cX12_laws 58 = .ok (.if_icmp .ge 72, 3) := by decide +kernel
theorem dX12_laws_61 : decode cX12_laws 61 = .ok (.aload_n 0, 1) := by decide +kernel
theorem dX12_laws_62 : decode cX12_laws 62 = .ok (.getfield 30, 3) := by decide +kernel
theorem dX12_laws_65 : decode cX12_laws 65 = .ok (.iconst 0, 1) := by decide +kernel
theorem dX12_laws_66 : decode cX12_laws 66 = .ok (.iload 5, 2) := by decide +kernel
theorem dX12_laws_68 : decode cX12_laws 68 = .ok (.iastore, 1) := by decide +kernel
theorem dX12_laws_69 : decode cX12_laws 69 = .ok (.aload_n 0, 1) := by decide +kernel
theorem dX12_laws_70 : decode cX12_laws 70 = .ok (.iload_n 1, 1) := by decide +kernel
theorem dX12_laws_71 : decode cX12_laws 71 = .ok (.aload_n 0, 1) := by decide +kernel
theorem dX12_laws_72 : decode cX12_laws 72 = .ok (.getfield 187, 3) := by decide +kernel
theorem dX12_laws_75 : decode cX12_laws 75 = .ok (.iconst 0, 1) := by decide +kernel
theorem dX12_laws_76 : decode cX12_laws 76 = .ok (.iconst 0, 1) := by decide +kernel
theorem dX12_laws_77 : decode cX12_laws 77 = .ok (.invokevirtual 316, 3) := by decide +kernel
theorem dX12_laws_80 : decode cX12_laws 80 = .ok (.aload_n 0, 1) := by decide +kernel
theorem dX12_laws_81 : decode cX12_laws 81 = .ok (.invokevirtual 305, 3) := by decide +kernel
theorem dX12_laws_84 : decode cX12_laws 84 = .ok (.istore 6, 2) := by decide +kernel
theorem dX12_laws_86 : decode cX12_laws 86 = .ok (.aload_n 0, 1) := by decide +kernel
theorem dX12_laws_87 : decode cX12_laws 87 = .ok (.aload_n 0, 1) := by decide +kernel
theorem dX12_laws_88 : decode cX12_laws 88 = .ok (.getfield 65, 3) := by decide +kernel
theorem dX12_laws_91 : decode cX12_laws 91 = .ok (.iconst 0, 1) := by decide +kernel
theorem dX12_laws_92 : decode cX12_laws 92 = .ok (.invokevirtual 302, 3) := by decide +kernel
theorem dX12_laws_95 : decode cX12_laws 95 = .ok (.aload_n 0, 1) := by decide +kernel
theorem dX12_laws_96 : decode cX12_laws 96 = .ok (.iload 6, 2) := by decide +kernel
theorem dX12_laws_98 : decode cX12_laws 98 = .ok (.i2l, 1) := by decide +kernel
theorem dX12_laws_99 : decode cX12_laws 99 = .ok (.invokevirtual 131, 3) := by decide +kernel
theorem dX12_laws_102 : decode cX12_laws 102 = .ok (.iload 5, 2) := by decide +kernel
theorem dX12_laws_104 : decode cX12_laws 104 = .ok (.ifCond .le 13, 3) := by decide +kernel
theorem dX12_laws_107 : decode cX12_laws 107 = .ok (.iload 6, 2) := by decide +kernel
theorem dX12_laws_109 : decode cX12_laws 109 = .ok (.iload 4, 2) := by decide +kernel
theorem dX12_laws_111 : decode cX12_laws 111 = .ok (.if_icmp .gt 6, 3) := by decide +kernel
theorem dX12_laws_114 : decode cX12_laws 114 = .ok (.goto 10, 3) := by decide +kernel
theorem dX12_laws_117 : decode cX12_laws 117 = .ok (.iload 5, 2) := by decide +kernel
theorem dX12_laws_119 : decode cX12_laws 119 = .ok (.istore_n 3, 1) := by decide +kernel
theorem dX12_laws_120 : decode cX12_laws 120 = .ok (.iload 6, 2) := by decide +kernel
theorem dX12_laws_122 : decode cX12_laws 122 = .ok (.istore 4, 2) := by decide +kernel
theorem dX12_laws_124 : decode cX12_laws 124 = .ok (.iinc 5 1, 3) := by decide +kernel
theorem dX12_laws_127 : decode cX12_laws 127 = .ok (.goto (-72), 3) := by decide +kernel
theorem dX12_laws_130 : decode cX12_laws 130 = .ok (.aload_n 0, 1) := by decide +kernel
theorem dX12_laws_131 : decode cX12_laws 131 = .ok (.getfield 30, 3) := by decide +kernel
theorem dX12_laws_134 : decode cX12_laws 134 = .ok (.iconst 0, 1) := by decide +kernel
theorem dX12_laws_135 : decode cX12_laws 135 = .ok (.iload_n 2, 1) := by decide +kernel
theorem dX12_laws_136 : decode cX12_laws 136 = .ok (.iastore, 1) := by decide +kernel
theorem dX12_laws_137 : decode cX12_laws 137 = .ok (.iload_n 3, 1) := by decide +kernel
theorem dX12_laws_138 : decode cX12_laws 138 = .ok (.ireturn, 1) := by decide +kernel
theorem dX12_seed_0 : decode cX12_seed 0 = .ok (.aload_n 0, 1) := by decide +kernel
theorem dX12_seed_1 : decode cX12_seed 1 = .ok (.iconst 0, 1) := by decide +kernel
theorem dX12_seed_2 : decode cX12_seed 2 = .ok (.putfield 110, 3) := by decide +kernel
theorem dX12_seed_5 : decode cX12_seed 5 = .ok (.aload_n 0, 1) := by decide +kernel
theorem dX12_seed_6 : decode cX12_seed 6 = .ok (.getfield 33, 3) := by decide +kernel
theorem dX12_seed_9 : decode cX12_seed 9 = .ok (.istore_n 2, 1) := by decide +kernel
theorem dX12_seed_10 : decode cX12_seed 10 = .ok (.aload_n 0, 1) := by decide +kernel
theorem dX12_seed_11 : decode cX12_seed 11 = .ok (.iload_n 1, 1) := by decide +kernel
theorem dX12_seed_12 : decode cX12_seed 12 = .ok (.putfield 33, 3) := by decide +kernel
theorem dX12_seed_15 : decode cX12_seed 15 = .ok (.iload_n 2, 1) := by decide +kernel
theorem dX12_seed_16 : decode cX12_seed 16 = .ok (.ireturn, 1) := by decide +kernel
theorem dX12_keep_0 : decode cX12_keep 0 = .ok (.aload_n 0, 1) := by decide +kernel
theorem dX12_keep_1 : decode cX12_keep 1 = .ok (.iconst 0, 1) := by decide +kernel
theorem dX12_keep_2 : decode cX12_keep 2 = .ok (.putfield 110, 3) := by decide +kernel
theorem dX12_keep_5 : decode cX12_keep 5 = .ok (.iload_n 1, 1) := by decide +kernel
theorem dX12_keep_6 : decode cX12_keep 6 = .ok (.i2l, 1) := by decide +kernel
theorem dX12_keep_7 : decode cX12_keep 7 = .ok (.lconst 0, 1) := by decide +kernel
theorem dX12_keep_8 : decode cX12_keep 8 = .ok (.lconst 1, 1) := by decide +kernel
theorem dX12_keep_9 : decode cX12_keep 9 = .ok (.invokestatic 119, 3) := by decide +kernel
theorem dX12_keep_12 : decode cX12_keep 12 = .ok (.ifCond .ne 5, 3) := by decide +kernel
theorem dX12_keep_15 : decode cX12_keep 15 = .ok (.iconst 0, 1) := by decide +kernel
theorem dX12_keep_16 : decode cX12_keep 16 = .ok (.ireturn, 1) := by decide +kernel
theorem dX12_keep_17 : decode cX12_keep 17 = .ok (.aload_n 0, 1) := by decide +kernel
theorem dX12_keep_18 : decode cX12_keep 18 = .ok (.getfield 104, 3) := by decide +kernel
theorem dX12_keep_21 : decode cX12_keep 21 = .ok (.iload_n 1, 1) := by decide +kernel
theorem dX12_keep_22 : decode cX12_keep 22 = .ok (.iconst 1, 1) := by decide +kernel
theorem dX12_keep_23 : decode cX12_keep 23 = .ok (.bastore, 1) := by decide +kernel
theorem dX12_keep_24 : decode cX12_keep 24 = .ok (.aload_n 0, 1) := by decide +kernel
theorem dX12_keep_25 : decode cX12_keep 25 = .ok (.getfield 107, 3) := by decide +kernel
theorem dX12_keep_28 : decode cX12_keep 28 = .ok (.iload_n 1, 1) := by decide +kernel
theorem dX12_keep_29 : decode cX12_keep 29 = .ok (.aload_n 0, 1) := by decide +kernel
theorem dX12_keep_30 : decode cX12_keep 30 = .ok (.getfield 193, 3) := by decide +kernel
theorem dX12_keep_33 : decode cX12_keep 33 = .ok (.iastore, 1) := by decide +kernel
theorem dX12_keep_34 : decode cX12_keep 34 = .ok (.bipush 71, 2) := by decide +kernel
theorem dX12_keep_36 : decode cX12_keep 36 = .ok (.iload_n 1, 1) := by decide +kernel
theorem dX12_keep_37 : decode cX12_keep 37 = .ok (.imul, 1) := by decide +kernel
theorem dX12_keep_38 : decode cX12_keep 38 = .ok (.istore_n 2, 1) := by decide +kernel
theorem dX12_keep_39 : decode cX12_keep 39 = .ok (.aload_n 0, 1) := by decide +kernel
theorem dX12_keep_40 : decode cX12_keep 40 = .ok (.aload_n 0, 1) := by decide +kernel
theorem dX12_keep_41 : decode cX12_keep 41 = .ok (.getfield 101, 3) := by decide +kernel
theorem dX12_keep_44 : decode cX12_keep 44 = .ok (.iload_n 2, 1) := by decide +kernel
theorem dX12_keep_45 : decode cX12_keep 45 = .ok (.invokevirtual 291, 3) := by decide +kernel
theorem dX12_keep_48 : decode cX12_keep 48 = .ok (.iinc 2 57, 3) := by decide +kernel
theorem dX12_keep_51 : decode cX12_keep 51 = .ok (.iconst 0, 1) := by decide +kernel
theorem dX12_keep_52 : decode cX12_keep 52 = .ok (.istore_n 3, 1) := by decide +kernel
theorem dX12_keep_53 : decode cX12_keep 53 = .ok (.iload_n 3, 1) := by decide +kernel
theorem dX12_keep_54 : decode cX12_keep 54 = .ok (.bipush 8, 2) := by decide +kernel
theorem dX12_keep_56 : decode cX12_keep 56 = .ok (.if_icmp .ge 31, 3) := by decide +kernel
theorem dX12_keep_59 : decode cX12_keep 59 = .ok (.aload_n 0, 1) := by decide +kernel
theorem dX12_keep_60 : decode cX12_keep 60 = .ok (.getfield 101, 3) := by decide +kernel
theorem dX12_keep_63 : decode cX12_keep 63 = .ok (.iload_n 2, 1) := by decide +kernel
theorem dX12_keep_64 : decode cX12_keep 64 = .ok (.iload_n 3, 1) := by decide +kernel
theorem dX12_keep_65 : decode cX12_keep 65 = .ok (.iadd, 1) := by decide +kernel
theorem dX12_keep_66 : decode cX12_keep 66 = .ok (.aload_n 0, 1) := by decide +kernel
theorem dX12_keep_67 : decode cX12_keep 67 = .ok (.getfield 17, 3) := by decide +kernel
theorem dX12_keep_70 : decode cX12_keep 70 = .ok (.iload_n 3, 1) := by decide +kernel
theorem dX12_keep_71 : decode cX12_keep 71 = .ok (.baload, 1) := by decide +kernel
theorem dX12_keep_72 : decode cX12_keep 72 = .ok (.ifCond .eq 7, 3) := by decide +kernel
theorem dX12_keep_75 : decode cX12_keep 75 = .ok (.iconst 1, 1) := by decide +kernel
theorem dX12_keep_76 : decode cX12_keep 76 = .ok (.goto 4, 3) := by decide +kernel
theorem dX12_keep_79 : decode cX12_keep 79 = .ok (.iconst 0, 1) := by decide +kernel
theorem dX12_keep_80 : decode cX12_keep 80 = .ok (.iastore, 1) := by decide +kernel
theorem dX12_keep_81 : decode cX12_keep 81 = .ok (.iinc 3 1, 3) := by decide +kernel
theorem dX12_keep_84 : decode cX12_keep 84 = .ok (.goto (-31), 3) := by decide +kernel
theorem dX12_keep_87 : decode cX12_keep 87 = .ok (.iinc 2 8, 3) := by decide +kernel
theorem dX12_keep_90 : decode cX12_keep 90 = .ok (.iconst 0, 1) := by decide +kernel
theorem dX12_keep_91 : decode cX12_keep 91 = .ok (.istore_n 3, 1) := by decide +kernel
theorem dX12_keep_92 : decode cX12_keep 92 = .ok (.iload_n 3, 1) := by decide +kernel
theorem dX12_keep_93 : decode cX12_keep 93 = .ok (.iconst 5, 1) := by decide +kernel
theorem dX12_keep_94 : decode cX12_keep 94 = .ok (.if_icmp .ge 23, 3) := by decide +kernel
theorem dX12_keep_97 : decode cX12_keep 97 = .ok (.aload_n 0, 1) := by decide +kernel
theorem dX12_keep_98 : decode cX12_keep 98 = .ok (.getfield 101, 3) := by decide +kernel
theorem dX12_keep_101 : decode cX12_keep 101 = .ok (.iload_n 2, 1) := by decide +kernel
theorem dX12_keep_102 : decode cX12_keep 102 = .ok (.iload_n 3, 1) := by decide +kernel
theorem dX12_keep_103 : decode cX12_keep 103 = .ok (.iadd, 1) := by decide +kernel
theorem dX12_keep_104 : decode cX12_keep 104 = .ok (.aload_n 0, 1) := by decide +kernel
theorem dX12_keep_105 : decode cX12_keep 105 = .ok (.getfield 30, 3) := by decide +kernel
theorem dX12_keep_108 : decode cX12_keep 108 = .ok (.iload_n 3, 1) := by decide +kernel
theorem dX12_keep_109 : decode cX12_keep 109 = .ok (.iaload, 1) := by decide +kernel
theorem dX12_keep_110 : decode cX12_keep 110 = .ok (.iastore, 1) := by decide +kernel
theorem dX12_keep_111 : decode cX12_keep 111 = .ok (.iinc 3 1, 3) := by decide +kernel
theorem dX12_keep_114 : decode cX12_keep 114 = .ok (.goto (-22), 3) := by decide +kernel
theorem dX12_keep_117 : decode cX12_keep 117 = .ok (.aload_n 0, 1) := by decide +kernel
theorem dX12_keep_118 : decode cX12_keep 118 = .ok (.getfield 101, 3) := by decide +kernel
theorem dX12_keep_121 : decode cX12_keep 121 = .ok (.iload_n 2, 1) := by decide +kernel
theorem dX12_keep_122 : decode cX12_keep 122 = .ok (.iconst 5, 1) := by decide +kernel
theorem dX12_keep_123 : decode cX12_keep 123 = .ok (.iadd, 1) := by decide +kernel
theorem dX12_keep_124 : decode cX12_keep 124 = .ok (.aload_n 0, 1) := by decide +kernel
theorem dX12_keep_125 : decode cX12_keep 125 = .ok (.getfield 187, 3) := by decide +kernel
theorem dX12_keep_128 : decode cX12_keep 128 = .ok (.iastore, 1) := by decide +kernel
theorem dX12_keep_129 : decode cX12_keep 129 = .ok (.iconst 1, 1) := by decide +kernel
theorem dX12_keep_130 : decode cX12_keep 130 = .ok (.ireturn, 1) := by decide +kernel
theorem dX12_again_0 : decode cX12_again 0 = .ok (.aload_n 0, 1) := by decide +kernel
theorem dX12_again_1 : decode cX12_again 1 = .ok (.iconst 0, 1) := by decide +kernel
theorem dX12_again_2 : decode cX12_again 2 = .ok (.putfield 110, 3) := by decide +kernel
theorem dX12_again_5 : decode cX12_again 5 = .ok (.iload_n 1, 1) := by decide +kernel
theorem dX12_again_6 : decode cX12_again 6 = .ok (.i2l, 1) := by decide +kernel
theorem dX12_again_7 : decode cX12_again 7 = .ok (.lconst 0, 1) := by decide +kernel
theorem dX12_again_8 : decode cX12_again 8 = .ok (.lconst 1, 1) := by decide +kernel
theorem dX12_again_9 : decode cX12_again 9 = .ok (.invokestatic 119, 3) := by decide +kernel
theorem dX12_again_12 : decode cX12_again 12 = .ok (.ifCond .eq 25, 3) := by decide +kernel
theorem dX12_again_15 : decode cX12_again 15 = .ok (.aload_n 0, 1) := by decide +kernel
theorem dX12_again_16 : decode cX12_again 16 = .ok (.getfield 104, 3) := by decide +kernel
theorem dX12_again_19 : decode cX12_again 19 = .ok (.iload_n 1, 1) := by decide +kernel
theorem dX12_again_20 : decode cX12_again 20 = .ok (.baload, 1) := by decide +kernel
theorem dX12_again_21 : decode cX12_again 21 = .ok (.ifCond .eq 16, 3) := by decide +kernel
theorem dX12_again_24 : decode cX12_again 24 = .ok (.aload_n 0, 1) := by decide +kernel
theorem dX12_again_25 : decode cX12_again 25 = .ok (.getfield 107, 3) := by decide +kernel
theorem dX12_again_28 : decode cX12_again 28 = .ok (.iload_n 1, 1) := by decide +kernel
theorem dX12_again_29 : decode cX12_again 29 = .ok (.iaload, 1) := by decide +kernel
theorem dX12_again_30 : decode cX12_again 30 = .ok (.aload_n 0, 1) := by decide +kernel
theorem dX12_again_31 : decode cX12_again 31 = .ok (.getfield 193, 3) := by decide +kernel
theorem dX12_again_34 : decode cX12_again 34 = .ok (.if_icmp .eq 5, 3) := by decide +kernel
theorem dX12_again_37 : decode cX12_again 37 = .ok (.iconst 0, 1) := by decide +kernel
theorem dX12_again_38 : decode cX12_again 38 = .ok (.ireturn, 1) := by decide +kernel
theorem dX12_again_39 : decode cX12_again 39 = .ok (.bipush 71, 2) := by decide +kernel
theorem dX12_again_41 : decode cX12_again 41 = .ok (.iload_n 1, 1) := by decide +kernel
theorem dX12_again_42 : decode cX12_again 42 = .ok (.imul, 1) := by decide +kernel
theorem dX12_again_43 : decode cX12_again 43 = .ok (.istore_n 2, 1) := by decide +kernel
theorem dX12_again_44 : decode cX12_again 44 = .ok (.aload_n 0, 1) := by decide +kernel
theorem dX12_again_45 : decode cX12_again 45 = .ok (.aload_n 0, 1) := by decide +kernel
theorem dX12_again_46 : decode cX12_again 46 = .ok (.getfield 101, 3) := by decide +kernel
theorem dX12_again_49 : decode cX12_again 49 = .ok (.iload_n 2, 1) := by decide +kernel
theorem dX12_again_50 : decode cX12_again 50 = .ok (.invokevirtual 302, 3) := by decide +kernel
theorem dX12_again_53 : decode cX12_again 53 = .ok (.iinc 2 57, 3) := by decide +kernel
theorem dX12_again_56 : decode cX12_again 56 = .ok (.iconst 0, 1) := by decide +kernel
theorem dX12_again_57 : decode cX12_again 57 = .ok (.istore_n 3, 1) := by decide +kernel
theorem dX12_again_58 : decode cX12_again 58 = .ok (.iload_n 3, 1) := by decide +kernel
theorem dX12_again_59 : decode cX12_again 59 = .ok (.bipush 8, 2) := by decide +kernel
theorem dX12_again_61 : decode cX12_again 61 = .ok (.if_icmp .ge 32, 3) := by decide +kernel
theorem dX12_again_64 : decode cX12_again 64 = .ok (.aload_n 0, 1) := by decide +kernel
theorem dX12_again_65 : decode cX12_again 65 = .ok (.getfield 17, 3) := by decide +kernel
theorem dX12_again_68 : decode cX12_again 68 = .ok (.iload_n 3, 1) := by decide +kernel
theorem dX12_again_69 : decode cX12_again 69 = .ok (.aload_n 0, 1) := by decide +kernel
theorem dX12_again_70 : decode cX12_again 70 = .ok (.getfield 101, 3) := by decide +kernel
theorem dX12_again_73 : decode cX12_again 73 = .ok (.iload_n 2, 1) := by decide +kernel
theorem dX12_again_74 : decode cX12_again 74 = .ok (.iload_n 3, 1) := by decide +kernel
theorem dX12_again_75 : decode cX12_again 75 = .ok (.iadd, 1) := by decide +kernel
theorem dX12_again_76 : decode cX12_again 76 = .ok (.iaload, 1) := by decide +kernel
theorem dX12_again_77 : decode cX12_again 77 = .ok (.iconst 1, 1) := by decide +kernel
theorem dX12_again_78 : decode cX12_again 78 = .ok (.if_icmp .ne 7, 3) := by decide +kernel
theorem dX12_again_81 : decode cX12_again 81 = .ok (.iconst 1, 1) := by decide +kernel
theorem dX12_again_82 : decode cX12_again 82 = .ok (.goto 4, 3) := by decide +kernel
theorem dX12_again_85 : decode cX12_again 85 = .ok (.iconst 0, 1) := by decide +kernel
theorem dX12_again_86 : decode cX12_again 86 = .ok (.bastore, 1) := by decide +kernel
theorem dX12_again_87 : decode cX12_again 87 = .ok (.iinc 3 1, 3) := by decide +kernel
theorem dX12_again_90 : decode cX12_again 90 = .ok (.goto (-32), 3) := by decide +kernel
theorem dX12_again_93 : decode cX12_again 93 = .ok (.iinc 2 8, 3) := by decide +kernel
theorem dX12_again_96 : decode cX12_again 96 = .ok (.iconst 0, 1) := by decide +kernel
theorem dX12_again_97 : decode cX12_again 97 = .ok (.istore_n 3, 1) := by decide +kernel
theorem dX12_again_98 : decode cX12_again 98 = .ok (.iload_n 3, 1) := by decide +kernel
theorem dX12_again_99 : decode cX12_again 99 = .ok (.iconst 5, 1) := by decide +kernel
theorem dX12_again_100 : decode cX12_again 100 = .ok (.if_icmp .ge 23, 3) := by decide +kernel
theorem dX12_again_103 : decode cX12_again 103 = .ok (.aload_n 0, 1) := by decide +kernel
theorem dX12_again_104 : decode cX12_again 104 = .ok (.getfield 30, 3) := by decide +kernel
theorem dX12_again_107 : decode cX12_again 107 = .ok (.iload_n 3, 1) := by decide +kernel
theorem dX12_again_108 : decode cX12_again 108 = .ok (.aload_n 0, 1) := by decide +kernel
theorem dX12_again_109 : decode cX12_again 109 = .ok (.getfield 101, 3) := by decide +kernel
theorem dX12_again_112 : decode cX12_again 112 = .ok (.iload_n 2, 1) := by decide +kernel
theorem dX12_again_113 : decode cX12_again 113 = .ok (.iload_n 3, 1) := by decide +kernel
theorem dX12_again_114 : decode cX12_again 114 = .ok (.iadd, 1) := by decide +kernel
theorem dX12_again_115 : decode cX12_again 115 = .ok (.iaload, 1) := by decide +kernel
theorem dX12_again_116 : decode cX12_again 116 = .ok (.iastore, 1) := by decide +kernel
theorem dX12_again_117 : decode cX12_again 117 = .ok (.iinc 3 1, 3) := by decide +kernel
theorem dX12_again_120 : decode cX12_again 120 = .ok (.goto (-22), 3) := by decide +kernel
theorem dX12_again_123 : decode cX12_again 123 = .ok (.aload_n 0, 1) := by decide +kernel
theorem dX12_again_124 : decode cX12_again 124 = .ok (.aload_n 0, 1) := by decide +kernel
theorem dX12_again_125 : decode cX12_again 125 = .ok (.getfield 184, 3) := by decide +kernel
theorem dX12_again_128 : decode cX12_again 128 = .ok (.ifCond .ne 7, 3) := by decide +kernel
theorem dX12_again_131 : decode cX12_again 131 = .ok (.iconst 0, 1) := by decide +kernel
theorem dX12_again_132 : decode cX12_again 132 = .ok (.goto 16, 3) := by decide +kernel
theorem dX12_again_135 : decode cX12_again 135 = .ok (.aload_n 0, 1) := by decide +kernel
theorem dX12_again_136 : decode cX12_again 136 = .ok (.getfield 101, 3) := by decide +kernel
theorem dX12_again_139 : decode cX12_again 139 = .ok (.iload_n 2, 1) := by decide +kernel
theorem dX12_again_140 : decode cX12_again 140 = .ok (.iconst 5, 1) := by decide +kernel
theorem dX12_again_141 : decode cX12_again 141 = .ok (.iadd, 1) := by decide +kernel
theorem dX12_again_142 : decode cX12_again 142 = .ok (.iaload, 1) := by decide +kernel
theorem dX12_again_143 : decode cX12_again 143 = .ok (.aload_n 0, 1) := by decide +kernel
theorem dX12_again_144 : decode cX12_again 144 = .ok (.getfield 184, 3) := by decide +kernel
theorem dX12_again_147 : decode cX12_again 147 = .ok (.irem, 1) := by decide +kernel
theorem dX12_again_148 : decode cX12_again 148 = .ok (.putfield 187, 3) := by decide +kernel
theorem dX12_again_151 : decode cX12_again 151 = .ok (.aload_n 0, 1) := by decide +kernel
theorem dX12_again_152 : decode cX12_again 152 = .ok (.iconst 0, 1) := by decide +kernel
theorem dX12_again_153 : decode cX12_again 153 = .ok (.putfield 196, 3) := by decide +kernel
theorem dX12_again_156 : decode cX12_again 156 = .ok (.iconst 1, 1) := by decide +kernel
theorem dX12_again_157 : decode cX12_again 157 = .ok (.ireturn, 1) := by decide +kernel
theorem dX12_count_0 : decode cX12_count 0 = .ok (.aload_n 0, 1) := by decide +kernel
theorem dX12_count_1 : decode cX12_count 1 = .ok (.iconst 0, 1) := by decide +kernel
theorem dX12_count_2 : decode cX12_count 2 = .ok (.putfield 110, 3) := by decide +kernel
theorem dX12_count_5 : decode cX12_count 5 = .ok (.iload_n 1, 1) := by decide +kernel
theorem dX12_count_6 : decode cX12_count 6 = .ok (.tableswitch 95 0 8 #[50, 55, 60, 65, 70, 75, 80, 85, 90], 50) := by decide +kernel
theorem dX12_count_56 : decode cX12_count 56 = .ok (.aload_n 0, 1) := by decide +kernel
theorem dX12_count_57 : decode cX12_count 57 = .ok (.getfield 116, 3) := by decide +kernel
theorem dX12_count_60 : decode cX12_count 60 = .ok (.ireturn, 1) := by decide +kernel
theorem dX12_count_61 : decode cX12_count 61 = .ok (.aload_n 0, 1) := by decide +kernel
theorem dX12_count_62 : decode cX12_count 62 = .ok (.getfield 9, 3) := by decide +kernel
theorem dX12_count_65 : decode cX12_count 65 = .ok (.ireturn, 1) := by decide +kernel
theorem dX12_count_66 : decode cX12_count 66 = .ok (.aload_n 0, 1) := by decide +kernel
theorem dX12_count_67 : decode cX12_count 67 = .ok (.getfield 184, 3) := by decide +kernel
theorem dX12_count_70 : decode cX12_count 70 = .ok (.ireturn, 1) := by decide +kernel
theorem dX12_count_71 : decode cX12_count 71 = .ok (.aload_n 0, 1) := by decide +kernel
theorem dX12_count_72 : decode cX12_count 72 = .ok (.getfield 187, 3) := by decide +kernel
theorem dX12_count_75 : decode cX12_count 75 = .ok (.ireturn, 1) := by decide +kernel
theorem dX12_count_76 : decode cX12_count 76 = .ok (.aload_n 0, 1) := by decide +kernel
theorem dX12_count_77 : decode cX12_count 77 = .ok (.getfield 196, 3) := by decide +kernel
theorem dX12_count_80 : decode cX12_count 80 = .ok (.ireturn, 1) := by decide +kernel
theorem dX12_count_81 : decode cX12_count 81 = .ok (.aload_n 0, 1) := by decide +kernel
theorem dX12_count_82 : decode cX12_count 82 = .ok (.getfield 190, 3) := by decide +kernel
theorem dX12_count_85 : decode cX12_count 85 = .ok (.ireturn, 1) := by decide +kernel
theorem dX12_count_86 : decode cX12_count 86 = .ok (.aload_n 0, 1) := by decide +kernel
theorem dX12_count_87 : decode cX12_count 87 = .ok (.getfield 113, 3) := by decide +kernel
theorem dX12_count_90 : decode cX12_count 90 = .ok (.ireturn, 1) := by decide +kernel
theorem dX12_count_91 : decode cX12_count 91 = .ok (.aload_n 0, 1) := by decide +kernel
theorem dX12_count_92 : decode cX12_count 92 = .ok (.getfield 135, 3) := by decide +kernel
theorem dX12_count_95 : decode cX12_count 95 = .ok (.ireturn, 1) := by decide +kernel
theorem dX12_count_96 : decode cX12_count 96 = .ok (.aload_n 0, 1) := by decide +kernel
theorem dX12_count_97 : decode cX12_count 97 = .ok (.getfield 181, 3) := by decide +kernel
theorem dX12_count_100 : decode cX12_count 100 = .ok (.ireturn, 1) := by decide +kernel
theorem dX12_count_101 : decode cX12_count 101 = .ok (.iconst (-1), 1) := by decide +kernel
theorem dX12_count_102 : decode cX12_count 102 = .ok (.ireturn, 1) := by decide +kernel
theorem dX12_row_0 : decode cX12_row 0 = .ok (.aload_n 0, 1) := by decide +kernel
theorem dX12_row_1 : decode cX12_row 1 = .ok (.iconst 0, 1) := by decide +kernel
theorem dX12_row_2 : decode cX12_row 2 = .ok (.putfield 110, 3) := by decide +kernel
theorem dX12_row_5 : decode cX12_row 5 = .ok (.iload_n 1, 1) := by decide +kernel
theorem dX12_row_6 : decode cX12_row 6 = .ok (.i2l, 1) := by decide +kernel
theorem dX12_row_7 : decode cX12_row 7 = .ok (.lconst 0, 1) := by decide +kernel
theorem dX12_row_8 : decode cX12_row 8 = .ok (.aload_n 0, 1) := by decide +kernel
theorem dX12_row_9 : decode cX12_row 9 = .ok (.getfield 113, 3) := by decide +kernel
theorem dX12_row_12 : decode cX12_row 12 = .ok (.iconst 1, 1) := by decide +kernel
theorem dX12_row_13 : decode cX12_row 13 = .ok (.isub, 1) := by decide +kernel
theorem dX12_row_14 : decode cX12_row 14 = .ok (.i2l, 1) := by decide +kernel
theorem dX12_row_15 : decode cX12_row 15 = .ok (.invokestatic 119, 3) := by decide +kernel
theorem dX12_row_18 : decode cX12_row 18 = .ok (.ifCond .eq 12, 3) := by decide +kernel
theorem dX12_row_21 : decode cX12_row 21 = .ok (.aload_n 0, 1) := by decide +kernel
theorem dX12_row_22 : decode cX12_row 22 = .ok (.getfield 43, 3) := by decide +kernel
theorem dX12_row_25 : decode cX12_row 25 = .ok (.iload_n 1, 1) := by decide +kernel
theorem dX12_row_26 : decode cX12_row 26 = .ok (.laload, 1) := by decide +kernel
theorem dX12_row_27 : decode cX12_row 27 = .ok (.goto 8, 3) := by decide +kernel
theorem dX12_row_30 : decode cX12_row 30 = .ok (.aload_n 0, 1) := by decide +kernel
theorem dX12_row_31 : decode cX12_row 31 = .ok (.invokevirtual 252, 3) := by decide +kernel
theorem dX12_row_34 : decode cX12_row 34 = .ok (.i2l, 1) := by decide +kernel
theorem dX12_row_35 : decode cX12_row 35 = .ok (.lreturn, 1) := by decide +kernel
