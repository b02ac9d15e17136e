theorem dX7_pieceIn_0 : decode cX7_pieceIn 0 = .ok (.iload_n 0, 1) := by decide +kernel
theorem dX7_pieceIn_1 : decode cX7_pieceIn 1 = .ok (.ifCond .ne 7, 3) := by decide +kernel
theorem dX7_pieceIn_4 : decode cX7_pieceIn 4 = .ok (.iconst (-1), 1) := by decide +kernel
theorem dX7_pieceIn_5 : decode cX7_pieceIn 5 = .ok (.goto 9, 3) := by decide +kernel
theorem dX7_pieceIn_8 : decode cX7_pieceIn 8 = .ok (.iload_n 0, 1) := by decide +kernel
theorem dX7_pieceIn_9 : decode cX7_pieceIn 9 = .ok (.iconst 1, 1) := by decide +kernel
theorem dX7_pieceIn_10 : decode cX7_pieceIn 10 = .ok (.isub, 1) := by decide +kernel
theorem dX7_pieceIn_11 : decode cX7_pieceIn 11 = .ok (.bipush 64, 2) := by decide +kernel
theorem dX7_pieceIn_13 : decode cX7_pieceIn 13 = .ok (.irem, 1) := by decide +kernel
theorem dX7_pieceIn_14 : decode cX7_pieceIn 14 = .ok (.ireturn, 1) := by decide +kernel
theorem dX7_ownPlace_0 : decode cX7_ownPlace 0 = .ok (.iload_n 0, 1) := by decide +kernel
theorem dX7_ownPlace_1 : decode cX7_ownPlace 1 = .ok (.bipush 64, 2) := by decide +kernel
theorem dX7_ownPlace_3 : decode cX7_ownPlace 3 = .ok (.if_icmp .le 9, 3) := by decide +kernel
theorem dX7_ownPlace_6 : decode cX7_ownPlace 6 = .ok (.iload_n 1, 1) := by decide +kernel
theorem dX7_ownPlace_7 : decode cX7_ownPlace 7 = .ok (.iconst 1, 1) := by decide +kernel
theorem dX7_ownPlace_8 : decode cX7_ownPlace 8 = .ok (.isub, 1) := by decide +kernel
theorem dX7_ownPlace_9 : decode cX7_ownPlace 9 = .ok (.goto 4, 3) := by decide +kernel
theorem dX7_ownPlace_12 : decode cX7_ownPlace 12 = .ok (.iload_n 1, 1) := by decide +kernel
theorem dX7_ownPlace_13 : decode cX7_ownPlace 13 = .ok (.ireturn, 1) := by decide +kernel
theorem dX8_init_0 : decode cX8_init 0 = .ok (.aload_n 0, 1) := by decide +kernel
theorem dX8_init_1 : decode cX8_init 1 = .ok (.invokespecial 1, 3) := by decide +kernel
theorem dX8_init_4 : decode cX8_init 4 = .ok (.aload_n 0, 1) := by decide +kernel
theorem dX8_init_5 : decode cX8_init 5 = .ok (.bipush 51, 2) := by decide +kernel
theorem dX8_init_7 : decode cX8_init 7 = .ok (.newarray .int, 2) := by decide +kernel
theorem dX8_init_9 : decode cX8_init 9 = .ok (.putfield 7, 3) := by decide +kernel
theorem dX8_init_12 : decode cX8_init 12 = .ok (.aload_n 0, 1) := by decide +kernel
theorem dX8_init_13 : decode cX8_init 13 = .ok (.bipush 40, 2) := by decide +kernel
theorem dX8_init_15 : decode cX8_init 15 = .ok (.newarray .int, 2) := by decide +kernel
theorem dX8_init_17 : decode cX8_init 17 = .ok (.putfield 13, 3) := by decide +kernel
theorem dX8_init_20 : decode cX8_init 20 = .ok (.aload_n 0, 1) := by decide +kernel
theorem dX8_init_21 : decode cX8_init 21 = .ok (.bipush 40, 2) := by decide +kernel
theorem dX8_init_23 : decode cX8_init 23 = .ok (.newarray .int, 2) := by decide +kernel
theorem dX8_init_25 : decode cX8_init 25 = .ok (.putfield 16, 3) := by decide +kernel
theorem dX8_init_28 : decode cX8_init 28 = .ok (.aload_n 0, 1) := by decide +kernel
theorem dX8_init_29 : decode cX8_init 29 = .ok (.sipush 160, 3) := by decide +kernel
theorem dX8_init_32 : decode cX8_init 32 = .ok (.newarray .int, 2) := by decide +kernel
theorem dX8_init_34 : decode cX8_init 34 = .ok (.putfield 19, 3) := by decide +kernel
theorem dX8_init_37 : decode cX8_init 37 = .ok (.aload_n 0, 1) := by decide +kernel
theorem dX8_init_38 : decode cX8_init 38 = .ok (.iconst 2, 1) := by decide +kernel
theorem dX8_init_39 : decode cX8_init 39 = .ok (.putfield 22, 3) := by decide +kernel
theorem dX8_init_42 : decode cX8_init 42 = .ok (.aload_n 0, 1) := by decide +kernel
theorem dX8_init_43 : decode cX8_init 43 = .ok (.sipush 256, 3) := by decide +kernel
theorem dX8_init_46 : decode cX8_init 46 = .ok (.newarray .int, 2) := by decide +kernel
theorem dX8_init_48 : decode cX8_init 48 = .ok (.putfield 26, 3) := by decide +kernel
theorem dX8_init_51 : decode cX8_init 51 = .ok (.aload_n 0, 1) := by decide +kernel
theorem dX8_init_52 : decode cX8_init 52 = .ok (.sipush 256, 3) := by decide +kernel
theorem dX8_init_55 : decode cX8_init 55 = .ok (.newarray .int, 2) := by decide +kernel
theorem dX8_init_57 : decode cX8_init 57 = .ok (.putfield 29, 3) := by decide +kernel
theorem dX8_init_60 : decode cX8_init 60 = .ok (.aload_n 0, 1) := by decide +kernel
theorem dX8_init_61 : decode cX8_init 61 = .ok (.sipush 153, 3) := by decide +kernel
theorem dX8_init_64 : decode cX8_init 64 = .ok (.newarray .int, 2) := by decide +kernel
theorem dX8_init_66 : decode cX8_init 66 = .ok (.putfield 32, 3) := by decide +kernel
theorem dX8_init_69 : decode cX8_init 69 = .ok (.aload_n 0, 1) := by decide +kernel
theorem dX8_init_70 : decode cX8_init 70 = .ok (.bipush 120, 2) := by decide +kernel
theorem dX8_init_72 : decode cX8_init 72 = .ok (.newarray .int, 2) := by decide +kernel
theorem dX8_init_74 : decode cX8_init 74 = .ok (.putfield 35, 3) := by decide +kernel
theorem dX8_init_77 : decode cX8_init 77 = .ok (.aload_n 0, 1) := by decide +kernel
theorem dX8_init_78 : decode cX8_init 78 = .ok (.bipush 120, 2) := by decide +kernel
theorem dX8_init_80 : decode cX8_init 80 = .ok (.newarray .int, 2) := by decide +kernel
theorem dX8_init_82 : decode cX8_init 82 = .ok (.putfield 38, 3) := by decide +kernel
theorem dX8_init_85 : decode cX8_init 85 = .ok (.aload_n 0, 1) := by decide +kernel
theorem dX8_init_86 : decode cX8_init 86 = .ok (.sipush 480, 3) := by decide +kernel
theorem dX8_init_89 : decode cX8_init 89 = .ok (.newarray .int, 2) := by decide +kernel
theorem dX8_init_91 : decode cX8_init 91 = .ok (.putfield 41, 3) := by decide +kernel
theorem dX8_init_94 : decode cX8_init 94 = .ok (.aload_n 0, 1) := by decide +kernel
theorem dX8_init_95 : decode cX8_init 95 = .ok (.iconst 3, 1) := by decide +kernel
theorem dX8_init_96 : decode cX8_init 96 = .ok (.newarray .int, 2) := by decide +kernel
theorem dX8_init_98 : decode cX8_init 98 = .ok (.putfield 44, 3) := by decide +kernel
theorem dX8_init_101 : decode cX8_init 101 = .ok (.aload_n 0, 1) := by decide +kernel
theorem dX8_init_102 : decode cX8_init 102 = .ok (.iconst 3, 1) := by decide +kernel
theorem dX8_init_103 : decode cX8_init 103 = .ok (.newarray .int, 2) := by decide +kernel
theorem dX8_init_105 : decode cX8_init 105 = .ok (.putfield 47, 3) := by decide +kernel
theorem dX8_init_108 : decode cX8_init 108 = .ok (.aload_n 0, 1) := by decide +kernel
theorem dX8_init_109 : decode cX8_init 109 = .ok (.sipush 768, 3) := by decide +kernel
theorem dX8_init_112 : decode cX8_init 112 = .ok (.newarray .int, 2) := by decide +kernel
theorem dX8_init_114 : decode cX8_init 114 = .ok (.putfield 50, 3) := by decide +kernel
theorem dX8_init_117 : decode cX8_init 117 = .ok (.aload_n 0, 1) := by decide +kernel
theorem dX8_init_118 : decode cX8_init 118 = .ok (.iconst 3, 1) := by decide +kernel
theorem dX8_init_119 : decode cX8_init 119 = .ok (.newarray .long, 2) := by decide +kernel
theorem dX8_init_121 : decode cX8_init 121 = .ok (.putfield 53, 3) := by decide +kernel
theorem dX8_init_124 : decode cX8_init 124 = .ok (.aload_n 0, 1) := by decide +kernel
theorem dX8_init_125 : decode cX8_init 125 = .ok (.sipush 200, 3) := by decide +kernel
theorem dX8_init_128 : decode cX8_init 128 = .ok (.newarray .int, 2) := by decide +kernel
theorem dX8_init_130 : decode cX8_init 130 = .ok (.putfield 57, 3) := by decide +kernel
theorem dX8_init_133 : decode cX8_init 133 = .ok (.aload_n 0, 1) := by decide +kernel
theorem dX8_init_134 : decode cX8_init 134 = .ok (.sipush 200, 3) := by decide +kernel
theorem dX8_init_137 : decode cX8_init 137 = .ok (.newarray .int, 2) := by decide +kernel
theorem dX8_init_139 : decode cX8_init 139 = .ok (.putfield 60, 3) := by decide +kernel
theorem dX8_init_142 : decode cX8_init 142 = .ok (.aload_n 0, 1) := by decide +kernel
theorem dX8_init_143 : decode cX8_init 143 = .ok (.sipush 200, 3) := by decide +kernel
theorem dX8_init_146 : decode cX8_init 146 = .ok (.newarray .int, 2) := by decide +kernel
theorem dX8_init_148 : decode cX8_init 148 = .ok (.putfield 63, 3) := by decide +kernel
theorem dX8_init_151 : decode cX8_init 151 = .ok (.aload_n 0, 1) := by decide +kernel
theorem dX8_init_152 : decode cX8_init 152 = .ok (.sipush 200, 3) := by decide +kernel
theorem dX8_init_155 : decode cX8_init 155 = .ok (.newarray .int, 2) := by decide +kernel
theorem dX8_init_157 : decode cX8_init 157 = .ok (.putfield 66, 3) := by decide +kernel
theorem dX8_init_160 : decode cX8_init 160 = .ok (.aload_n 0, 1) := by decide +kernel
theorem dX8_init_161 : decode cX8_init 161 = .ok (.sipush 400, 3) := by decide +kernel
theorem dX8_init_164 : decode cX8_init 164 = .ok (.newarray .int, 2) := by decide +kernel
theorem dX8_init_166 : decode cX8_init 166 = .ok (.putfield 69, 3) := by decide +kernel
theorem dX8_init_169 : decode cX8_init 169 = .ok (.aload_n 0, 1) := by decide +kernel
theorem dX8_init_170 : decode cX8_init 170 = .ok (.ldc 72, 2) := by decide +kernel
theorem dX8_init_172 : decode cX8_init 172 = .ok (.newarray .int, 2) := by decide +kernel
theorem dX8_init_174 : decode cX8_init 174 = .ok (.putfield 73, 3) := by decide +kernel
theorem dX8_init_177 : decode cX8_init 177 = .ok (.aload_n 0, 1) := by decide +kernel
theorem dX8_init_178 : decode cX8_init 178 = .ok (.sipush 256, 3) := by decide +kernel
theorem dX8_init_181 : decode cX8_init 181 = .ok (.newarray .int, 2) := by decide +kernel
theorem dX8_init_183 : decode cX8_init 183 = .ok (.putfield 76, 3) := by decide +kernel
theorem dX8_init_186 : decode cX8_init 186 = .ok (.aload_n 0, 1) := by decide +kernel
theorem dX8_init_187 : decode cX8_init 187 = .ok (.sipush 256, 3) := by decide +kernel
theorem dX8_init_190 : decode cX8_init 190 = .ok (.newarray .boolean, 2) := by decide +kernel
theorem dX8_init_192 : decode cX8_init 192 = .ok (.putfield 79, 3) := by decide +kernel
theorem dX8_init_195 : decode cX8_init 195 = .ok (.aload_n 0, 1) := by decide +kernel
theorem dX8_init_196 : decode cX8_init 196 = .ok (.sipush 256, 3) := by decide +kernel
theorem dX8_init_199 : decode cX8_init 199 = .ok (.newarray .int, 2) := by decide +kernel
theorem dX8_init_201 : decode cX8_init 201 = .ok (.putfield 83, 3) := by decide +kernel
theorem dX8_init_204 : decode cX8_init 204 = .ok (.aload_n 0, 1) := by decide +kernel
theorem dX8_init_205 : decode cX8_init 205 = .ok (.sipush 256, 3) := by decide +kernel
theorem dX8_init_208 : decode cX8_init 208 = .ok (.newarray .int, 2) := by decide +kernel
theorem dX8_init_210 : decode cX8_init 210 = .ok (.putfield 86, 3) := by decide +kernel
theorem dX8_init_213 : decode cX8_init 213 = .ok (.aload_n 0, 1) := by decide +kernel
theorem dX8_init_214 : decode cX8_init 214 = .ok (.sipush 256, 3) := by decide +kernel
theorem dX8_init_217 : decode cX8_init 217 = .ok (.newarray .int, 2) := by decide +kernel
theorem dX8_init_219 : decode cX8_init 219 = .ok (.putfield 89, 3) := by decide +kernel
theorem dX8_init_222 : decode cX8_init 222 = .ok (.iconst 0, 1) := by decide +kernel
theorem dX8_init_223 : decode cX8_init 223 = .ok (.istore_n 1, 1) := by decide +kernel
theorem dX8_init_224 : decode cX8_init 224 = .ok (.iload_n 1, 1) := by decide +kernel
theorem dX8_init_225 : decode cX8_init 225 = .ok (.iconst 3, 1) := by decide +kernel
theorem dX8_init_226 : decode cX8_init 226 = .ok (.if_icmp .ge 16, 3) := by decide +kernel
theorem dX8_init_229 : decode cX8_init 229 = .ok (.aload_n 0, 1) := by decide +kernel
theorem dX8_init_230 : decode cX8_init 230 = .ok (.getfield 47, 3) := by decide +kernel
theorem dX8_init_233 : decode cX8_init 233 = .ok (.iload_n 1, 1) := by decide +kernel
theorem dX8_init_234 : decode cX8_init 234 = .ok (.iconst 2, 1) := by decide +kernel
theorem dX8_init_235 : decode cX8_init 235 = .ok (.iastore, 1) := by decide +kernel
theorem dX8_init_236 : decode cX8_init 236 = .ok (.iinc 1 1, 3) := by decide +kernel
theorem dX8_init_239 : decode cX8_init 239 = .ok (.goto (-15), 3) := by decide +kernel
theorem dX8_init_242 : decode cX8_init 242 = .ok (.iconst 0, 1) := by decide +kernel
theorem dX8_init_243 : decode cX8_init 243 = .ok (.istore_n 1, 1) := by decide +kernel
theorem dX8_init_244 : decode cX8_init 244 = .ok (.iload_n 1, 1) := by decide +kernel
theorem dX8_init_245 : decode cX8_init 245 = .ok (.sipush 256, 3) := by decide +kernel
theorem dX8_init_248 : decode cX8_init 248 = .ok (.if_icmp .ge 16, 3) := by decide +kernel
theorem dX8_init_251 : decode cX8_init 251 = .ok (.aload_n 0, 1) := by decide +kernel
theorem dX8_init_252 : decode cX8_init 252 = .ok (.getfield 29, 3) := by decide +kernel
theorem dX8_init_255 : decode cX8_init 255 = .ok (.iload_n 1, 1) := by decide +kernel
theorem dX8_init_256 : decode cX8_init 256 = .ok (.iconst (-1), 1) := by decide +kernel
theorem dX8_init_257 : decode cX8_init 257 = .ok (.iastore, 1) := by decide +kernel
theorem dX8_init_258 : decode cX8_init 258 = .ok (.iinc 1 1, 3) := by decide +kernel
theorem dX8_init_261 : decode cX8_init 261 = .ok (.goto (-17), 3) := by decide +kernel
theorem dX8_init_264 : decode cX8_init 264 = .ok (.return_, 1) := by decide +kernel
theorem dX8_isOn_0 : decode cX8_isOn 0 = .ok (.iload_n 0, 1) := by decide +kernel
theorem dX8_isOn_1 : decode cX8_isOn 1 = .ok (.ifCond .lt 23, 3) := by decide +kernel
theorem dX8_isOn_4 : decode cX8_isOn 4 = .ok (.iload_n 0, 1) := by decide +kernel
theorem dX8_isOn_5 : decode cX8_isOn 5 = .ok (.bipush 16, 2) := by decide +kernel
theorem dX8_isOn_7 : decode cX8_isOn 7 = .ok (.if_icmp .ge 17, 3) := by decide +kernel
theorem dX8_isOn_10 : decode cX8_isOn 10 = .ok (.iload_n 1, 1) := by decide +kernel
theorem dX8_isOn_11 : decode cX8_isOn 11 = .ok (.ifCond .lt 13, 3) := by decide +kernel
theorem dX8_isOn_14 : decode cX8_isOn 14 = .ok (.iload_n 1, 1) := by decide +kernel
theorem dX8_isOn_15 : decode cX8_isOn 15 = .ok (.bipush 16, 2) := by decide +kernel
theorem dX8_isOn_17 : decode cX8_isOn 17 = .ok (.if_icmp .ge 7, 3) := by decide +kernel
theorem dX8_isOn_20 : decode cX8_isOn 20 = .ok (.iconst 1, 1) := by decide +kernel
theorem dX8_isOn_21 : decode cX8_isOn 21 = .ok (.goto 4, 3) := by decide +kernel
theorem dX8_isOn_24 : decode cX8_isOn 24 = .ok (.iconst 0, 1) := by decide +kernel
theorem dX8_isOn_25 : decode cX8_isOn 25 = .ok (.ireturn, 1) := by decide +kernel
theorem dX8_isPiece_0 : decode cX8_isPiece 0 = .ok (.iload_n 1, 1) := by decide +kernel
theorem dX8_isPiece_1 : decode cX8_isPiece 1 = .ok (.ifCond .lt 15, 3) := by decide +kernel
theorem dX8_isPiece_4 : decode cX8_isPiece 4 = .ok (.iload_n 1, 1) := by decide +kernel
theorem dX8_isPiece_5 : decode cX8_isPiece 5 = .ok (.aload_n 0, 1) := by decide +kernel
theorem dX8_isPiece_6 : decode cX8_isPiece 6 = .ok (.getfield 92, 3) := by decide +kernel
theorem dX8_isPiece_9 : decode cX8_isPiece 9 = .ok (.if_icmp .ge 7, 3) := by decide +kernel
theorem dX8_isPiece_12 : decode cX8_isPiece 12 = .ok (.iconst 1, 1) := by decide +kernel
theorem dX8_isPiece_13 : decode cX8_isPiece 13 = .ok (.goto 4, 3) := by decide +kernel
theorem dX8_isPiece_16 : decode cX8_isPiece 16 = .ok (.iconst 0, 1) := by decide +kernel
theorem dX8_isPiece_17 : decode cX8_isPiece 17 = .ok (.ireturn, 1) := by decide +kernel
theorem dX8_isClear_0 : decode cX8_isClear 0 = .ok (.iconst 1, 1) := by decide +kernel
theorem dX8_isClear_1 : decode cX8_isClear 1 = .ok (.istore_n 1, 1) := by decide +kernel
theorem dX8_isClear_2 : decode cX8_isClear 2 = .ok (.iconst 0, 1) := by decide +kernel
theorem dX8_isClear_3 : decode cX8_isClear 3 = .ok (.istore_n 2, 1) := by decide +kernel
theorem dX8_isClear_4 : decode cX8_isClear 4 = .ok (.iload_n 2, 1) := by decide +kernel
theorem dX8_isClear_5 : decode cX8_isClear 5 = .ok (.sipush 256, 3) := by decide +kernel
theorem dX8_isClear_8 : decode cX8_isClear 8 = .ok (.if_icmp .ge 28, 3) := by decide +kernel
theorem dX8_isClear_11 : decode cX8_isClear 11 = .ok (.iload_n 1, 1) := by decide +kernel
theorem dX8_isClear_12 : decode cX8_isClear 12 = .ok (.ifCond .eq 24, 3) := by decide +kernel
theorem dX8_isClear_15 : decode cX8_isClear 15 = .ok (.aload_n 0, 1) := by decide +kernel
theorem dX8_isClear_16 : decode cX8_isClear 16 = .ok (.getfield 26, 3) := by decide +kernel
theorem dX8_isClear_19 : decode cX8_isClear 19 = .ok (.iload_n 2, 1) := by decide +kernel
theorem dX8_isClear_20 : decode cX8_isClear 20 = .ok (.iaload, 1) := by decide +kernel
theorem dX8_isClear_21 : decode cX8_isClear 21 = .ok (.ifCond .ne 7, 3) := by decide +kernel
theorem dX8_isClear_24 : decode cX8_isClear 24 = .ok (.iconst 1, 1) := by decide +kernel
theorem dX8_isClear_25 : decode cX8_isClear 25 = .ok (.goto 4, 3) := by decide +kernel
theorem dX8_isClear_28 : decode cX8_isClear 28 = .ok (.iconst 0, 1) := by decide +kernel
theorem dX8_isClear_29 : decode cX8_isClear 29 = .ok (.istore_n 1, 1) := by decide +kernel
theorem dX8_isClear_30 : decode cX8_isClear 30 = .ok (.iinc 2 1, 3) := by decide +kernel
theorem dX8_isClear_33 : decode cX8_isClear 33 = .ok (.goto (-29), 3) := by decide +kernel
theorem dX8_isClear_36 : decode cX8_isClear 36 = .ok (.iload_n 1, 1) := by decide +kernel
theorem dX8_isClear_37 : decode cX8_isClear 37 = .ok (.ireturn, 1) := by decide +kernel
set_option maxRecDepth 20000 in
theorem ggX8_glue_X8_isClear : GoodIn wsX8_glue wsX8_isClear := goodIn_r _ [6, 7, 8, 9, 10, 11, 12, 13, 14, 15, 16, 17, 18, 19, 20, 21, 22, 23, 24, 25, 26, 27, 28, 29, 30, 31, 32, 33, 34, 35, 36, 37, 38, 39, 40, 41, 42, 43, 44, 45] (by decide +kernel) (by decide +kernel)
set_option maxRecDepth 20000 in
theorem gX8_glue_X8_isClear : GoodIn wsX8_glue (wsV RX8 95 RX8 yX8_isClear wsX8_isClear) := goodIn_app (goodIn_of _ (by decide +kernel)) ggX8_glue_X8_isClear
theorem dX8_glue_0 : decode cX8_glue 0 = .ok (.iload_n 1, 1) := by decide +kernel
theorem dX8_glue_1 : decode cX8_glue 1 = .ok (.iconst 1, 1) := by decide +kernel
theorem dX8_glue_2 : decode cX8_glue 2 = .ok (.if_icmp .lt 25, 3) := by decide +kernel
theorem dX8_glue_5 : decode cX8_glue 5 = .ok (.iload_n 1, 1) := by decide +kernel
theorem dX8_glue_6 : decode cX8_glue 6 = .ok (.bipush 50, 2) := by decide +kernel
theorem dX8_glue_8 : decode cX8_glue 8 = .ok (.if_icmp .gt 19, 3) := by decide +kernel
theorem dX8_glue_11 : decode cX8_glue 11 = .ok (.iload_n 2, 1) := by decide +kernel
theorem dX8_glue_12 : decode cX8_glue 12 = .ok (.ifCond .lt 15, 3) := by decide +kernel
theorem dX8_glue_15 : decode cX8_glue 15 = .ok (.iload_n 2, 1) := by decide +kernel
theorem dX8_glue_16 : decode cX8_glue 16 = .ok (.iconst 3, 1) := by decide +kernel
theorem dX8_glue_17 : decode cX8_glue 17 = .ok (.if_icmp .gt 10, 3) := by decide +kernel
theorem dX8_glue_20 : decode cX8_glue 20 = .ok (.aload_n 0, 1) := by decide +kernel
theorem dX8_glue_21 : decode cX8_glue 21 = .ok (.invokevirtual 95, 3) := by decide +kernel
theorem dX8_glue_24 : decode cX8_glue 24 = .ok (.ifCond .ne 5, 3) := by decide +kernel
theorem dX8_glue_27 : decode cX8_glue 27 = .ok (.iconst 0, 1) := by decide +kernel
theorem dX8_glue_28 : decode cX8_glue 28 = .ok (.ireturn, 1) := by decide +kernel
theorem dX8_glue_29 : decode cX8_glue 29 = .ok (.aload_n 0, 1) := by decide +kernel
theorem dX8_glue_30 : decode cX8_glue 30 = .ok (.getfield 7, 3) := by decide +kernel
theorem dX8_glue_33 : decode cX8_glue 33 = .ok (.iload_n 1, 1) := by decide +kernel
theorem dX8_glue_34 : decode cX8_glue 34 = .ok (.iload_n 2, 1) := by decide +kernel
theorem dX8_glue_35 : decode cX8_glue 35 = .ok (.iastore, 1) := by decide +kernel
theorem dX8_glue_36 : decode cX8_glue 36 = .ok (.iconst 1, 1) := by decide +kernel
theorem dX8_glue_37 : decode cX8_glue 37 = .ok (.ireturn, 1) := by decide +kernel
theorem dX8_isGlue_0 : decode cX8_isGlue 0 = .ok (.iload_n 0, 1) := by decide +kernel
theorem dX8_isGlue_1 : decode cX8_isGlue 1 = .ok (.ifCond .lt 13, 3) := by decide +kernel
theorem dX8_isGlue_4 : decode cX8_isGlue 4 = .ok (.iload_n 0, 1) := by decide +kernel
theorem dX8_isGlue_5 : decode cX8_isGlue 5 = .ok (.bipush 50, 2) := by decide +kernel
theorem dX8_isGlue_7 : decode cX8_isGlue 7 = .ok (.if_icmp .gt 7, 3) := by decide +kernel
theorem dX8_isGlue_10 : decode cX8_isGlue 10 = .ok (.iconst 1, 1) := by decide +kernel
theorem dX8_isGlue_11 : decode cX8_isGlue 11 = .ok (.goto 4, 3) := by decide +kernel
theorem dX8_isGlue_14 : decode cX8_isGlue 14 = .ok (.iconst 0, 1) := by decide +kernel
theorem dX8_isGlue_15 : decode cX8_isGlue 15 = .ok (.ireturn, 1) := by decide +kernel
theorem dX8_isMore_0 : decode cX8_isMore 0 = .ok (.iload_n 0, 1) := by decide +kernel
theorem dX8_isMore_1 : decode cX8_isMore 1 = .ok (.tableswitch 112 0 5 #[39, 39, 49, 39, 77, 93], 39) := by decide +kernel
theorem dX8_isMore_40 : decode cX8_isMore 40 = .ok (.iload_n 1, 1) := by decide +kernel
theorem dX8_isMore_41 : decode cX8_isMore 41 = .ok (.ifCond .ne 7, 3) := by decide +kernel
theorem dX8_isMore_44 : decode cX8_isMore 44 = .ok (.iconst 1, 1) := by decide +kernel
theorem dX8_isMore_45 : decode cX8_isMore 45 = .ok (.goto 4, 3) := by decide +kernel
theorem dX8_isMore_48 : decode cX8_isMore 48 = .ok (.iconst 0, 1) := by decide +kernel
theorem dX8_isMore_49 : decode cX8_isMore 49 = .ok (.ireturn, 1) := by decide +kernel
theorem dX8_isMore_50 : decode cX8_isMore 50 = .ok (.iload_n 1, 1) := by decide +kernel
theorem dX8_isMore_51 : decode cX8_isMore 51 = .ok (.ifCond .lt 25, 3) := by decide +kernel
theorem dX8_isMore_54 : decode cX8_isMore 54 = .ok (.iload_n 1, 1) := by decide +kernel
theorem dX8_isMore_55 : decode cX8_isMore 55 = .ok (.bipush 64, 2) := by decide +kernel
theorem dX8_isMore_57 : decode cX8_isMore 57 = .ok (.irem, 1) := by decide +kernel
theorem dX8_isMore_58 : decode cX8_isMore 58 = .ok (.bipush 50, 2) := by decide +kernel
theorem dX8_isMore_60 : decode cX8_isMore 60 = .ok (.if_icmp .gt 16, 3) := by decide +kernel
theorem dX8_isMore_63 : decode cX8_isMore 63 = .ok (.iload_n 1, 1) := by decide +kernel
theorem dX8_isMore_64 : decode cX8_isMore 64 = .ok (.bipush 64, 2) := by decide +kernel
theorem dX8_isMore_66 : decode cX8_isMore 66 = .ok (.idiv, 1) := by decide +kernel
theorem dX8_isMore_67 : decode cX8_isMore 67 = .ok (.bipush 50, 2) := by decide +kernel
theorem dX8_isMore_69 : decode cX8_isMore 69 = .ok (.if_icmp .gt 7, 3) := by decide +kernel
theorem dX8_isMore_72 : decode cX8_isMore 72 = .ok (.iconst 1, 1) := by decide +kernel
theorem dX8_isMore_73 : decode cX8_isMore 73 = .ok (.goto 4, 3) := by decide +kernel
theorem dX8_isMore_76 : decode cX8_isMore 76 = .ok (.iconst 0, 1) := by decide +kernel
theorem dX8_isMore_77 : decode cX8_isMore 77 = .ok (.ireturn, 1) := by decide +kernel
theorem dX8_isMore_78 : decode cX8_isMore 78 = .ok (.iload_n 1, 1) := by decide +kernel
theorem dX8_isMore_79 : decode cX8_isMore 79 = .ok (.ifCond .lt 13, 3) := by decide +kernel
theorem dX8_isMore_82 : decode cX8_isMore 82 = .ok (.iload_n 1, 1) := by decide +kernel
theorem dX8_isMore_83 : decode cX8_isMore 83 = .ok (.bipush 15, 2) := by decide +kernel
theorem dX8_isMore_85 : decode cX8_isMore 85 = .ok (.if_icmp .gt 7, 3) := by decide +kernel
theorem dX8_isMore_88 : decode cX8_isMore 88 = .ok (.iconst 1, 1) := by decide +kernel
theorem dX8_isMore_89 : decode cX8_isMore 89 = .ok (.goto 4, 3) := by decide +kernel
theorem dX8_isMore_92 : decode cX8_isMore 92 = .ok (.iconst 0, 1) := by decide +kernel
theorem dX8_isMore_93 : decode cX8_isMore 93 = .ok (.ireturn, 1) := by decide +kernel
theorem dX8_isMore_94 : decode cX8_isMore 94 = .ok (.iload_n 1, 1) := by decide +kernel
theorem dX8_isMore_95 : decode cX8_isMore 95 = .ok (.bipush 16, 2) := by decide +kernel
theorem dX8_isMore_97 : decode cX8_isMore 97 = .ok (.if_icmp .lt 14, 3) := by decide +kernel
theorem dX8_isMore_100 : decode cX8_isMore 100 = .ok (.iload_n 1, 1) := by decide +kernel
theorem dX8_isMore_101 : decode cX8_isMore 101 = .ok (.sipush 255, 3) := by decide +kernel
theorem dX8_isMore_104 : decode cX8_isMore 104 = .ok (.if_icmp .gt 7, 3) := by decide +kernel
theorem dX8_isMore_107 : decode cX8_isMore 107 = .ok (.iconst 1, 1) := by decide +kernel
theorem dX8_isMore_108 : decode cX8_isMore 108 = .ok (.goto 4, 3) := by decide +kernel
theorem dX8_isMore_111 : decode cX8_isMore 111 = .ok (.iconst 0, 1) := by decide +kernel
theorem dX8_isMore_112 : decode cX8_isMore 112 = .ok (.ireturn, 1) := by decide +kernel
theorem dX8_isMore_113 : decode cX8_isMore 113 = .ok (.iconst 0, 1) := by decide +kernel
theorem dX8_isMore_114 : decode cX8_isMore 114 = .ok (.ireturn, 1) := by decide +kernel
set_option maxRecDepth 20000 in
theorem ggX8_piece_X8_isGlue : GoodIn wsX8_piece wsX8_isGlue := goodIn_r _ [8] (by decide +kernel) (by decide +kernel)
set_option maxRecDepth 20000 in
theorem gX8_piece_X8_isGlue : GoodIn wsX8_piece (va_wsS RX8 99 yX8_isGlue wsX8_isGlue) := goodIn_app (goodIn_of _ (by decide +kernel)) ggX8_piece_X8_isGlue
set_option maxRecDepth 20000 in
theorem ggX8_piece_X8_isMore : GoodIn wsX8_piece wsX8_isMore := goodIn_r _ [11] (by decide +kernel) (by decide +kernel)
set_option maxRecDepth 20000 in
theorem gX8_piece_X8_isMore : GoodIn wsX8_piece (va_wsS RX8 103 yX8_isMore wsX8_isMore) := goodIn_app (goodIn_of _ (by decide +kernel)) ggX8_piece_X8_isMore
theorem dX8_piece_0 : decode cX8_piece 0 = .ok (.aload_n 0, 1) := by decide +kernel
theorem dX8_piece_1 : decode cX8_piece 1 = .ok (.getfield 92, 3) := by decide +kernel
theorem dX8_piece_4 : decode cX8_piece 4 = .ok (.bipush 40, 2) := by decide +kernel
theorem dX8_piece_6 : decode cX8_piece 6 = .ok (.if_icmp .eq 42, 3) := by decide +kernel
theorem dX8_piece_9 : decode cX8_piece 9 = .ok (.iload_n 2, 1) := by decide +kernel
theorem dX8_piece_10 : decode cX8_piece 10 = .ok (.invokestatic 99, 3) := by decide +kernel
theorem dX8_piece_13 : decode cX8_piece 13 = .ok (.ifCond .eq 35, 3) := by decide +kernel
theorem dX8_piece_16 : decode cX8_piece 16 = .ok (.iload_n 3, 1) := by decide +kernel
theorem dX8_piece_17 : decode cX8_piece 17 = .ok (.invokestatic 99, 3) := by decide +kernel
theorem dX8_piece_20 : decode cX8_piece 20 = .ok (.ifCond .eq 28, 3) := by decide +kernel
theorem dX8_piece_23 : decode cX8_piece 23 = .ok (.iload 4, 2) := by decide +kernel
theorem dX8_piece_25 : decode cX8_piece 25 = .ok (.invokestatic 99, 3) := by decide +kernel
theorem dX8_piece_28 : decode cX8_piece 28 = .ok (.ifCond .eq 20, 3) := by decide +kernel
theorem dX8_piece_31 : decode cX8_piece 31 = .ok (.iload 5, 2) := by decide +kernel
theorem dX8_piece_33 : decode cX8_piece 33 = .ok (.invokestatic 99, 3) := by decide +kernel
theorem dX8_piece_36 : decode cX8_piece 36 = .ok (.ifCond .eq 12, 3) := by decide +kernel
theorem dX8_piece_39 : decode cX8_piece 39 = .ok (.iload_n 1, 1) := by decide +kernel
theorem dX8_piece_40 : decode cX8_piece 40 = .ok (.iload 6, 2) := by decide +kernel
theorem dX8_piece_42 : decode cX8_piece 42 = .ok (.invokestatic 103, 3) := by decide +kernel
theorem dX8_piece_45 : decode cX8_piece 45 = .ok (.ifCond .ne 5, 3) := by decide +kernel
theorem dX8_piece_48 : decode cX8_piece 48 = .ok (.iconst (-1), 1) := by decide +kernel
theorem dX8_piece_49 : decode cX8_piece 49 = .ok (.ireturn, 1) := by decide +kernel
theorem dX8_piece_50 : decode cX8_piece 50 = .ok (.aload_n 0, 1) := by decide +kernel
theorem dX8_piece_51 : decode cX8_piece 51 = .ok (.getfield 13, 3) := by decide +kernel
theorem dX8_piece_54 : decode cX8_piece 54 = .ok (.aload_n 0, 1) := by decide +kernel
theorem dX8_piece_55 : decode cX8_piece 55 = .ok (.getfield 92, 3) := by decide +kernel
theorem dX8_piece_58 : decode cX8_piece 58 = .ok (.iload_n 1, 1) := by decide +kernel
theorem dX8_piece_59 : decode cX8_piece 59 = .ok (.iastore, 1) := by decide +kernel
theorem dX8_piece_60 : decode cX8_piece 60 = .ok (.aload_n 0, 1) := by decide +kernel
theorem dX8_piece_61 : decode cX8_piece 61 = .ok (.getfield 16, 3) := by decide +kernel
theorem dX8_piece_64 : decode cX8_piece 64 = .ok (.aload_n 0, 1) := by decide +kernel
theorem dX8_piece_65 : decode cX8_piece 65 = .ok (.getfield 92, 3) := by decide +kernel
theorem dX8_piece_68 : decode cX8_piece 68 = .ok (.iload 6, 2) := by decide +kernel
theorem dX8_piece_70 : decode cX8_piece 70 = .ok (.iastore, 1) := by decide +kernel
theorem dX8_piece_71 : decode cX8_piece 71 = .ok (.aload_n 0, 1) := by decide +kernel
theorem dX8_piece_72 : decode cX8_piece 72 = .ok (.getfield 19, 3) := by decide +kernel
theorem dX8_piece_75 : decode cX8_piece 75 = .ok (.iconst 4, 1) := by decide +kernel
theorem dX8_piece_76 : decode cX8_piece 76 = .ok (.aload_n 0, 1) := by decide +kernel
theorem dX8_piece_77 : decode cX8_piece 77 = .ok (.getfield 92, 3) := by decide +kernel
theorem dX8_piece_80 : decode cX8_piece 80 = .ok (.imul, 1) := by decide +kernel
theorem dX8_piece_81 : decode cX8_piece 81 = .ok (.iload_n 2, 1) := by decide +kernel
theorem dX8_piece_82 : decode cX8_piece 82 = .ok (.iastore, 1) := by decide +kernel
theorem dX8_piece_83 : decode cX8_piece 83 = .ok (.aload_n 0, 1) := by decide +kernel
theorem dX8_piece_84 : decode cX8_piece 84 = .ok (.getfield 19, 3) := by decide +kernel
theorem dX8_piece_87 : decode cX8_piece 87 = .ok (.iconst 4, 1) := by decide +kernel
theorem dX8_piece_88 : decode cX8_piece 88 = .ok (.aload_n 0, 1) := by decide +kernel
theorem dX8_piece_89 : decode cX8_piece 89 = .ok (.getfield 92, 3) := by decide +kernel
theorem dX8_piece_92 : decode cX8_piece 92 = .ok (.imul, 1) := by decide +kernel
theorem dX8_piece_93 : decode cX8_piece 93 = .ok (.iconst 1, 1) := by decide +kernel
theorem dX8_piece_94 : decode cX8_piece 94 = .ok (.iadd, 1) := by decide +kernel
theorem dX8_piece_95 : decode cX8_piece 95 = .ok (.iload_n 3, 1) := by decide +kernel
theorem dX8_piece_96 : decode cX8_piece 96 = .ok (.iastore, 1) := by decide +kernel
theorem dX8_piece_97 : decode cX8_piece 97 = .ok (.aload_n 0, 1) := by decide +kernel
theorem dX8_piece_98 : decode cX8_piece 98 = .ok (.getfield 19, 3) := by decide +kernel
theorem dX8_piece_101 : decode cX8_piece 101 = .ok (.iconst 4, 1) := by decide +kernel
theorem dX8_piece_102 : decode cX8_piece 102 = .ok (.aload_n 0, 1) := by decide +kernel
theorem dX8_piece_103 : decode cX8_piece 103 = .ok (.getfield 92, 3) := by decide +kernel
theorem dX8_piece_106 : decode cX8_piece 106 = .ok (.imul, 1) := by decide +kernel
theorem dX8_piece_107 : decode cX8_piece 107 = .ok (.iconst 2, 1) := by decide +kernel
theorem dX8_piece_108 : decode cX8_piece 108 = .ok (.iadd, 1) := by decide +kernel
theorem dX8_piece_109 : decode cX8_piece 109 = .ok (.iload 4, 2) := by decide +kernel
theorem dX8_piece_111 : decode cX8_piece 111 = .ok (.iastore, 1) := by decide +kernel
theorem dX8_piece_112 : decode cX8_piece 112 = .ok (.aload_n 0, 1) := by decide +kernel
theorem dX8_piece_113 : decode cX8_piece 113 = .ok (.getfield 19, 3) := by decide +kernel
theorem dX8_piece_116 : decode cX8_piece 116 = .ok (.iconst 4, 1) := by decide +kernel
theorem dX8_piece_117 : decode cX8_piece 117 = .ok (.aload_n 0, 1) := by decide +kernel
theorem dX8_piece_118 : decode cX8_piece 118 = .ok (.getfield 92, 3) := by decide +kernel
theorem dX8_piece_121 : decode cX8_piece 121 = .ok (.imul, 1) := by decide +kernel
theorem dX8_piece_122 : decode cX8_piece 122 = .ok (.iconst 3, 1) := by decide +kernel
theorem dX8_piece_123 : decode cX8_piece 123 = .ok (.iadd, 1) := by decide +kernel
theorem dX8_piece_124 : decode cX8_piece 124 = .ok (.iload 5, 2) := by decide +kernel
theorem dX8_piece_126 : decode cX8_piece 126 = .ok (.iastore, 1) := by decide +kernel
theorem dX8_piece_127 : decode cX8_piece 127 = .ok (.aload_n 0, 1) := by decide +kernel
theorem dX8_piece_128 : decode cX8_piece 128 = .ok (.dup, 1) := by decide +kernel
theorem dX8_piece_129 : decode cX8_piece 129 = .ok (.getfield 92, 3) := by decide +kernel
theorem dX8_piece_132 : decode cX8_piece 132 = .ok (.iconst 1, 1) := by decide +kernel
theorem dX8_piece_133 : decode cX8_piece 133 = .ok (.iadd, 1) := by decide +kernel
theorem dX8_piece_134 : decode cX8_piece 134 = .ok (.putfield 92, 3) := by decide +kernel
theorem dX8_piece_137 : decode cX8_piece 137 = .ok (.aload_n 0, 1) := by decide +kernel
theorem dX8_piece_138 : decode cX8_piece 138 = .ok (.getfield 92, 3) := by decide +kernel
theorem dX8_piece_141 : decode cX8_piece 141 = .ok (.iconst 1, 1) := by decide +kernel
theorem dX8_piece_142 : decode cX8_piece 142 = .ok (.isub, 1) := by decide +kernel
theorem dX8_piece_143 : decode cX8_piece 143 = .ok (.ireturn, 1) := by decide +kernel
set_option maxRecDepth 20000 in
theorem ggX8_feed_X8_four : GoodIn wsX8_feed wsX8_four := goodIn_r _ [6, 7, 1, 8, 9, 10, 11, 12, 13, 14, 15, 16, 17, 18, 19, 20, 21, 22, 23, 24, 25, 26, 27, 28, 29, 30, 31, 32, 33, 34, 35, 36, 37, 38, 39, 40, 41, 42, 43, 44, 45] (by decide +kernel) (by decide +kernel)
set_option maxRecDepth 20000 in
theorem gX8_feed_X8_four : GoodIn wsX8_feed (wsV RX8 110 RX8 yX8_four wsX8_four) := goodIn_app (goodIn_of _ (by decide +kernel)) ggX8_feed_X8_four
theorem dX8_feed_0 : decode cX8_feed 0 = .ok (.aload_n 0, 1) := by decide +kernel
theorem dX8_feed_1 : decode cX8_feed 1 = .ok (.getfield 107, 3) := by decide +kernel
theorem dX8_feed_4 : decode cX8_feed 4 = .ok (.bipush 20, 2) := by decide +kernel
theorem dX8_feed_6 : decode cX8_feed 6 = .ok (.iadd, 1) := by decide +kernel
theorem dX8_feed_7 : decode cX8_feed 7 = .ok (.sipush 400, 3) := by decide +kernel
theorem dX8_feed_10 : decode cX8_feed 10 = .ok (.if_icmp .le 5, 3) := by decide +kernel
theorem dX8_feed_13 : decode cX8_feed 13 = .ok (.iconst (-1), 1) := by decide +kernel
theorem dX8_feed_14 : decode cX8_feed 14 = .ok (.ireturn, 1) := by decide +kernel
theorem dX8_feed_15 : decode cX8_feed 15 = .ok (.aload_n 0, 1) := by decide +kernel
theorem dX8_feed_16 : decode cX8_feed 16 = .ok (.iload_n 1, 1) := by decide +kernel
theorem dX8_feed_17 : decode cX8_feed 17 = .ok (.invokevirtual 110, 3) := by decide +kernel
theorem dX8_feed_20 : decode cX8_feed 20 = .ok (.aload_n 0, 1) := by decide +kernel
theorem dX8_feed_21 : decode cX8_feed 21 = .ok (.iload_n 2, 1) := by decide +kernel
theorem dX8_feed_22 : decode cX8_feed 22 = .ok (.invokevirtual 110, 3) := by decide +kernel
theorem dX8_feed_25 : decode cX8_feed 25 = .ok (.aload_n 0, 1) := by decide +kernel
theorem dX8_feed_26 : decode cX8_feed 26 = .ok (.iload_n 3, 1) := by decide +kernel
theorem dX8_feed_27 : decode cX8_feed 27 = .ok (.invokevirtual 110, 3) := by decide +kernel
theorem dX8_feed_30 : decode cX8_feed 30 = .ok (.aload_n 0, 1) := by decide +kernel
theorem dX8_feed_31 : decode cX8_feed 31 = .ok (.iload 4, 2) := by decide +kernel
theorem dX8_feed_33 : decode cX8_feed 33 = .ok (.invokevirtual 110, 3) := by decide +kernel
theorem dX8_feed_36 : decode cX8_feed 36 = .ok (.aload_n 0, 1) := by decide +kernel
theorem dX8_feed_37 : decode cX8_feed 37 = .ok (.iload 5, 2) := by decide +kernel
theorem dX8_feed_39 : decode cX8_feed 39 = .ok (.invokevirtual 110, 3) := by decide +kernel
theorem dX8_feed_42 : decode cX8_feed 42 = .ok (.aload_n 0, 1) := by decide +kernel
theorem dX8_feed_43 : decode cX8_feed 43 = .ok (.getfield 107, 3) := by decide +kernel
theorem dX8_feed_46 : decode cX8_feed 46 = .ok (.ireturn, 1) := by decide +kernel
theorem dX8_four_0 : decode cX8_four 0 = .ok (.bipush 24, 2) := by decide +kernel
theorem dX8_four_2 : decode cX8_four 2 = .ok (.istore_n 2, 1) := by decide +kernel
theorem dX8_four_3 : decode cX8_four 3 = .ok (.iload_n 2, 1) := by decide +kernel
theorem dX8_four_4 : decode cX8_four 4 = .ok (.ifCond .lt 35, 3) := by decide +kernel
theorem dX8_four_7 : decode cX8_four 7 = .ok (.aload_n 0, 1) := by decide +kernel
theorem dX8_four_8 : decode cX8_four 8 = .ok (.getfield 69, 3) := by decide +kernel
theorem dX8_four_11 : decode cX8_four 11 = .ok (.aload_n 0, 1) := by decide +kernel
theorem dX8_four_12 : decode cX8_four 12 = .ok (.getfield 107, 3) := by decide +kernel
theorem dX8_four_15 : decode cX8_four 15 = .ok (.iload_n 1, 1) := by decide +kernel
theorem dX8_four_16 : decode cX8_four 16 = .ok (.iload_n 2, 1) := by decide +kernel
theorem dX8_four_17 : decode cX8_four 17 = .ok (.ishr, 1) := by decide +kernel
theorem dX8_four_18 : decode cX8_four 18 = .ok (.sipush 255, 3) := by decide +kernel
theorem dX8_four_21 : decode cX8_four 21 = .ok (.iand, 1) := by decide +kernel
theorem dX8_four_22 : decode cX8_four 22 = .ok (.iastore, 1) := by decide +kernel
theorem dX8_four_23 : decode cX8_four 23 = .ok (.aload_n 0, 1) := by decide +kernel
theorem dX8_four_24 : decode cX8_four 24 = .ok (.dup, 1) := by decide +kernel
theorem dX8_four_25 : decode cX8_four 25 = .ok (.getfield 107, 3) := by decide +kernel
theorem dX8_four_28 : decode cX8_four 28 = .ok (.iconst 1, 1) := by decide +kernel
theorem dX8_four_29 : decode cX8_four 29 = .ok (.iadd, 1) := by decide +kernel
theorem dX8_four_30 : decode cX8_four 30 = .ok (.putfield 107, 3) := by decide +kernel
theorem dX8_four_33 : decode cX8_four 33 = .ok (.iinc 2 (-8), 3) := by decide +kernel
theorem dX8_four_36 : decode cX8_four 36 = .ok (.goto (-33), 3) := by decide +kernel
theorem dX8_four_39 : decode cX8_four 39 = .ok (.return_, 1) := by decide +kernel
set_option maxRecDepth 20000 in
theorem ggX8_set_X8_piece : GoodIn wsX8_set wsX8_piece := goodIn_r _ [7, 8, 9, 10, 11, 12, 13, 6, 14, 15, 16, 17, 18, 19, 20, 21, 22, 23, 24, 25, 26, 27, 28, 29, 30, 31, 32, 33, 34, 35, 36, 37, 38, 39, 40, 41, 42, 43, 44, 45, 46, 47, 48, 49, 50, 51, 52, 53, 54, 55] (by decide +kernel) (by decide +kernel)
set_option maxRecDepth 20000 in
theorem gX8_set_X8_piece : GoodIn wsX8_set (wsV RX8 114 RX8 yX8_piece wsX8_piece) := goodIn_app (goodIn_of _ (by decide +kernel)) ggX8_set_X8_piece
theorem dX8_set_0 : decode cX8_set 0 = .ok (.iload_n 1, 1) := by decide +kernel
theorem dX8_set_1 : decode cX8_set 1 = .ok (.ifCond .lt 11, 3) := by decide +kernel
theorem dX8_set_4 : decode cX8_set 4 = .ok (.iload_n 1, 1) := by decide +kernel
theorem dX8_set_5 : decode cX8_set 5 = .ok (.aload_n 0, 1) := by decide +kernel
theorem dX8_set_6 : decode cX8_set 6 = .ok (.getfield 107, 3) := by decide +kernel
theorem dX8_set_9 : decode cX8_set 9 = .ok (.if_icmp .le 5, 3) := by decide +kernel
theorem dX8_set_12 : decode cX8_set 12 = .ok (.iconst (-1), 1) := by decide +kernel
theorem dX8_set_13 : decode cX8_set 13 = .ok (.ireturn, 1) := by decide +kernel
theorem dX8_set_14 : decode cX8_set 14 = .ok (.aload_n 0, 1) := by decide +kernel
theorem dX8_set_15 : decode cX8_set 15 = .ok (.iconst 0, 1) := by decide +kernel
theorem dX8_set_16 : decode cX8_set 16 = .ok (.putfield 107, 3) := by decide +kernel
theorem dX8_set_19 : decode cX8_set 19 = .ok (.iconst 0, 1) := by decide +kernel
theorem dX8_set_20 : decode cX8_set 20 = .ok (.istore_n 2, 1) := by decide +kernel
theorem dX8_set_21 : decode cX8_set 21 = .ok (.iconst 1, 1) := by decide +kernel
theorem dX8_set_22 : decode cX8_set 22 = .ok (.istore_n 3, 1) := by decide +kernel
theorem dX8_set_23 : decode cX8_set 23 = .ok (.iconst 0, 1) := by decide +kernel
theorem dX8_set_24 : decode cX8_set 24 = .ok (.istore 4, 2) := by decide +kernel
theorem dX8_set_26 : decode cX8_set 26 = .ok (.iload 4, 2) := by decide +kernel
theorem dX8_set_28 : decode cX8_set 28 = .ok (.bipush 8, 2) := by decide +kernel
theorem dX8_set_30 : decode cX8_set 30 = .ok (.iadd, 1) := by decide +kernel
theorem dX8_set_31 : decode cX8_set 31 = .ok (.iload_n 1, 1) := by decide +kernel
theorem dX8_set_32 : decode cX8_set 32 = .ok (.if_icmp .gt 101, 3) := by decide +kernel
theorem dX8_set_35 : decode cX8_set 35 = .ok (.iload_n 3, 1) := by decide +kernel
theorem dX8_set_36 : decode cX8_set 36 = .ok (.ifCond .eq 97, 3) := by decide +kernel
theorem dX8_set_39 : decode cX8_set 39 = .ok (.aload_n 0, 1) := by decide +kernel
theorem dX8_set_40 : decode cX8_set 40 = .ok (.aload_n 0, 1) := by decide +kernel
theorem dX8_set_41 : decode cX8_set 41 = .ok (.getfield 69, 3) := by decide +kernel
theorem dX8_set_44 : decode cX8_set 44 = .ok (.iload 4, 2) := by decide +kernel
theorem dX8_set_46 : decode cX8_set 46 = .ok (.iaload, 1) := by decide +kernel
theorem dX8_set_47 : decode cX8_set 47 = .ok (.aload_n 0, 1) := by decide +kernel
theorem dX8_set_48 : decode cX8_set 48 = .ok (.getfield 69, 3) := by decide +kernel
theorem dX8_set_51 : decode cX8_set 51 = .ok (.iload 4, 2) := by decide +kernel
theorem dX8_set_53 : decode cX8_set 53 = .ok (.iconst 1, 1) := by decide +kernel
theorem dX8_set_54 : decode cX8_set 54 = .ok (.iadd, 1) := by decide +kernel
theorem dX8_set_55 : decode cX8_set 55 = .ok (.iaload, 1) := by decide +kernel
theorem dX8_set_56 : decode cX8_set 56 = .ok (.aload_n 0, 1) := by decide +kernel
theorem dX8_set_57 : decode cX8_set 57 = .ok (.getfield 69, 3) := by decide +kernel
theorem dX8_set_60 : decode cX8_set 60 = .ok (.iload 4, 2) := by decide +kernel
theorem dX8_set_62 : decode cX8_set 62 = .ok (.iconst 2, 1) := by decide +kernel
theorem dX8_set_63 : decode cX8_set 63 = .ok (.iadd, 1) := by decide +kernel
theorem dX8_set_64 : decode cX8_set 64 = .ok (.iaload, 1) := by decide +kernel
theorem dX8_set_65 : decode cX8_set 65 = .ok (.aload_n 0, 1) := by decide +kernel
theorem dX8_set_66 : decode cX8_set 66 = .ok (.getfield 69, 3) := by decide +kernel
theorem dX8_set_69 : decode cX8_set 69 = .ok (.iload 4, 2) := by decide +kernel
theorem dX8_set_71 : decode cX8_set 71 = .ok (.iconst 3, 1) := by decide +kernel
theorem dX8_set_72 : decode cX8_set 72 = .ok (.iadd, 1) := by decide +kernel
theorem dX8_set_73 : decode cX8_set 73 = .ok (.iaload, 1) := by decide +kernel
theorem dX8_set_74 : decode cX8_set 74 = .ok (.aload_n 0, 1) := by decide +kernel
theorem dX8_set_75 : decode cX8_set 75 = .ok (.getfield 69, 3) := by decide +kernel
theorem dX8_set_78 : decode cX8_set 78 = .ok (.iload 4, 2) := by decide +kernel
theorem dX8_set_80 : decode cX8_set 80 = .ok (.iconst 4, 1) := by decide +kernel
theorem dX8_set_81 : decode cX8_set 81 = .ok (.iadd, 1) := by decide +kernel
theorem dX8_set_82 : decode cX8_set 82 = .ok (.iaload, 1) := by decide +kernel
theorem dX8_set_83 : decode cX8_set 83 = .ok (.sipush 256, 3) := by decide +kernel
theorem dX8_set_86 : decode cX8_set 86 = .ok (.aload_n 0, 1) := by decide +kernel
theorem dX8_set_87 : decode cX8_set 87 = .ok (.getfield 69, 3) := by decide +kernel
theorem dX8_set_90 : decode cX8_set 90 = .ok (.iload 4, 2) := by decide +kernel
theorem dX8_set_92 : decode cX8_set 92 = .ok (.bipush 6, 2) := by decide +kernel
theorem dX8_set_94 : decode cX8_set 94 = .ok (.iadd, 1) := by decide +kernel
theorem dX8_set_95 : decode cX8_set 95 = .ok (.iaload, 1) := by decide +kernel
theorem dX8_set_96 : decode cX8_set 96 = .ok (.imul, 1) := by decide +kernel
theorem dX8_set_97 : decode cX8_set 97 = .ok (.aload_n 0, 1) := by decide +kernel
theorem dX8_set_98 : decode cX8_set 98 = .ok (.getfield 69, 3) := by decide +kernel
theorem dX8_set_101 : decode cX8_set 101 = .ok (.iload 4, 2) := by decide +kernel
theorem dX8_set_103 : decode cX8_set 103 = .ok (.bipush 7, 2) := by decide +kernel
theorem dX8_set_105 : decode cX8_set 105 = .ok (.iadd, 1) := by decide +kernel
theorem dX8_set_106 : decode cX8_set 106 = .ok (.iaload, 1) := by decide +kernel
theorem dX8_set_107 : decode cX8_set 107 = .ok (.iadd, 1) := by decide +kernel
theorem dX8_set_108 : decode cX8_set 108 = .ok (.invokevirtual 114, 3) := by decide +kernel
theorem dX8_set_111 : decode cX8_set 111 = .ok (.ifCond .lt 7, 3) := by decide +kernel
theorem dX8_set_114 : decode cX8_set 114 = .ok (.iconst 1, 1) := by decide +kernel
theorem dX8_set_115 : decode cX8_set 115 = .ok (.goto 4, 3) := by decide +kernel
theorem dX8_set_118 : decode cX8_set 118 = .ok (.iconst 0, 1) := by decide +kernel
theorem dX8_set_119 : decode cX8_set 119 = .ok (.istore_n 3, 1) := by decide +kernel
theorem dX8_set_120 : decode cX8_set 120 = .ok (.iload_n 3, 1) := by decide +kernel
theorem dX8_set_121 : decode cX8_set 121 = .ok (.ifCond .eq 6, 3) := by decide +kernel
theorem dX8_set_124 : decode cX8_set 124 = .ok (.iinc 2 1, 3) := by decide +kernel
theorem dX8_set_127 : decode cX8_set 127 = .ok (.iinc 4 8, 3) := by decide +kernel
theorem dX8_set_130 : decode cX8_set 130 = .ok (.goto (-104), 3) := by decide +kernel
theorem dX8_set_133 : decode cX8_set 133 = .ok (.iload_n 2, 1) := by decide +kernel
theorem dX8_set_134 : decode cX8_set 134 = .ok (.ireturn, 1) := by decide +kernel
set_option maxRecDepth 20000 in
theorem ggX8_warmth_X8_isClear : GoodIn wsX8_warmth wsX8_isClear := goodIn_r _ [6, 7, 8, 9, 10, 11, 12, 13, 14, 15, 16, 17, 18, 19, 20, 21, 22, 23, 24, 25, 26, 27, 28, 29, 30, 31, 32, 33, 34, 35, 36, 37, 38, 39, 40, 41, 42, 43, 44, 45] (by decide +kernel) (by decide +kernel)
set_option maxRecDepth 20000 in
theorem gX8_warmth_X8_isClear : GoodIn wsX8_warmth (wsV RX8 95 RX8 yX8_isClear wsX8_isClear) := goodIn_app (goodIn_of _ (by decide +kernel)) ggX8_warmth_X8_isClear
theorem dX8_warmth_0 : decode cX8_warmth 0 = .ok (.iload_n 1, 1) := by decide +kernel
theorem dX8_warmth_1 : decode cX8_warmth 1 = .ok (.iconst 1, 1) := by decide +kernel
theorem dX8_warmth_2 : decode cX8_warmth 2 = .ok (.if_icmp .lt 15, 3) := by decide +kernel
theorem dX8_warmth_5 : decode cX8_warmth 5 = .ok (.iload_n 1, 1) := by decide +kernel
theorem dX8_warmth_6 : decode cX8_warmth 6 = .ok (.iconst 3, 1) := by decide +kernel
theorem dX8_warmth_7 : decode cX8_warmth 7 = .ok (.if_icmp .gt 10, 3) := by decide +kernel
theorem dX8_warmth_10 : decode cX8_warmth 10 = .ok (.aload_n 0, 1) := by decide +kernel
theorem dX8_warmth_11 : decode cX8_warmth 11 = .ok (.invokevirtual 95, 3) := by decide +kernel
theorem dX8_warmth_14 : decode cX8_warmth 14 = .ok (.ifCond .ne 5, 3) := by decide +kernel
theorem dX8_warmth_17 : decode cX8_warmth 17 = .ok (.iconst 0, 1) := by decide +kernel
theorem dX8_warmth_18 : decode cX8_warmth 18 = .ok (.ireturn, 1) := by decide +kernel
theorem dX8_warmth_19 : decode cX8_warmth 19 = .ok (.aload_n 0, 1) := by decide +kernel
theorem dX8_warmth_20 : decode cX8_warmth 20 = .ok (.iload_n 1, 1) := by decide +kernel
theorem dX8_warmth_21 : decode cX8_warmth 21 = .ok (.putfield 22, 3) := by decide +kernel
theorem dX8_warmth_24 : decode cX8_warmth 24 = .ok (.iconst 1, 1) := by decide +kernel
theorem dX8_warmth_25 : decode cX8_warmth 25 = .ok (.ireturn, 1) := by decide +kernel
theorem dX8_xAt_0 : decode cX8_xAt 0 = .ok (.iload_n 0, 1) := by decide +kernel
theorem dX8_xAt_1 : decode cX8_xAt 1 = .ok (.iconst 1, 1) := by decide +kernel
theorem dX8_xAt_2 : decode cX8_xAt 2 = .ok (.if_icmp .ne 7, 3) := by decide +kernel
theorem dX8_xAt_5 : decode cX8_xAt 5 = .ok (.iconst 1, 1) := by decide +kernel
theorem dX8_xAt_6 : decode cX8_xAt 6 = .ok (.goto 13, 3) := by decide +kernel
theorem dX8_xAt_9 : decode cX8_xAt 9 = .ok (.iload_n 0, 1) := by decide +kernel
theorem dX8_xAt_10 : decode cX8_xAt 10 = .ok (.iconst 3, 1) := by decide +kernel
theorem dX8_xAt_11 : decode cX8_xAt 11 = .ok (.if_icmp .ne 7, 3) := by decide +kernel
theorem dX8_xAt_14 : decode cX8_xAt 14 = .ok (.iconst (-1), 1) := by decide +kernel
theorem dX8_xAt_15 : decode cX8_xAt 15 = .ok (.goto 4, 3) := by decide +kernel
theorem dX8_xAt_18 : decode cX8_xAt 18 = .ok (.iconst 0, 1) := by decide +kernel
theorem dX8_xAt_19 : decode cX8_xAt 19 = .ok (.ireturn, 1) := by decide +kernel
theorem dX8_yAt_0 : decode cX8_yAt 0 = .ok (.iload_n 0, 1) := by decide +kernel
theorem dX8_yAt_1 : decode cX8_yAt 1 = .ok (.ifCond .ne 7, 3) := by decide +kernel
theorem dX8_yAt_4 : decode cX8_yAt 4 = .ok (.iconst (-1), 1) := by decide +kernel
theorem dX8_yAt_5 : decode cX8_yAt 5 = .ok (.goto 13, 3) := by decide +kernel
theorem dX8_yAt_8 : decode cX8_yAt 8 = .ok (.iload_n 0, 1) := by decide +kernel
theorem dX8_yAt_9 : decode cX8_yAt 9 = .ok (.iconst 2, 1) := by decide +kernel
theorem dX8_yAt_10 : decode cX8_yAt 10 = .ok (.if_icmp .ne 7, 3) := by decide +kernel
theorem dX8_yAt_13 : decode cX8_yAt 13 = .ok (.iconst 1, 1) := by decide +kernel
theorem dX8_yAt_14 : decode cX8_yAt 14 = .ok (.goto 4, 3) := by decide +kernel
theorem dX8_yAt_17 : decode cX8_yAt 17 = .ok (.iconst 0, 1) := by decide +kernel
theorem dX8_yAt_18 : decode cX8_yAt 18 = .ok (.ireturn, 1) := by decide +kernel
theorem dX8_glueOf_0 : decode cX8_glueOf 0 = .ok (.aload_n 0, 1) := by decide +kernel
theorem dX8_glueOf_1 : decode cX8_glueOf 1 = .ok (.getfield 13, 3) := by decide +kernel
theorem dX8_glueOf_4 : decode cX8_glueOf 4 = .ok (.iload_n 1, 1) := by decide +kernel
theorem dX8_glueOf_5 : decode cX8_glueOf 5 = .ok (.iaload, 1) := by decide +kernel
theorem dX8_glueOf_6 : decode cX8_glueOf 6 = .ok (.iconst 2, 1) := by decide +kernel
theorem dX8_glueOf_7 : decode cX8_glueOf 7 = .ok (.if_icmp .eq 14, 3) := by decide +kernel
theorem dX8_glueOf_10 : decode cX8_glueOf 10 = .ok (.aload_n 0, 1) := by decide +kernel
theorem dX8_glueOf_11 : decode cX8_glueOf 11 = .ok (.getfield 19, 3) := by decide +kernel
theorem dX8_glueOf_14 : decode cX8_glueOf 14 = .ok (.iconst 4, 1) := by decide +kernel
theorem dX8_glueOf_15 : decode cX8_glueOf 15 = .ok (.iload_n 1, 1) := by decide +kernel
theorem dX8_glueOf_16 : decode cX8_glueOf 16 = .ok (.imul, 1) := by decide +kernel
theorem dX8_glueOf_17 : decode cX8_glueOf 17 = .ok (.iload_n 3, 1) := by decide +kernel
theorem dX8_glueOf_18 : decode cX8_glueOf 18 = .ok (.iadd, 1) := by decide +kernel
theorem dX8_glueOf_19 : decode cX8_glueOf 19 = .ok (.iaload, 1) := by decide +kernel
theorem dX8_glueOf_20 : decode cX8_glueOf 20 = .ok (.ireturn, 1) := by decide +kernel
theorem dX8_glueOf_21 : decode cX8_glueOf 21 = .ok (.iload_n 2, 1) := by decide +kernel
theorem dX8_glueOf_22 : decode cX8_glueOf 22 = .ok (.ifCond .ne 23, 3) := by decide +kernel
theorem dX8_glueOf_25 : decode cX8_glueOf 25 = .ok (.iload_n 3, 1) := by decide +kernel
theorem dX8_glueOf_26 : decode cX8_glueOf 26 = .ok (.iconst 1, 1) := by decide +kernel
theorem dX8_glueOf_27 : decode cX8_glueOf 27 = .ok (.if_icmp .ne 7, 3) := by decide +kernel
theorem dX8_glueOf_30 : decode cX8_glueOf 30 = .ok (.iconst 0, 1) := by decide +kernel
theorem dX8_glueOf_31 : decode cX8_glueOf 31 = .ok (.goto 13, 3) := by decide +kernel
theorem dX8_glueOf_34 : decode cX8_glueOf 34 = .ok (.aload_n 0, 1) := by decide +kernel
theorem dX8_glueOf_35 : decode cX8_glueOf 35 = .ok (.getfield 19, 3) := by decide +kernel
theorem dX8_glueOf_38 : decode cX8_glueOf 38 = .ok (.iconst 4, 1) := by decide +kernel
theorem dX8_glueOf_39 : decode cX8_glueOf 39 = .ok (.iload_n 1, 1) := by decide +kernel
theorem dX8_glueOf_40 : decode cX8_glueOf 40 = .ok (.imul, 1) := by decide +kernel
theorem dX8_glueOf_41 : decode cX8_glueOf 41 = .ok (.iload_n 3, 1) := by decide +kernel
theorem dX8_glueOf_42 : decode cX8_glueOf 42 = .ok (.iadd, 1) := by decide +kernel
theorem dX8_glueOf_43 : decode cX8_glueOf 43 = .ok (.iaload, 1) := by decide +kernel
theorem dX8_glueOf_44 : decode cX8_glueOf 44 = .ok (.ireturn, 1) := by decide +kernel
theorem dX8_glueOf_45 : decode cX8_glueOf 45 = .ok (.iload_n 3, 1) := by decide +kernel
theorem dX8_glueOf_46 : decode cX8_glueOf 46 = .ok (.ifCond .ne 15, 3) := by decide +kernel
theorem dX8_glueOf_49 : decode cX8_glueOf 49 = .ok (.aload_n 0, 1) := by decide +kernel
theorem dX8_glueOf_50 : decode cX8_glueOf 50 = .ok (.getfield 16, 3) := by decide +kernel
theorem dX8_glueOf_53 : decode cX8_glueOf 53 = .ok (.iload_n 1, 1) := by decide +kernel
theorem dX8_glueOf_54 : decode cX8_glueOf 54 = .ok (.iaload, 1) := by decide +kernel
theorem dX8_glueOf_55 : decode cX8_glueOf 55 = .ok (.bipush 64, 2) := by decide +kernel
theorem dX8_glueOf_57 : decode cX8_glueOf 57 = .ok (.irem, 1) := by decide +kernel
theorem dX8_glueOf_58 : decode cX8_glueOf 58 = .ok (.goto 39, 3) := by decide +kernel
theorem dX8_glueOf_61 : decode cX8_glueOf 61 = .ok (.iload_n 3, 1) := by decide +kernel
theorem dX8_glueOf_62 : decode cX8_glueOf 62 = .ok (.iconst 1, 1) := by decide +kernel
theorem dX8_glueOf_63 : decode cX8_glueOf 63 = .ok (.if_icmp .ne 16, 3) := by decide +kernel
theorem dX8_glueOf_66 : decode cX8_glueOf 66 = .ok (.aload_n 0, 1) := by decide +kernel
theorem dX8_glueOf_67 : decode cX8_glueOf 67 = .ok (.getfield 19, 3) := by decide +kernel
theorem dX8_glueOf_70 : decode cX8_glueOf 70 = .ok (.iconst 4, 1) := by decide +kernel
theorem dX8_glueOf_71 : decode cX8_glueOf 71 = .ok (.iload_n 1, 1) := by decide +kernel
theorem dX8_glueOf_72 : decode cX8_glueOf 72 = .ok (.imul, 1) := by decide +kernel
theorem dX8_glueOf_73 : decode cX8_glueOf 73 = .ok (.iconst 1, 1) := by decide +kernel
theorem dX8_glueOf_74 : decode cX8_glueOf 74 = .ok (.iadd, 1) := by decide +kernel
theorem dX8_glueOf_75 : decode cX8_glueOf 75 = .ok (.iaload, 1) := by decide +kernel
theorem dX8_glueOf_76 : decode cX8_glueOf 76 = .ok (.goto 21, 3) := by decide +kernel
theorem dX8_glueOf_79 : decode cX8_glueOf 79 = .ok (.iload_n 3, 1) := by decide +kernel
theorem dX8_glueOf_80 : decode cX8_glueOf 80 = .ok (.iconst 2, 1) := by decide +kernel
theorem dX8_glueOf_81 : decode cX8_glueOf 81 = .ok (.if_icmp .ne 15, 3) := by decide +kernel
theorem dX8_glueOf_84 : decode cX8_glueOf 84 = .ok (.aload_n 0, 1) := by decide +kernel
theorem dX8_glueOf_85 : decode cX8_glueOf 85 = .ok (.getfield 16, 3) := by decide +kernel
theorem dX8_glueOf_88 : decode cX8_glueOf 88 = .ok (.iload_n 1, 1) := by decide +kernel
theorem dX8_glueOf_89 : decode cX8_glueOf 89 = .ok (.iaload, 1) := by decide +kernel
theorem dX8_glueOf_90 : decode cX8_glueOf 90 = .ok (.bipush 64, 2) := by decide +kernel
theorem dX8_glueOf_92 : decode cX8_glueOf 92 = .ok (.idiv, 1) := by decide +kernel
theorem dX8_glueOf_93 : decode cX8_glueOf 93 = .ok (.goto 4, 3) := by decide +kernel
theorem dX8_glueOf_96 : decode cX8_glueOf 96 = .ok (.iconst 0, 1) := by decide +kernel
theorem dX8_glueOf_97 : decode cX8_glueOf 97 = .ok (.ireturn, 1) := by decide +kernel
theorem dX8_isBarred_0 : decode cX8_isBarred 0 = .ok (.aload_n 0, 1) := by decide +kernel
theorem dX8_isBarred_1 : decode cX8_isBarred 1 = .ok (.getfield 13, 3) := by decide +kernel
theorem dX8_isBarred_4 : decode cX8_isBarred 4 = .ok (.iload_n 1, 1) := by decide +kernel
theorem dX8_isBarred_5 : decode cX8_isBarred 5 = .ok (.iaload, 1) := by decide +kernel
theorem dX8_isBarred_6 : decode cX8_isBarred 6 = .ok (.iconst 4, 1) := by decide +kernel
theorem dX8_isBarred_7 : decode cX8_isBarred 7 = .ok (.if_icmp .eq 13, 3) := by decide +kernel
theorem dX8_isBarred_10 : decode cX8_isBarred 10 = .ok (.aload_n 0, 1) := by decide +kernel
theorem dX8_isBarred_11 : decode cX8_isBarred 11 = .ok (.getfield 13, 3) := by decide +kernel
theorem dX8_isBarred_14 : decode cX8_isBarred 14 = .ok (.iload_n 1, 1) := by decide +kernel
theorem dX8_isBarred_15 : decode cX8_isBarred 15 = .ok (.iaload, 1) := by decide +kernel
theorem dX8_isBarred_16 : decode cX8_isBarred 16 = .ok (.iconst 5, 1) := by decide +kernel
theorem dX8_isBarred_17 : decode cX8_isBarred 17 = .ok (.if_icmp .ne 21, 3) := by decide +kernel
theorem dX8_isBarred_20 : decode cX8_isBarred 20 = .ok (.aload_n 0, 1) := by decide +kernel
theorem dX8_isBarred_21 : decode cX8_isBarred 21 = .ok (.getfield 16, 3) := by decide +kernel
theorem dX8_isBarred_24 : decode cX8_isBarred 24 = .ok (.iload_n 1, 1) := by decide +kernel
theorem dX8_isBarred_25 : decode cX8_isBarred 25 = .ok (.iaload, 1) := by decide +kernel
theorem dX8_isBarred_26 : decode cX8_isBarred 26 = .ok (.iload_n 2, 1) := by decide +kernel
theorem dX8_isBarred_27 : decode cX8_isBarred 27 = .ok (.ishr, 1) := by decide +kernel
theorem dX8_isBarred_28 : decode cX8_isBarred 28 = .ok (.iconst 1, 1) := by decide +kernel
theorem dX8_isBarred_29 : decode cX8_isBarred 29 = .ok (.iand, 1) := by decide +kernel
theorem dX8_isBarred_30 : decode cX8_isBarred 30 = .ok (.iconst 1, 1) := by decide +kernel
theorem dX8_isBarred_31 : decode cX8_isBarred 31 = .ok (.if_icmp .ne 7, 3) := by decide +kernel
theorem dX8_isBarred_34 : decode cX8_isBarred 34 = .ok (.iconst 1, 1) := by decide +kernel
theorem dX8_isBarred_35 : decode cX8_isBarred 35 = .ok (.goto 4, 3) := by decide +kernel
theorem dX8_isBarred_38 : decode cX8_isBarred 38 = .ok (.iconst 0, 1) := by decide +kernel
theorem dX8_isBarred_39 : decode cX8_isBarred 39 = .ok (.ireturn, 1) := by decide +kernel
set_option maxRecDepth 20000 in
theorem ggX8_holdAt_X8_xAt : GoodIn wsX8_holdAt wsX8_xAt := goodIn_r _ [5] (by decide +kernel) (by decide +kernel)
set_option maxRecDepth 20000 in
theorem gX8_holdAt_X8_xAt : GoodIn wsX8_holdAt (va_wsS RX8 118 yX8_xAt wsX8_xAt) := goodIn_app (goodIn_of _ (by decide +kernel)) ggX8_holdAt_X8_xAt
set_option maxRecDepth 20000 in
theorem ggX8_holdAt_X8_yAt : GoodIn wsX8_holdAt wsX8_yAt := goodIn_r _ [8] (by decide +kernel) (by decide +kernel)
set_option maxRecDepth 20000 in
theorem gX8_holdAt_X8_yAt : GoodIn wsX8_holdAt (va_wsS RX8 122 yX8_yAt wsX8_yAt) := goodIn_app (goodIn_of _ (by decide +kernel)) ggX8_holdAt_X8_yAt
set_option maxRecDepth 20000 in
theorem ggX8_holdAt_X8_isOn : GoodIn wsX8_holdAt wsX8_isOn := goodIn_r _ [11] (by decide +kernel) (by decide +kernel)
set_option maxRecDepth 20000 in
theorem gX8_holdAt_X8_isOn : GoodIn wsX8_holdAt (va_wsS RX8 125 yX8_isOn wsX8_isOn) := goodIn_app (goodIn_of _ (by decide +kernel)) ggX8_holdAt_X8_isOn
set_option maxRecDepth 20000 in
theorem ggX8_holdAt_X8_glueOf : GoodIn wsX8_holdAt wsX8_glueOf := goodIn_r _ [15, 16, 17, 18, 19, 20, 21, 22, 23, 24, 25, 26, 27, 28, 29, 30, 31, 32, 33, 34, 35, 36, 37, 38, 39, 40, 41, 42, 43, 44, 45, 46, 47, 48, 49, 50, 51, 52, 53, 54, 55, 56] (by decide +kernel) (by decide +kernel)
set_option maxRecDepth 20000 in
theorem gX8_holdAt_X8_glueOf : GoodIn wsX8_holdAt (wsV RX8 128 RX8 yX8_glueOf wsX8_glueOf) := goodIn_app (goodIn_of _ (by decide +kernel)) ggX8_holdAt_X8_glueOf
theorem dX8_holdAt_0 : decode cX8_holdAt 0 = .ok (.iload 5, 2) := by decide +kernel
theorem dX8_holdAt_2 : decode cX8_holdAt 2 = .ok (.iload 7, 2) := by decide +kernel
theorem dX8_holdAt_4 : decode cX8_holdAt 4 = .ok (.invokestatic 118, 3) := by decide +kernel
theorem dX8_holdAt_7 : decode cX8_holdAt 7 = .ok (.iadd, 1) := by decide +kernel
theorem dX8_holdAt_8 : decode cX8_holdAt 8 = .ok (.istore 8, 2) := by decide +kernel
theorem dX8_holdAt_10 : decode cX8_holdAt 10 = .ok (.iload 6, 2) := by decide +kernel
theorem dX8_holdAt_12 : decode cX8_holdAt 12 = .ok (.iload 7, 2) := by decide +kernel
theorem dX8_holdAt_14 : decode cX8_holdAt 14 = .ok (.invokestatic 122, 3) := by decide +kernel
theorem dX8_holdAt_17 : decode cX8_holdAt 17 = .ok (.iadd, 1) := by decide +kernel
theorem dX8_holdAt_18 : decode cX8_holdAt 18 = .ok (.istore 9, 2) := by decide +kernel
theorem dX8_holdAt_20 : decode cX8_holdAt 20 = .ok (.iload 8, 2) := by decide +kernel
theorem dX8_holdAt_22 : decode cX8_holdAt 22 = .ok (.iload 9, 2) := by decide +kernel
theorem dX8_holdAt_24 : decode cX8_holdAt 24 = .ok (.invokestatic 125, 3) := by decide +kernel
theorem dX8_holdAt_27 : decode cX8_holdAt 27 = .ok (.ifCond .eq 18, 3) := by decide +kernel
theorem dX8_holdAt_30 : decode cX8_holdAt 30 = .ok (.aload_n 1, 1) := by decide +kernel
theorem dX8_holdAt_31 : decode cX8_holdAt 31 = .ok (.iload_n 2, 1) := by decide +kernel
theorem dX8_holdAt_32 : decode cX8_holdAt 32 = .ok (.iload 8, 2) := by decide +kernel
theorem dX8_holdAt_34 : decode cX8_holdAt 34 = .ok (.iadd, 1) := by decide +kernel
theorem dX8_holdAt_35 : decode cX8_holdAt 35 = .ok (.bipush 16, 2) := by decide +kernel
theorem dX8_holdAt_37 : decode cX8_holdAt 37 = .ok (.iload 9, 2) := by decide +kernel
theorem dX8_holdAt_39 : decode cX8_holdAt 39 = .ok (.imul, 1) := by decide +kernel
theorem dX8_holdAt_40 : decode cX8_holdAt 40 = .ok (.iadd, 1) := by decide +kernel
theorem dX8_holdAt_41 : decode cX8_holdAt 41 = .ok (.iaload, 1) := by decide +kernel
theorem dX8_holdAt_42 : decode cX8_holdAt 42 = .ok (.ifCond .ne 5, 3) := by decide +kernel
theorem dX8_holdAt_45 : decode cX8_holdAt 45 = .ok (.iconst 0, 1) := by decide +kernel
theorem dX8_holdAt_46 : decode cX8_holdAt 46 = .ok (.ireturn, 1) := by decide +kernel
theorem dX8_holdAt_47 : decode cX8_holdAt 47 = .ok (.aload_n 1, 1) := by decide +kernel
theorem dX8_holdAt_48 : decode cX8_holdAt 48 = .ok (.iload_n 2, 1) := by decide +kernel
theorem dX8_holdAt_49 : decode cX8_holdAt 49 = .ok (.iload 8, 2) := by decide +kernel
theorem dX8_holdAt_51 : decode cX8_holdAt 51 = .ok (.iadd, 1) := by decide +kernel
theorem dX8_holdAt_52 : decode cX8_holdAt 52 = .ok (.bipush 16, 2) := by decide +kernel
theorem dX8_holdAt_54 : decode cX8_holdAt 54 = .ok (.iload 9, 2) := by decide +kernel
theorem dX8_holdAt_56 : decode cX8_holdAt 56 = .ok (.imul, 1) := by decide +kernel
theorem dX8_holdAt_57 : decode cX8_holdAt 57 = .ok (.iadd, 1) := by decide +kernel
theorem dX8_holdAt_58 : decode cX8_holdAt 58 = .ok (.iaload, 1) := by decide +kernel
theorem dX8_holdAt_59 : decode cX8_holdAt 59 = .ok (.iconst 1, 1) := by decide +kernel
theorem dX8_holdAt_60 : decode cX8_holdAt 60 = .ok (.isub, 1) := by decide +kernel
theorem dX8_holdAt_61 : decode cX8_holdAt 61 = .ok (.istore 10, 2) := by decide +kernel
theorem dX8_holdAt_63 : decode cX8_holdAt 63 = .ok (.aload_n 0, 1) := by decide +kernel
theorem dX8_holdAt_64 : decode cX8_holdAt 64 = .ok (.iload_n 3, 1) := by decide +kernel
theorem dX8_holdAt_65 : decode cX8_holdAt 65 = .ok (.iload 4, 2) := by decide +kernel
theorem dX8_holdAt_67 : decode cX8_holdAt 67 = .ok (.iload 7, 2) := by decide +kernel
theorem dX8_holdAt_69 : decode cX8_holdAt 69 = .ok (.invokevirtual 128, 3) := by decide +kernel
theorem dX8_holdAt_72 : decode cX8_holdAt 72 = .ok (.istore 11, 2) := by decide +kernel
theorem dX8_holdAt_74 : decode cX8_holdAt 74 = .ok (.iload 11, 2) := by decide +kernel
theorem dX8_holdAt_76 : decode cX8_holdAt 76 = .ok (.ifCond .eq 36, 3) := by decide +kernel
theorem dX8_holdAt_79 : decode cX8_holdAt 79 = .ok (.iload 11, 2) := by decide +kernel
theorem dX8_holdAt_81 : decode cX8_holdAt 81 = .ok (.aload_n 0, 1) := by decide +kernel
theorem dX8_holdAt_82 : decode cX8_holdAt 82 = .ok (.iload 10, 2) := by decide +kernel
theorem dX8_holdAt_84 : decode cX8_holdAt 84 = .ok (.iconst 2, 1) := by decide +kernel
theorem dX8_holdAt_85 : decode cX8_holdAt 85 = .ok (.idiv, 1) := by decide +kernel
theorem dX8_holdAt_86 : decode cX8_holdAt 86 = .ok (.iload 10, 2) := by decide +kernel
theorem dX8_holdAt_88 : decode cX8_holdAt 88 = .ok (.iconst 2, 1) := by decide +kernel
theorem dX8_holdAt_89 : decode cX8_holdAt 89 = .ok (.irem, 1) := by decide +kernel
theorem dX8_holdAt_90 : decode cX8_holdAt 90 = .ok (.iload 7, 2) := by decide +kernel
theorem dX8_holdAt_92 : decode cX8_holdAt 92 = .ok (.iconst 2, 1) := by decide +kernel
theorem dX8_holdAt_93 : decode cX8_holdAt 93 = .ok (.iadd, 1) := by decide +kernel
theorem dX8_holdAt_94 : decode cX8_holdAt 94 = .ok (.iconst 4, 1) := by decide +kernel
theorem dX8_holdAt_95 : decode cX8_holdAt 95 = .ok (.irem, 1) := by decide +kernel
theorem dX8_holdAt_96 : decode cX8_holdAt 96 = .ok (.invokevirtual 128, 3) := by decide +kernel
theorem dX8_holdAt_99 : decode cX8_holdAt 99 = .ok (.if_icmp .ne 13, 3) := by decide +kernel
theorem dX8_holdAt_102 : decode cX8_holdAt 102 = .ok (.aload_n 0, 1) := by decide +kernel
theorem dX8_holdAt_103 : decode cX8_holdAt 103 = .ok (.getfield 7, 3) := by decide +kernel
theorem dX8_holdAt_106 : decode cX8_holdAt 106 = .ok (.iload 11, 2) := by decide +kernel
theorem dX8_holdAt_108 : decode cX8_holdAt 108 = .ok (.iaload, 1) := by decide +kernel
theorem dX8_holdAt_109 : decode cX8_holdAt 109 = .ok (.goto 4, 3) := by decide +kernel
theorem dX8_holdAt_112 : decode cX8_holdAt 112 = .ok (.iconst 0, 1) := by decide +kernel
theorem dX8_holdAt_113 : decode cX8_holdAt 113 = .ok (.ireturn, 1) := by decide +kernel
set_option maxRecDepth 20000 in
theorem ggX8_holdOf_X8_holdAt : GoodIn wsX8_holdOf wsX8_holdAt := goodIn_r _ [6, 7, 8, 9, 5, 10, 11, 12, 13, 14, 15, 16, 17, 18, 19, 20, 1, 21, 22, 23, 24, 25, 26, 27, 28, 29, 30, 31, 32, 33, 34, 35, 36, 37, 38, 39, 40, 41, 42, 43, 44, 45, 46, 47, 48, 49, 50, 51, 52, 53, 54, 55, 56, 57, 58, 59, 60] (by decide +kernel) (by decide +kernel)
set_option maxRecDepth 20000 in
theorem gX8_holdOf_X8_holdAt : GoodIn wsX8_holdOf (wsV RX8 132 RX8 yX8_holdAt wsX8_holdAt) := goodIn_app (goodIn_of _ (by decide +kernel)) ggX8_holdOf_X8_holdAt
theorem dX8_holdOf_0 : decode cX8_holdOf 0 = .ok (.iconst 0, 1) := by decide +kernel
theorem dX8_holdOf_1 : decode cX8_holdOf 1 = .ok (.istore 6, 2) := by decide +kernel
theorem dX8_holdOf_3 : decode cX8_holdOf 3 = .ok (.iconst 0, 1) := by decide +kernel
theorem dX8_holdOf_4 : decode cX8_holdOf 4 = .ok (.istore 7, 2) := by decide +kernel
theorem dX8_holdOf_6 : decode cX8_holdOf 6 = .ok (.iload 7, 2) := by decide +kernel
theorem dX8_holdOf_8 : decode cX8_holdOf 8 = .ok (.iconst 4, 1) := by decide +kernel
theorem dX8_holdOf_9 : decode cX8_holdOf 9 = .ok (.if_icmp .ge 59, 3) := by decide +kernel
theorem dX8_holdOf_12 : decode cX8_holdOf 12 = .ok (.iload 6, 2) := by decide +kernel
theorem dX8_holdOf_14 : decode cX8_holdOf 14 = .ok (.aload_n 0, 1) := by decide +kernel
theorem dX8_holdOf_15 : decode cX8_holdOf 15 = .ok (.aload_n 1, 1) := by decide +kernel
theorem dX8_holdOf_16 : decode cX8_holdOf 16 = .ok (.iload_n 2, 1) := by decide +kernel
theorem dX8_holdOf_17 : decode cX8_holdOf 17 = .ok (.iload_n 3, 1) := by decide +kernel
theorem dX8_holdOf_18 : decode cX8_holdOf 18 = .ok (.iconst 0, 1) := by decide +kernel
theorem dX8_holdOf_19 : decode cX8_holdOf 19 = .ok (.iload 4, 2) := by decide +kernel
theorem dX8_holdOf_21 : decode cX8_holdOf 21 = .ok (.iload 5, 2) := by decide +kernel
theorem dX8_holdOf_23 : decode cX8_holdOf 23 = .ok (.iload 7, 2) := by decide +kernel
theorem dX8_holdOf_25 : decode cX8_holdOf 25 = .ok (.invokevirtual 132, 3) := by decide +kernel
theorem dX8_holdOf_28 : decode cX8_holdOf 28 = .ok (.iadd, 1) := by decide +kernel
theorem dX8_holdOf_29 : decode cX8_holdOf 29 = .ok (.istore 6, 2) := by decide +kernel
theorem dX8_holdOf_31 : decode cX8_holdOf 31 = .ok (.aload_n 0, 1) := by decide +kernel
theorem dX8_holdOf_32 : decode cX8_holdOf 32 = .ok (.getfield 13, 3) := by decide +kernel
theorem dX8_holdOf_35 : decode cX8_holdOf 35 = .ok (.iload_n 3, 1) := by decide +kernel
theorem dX8_holdOf_36 : decode cX8_holdOf 36 = .ok (.iaload, 1) := by decide +kernel
theorem dX8_holdOf_37 : decode cX8_holdOf 37 = .ok (.iconst 2, 1) := by decide +kernel
theorem dX8_holdOf_38 : decode cX8_holdOf 38 = .ok (.if_icmp .ne 24, 3) := by decide +kernel
theorem dX8_holdOf_41 : decode cX8_holdOf 41 = .ok (.iload 6, 2) := by decide +kernel
theorem dX8_holdOf_43 : decode cX8_holdOf 43 = .ok (.aload_n 0, 1) := by decide +kernel
theorem dX8_holdOf_44 : decode cX8_holdOf 44 = .ok (.aload_n 1, 1) := by decide +kernel
theorem dX8_holdOf_45 : decode cX8_holdOf 45 = .ok (.iload_n 2, 1) := by decide +kernel
theorem dX8_holdOf_46 : decode cX8_holdOf 46 = .ok (.iload_n 3, 1) := by decide +kernel
theorem dX8_holdOf_47 : decode cX8_holdOf 47 = .ok (.iconst 1, 1) := by decide +kernel
theorem dX8_holdOf_48 : decode cX8_holdOf 48 = .ok (.iload 4, 2) := by decide +kernel
theorem dX8_holdOf_50 : decode cX8_holdOf 50 = .ok (.iconst 1, 1) := by decide +kernel
theorem dX8_holdOf_51 : decode cX8_holdOf 51 = .ok (.iadd, 1) := by decide +kernel
theorem dX8_holdOf_52 : decode cX8_holdOf 52 = .ok (.iload 5, 2) := by decide +kernel
theorem dX8_holdOf_54 : decode cX8_holdOf 54 = .ok (.iload 7, 2) := by decide +kernel
theorem dX8_holdOf_56 : decode cX8_holdOf 56 = .ok (.invokevirtual 132, 3) := by decide +kernel
theorem dX8_holdOf_59 : decode cX8_holdOf 59 = .ok (.iadd, 1) := by decide +kernel
theorem dX8_holdOf_60 : decode cX8_holdOf 60 = .ok (.istore 6, 2) := by decide +kernel
theorem dX8_holdOf_62 : decode cX8_holdOf 62 = .ok (.iinc 7 1, 3) := by decide +kernel
theorem dX8_holdOf_65 : decode cX8_holdOf 65 = .ok (.goto (-59), 3) := by decide +kernel
theorem dX8_holdOf_68 : decode cX8_holdOf 68 = .ok (.iload 6, 2) := by decide +kernel
theorem dX8_holdOf_70 : decode cX8_holdOf 70 = .ok (.ireturn, 1) := by decide +kernel
set_option maxRecDepth 20000 in
theorem ggX8_isFree_X8_isOn : GoodIn wsX8_isFree wsX8_isOn := goodIn_r _ [5] (by decide +kernel) (by decide +kernel)
set_option maxRecDepth 20000 in
theorem gX8_isFree_X8_isOn : GoodIn wsX8_isFree (va_wsS RX8 125 yX8_isOn wsX8_isOn) := goodIn_app (goodIn_of _ (by decide +kernel)) ggX8_isFree_X8_isOn
theorem dX8_isFree_0 : decode cX8_isFree 0 = .ok (.iload 4, 2) := by decide +kernel
theorem dX8_isFree_2 : decode cX8_isFree 2 = .ok (.iload 5, 2) := by decide +kernel
theorem dX8_isFree_4 : decode cX8_isFree 4 = .ok (.invokestatic 125, 3) := by decide +kernel
theorem dX8_isFree_7 : decode cX8_isFree 7 = .ok (.ifCond .eq 22, 3) := by decide +kernel
theorem dX8_isFree_10 : decode cX8_isFree 10 = .ok (.aload_n 1, 1) := by decide +kernel
theorem dX8_isFree_11 : decode cX8_isFree 11 = .ok (.iload_n 2, 1) := by decide +kernel
theorem dX8_isFree_12 : decode cX8_isFree 12 = .ok (.iload 4, 2) := by decide +kernel
theorem dX8_isFree_14 : decode cX8_isFree 14 = .ok (.iadd, 1) := by decide +kernel
theorem dX8_isFree_15 : decode cX8_isFree 15 = .ok (.bipush 16, 2) := by decide +kernel
theorem dX8_isFree_17 : decode cX8_isFree 17 = .ok (.iload 5, 2) := by decide +kernel
theorem dX8_isFree_19 : decode cX8_isFree 19 = .ok (.imul, 1) := by decide +kernel
theorem dX8_isFree_20 : decode cX8_isFree 20 = .ok (.iadd, 1) := by decide +kernel
theorem dX8_isFree_21 : decode cX8_isFree 21 = .ok (.iaload, 1) := by decide +kernel
theorem dX8_isFree_22 : decode cX8_isFree 22 = .ok (.ifCond .ne 7, 3) := by decide +kernel
theorem dX8_isFree_25 : decode cX8_isFree 25 = .ok (.iconst 1, 1) := by decide +kernel
theorem dX8_isFree_26 : decode cX8_isFree 26 = .ok (.goto 4, 3) := by decide +kernel
theorem dX8_isFree_29 : decode cX8_isFree 29 = .ok (.iconst 0, 1) := by decide +kernel
theorem dX8_isFree_30 : decode cX8_isFree 30 = .ok (.istore 6, 2) := by decide +kernel
theorem dX8_isFree_32 : decode cX8_isFree 32 = .ok (.iload 6, 2) := by decide +kernel
theorem dX8_isFree_34 : decode cX8_isFree 34 = .ok (.ifCond .eq 46, 3) := by decide +kernel
theorem dX8_isFree_37 : decode cX8_isFree 37 = .ok (.aload_n 0, 1) := by decide +kernel
theorem dX8_isFree_38 : decode cX8_isFree 38 = .ok (.getfield 13, 3) := by decide +kernel
theorem dX8_isFree_41 : decode cX8_isFree 41 = .ok (.iload_n 3, 1) := by decide +kernel
theorem dX8_isFree_42 : decode cX8_isFree 42 = .ok (.iaload, 1) := by decide +kernel
theorem dX8_isFree_43 : decode cX8_isFree 43 = .ok (.iconst 2, 1) := by decide +kernel
theorem dX8_isFree_44 : decode cX8_isFree 44 = .ok (.if_icmp .ne 32, 3) := by decide +kernel
theorem dX8_isFree_47 : decode cX8_isFree 47 = .ok (.iload 4, 2) := by decide +kernel
theorem dX8_isFree_49 : decode cX8_isFree 49 = .ok (.iconst 1, 1) := by decide +kernel
theorem dX8_isFree_50 : decode cX8_isFree 50 = .ok (.iadd, 1) := by decide +kernel
theorem dX8_isFree_51 : decode cX8_isFree 51 = .ok (.iload 5, 2) := by decide +kernel
theorem dX8_isFree_53 : decode cX8_isFree 53 = .ok (.invokestatic 125, 3) := by decide +kernel
theorem dX8_isFree_56 : decode cX8_isFree 56 = .ok (.ifCond .eq 24, 3) := by decide +kernel
theorem dX8_isFree_59 : decode cX8_isFree 59 = .ok (.aload_n 1, 1) := by decide +kernel
theorem dX8_isFree_60 : decode cX8_isFree 60 = .ok (.iload_n 2, 1) := by decide +kernel
theorem dX8_isFree_61 : decode cX8_isFree 61 = .ok (.iload 4, 2) := by decide +kernel
theorem dX8_isFree_63 : decode cX8_isFree 63 = .ok (.iadd, 1) := by decide +kernel
theorem dX8_isFree_64 : decode cX8_isFree 64 = .ok (.iconst 1, 1) := by decide +kernel
theorem dX8_isFree_65 : decode cX8_isFree 65 = .ok (.iadd, 1) := by decide +kernel
theorem dX8_isFree_66 : decode cX8_isFree 66 = .ok (.bipush 16, 2) := by decide +kernel
theorem dX8_isFree_68 : decode cX8_isFree 68 = .ok (.iload 5, 2) := by decide +kernel
theorem dX8_isFree_70 : decode cX8_isFree 70 = .ok (.imul, 1) := by decide +kernel
theorem dX8_isFree_71 : decode cX8_isFree 71 = .ok (.iadd, 1) := by decide +kernel
theorem dX8_isFree_72 : decode cX8_isFree 72 = .ok (.iaload, 1) := by decide +kernel
theorem dX8_isFree_73 : decode cX8_isFree 73 = .ok (.ifCond .ne 7, 3) := by decide +kernel
theorem dX8_isFree_76 : decode cX8_isFree 76 = .ok (.iconst 1, 1) := by decide +kernel
theorem dX8_isFree_77 : decode cX8_isFree 77 = .ok (.goto 4, 3) := by decide +kernel
theorem dX8_isFree_80 : decode cX8_isFree 80 = .ok (.iconst 0, 1) := by decide +kernel
theorem dX8_isFree_81 : decode cX8_isFree 81 = .ok (.ireturn, 1) := by decide +kernel
set_option maxRecDepth 20000 in
theorem ggX8_isOpen_X8_xAt : GoodIn wsX8_isOpen wsX8_xAt := goodIn_r _ [4] (by decide +kernel) (by decide +kernel)
set_option maxRecDepth 20000 in
theorem gX8_isOpen_X8_xAt : GoodIn wsX8_isOpen (va_wsS RX8 118 yX8_xAt wsX8_xAt) := goodIn_app (goodIn_of _ (by decide +kernel)) ggX8_isOpen_X8_xAt
set_option maxRecDepth 20000 in
theorem ggX8_isOpen_X8_yAt : GoodIn wsX8_isOpen wsX8_yAt := goodIn_r _ [7] (by decide +kernel) (by decide +kernel)
set_option maxRecDepth 20000 in
theorem gX8_isOpen_X8_yAt : GoodIn wsX8_isOpen (va_wsS RX8 122 yX8_yAt wsX8_yAt) := goodIn_app (goodIn_of _ (by decide +kernel)) ggX8_isOpen_X8_yAt
set_option maxRecDepth 20000 in
theorem ggX8_isOpen_X8_isOn : GoodIn wsX8_isOpen wsX8_isOn := goodIn_r _ [10] (by decide +kernel) (by decide +kernel)
set_option maxRecDepth 20000 in
theorem gX8_isOpen_X8_isOn : GoodIn wsX8_isOpen (va_wsS RX8 125 yX8_isOn wsX8_isOn) := goodIn_app (goodIn_of _ (by decide +kernel)) ggX8_isOpen_X8_isOn
set_option maxRecDepth 20000 in
theorem ggX8_isOpen_X8_isBarred : GoodIn wsX8_isOpen wsX8_isBarred := goodIn_r _ [14, 15, 16, 17, 18, 19, 20, 21, 22, 23, 24, 25, 26, 27, 28, 29, 30, 31, 32, 33, 34, 35, 36, 37, 38, 39, 40, 41, 42, 43, 44, 45, 46, 47, 48, 49, 50, 51, 52, 53, 54] (by decide +kernel) (by decide +kernel)
set_option maxRecDepth 20000 in
theorem gX8_isOpen_X8_isBarred : GoodIn wsX8_isOpen (wsV RX8 136 RX8 yX8_isBarred wsX8_isBarred) := goodIn_app (goodIn_of _ (by decide +kernel)) ggX8_isOpen_X8_isBarred
theorem dX8_isOpen_0 : decode cX8_isOpen 0 = .ok (.iconst 0, 1) := by decide +kernel
theorem dX8_isOpen_1 : decode cX8_isOpen 1 = .ok (.istore 6, 2) := by decide +kernel
theorem dX8_isOpen_3 : decode cX8_isOpen 3 = .ok (.iload 6, 2) := by decide +kernel
theorem dX8_isOpen_5 : decode cX8_isOpen 5 = .ok (.iconst 4, 1) := by decide +kernel
theorem dX8_isOpen_6 : decode cX8_isOpen 6 = .ok (.if_icmp .ge 102, 3) := by decide +kernel
theorem dX8_isOpen_9 : decode cX8_isOpen 9 = .ok (.iload 4, 2) := by decide +kernel
theorem dX8_isOpen_11 : decode cX8_isOpen 11 = .ok (.iload 6, 2) := by decide +kernel
theorem dX8_isOpen_13 : decode cX8_isOpen 13 = .ok (.invokestatic 118, 3) := by decide +kernel
theorem dX8_isOpen_16 : decode cX8_isOpen 16 = .ok (.iadd, 1) := by decide +kernel
theorem dX8_isOpen_17 : decode cX8_isOpen 17 = .ok (.istore 7, 2) := by decide +kernel
theorem dX8_isOpen_19 : decode cX8_isOpen 19 = .ok (.iload 5, 2) := by decide +kernel
theorem dX8_isOpen_21 : decode cX8_isOpen 21 = .ok (.iload 6, 2) := by decide +kernel
theorem dX8_isOpen_23 : decode cX8_isOpen 23 = .ok (.invokestatic 122, 3) := by decide +kernel
theorem dX8_isOpen_26 : decode cX8_isOpen 26 = .ok (.iadd, 1) := by decide +kernel
theorem dX8_isOpen_27 : decode cX8_isOpen 27 = .ok (.istore 8, 2) := by decide +kernel
theorem dX8_isOpen_29 : decode cX8_isOpen 29 = .ok (.iload 7, 2) := by decide +kernel
theorem dX8_isOpen_31 : decode cX8_isOpen 31 = .ok (.iload 8, 2) := by decide +kernel
theorem dX8_isOpen_33 : decode cX8_isOpen 33 = .ok (.invokestatic 125, 3) := by decide +kernel
theorem dX8_isOpen_36 : decode cX8_isOpen 36 = .ok (.ifCond .eq 66, 3) := by decide +kernel
theorem dX8_isOpen_39 : decode cX8_isOpen 39 = .ok (.aload_n 1, 1) := by decide +kernel
theorem dX8_isOpen_40 : decode cX8_isOpen 40 = .ok (.iload_n 2, 1) := by decide +kernel
theorem dX8_isOpen_41 : decode cX8_isOpen 41 = .ok (.iload 7, 2) := by decide +kernel
theorem dX8_isOpen_43 : decode cX8_isOpen 43 = .ok (.iadd, 1) := by decide +kernel
theorem dX8_isOpen_44 : decode cX8_isOpen 44 = .ok (.bipush 16, 2) := by decide +kernel
theorem dX8_isOpen_46 : decode cX8_isOpen 46 = .ok (.iload 8, 2) := by decide +kernel
theorem dX8_isOpen_48 : decode cX8_isOpen 48 = .ok (.imul, 1) := by decide +kernel
theorem dX8_isOpen_49 : decode cX8_isOpen 49 = .ok (.iadd, 1) := by decide +kernel
theorem dX8_isOpen_50 : decode cX8_isOpen 50 = .ok (.iaload, 1) := by decide +kernel
theorem dX8_isOpen_51 : decode cX8_isOpen 51 = .ok (.ifCond .ne 6, 3) := by decide +kernel
theorem dX8_isOpen_54 : decode cX8_isOpen 54 = .ok (.goto 48, 3) := by decide +kernel
theorem dX8_isOpen_57 : decode cX8_isOpen 57 = .ok (.aload_n 1, 1) := by decide +kernel
theorem dX8_isOpen_58 : decode cX8_isOpen 58 = .ok (.iload_n 2, 1) := by decide +kernel
theorem dX8_isOpen_59 : decode cX8_isOpen 59 = .ok (.iload 7, 2) := by decide +kernel
theorem dX8_isOpen_61 : decode cX8_isOpen 61 = .ok (.iadd, 1) := by decide +kernel
theorem dX8_isOpen_62 : decode cX8_isOpen 62 = .ok (.bipush 16, 2) := by decide +kernel
theorem dX8_isOpen_64 : decode cX8_isOpen 64 = .ok (.iload 8, 2) := by decide +kernel
theorem dX8_isOpen_66 : decode cX8_isOpen 66 = .ok (.imul, 1) := by decide +kernel
theorem dX8_isOpen_67 : decode cX8_isOpen 67 = .ok (.iadd, 1) := by decide +kernel
theorem dX8_isOpen_68 : decode cX8_isOpen 68 = .ok (.iaload, 1) := by decide +kernel
theorem dX8_isOpen_69 : decode cX8_isOpen 69 = .ok (.iconst 1, 1) := by decide +kernel
theorem dX8_isOpen_70 : decode cX8_isOpen 70 = .ok (.isub, 1) := by decide +kernel
theorem dX8_isOpen_71 : decode cX8_isOpen 71 = .ok (.iconst 2, 1) := by decide +kernel
theorem dX8_isOpen_72 : decode cX8_isOpen 72 = .ok (.idiv, 1) := by decide +kernel
theorem dX8_isOpen_73 : decode cX8_isOpen 73 = .ok (.istore 9, 2) := by decide +kernel
theorem dX8_isOpen_75 : decode cX8_isOpen 75 = .ok (.aload_n 0, 1) := by decide +kernel
theorem dX8_isOpen_76 : decode cX8_isOpen 76 = .ok (.iload 9, 2) := by decide +kernel
theorem dX8_isOpen_78 : decode cX8_isOpen 78 = .ok (.iload 6, 2) := by decide +kernel
theorem dX8_isOpen_80 : decode cX8_isOpen 80 = .ok (.iconst 2, 1) := by decide +kernel
theorem dX8_isOpen_81 : decode cX8_isOpen 81 = .ok (.iadd, 1) := by decide +kernel
theorem dX8_isOpen_82 : decode cX8_isOpen 82 = .ok (.iconst 4, 1) := by decide +kernel
theorem dX8_isOpen_83 : decode cX8_isOpen 83 = .ok (.irem, 1) := by decide +kernel
theorem dX8_isOpen_84 : decode cX8_isOpen 84 = .ok (.invokevirtual 136, 3) := by decide +kernel
theorem dX8_isOpen_87 : decode cX8_isOpen 87 = .ok (.ifCond .ne 13, 3) := by decide +kernel
theorem dX8_isOpen_90 : decode cX8_isOpen 90 = .ok (.aload_n 0, 1) := by decide +kernel
theorem dX8_isOpen_91 : decode cX8_isOpen 91 = .ok (.iload_n 3, 1) := by decide +kernel
theorem dX8_isOpen_92 : decode cX8_isOpen 92 = .ok (.iload 6, 2) := by decide +kernel
theorem dX8_isOpen_94 : decode cX8_isOpen 94 = .ok (.invokevirtual 136, 3) := by decide +kernel
theorem dX8_isOpen_97 : decode cX8_isOpen 97 = .ok (.ifCond .eq 5, 3) := by decide +kernel
theorem dX8_isOpen_100 : decode cX8_isOpen 100 = .ok (.iconst 0, 1) := by decide +kernel
theorem dX8_isOpen_101 : decode cX8_isOpen 101 = .ok (.ireturn, 1) := by decide +kernel
theorem dX8_isOpen_102 : decode cX8_isOpen 102 = .ok (.iinc 6 1, 3) := by decide +kernel
theorem dX8_isOpen_105 : decode cX8_isOpen 105 = .ok (.goto (-102), 3) := by decide +kernel
theorem dX8_isOpen_108 : decode cX8_isOpen 108 = .ok (.iconst 1, 1) := by decide +kernel
theorem dX8_isOpen_109 : decode cX8_isOpen 109 = .ok (.ireturn, 1) := by decide +kernel
set_option maxRecDepth 20000 in
theorem ggX8_mayCome_X8_isFree : GoodIn wsX8_mayCome wsX8_isFree := goodIn_r _ [7, 1, 8, 9, 6, 10, 40, 41, 42, 43, 44, 45, 46, 47, 48, 49, 50, 51, 52, 53, 54, 55, 56, 57, 58, 59, 60, 61, 62, 63, 64, 65, 66, 67, 68, 69, 70, 71, 72, 73, 74, 75, 76, 77] (by decide +kernel) (by decide +kernel)
set_option maxRecDepth 20000 in
theorem gX8_mayCome_X8_isFree : GoodIn wsX8_mayCome (wsV RX8 139 RX8 yX8_isFree wsX8_isFree) := goodIn_app (goodIn_of _ (by decide +kernel)) ggX8_mayCome_X8_isFree
set_option maxRecDepth 20000 in
theorem ggX8_mayCome_X8_holdOf : GoodIn wsX8_mayCome wsX8_holdOf := goodIn_r _ [14, 1, 15, 16, 17, 6, 18, 19, 20, 21, 22, 23, 24, 25, 8, 9, 10, 26, 27, 28, 29, 30, 31, 40, 41, 42, 43, 44, 45, 46, 47, 48, 49, 50, 51, 52, 53, 54, 55, 56, 57, 58, 59, 60, 61, 62, 63, 64, 65, 66, 67, 68, 69, 70, 71, 72, 73, 74, 75, 76, 77] (by decide +kernel) (by decide +kernel)
set_option maxRecDepth 20000 in
theorem gX8_mayCome_X8_holdOf : GoodIn wsX8_mayCome (wsV RX8 143 RX8 yX8_holdOf wsX8_holdOf) := goodIn_app (goodIn_of _ (by decide +kernel)) ggX8_mayCome_X8_holdOf
set_option maxRecDepth 20000 in
theorem ggX8_mayCome_X8_isOpen : GoodIn wsX8_mayCome wsX8_isOpen := goodIn_r _ [35, 20, 21, 6, 22, 23, 24, 25, 8, 9, 10, 36, 37, 38, 39, 1, 31, 40, 41, 42, 43, 44, 45, 46, 47, 48, 49, 50, 51, 52, 53, 54, 55, 56, 57, 58, 59, 60, 61, 62, 63, 64, 65, 66, 67, 68, 69, 70, 71, 72, 73, 74, 75, 76, 77] (by decide +kernel) (by decide +kernel)
set_option maxRecDepth 20000 in
theorem gX8_mayCome_X8_isOpen : GoodIn wsX8_mayCome (wsV RX8 147 RX8 yX8_isOpen wsX8_isOpen) := goodIn_app (goodIn_of _ (by decide +kernel)) ggX8_mayCome_X8_isOpen
theorem dX8_mayCome_0 : decode cX8_mayCome 0 = .ok (.aload_n 0, 1) := by decide +kernel
theorem dX8_mayCome_1 : decode cX8_mayCome 1 = .ok (.getfield 13, 3) := by decide +kernel
theorem dX8_mayCome_4 : decode cX8_mayCome 4 = .ok (.iload_n 3, 1) := by decide +kernel
theorem dX8_mayCome_5 : decode cX8_mayCome 5 = .ok (.iaload, 1) := by decide +kernel
theorem dX8_mayCome_6 : decode cX8_mayCome 6 = .ok (.iconst 1, 1) := by decide +kernel
theorem dX8_mayCome_7 : decode cX8_mayCome 7 = .ok (.if_icmp .eq 35, 3) := by decide +kernel
theorem dX8_mayCome_10 : decode cX8_mayCome 10 = .ok (.aload_n 0, 1) := by decide +kernel
theorem dX8_mayCome_11 : decode cX8_mayCome 11 = .ok (.aload_n 1, 1) := by decide +kernel
theorem dX8_mayCome_12 : decode cX8_mayCome 12 = .ok (.iload_n 2, 1) := by decide +kernel
theorem dX8_mayCome_13 : decode cX8_mayCome 13 = .ok (.iload_n 3, 1) := by decide +kernel
theorem dX8_mayCome_14 : decode cX8_mayCome 14 = .ok (.iload 4, 2) := by decide +kernel
theorem dX8_mayCome_16 : decode cX8_mayCome 16 = .ok (.iload 5, 2) := by decide +kernel
theorem dX8_mayCome_18 : decode cX8_mayCome 18 = .ok (.invokevirtual 139, 3) := by decide +kernel
theorem dX8_mayCome_21 : decode cX8_mayCome 21 = .ok (.ifCond .eq 21, 3) := by decide +kernel
theorem dX8_mayCome_24 : decode cX8_mayCome 24 = .ok (.aload_n 0, 1) := by decide +kernel
theorem dX8_mayCome_25 : decode cX8_mayCome 25 = .ok (.aload_n 1, 1) := by decide +kernel
theorem dX8_mayCome_26 : decode cX8_mayCome 26 = .ok (.iload_n 2, 1) := by decide +kernel
theorem dX8_mayCome_27 : decode cX8_mayCome 27 = .ok (.iload_n 3, 1) := by decide +kernel
theorem dX8_mayCome_28 : decode cX8_mayCome 28 = .ok (.iload 4, 2) := by decide +kernel
theorem dX8_mayCome_30 : decode cX8_mayCome 30 = .ok (.iload 5, 2) := by decide +kernel
theorem dX8_mayCome_32 : decode cX8_mayCome 32 = .ok (.invokevirtual 143, 3) := by decide +kernel
theorem dX8_mayCome_35 : decode cX8_mayCome 35 = .ok (.aload_n 0, 1) := by decide +kernel
theorem dX8_mayCome_36 : decode cX8_mayCome 36 = .ok (.getfield 22, 3) := by decide +kernel
theorem dX8_mayCome_39 : decode cX8_mayCome 39 = .ok (.if_icmp .ge 5, 3) := by decide +kernel
theorem dX8_mayCome_42 : decode cX8_mayCome 42 = .ok (.iconst 0, 1) := by decide +kernel
theorem dX8_mayCome_43 : decode cX8_mayCome 43 = .ok (.ireturn, 1) := by decide +kernel
theorem dX8_mayCome_44 : decode cX8_mayCome 44 = .ok (.aload_n 0, 1) := by decide +kernel
theorem dX8_mayCome_45 : decode cX8_mayCome 45 = .ok (.aload_n 1, 1) := by decide +kernel
theorem dX8_mayCome_46 : decode cX8_mayCome 46 = .ok (.iload_n 2, 1) := by decide +kernel
theorem dX8_mayCome_47 : decode cX8_mayCome 47 = .ok (.iload_n 3, 1) := by decide +kernel
theorem dX8_mayCome_48 : decode cX8_mayCome 48 = .ok (.iload 4, 2) := by decide +kernel
theorem dX8_mayCome_50 : decode cX8_mayCome 50 = .ok (.iload 5, 2) := by decide +kernel
theorem dX8_mayCome_52 : decode cX8_mayCome 52 = .ok (.invokevirtual 147, 3) := by decide +kernel
theorem dX8_mayCome_55 : decode cX8_mayCome 55 = .ok (.ifCond .eq 33, 3) := by decide +kernel
theorem dX8_mayCome_58 : decode cX8_mayCome 58 = .ok (.aload_n 0, 1) := by decide +kernel
theorem dX8_mayCome_59 : decode cX8_mayCome 59 = .ok (.getfield 13, 3) := by decide +kernel
theorem dX8_mayCome_62 : decode cX8_mayCome 62 = .ok (.iload_n 3, 1) := by decide +kernel
theorem dX8_mayCome_63 : decode cX8_mayCome 63 = .ok (.iaload, 1) := by decide +kernel
theorem dX8_mayCome_64 : decode cX8_mayCome 64 = .ok (.iconst 2, 1) := by decide +kernel
theorem dX8_mayCome_65 : decode cX8_mayCome 65 = .ok (.if_icmp .ne 19, 3) := by decide +kernel
theorem dX8_mayCome_68 : decode cX8_mayCome 68 = .ok (.aload_n 0, 1) := by decide +kernel
theorem dX8_mayCome_69 : decode cX8_mayCome 69 = .ok (.aload_n 1, 1) := by decide +kernel
theorem dX8_mayCome_70 : decode cX8_mayCome 70 = .ok (.iload_n 2, 1) := by decide +kernel
theorem dX8_mayCome_71 : decode cX8_mayCome 71 = .ok (.iload_n 3, 1) := by decide +kernel
theorem dX8_mayCome_72 : decode cX8_mayCome 72 = .ok (.iload 4, 2) := by decide +kernel
theorem dX8_mayCome_74 : decode cX8_mayCome 74 = .ok (.iconst 1, 1) := by decide +kernel
theorem dX8_mayCome_75 : decode cX8_mayCome 75 = .ok (.iadd, 1) := by decide +kernel
theorem dX8_mayCome_76 : decode cX8_mayCome 76 = .ok (.iload 5, 2) := by decide +kernel
theorem dX8_mayCome_78 : decode cX8_mayCome 78 = .ok (.invokevirtual 147, 3) := by decide +kernel
theorem dX8_mayCome_81 : decode cX8_mayCome 81 = .ok (.ifCond .eq 7, 3) := by decide +kernel
theorem dX8_mayCome_84 : decode cX8_mayCome 84 = .ok (.iconst 1, 1) := by decide +kernel
theorem dX8_mayCome_85 : decode cX8_mayCome 85 = .ok (.goto 4, 3) := by decide +kernel
theorem dX8_mayCome_88 : decode cX8_mayCome 88 = .ok (.iconst 0, 1) := by decide +kernel
theorem dX8_mayCome_89 : decode cX8_mayCome 89 = .ok (.ireturn, 1) := by decide +kernel
set_option maxRecDepth 20000 in
theorem ggX8_may_X8_isPiece : GoodIn wsX8_may wsX8_isPiece := goodIn_r _ [6, 7, 50, 51, 52, 53, 54, 55, 56, 57, 58, 59, 60, 61, 62, 63, 64, 65, 66, 67, 68, 69, 70, 71, 72, 73, 74, 75, 76, 77, 78, 79, 80, 81, 82, 83, 84, 85, 86, 87] (by decide +kernel) (by decide +kernel)
set_option maxRecDepth 20000 in
theorem gX8_may_X8_isPiece : GoodIn wsX8_may (wsV RX8 150 RX8 yX8_isPiece wsX8_isPiece) := goodIn_app (goodIn_of _ (by decide +kernel)) ggX8_may_X8_isPiece
set_option maxRecDepth 20000 in
theorem ggX8_may_X8_mayCome : GoodIn wsX8_may wsX8_mayCome := goodIn_r _ [11, 12, 13, 14, 15, 16, 5, 17, 18, 19, 20, 21, 22, 23, 24, 25, 26, 27, 28, 29, 30, 31, 32, 33, 34, 35, 36, 37, 38, 39, 40, 41, 42, 43, 44, 45, 46, 47, 48, 49, 50, 51, 52, 53, 54, 55, 56, 57, 58, 59, 60, 61, 62, 63, 64, 65, 66, 67, 68, 69, 70, 71, 72, 73, 74, 75, 76, 77, 78, 79, 80, 81, 82, 83, 84, 85, 86, 87] (by decide +kernel) (by decide +kernel)
set_option maxRecDepth 20000 in
theorem gX8_may_X8_mayCome : GoodIn wsX8_may (wsV RX8 153 RX8 yX8_mayCome wsX8_mayCome) := goodIn_app (goodIn_of _ (by decide +kernel)) ggX8_may_X8_mayCome
theorem dX8_may_0 : decode cX8_may 0 = .ok (.aload_n 0, 1) := by decide +kernel
theorem dX8_may_1 : decode cX8_may 1 = .ok (.iload_n 1, 1) := by decide +kernel
theorem dX8_may_2 : decode cX8_may 2 = .ok (.invokevirtual 150, 3) := by decide +kernel
theorem dX8_may_5 : decode cX8_may 5 = .ok (.ifCond .eq 22, 3) := by decide +kernel
theorem dX8_may_8 : decode cX8_may 8 = .ok (.aload_n 0, 1) := by decide +kernel
theorem dX8_may_9 : decode cX8_may 9 = .ok (.aload_n 0, 1) := by decide +kernel
theorem dX8_may_10 : decode cX8_may 10 = .ok (.getfield 26, 3) := by decide +kernel
theorem dX8_may_13 : decode cX8_may 13 = .ok (.iconst 0, 1) := by decide +kernel
theorem dX8_may_14 : decode cX8_may 14 = .ok (.iload_n 1, 1) := by decide +kernel
theorem dX8_may_15 : decode cX8_may 15 = .ok (.iload_n 2, 1) := by decide +kernel
theorem dX8_may_16 : decode cX8_may 16 = .ok (.iload_n 3, 1) := by decide +kernel
theorem dX8_may_17 : decode cX8_may 17 = .ok (.invokevirtual 153, 3) := by decide +kernel
theorem dX8_may_20 : decode cX8_may 20 = .ok (.ifCond .eq 7, 3) := by decide +kernel
theorem dX8_may_23 : decode cX8_may 23 = .ok (.iconst 1, 1) := by decide +kernel
theorem dX8_may_24 : decode cX8_may 24 = .ok (.goto 4, 3) := by decide +kernel
theorem dX8_may_27 : decode cX8_may 27 = .ok (.iconst 0, 1) := by decide +kernel
theorem dX8_may_28 : decode cX8_may 28 = .ok (.ireturn, 1) := by decide +kernel
set_option maxRecDepth 20000 in
theorem ggX8_hold_X8_isPiece : GoodIn wsX8_hold wsX8_isPiece := goodIn_r _ [6, 7, 37, 38, 39, 40, 41, 42, 43, 44, 45, 46, 47, 48, 49, 50, 51, 52, 53, 54, 55, 56, 57, 58, 59, 60, 61, 62, 63, 64, 65, 66, 67, 68, 69, 70, 71, 72, 73, 74] (by decide +kernel) (by decide +kernel)
set_option maxRecDepth 20000 in
theorem gX8_hold_X8_isPiece : GoodIn wsX8_hold (wsV RX8 150 RX8 yX8_isPiece wsX8_isPiece) := goodIn_app (goodIn_of _ (by decide +kernel)) ggX8_hold_X8_isPiece
set_option maxRecDepth 20000 in
theorem ggX8_hold_X8_isFree : GoodIn wsX8_hold wsX8_isFree := goodIn_r _ [11, 12, 13, 14, 5, 15, 37, 38, 39, 40, 41, 42, 43, 44, 45, 46, 47, 48, 49, 50, 51, 52, 53, 54, 55, 56, 57, 58, 59, 60, 61, 62, 63, 64, 65, 66, 67, 68, 69, 70, 71, 72, 73, 74] (by decide +kernel) (by decide +kernel)
set_option maxRecDepth 20000 in
theorem gX8_hold_X8_isFree : GoodIn wsX8_hold (wsV RX8 139 RX8 yX8_isFree wsX8_isFree) := goodIn_app (goodIn_of _ (by decide +kernel)) ggX8_hold_X8_isFree
set_option maxRecDepth 20000 in
theorem ggX8_hold_X8_holdOf : GoodIn wsX8_hold wsX8_holdOf := goodIn_r _ [19, 12, 20, 21, 22, 5, 23, 24, 25, 26, 27, 28, 29, 30, 13, 14, 15, 31, 32, 33, 34, 35, 36, 37, 38, 39, 40, 41, 42, 43, 44, 45, 46, 47, 48, 49, 50, 51, 52, 53, 54, 55, 56, 57, 58, 59, 60, 61, 62, 63, 64, 65, 66, 67, 68, 69, 70, 71, 72, 73, 74] (by decide +kernel) (by decide +kernel)
set_option maxRecDepth 20000 in
theorem gX8_hold_X8_holdOf : GoodIn wsX8_hold (wsV RX8 143 RX8 yX8_holdOf wsX8_holdOf) := goodIn_app (goodIn_of _ (by decide +kernel)) ggX8_hold_X8_holdOf
theorem dX8_hold_0 : decode cX8_hold 0 = .ok (.aload_n 0, 1) := by decide +kernel
theorem dX8_hold_1 : decode cX8_hold 1 = .ok (.iload_n 1, 1) := by decide +kernel
theorem dX8_hold_2 : decode cX8_hold 2 = .ok (.invokevirtual 150, 3) := by decide +kernel
theorem dX8_hold_5 : decode cX8_hold 5 = .ok (.ifCond .eq 33, 3) := by decide +kernel
theorem dX8_hold_8 : decode cX8_hold 8 = .ok (.aload_n 0, 1) := by decide +kernel
theorem dX8_hold_9 : decode cX8_hold 9 = .ok (.aload_n 0, 1) := by decide +kernel
theorem dX8_hold_10 : decode cX8_hold 10 = .ok (.getfield 26, 3) := by decide +kernel
theorem dX8_hold_13 : decode cX8_hold 13 = .ok (.iconst 0, 1) := by decide +kernel
theorem dX8_hold_14 : decode cX8_hold 14 = .ok (.iload_n 1, 1) := by decide +kernel
theorem dX8_hold_15 : decode cX8_hold 15 = .ok (.iload_n 2, 1) := by decide +kernel
theorem dX8_hold_16 : decode cX8_hold 16 = .ok (.iload_n 3, 1) := by decide +kernel
theorem dX8_hold_17 : decode cX8_hold 17 = .ok (.invokevirtual 139, 3) := by decide +kernel
theorem dX8_hold_20 : decode cX8_hold 20 = .ok (.ifCond .eq 18, 3) := by decide +kernel
theorem dX8_hold_23 : decode cX8_hold 23 = .ok (.aload_n 0, 1) := by decide +kernel
theorem dX8_hold_24 : decode cX8_hold 24 = .ok (.aload_n 0, 1) := by decide +kernel
theorem dX8_hold_25 : decode cX8_hold 25 = .ok (.getfield 26, 3) := by decide +kernel
theorem dX8_hold_28 : decode cX8_hold 28 = .ok (.iconst 0, 1) := by decide +kernel
theorem dX8_hold_29 : decode cX8_hold 29 = .ok (.iload_n 1, 1) := by decide +kernel
theorem dX8_hold_30 : decode cX8_hold 30 = .ok (.iload_n 2, 1) := by decide +kernel
theorem dX8_hold_31 : decode cX8_hold 31 = .ok (.iload_n 3, 1) := by decide +kernel
theorem dX8_hold_32 : decode cX8_hold 32 = .ok (.invokevirtual 143, 3) := by decide +kernel
theorem dX8_hold_35 : decode cX8_hold 35 = .ok (.goto 4, 3) := by decide +kernel
theorem dX8_hold_38 : decode cX8_hold 38 = .ok (.iconst (-1), 1) := by decide +kernel
theorem dX8_hold_39 : decode cX8_hold 39 = .ok (.ireturn, 1) := by decide +kernel
theorem dX8_lay_0 : decode cX8_lay 0 = .ok (.aload_n 1, 1) := by decide +kernel
theorem dX8_lay_1 : decode cX8_lay 1 = .ok (.iload_n 2, 1) := by decide +kernel
theorem dX8_lay_2 : decode cX8_lay 2 = .ok (.iload 4, 2) := by decide +kernel
theorem dX8_lay_4 : decode cX8_lay 4 = .ok (.iadd, 1) := by decide +kernel
theorem dX8_lay_5 : decode cX8_lay 5 = .ok (.iconst 1, 1) := by decide +kernel
theorem dX8_lay_6 : decode cX8_lay 6 = .ok (.iconst 2, 1) := by decide +kernel
theorem dX8_lay_7 : decode cX8_lay 7 = .ok (.iload_n 3, 1) := by decide +kernel
theorem dX8_lay_8 : decode cX8_lay 8 = .ok (.imul, 1) := by decide +kernel
theorem dX8_lay_9 : decode cX8_lay 9 = .ok (.iadd, 1) := by decide +kernel
theorem dX8_lay_10 : decode cX8_lay 10 = .ok (.iastore, 1) := by decide +kernel
theorem dX8_lay_11 : decode cX8_lay 11 = .ok (.aload_n 0, 1) := by decide +kernel
theorem dX8_lay_12 : decode cX8_lay 12 = .ok (.getfield 13, 3) := by decide +kernel
theorem dX8_lay_15 : decode cX8_lay 15 = .ok (.iload_n 3, 1) := by decide +kernel
theorem dX8_lay_16 : decode cX8_lay 16 = .ok (.iaload, 1) := by decide +kernel
theorem dX8_lay_17 : decode cX8_lay 17 = .ok (.iconst 2, 1) := by decide +kernel
theorem dX8_lay_18 : decode cX8_lay 18 = .ok (.if_icmp .ne 16, 3) := by decide +kernel
theorem dX8_lay_21 : decode cX8_lay 21 = .ok (.aload_n 1, 1) := by decide +kernel
theorem dX8_lay_22 : decode cX8_lay 22 = .ok (.iload_n 2, 1) := by decide +kernel
theorem dX8_lay_23 : decode cX8_lay 23 = .ok (.iload 4, 2) := by decide +kernel
theorem dX8_lay_25 : decode cX8_lay 25 = .ok (.iadd, 1) := by decide +kernel
theorem dX8_lay_26 : decode cX8_lay 26 = .ok (.iconst 1, 1) := by decide +kernel
theorem dX8_lay_27 : decode cX8_lay 27 = .ok (.iadd, 1) := by decide +kernel
theorem dX8_lay_28 : decode cX8_lay 28 = .ok (.iconst 2, 1) := by decide +kernel
theorem dX8_lay_29 : decode cX8_lay 29 = .ok (.iconst 2, 1) := by decide +kernel
theorem dX8_lay_30 : decode cX8_lay 30 = .ok (.iload_n 3, 1) := by decide +kernel
theorem dX8_lay_31 : decode cX8_lay 31 = .ok (.imul, 1) := by decide +kernel
theorem dX8_lay_32 : decode cX8_lay 32 = .ok (.iadd, 1) := by decide +kernel
theorem dX8_lay_33 : decode cX8_lay 33 = .ok (.iastore, 1) := by decide +kernel
theorem dX8_lay_34 : decode cX8_lay 34 = .ok (.return_, 1) := by decide +kernel
theorem dX8_setSince_0 : decode cX8_setSince 0 = .ok (.aload_n 0, 1) := by decide +kernel
theorem dX8_setSince_1 : decode cX8_setSince 1 = .ok (.getfield 29, 3) := by decide +kernel
theorem dX8_setSince_4 : decode cX8_setSince 4 = .ok (.iload_n 2, 1) := by decide +kernel
theorem dX8_setSince_5 : decode cX8_setSince 5 = .ok (.iload_n 3, 1) := by decide +kernel
theorem dX8_setSince_6 : decode cX8_setSince 6 = .ok (.iastore, 1) := by decide +kernel
theorem dX8_setSince_7 : decode cX8_setSince 7 = .ok (.aload_n 0, 1) := by decide +kernel
theorem dX8_setSince_8 : decode cX8_setSince 8 = .ok (.getfield 13, 3) := by decide +kernel
theorem dX8_setSince_11 : decode cX8_setSince 11 = .ok (.iload_n 1, 1) := by decide +kernel
theorem dX8_setSince_12 : decode cX8_setSince 12 = .ok (.iaload, 1) := by decide +kernel
theorem dX8_setSince_13 : decode cX8_setSince 13 = .ok (.iconst 2, 1) := by decide +kernel
theorem dX8_setSince_14 : decode cX8_setSince 14 = .ok (.if_icmp .ne 12, 3) := by decide +kernel
theorem dX8_setSince_17 : decode cX8_setSince 17 = .ok (.aload_n 0, 1) := by decide +kernel
theorem dX8_setSince_18 : decode cX8_setSince 18 = .ok (.getfield 29, 3) := by decide +kernel
theorem dX8_setSince_21 : decode cX8_setSince 21 = .ok (.iload_n 2, 1) := by decide +kernel
theorem dX8_setSince_22 : decode cX8_setSince 22 = .ok (.iconst 1, 1) := by decide +kernel
theorem dX8_setSince_23 : decode cX8_setSince 23 = .ok (.iadd, 1) := by decide +kernel
theorem dX8_setSince_24 : decode cX8_setSince 24 = .ok (.iload_n 3, 1) := by decide +kernel
theorem dX8_setSince_25 : decode cX8_setSince 25 = .ok (.iastore, 1) := by decide +kernel
theorem dX8_setSince_26 : decode cX8_setSince 26 = .ok (.return_, 1) := by decide +kernel
theorem dX8_away_0 : decode cX8_away 0 = .ok (.aload_n 1, 1) := by decide +kernel
theorem dX8_away_1 : decode cX8_away 1 = .ok (.iload_n 3, 1) := by decide +kernel
theorem dX8_away_2 : decode cX8_away 2 = .ok (.iconst 0, 1) := by decide +kernel
theorem dX8_away_3 : decode cX8_away 3 = .ok (.iastore, 1) := by decide +kernel
theorem dX8_away_4 : decode cX8_away 4 = .ok (.aload_n 0, 1) := by decide +kernel
theorem dX8_away_5 : decode cX8_away 5 = .ok (.getfield 13, 3) := by decide +kernel
theorem dX8_away_8 : decode cX8_away 8 = .ok (.iload_n 2, 1) := by decide +kernel
theorem dX8_away_9 : decode cX8_away 9 = .ok (.iaload, 1) := by decide +kernel
theorem dX8_away_10 : decode cX8_away 10 = .ok (.iconst 2, 1) := by decide +kernel
theorem dX8_away_11 : decode cX8_away 11 = .ok (.if_icmp .ne 9, 3) := by decide +kernel
theorem dX8_away_14 : decode cX8_away 14 = .ok (.aload_n 1, 1) := by decide +kernel
theorem dX8_away_15 : decode cX8_away 15 = .ok (.iload_n 3, 1) := by decide +kernel
theorem dX8_away_16 : decode cX8_away 16 = .ok (.iconst 1, 1) := by decide +kernel
theorem dX8_away_17 : decode cX8_away 17 = .ok (.iadd, 1) := by decide +kernel
theorem dX8_away_18 : decode cX8_away 18 = .ok (.iconst 0, 1) := by decide +kernel
theorem dX8_away_19 : decode cX8_away 19 = .ok (.iastore, 1) := by decide +kernel
theorem dX8_away_20 : decode cX8_away 20 = .ok (.return_, 1) := by decide +kernel
theorem dX8_step_0 : decode cX8_step 0 = .ok (.aload_n 0, 1) := by decide +kernel
theorem dX8_step_1 : decode cX8_step 1 = .ok (.getfield 156, 3) := by decide +kernel
theorem dX8_step_4 : decode cX8_step 4 = .ok (.sipush 200, 3) := by decide +kernel
theorem dX8_step_7 : decode cX8_step 7 = .ok (.if_icmp .ne 94, 3) := by decide +kernel
theorem dX8_step_10 : decode cX8_step 10 = .ok (.iconst 1, 1) := by decide +kernel
theorem dX8_step_11 : decode cX8_step 11 = .ok (.istore 5, 2) := by decide +kernel
theorem dX8_step_13 : decode cX8_step 13 = .ok (.iload 5, 2) := by decide +kernel
theorem dX8_step_15 : decode cX8_step 15 = .ok (.sipush 200, 3) := by decide +kernel
theorem dX8_step_18 : decode cX8_step 18 = .ok (.if_icmp .ge 73, 3) := by decide +kernel
theorem dX8_step_21 : decode cX8_step 21 = .ok (.aload_n 0, 1) := by decide +kernel
theorem dX8_step_22 : decode cX8_step 22 = .ok (.getfield 57, 3) := by decide +kernel
theorem dX8_step_25 : decode cX8_step 25 = .ok (.iload 5, 2) := by decide +kernel
theorem dX8_step_27 : decode cX8_step 27 = .ok (.iconst 1, 1) := by decide +kernel
theorem dX8_step_28 : decode cX8_step 28 = .ok (.isub, 1) := by decide +kernel
theorem dX8_step_29 : decode cX8_step 29 = .ok (.aload_n 0, 1) := by decide +kernel
theorem dX8_step_30 : decode cX8_step 30 = .ok (.getfield 57, 3) := by decide +kernel
theorem dX8_step_33 : decode cX8_step 33 = .ok (.iload 5, 2) := by decide +kernel
theorem dX8_step_35 : decode cX8_step 35 = .ok (.iaload, 1) := by decide +kernel
theorem dX8_step_36 : decode cX8_step 36 = .ok (.iastore, 1) := by decide +kernel
theorem dX8_step_37 : decode cX8_step 37 = .ok (.aload_n 0, 1) := by decide +kernel
theorem dX8_step_38 : decode cX8_step 38 = .ok (.getfield 60, 3) := by decide +kernel
theorem dX8_step_41 : decode cX8_step 41 = .ok (.iload 5, 2) := by decide +kernel
theorem dX8_step_43 : decode cX8_step 43 = .ok (.iconst 1, 1) := by decide +kernel
theorem dX8_step_44 : decode cX8_step 44 = .ok (.isub, 1) := by decide +kernel
theorem dX8_step_45 : decode cX8_step 45 = .ok (.aload_n 0, 1) := by decide +kernel
theorem dX8_step_46 : decode cX8_step 46 = .ok (.getfield 60, 3) := by decide +kernel
theorem dX8_step_49 : decode cX8_step 49 = .ok (.iload 5, 2) := by decide +kernel
theorem dX8_step_51 : decode cX8_step 51 = .ok (.iaload, 1) := by decide +kernel
theorem dX8_step_52 : decode cX8_step 52 = .ok (.iastore, 1) := by decide +kernel
theorem dX8_step_53 : decode cX8_step 53 = .ok (.aload_n 0, 1) := by decide +kernel
theorem dX8_step_54 : decode cX8_step 54 = .ok (.getfield 63, 3) := by decide +kernel
theorem dX8_step_57 : decode cX8_step 57 = .ok (.iload 5, 2) := by decide +kernel
theorem dX8_step_59 : decode cX8_step 59 = .ok (.iconst 1, 1) := by decide +kernel
theorem dX8_step_60 : decode cX8_step 60 = .ok (.isub, 1) := by decide +kernel
theorem dX8_step_61 : decode cX8_step 61 = .ok (.aload_n 0, 1) := by decide +kernel
theorem dX8_step_62 : decode cX8_step 62 = .ok (.getfield 63, 3) := by decide +kernel
theorem dX8_step_65 : decode cX8_step 65 = .ok (.iload 5, 2) := by decide +kernel
theorem dX8_step_67 : decode cX8_step 67 = .ok (.iaload, 1) := by decide +kernel
theorem dX8_step_68 : decode cX8_step 68 = .ok (.iastore, 1) := by decide +kernel
theorem dX8_step_69 : decode cX8_step 69 = .ok (.aload_n 0, 1) := by decide +kernel
theorem dX8_step_70 : decode cX8_step 70 = .ok (.getfield 66, 3) := by decide +kernel
theorem dX8_step_73 : decode cX8_step 73 = .ok (.iload 5, 2) := by decide +kernel
theorem dX8_step_75 : decode cX8_step 75 = .ok (.iconst 1, 1) := by decide +kernel
theorem dX8_step_76 : decode cX8_step 76 = .ok (.isub, 1) := by decide +kernel
theorem dX8_step_77 : decode cX8_step 77 = .ok (.aload_n 0, 1) := by decide +kernel
theorem dX8_step_78 : decode cX8_step 78 = .ok (.getfield 66, 3) := by decide +kernel
theorem dX8_step_81 : decode cX8_step 81 = .ok (.iload 5, 2) := by decide +kernel
theorem dX8_step_83 : decode cX8_step 83 = .ok (.iaload, 1) := by decide +kernel
theorem dX8_step_84 : decode cX8_step 84 = .ok (.iastore, 1) := by decide +kernel
theorem dX8_step_85 : decode cX8_step 85 = .ok (.iinc 5 1, 3) := by decide +kernel
theorem dX8_step_88 : decode cX8_step 88 = .ok (.goto (-75), 3) := by decide +kernel
theorem dX8_step_91 : decode cX8_step 91 = .ok (.aload_n 0, 1) := by decide +kernel
theorem dX8_step_92 : decode cX8_step 92 = .ok (.dup, 1) := by decide +kernel
theorem dX8_step_93 : decode cX8_step 93 = .ok (.getfield 156, 3) := by decide +kernel
theorem dX8_step_96 : decode cX8_step 96 = .ok (.iconst 1, 1) := by decide +kernel
theorem dX8_step_97 : decode cX8_step 97 = .ok (.isub, 1) := by decide +kernel
theorem dX8_step_98 : decode cX8_step 98 = .ok (.putfield 156, 3) := by decide +kernel
theorem dX8_step_101 : decode cX8_step 101 = .ok (.aload_n 0, 1) := by decide +kernel
theorem dX8_step_102 : decode cX8_step 102 = .ok (.getfield 57, 3) := by decide +kernel
theorem dX8_step_105 : decode cX8_step 105 = .ok (.aload_n 0, 1) := by decide +kernel
theorem dX8_step_106 : decode cX8_step 106 = .ok (.getfield 156, 3) := by decide +kernel
theorem dX8_step_109 : decode cX8_step 109 = .ok (.iload_n 1, 1) := by decide +kernel
theorem dX8_step_110 : decode cX8_step 110 = .ok (.iastore, 1) := by decide +kernel
theorem dX8_step_111 : decode cX8_step 111 = .ok (.aload_n 0, 1) := by decide +kernel
theorem dX8_step_112 : decode cX8_step 112 = .ok (.getfield 60, 3) := by decide +kernel
theorem dX8_step_115 : decode cX8_step 115 = .ok (.aload_n 0, 1) := by decide +kernel
theorem dX8_step_116 : decode cX8_step 116 = .ok (.getfield 156, 3) := by decide +kernel
theorem dX8_step_119 : decode cX8_step 119 = .ok (.iload_n 2, 1) := by decide +kernel
theorem dX8_step_120 : decode cX8_step 120 = .ok (.iastore, 1) := by decide +kernel
theorem dX8_step_121 : decode cX8_step 121 = .ok (.aload_n 0, 1) := by decide +kernel
theorem dX8_step_122 : decode cX8_step 122 = .ok (.getfield 63, 3) := by decide +kernel
theorem dX8_step_125 : decode cX8_step 125 = .ok (.aload_n 0, 1) := by decide +kernel
theorem dX8_step_126 : decode cX8_step 126 = .ok (.getfield 156, 3) := by decide +kernel
theorem dX8_step_129 : decode cX8_step 129 = .ok (.iload_n 3, 1) := by decide +kernel
theorem dX8_step_130 : decode cX8_step 130 = .ok (.iastore, 1) := by decide +kernel
theorem dX8_step_131 : decode cX8_step 131 = .ok (.aload_n 0, 1) := by decide +kernel
theorem dX8_step_132 : decode cX8_step 132 = .ok (.getfield 66, 3) := by decide +kernel
theorem dX8_step_135 : decode cX8_step 135 = .ok (.aload_n 0, 1) := by decide +kernel
theorem dX8_step_136 : decode cX8_step 136 = .ok (.getfield 156, 3) := by decide +kernel
theorem dX8_step_139 : decode cX8_step 139 = .ok (.iload 4, 2) := by decide +kernel
theorem dX8_step_141 : decode cX8_step 141 = .ok (.iastore, 1) := by decide +kernel
theorem dX8_step_142 : decode cX8_step 142 = .ok (.aload_n 0, 1) := by decide +kernel
theorem dX8_step_143 : decode cX8_step 143 = .ok (.dup, 1) := by decide +kernel
theorem dX8_step_144 : decode cX8_step 144 = .ok (.getfield 156, 3) := by decide +kernel
theorem dX8_step_147 : decode cX8_step 147 = .ok (.iconst 1, 1) := by decide +kernel
theorem dX8_step_148 : decode cX8_step 148 = .ok (.iadd, 1) := by decide +kernel
theorem dX8_step_149 : decode cX8_step 149 = .ok (.putfield 156, 3) := by decide +kernel
theorem dX8_step_152 : decode cX8_step 152 = .ok (.aload_n 0, 1) := by decide +kernel
theorem dX8_step_153 : decode cX8_step 153 = .ok (.dup, 1) := by decide +kernel
theorem dX8_step_154 : decode cX8_step 154 = .ok (.getfield 159, 3) := by decide +kernel
theorem dX8_step_157 : decode cX8_step 157 = .ok (.iconst 1, 1) := by decide +kernel
theorem dX8_step_158 : decode cX8_step 158 = .ok (.iadd, 1) := by decide +kernel
theorem dX8_step_159 : decode cX8_step 159 = .ok (.putfield 159, 3) := by decide +kernel
theorem dX8_step_162 : decode cX8_step 162 = .ok (.return_, 1) := by decide +kernel
set_option maxRecDepth 20000 in
theorem ggX8_puts_X8_lay : GoodIn wsX8_puts wsX8_lay := goodIn_r _ [7, 8, 23, 24, 25, 26, 27, 28, 29, 30, 31, 32, 33, 34, 35, 36, 37, 38, 39, 40, 41, 42, 43, 44, 45, 46, 47, 48, 49, 50, 51, 52, 53, 54, 55, 56, 57, 58, 59, 60] (by decide +kernel) (by decide +kernel)
set_option maxRecDepth 20000 in
theorem gX8_puts_X8_lay : GoodIn wsX8_puts (wsV RX8 162 RX8 yX8_lay wsX8_lay) := goodIn_app (goodIn_of _ (by decide +kernel)) ggX8_puts_X8_lay
set_option maxRecDepth 20000 in
theorem ggX8_puts_X8_setSince : GoodIn wsX8_puts wsX8_setSince := goodIn_r _ [12, 13, 8, 23, 24, 25, 26, 27, 28, 29, 30, 31, 32, 33, 34, 35, 36, 37, 38, 39, 40, 41, 42, 43, 44, 45, 46, 47, 48, 49, 50, 51, 52, 53, 54, 55, 56, 57, 58, 59, 60] (by decide +kernel) (by decide +kernel)
set_option maxRecDepth 20000 in
theorem gX8_puts_X8_setSince : GoodIn wsX8_puts (wsV RX8 166 RX8 yX8_setSince wsX8_setSince) := goodIn_app (goodIn_of _ (by decide +kernel)) ggX8_puts_X8_setSince
set_option maxRecDepth 20000 in
theorem ggX8_puts_X8_step : GoodIn wsX8_puts wsX8_step := goodIn_r _ [17, 18, 19, 20, 21, 22, 2, 23, 24, 25, 26, 27, 28, 29, 30, 31, 32, 33, 34, 35, 36, 37, 38, 39, 40, 41, 42, 43, 44, 45, 46, 47, 48, 49, 50, 51, 52, 53, 54, 55, 56, 57, 58, 59, 60] (by decide +kernel) (by decide +kernel)
set_option maxRecDepth 20000 in
theorem gX8_puts_X8_step : GoodIn wsX8_puts (wsV RX8 170 RX8 yX8_step wsX8_step) := goodIn_app (goodIn_of _ (by decide +kernel)) ggX8_puts_X8_step
theorem dX8_puts_0 : decode cX8_puts 0 = .ok (.iload_n 3, 1) := by decide +kernel
theorem dX8_puts_1 : decode cX8_puts 1 = .ok (.bipush 16, 2) := by decide +kernel
theorem dX8_puts_3 : decode cX8_puts 3 = .ok (.iload 4, 2) := by decide +kernel
theorem dX8_puts_5 : decode cX8_puts 5 = .ok (.imul, 1) := by decide +kernel
theorem dX8_puts_6 : decode cX8_puts 6 = .ok (.iadd, 1) := by decide +kernel
theorem dX8_puts_7 : decode cX8_puts 7 = .ok (.istore 5, 2) := by decide +kernel
theorem dX8_puts_9 : decode cX8_puts 9 = .ok (.aload_n 0, 1) := by decide +kernel
theorem dX8_puts_10 : decode cX8_puts 10 = .ok (.aload_n 0, 1) := by decide +kernel
theorem dX8_puts_11 : decode cX8_puts 11 = .ok (.getfield 26, 3) := by decide +kernel
theorem dX8_puts_14 : decode cX8_puts 14 = .ok (.iconst 0, 1) := by decide +kernel
theorem dX8_puts_15 : decode cX8_puts 15 = .ok (.iload_n 2, 1) := by decide +kernel
theorem dX8_puts_16 : decode cX8_puts 16 = .ok (.iload 5, 2) := by decide +kernel
theorem dX8_puts_18 : decode cX8_puts 18 = .ok (.invokevirtual 162, 3) := by decide +kernel
theorem dX8_puts_21 : decode cX8_puts 21 = .ok (.aload_n 0, 1) := by decide +kernel
theorem dX8_puts_22 : decode cX8_puts 22 = .ok (.iload_n 2, 1) := by decide +kernel
theorem dX8_puts_23 : decode cX8_puts 23 = .ok (.iload 5, 2) := by decide +kernel
theorem dX8_puts_25 : decode cX8_puts 25 = .ok (.aload_n 0, 1) := by decide +kernel
theorem dX8_puts_26 : decode cX8_puts 26 = .ok (.getfield 159, 3) := by decide +kernel
theorem dX8_puts_29 : decode cX8_puts 29 = .ok (.invokevirtual 166, 3) := by decide +kernel
theorem dX8_puts_32 : decode cX8_puts 32 = .ok (.aload_n 0, 1) := by decide +kernel
theorem dX8_puts_33 : decode cX8_puts 33 = .ok (.iload_n 1, 1) := by decide +kernel
theorem dX8_puts_34 : decode cX8_puts 34 = .ok (.iload_n 2, 1) := by decide +kernel
theorem dX8_puts_35 : decode cX8_puts 35 = .ok (.iload 5, 2) := by decide +kernel
theorem dX8_puts_37 : decode cX8_puts 37 = .ok (.iconst (-1), 1) := by decide +kernel
theorem dX8_puts_38 : decode cX8_puts 38 = .ok (.invokevirtual 170, 3) := by decide +kernel
theorem dX8_puts_41 : decode cX8_puts 41 = .ok (.return_, 1) := by decide +kernel
theorem dX8_noSteps_0 : decode cX8_noSteps 0 = .ok (.aload_n 0, 1) := by decide +kernel
theorem dX8_noSteps_1 : decode cX8_noSteps 1 = .ok (.iconst 0, 1) := by decide +kernel
theorem dX8_noSteps_2 : decode cX8_noSteps 2 = .ok (.putfield 159, 3) := by decide +kernel
theorem dX8_noSteps_5 : decode cX8_noSteps 5 = .ok (.aload_n 0, 1) := by decide +kernel
theorem dX8_noSteps_6 : decode cX8_noSteps 6 = .ok (.iconst 0, 1) := by decide +kernel
theorem dX8_noSteps_7 : decode cX8_noSteps 7 = .ok (.putfield 156, 3) := by decide +kernel
theorem dX8_noSteps_10 : decode cX8_noSteps 10 = .ok (.return_, 1) := by decide +kernel
theorem dX8_piecesOn_0 : decode cX8_piecesOn 0 = .ok (.iconst 0, 1) := by decide +kernel
theorem dX8_piecesOn_1 : decode cX8_piecesOn 1 = .ok (.istore_n 3, 1) := by decide +kernel
theorem dX8_piecesOn_2 : decode cX8_piecesOn 2 = .ok (.iconst 0, 1) := by decide +kernel
theorem dX8_piecesOn_3 : decode cX8_piecesOn 3 = .ok (.istore 4, 2) := by decide +kernel
theorem dX8_piecesOn_5 : decode cX8_piecesOn 5 = .ok (.iload 4, 2) := by decide +kernel
theorem dX8_piecesOn_7 : decode cX8_piecesOn 7 = .ok (.sipush 256, 3) := by decide +kernel
theorem dX8_piecesOn_10 : decode cX8_piecesOn 10 = .ok (.if_icmp .ge 20, 3) := by decide +kernel
theorem dX8_piecesOn_13 : decode cX8_piecesOn 13 = .ok (.iload_n 3, 1) := by decide +kernel
theorem dX8_piecesOn_14 : decode cX8_piecesOn 14 = .ok (.aload_n 1, 1) := by decide +kernel
theorem dX8_piecesOn_15 : decode cX8_piecesOn 15 = .ok (.iload_n 2, 1) := by decide +kernel
theorem dX8_piecesOn_16 : decode cX8_piecesOn 16 = .ok (.iload 4, 2) := by decide +kernel
theorem dX8_piecesOn_18 : decode cX8_piecesOn 18 = .ok (.iadd, 1) := by decide +kernel
theorem dX8_piecesOn_19 : decode cX8_piecesOn 19 = .ok (.iaload, 1) := by decide +kernel
theorem dX8_piecesOn_20 : decode cX8_piecesOn 20 = .ok (.iconst 2, 1) := by decide +kernel
theorem dX8_piecesOn_21 : decode cX8_piecesOn 21 = .ok (.irem, 1) := by decide +kernel
theorem dX8_piecesOn_22 : decode cX8_piecesOn 22 = .ok (.iadd, 1) := by decide +kernel
theorem dX8_piecesOn_23 : decode cX8_piecesOn 23 = .ok (.istore_n 3, 1) := by decide +kernel
theorem dX8_piecesOn_24 : decode cX8_piecesOn 24 = .ok (.iinc 4 1, 3) := by decide +kernel
theorem dX8_piecesOn_27 : decode cX8_piecesOn 27 = .ok (.goto (-22), 3) := by decide +kernel
theorem dX8_piecesOn_30 : decode cX8_piecesOn 30 = .ok (.iload_n 3, 1) := by decide +kernel
theorem dX8_piecesOn_31 : decode cX8_piecesOn 31 = .ok (.ireturn, 1) := by decide +kernel
set_option maxRecDepth 20000 in
theorem ggX8_clear_X8_piecesOn : GoodIn wsX8_clear wsX8_piecesOn := goodIn_r _ [8] (by decide +kernel) (by decide +kernel)
set_option maxRecDepth 20000 in
theorem gX8_clear_X8_piecesOn : GoodIn wsX8_clear (wsV RX8 174 RX8 yX8_piecesOn wsX8_piecesOn) := goodIn_app (goodIn_of _ (by decide +kernel)) ggX8_clear_X8_piecesOn
set_option maxRecDepth 20000 in
theorem ggX8_clear_X8_noSteps : GoodIn wsX8_clear wsX8_noSteps := goodIn_r _ [12, 13, 14, 15, 16, 17, 18, 19, 20, 21, 22, 23, 24, 25, 26, 27, 28, 29, 30, 31, 32, 33, 34, 35, 36, 37, 38, 39, 40, 41, 42, 43, 44, 45, 46, 47, 48, 49, 50, 51, 52] (by decide +kernel) (by decide +kernel)
set_option maxRecDepth 20000 in
theorem gX8_clear_X8_noSteps : GoodIn wsX8_clear (wsV RX8 178 RX8 yX8_noSteps wsX8_noSteps) := goodIn_app (goodIn_of _ (by decide +kernel)) ggX8_clear_X8_noSteps
theorem dX8_clear_0 : decode cX8_clear 0 = .ok (.aload_n 0, 1) := by decide +kernel
theorem dX8_clear_1 : decode cX8_clear 1 = .ok (.aload_n 0, 1) := by decide +kernel
theorem dX8_clear_2 : decode cX8_clear 2 = .ok (.getfield 26, 3) := by decide +kernel
theorem dX8_clear_5 : decode cX8_clear 5 = .ok (.iconst 0, 1) := by decide +kernel
theorem dX8_clear_6 : decode cX8_clear 6 = .ok (.invokevirtual 174, 3) := by decide +kernel
theorem dX8_clear_9 : decode cX8_clear 9 = .ok (.istore_n 1, 1) := by decide +kernel
theorem dX8_clear_10 : decode cX8_clear 10 = .ok (.iconst 0, 1) := by decide +kernel
theorem dX8_clear_11 : decode cX8_clear 11 = .ok (.istore_n 2, 1) := by decide +kernel
theorem dX8_clear_12 : decode cX8_clear 12 = .ok (.iload_n 2, 1) := by decide +kernel
theorem dX8_clear_13 : decode cX8_clear 13 = .ok (.sipush 256, 3) := by decide +kernel
theorem dX8_clear_16 : decode cX8_clear 16 = .ok (.if_icmp .ge 23, 3) := by decide +kernel
theorem dX8_clear_19 : decode cX8_clear 19 = .ok (.aload_n 0, 1) := by decide +kernel
theorem dX8_clear_20 : decode cX8_clear 20 = .ok (.getfield 26, 3) := by decide +kernel
theorem dX8_clear_23 : decode cX8_clear 23 = .ok (.iload_n 2, 1) := by decide +kernel
theorem dX8_clear_24 : decode cX8_clear 24 = .ok (.iconst 0, 1) := by decide +kernel
theorem dX8_clear_25 : decode cX8_clear 25 = .ok (.iastore, 1) := by decide +kernel
theorem dX8_clear_26 : decode cX8_clear 26 = .ok (.aload_n 0, 1) := by decide +kernel
theorem dX8_clear_27 : decode cX8_clear 27 = .ok (.getfield 29, 3) := by decide +kernel
theorem dX8_clear_30 : decode cX8_clear 30 = .ok (.iload_n 2, 1) := by decide +kernel
theorem dX8_clear_31 : decode cX8_clear 31 = .ok (.iconst (-1), 1) := by decide +kernel
theorem dX8_clear_32 : decode cX8_clear 32 = .ok (.iastore, 1) := by decide +kernel
theorem dX8_clear_33 : decode cX8_clear 33 = .ok (.iinc 2 1, 3) := by decide +kernel
theorem dX8_clear_36 : decode cX8_clear 36 = .ok (.goto (-24), 3) := by decide +kernel
theorem dX8_clear_39 : decode cX8_clear 39 = .ok (.aload_n 0, 1) := by decide +kernel
theorem dX8_clear_40 : decode cX8_clear 40 = .ok (.invokevirtual 178, 3) := by decide +kernel
theorem dX8_clear_43 : decode cX8_clear 43 = .ok (.aload_n 0, 1) := by decide +kernel
theorem dX8_clear_44 : decode cX8_clear 44 = .ok (.iconst 0, 1) := by decide +kernel
theorem dX8_clear_45 : decode cX8_clear 45 = .ok (.putfield 181, 3) := by decide +kernel
theorem dX8_clear_48 : decode cX8_clear 48 = .ok (.iload_n 1, 1) := by decide +kernel
theorem dX8_clear_49 : decode cX8_clear 49 = .ok (.ireturn, 1) := by decide +kernel
set_option maxRecDepth 20000 in
theorem ggX8_seed_X8_isPiece : GoodIn wsX8_seed wsX8_isPiece := goodIn_r _ [7, 8, 39, 40, 41, 42, 43, 44, 45, 46, 47, 48, 49, 50, 51, 52, 53, 54, 55, 56, 57, 58, 59, 60, 61, 62, 63, 64, 65, 66, 67, 68, 69, 70, 71, 72, 73, 74, 75, 76] (by decide +kernel) (by decide +kernel)
set_option maxRecDepth 20000 in
theorem gX8_seed_X8_isPiece : GoodIn wsX8_seed (wsV RX8 150 RX8 yX8_isPiece wsX8_isPiece) := goodIn_app (goodIn_of _ (by decide +kernel)) ggX8_seed_X8_isPiece
set_option maxRecDepth 20000 in
theorem ggX8_seed_X8_isFree : GoodIn wsX8_seed wsX8_isFree := goodIn_r _ [12, 1, 13, 14, 6, 15, 39, 40, 41, 42, 43, 44, 45, 46, 47, 48, 49, 50, 51, 52, 53, 54, 55, 56, 57, 58, 59, 60, 61, 62, 63, 64, 65, 66, 67, 68, 69, 70, 71, 72, 73, 74, 75, 76] (by decide +kernel) (by decide +kernel)
set_option maxRecDepth 20000 in
theorem gX8_seed_X8_isFree : GoodIn wsX8_seed (wsV RX8 139 RX8 yX8_isFree wsX8_isFree) := goodIn_app (goodIn_of _ (by decide +kernel)) ggX8_seed_X8_isFree
set_option maxRecDepth 20000 in
theorem ggX8_seed_X8_puts : GoodIn wsX8_seed wsX8_puts := goodIn_r _ [19, 2, 20, 21, 22, 23, 6, 24, 1, 25, 26, 27, 28, 29, 30, 31, 32, 33, 34, 35, 36, 37, 38, 39, 40, 41, 42, 43, 44, 45, 46, 47, 48, 49, 50, 51, 52, 53, 54, 55, 56, 57, 58, 59, 60, 61, 62, 63, 64, 65, 66, 67, 68, 69, 70, 71, 72, 73, 74, 75, 76] (by decide +kernel) (by decide +kernel)
set_option maxRecDepth 20000 in
theorem gX8_seed_X8_puts : GoodIn wsX8_seed (wsV RX8 185 RX8 yX8_puts wsX8_puts) := goodIn_app (goodIn_of _ (by decide +kernel)) ggX8_seed_X8_puts
theorem dX8_seed_0 : decode cX8_seed 0 = .ok (.aload_n 0, 1) := by decide +kernel
theorem dX8_seed_1 : decode cX8_seed 1 = .ok (.iload_n 1, 1) := by decide +kernel
theorem dX8_seed_2 : decode cX8_seed 2 = .ok (.invokevirtual 150, 3) := by decide +kernel
theorem dX8_seed_5 : decode cX8_seed 5 = .ok (.ifCond .eq 32, 3) := by decide +kernel
theorem dX8_seed_8 : decode cX8_seed 8 = .ok (.aload_n 0, 1) := by decide +kernel
theorem dX8_seed_9 : decode cX8_seed 9 = .ok (.getfield 13, 3) := by decide +kernel
theorem dX8_seed_12 : decode cX8_seed 12 = .ok (.iload_n 1, 1) := by decide +kernel
theorem dX8_seed_13 : decode cX8_seed 13 = .ok (.iaload, 1) := by decide +kernel
theorem dX8_seed_14 : decode cX8_seed 14 = .ok (.iconst 1, 1) := by decide +kernel
theorem dX8_seed_15 : decode cX8_seed 15 = .ok (.if_icmp .ne 22, 3) := by decide +kernel
theorem dX8_seed_18 : decode cX8_seed 18 = .ok (.aload_n 0, 1) := by decide +kernel
theorem dX8_seed_19 : decode cX8_seed 19 = .ok (.aload_n 0, 1) := by decide +kernel
theorem dX8_seed_20 : decode cX8_seed 20 = .ok (.getfield 26, 3) := by decide +kernel
theorem dX8_seed_23 : decode cX8_seed 23 = .ok (.iconst 0, 1) := by decide +kernel
theorem dX8_seed_24 : decode cX8_seed 24 = .ok (.iload_n 1, 1) := by decide +kernel
theorem dX8_seed_25 : decode cX8_seed 25 = .ok (.iload_n 2, 1) := by decide +kernel
theorem dX8_seed_26 : decode cX8_seed 26 = .ok (.iload_n 3, 1) := by decide +kernel
theorem dX8_seed_27 : decode cX8_seed 27 = .ok (.invokevirtual 139, 3) := by decide +kernel
theorem dX8_seed_30 : decode cX8_seed 30 = .ok (.ifCond .eq 7, 3) := by decide +kernel
theorem dX8_seed_33 : decode cX8_seed 33 = .ok (.iconst 1, 1) := by decide +kernel
theorem dX8_seed_34 : decode cX8_seed 34 = .ok (.goto 4, 3) := by decide +kernel
theorem dX8_seed_37 : decode cX8_seed 37 = .ok (.iconst 0, 1) := by decide +kernel
theorem dX8_seed_38 : decode cX8_seed 38 = .ok (.istore 4, 2) := by decide +kernel
theorem dX8_seed_40 : decode cX8_seed 40 = .ok (.iconst 0, 1) := by decide +kernel
theorem dX8_seed_41 : decode cX8_seed 41 = .ok (.istore 5, 2) := by decide +kernel
theorem dX8_seed_43 : decode cX8_seed 43 = .ok (.iload 5, 2) := by decide +kernel
theorem dX8_seed_45 : decode cX8_seed 45 = .ok (.sipush 256, 3) := by decide +kernel
theorem dX8_seed_48 : decode cX8_seed 48 = .ok (.if_icmp .ge 51, 3) := by decide +kernel
theorem dX8_seed_51 : decode cX8_seed 51 = .ok (.iload 4, 2) := by decide +kernel
theorem dX8_seed_53 : decode cX8_seed 53 = .ok (.ifCond .eq 46, 3) := by decide +kernel
theorem dX8_seed_56 : decode cX8_seed 56 = .ok (.aload_n 0, 1) := by decide +kernel
theorem dX8_seed_57 : decode cX8_seed 57 = .ok (.getfield 26, 3) := by decide +kernel
theorem dX8_seed_60 : decode cX8_seed 60 = .ok (.iload 5, 2) := by decide +kernel
theorem dX8_seed_62 : decode cX8_seed 62 = .ok (.iaload, 1) := by decide +kernel
theorem dX8_seed_63 : decode cX8_seed 63 = .ok (.ifCond .eq 23, 3) := by decide +kernel
theorem dX8_seed_66 : decode cX8_seed 66 = .ok (.aload_n 0, 1) := by decide +kernel
theorem dX8_seed_67 : decode cX8_seed 67 = .ok (.getfield 13, 3) := by decide +kernel
theorem dX8_seed_70 : decode cX8_seed 70 = .ok (.aload_n 0, 1) := by decide +kernel
theorem dX8_seed_71 : decode cX8_seed 71 = .ok (.getfield 26, 3) := by decide +kernel
theorem dX8_seed_74 : decode cX8_seed 74 = .ok (.iload 5, 2) := by decide +kernel
theorem dX8_seed_76 : decode cX8_seed 76 = .ok (.iaload, 1) := by decide +kernel
theorem dX8_seed_77 : decode cX8_seed 77 = .ok (.iconst 1, 1) := by decide +kernel
theorem dX8_seed_78 : decode cX8_seed 78 = .ok (.isub, 1) := by decide +kernel
theorem dX8_seed_79 : decode cX8_seed 79 = .ok (.iconst 2, 1) := by decide +kernel
theorem dX8_seed_80 : decode cX8_seed 80 = .ok (.idiv, 1) := by decide +kernel
theorem dX8_seed_81 : decode cX8_seed 81 = .ok (.iaload, 1) := by decide +kernel
theorem dX8_seed_82 : decode cX8_seed 82 = .ok (.iconst 1, 1) := by decide +kernel
theorem dX8_seed_83 : decode cX8_seed 83 = .ok (.if_icmp .ne 7, 3) := by decide +kernel
theorem dX8_seed_86 : decode cX8_seed 86 = .ok (.iconst 1, 1) := by decide +kernel
theorem dX8_seed_87 : decode cX8_seed 87 = .ok (.goto 4, 3) := by decide +kernel
theorem dX8_seed_90 : decode cX8_seed 90 = .ok (.iconst 0, 1) := by decide +kernel
theorem dX8_seed_91 : decode cX8_seed 91 = .ok (.istore 4, 2) := by decide +kernel
theorem dX8_seed_93 : decode cX8_seed 93 = .ok (.iinc 5 1, 3) := by decide +kernel
theorem dX8_seed_96 : decode cX8_seed 96 = .ok (.goto (-53), 3) := by decide +kernel
theorem dX8_seed_99 : decode cX8_seed 99 = .ok (.iload 4, 2) := by decide +kernel
theorem dX8_seed_101 : decode cX8_seed 101 = .ok (.ifCond .eq 11, 3) := by decide +kernel
theorem dX8_seed_104 : decode cX8_seed 104 = .ok (.aload_n 0, 1) := by decide +kernel
theorem dX8_seed_105 : decode cX8_seed 105 = .ok (.iconst 0, 1) := by decide +kernel
theorem dX8_seed_106 : decode cX8_seed 106 = .ok (.iload_n 1, 1) := by decide +kernel
theorem dX8_seed_107 : decode cX8_seed 107 = .ok (.iload_n 2, 1) := by decide +kernel
theorem dX8_seed_108 : decode cX8_seed 108 = .ok (.iload_n 3, 1) := by decide +kernel
theorem dX8_seed_109 : decode cX8_seed 109 = .ok (.invokevirtual 185, 3) := by decide +kernel
theorem dX8_seed_112 : decode cX8_seed 112 = .ok (.iload 4, 2) := by decide +kernel
theorem dX8_seed_114 : decode cX8_seed 114 = .ok (.ireturn, 1) := by decide +kernel
set_option maxRecDepth 20000 in
theorem ggX8_come_X8_may : GoodIn wsX8_come wsX8_may := goodIn_r _ [5, 6, 7, 8, 9, 4, 10, 11, 12, 13, 14, 15, 16, 17, 18, 19, 20, 21, 22, 23, 24, 25, 26, 27, 28, 29, 30, 31, 32, 33, 34, 35, 36, 37, 38, 39, 40, 41, 42, 43, 44, 45, 46, 47, 48, 49, 50, 51, 52, 53, 77, 78, 79, 80, 81, 82, 83, 84, 85, 86, 87, 88, 89, 90, 91, 92, 93, 94, 95, 96, 97, 98, 99, 100, 101, 102, 103, 104, 105, 106, 107, 108, 109, 110, 111, 112, 113, 114] (by decide +kernel) (by decide +kernel)
set_option maxRecDepth 20000 in
theorem gX8_come_X8_may : GoodIn wsX8_come (wsV RX8 188 RX8 yX8_may wsX8_may) := goodIn_app (goodIn_of _ (by decide +kernel)) ggX8_come_X8_may
set_option maxRecDepth 20000 in
theorem ggX8_come_X8_puts : GoodIn wsX8_come wsX8_puts := goodIn_r _ [57, 6, 58, 59, 60, 61, 4, 62, 16, 63, 64, 65, 66, 67, 68, 69, 70, 71, 72, 73, 74, 75, 76, 77, 78, 79, 80, 81, 82, 83, 84, 85, 86, 87, 88, 89, 90, 91, 92, 93, 94, 95, 96, 97, 98, 99, 100, 101, 102, 103, 104, 105, 106, 107, 108, 109, 110, 111, 112, 113, 114] (by decide +kernel) (by decide +kernel)
set_option maxRecDepth 20000 in
theorem gX8_come_X8_puts : GoodIn wsX8_come (wsV RX8 185 RX8 yX8_puts wsX8_puts) := goodIn_app (goodIn_of _ (by decide +kernel)) ggX8_come_X8_puts
theorem dX8_come_0 : decode cX8_come 0 = .ok (.aload_n 0, 1) := by decide +kernel
theorem dX8_come_1 : decode cX8_come 1 = .ok (.iload_n 1, 1) := by decide +kernel
theorem dX8_come_2 : decode cX8_come 2 = .ok (.iload_n 2, 1) := by decide +kernel
theorem dX8_come_3 : decode cX8_come 3 = .ok (.iload_n 3, 1) := by decide +kernel
theorem dX8_come_4 : decode cX8_come 4 = .ok (.invokevirtual 188, 3) := by decide +kernel
theorem dX8_come_7 : decode cX8_come 7 = .ok (.ifCond .ne 5, 3) := by decide +kernel
theorem dX8_come_10 : decode cX8_come 10 = .ok (.iconst 0, 1) := by decide +kernel
theorem dX8_come_11 : decode cX8_come 11 = .ok (.ireturn, 1) := by decide +kernel
theorem dX8_come_12 : decode cX8_come 12 = .ok (.aload_n 0, 1) := by decide +kernel
theorem dX8_come_13 : decode cX8_come 13 = .ok (.iconst 1, 1) := by decide +kernel
theorem dX8_come_14 : decode cX8_come 14 = .ok (.iload_n 1, 1) := by decide +kernel
theorem dX8_come_15 : decode cX8_come 15 = .ok (.iload_n 2, 1) := by decide +kernel
theorem dX8_come_16 : decode cX8_come 16 = .ok (.iload_n 3, 1) := by decide +kernel
theorem dX8_come_17 : decode cX8_come 17 = .ok (.invokevirtual 185, 3) := by decide +kernel
theorem dX8_come_20 : decode cX8_come 20 = .ok (.iconst 1, 1) := by decide +kernel
theorem dX8_come_21 : decode cX8_come 21 = .ok (.ireturn, 1) := by decide +kernel
set_option maxRecDepth 20000 in
theorem ggX8_force_X8_isPiece : GoodIn wsX8_force wsX8_isPiece := goodIn_r _ [7, 8, 39, 40, 41, 42, 43, 44, 45, 46, 47, 48, 49, 50, 51, 52, 53, 54, 55, 56, 57, 58, 59, 60, 61, 62, 63, 64, 65, 66, 67, 68, 69, 70, 71, 72, 73, 74, 75, 76] (by decide +kernel) (by decide +kernel)
set_option maxRecDepth 20000 in
theorem gX8_force_X8_isPiece : GoodIn wsX8_force (wsV RX8 150 RX8 yX8_isPiece wsX8_isPiece) := goodIn_app (goodIn_of _ (by decide +kernel)) ggX8_force_X8_isPiece
set_option maxRecDepth 20000 in
theorem ggX8_force_X8_isFree : GoodIn wsX8_force wsX8_isFree := goodIn_r _ [12, 1, 13, 14, 6, 15, 39, 40, 41, 42, 43, 44, 45, 46, 47, 48, 49, 50, 51, 52, 53, 54, 55, 56, 57, 58, 59, 60, 61, 62, 63, 64, 65, 66, 67, 68, 69, 70, 71, 72, 73, 74, 75, 76] (by decide +kernel) (by decide +kernel)
set_option maxRecDepth 20000 in
theorem gX8_force_X8_isFree : GoodIn wsX8_force (wsV RX8 139 RX8 yX8_isFree wsX8_isFree) := goodIn_app (goodIn_of _ (by decide +kernel)) ggX8_force_X8_isFree
set_option maxRecDepth 20000 in
theorem ggX8_force_X8_puts : GoodIn wsX8_force wsX8_puts := goodIn_r _ [19, 2, 20, 21, 22, 23, 6, 24, 1, 25, 26, 27, 28, 29, 30, 31, 32, 33, 34, 35, 36, 37, 38, 39, 40, 41, 42, 43, 44, 45, 46, 47, 48, 49, 50, 51, 52, 53, 54, 55, 56, 57, 58, 59, 60, 61, 62, 63, 64, 65, 66, 67, 68, 69, 70, 71, 72, 73, 74, 75, 76] (by decide +kernel) (by decide +kernel)
set_option maxRecDepth 20000 in
theorem gX8_force_X8_puts : GoodIn wsX8_force (wsV RX8 185 RX8 yX8_puts wsX8_puts) := goodIn_app (goodIn_of _ (by decide +kernel)) ggX8_force_X8_puts
theorem dX8_force_0 : decode cX8_force 0 = .ok (.aload_n 0, 1) := by decide +kernel
theorem dX8_force_1 : decode cX8_force 1 = .ok (.iload_n 1, 1) := by decide +kernel
theorem dX8_force_2 : decode cX8_force 2 = .ok (.invokevirtual 150, 3) := by decide +kernel
theorem dX8_force_5 : decode cX8_force 5 = .ok (.ifCond .eq 28, 3) := by decide +kernel
theorem dX8_force_8 : decode cX8_force 8 = .ok (.aload_n 0, 1) := by decide +kernel
theorem dX8_force_9 : decode cX8_force 9 = .ok (.getfield 13, 3) := by decide +kernel
theorem dX8_force_12 : decode cX8_force 12 = .ok (.iload_n 1, 1) := by decide +kernel
theorem dX8_force_13 : decode cX8_force 13 = .ok (.iaload, 1) := by decide +kernel
theorem dX8_force_14 : decode cX8_force 14 = .ok (.iconst 1, 1) := by decide +kernel
theorem dX8_force_15 : decode cX8_force 15 = .ok (.if_icmp .eq 18, 3) := by decide +kernel
theorem dX8_force_18 : decode cX8_force 18 = .ok (.aload_n 0, 1) := by decide +kernel
theorem dX8_force_19 : decode cX8_force 19 = .ok (.aload_n 0, 1) := by decide +kernel
theorem dX8_force_20 : decode cX8_force 20 = .ok (.getfield 26, 3) := by decide +kernel
theorem dX8_force_23 : decode cX8_force 23 = .ok (.iconst 0, 1) := by decide +kernel
theorem dX8_force_24 : decode cX8_force 24 = .ok (.iload_n 1, 1) := by decide +kernel
theorem dX8_force_25 : decode cX8_force 25 = .ok (.iload_n 2, 1) := by decide +kernel
theorem dX8_force_26 : decode cX8_force 26 = .ok (.iload_n 3, 1) := by decide +kernel
theorem dX8_force_27 : decode cX8_force 27 = .ok (.invokevirtual 139, 3) := by decide +kernel
theorem dX8_force_30 : decode cX8_force 30 = .ok (.ifCond .ne 5, 3) := by decide +kernel
theorem dX8_force_33 : decode cX8_force 33 = .ok (.iconst 0, 1) := by decide +kernel
theorem dX8_force_34 : decode cX8_force 34 = .ok (.ireturn, 1) := by decide +kernel
theorem dX8_force_35 : decode cX8_force 35 = .ok (.aload_n 0, 1) := by decide +kernel
theorem dX8_force_36 : decode cX8_force 36 = .ok (.iconst 3, 1) := by decide +kernel
theorem dX8_force_37 : decode cX8_force 37 = .ok (.iload_n 1, 1) := by decide +kernel
theorem dX8_force_38 : decode cX8_force 38 = .ok (.iload_n 2, 1) := by decide +kernel
theorem dX8_force_39 : decode cX8_force 39 = .ok (.iload_n 3, 1) := by decide +kernel
theorem dX8_force_40 : decode cX8_force 40 = .ok (.invokevirtual 185, 3) := by decide +kernel
theorem dX8_force_43 : decode cX8_force 43 = .ok (.iconst 1, 1) := by decide +kernel
theorem dX8_force_44 : decode cX8_force 44 = .ok (.ireturn, 1) := by decide +kernel
set_option maxRecDepth 20000 in
theorem ggX8_hangs_X8_xAt : GoodIn wsX8_hangs wsX8_xAt := goodIn_r _ [8] (by decide +kernel) (by decide +kernel)
set_option maxRecDepth 20000 in
theorem gX8_hangs_X8_xAt : GoodIn wsX8_hangs (va_wsS RX8 118 yX8_xAt wsX8_xAt) := goodIn_app (goodIn_of _ (by decide +kernel)) ggX8_hangs_X8_xAt
set_option maxRecDepth 20000 in
theorem ggX8_hangs_X8_yAt : GoodIn wsX8_hangs wsX8_yAt := goodIn_r _ [11] (by decide +kernel) (by decide +kernel)
set_option maxRecDepth 20000 in
theorem gX8_hangs_X8_yAt : GoodIn wsX8_hangs (va_wsS RX8 122 yX8_yAt wsX8_yAt) := goodIn_app (goodIn_of _ (by decide +kernel)) ggX8_hangs_X8_yAt
set_option maxRecDepth 20000 in
theorem ggX8_hangs_X8_isOn : GoodIn wsX8_hangs wsX8_isOn := goodIn_r _ [14] (by decide +kernel) (by decide +kernel)
set_option maxRecDepth 20000 in
theorem gX8_hangs_X8_isOn : GoodIn wsX8_hangs (va_wsS RX8 125 yX8_isOn wsX8_isOn) := goodIn_app (goodIn_of _ (by decide +kernel)) ggX8_hangs_X8_isOn
set_option maxRecDepth 20000 in
theorem ggX8_hangs_X8_holdAt : GoodIn wsX8_hangs wsX8_holdAt := goodIn_r _ [18, 19, 5, 6, 7, 8, 9, 10, 11, 12, 13, 14, 20, 21, 22, 23, 4, 24, 25, 26, 27, 28, 29, 30, 31, 32, 33, 34, 35, 36, 37, 38, 39, 40, 41, 42, 43, 44, 45, 46, 47, 48, 49, 50, 51, 52, 53, 54, 55, 56, 57, 58, 59, 60, 61, 62, 63] (by decide +kernel) (by decide +kernel)
set_option maxRecDepth 20000 in
theorem gX8_hangs_X8_holdAt : GoodIn wsX8_hangs (wsV RX8 132 RX8 yX8_holdAt wsX8_holdAt) := goodIn_app (goodIn_of _ (by decide +kernel)) ggX8_hangs_X8_holdAt
theorem dX8_hangs_0 : decode cX8_hangs 0 = .ok (.iconst (-1), 1) := by decide +kernel
theorem dX8_hangs_1 : decode cX8_hangs 1 = .ok (.istore_n 2, 1) := by decide +kernel
theorem dX8_hangs_2 : decode cX8_hangs 2 = .ok (.iconst 0, 1) := by decide +kernel
theorem dX8_hangs_3 : decode cX8_hangs 3 = .ok (.istore_n 3, 1) := by decide +kernel
theorem dX8_hangs_4 : decode cX8_hangs 4 = .ok (.iload_n 3, 1) := by decide +kernel
theorem dX8_hangs_5 : decode cX8_hangs 5 = .ok (.sipush 256, 3) := by decide +kernel
theorem dX8_hangs_8 : decode cX8_hangs 8 = .ok (.if_icmp .ge 36, 3) := by decide +kernel
theorem dX8_hangs_11 : decode cX8_hangs 11 = .ok (.aload_n 0, 1) := by decide +kernel
theorem dX8_hangs_12 : decode cX8_hangs 12 = .ok (.getfield 79, 3) := by decide +kernel
theorem dX8_hangs_15 : decode cX8_hangs 15 = .ok (.iload_n 3, 1) := by decide +kernel
theorem dX8_hangs_16 : decode cX8_hangs 16 = .ok (.iconst 0, 1) := by decide +kernel
theorem dX8_hangs_17 : decode cX8_hangs 17 = .ok (.bastore, 1) := by decide +kernel
theorem dX8_hangs_18 : decode cX8_hangs 18 = .ok (.iload_n 2, 1) := by decide +kernel
theorem dX8_hangs_19 : decode cX8_hangs 19 = .ok (.ifCond .ge 19, 3) := by decide +kernel
theorem dX8_hangs_22 : decode cX8_hangs 22 = .ok (.aload_n 0, 1) := by decide +kernel
theorem dX8_hangs_23 : decode cX8_hangs 23 = .ok (.getfield 26, 3) := by decide +kernel
theorem dX8_hangs_26 : decode cX8_hangs 26 = .ok (.iload_n 3, 1) := by decide +kernel
theorem dX8_hangs_27 : decode cX8_hangs 27 = .ok (.iaload, 1) := by decide +kernel
theorem dX8_hangs_28 : decode cX8_hangs 28 = .ok (.ifCond .eq 10, 3) := by decide +kernel
theorem dX8_hangs_31 : decode cX8_hangs 31 = .ok (.iload_n 3, 1) := by decide +kernel
theorem dX8_hangs_32 : decode cX8_hangs 32 = .ok (.iload_n 1, 1) := by decide +kernel
theorem dX8_hangs_33 : decode cX8_hangs 33 = .ok (.if_icmp .eq 5, 3) := by decide +kernel
theorem dX8_hangs_36 : decode cX8_hangs 36 = .ok (.iload_n 3, 1) := by decide +kernel
theorem dX8_hangs_37 : decode cX8_hangs 37 = .ok (.istore_n 2, 1) := by decide +kernel
theorem dX8_hangs_38 : decode cX8_hangs 38 = .ok (.iinc 3 1, 3) := by decide +kernel
theorem dX8_hangs_41 : decode cX8_hangs 41 = .ok (.goto (-37), 3) := by decide +kernel
theorem dX8_hangs_44 : decode cX8_hangs 44 = .ok (.iconst 0, 1) := by decide +kernel
theorem dX8_hangs_45 : decode cX8_hangs 45 = .ok (.istore_n 3, 1) := by decide +kernel
theorem dX8_hangs_46 : decode cX8_hangs 46 = .ok (.iload_n 2, 1) := by decide +kernel
theorem dX8_hangs_47 : decode cX8_hangs 47 = .ok (.ifCond .lt 19, 3) := by decide +kernel
theorem dX8_hangs_50 : decode cX8_hangs 50 = .ok (.aload_n 0, 1) := by decide +kernel
theorem dX8_hangs_51 : decode cX8_hangs 51 = .ok (.getfield 76, 3) := by decide +kernel
theorem dX8_hangs_54 : decode cX8_hangs 54 = .ok (.iconst 0, 1) := by decide +kernel
theorem dX8_hangs_55 : decode cX8_hangs 55 = .ok (.iload_n 2, 1) := by decide +kernel
theorem dX8_hangs_56 : decode cX8_hangs 56 = .ok (.iastore, 1) := by decide +kernel
theorem dX8_hangs_57 : decode cX8_hangs 57 = .ok (.aload_n 0, 1) := by decide +kernel
theorem dX8_hangs_58 : decode cX8_hangs 58 = .ok (.getfield 79, 3) := by decide +kernel
theorem dX8_hangs_61 : decode cX8_hangs 61 = .ok (.iload_n 2, 1) := by decide +kernel
theorem dX8_hangs_62 : decode cX8_hangs 62 = .ok (.iconst 1, 1) := by decide +kernel
theorem dX8_hangs_63 : decode cX8_hangs 63 = .ok (.bastore, 1) := by decide +kernel
theorem dX8_hangs_64 : decode cX8_hangs 64 = .ok (.iconst 1, 1) := by decide +kernel
theorem dX8_hangs_65 : decode cX8_hangs 65 = .ok (.istore_n 3, 1) := by decide +kernel
theorem dX8_hangs_66 : decode cX8_hangs 66 = .ok (.iconst 0, 1) := by decide +kernel
theorem dX8_hangs_67 : decode cX8_hangs 67 = .ok (.istore 4, 2) := by decide +kernel
theorem dX8_hangs_69 : decode cX8_hangs 69 = .ok (.iload 4, 2) := by decide +kernel
theorem dX8_hangs_71 : decode cX8_hangs 71 = .ok (.iload_n 3, 1) := by decide +kernel
theorem dX8_hangs_72 : decode cX8_hangs 72 = .ok (.if_icmp .ge 233, 3) := by decide +kernel
theorem dX8_hangs_75 : decode cX8_hangs 75 = .ok (.aload_n 0, 1) := by decide +kernel
theorem dX8_hangs_76 : decode cX8_hangs 76 = .ok (.getfield 76, 3) := by decide +kernel
theorem dX8_hangs_79 : decode cX8_hangs 79 = .ok (.iload 4, 2) := by decide +kernel
theorem dX8_hangs_81 : decode cX8_hangs 81 = .ok (.iaload, 1) := by decide +kernel
theorem dX8_hangs_82 : decode cX8_hangs 82 = .ok (.bipush 16, 2) := by decide +kernel
