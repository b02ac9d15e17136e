theorem dX8_hangs_84 : decode cX8_hangs 84 = .ok (.irem, 1) := by decide +kernel
theorem dX8_hangs_85 : decode cX8_hangs 85 = .ok (.istore 5, 2) := by decide +kernel
theorem dX8_hangs_87 : decode cX8_hangs 87 = .ok (.aload_n 0, 1) := by decide +kernel
theorem dX8_hangs_88 : decode cX8_hangs 88 = .ok (.getfield 76, 3) := by decide +kernel
theorem dX8_hangs_91 : decode cX8_hangs 91 = .ok (.iload 4, 2) := by decide +kernel
theorem dX8_hangs_93 : decode cX8_hangs 93 = .ok (.iaload, 1) := by decide +kernel
theorem dX8_hangs_94 : decode cX8_hangs 94 = .ok (.bipush 16, 2) := by decide +kernel
theorem dX8_hangs_96 : decode cX8_hangs 96 = .ok (.idiv, 1) := by decide +kernel
theorem dX8_hangs_97 : decode cX8_hangs 97 = .ok (.istore 6, 2) := by decide +kernel
theorem dX8_hangs_99 : decode cX8_hangs 99 = .ok (.aload_n 0, 1) := by decide +kernel
theorem dX8_hangs_100 : decode cX8_hangs 100 = .ok (.getfield 26, 3) := by decide +kernel
theorem dX8_hangs_103 : decode cX8_hangs 103 = .ok (.aload_n 0, 1) := by decide +kernel
theorem dX8_hangs_104 : decode cX8_hangs 104 = .ok (.getfield 76, 3) := by decide +kernel
theorem dX8_hangs_107 : decode cX8_hangs 107 = .ok (.iload 4, 2) := by decide +kernel
theorem dX8_hangs_109 : decode cX8_hangs 109 = .ok (.iaload, 1) := by decide +kernel
theorem dX8_hangs_110 : decode cX8_hangs 110 = .ok (.iaload, 1) := by decide +kernel
theorem dX8_hangs_111 : decode cX8_hangs 111 = .ok (.iconst 1, 1) := by decide +kernel
theorem dX8_hangs_112 : decode cX8_hangs 112 = .ok (.isub, 1) := by decide +kernel
theorem dX8_hangs_113 : decode cX8_hangs 113 = .ok (.istore 7, 2) := by decide +kernel
theorem dX8_hangs_115 : decode cX8_hangs 115 = .ok (.iconst 0, 1) := by decide +kernel
theorem dX8_hangs_116 : decode cX8_hangs 116 = .ok (.istore 8, 2) := by decide +kernel
theorem dX8_hangs_118 : decode cX8_hangs 118 = .ok (.iload 8, 2) := by decide +kernel
theorem dX8_hangs_120 : decode cX8_hangs 120 = .ok (.iconst 4, 1) := by decide +kernel
theorem dX8_hangs_121 : decode cX8_hangs 121 = .ok (.if_icmp .ge 178, 3) := by decide +kernel
theorem dX8_hangs_124 : decode cX8_hangs 124 = .ok (.iload 5, 2) := by decide +kernel
theorem dX8_hangs_126 : decode cX8_hangs 126 = .ok (.iload 8, 2) := by decide +kernel
theorem dX8_hangs_128 : decode cX8_hangs 128 = .ok (.invokestatic 118, 3) := by decide +kernel
theorem dX8_hangs_131 : decode cX8_hangs 131 = .ok (.iadd, 1) := by decide +kernel
theorem dX8_hangs_132 : decode cX8_hangs 132 = .ok (.istore 9, 2) := by decide +kernel
theorem dX8_hangs_134 : decode cX8_hangs 134 = .ok (.iload 6, 2) := by decide +kernel
theorem dX8_hangs_136 : decode cX8_hangs 136 = .ok (.iload 8, 2) := by decide +kernel
theorem dX8_hangs_138 : decode cX8_hangs 138 = .ok (.invokestatic 122, 3) := by decide +kernel
theorem dX8_hangs_141 : decode cX8_hangs 141 = .ok (.iadd, 1) := by decide +kernel
theorem dX8_hangs_142 : decode cX8_hangs 142 = .ok (.istore 10, 2) := by decide +kernel
theorem dX8_hangs_144 : decode cX8_hangs 144 = .ok (.iload 9, 2) := by decide +kernel
theorem dX8_hangs_146 : decode cX8_hangs 146 = .ok (.bipush 16, 2) := by decide +kernel
theorem dX8_hangs_148 : decode cX8_hangs 148 = .ok (.iload 10, 2) := by decide +kernel
theorem dX8_hangs_150 : decode cX8_hangs 150 = .ok (.imul, 1) := by decide +kernel
theorem dX8_hangs_151 : decode cX8_hangs 151 = .ok (.iadd, 1) := by decide +kernel
theorem dX8_hangs_152 : decode cX8_hangs 152 = .ok (.istore 11, 2) := by decide +kernel
theorem dX8_hangs_154 : decode cX8_hangs 154 = .ok (.iload 9, 2) := by decide +kernel
theorem dX8_hangs_156 : decode cX8_hangs 156 = .ok (.iload 10, 2) := by decide +kernel
theorem dX8_hangs_158 : decode cX8_hangs 158 = .ok (.invokestatic 125, 3) := by decide +kernel
theorem dX8_hangs_161 : decode cX8_hangs 161 = .ok (.ifCond .eq 132, 3) := by decide +kernel
theorem dX8_hangs_164 : decode cX8_hangs 164 = .ok (.aload_n 0, 1) := by decide +kernel
theorem dX8_hangs_165 : decode cX8_hangs 165 = .ok (.getfield 26, 3) := by decide +kernel
theorem dX8_hangs_168 : decode cX8_hangs 168 = .ok (.iload 11, 2) := by decide +kernel
theorem dX8_hangs_170 : decode cX8_hangs 170 = .ok (.iaload, 1) := by decide +kernel
theorem dX8_hangs_171 : decode cX8_hangs 171 = .ok (.ifCond .eq 122, 3) := by decide +kernel
theorem dX8_hangs_174 : decode cX8_hangs 174 = .ok (.iload 11, 2) := by decide +kernel
theorem dX8_hangs_176 : decode cX8_hangs 176 = .ok (.iload_n 1, 1) := by decide +kernel
theorem dX8_hangs_177 : decode cX8_hangs 177 = .ok (.if_icmp .eq 116, 3) := by decide +kernel
theorem dX8_hangs_180 : decode cX8_hangs 180 = .ok (.aload_n 0, 1) := by decide +kernel
theorem dX8_hangs_181 : decode cX8_hangs 181 = .ok (.getfield 79, 3) := by decide +kernel
theorem dX8_hangs_184 : decode cX8_hangs 184 = .ok (.iload 11, 2) := by decide +kernel
theorem dX8_hangs_186 : decode cX8_hangs 186 = .ok (.baload, 1) := by decide +kernel
theorem dX8_hangs_187 : decode cX8_hangs 187 = .ok (.ifCond .eq 6, 3) := by decide +kernel
theorem dX8_hangs_190 : decode cX8_hangs 190 = .ok (.goto 103, 3) := by decide +kernel
theorem dX8_hangs_193 : decode cX8_hangs 193 = .ok (.aload_n 0, 1) := by decide +kernel
theorem dX8_hangs_194 : decode cX8_hangs 194 = .ok (.getfield 13, 3) := by decide +kernel
theorem dX8_hangs_197 : decode cX8_hangs 197 = .ok (.iload 7, 2) := by decide +kernel
theorem dX8_hangs_199 : decode cX8_hangs 199 = .ok (.iconst 2, 1) := by decide +kernel
theorem dX8_hangs_200 : decode cX8_hangs 200 = .ok (.idiv, 1) := by decide +kernel
theorem dX8_hangs_201 : decode cX8_hangs 201 = .ok (.iaload, 1) := by decide +kernel
theorem dX8_hangs_202 : decode cX8_hangs 202 = .ok (.iconst 2, 1) := by decide +kernel
theorem dX8_hangs_203 : decode cX8_hangs 203 = .ok (.if_icmp .ne 34, 3) := by decide +kernel
theorem dX8_hangs_206 : decode cX8_hangs 206 = .ok (.iload 8, 2) := by decide +kernel
theorem dX8_hangs_208 : decode cX8_hangs 208 = .ok (.iconst 1, 1) := by decide +kernel
theorem dX8_hangs_209 : decode cX8_hangs 209 = .ok (.if_icmp .ne 10, 3) := by decide +kernel
theorem dX8_hangs_212 : decode cX8_hangs 212 = .ok (.iload 7, 2) := by decide +kernel
theorem dX8_hangs_214 : decode cX8_hangs 214 = .ok (.iconst 2, 1) := by decide +kernel
theorem dX8_hangs_215 : decode cX8_hangs 215 = .ok (.irem, 1) := by decide +kernel
theorem dX8_hangs_216 : decode cX8_hangs 216 = .ok (.ifCond .eq 17, 3) := by decide +kernel
theorem dX8_hangs_219 : decode cX8_hangs 219 = .ok (.iload 8, 2) := by decide +kernel
theorem dX8_hangs_221 : decode cX8_hangs 221 = .ok (.iconst 3, 1) := by decide +kernel
theorem dX8_hangs_222 : decode cX8_hangs 222 = .ok (.if_icmp .ne 15, 3) := by decide +kernel
theorem dX8_hangs_225 : decode cX8_hangs 225 = .ok (.iload 7, 2) := by decide +kernel
theorem dX8_hangs_227 : decode cX8_hangs 227 = .ok (.iconst 2, 1) := by decide +kernel
theorem dX8_hangs_228 : decode cX8_hangs 228 = .ok (.irem, 1) := by decide +kernel
theorem dX8_hangs_229 : decode cX8_hangs 229 = .ok (.iconst 1, 1) := by decide +kernel
theorem dX8_hangs_230 : decode cX8_hangs 230 = .ok (.if_icmp .ne 7, 3) := by decide +kernel
theorem dX8_hangs_233 : decode cX8_hangs 233 = .ok (.iconst 1, 1) := by decide +kernel
theorem dX8_hangs_234 : decode cX8_hangs 234 = .ok (.goto 4, 3) := by decide +kernel
theorem dX8_hangs_237 : decode cX8_hangs 237 = .ok (.iconst 0, 1) := by decide +kernel
theorem dX8_hangs_238 : decode cX8_hangs 238 = .ok (.istore 12, 2) := by decide +kernel
theorem dX8_hangs_240 : decode cX8_hangs 240 = .ok (.iload 12, 2) := by decide +kernel
theorem dX8_hangs_242 : decode cX8_hangs 242 = .ok (.ifCond .ne 32, 3) := by decide +kernel
theorem dX8_hangs_245 : decode cX8_hangs 245 = .ok (.aload_n 0, 1) := by decide +kernel
theorem dX8_hangs_246 : decode cX8_hangs 246 = .ok (.aload_n 0, 1) := by decide +kernel
theorem dX8_hangs_247 : decode cX8_hangs 247 = .ok (.getfield 26, 3) := by decide +kernel
theorem dX8_hangs_250 : decode cX8_hangs 250 = .ok (.iconst 0, 1) := by decide +kernel
theorem dX8_hangs_251 : decode cX8_hangs 251 = .ok (.iload 7, 2) := by decide +kernel
theorem dX8_hangs_253 : decode cX8_hangs 253 = .ok (.iconst 2, 1) := by decide +kernel
theorem dX8_hangs_254 : decode cX8_hangs 254 = .ok (.idiv, 1) := by decide +kernel
theorem dX8_hangs_255 : decode cX8_hangs 255 = .ok (.iload 7, 2) := by decide +kernel
theorem dX8_hangs_257 : decode cX8_hangs 257 = .ok (.iconst 2, 1) := by decide +kernel
theorem dX8_hangs_258 : decode cX8_hangs 258 = .ok (.irem, 1) := by decide +kernel
theorem dX8_hangs_259 : decode cX8_hangs 259 = .ok (.iload 5, 2) := by decide +kernel
theorem dX8_hangs_261 : decode cX8_hangs 261 = .ok (.iload 6, 2) := by decide +kernel
theorem dX8_hangs_263 : decode cX8_hangs 263 = .ok (.iload 8, 2) := by decide +kernel
theorem dX8_hangs_265 : decode cX8_hangs 265 = .ok (.invokevirtual 132, 3) := by decide +kernel
theorem dX8_hangs_268 : decode cX8_hangs 268 = .ok (.ifCond .ne 6, 3) := by decide +kernel
theorem dX8_hangs_271 : decode cX8_hangs 271 = .ok (.goto 22, 3) := by decide +kernel
theorem dX8_hangs_274 : decode cX8_hangs 274 = .ok (.aload_n 0, 1) := by decide +kernel
theorem dX8_hangs_275 : decode cX8_hangs 275 = .ok (.getfield 79, 3) := by decide +kernel
theorem dX8_hangs_278 : decode cX8_hangs 278 = .ok (.iload 11, 2) := by decide +kernel
theorem dX8_hangs_280 : decode cX8_hangs 280 = .ok (.iconst 1, 1) := by decide +kernel
theorem dX8_hangs_281 : decode cX8_hangs 281 = .ok (.bastore, 1) := by decide +kernel
theorem dX8_hangs_282 : decode cX8_hangs 282 = .ok (.aload_n 0, 1) := by decide +kernel
theorem dX8_hangs_283 : decode cX8_hangs 283 = .ok (.getfield 76, 3) := by decide +kernel
theorem dX8_hangs_286 : decode cX8_hangs 286 = .ok (.iload_n 3, 1) := by decide +kernel
theorem dX8_hangs_287 : decode cX8_hangs 287 = .ok (.iload 11, 2) := by decide +kernel
theorem dX8_hangs_289 : decode cX8_hangs 289 = .ok (.iastore, 1) := by decide +kernel
theorem dX8_hangs_290 : decode cX8_hangs 290 = .ok (.iinc 3 1, 3) := by decide +kernel
theorem dX8_hangs_293 : decode cX8_hangs 293 = .ok (.iinc 8 1, 3) := by decide +kernel
theorem dX8_hangs_296 : decode cX8_hangs 296 = .ok (.goto (-178), 3) := by decide +kernel
theorem dX8_hangs_299 : decode cX8_hangs 299 = .ok (.iinc 4 1, 3) := by decide +kernel
theorem dX8_hangs_302 : decode cX8_hangs 302 = .ok (.goto (-233), 3) := by decide +kernel
theorem dX8_hangs_305 : decode cX8_hangs 305 = .ok (.iconst 1, 1) := by decide +kernel
theorem dX8_hangs_306 : decode cX8_hangs 306 = .ok (.istore 4, 2) := by decide +kernel
theorem dX8_hangs_308 : decode cX8_hangs 308 = .ok (.iconst 0, 1) := by decide +kernel
theorem dX8_hangs_309 : decode cX8_hangs 309 = .ok (.istore 5, 2) := by decide +kernel
theorem dX8_hangs_311 : decode cX8_hangs 311 = .ok (.iload 5, 2) := by decide +kernel
theorem dX8_hangs_313 : decode cX8_hangs 313 = .ok (.sipush 256, 3) := by decide +kernel
theorem dX8_hangs_316 : decode cX8_hangs 316 = .ok (.if_icmp .ge 47, 3) := by decide +kernel
theorem dX8_hangs_319 : decode cX8_hangs 319 = .ok (.iload 4, 2) := by decide +kernel
theorem dX8_hangs_321 : decode cX8_hangs 321 = .ok (.ifCond .eq 42, 3) := by decide +kernel
theorem dX8_hangs_324 : decode cX8_hangs 324 = .ok (.aload_n 0, 1) := by decide +kernel
theorem dX8_hangs_325 : decode cX8_hangs 325 = .ok (.getfield 26, 3) := by decide +kernel
theorem dX8_hangs_328 : decode cX8_hangs 328 = .ok (.iload 5, 2) := by decide +kernel
theorem dX8_hangs_330 : decode cX8_hangs 330 = .ok (.iaload, 1) := by decide +kernel
theorem dX8_hangs_331 : decode cX8_hangs 331 = .ok (.ifCond .eq 19, 3) := by decide +kernel
theorem dX8_hangs_334 : decode cX8_hangs 334 = .ok (.iload 5, 2) := by decide +kernel
theorem dX8_hangs_336 : decode cX8_hangs 336 = .ok (.iload_n 1, 1) := by decide +kernel
theorem dX8_hangs_337 : decode cX8_hangs 337 = .ok (.if_icmp .eq 13, 3) := by decide +kernel
theorem dX8_hangs_340 : decode cX8_hangs 340 = .ok (.aload_n 0, 1) := by decide +kernel
theorem dX8_hangs_341 : decode cX8_hangs 341 = .ok (.getfield 79, 3) := by decide +kernel
theorem dX8_hangs_344 : decode cX8_hangs 344 = .ok (.iload 5, 2) := by decide +kernel
theorem dX8_hangs_346 : decode cX8_hangs 346 = .ok (.baload, 1) := by decide +kernel
theorem dX8_hangs_347 : decode cX8_hangs 347 = .ok (.ifCond .eq 7, 3) := by decide +kernel
theorem dX8_hangs_350 : decode cX8_hangs 350 = .ok (.iconst 1, 1) := by decide +kernel
theorem dX8_hangs_351 : decode cX8_hangs 351 = .ok (.goto 4, 3) := by decide +kernel
theorem dX8_hangs_354 : decode cX8_hangs 354 = .ok (.iconst 0, 1) := by decide +kernel
theorem dX8_hangs_355 : decode cX8_hangs 355 = .ok (.istore 4, 2) := by decide +kernel
theorem dX8_hangs_357 : decode cX8_hangs 357 = .ok (.iinc 5 1, 3) := by decide +kernel
theorem dX8_hangs_360 : decode cX8_hangs 360 = .ok (.goto (-49), 3) := by decide +kernel
theorem dX8_hangs_363 : decode cX8_hangs 363 = .ok (.iload 4, 2) := by decide +kernel
theorem dX8_hangs_365 : decode cX8_hangs 365 = .ok (.ireturn, 1) := by decide +kernel
set_option maxRecDepth 20000 in
theorem ggX8_go_X8_isOn : GoodIn wsX8_go wsX8_isOn := goodIn_r _ [8] (by decide +kernel) (by decide +kernel)
set_option maxRecDepth 20000 in
theorem gX8_go_X8_isOn : GoodIn wsX8_go (va_wsS RX8 125 yX8_isOn wsX8_isOn) := goodIn_app (goodIn_of _ (by decide +kernel)) ggX8_go_X8_isOn
set_option maxRecDepth 20000 in
theorem ggX8_go_X8_holdOf : GoodIn wsX8_go wsX8_holdOf := goodIn_r _ [12, 2, 13, 14, 15, 7, 16, 17, 18, 19, 20, 21, 22, 23, 5, 6, 8, 24, 25, 26, 27, 28, 29, 46, 47, 48, 49, 50, 51, 52, 53, 54, 55, 56, 57, 58, 59, 60, 61, 62, 63, 64, 65, 66, 67, 68, 69, 70, 71, 72, 73, 74, 75, 76, 77, 78, 79, 80, 81, 82, 83] (by decide +kernel) (by decide +kernel)
set_option maxRecDepth 20000 in
theorem gX8_go_X8_holdOf : GoodIn wsX8_go (wsV RX8 143 RX8 yX8_holdOf wsX8_holdOf) := goodIn_app (goodIn_of _ (by decide +kernel)) ggX8_go_X8_holdOf
set_option maxRecDepth 20000 in
theorem ggX8_go_X8_hangs : GoodIn wsX8_go wsX8_hangs := goodIn_r _ [33, 34, 1, 35, 2, 18, 19, 7, 20, 21, 22, 23, 5, 6, 8, 13, 14, 15, 16, 17, 24, 25, 26, 27, 28, 29, 46, 47, 48, 49, 50, 51, 52, 53, 54, 55, 56, 57, 58, 59, 60, 61, 62, 63, 64, 65, 66, 67, 68, 69, 70, 71, 72, 73, 74, 75, 76, 77, 78, 79, 80, 81, 82, 83] (by decide +kernel) (by decide +kernel)
set_option maxRecDepth 20000 in
theorem gX8_go_X8_hangs : GoodIn wsX8_go (wsV RX8 192 RX8 yX8_hangs wsX8_hangs) := goodIn_app (goodIn_of _ (by decide +kernel)) ggX8_go_X8_hangs
set_option maxRecDepth 20000 in
theorem ggX8_go_X8_step : GoodIn wsX8_go wsX8_step := goodIn_r _ [39, 40, 41, 42, 43, 44, 45, 46, 47, 48, 49, 50, 51, 52, 53, 54, 55, 56, 57, 58, 59, 60, 61, 62, 63, 64, 65, 66, 67, 68, 69, 70, 71, 72, 73, 74, 75, 76, 77, 78, 79, 80, 81, 82, 83] (by decide +kernel) (by decide +kernel)
set_option maxRecDepth 20000 in
theorem gX8_go_X8_step : GoodIn wsX8_go (wsV RX8 170 RX8 yX8_step wsX8_step) := goodIn_app (goodIn_of _ (by decide +kernel)) ggX8_go_X8_step
theorem dX8_go_0 : decode cX8_go 0 = .ok (.iload_n 1, 1) := by decide +kernel
theorem dX8_go_1 : decode cX8_go 1 = .ok (.iload_n 2, 1) := by decide +kernel
theorem dX8_go_2 : decode cX8_go 2 = .ok (.invokestatic 125, 3) := by decide +kernel
theorem dX8_go_5 : decode cX8_go 5 = .ok (.ifCond .eq 17, 3) := by decide +kernel
theorem dX8_go_8 : decode cX8_go 8 = .ok (.aload_n 0, 1) := by decide +kernel
theorem dX8_go_9 : decode cX8_go 9 = .ok (.getfield 26, 3) := by decide +kernel
theorem dX8_go_12 : decode cX8_go 12 = .ok (.iload_n 1, 1) := by decide +kernel
theorem dX8_go_13 : decode cX8_go 13 = .ok (.bipush 16, 2) := by decide +kernel
theorem dX8_go_15 : decode cX8_go 15 = .ok (.iload_n 2, 1) := by decide +kernel
theorem dX8_go_16 : decode cX8_go 16 = .ok (.imul, 1) := by decide +kernel
theorem dX8_go_17 : decode cX8_go 17 = .ok (.iadd, 1) := by decide +kernel
theorem dX8_go_18 : decode cX8_go 18 = .ok (.iaload, 1) := by decide +kernel
theorem dX8_go_19 : decode cX8_go 19 = .ok (.ifCond .ne 5, 3) := by decide +kernel
theorem dX8_go_22 : decode cX8_go 22 = .ok (.iconst 0, 1) := by decide +kernel
theorem dX8_go_23 : decode cX8_go 23 = .ok (.ireturn, 1) := by decide +kernel
theorem dX8_go_24 : decode cX8_go 24 = .ok (.iload_n 1, 1) := by decide +kernel
theorem dX8_go_25 : decode cX8_go 25 = .ok (.bipush 16, 2) := by decide +kernel
theorem dX8_go_27 : decode cX8_go 27 = .ok (.iload_n 2, 1) := by decide +kernel
theorem dX8_go_28 : decode cX8_go 28 = .ok (.imul, 1) := by decide +kernel
theorem dX8_go_29 : decode cX8_go 29 = .ok (.iadd, 1) := by decide +kernel
theorem dX8_go_30 : decode cX8_go 30 = .ok (.istore_n 3, 1) := by decide +kernel
theorem dX8_go_31 : decode cX8_go 31 = .ok (.aload_n 0, 1) := by decide +kernel
theorem dX8_go_32 : decode cX8_go 32 = .ok (.getfield 26, 3) := by decide +kernel
theorem dX8_go_35 : decode cX8_go 35 = .ok (.iload_n 3, 1) := by decide +kernel
theorem dX8_go_36 : decode cX8_go 36 = .ok (.iaload, 1) := by decide +kernel
theorem dX8_go_37 : decode cX8_go 37 = .ok (.iconst 1, 1) := by decide +kernel
theorem dX8_go_38 : decode cX8_go 38 = .ok (.isub, 1) := by decide +kernel
theorem dX8_go_39 : decode cX8_go 39 = .ok (.iconst 2, 1) := by decide +kernel
theorem dX8_go_40 : decode cX8_go 40 = .ok (.idiv, 1) := by decide +kernel
theorem dX8_go_41 : decode cX8_go 41 = .ok (.istore 4, 2) := by decide +kernel
theorem dX8_go_43 : decode cX8_go 43 = .ok (.aload_n 0, 1) := by decide +kernel
theorem dX8_go_44 : decode cX8_go 44 = .ok (.getfield 13, 3) := by decide +kernel
theorem dX8_go_47 : decode cX8_go 47 = .ok (.iload 4, 2) := by decide +kernel
theorem dX8_go_49 : decode cX8_go 49 = .ok (.iaload, 1) := by decide +kernel
theorem dX8_go_50 : decode cX8_go 50 = .ok (.iconst 3, 1) := by decide +kernel
theorem dX8_go_51 : decode cX8_go 51 = .ok (.if_icmp .ne 31, 3) := by decide +kernel
theorem dX8_go_54 : decode cX8_go 54 = .ok (.aload_n 0, 1) := by decide +kernel
theorem dX8_go_55 : decode cX8_go 55 = .ok (.aload_n 0, 1) := by decide +kernel
theorem dX8_go_56 : decode cX8_go 56 = .ok (.getfield 26, 3) := by decide +kernel
theorem dX8_go_59 : decode cX8_go 59 = .ok (.iconst 0, 1) := by decide +kernel
theorem dX8_go_60 : decode cX8_go 60 = .ok (.iload 4, 2) := by decide +kernel
theorem dX8_go_62 : decode cX8_go 62 = .ok (.iload_n 1, 1) := by decide +kernel
theorem dX8_go_63 : decode cX8_go 63 = .ok (.iload_n 2, 1) := by decide +kernel
theorem dX8_go_64 : decode cX8_go 64 = .ok (.invokevirtual 143, 3) := by decide +kernel
theorem dX8_go_67 : decode cX8_go 67 = .ok (.aload_n 0, 1) := by decide +kernel
theorem dX8_go_68 : decode cX8_go 68 = .ok (.getfield 22, 3) := by decide +kernel
theorem dX8_go_71 : decode cX8_go 71 = .ok (.if_icmp .ne 11, 3) := by decide +kernel
theorem dX8_go_74 : decode cX8_go 74 = .ok (.aload_n 0, 1) := by decide +kernel
theorem dX8_go_75 : decode cX8_go 75 = .ok (.iload_n 3, 1) := by decide +kernel
theorem dX8_go_76 : decode cX8_go 76 = .ok (.invokevirtual 192, 3) := by decide +kernel
theorem dX8_go_79 : decode cX8_go 79 = .ok (.ifCond .ne 5, 3) := by decide +kernel
theorem dX8_go_82 : decode cX8_go 82 = .ok (.iconst 0, 1) := by decide +kernel
theorem dX8_go_83 : decode cX8_go 83 = .ok (.ireturn, 1) := by decide +kernel
theorem dX8_go_84 : decode cX8_go 84 = .ok (.aload_n 0, 1) := by decide +kernel
theorem dX8_go_85 : decode cX8_go 85 = .ok (.getfield 29, 3) := by decide +kernel
theorem dX8_go_88 : decode cX8_go 88 = .ok (.iload_n 3, 1) := by decide +kernel
theorem dX8_go_89 : decode cX8_go 89 = .ok (.iaload, 1) := by decide +kernel
theorem dX8_go_90 : decode cX8_go 90 = .ok (.istore 5, 2) := by decide +kernel
theorem dX8_go_92 : decode cX8_go 92 = .ok (.aload_n 0, 1) := by decide +kernel
theorem dX8_go_93 : decode cX8_go 93 = .ok (.getfield 26, 3) := by decide +kernel
theorem dX8_go_96 : decode cX8_go 96 = .ok (.iload_n 3, 1) := by decide +kernel
theorem dX8_go_97 : decode cX8_go 97 = .ok (.iconst 0, 1) := by decide +kernel
theorem dX8_go_98 : decode cX8_go 98 = .ok (.iastore, 1) := by decide +kernel
theorem dX8_go_99 : decode cX8_go 99 = .ok (.aload_n 0, 1) := by decide +kernel
theorem dX8_go_100 : decode cX8_go 100 = .ok (.getfield 29, 3) := by decide +kernel
theorem dX8_go_103 : decode cX8_go 103 = .ok (.iload_n 3, 1) := by decide +kernel
theorem dX8_go_104 : decode cX8_go 104 = .ok (.iconst (-1), 1) := by decide +kernel
theorem dX8_go_105 : decode cX8_go 105 = .ok (.iastore, 1) := by decide +kernel
theorem dX8_go_106 : decode cX8_go 106 = .ok (.aload_n 0, 1) := by decide +kernel
theorem dX8_go_107 : decode cX8_go 107 = .ok (.iconst 2, 1) := by decide +kernel
theorem dX8_go_108 : decode cX8_go 108 = .ok (.iload 4, 2) := by decide +kernel
theorem dX8_go_110 : decode cX8_go 110 = .ok (.iload_n 3, 1) := by decide +kernel
theorem dX8_go_111 : decode cX8_go 111 = .ok (.iload 5, 2) := by decide +kernel
theorem dX8_go_113 : decode cX8_go 113 = .ok (.invokevirtual 170, 3) := by decide +kernel
theorem dX8_go_116 : decode cX8_go 116 = .ok (.iconst 1, 1) := by decide +kernel
theorem dX8_go_117 : decode cX8_go 117 = .ok (.ireturn, 1) := by decide +kernel
set_option maxRecDepth 20000 in
theorem ggX8_choices_X8_mayCome : GoodIn wsX8_choices wsX8_mayCome := goodIn_r _ [7, 8, 9, 10, 11, 12, 6, 13, 14, 15, 16, 17, 18, 19, 20, 21, 22, 23, 24, 25, 26, 27, 28, 29, 30, 31, 32, 33, 34, 35, 36, 37, 38, 39, 40, 41, 42, 43, 44, 45, 46, 47, 48, 49, 50, 51, 52, 53, 54, 55, 56, 57, 58, 59, 60, 61, 62, 63, 64, 65, 66, 67, 68, 69, 70, 71, 72, 73, 74, 75, 76, 77, 78, 79, 80, 81, 82, 83] (by decide +kernel) (by decide +kernel)
set_option maxRecDepth 20000 in
theorem gX8_choices_X8_mayCome : GoodIn wsX8_choices (wsV RX8 153 RX8 yX8_mayCome wsX8_mayCome) := goodIn_app (goodIn_of _ (by decide +kernel)) ggX8_choices_X8_mayCome
theorem dX8_choices_0 : decode cX8_choices 0 = .ok (.iconst 0, 1) := by decide +kernel
theorem dX8_choices_1 : decode cX8_choices 1 = .ok (.istore_n 1, 1) := by decide +kernel
theorem dX8_choices_2 : decode cX8_choices 2 = .ok (.iconst 0, 1) := by decide +kernel
theorem dX8_choices_3 : decode cX8_choices 3 = .ok (.istore_n 2, 1) := by decide +kernel
theorem dX8_choices_4 : decode cX8_choices 4 = .ok (.iload_n 2, 1) := by decide +kernel
theorem dX8_choices_5 : decode cX8_choices 5 = .ok (.bipush 16, 2) := by decide +kernel
theorem dX8_choices_7 : decode cX8_choices 7 = .ok (.if_icmp .ge 65, 3) := by decide +kernel
theorem dX8_choices_10 : decode cX8_choices 10 = .ok (.iconst 0, 1) := by decide +kernel
theorem dX8_choices_11 : decode cX8_choices 11 = .ok (.istore_n 3, 1) := by decide +kernel
theorem dX8_choices_12 : decode cX8_choices 12 = .ok (.iload_n 3, 1) := by decide +kernel
theorem dX8_choices_13 : decode cX8_choices 13 = .ok (.bipush 16, 2) := by decide +kernel
theorem dX8_choices_15 : decode cX8_choices 15 = .ok (.if_icmp .ge 51, 3) := by decide +kernel
theorem dX8_choices_18 : decode cX8_choices 18 = .ok (.iconst 0, 1) := by decide +kernel
theorem dX8_choices_19 : decode cX8_choices 19 = .ok (.istore 4, 2) := by decide +kernel
theorem dX8_choices_21 : decode cX8_choices 21 = .ok (.iload 4, 2) := by decide +kernel
theorem dX8_choices_23 : decode cX8_choices 23 = .ok (.aload_n 0, 1) := by decide +kernel
theorem dX8_choices_24 : decode cX8_choices 24 = .ok (.getfield 92, 3) := by decide +kernel
theorem dX8_choices_27 : decode cX8_choices 27 = .ok (.if_icmp .ge 33, 3) := by decide +kernel
theorem dX8_choices_30 : decode cX8_choices 30 = .ok (.iload_n 1, 1) := by decide +kernel
theorem dX8_choices_31 : decode cX8_choices 31 = .ok (.aload_n 0, 1) := by decide +kernel
theorem dX8_choices_32 : decode cX8_choices 32 = .ok (.aload_n 0, 1) := by decide +kernel
theorem dX8_choices_33 : decode cX8_choices 33 = .ok (.getfield 26, 3) := by decide +kernel
theorem dX8_choices_36 : decode cX8_choices 36 = .ok (.iconst 0, 1) := by decide +kernel
theorem dX8_choices_37 : decode cX8_choices 37 = .ok (.iload 4, 2) := by decide +kernel
theorem dX8_choices_39 : decode cX8_choices 39 = .ok (.iload_n 3, 1) := by decide +kernel
theorem dX8_choices_40 : decode cX8_choices 40 = .ok (.iload_n 2, 1) := by decide +kernel
theorem dX8_choices_41 : decode cX8_choices 41 = .ok (.invokevirtual 153, 3) := by decide +kernel
theorem dX8_choices_44 : decode cX8_choices 44 = .ok (.ifCond .eq 7, 3) := by decide +kernel
theorem dX8_choices_47 : decode cX8_choices 47 = .ok (.iconst 1, 1) := by decide +kernel
theorem dX8_choices_48 : decode cX8_choices 48 = .ok (.goto 4, 3) := by decide +kernel
theorem dX8_choices_51 : decode cX8_choices 51 = .ok (.iconst 0, 1) := by decide +kernel
theorem dX8_choices_52 : decode cX8_choices 52 = .ok (.iadd, 1) := by decide +kernel
theorem dX8_choices_53 : decode cX8_choices 53 = .ok (.istore_n 1, 1) := by decide +kernel
theorem dX8_choices_54 : decode cX8_choices 54 = .ok (.iinc 4 1, 3) := by decide +kernel
theorem dX8_choices_57 : decode cX8_choices 57 = .ok (.goto (-36), 3) := by decide +kernel
theorem dX8_choices_60 : decode cX8_choices 60 = .ok (.iinc 3 1, 3) := by decide +kernel
theorem dX8_choices_63 : decode cX8_choices 63 = .ok (.goto (-51), 3) := by decide +kernel
theorem dX8_choices_66 : decode cX8_choices 66 = .ok (.iinc 2 1, 3) := by decide +kernel
theorem dX8_choices_69 : decode cX8_choices 69 = .ok (.goto (-65), 3) := by decide +kernel
theorem dX8_choices_72 : decode cX8_choices 72 = .ok (.iload_n 1, 1) := by decide +kernel
theorem dX8_choices_73 : decode cX8_choices 73 = .ok (.ireturn, 1) := by decide +kernel
set_option maxRecDepth 20000 in
theorem ggX8_choiceAt_X8_mayCome : GoodIn wsX8_choiceAt wsX8_mayCome := goodIn_r _ [7, 8, 9, 10, 11, 12, 6, 13, 14, 15, 16, 17, 18, 19, 20, 21, 22, 23, 24, 25, 26, 27, 28, 29, 30, 31, 32, 33, 34, 35, 36, 37, 38, 39, 40, 41, 42, 43, 44, 45, 46, 47, 48, 49, 50, 51, 52, 53, 54, 55, 56, 57, 58, 59, 60, 61, 62, 63, 64, 65, 66, 67, 68, 69, 70, 71, 72, 73, 74, 75, 76, 77, 78, 79, 80, 81, 82, 83] (by decide +kernel) (by decide +kernel)
set_option maxRecDepth 20000 in
theorem gX8_choiceAt_X8_mayCome : GoodIn wsX8_choiceAt (wsV RX8 153 RX8 yX8_mayCome wsX8_mayCome) := goodIn_app (goodIn_of _ (by decide +kernel)) ggX8_choiceAt_X8_mayCome
theorem dX8_choiceAt_0 : decode cX8_choiceAt 0 = .ok (.iconst 0, 1) := by decide +kernel
theorem dX8_choiceAt_1 : decode cX8_choiceAt 1 = .ok (.istore_n 2, 1) := by decide +kernel
theorem dX8_choiceAt_2 : decode cX8_choiceAt 2 = .ok (.iconst 0, 1) := by decide +kernel
theorem dX8_choiceAt_3 : decode cX8_choiceAt 3 = .ok (.istore_n 3, 1) := by decide +kernel
theorem dX8_choiceAt_4 : decode cX8_choiceAt 4 = .ok (.iload_n 3, 1) := by decide +kernel
theorem dX8_choiceAt_5 : decode cX8_choiceAt 5 = .ok (.bipush 16, 2) := by decide +kernel
theorem dX8_choiceAt_7 : decode cX8_choiceAt 7 = .ok (.if_icmp .ge 89, 3) := by decide +kernel
theorem dX8_choiceAt_10 : decode cX8_choiceAt 10 = .ok (.iload_n 1, 1) := by decide +kernel
theorem dX8_choiceAt_11 : decode cX8_choiceAt 11 = .ok (.ifCond .lt 85, 3) := by decide +kernel
theorem dX8_choiceAt_14 : decode cX8_choiceAt 14 = .ok (.iconst 0, 1) := by decide +kernel
theorem dX8_choiceAt_15 : decode cX8_choiceAt 15 = .ok (.istore 4, 2) := by decide +kernel
theorem dX8_choiceAt_17 : decode cX8_choiceAt 17 = .ok (.iload 4, 2) := by decide +kernel
theorem dX8_choiceAt_19 : decode cX8_choiceAt 19 = .ok (.bipush 16, 2) := by decide +kernel
theorem dX8_choiceAt_21 : decode cX8_choiceAt 21 = .ok (.if_icmp .ge 69, 3) := by decide +kernel
theorem dX8_choiceAt_24 : decode cX8_choiceAt 24 = .ok (.iconst 0, 1) := by decide +kernel
theorem dX8_choiceAt_25 : decode cX8_choiceAt 25 = .ok (.istore 5, 2) := by decide +kernel
theorem dX8_choiceAt_27 : decode cX8_choiceAt 27 = .ok (.iload 5, 2) := by decide +kernel
theorem dX8_choiceAt_29 : decode cX8_choiceAt 29 = .ok (.aload_n 0, 1) := by decide +kernel
theorem dX8_choiceAt_30 : decode cX8_choiceAt 30 = .ok (.getfield 92, 3) := by decide +kernel
theorem dX8_choiceAt_33 : decode cX8_choiceAt 33 = .ok (.if_icmp .ge 51, 3) := by decide +kernel
theorem dX8_choiceAt_36 : decode cX8_choiceAt 36 = .ok (.aload_n 0, 1) := by decide +kernel
theorem dX8_choiceAt_37 : decode cX8_choiceAt 37 = .ok (.aload_n 0, 1) := by decide +kernel
theorem dX8_choiceAt_38 : decode cX8_choiceAt 38 = .ok (.getfield 26, 3) := by decide +kernel
theorem dX8_choiceAt_41 : decode cX8_choiceAt 41 = .ok (.iconst 0, 1) := by decide +kernel
theorem dX8_choiceAt_42 : decode cX8_choiceAt 42 = .ok (.iload 5, 2) := by decide +kernel
theorem dX8_choiceAt_44 : decode cX8_choiceAt 44 = .ok (.iload 4, 2) := by decide +kernel
theorem dX8_choiceAt_46 : decode cX8_choiceAt 46 = .ok (.iload_n 3, 1) := by decide +kernel
theorem dX8_choiceAt_47 : decode cX8_choiceAt 47 = .ok (.invokevirtual 153, 3) := by decide +kernel
theorem dX8_choiceAt_50 : decode cX8_choiceAt 50 = .ok (.ifCond .ne 6, 3) := by decide +kernel
theorem dX8_choiceAt_53 : decode cX8_choiceAt 53 = .ok (.goto 25, 3) := by decide +kernel
theorem dX8_choiceAt_56 : decode cX8_choiceAt 56 = .ok (.iload_n 2, 1) := by decide +kernel
theorem dX8_choiceAt_57 : decode cX8_choiceAt 57 = .ok (.iload_n 1, 1) := by decide +kernel
theorem dX8_choiceAt_58 : decode cX8_choiceAt 58 = .ok (.if_icmp .ne 17, 3) := by decide +kernel
theorem dX8_choiceAt_61 : decode cX8_choiceAt 61 = .ok (.iload 5, 2) := by decide +kernel
theorem dX8_choiceAt_63 : decode cX8_choiceAt 63 = .ok (.bipush 64, 2) := by decide +kernel
theorem dX8_choiceAt_65 : decode cX8_choiceAt 65 = .ok (.iload 4, 2) := by decide +kernel
theorem dX8_choiceAt_67 : decode cX8_choiceAt 67 = .ok (.bipush 16, 2) := by decide +kernel
theorem dX8_choiceAt_69 : decode cX8_choiceAt 69 = .ok (.iload_n 3, 1) := by decide +kernel
theorem dX8_choiceAt_70 : decode cX8_choiceAt 70 = .ok (.imul, 1) := by decide +kernel
theorem dX8_choiceAt_71 : decode cX8_choiceAt 71 = .ok (.iadd, 1) := by decide +kernel
theorem dX8_choiceAt_72 : decode cX8_choiceAt 72 = .ok (.imul, 1) := by decide +kernel
theorem dX8_choiceAt_73 : decode cX8_choiceAt 73 = .ok (.iadd, 1) := by decide +kernel
theorem dX8_choiceAt_74 : decode cX8_choiceAt 74 = .ok (.ireturn, 1) := by decide +kernel
theorem dX8_choiceAt_75 : decode cX8_choiceAt 75 = .ok (.iinc 2 1, 3) := by decide +kernel
theorem dX8_choiceAt_78 : decode cX8_choiceAt 78 = .ok (.iinc 5 1, 3) := by decide +kernel
theorem dX8_choiceAt_81 : decode cX8_choiceAt 81 = .ok (.goto (-54), 3) := by decide +kernel
theorem dX8_choiceAt_84 : decode cX8_choiceAt 84 = .ok (.iinc 4 1, 3) := by decide +kernel
theorem dX8_choiceAt_87 : decode cX8_choiceAt 87 = .ok (.goto (-70), 3) := by decide +kernel
theorem dX8_choiceAt_90 : decode cX8_choiceAt 90 = .ok (.iinc 3 1, 3) := by decide +kernel
theorem dX8_choiceAt_93 : decode cX8_choiceAt 93 = .ok (.goto (-89), 3) := by decide +kernel
theorem dX8_choiceAt_96 : decode cX8_choiceAt 96 = .ok (.iconst (-1), 1) := by decide +kernel
theorem dX8_choiceAt_97 : decode cX8_choiceAt 97 = .ok (.ireturn, 1) := by decide +kernel
set_option maxRecDepth 20000 in
theorem ggX8_choice_X8_choiceAt : GoodIn wsX8_choice wsX8_choiceAt := goodIn_r _ [5, 6, 7, 8, 9, 10, 4, 11, 12, 13, 14, 15, 16, 17, 18, 19, 20, 21, 22, 23, 24, 25, 26, 27, 28, 29, 30, 31, 32, 33, 34, 35, 36, 37, 38, 39, 40, 41, 42, 43, 44, 45, 46, 47, 48, 49, 50, 51, 52, 53, 54, 55, 56, 57, 58, 59, 60, 61, 62, 63, 64, 65, 66, 67, 68, 69, 70, 71, 72, 73, 74, 75, 76, 77, 78, 79, 80, 81, 82, 83, 84, 85, 86, 87] (by decide +kernel) (by decide +kernel)
set_option maxRecDepth 20000 in
theorem gX8_choice_X8_choiceAt : GoodIn wsX8_choice (wsV RX8 195 RX8 yX8_choiceAt wsX8_choiceAt) := goodIn_app (goodIn_of _ (by decide +kernel)) ggX8_choice_X8_choiceAt
theorem dX8_choice_0 : decode cX8_choice 0 = .ok (.aload_n 0, 1) := by decide +kernel
theorem dX8_choice_1 : decode cX8_choice 1 = .ok (.iload_n 1, 1) := by decide +kernel
theorem dX8_choice_2 : decode cX8_choice 2 = .ok (.invokevirtual 195, 3) := by decide +kernel
theorem dX8_choice_5 : decode cX8_choice 5 = .ok (.istore_n 3, 1) := by decide +kernel
theorem dX8_choice_6 : decode cX8_choice 6 = .ok (.iload_n 3, 1) := by decide +kernel
theorem dX8_choice_7 : decode cX8_choice 7 = .ok (.ifCond .ge 5, 3) := by decide +kernel
theorem dX8_choice_10 : decode cX8_choice 10 = .ok (.iconst (-1), 1) := by decide +kernel
theorem dX8_choice_11 : decode cX8_choice 11 = .ok (.ireturn, 1) := by decide +kernel
theorem dX8_choice_12 : decode cX8_choice 12 = .ok (.iload_n 3, 1) := by decide +kernel
theorem dX8_choice_13 : decode cX8_choice 13 = .ok (.bipush 64, 2) := by decide +kernel
theorem dX8_choice_15 : decode cX8_choice 15 = .ok (.idiv, 1) := by decide +kernel
theorem dX8_choice_16 : decode cX8_choice 16 = .ok (.istore 4, 2) := by decide +kernel
theorem dX8_choice_18 : decode cX8_choice 18 = .ok (.iload_n 2, 1) := by decide +kernel
theorem dX8_choice_19 : decode cX8_choice 19 = .ok (.ifCond .ne 10, 3) := by decide +kernel
theorem dX8_choice_22 : decode cX8_choice 22 = .ok (.iload_n 3, 1) := by decide +kernel
theorem dX8_choice_23 : decode cX8_choice 23 = .ok (.bipush 64, 2) := by decide +kernel
theorem dX8_choice_25 : decode cX8_choice 25 = .ok (.irem, 1) := by decide +kernel
theorem dX8_choice_26 : decode cX8_choice 26 = .ok (.goto 30, 3) := by decide +kernel
theorem dX8_choice_29 : decode cX8_choice 29 = .ok (.iload_n 2, 1) := by decide +kernel
theorem dX8_choice_30 : decode cX8_choice 30 = .ok (.iconst 1, 1) := by decide +kernel
theorem dX8_choice_31 : decode cX8_choice 31 = .ok (.if_icmp .ne 11, 3) := by decide +kernel
theorem dX8_choice_34 : decode cX8_choice 34 = .ok (.iload 4, 2) := by decide +kernel
theorem dX8_choice_36 : decode cX8_choice 36 = .ok (.bipush 16, 2) := by decide +kernel
theorem dX8_choice_38 : decode cX8_choice 38 = .ok (.irem, 1) := by decide +kernel
theorem dX8_choice_39 : decode cX8_choice 39 = .ok (.goto 17, 3) := by decide +kernel
theorem dX8_choice_42 : decode cX8_choice 42 = .ok (.iload_n 2, 1) := by decide +kernel
theorem dX8_choice_43 : decode cX8_choice 43 = .ok (.iconst 2, 1) := by decide +kernel
theorem dX8_choice_44 : decode cX8_choice 44 = .ok (.if_icmp .ne 11, 3) := by decide +kernel
theorem dX8_choice_47 : decode cX8_choice 47 = .ok (.iload 4, 2) := by decide +kernel
theorem dX8_choice_49 : decode cX8_choice 49 = .ok (.bipush 16, 2) := by decide +kernel
theorem dX8_choice_51 : decode cX8_choice 51 = .ok (.idiv, 1) := by decide +kernel
theorem dX8_choice_52 : decode cX8_choice 52 = .ok (.goto 4, 3) := by decide +kernel
theorem dX8_choice_55 : decode cX8_choice 55 = .ok (.iconst (-1), 1) := by decide +kernel
theorem dX8_choice_56 : decode cX8_choice 56 = .ok (.ireturn, 1) := by decide +kernel
theorem dX8_draw_0 : decode cX8_draw 0 = .ok (.aload_n 0, 1) := by decide +kernel
theorem dX8_draw_1 : decode cX8_draw 1 = .ok (.lload_n 1, 1) := by decide +kernel
theorem dX8_draw_2 : decode cX8_draw 2 = .ok (.putfield 198, 3) := by decide +kernel
theorem dX8_draw_5 : decode cX8_draw 5 = .ok (.return_, 1) := by decide +kernel
set_option maxRecDepth 20000 in
theorem ggX8_grow_X8_choices : GoodIn wsX8_grow wsX8_choices := goodIn_r _ [8, 9, 10, 11, 12, 13, 7, 14, 15, 16, 17, 18, 19, 20, 21, 22, 23, 24, 25, 26, 27, 28, 29, 30, 31, 32, 33, 34, 35, 36, 37, 38, 39, 40, 41, 42, 43, 44, 45, 46, 47, 48, 49, 50, 51, 52, 80, 81, 82, 83, 84, 85, 86, 87, 88, 89, 90, 91, 92, 93, 94, 95, 96, 97, 98, 99, 100, 101, 102, 103, 104, 105, 106, 107, 108, 109, 110, 111, 112, 113, 114, 115, 116, 117] (by decide +kernel) (by decide +kernel)
set_option maxRecDepth 20000 in
theorem gX8_grow_X8_choices : GoodIn wsX8_grow (wsV RX8 202 RX8 yX8_choices wsX8_choices) := goodIn_app (goodIn_of _ (by decide +kernel)) ggX8_grow_X8_choices
set_option maxRecDepth 20000 in
theorem ggX8_grow_X8_choiceAt : GoodIn wsX8_grow wsX8_choiceAt := goodIn_r _ [56, 9, 10, 11, 12, 13, 7, 14, 15, 16, 17, 18, 19, 20, 21, 22, 23, 24, 25, 26, 27, 28, 29, 30, 31, 32, 33, 34, 35, 36, 37, 38, 39, 40, 41, 42, 43, 44, 45, 46, 47, 48, 49, 50, 51, 52, 80, 81, 82, 83, 84, 85, 86, 87, 88, 89, 90, 91, 92, 93, 94, 95, 96, 97, 98, 99, 100, 101, 102, 103, 104, 105, 106, 107, 108, 109, 110, 111, 112, 113, 114, 115, 116, 117] (by decide +kernel) (by decide +kernel)
set_option maxRecDepth 20000 in
theorem gX8_grow_X8_choiceAt : GoodIn wsX8_grow (wsV RX8 195 RX8 yX8_choiceAt wsX8_choiceAt) := goodIn_app (goodIn_of _ (by decide +kernel)) ggX8_grow_X8_choiceAt
set_option maxRecDepth 20000 in
theorem ggX8_grow_X8_puts : GoodIn wsX8_grow wsX8_puts := goodIn_r _ [60, 10, 61, 62, 63, 64, 7, 65, 15, 66, 67, 68, 69, 70, 71, 72, 73, 74, 75, 76, 77, 78, 79, 80, 81, 82, 83, 84, 85, 86, 87, 88, 89, 90, 91, 92, 93, 94, 95, 96, 97, 98, 99, 100, 101, 102, 103, 104, 105, 106, 107, 108, 109, 110, 111, 112, 113, 114, 115, 116, 117] (by decide +kernel) (by decide +kernel)
set_option maxRecDepth 20000 in
theorem gX8_grow_X8_puts : GoodIn wsX8_grow (wsV RX8 185 RX8 yX8_puts wsX8_puts) := goodIn_app (goodIn_of _ (by decide +kernel)) ggX8_grow_X8_puts
theorem dX8_grow_0 : decode cX8_grow 0 = .ok (.iload_n 1, 1) := by decide +kernel
theorem dX8_grow_1 : decode cX8_grow 1 = .ok (.ifCond .lt 10, 3) := by decide +kernel
theorem dX8_grow_4 : decode cX8_grow 4 = .ok (.iload_n 1, 1) := by decide +kernel
theorem dX8_grow_5 : decode cX8_grow 5 = .ok (.sipush 250, 3) := by decide +kernel
theorem dX8_grow_8 : decode cX8_grow 8 = .ok (.if_icmp .le 5, 3) := by decide +kernel
theorem dX8_grow_11 : decode cX8_grow 11 = .ok (.iconst (-1), 1) := by decide +kernel
theorem dX8_grow_12 : decode cX8_grow 12 = .ok (.ireturn, 1) := by decide +kernel
theorem dX8_grow_13 : decode cX8_grow 13 = .ok (.iconst 0, 1) := by decide +kernel
theorem dX8_grow_14 : decode cX8_grow 14 = .ok (.istore_n 2, 1) := by decide +kernel
theorem dX8_grow_15 : decode cX8_grow 15 = .ok (.aload_n 0, 1) := by decide +kernel
theorem dX8_grow_16 : decode cX8_grow 16 = .ok (.invokevirtual 202, 3) := by decide +kernel
theorem dX8_grow_19 : decode cX8_grow 19 = .ok (.istore_n 3, 1) := by decide +kernel
theorem dX8_grow_20 : decode cX8_grow 20 = .ok (.iload_n 2, 1) := by decide +kernel
theorem dX8_grow_21 : decode cX8_grow 21 = .ok (.iload_n 1, 1) := by decide +kernel
theorem dX8_grow_22 : decode cX8_grow 22 = .ok (.if_icmp .ge 77, 3) := by decide +kernel
theorem dX8_grow_25 : decode cX8_grow 25 = .ok (.iload_n 3, 1) := by decide +kernel
theorem dX8_grow_26 : decode cX8_grow 26 = .ok (.ifCond .le 73, 3) := by decide +kernel
theorem dX8_grow_29 : decode cX8_grow 29 = .ok (.aload_n 0, 1) := by decide +kernel
theorem dX8_grow_30 : decode cX8_grow 30 = .ok (.aload_n 0, 1) := by decide +kernel
theorem dX8_grow_31 : decode cX8_grow 31 = .ok (.getfield 198, 3) := by decide +kernel
theorem dX8_grow_34 : decode cX8_grow 34 = .ok (.ldc2_w 206, 3) := by decide +kernel
theorem dX8_grow_37 : decode cX8_grow 37 = .ok (.lmul, 1) := by decide +kernel
theorem dX8_grow_38 : decode cX8_grow 38 = .ok (.ldc2_w 208, 3) := by decide +kernel
theorem dX8_grow_41 : decode cX8_grow 41 = .ok (.ladd, 1) := by decide +kernel
theorem dX8_grow_42 : decode cX8_grow 42 = .ok (.putfield 198, 3) := by decide +kernel
theorem dX8_grow_45 : decode cX8_grow 45 = .ok (.aload_n 0, 1) := by decide +kernel
theorem dX8_grow_46 : decode cX8_grow 46 = .ok (.aload_n 0, 1) := by decide +kernel
theorem dX8_grow_47 : decode cX8_grow 47 = .ok (.getfield 198, 3) := by decide +kernel
theorem dX8_grow_50 : decode cX8_grow 50 = .ok (.bipush 33, 2) := by decide +kernel
theorem dX8_grow_52 : decode cX8_grow 52 = .ok (.lushr, 1) := by decide +kernel
theorem dX8_grow_53 : decode cX8_grow 53 = .ok (.iload_n 3, 1) := by decide +kernel
theorem dX8_grow_54 : decode cX8_grow 54 = .ok (.i2l, 1) := by decide +kernel
theorem dX8_grow_55 : decode cX8_grow 55 = .ok (.lrem, 1) := by decide +kernel
theorem dX8_grow_56 : decode cX8_grow 56 = .ok (.l2i, 1) := by decide +kernel
theorem dX8_grow_57 : decode cX8_grow 57 = .ok (.invokevirtual 195, 3) := by decide +kernel
theorem dX8_grow_60 : decode cX8_grow 60 = .ok (.istore 4, 2) := by decide +kernel
theorem dX8_grow_62 : decode cX8_grow 62 = .ok (.aload_n 0, 1) := by decide +kernel
theorem dX8_grow_63 : decode cX8_grow 63 = .ok (.iconst 1, 1) := by decide +kernel
theorem dX8_grow_64 : decode cX8_grow 64 = .ok (.iload 4, 2) := by decide +kernel
theorem dX8_grow_66 : decode cX8_grow 66 = .ok (.bipush 64, 2) := by decide +kernel
theorem dX8_grow_68 : decode cX8_grow 68 = .ok (.irem, 1) := by decide +kernel
theorem dX8_grow_69 : decode cX8_grow 69 = .ok (.iload 4, 2) := by decide +kernel
theorem dX8_grow_71 : decode cX8_grow 71 = .ok (.bipush 64, 2) := by decide +kernel
theorem dX8_grow_73 : decode cX8_grow 73 = .ok (.idiv, 1) := by decide +kernel
theorem dX8_grow_74 : decode cX8_grow 74 = .ok (.bipush 16, 2) := by decide +kernel
theorem dX8_grow_76 : decode cX8_grow 76 = .ok (.irem, 1) := by decide +kernel
theorem dX8_grow_77 : decode cX8_grow 77 = .ok (.iload 4, 2) := by decide +kernel
theorem dX8_grow_79 : decode cX8_grow 79 = .ok (.bipush 64, 2) := by decide +kernel
theorem dX8_grow_81 : decode cX8_grow 81 = .ok (.idiv, 1) := by decide +kernel
theorem dX8_grow_82 : decode cX8_grow 82 = .ok (.bipush 16, 2) := by decide +kernel
theorem dX8_grow_84 : decode cX8_grow 84 = .ok (.idiv, 1) := by decide +kernel
theorem dX8_grow_85 : decode cX8_grow 85 = .ok (.invokevirtual 185, 3) := by decide +kernel
theorem dX8_grow_88 : decode cX8_grow 88 = .ok (.iinc 2 1, 3) := by decide +kernel
theorem dX8_grow_91 : decode cX8_grow 91 = .ok (.aload_n 0, 1) := by decide +kernel
theorem dX8_grow_92 : decode cX8_grow 92 = .ok (.invokevirtual 202, 3) := by decide +kernel
theorem dX8_grow_95 : decode cX8_grow 95 = .ok (.istore_n 3, 1) := by decide +kernel
theorem dX8_grow_96 : decode cX8_grow 96 = .ok (.goto (-76), 3) := by decide +kernel
theorem dX8_grow_99 : decode cX8_grow 99 = .ok (.iload_n 2, 1) := by decide +kernel
theorem dX8_grow_100 : decode cX8_grow 100 = .ok (.ireturn, 1) := by decide +kernel
set_option maxRecDepth 20000 in
theorem ggX8_at_X8_isOn : GoodIn wsX8_at wsX8_isOn := goodIn_r _ [5] (by decide +kernel) (by decide +kernel)
set_option maxRecDepth 20000 in
theorem gX8_at_X8_isOn : GoodIn wsX8_at (va_wsS RX8 125 yX8_isOn wsX8_isOn) := goodIn_app (goodIn_of _ (by decide +kernel)) ggX8_at_X8_isOn
theorem dX8_at_0 : decode cX8_at 0 = .ok (.iload_n 1, 1) := by decide +kernel
theorem dX8_at_1 : decode cX8_at 1 = .ok (.iload_n 2, 1) := by decide +kernel
theorem dX8_at_2 : decode cX8_at 2 = .ok (.invokestatic 125, 3) := by decide +kernel
theorem dX8_at_5 : decode cX8_at 5 = .ok (.ifCond .eq 35, 3) := by decide +kernel
theorem dX8_at_8 : decode cX8_at 8 = .ok (.aload_n 0, 1) := by decide +kernel
theorem dX8_at_9 : decode cX8_at 9 = .ok (.getfield 26, 3) := by decide +kernel
theorem dX8_at_12 : decode cX8_at 12 = .ok (.iload_n 1, 1) := by decide +kernel
theorem dX8_at_13 : decode cX8_at 13 = .ok (.bipush 16, 2) := by decide +kernel
theorem dX8_at_15 : decode cX8_at 15 = .ok (.iload_n 2, 1) := by decide +kernel
theorem dX8_at_16 : decode cX8_at 16 = .ok (.imul, 1) := by decide +kernel
theorem dX8_at_17 : decode cX8_at 17 = .ok (.iadd, 1) := by decide +kernel
theorem dX8_at_18 : decode cX8_at 18 = .ok (.iaload, 1) := by decide +kernel
theorem dX8_at_19 : decode cX8_at 19 = .ok (.ifCond .eq 21, 3) := by decide +kernel
theorem dX8_at_22 : decode cX8_at 22 = .ok (.aload_n 0, 1) := by decide +kernel
theorem dX8_at_23 : decode cX8_at 23 = .ok (.getfield 26, 3) := by decide +kernel
theorem dX8_at_26 : decode cX8_at 26 = .ok (.iload_n 1, 1) := by decide +kernel
theorem dX8_at_27 : decode cX8_at 27 = .ok (.bipush 16, 2) := by decide +kernel
theorem dX8_at_29 : decode cX8_at 29 = .ok (.iload_n 2, 1) := by decide +kernel
theorem dX8_at_30 : decode cX8_at 30 = .ok (.imul, 1) := by decide +kernel
theorem dX8_at_31 : decode cX8_at 31 = .ok (.iadd, 1) := by decide +kernel
theorem dX8_at_32 : decode cX8_at 32 = .ok (.iaload, 1) := by decide +kernel
theorem dX8_at_33 : decode cX8_at 33 = .ok (.iconst 1, 1) := by decide +kernel
theorem dX8_at_34 : decode cX8_at 34 = .ok (.isub, 1) := by decide +kernel
theorem dX8_at_35 : decode cX8_at 35 = .ok (.iconst 2, 1) := by decide +kernel
theorem dX8_at_36 : decode cX8_at 36 = .ok (.idiv, 1) := by decide +kernel
theorem dX8_at_37 : decode cX8_at 37 = .ok (.goto 4, 3) := by decide +kernel
theorem dX8_at_40 : decode cX8_at 40 = .ok (.iconst (-1), 1) := by decide +kernel
theorem dX8_at_41 : decode cX8_at 41 = .ok (.ireturn, 1) := by decide +kernel
set_option maxRecDepth 20000 in
theorem ggX8_of_X8_isOn : GoodIn wsX8_of wsX8_isOn := goodIn_r _ [8] (by decide +kernel) (by decide +kernel)
set_option maxRecDepth 20000 in
theorem gX8_of_X8_isOn : GoodIn wsX8_of (va_wsS RX8 125 yX8_isOn wsX8_isOn) := goodIn_app (goodIn_of _ (by decide +kernel)) ggX8_of_X8_isOn
set_option maxRecDepth 20000 in
theorem ggX8_of_X8_holdOf : GoodIn wsX8_of wsX8_holdOf := goodIn_r _ [12, 2, 13, 14, 15, 7, 16, 17, 18, 19, 20, 21, 22, 23, 5, 6, 8, 24, 25, 26, 27, 28, 3, 29, 30, 31, 32, 33, 34, 35, 36, 37, 38, 39, 40, 41, 42, 43, 44, 45, 46, 47, 48, 49, 50, 51, 52, 53, 54, 55, 56, 57, 58, 59, 60, 61, 62, 63, 64, 65, 66] (by decide +kernel) (by decide +kernel)
set_option maxRecDepth 20000 in
theorem gX8_of_X8_holdOf : GoodIn wsX8_of (wsV RX8 143 RX8 yX8_holdOf wsX8_holdOf) := goodIn_app (goodIn_of _ (by decide +kernel)) ggX8_of_X8_holdOf
theorem dX8_of_0 : decode cX8_of 0 = .ok (.iload_n 1, 1) := by decide +kernel
theorem dX8_of_1 : decode cX8_of 1 = .ok (.iload_n 2, 1) := by decide +kernel
theorem dX8_of_2 : decode cX8_of 2 = .ok (.invokestatic 125, 3) := by decide +kernel
theorem dX8_of_5 : decode cX8_of 5 = .ok (.ifCond .eq 17, 3) := by decide +kernel
theorem dX8_of_8 : decode cX8_of 8 = .ok (.aload_n 0, 1) := by decide +kernel
theorem dX8_of_9 : decode cX8_of 9 = .ok (.getfield 26, 3) := by decide +kernel
theorem dX8_of_12 : decode cX8_of 12 = .ok (.iload_n 1, 1) := by decide +kernel
theorem dX8_of_13 : decode cX8_of 13 = .ok (.bipush 16, 2) := by decide +kernel
theorem dX8_of_15 : decode cX8_of 15 = .ok (.iload_n 2, 1) := by decide +kernel
theorem dX8_of_16 : decode cX8_of 16 = .ok (.imul, 1) := by decide +kernel
theorem dX8_of_17 : decode cX8_of 17 = .ok (.iadd, 1) := by decide +kernel
theorem dX8_of_18 : decode cX8_of 18 = .ok (.iaload, 1) := by decide +kernel
theorem dX8_of_19 : decode cX8_of 19 = .ok (.ifCond .ne 5, 3) := by decide +kernel
theorem dX8_of_22 : decode cX8_of 22 = .ok (.iconst (-1), 1) := by decide +kernel
theorem dX8_of_23 : decode cX8_of 23 = .ok (.ireturn, 1) := by decide +kernel
theorem dX8_of_24 : decode cX8_of 24 = .ok (.aload_n 0, 1) := by decide +kernel
theorem dX8_of_25 : decode cX8_of 25 = .ok (.getfield 26, 3) := by decide +kernel
theorem dX8_of_28 : decode cX8_of 28 = .ok (.iload_n 1, 1) := by decide +kernel
theorem dX8_of_29 : decode cX8_of 29 = .ok (.bipush 16, 2) := by decide +kernel
theorem dX8_of_31 : decode cX8_of 31 = .ok (.iload_n 2, 1) := by decide +kernel
theorem dX8_of_32 : decode cX8_of 32 = .ok (.imul, 1) := by decide +kernel
theorem dX8_of_33 : decode cX8_of 33 = .ok (.iadd, 1) := by decide +kernel
theorem dX8_of_34 : decode cX8_of 34 = .ok (.iaload, 1) := by decide +kernel
theorem dX8_of_35 : decode cX8_of 35 = .ok (.iconst 1, 1) := by decide +kernel
theorem dX8_of_36 : decode cX8_of 36 = .ok (.isub, 1) := by decide +kernel
theorem dX8_of_37 : decode cX8_of 37 = .ok (.istore 4, 2) := by decide +kernel
theorem dX8_of_39 : decode cX8_of 39 = .ok (.iload_n 3, 1) := by decide +kernel
theorem dX8_of_40 : decode cX8_of 40 = .ok (.tableswitch 118 0 3 #[32, 55, 85, 106], 32) := by decide +kernel
theorem dX8_of_72 : decode cX8_of 72 = .ok (.iload 4, 2) := by decide +kernel
theorem dX8_of_74 : decode cX8_of 74 = .ok (.iconst 2, 1) := by decide +kernel
theorem dX8_of_75 : decode cX8_of 75 = .ok (.irem, 1) := by decide +kernel
theorem dX8_of_76 : decode cX8_of 76 = .ok (.iconst 1, 1) := by decide +kernel
theorem dX8_of_77 : decode cX8_of 77 = .ok (.if_icmp .ne 8, 3) := by decide +kernel
theorem dX8_of_80 : decode cX8_of 80 = .ok (.bipush 7, 2) := by decide +kernel
theorem dX8_of_82 : decode cX8_of 82 = .ok (.goto 12, 3) := by decide +kernel
theorem dX8_of_85 : decode cX8_of 85 = .ok (.aload_n 0, 1) := by decide +kernel
theorem dX8_of_86 : decode cX8_of 86 = .ok (.getfield 13, 3) := by decide +kernel
theorem dX8_of_89 : decode cX8_of 89 = .ok (.iload 4, 2) := by decide +kernel
theorem dX8_of_91 : decode cX8_of 91 = .ok (.iconst 2, 1) := by decide +kernel
theorem dX8_of_92 : decode cX8_of 92 = .ok (.idiv, 1) := by decide +kernel
theorem dX8_of_93 : decode cX8_of 93 = .ok (.iaload, 1) := by decide +kernel
theorem dX8_of_94 : decode cX8_of 94 = .ok (.ireturn, 1) := by decide +kernel
theorem dX8_of_95 : decode cX8_of 95 = .ok (.aload_n 0, 1) := by decide +kernel
theorem dX8_of_96 : decode cX8_of 96 = .ok (.getfield 13, 3) := by decide +kernel
theorem dX8_of_99 : decode cX8_of 99 = .ok (.iload 4, 2) := by decide +kernel
theorem dX8_of_101 : decode cX8_of 101 = .ok (.iconst 2, 1) := by decide +kernel
theorem dX8_of_102 : decode cX8_of 102 = .ok (.idiv, 1) := by decide +kernel
theorem dX8_of_103 : decode cX8_of 103 = .ok (.iaload, 1) := by decide +kernel
theorem dX8_of_104 : decode cX8_of 104 = .ok (.iconst 5, 1) := by decide +kernel
theorem dX8_of_105 : decode cX8_of 105 = .ok (.if_icmp .ne 18, 3) := by decide +kernel
theorem dX8_of_108 : decode cX8_of 108 = .ok (.aload_n 0, 1) := by decide +kernel
theorem dX8_of_109 : decode cX8_of 109 = .ok (.getfield 16, 3) := by decide +kernel
theorem dX8_of_112 : decode cX8_of 112 = .ok (.iload 4, 2) := by decide +kernel
theorem dX8_of_114 : decode cX8_of 114 = .ok (.iconst 2, 1) := by decide +kernel
theorem dX8_of_115 : decode cX8_of 115 = .ok (.idiv, 1) := by decide +kernel
theorem dX8_of_116 : decode cX8_of 116 = .ok (.iaload, 1) := by decide +kernel
theorem dX8_of_117 : decode cX8_of 117 = .ok (.bipush 16, 2) := by decide +kernel
theorem dX8_of_119 : decode cX8_of 119 = .ok (.idiv, 1) := by decide +kernel
theorem dX8_of_120 : decode cX8_of 120 = .ok (.goto 4, 3) := by decide +kernel
theorem dX8_of_123 : decode cX8_of 123 = .ok (.iconst 0, 1) := by decide +kernel
theorem dX8_of_124 : decode cX8_of 124 = .ok (.ireturn, 1) := by decide +kernel
theorem dX8_of_125 : decode cX8_of 125 = .ok (.aload_n 0, 1) := by decide +kernel
theorem dX8_of_126 : decode cX8_of 126 = .ok (.aload_n 0, 1) := by decide +kernel
theorem dX8_of_127 : decode cX8_of 127 = .ok (.getfield 26, 3) := by decide +kernel
theorem dX8_of_130 : decode cX8_of 130 = .ok (.iconst 0, 1) := by decide +kernel
theorem dX8_of_131 : decode cX8_of 131 = .ok (.iload 4, 2) := by decide +kernel
theorem dX8_of_133 : decode cX8_of 133 = .ok (.iconst 2, 1) := by decide +kernel
theorem dX8_of_134 : decode cX8_of 134 = .ok (.idiv, 1) := by decide +kernel
theorem dX8_of_135 : decode cX8_of 135 = .ok (.iload_n 1, 1) := by decide +kernel
theorem dX8_of_136 : decode cX8_of 136 = .ok (.iload 4, 2) := by decide +kernel
theorem dX8_of_138 : decode cX8_of 138 = .ok (.iconst 2, 1) := by decide +kernel
theorem dX8_of_139 : decode cX8_of 139 = .ok (.irem, 1) := by decide +kernel
theorem dX8_of_140 : decode cX8_of 140 = .ok (.isub, 1) := by decide +kernel
theorem dX8_of_141 : decode cX8_of 141 = .ok (.iload_n 2, 1) := by decide +kernel
theorem dX8_of_142 : decode cX8_of 142 = .ok (.invokevirtual 143, 3) := by decide +kernel
theorem dX8_of_145 : decode cX8_of 145 = .ok (.ireturn, 1) := by decide +kernel
theorem dX8_of_146 : decode cX8_of 146 = .ok (.aload_n 0, 1) := by decide +kernel
theorem dX8_of_147 : decode cX8_of 147 = .ok (.getfield 29, 3) := by decide +kernel
theorem dX8_of_150 : decode cX8_of 150 = .ok (.iload_n 1, 1) := by decide +kernel
theorem dX8_of_151 : decode cX8_of 151 = .ok (.bipush 16, 2) := by decide +kernel
theorem dX8_of_153 : decode cX8_of 153 = .ok (.iload_n 2, 1) := by decide +kernel
theorem dX8_of_154 : decode cX8_of 154 = .ok (.imul, 1) := by decide +kernel
theorem dX8_of_155 : decode cX8_of 155 = .ok (.iadd, 1) := by decide +kernel
theorem dX8_of_156 : decode cX8_of 156 = .ok (.iaload, 1) := by decide +kernel
theorem dX8_of_157 : decode cX8_of 157 = .ok (.ireturn, 1) := by decide +kernel
theorem dX8_of_158 : decode cX8_of 158 = .ok (.iconst (-1), 1) := by decide +kernel
theorem dX8_of_159 : decode cX8_of 159 = .ok (.ireturn, 1) := by decide +kernel
theorem dX8_found_0 : decode cX8_found 0 = .ok (.iconst 0, 1) := by decide +kernel
theorem dX8_found_1 : decode cX8_found 1 = .ok (.istore_n 1, 1) := by decide +kernel
theorem dX8_found_2 : decode cX8_found 2 = .ok (.iload_n 1, 1) := by decide +kernel
theorem dX8_found_3 : decode cX8_found 3 = .ok (.aload_n 0, 1) := by decide +kernel
theorem dX8_found_4 : decode cX8_found 4 = .ok (.getfield 210, 3) := by decide +kernel
theorem dX8_found_7 : decode cX8_found 7 = .ok (.if_icmp .ge 63, 3) := by decide +kernel
theorem dX8_found_10 : decode cX8_found 10 = .ok (.iconst 1, 1) := by decide +kernel
theorem dX8_found_11 : decode cX8_found 11 = .ok (.istore_n 2, 1) := by decide +kernel
theorem dX8_found_12 : decode cX8_found 12 = .ok (.iconst 0, 1) := by decide +kernel
theorem dX8_found_13 : decode cX8_found 13 = .ok (.istore_n 3, 1) := by decide +kernel
theorem dX8_found_14 : decode cX8_found 14 = .ok (.iload_n 3, 1) := by decide +kernel
theorem dX8_found_15 : decode cX8_found 15 = .ok (.sipush 256, 3) := by decide +kernel
theorem dX8_found_18 : decode cX8_found 18 = .ok (.if_icmp .ge 40, 3) := by decide +kernel
theorem dX8_found_21 : decode cX8_found 21 = .ok (.iload_n 2, 1) := by decide +kernel
theorem dX8_found_22 : decode cX8_found 22 = .ok (.ifCond .eq 36, 3) := by decide +kernel
theorem dX8_found_25 : decode cX8_found 25 = .ok (.aload_n 0, 1) := by decide +kernel
theorem dX8_found_26 : decode cX8_found 26 = .ok (.getfield 73, 3) := by decide +kernel
theorem dX8_found_29 : decode cX8_found 29 = .ok (.sipush 256, 3) := by decide +kernel
theorem dX8_found_32 : decode cX8_found 32 = .ok (.iload_n 1, 1) := by decide +kernel
theorem dX8_found_33 : decode cX8_found 33 = .ok (.imul, 1) := by decide +kernel
theorem dX8_found_34 : decode cX8_found 34 = .ok (.iload_n 3, 1) := by decide +kernel
theorem dX8_found_35 : decode cX8_found 35 = .ok (.iadd, 1) := by decide +kernel
theorem dX8_found_36 : decode cX8_found 36 = .ok (.iaload, 1) := by decide +kernel
theorem dX8_found_37 : decode cX8_found 37 = .ok (.aload_n 0, 1) := by decide +kernel
theorem dX8_found_38 : decode cX8_found 38 = .ok (.getfield 83, 3) := by decide +kernel
theorem dX8_found_41 : decode cX8_found 41 = .ok (.iload_n 3, 1) := by decide +kernel
theorem dX8_found_42 : decode cX8_found 42 = .ok (.iaload, 1) := by decide +kernel
theorem dX8_found_43 : decode cX8_found 43 = .ok (.if_icmp .ne 7, 3) := by decide +kernel
theorem dX8_found_46 : decode cX8_found 46 = .ok (.iconst 1, 1) := by decide +kernel
theorem dX8_found_47 : decode cX8_found 47 = .ok (.goto 4, 3) := by decide +kernel
theorem dX8_found_50 : decode cX8_found 50 = .ok (.iconst 0, 1) := by decide +kernel
theorem dX8_found_51 : decode cX8_found 51 = .ok (.istore_n 2, 1) := by decide +kernel
theorem dX8_found_52 : decode cX8_found 52 = .ok (.iinc 3 1, 3) := by decide +kernel
theorem dX8_found_55 : decode cX8_found 55 = .ok (.goto (-41), 3) := by decide +kernel
theorem dX8_found_58 : decode cX8_found 58 = .ok (.iload_n 2, 1) := by decide +kernel
theorem dX8_found_59 : decode cX8_found 59 = .ok (.ifCond .eq 5, 3) := by decide +kernel
theorem dX8_found_62 : decode cX8_found 62 = .ok (.iload_n 1, 1) := by decide +kernel
theorem dX8_found_63 : decode cX8_found 63 = .ok (.ireturn, 1) := by decide +kernel
theorem dX8_found_64 : decode cX8_found 64 = .ok (.iinc 1 1, 3) := by decide +kernel
theorem dX8_found_67 : decode cX8_found 67 = .ok (.goto (-65), 3) := by decide +kernel
theorem dX8_found_70 : decode cX8_found 70 = .ok (.iconst (-1), 1) := by decide +kernel
theorem dX8_found_71 : decode cX8_found 71 = .ok (.ireturn, 1) := by decide +kernel
set_option maxRecDepth 20000 in
theorem ggX8_walk_X8_piecesOn : GoodIn wsX8_walk wsX8_piecesOn := goodIn_r _ [15] (by decide +kernel) (by decide +kernel)
set_option maxRecDepth 20000 in
theorem gX8_walk_X8_piecesOn : GoodIn wsX8_walk (wsV RX8 174 RX8 yX8_piecesOn wsX8_piecesOn) := goodIn_app (goodIn_of _ (by decide +kernel)) ggX8_walk_X8_piecesOn
set_option maxRecDepth 20000 in
theorem ggX8_walk_X8_mayCome : GoodIn wsX8_walk wsX8_mayCome := goodIn_r _ [19, 20, 21, 22, 23, 24, 14, 25, 26, 27, 28, 29, 30, 31, 32, 33, 34, 35, 36, 37, 38, 39, 40, 41, 42, 43, 44, 45, 46, 47, 48, 49, 50, 51, 52, 53, 54, 55, 56, 57, 66, 67, 68, 69, 70, 71, 72, 73, 74, 75, 76, 77, 78, 79, 80, 81, 82, 83, 84, 85, 86, 87, 88, 89, 90, 91, 92, 93, 94, 95, 96, 97, 98, 99, 100, 101, 102, 103] (by decide +kernel) (by decide +kernel)
set_option maxRecDepth 20000 in
theorem gX8_walk_X8_mayCome : GoodIn wsX8_walk (wsV RX8 153 RX8 yX8_mayCome wsX8_mayCome) := goodIn_app (goodIn_of _ (by decide +kernel)) ggX8_walk_X8_mayCome
set_option maxRecDepth 20000 in
theorem ggX8_walk_X8_lay : GoodIn wsX8_walk wsX8_lay := goodIn_r _ [61, 20, 66, 67, 68, 69, 70, 71, 72, 73, 74, 75, 76, 77, 78, 79, 80, 81, 82, 83, 84, 85, 86, 87, 88, 89, 90, 91, 92, 93, 94, 95, 96, 97, 98, 99, 100, 101, 102, 103] (by decide +kernel) (by decide +kernel)
set_option maxRecDepth 20000 in
theorem gX8_walk_X8_lay : GoodIn wsX8_walk (wsV RX8 162 RX8 yX8_lay wsX8_lay) := goodIn_app (goodIn_of _ (by decide +kernel)) ggX8_walk_X8_lay
set_option maxRecDepth 20000 in
theorem ggX8_walk_X8_found : GoodIn wsX8_walk wsX8_found := goodIn_r _ [65, 7, 6, 10, 66, 67, 68, 69, 70, 71, 72, 73, 74, 75, 76, 77, 78, 79, 80, 81, 82, 83, 84, 85, 86, 87, 88, 89, 90, 91, 92, 93, 94, 95, 96, 97, 98, 99, 100, 101, 102, 103] (by decide +kernel) (by decide +kernel)
set_option maxRecDepth 20000 in
theorem gX8_walk_X8_found : GoodIn wsX8_walk (wsV RX8 228 RX8 yX8_found wsX8_found) := goodIn_app (goodIn_of _ (by decide +kernel)) ggX8_walk_X8_found
theorem dX8_walk_0 : decode cX8_walk 0 = .ok (.iload_n 1, 1) := by decide +kernel
theorem dX8_walk_1 : decode cX8_walk 1 = .ok (.iconst 1, 1) := by decide +kernel
theorem dX8_walk_2 : decode cX8_walk 2 = .ok (.if_icmp .lt 31, 3) := by decide +kernel
theorem dX8_walk_5 : decode cX8_walk 5 = .ok (.iload_n 1, 1) := by decide +kernel
theorem dX8_walk_6 : decode cX8_walk 6 = .ok (.bipush 40, 2) := by decide +kernel
theorem dX8_walk_8 : decode cX8_walk 8 = .ok (.if_icmp .gt 25, 3) := by decide +kernel
theorem dX8_walk_11 : decode cX8_walk 11 = .ok (.aload_n 0, 1) := by decide +kernel
theorem dX8_walk_12 : decode cX8_walk 12 = .ok (.aload_n 0, 1) := by decide +kernel
theorem dX8_walk_13 : decode cX8_walk 13 = .ok (.getfield 26, 3) := by decide +kernel
theorem dX8_walk_16 : decode cX8_walk 16 = .ok (.iconst 0, 1) := by decide +kernel
theorem dX8_walk_17 : decode cX8_walk 17 = .ok (.invokevirtual 174, 3) := by decide +kernel
theorem dX8_walk_20 : decode cX8_walk 20 = .ok (.iload_n 1, 1) := by decide +kernel
theorem dX8_walk_21 : decode cX8_walk 21 = .ok (.if_icmp .gt 12, 3) := by decide +kernel
theorem dX8_walk_24 : decode cX8_walk 24 = .ok (.aload_n 0, 1) := by decide +kernel
theorem dX8_walk_25 : decode cX8_walk 25 = .ok (.getfield 213, 3) := by decide +kernel
theorem dX8_walk_28 : decode cX8_walk 28 = .ok (.bipush 60, 2) := by decide +kernel
theorem dX8_walk_30 : decode cX8_walk 30 = .ok (.if_icmp .ne 5, 3) := by decide +kernel
theorem dX8_walk_33 : decode cX8_walk 33 = .ok (.iconst (-1), 1) := by decide +kernel
theorem dX8_walk_34 : decode cX8_walk 34 = .ok (.ireturn, 1) := by decide +kernel
theorem dX8_walk_35 : decode cX8_walk 35 = .ok (.aload_n 0, 1) := by decide +kernel
theorem dX8_walk_36 : decode cX8_walk 36 = .ok (.dup, 1) := by decide +kernel
theorem dX8_walk_37 : decode cX8_walk 37 = .ok (.getfield 213, 3) := by decide +kernel
theorem dX8_walk_40 : decode cX8_walk 40 = .ok (.iconst 1, 1) := by decide +kernel
theorem dX8_walk_41 : decode cX8_walk 41 = .ok (.iadd, 1) := by decide +kernel
theorem dX8_walk_42 : decode cX8_walk 42 = .ok (.putfield 213, 3) := by decide +kernel
theorem dX8_walk_45 : decode cX8_walk 45 = .ok (.aload_n 0, 1) := by decide +kernel
theorem dX8_walk_46 : decode cX8_walk 46 = .ok (.iconst 1, 1) := by decide +kernel
theorem dX8_walk_47 : decode cX8_walk 47 = .ok (.putfield 216, 3) := by decide +kernel
theorem dX8_walk_50 : decode cX8_walk 50 = .ok (.aload_n 0, 1) := by decide +kernel
theorem dX8_walk_51 : decode cX8_walk 51 = .ok (.iconst 0, 1) := by decide +kernel
theorem dX8_walk_52 : decode cX8_walk 52 = .ok (.putfield 219, 3) := by decide +kernel
theorem dX8_walk_55 : decode cX8_walk 55 = .ok (.aload_n 0, 1) := by decide +kernel
theorem dX8_walk_56 : decode cX8_walk 56 = .ok (.iconst 0, 1) := by decide +kernel
theorem dX8_walk_57 : decode cX8_walk 57 = .ok (.putfield 222, 3) := by decide +kernel
theorem dX8_walk_60 : decode cX8_walk 60 = .ok (.iconst 0, 1) := by decide +kernel
theorem dX8_walk_61 : decode cX8_walk 61 = .ok (.istore_n 2, 1) := by decide +kernel
theorem dX8_walk_62 : decode cX8_walk 62 = .ok (.iload_n 2, 1) := by decide +kernel
theorem dX8_walk_63 : decode cX8_walk 63 = .ok (.sipush 256, 3) := by decide +kernel
theorem dX8_walk_66 : decode cX8_walk 66 = .ok (.if_icmp .ge 21, 3) := by decide +kernel
theorem dX8_walk_69 : decode cX8_walk 69 = .ok (.aload_n 0, 1) := by decide +kernel
theorem dX8_walk_70 : decode cX8_walk 70 = .ok (.getfield 73, 3) := by decide +kernel
theorem dX8_walk_73 : decode cX8_walk 73 = .ok (.iload_n 2, 1) := by decide +kernel
theorem dX8_walk_74 : decode cX8_walk 74 = .ok (.aload_n 0, 1) := by decide +kernel
theorem dX8_walk_75 : decode cX8_walk 75 = .ok (.getfield 26, 3) := by decide +kernel
theorem dX8_walk_78 : decode cX8_walk 78 = .ok (.iload_n 2, 1) := by decide +kernel
theorem dX8_walk_79 : decode cX8_walk 79 = .ok (.iaload, 1) := by decide +kernel
theorem dX8_walk_80 : decode cX8_walk 80 = .ok (.iastore, 1) := by decide +kernel
theorem dX8_walk_81 : decode cX8_walk 81 = .ok (.iinc 2 1, 3) := by decide +kernel
theorem dX8_walk_84 : decode cX8_walk 84 = .ok (.goto (-22), 3) := by decide +kernel
theorem dX8_walk_87 : decode cX8_walk 87 = .ok (.aload_n 0, 1) := by decide +kernel
theorem dX8_walk_88 : decode cX8_walk 88 = .ok (.iconst 1, 1) := by decide +kernel
theorem dX8_walk_89 : decode cX8_walk 89 = .ok (.putfield 210, 3) := by decide +kernel
theorem dX8_walk_92 : decode cX8_walk 92 = .ok (.aload_n 0, 1) := by decide +kernel
theorem dX8_walk_93 : decode cX8_walk 93 = .ok (.aload_n 0, 1) := by decide +kernel
theorem dX8_walk_94 : decode cX8_walk 94 = .ok (.aload_n 0, 1) := by decide +kernel
theorem dX8_walk_95 : decode cX8_walk 95 = .ok (.getfield 26, 3) := by decide +kernel
theorem dX8_walk_98 : decode cX8_walk 98 = .ok (.iconst 0, 1) := by decide +kernel
theorem dX8_walk_99 : decode cX8_walk 99 = .ok (.invokevirtual 174, 3) := by decide +kernel
theorem dX8_walk_102 : decode cX8_walk 102 = .ok (.putfield 225, 3) := by decide +kernel
theorem dX8_walk_105 : decode cX8_walk 105 = .ok (.iconst 0, 1) := by decide +kernel
theorem dX8_walk_106 : decode cX8_walk 106 = .ok (.istore_n 2, 1) := by decide +kernel
theorem dX8_walk_107 : decode cX8_walk 107 = .ok (.iload_n 2, 1) := by decide +kernel
theorem dX8_walk_108 : decode cX8_walk 108 = .ok (.aload_n 0, 1) := by decide +kernel
theorem dX8_walk_109 : decode cX8_walk 109 = .ok (.getfield 210, 3) := by decide +kernel
theorem dX8_walk_112 : decode cX8_walk 112 = .ok (.if_icmp .ge 299, 3) := by decide +kernel
theorem dX8_walk_115 : decode cX8_walk 115 = .ok (.sipush 256, 3) := by decide +kernel
theorem dX8_walk_118 : decode cX8_walk 118 = .ok (.iload_n 2, 1) := by decide +kernel
theorem dX8_walk_119 : decode cX8_walk 119 = .ok (.imul, 1) := by decide +kernel
theorem dX8_walk_120 : decode cX8_walk 120 = .ok (.istore_n 3, 1) := by decide +kernel
theorem dX8_walk_121 : decode cX8_walk 121 = .ok (.aload_n 0, 1) := by decide +kernel
theorem dX8_walk_122 : decode cX8_walk 122 = .ok (.aload_n 0, 1) := by decide +kernel
theorem dX8_walk_123 : decode cX8_walk 123 = .ok (.getfield 73, 3) := by decide +kernel
theorem dX8_walk_126 : decode cX8_walk 126 = .ok (.iload_n 3, 1) := by decide +kernel
theorem dX8_walk_127 : decode cX8_walk 127 = .ok (.invokevirtual 174, 3) := by decide +kernel
theorem dX8_walk_130 : decode cX8_walk 130 = .ok (.iload_n 1, 1) := by decide +kernel
theorem dX8_walk_131 : decode cX8_walk 131 = .ok (.if_icmp .ne 7, 3) := by decide +kernel
theorem dX8_walk_134 : decode cX8_walk 134 = .ok (.iconst 1, 1) := by decide +kernel
theorem dX8_walk_135 : decode cX8_walk 135 = .ok (.goto 4, 3) := by decide +kernel
theorem dX8_walk_138 : decode cX8_walk 138 = .ok (.iconst 0, 1) := by decide +kernel
theorem dX8_walk_139 : decode cX8_walk 139 = .ok (.istore 4, 2) := by decide +kernel
theorem dX8_walk_141 : decode cX8_walk 141 = .ok (.iconst 0, 1) := by decide +kernel
theorem dX8_walk_142 : decode cX8_walk 142 = .ok (.istore 5, 2) := by decide +kernel
theorem dX8_walk_144 : decode cX8_walk 144 = .ok (.iconst 0, 1) := by decide +kernel
theorem dX8_walk_145 : decode cX8_walk 145 = .ok (.istore 6, 2) := by decide +kernel
theorem dX8_walk_147 : decode cX8_walk 147 = .ok (.iload 6, 2) := by decide +kernel
theorem dX8_walk_149 : decode cX8_walk 149 = .ok (.sipush 256, 3) := by decide +kernel
theorem dX8_walk_152 : decode cX8_walk 152 = .ok (.if_icmp .ge 220, 3) := by decide +kernel
theorem dX8_walk_155 : decode cX8_walk 155 = .ok (.iload 4, 2) := by decide +kernel
theorem dX8_walk_157 : decode cX8_walk 157 = .ok (.ifCond .eq 8, 3) := by decide +kernel
theorem dX8_walk_160 : decode cX8_walk 160 = .ok (.iload 5, 2) := by decide +kernel
theorem dX8_walk_162 : decode cX8_walk 162 = .ok (.ifCond .ne 210, 3) := by decide +kernel
theorem dX8_walk_165 : decode cX8_walk 165 = .ok (.iconst 0, 1) := by decide +kernel
theorem dX8_walk_166 : decode cX8_walk 166 = .ok (.istore 7, 2) := by decide +kernel
theorem dX8_walk_168 : decode cX8_walk 168 = .ok (.iload 7, 2) := by decide +kernel
theorem dX8_walk_170 : decode cX8_walk 170 = .ok (.aload_n 0, 1) := by decide +kernel
theorem dX8_walk_171 : decode cX8_walk 171 = .ok (.getfield 92, 3) := by decide +kernel
theorem dX8_walk_174 : decode cX8_walk 174 = .ok (.if_icmp .ge 192, 3) := by decide +kernel
theorem dX8_walk_177 : decode cX8_walk 177 = .ok (.aload_n 0, 1) := by decide +kernel
theorem dX8_walk_178 : decode cX8_walk 178 = .ok (.aload_n 0, 1) := by decide +kernel
theorem dX8_walk_179 : decode cX8_walk 179 = .ok (.getfield 73, 3) := by decide +kernel
theorem dX8_walk_182 : decode cX8_walk 182 = .ok (.iload_n 3, 1) := by decide +kernel
theorem dX8_walk_183 : decode cX8_walk 183 = .ok (.iload 7, 2) := by decide +kernel
theorem dX8_walk_185 : decode cX8_walk 185 = .ok (.iload 6, 2) := by decide +kernel
theorem dX8_walk_187 : decode cX8_walk 187 = .ok (.bipush 16, 2) := by decide +kernel
theorem dX8_walk_189 : decode cX8_walk 189 = .ok (.irem, 1) := by decide +kernel
theorem dX8_walk_190 : decode cX8_walk 190 = .ok (.iload 6, 2) := by decide +kernel
theorem dX8_walk_192 : decode cX8_walk 192 = .ok (.bipush 16, 2) := by decide +kernel
theorem dX8_walk_194 : decode cX8_walk 194 = .ok (.idiv, 1) := by decide +kernel
theorem dX8_walk_195 : decode cX8_walk 195 = .ok (.invokevirtual 153, 3) := by decide +kernel
theorem dX8_walk_198 : decode cX8_walk 198 = .ok (.ifCond .ne 6, 3) := by decide +kernel
theorem dX8_walk_201 : decode cX8_walk 201 = .ok (.goto 159, 3) := by decide +kernel
theorem dX8_walk_204 : decode cX8_walk 204 = .ok (.iinc 5 1, 3) := by decide +kernel
theorem dX8_walk_207 : decode cX8_walk 207 = .ok (.iload 4, 2) := by decide +kernel
theorem dX8_walk_209 : decode cX8_walk 209 = .ok (.ifCond .eq 6, 3) := by decide +kernel
theorem dX8_walk_212 : decode cX8_walk 212 = .ok (.goto 148, 3) := by decide +kernel
theorem dX8_walk_215 : decode cX8_walk 215 = .ok (.iconst 0, 1) := by decide +kernel
theorem dX8_walk_216 : decode cX8_walk 216 = .ok (.istore 8, 2) := by decide +kernel
theorem dX8_walk_218 : decode cX8_walk 218 = .ok (.iload 8, 2) := by decide +kernel
theorem dX8_walk_220 : decode cX8_walk 220 = .ok (.sipush 256, 3) := by decide +kernel
theorem dX8_walk_223 : decode cX8_walk 223 = .ok (.if_icmp .ge 25, 3) := by decide +kernel
theorem dX8_walk_226 : decode cX8_walk 226 = .ok (.aload_n 0, 1) := by decide +kernel
theorem dX8_walk_227 : decode cX8_walk 227 = .ok (.getfield 83, 3) := by decide +kernel
theorem dX8_walk_230 : decode cX8_walk 230 = .ok (.iload 8, 2) := by decide +kernel
theorem dX8_walk_232 : decode cX8_walk 232 = .ok (.aload_n 0, 1) := by decide +kernel
theorem dX8_walk_233 : decode cX8_walk 233 = .ok (.getfield 73, 3) := by decide +kernel
theorem dX8_walk_236 : decode cX8_walk 236 = .ok (.iload_n 3, 1) := by decide +kernel
theorem dX8_walk_237 : decode cX8_walk 237 = .ok (.iload 8, 2) := by decide +kernel
theorem dX8_walk_239 : decode cX8_walk 239 = .ok (.iadd, 1) := by decide +kernel
theorem dX8_walk_240 : decode cX8_walk 240 = .ok (.iaload, 1) := by decide +kernel
theorem dX8_walk_241 : decode cX8_walk 241 = .ok (.iastore, 1) := by decide +kernel
theorem dX8_walk_242 : decode cX8_walk 242 = .ok (.iinc 8 1, 3) := by decide +kernel
theorem dX8_walk_245 : decode cX8_walk 245 = .ok (.goto (-27), 3) := by decide +kernel
theorem dX8_walk_248 : decode cX8_walk 248 = .ok (.aload_n 0, 1) := by decide +kernel
theorem dX8_walk_249 : decode cX8_walk 249 = .ok (.aload_n 0, 1) := by decide +kernel
theorem dX8_walk_250 : decode cX8_walk 250 = .ok (.getfield 83, 3) := by decide +kernel
theorem dX8_walk_253 : decode cX8_walk 253 = .ok (.iconst 0, 1) := by decide +kernel
theorem dX8_walk_254 : decode cX8_walk 254 = .ok (.iload 7, 2) := by decide +kernel
theorem dX8_walk_256 : decode cX8_walk 256 = .ok (.iload 6, 2) := by decide +kernel
theorem dX8_walk_258 : decode cX8_walk 258 = .ok (.invokevirtual 162, 3) := by decide +kernel
theorem dX8_walk_261 : decode cX8_walk 261 = .ok (.aload_n 0, 1) := by decide +kernel
theorem dX8_walk_262 : decode cX8_walk 262 = .ok (.invokevirtual 228, 3) := by decide +kernel
theorem dX8_walk_265 : decode cX8_walk 265 = .ok (.ifCond .lt 6, 3) := by decide +kernel
theorem dX8_walk_268 : decode cX8_walk 268 = .ok (.goto 92, 3) := by decide +kernel
theorem dX8_walk_271 : decode cX8_walk 271 = .ok (.aload_n 0, 1) := by decide +kernel
theorem dX8_walk_272 : decode cX8_walk 272 = .ok (.getfield 210, 3) := by decide +kernel
theorem dX8_walk_275 : decode cX8_walk 275 = .ok (.sipush 300, 3) := by decide +kernel
theorem dX8_walk_278 : decode cX8_walk 278 = .ok (.if_icmp .ne 6, 3) := by decide +kernel
theorem dX8_walk_281 : decode cX8_walk 281 = .ok (.bipush (-2), 2) := by decide +kernel
theorem dX8_walk_283 : decode cX8_walk 283 = .ok (.ireturn, 1) := by decide +kernel
theorem dX8_walk_284 : decode cX8_walk 284 = .ok (.iconst 0, 1) := by decide +kernel
theorem dX8_walk_285 : decode cX8_walk 285 = .ok (.istore 8, 2) := by decide +kernel
theorem dX8_walk_287 : decode cX8_walk 287 = .ok (.iload 8, 2) := by decide +kernel
theorem dX8_walk_289 : decode cX8_walk 289 = .ok (.sipush 256, 3) := by decide +kernel
theorem dX8_walk_292 : decode cX8_walk 292 = .ok (.if_icmp .ge 32, 3) := by decide +kernel
theorem dX8_walk_295 : decode cX8_walk 295 = .ok (.aload_n 0, 1) := by decide +kernel
theorem dX8_walk_296 : decode cX8_walk 296 = .ok (.getfield 73, 3) := by decide +kernel
theorem dX8_walk_299 : decode cX8_walk 299 = .ok (.sipush 256, 3) := by decide +kernel
theorem dX8_walk_302 : decode cX8_walk 302 = .ok (.aload_n 0, 1) := by decide +kernel
theorem dX8_walk_303 : decode cX8_walk 303 = .ok (.getfield 210, 3) := by decide +kernel
theorem dX8_walk_306 : decode cX8_walk 306 = .ok (.imul, 1) := by decide +kernel
theorem dX8_walk_307 : decode cX8_walk 307 = .ok (.iload 8, 2) := by decide +kernel
theorem dX8_walk_309 : decode cX8_walk 309 = .ok (.iadd, 1) := by decide +kernel
theorem dX8_walk_310 : decode cX8_walk 310 = .ok (.aload_n 0, 1) := by decide +kernel
theorem dX8_walk_311 : decode cX8_walk 311 = .ok (.getfield 83, 3) := by decide +kernel
theorem dX8_walk_314 : decode cX8_walk 314 = .ok (.iload 8, 2) := by decide +kernel
theorem dX8_walk_316 : decode cX8_walk 316 = .ok (.iaload, 1) := by decide +kernel
theorem dX8_walk_317 : decode cX8_walk 317 = .ok (.iastore, 1) := by decide +kernel
theorem dX8_walk_318 : decode cX8_walk 318 = .ok (.iinc 8 1, 3) := by decide +kernel
theorem dX8_walk_321 : decode cX8_walk 321 = .ok (.goto (-34), 3) := by decide +kernel
theorem dX8_walk_324 : decode cX8_walk 324 = .ok (.aload_n 0, 1) := by decide +kernel
theorem dX8_walk_325 : decode cX8_walk 325 = .ok (.dup, 1) := by decide +kernel
theorem dX8_walk_326 : decode cX8_walk 326 = .ok (.getfield 210, 3) := by decide +kernel
theorem dX8_walk_329 : decode cX8_walk 329 = .ok (.iconst 1, 1) := by decide +kernel
theorem dX8_walk_330 : decode cX8_walk 330 = .ok (.iadd, 1) := by decide +kernel
theorem dX8_walk_331 : decode cX8_walk 331 = .ok (.putfield 210, 3) := by decide +kernel
theorem dX8_walk_334 : decode cX8_walk 334 = .ok (.aload_n 0, 1) := by decide +kernel
theorem dX8_walk_335 : decode cX8_walk 335 = .ok (.aload_n 0, 1) := by decide +kernel
theorem dX8_walk_336 : decode cX8_walk 336 = .ok (.getfield 83, 3) := by decide +kernel
theorem dX8_walk_339 : decode cX8_walk 339 = .ok (.iconst 0, 1) := by decide +kernel
theorem dX8_walk_340 : decode cX8_walk 340 = .ok (.invokevirtual 174, 3) := by decide +kernel
theorem dX8_walk_343 : decode cX8_walk 343 = .ok (.istore 8, 2) := by decide +kernel
theorem dX8_walk_345 : decode cX8_walk 345 = .ok (.iload 8, 2) := by decide +kernel
theorem dX8_walk_347 : decode cX8_walk 347 = .ok (.aload_n 0, 1) := by decide +kernel
theorem dX8_walk_348 : decode cX8_walk 348 = .ok (.getfield 225, 3) := by decide +kernel
theorem dX8_walk_351 : decode cX8_walk 351 = .ok (.if_icmp .le 9, 3) := by decide +kernel
theorem dX8_walk_354 : decode cX8_walk 354 = .ok (.aload_n 0, 1) := by decide +kernel
theorem dX8_walk_355 : decode cX8_walk 355 = .ok (.iload 8, 2) := by decide +kernel
theorem dX8_walk_357 : decode cX8_walk 357 = .ok (.putfield 225, 3) := by decide +kernel
theorem dX8_walk_360 : decode cX8_walk 360 = .ok (.iinc 7 1, 3) := by decide +kernel
theorem dX8_walk_363 : decode cX8_walk 363 = .ok (.goto (-195), 3) := by decide +kernel
theorem dX8_walk_366 : decode cX8_walk 366 = .ok (.iinc 6 1, 3) := by decide +kernel
theorem dX8_walk_369 : decode cX8_walk 369 = .ok (.goto (-222), 3) := by decide +kernel
theorem dX8_walk_372 : decode cX8_walk 372 = .ok (.iload 5, 2) := by decide +kernel
theorem dX8_walk_374 : decode cX8_walk 374 = .ok (.ifCond .ne 16, 3) := by decide +kernel
theorem dX8_walk_377 : decode cX8_walk 377 = .ok (.aload_n 0, 1) := by decide +kernel
theorem dX8_walk_378 : decode cX8_walk 378 = .ok (.dup, 1) := by decide +kernel
theorem dX8_walk_379 : decode cX8_walk 379 = .ok (.getfield 219, 3) := by decide +kernel
theorem dX8_walk_382 : decode cX8_walk 382 = .ok (.iconst 1, 1) := by decide +kernel
theorem dX8_walk_383 : decode cX8_walk 383 = .ok (.iadd, 1) := by decide +kernel
theorem dX8_walk_384 : decode cX8_walk 384 = .ok (.putfield 219, 3) := by decide +kernel
theorem dX8_walk_387 : decode cX8_walk 387 = .ok (.goto 18, 3) := by decide +kernel
theorem dX8_walk_390 : decode cX8_walk 390 = .ok (.iload 4, 2) := by decide +kernel
theorem dX8_walk_392 : decode cX8_walk 392 = .ok (.ifCond .eq 13, 3) := by decide +kernel
theorem dX8_walk_395 : decode cX8_walk 395 = .ok (.aload_n 0, 1) := by decide +kernel
theorem dX8_walk_396 : decode cX8_walk 396 = .ok (.dup, 1) := by decide +kernel
theorem dX8_walk_397 : decode cX8_walk 397 = .ok (.getfield 222, 3) := by decide +kernel
theorem dX8_walk_400 : decode cX8_walk 400 = .ok (.iconst 1, 1) := by decide +kernel
theorem dX8_walk_401 : decode cX8_walk 401 = .ok (.iadd, 1) := by decide +kernel
theorem dX8_walk_402 : decode cX8_walk 402 = .ok (.putfield 222, 3) := by decide +kernel
theorem dX8_walk_405 : decode cX8_walk 405 = .ok (.iinc 2 1, 3) := by decide +kernel
theorem dX8_walk_408 : decode cX8_walk 408 = .ok (.goto (-301), 3) := by decide +kernel
theorem dX8_walk_411 : decode cX8_walk 411 = .ok (.aload_n 0, 1) := by decide +kernel
theorem dX8_walk_412 : decode cX8_walk 412 = .ok (.getfield 210, 3) := by decide +kernel
theorem dX8_walk_415 : decode cX8_walk 415 = .ok (.ireturn, 1) := by decide +kernel
theorem dX8_ways_0 : decode cX8_ways 0 = .ok (.aload_n 0, 1) := by decide +kernel
theorem dX8_ways_1 : decode cX8_ways 1 = .ok (.getfield 216, 3) := by decide +kernel
theorem dX8_ways_4 : decode cX8_ways 4 = .ok (.ifCond .ne 5, 3) := by decide +kernel
theorem dX8_ways_7 : decode cX8_ways 7 = .ok (.iconst (-1), 1) := by decide +kernel
theorem dX8_ways_8 : decode cX8_ways 8 = .ok (.ireturn, 1) := by decide +kernel
theorem dX8_ways_9 : decode cX8_ways 9 = .ok (.iload_n 1, 1) := by decide +kernel
theorem dX8_ways_10 : decode cX8_ways 10 = .ok (.tableswitch 50 0 3 #[30, 35, 40, 45], 30) := by decide +kernel
theorem dX8_ways_40 : decode cX8_ways 40 = .ok (.aload_n 0, 1) := by decide +kernel
theorem dX8_ways_41 : decode cX8_ways 41 = .ok (.getfield 210, 3) := by decide +kernel
theorem dX8_ways_44 : decode cX8_ways 44 = .ok (.ireturn, 1) := by decide +kernel
theorem dX8_ways_45 : decode cX8_ways 45 = .ok (.aload_n 0, 1) := by decide +kernel
theorem dX8_ways_46 : decode cX8_ways 46 = .ok (.getfield 219, 3) := by decide +kernel
theorem dX8_ways_49 : decode cX8_ways 49 = .ok (.ireturn, 1) := by decide +kernel
theorem dX8_ways_50 : decode cX8_ways 50 = .ok (.aload_n 0, 1) := by decide +kernel
theorem dX8_ways_51 : decode cX8_ways 51 = .ok (.getfield 222, 3) := by decide +kernel
theorem dX8_ways_54 : decode cX8_ways 54 = .ok (.ireturn, 1) := by decide +kernel
theorem dX8_ways_55 : decode cX8_ways 55 = .ok (.aload_n 0, 1) := by decide +kernel
theorem dX8_ways_56 : decode cX8_ways 56 = .ok (.getfield 225, 3) := by decide +kernel
theorem dX8_ways_59 : decode cX8_ways 59 = .ok (.ireturn, 1) := by decide +kernel
theorem dX8_ways_60 : decode cX8_ways 60 = .ok (.iconst (-1), 1) := by decide +kernel
theorem dX8_ways_61 : decode cX8_ways 61 = .ok (.ireturn, 1) := by decide +kernel
set_option maxRecDepth 20000 in
theorem ggX8_way_X8_isOn : GoodIn wsX8_way wsX8_isOn := goodIn_r _ [7] (by decide +kernel) (by decide +kernel)
set_option maxRecDepth 20000 in
theorem gX8_way_X8_isOn : GoodIn wsX8_way (va_wsS RX8 125 yX8_isOn wsX8_isOn) := goodIn_app (goodIn_of _ (by decide +kernel)) ggX8_way_X8_isOn
theorem dX8_way_0 : decode cX8_way 0 = .ok (.aload_n 0, 1) := by decide +kernel
theorem dX8_way_1 : decode cX8_way 1 = .ok (.getfield 216, 3) := by decide +kernel
theorem dX8_way_4 : decode cX8_way 4 = .ok (.ifCond .eq 23, 3) := by decide +kernel
theorem dX8_way_7 : decode cX8_way 7 = .ok (.iload_n 1, 1) := by decide +kernel
theorem dX8_way_8 : decode cX8_way 8 = .ok (.ifCond .lt 19, 3) := by decide +kernel
theorem dX8_way_11 : decode cX8_way 11 = .ok (.iload_n 1, 1) := by decide +kernel
theorem dX8_way_12 : decode cX8_way 12 = .ok (.aload_n 0, 1) := by decide +kernel
theorem dX8_way_13 : decode cX8_way 13 = .ok (.getfield 210, 3) := by decide +kernel
theorem dX8_way_16 : decode cX8_way 16 = .ok (.if_icmp .ge 11, 3) := by decide +kernel
theorem dX8_way_19 : decode cX8_way 19 = .ok (.iload_n 2, 1) := by decide +kernel
theorem dX8_way_20 : decode cX8_way 20 = .ok (.iload_n 3, 1) := by decide +kernel
theorem dX8_way_21 : decode cX8_way 21 = .ok (.invokestatic 125, 3) := by decide +kernel
theorem dX8_way_24 : decode cX8_way 24 = .ok (.ifCond .ne 5, 3) := by decide +kernel
theorem dX8_way_27 : decode cX8_way 27 = .ok (.iconst (-1), 1) := by decide +kernel
theorem dX8_way_28 : decode cX8_way 28 = .ok (.ireturn, 1) := by decide +kernel
theorem dX8_way_29 : decode cX8_way 29 = .ok (.aload_n 0, 1) := by decide +kernel
theorem dX8_way_30 : decode cX8_way 30 = .ok (.getfield 73, 3) := by decide +kernel
theorem dX8_way_33 : decode cX8_way 33 = .ok (.sipush 256, 3) := by decide +kernel
theorem dX8_way_36 : decode cX8_way 36 = .ok (.iload_n 1, 1) := by decide +kernel
theorem dX8_way_37 : decode cX8_way 37 = .ok (.imul, 1) := by decide +kernel
theorem dX8_way_38 : decode cX8_way 38 = .ok (.iload_n 2, 1) := by decide +kernel
theorem dX8_way_39 : decode cX8_way 39 = .ok (.iadd, 1) := by decide +kernel
theorem dX8_way_40 : decode cX8_way 40 = .ok (.bipush 16, 2) := by decide +kernel
theorem dX8_way_42 : decode cX8_way 42 = .ok (.iload_n 3, 1) := by decide +kernel
theorem dX8_way_43 : decode cX8_way 43 = .ok (.imul, 1) := by decide +kernel
theorem dX8_way_44 : decode cX8_way 44 = .ok (.iadd, 1) := by decide +kernel
theorem dX8_way_45 : decode cX8_way 45 = .ok (.iaload, 1) := by decide +kernel
theorem dX8_way_46 : decode cX8_way 46 = .ok (.istore 4, 2) := by decide +kernel
theorem dX8_way_48 : decode cX8_way 48 = .ok (.iload 4, 2) := by decide +kernel
theorem dX8_way_50 : decode cX8_way 50 = .ok (.ifCond .ne 7, 3) := by decide +kernel
theorem dX8_way_53 : decode cX8_way 53 = .ok (.iconst (-1), 1) := by decide +kernel
theorem dX8_way_54 : decode cX8_way 54 = .ok (.goto 9, 3) := by decide +kernel
theorem dX8_way_57 : decode cX8_way 57 = .ok (.iload 4, 2) := by decide +kernel
theorem dX8_way_59 : decode cX8_way 59 = .ok (.iconst 1, 1) := by decide +kernel
theorem dX8_way_60 : decode cX8_way 60 = .ok (.isub, 1) := by decide +kernel
theorem dX8_way_61 : decode cX8_way 61 = .ok (.iconst 2, 1) := by decide +kernel
theorem dX8_way_62 : decode cX8_way 62 = .ok (.idiv, 1) := by decide +kernel
theorem dX8_way_63 : decode cX8_way 63 = .ok (.ireturn, 1) := by decide +kernel
theorem dX8_canBeAsked_0 : decode cX8_canBeAsked 0 = .ok (.aload_n 0, 1) := by decide +kernel
theorem dX8_canBeAsked_1 : decode cX8_canBeAsked 1 = .ok (.getfield 181, 3) := by decide +kernel
theorem dX8_canBeAsked_4 : decode cX8_canBeAsked 4 = .ok (.ifCond .ne 14, 3) := by decide +kernel
theorem dX8_canBeAsked_7 : decode cX8_canBeAsked 7 = .ok (.aload_n 0, 1) := by decide +kernel
theorem dX8_canBeAsked_8 : decode cX8_canBeAsked 8 = .ok (.getfield 159, 3) := by decide +kernel
theorem dX8_canBeAsked_11 : decode cX8_canBeAsked 11 = .ok (.aload_n 0, 1) := by decide +kernel
theorem dX8_canBeAsked_12 : decode cX8_canBeAsked 12 = .ok (.getfield 156, 3) := by decide +kernel
theorem dX8_canBeAsked_15 : decode cX8_canBeAsked 15 = .ok (.if_icmp .le 5, 3) := by decide +kernel
theorem dX8_canBeAsked_18 : decode cX8_canBeAsked 18 = .ok (.iconst 0, 1) := by decide +kernel
theorem dX8_canBeAsked_19 : decode cX8_canBeAsked 19 = .ok (.ireturn, 1) := by decide +kernel
theorem dX8_canBeAsked_20 : decode cX8_canBeAsked 20 = .ok (.iconst 0, 1) := by decide +kernel
theorem dX8_canBeAsked_21 : decode cX8_canBeAsked 21 = .ok (.istore_n 1, 1) := by decide +kernel
theorem dX8_canBeAsked_22 : decode cX8_canBeAsked 22 = .ok (.iload_n 1, 1) := by decide +kernel
theorem dX8_canBeAsked_23 : decode cX8_canBeAsked 23 = .ok (.sipush 256, 3) := by decide +kernel
theorem dX8_canBeAsked_26 : decode cX8_canBeAsked 26 = .ok (.if_icmp .ge 75, 3) := by decide +kernel
theorem dX8_canBeAsked_29 : decode cX8_canBeAsked 29 = .ok (.aload_n 0, 1) := by decide +kernel
theorem dX8_canBeAsked_30 : decode cX8_canBeAsked 30 = .ok (.getfield 26, 3) := by decide +kernel
theorem dX8_canBeAsked_33 : decode cX8_canBeAsked 33 = .ok (.iload_n 1, 1) := by decide +kernel
theorem dX8_canBeAsked_34 : decode cX8_canBeAsked 34 = .ok (.iaload, 1) := by decide +kernel
theorem dX8_canBeAsked_35 : decode cX8_canBeAsked 35 = .ok (.ifCond .ne 6, 3) := by decide +kernel
theorem dX8_canBeAsked_38 : decode cX8_canBeAsked 38 = .ok (.goto 57, 3) := by decide +kernel
theorem dX8_canBeAsked_41 : decode cX8_canBeAsked 41 = .ok (.aload_n 0, 1) := by decide +kernel
theorem dX8_canBeAsked_42 : decode cX8_canBeAsked 42 = .ok (.getfield 26, 3) := by decide +kernel
theorem dX8_canBeAsked_45 : decode cX8_canBeAsked 45 = .ok (.iload_n 1, 1) := by decide +kernel
theorem dX8_canBeAsked_46 : decode cX8_canBeAsked 46 = .ok (.iaload, 1) := by decide +kernel
theorem dX8_canBeAsked_47 : decode cX8_canBeAsked 47 = .ok (.iconst 1, 1) := by decide +kernel
theorem dX8_canBeAsked_48 : decode cX8_canBeAsked 48 = .ok (.isub, 1) := by decide +kernel
theorem dX8_canBeAsked_49 : decode cX8_canBeAsked 49 = .ok (.iconst 2, 1) := by decide +kernel
theorem dX8_canBeAsked_50 : decode cX8_canBeAsked 50 = .ok (.idiv, 1) := by decide +kernel
theorem dX8_canBeAsked_51 : decode cX8_canBeAsked 51 = .ok (.istore_n 2, 1) := by decide +kernel
theorem dX8_canBeAsked_52 : decode cX8_canBeAsked 52 = .ok (.aload_n 0, 1) := by decide +kernel
theorem dX8_canBeAsked_53 : decode cX8_canBeAsked 53 = .ok (.getfield 13, 3) := by decide +kernel
theorem dX8_canBeAsked_56 : decode cX8_canBeAsked 56 = .ok (.iload_n 2, 1) := by decide +kernel
theorem dX8_canBeAsked_57 : decode cX8_canBeAsked 57 = .ok (.iaload, 1) := by decide +kernel
theorem dX8_canBeAsked_58 : decode cX8_canBeAsked 58 = .ok (.ifCond .eq 37, 3) := by decide +kernel
theorem dX8_canBeAsked_61 : decode cX8_canBeAsked 61 = .ok (.aload_n 0, 1) := by decide +kernel
theorem dX8_canBeAsked_62 : decode cX8_canBeAsked 62 = .ok (.getfield 13, 3) := by decide +kernel
theorem dX8_canBeAsked_65 : decode cX8_canBeAsked 65 = .ok (.iload_n 2, 1) := by decide +kernel
theorem dX8_canBeAsked_66 : decode cX8_canBeAsked 66 = .ok (.iaload, 1) := by decide +kernel
theorem dX8_canBeAsked_67 : decode cX8_canBeAsked 67 = .ok (.iconst 1, 1) := by decide +kernel
theorem dX8_canBeAsked_68 : decode cX8_canBeAsked 68 = .ok (.if_icmp .eq 27, 3) := by decide +kernel
theorem dX8_canBeAsked_71 : decode cX8_canBeAsked 71 = .ok (.aload_n 0, 1) := by decide +kernel
theorem dX8_canBeAsked_72 : decode cX8_canBeAsked 72 = .ok (.getfield 13, 3) := by decide +kernel
theorem dX8_canBeAsked_75 : decode cX8_canBeAsked 75 = .ok (.iload_n 2, 1) := by decide +kernel
theorem dX8_canBeAsked_76 : decode cX8_canBeAsked 76 = .ok (.iaload, 1) := by decide +kernel
theorem dX8_canBeAsked_77 : decode cX8_canBeAsked 77 = .ok (.iconst 5, 1) := by decide +kernel
theorem dX8_canBeAsked_78 : decode cX8_canBeAsked 78 = .ok (.if_icmp .ne 15, 3) := by decide +kernel
theorem dX8_canBeAsked_81 : decode cX8_canBeAsked 81 = .ok (.aload_n 0, 1) := by decide +kernel
theorem dX8_canBeAsked_82 : decode cX8_canBeAsked 82 = .ok (.getfield 16, 3) := by decide +kernel
theorem dX8_canBeAsked_85 : decode cX8_canBeAsked 85 = .ok (.iload_n 2, 1) := by decide +kernel
theorem dX8_canBeAsked_86 : decode cX8_canBeAsked 86 = .ok (.iaload, 1) := by decide +kernel
theorem dX8_canBeAsked_87 : decode cX8_canBeAsked 87 = .ok (.bipush 16, 2) := by decide +kernel
theorem dX8_canBeAsked_89 : decode cX8_canBeAsked 89 = .ok (.irem, 1) := by decide +kernel
theorem dX8_canBeAsked_90 : decode cX8_canBeAsked 90 = .ok (.ifCond .eq 5, 3) := by decide +kernel
theorem dX8_canBeAsked_93 : decode cX8_canBeAsked 93 = .ok (.iconst 0, 1) := by decide +kernel
theorem dX8_canBeAsked_94 : decode cX8_canBeAsked 94 = .ok (.ireturn, 1) := by decide +kernel
theorem dX8_canBeAsked_95 : decode cX8_canBeAsked 95 = .ok (.iinc 1 1, 3) := by decide +kernel
theorem dX8_canBeAsked_98 : decode cX8_canBeAsked 98 = .ok (.goto (-76), 3) := by decide +kernel
theorem dX8_canBeAsked_101 : decode cX8_canBeAsked 101 = .ok (.iconst 0, 1) := by decide +kernel
theorem dX8_canBeAsked_102 : decode cX8_canBeAsked 102 = .ok (.istore_n 1, 1) := by decide +kernel
theorem dX8_canBeAsked_103 : decode cX8_canBeAsked 103 = .ok (.iload_n 1, 1) := by decide +kernel
theorem dX8_canBeAsked_104 : decode cX8_canBeAsked 104 = .ok (.aload_n 0, 1) := by decide +kernel
theorem dX8_canBeAsked_105 : decode cX8_canBeAsked 105 = .ok (.getfield 156, 3) := by decide +kernel
theorem dX8_canBeAsked_108 : decode cX8_canBeAsked 108 = .ok (.if_icmp .ge 21, 3) := by decide +kernel
theorem dX8_canBeAsked_111 : decode cX8_canBeAsked 111 = .ok (.aload_n 0, 1) := by decide +kernel
theorem dX8_canBeAsked_112 : decode cX8_canBeAsked 112 = .ok (.getfield 57, 3) := by decide +kernel
theorem dX8_canBeAsked_115 : decode cX8_canBeAsked 115 = .ok (.iload_n 1, 1) := by decide +kernel
theorem dX8_canBeAsked_116 : decode cX8_canBeAsked 116 = .ok (.iaload, 1) := by decide +kernel
theorem dX8_canBeAsked_117 : decode cX8_canBeAsked 117 = .ok (.iconst 1, 1) := by decide +kernel
theorem dX8_canBeAsked_118 : decode cX8_canBeAsked 118 = .ok (.if_icmp .le 5, 3) := by decide +kernel
theorem dX8_canBeAsked_121 : decode cX8_canBeAsked 121 = .ok (.iconst 0, 1) := by decide +kernel
theorem dX8_canBeAsked_122 : decode cX8_canBeAsked 122 = .ok (.ireturn, 1) := by decide +kernel
theorem dX8_canBeAsked_123 : decode cX8_canBeAsked 123 = .ok (.iinc 1 1, 3) := by decide +kernel
theorem dX8_canBeAsked_126 : decode cX8_canBeAsked 126 = .ok (.goto (-23), 3) := by decide +kernel
theorem dX8_canBeAsked_129 : decode cX8_canBeAsked 129 = .ok (.iconst 1, 1) := by decide +kernel
theorem dX8_canBeAsked_130 : decode cX8_canBeAsked 130 = .ok (.ireturn, 1) := by decide +kernel
set_option maxRecDepth 20000 in
theorem ggX8_orderly_X8_canBeAsked : GoodIn wsX8_orderly wsX8_canBeAsked := goodIn_r _ [12, 13, 14, 2, 15, 16, 17, 6, 70, 71, 72, 73, 74, 75, 76, 77, 78, 79, 80, 81, 82, 83, 84, 85, 86, 87, 88, 89, 90, 91, 92, 93, 94, 95, 96, 97, 98, 99, 100, 101, 102, 103, 104, 105, 106, 107] (by decide +kernel) (by decide +kernel)
set_option maxRecDepth 20000 in
theorem gX8_orderly_X8_canBeAsked : GoodIn wsX8_orderly (wsV RX8 231 RX8 yX8_canBeAsked wsX8_canBeAsked) := goodIn_app (goodIn_of _ (by decide +kernel)) ggX8_orderly_X8_canBeAsked
set_option maxRecDepth 20000 in
theorem ggX8_orderly_X8_holdAt : GoodIn wsX8_orderly wsX8_holdAt := goodIn_r _ [21, 22, 23, 24, 11, 25, 26, 27, 28, 29, 30, 31, 32, 33, 34, 35, 16, 36, 17, 70, 71, 72, 73, 74, 75, 76, 77, 78, 79, 80, 81, 82, 83, 84, 85, 86, 87, 88, 89, 90, 91, 92, 93, 94, 95, 96, 97, 98, 99, 100, 101, 102, 103, 104, 105, 106, 107] (by decide +kernel) (by decide +kernel)
set_option maxRecDepth 20000 in
theorem gX8_orderly_X8_holdAt : GoodIn wsX8_orderly (wsV RX8 132 RX8 yX8_holdAt wsX8_holdAt) := goodIn_app (goodIn_of _ (by decide +kernel)) ggX8_orderly_X8_holdAt
set_option maxRecDepth 20000 in
theorem ggX8_orderly_X8_holdOf : GoodIn wsX8_orderly wsX8_holdOf := goodIn_r _ [40, 16, 18, 19, 20, 11, 21, 22, 23, 24, 25, 26, 27, 28, 29, 30, 31, 32, 33, 34, 35, 36, 17, 70, 71, 72, 73, 74, 75, 76, 77, 78, 79, 80, 81, 82, 83, 84, 85, 86, 87, 88, 89, 90, 91, 92, 93, 94, 95, 96, 97, 98, 99, 100, 101, 102, 103, 104, 105, 106, 107] (by decide +kernel) (by decide +kernel)
set_option maxRecDepth 20000 in
theorem gX8_orderly_X8_holdOf : GoodIn wsX8_orderly (wsV RX8 143 RX8 yX8_holdOf wsX8_holdOf) := goodIn_app (goodIn_of _ (by decide +kernel)) ggX8_orderly_X8_holdOf
set_option maxRecDepth 20000 in
theorem ggX8_orderly_X8_lay : GoodIn wsX8_orderly wsX8_lay := goodIn_r _ [44, 16, 70, 71, 72, 73, 74, 75, 76, 77, 78, 79, 80, 81, 82, 83, 84, 85, 86, 87, 88, 89, 90, 91, 92, 93, 94, 95, 96, 97, 98, 99, 100, 101, 102, 103, 104, 105, 106, 107] (by decide +kernel) (by decide +kernel)
set_option maxRecDepth 20000 in
theorem gX8_orderly_X8_lay : GoodIn wsX8_orderly (wsV RX8 162 RX8 yX8_lay wsX8_lay) := goodIn_app (goodIn_of _ (by decide +kernel)) ggX8_orderly_X8_lay
set_option maxRecDepth 20000 in
theorem ggX8_orderly_X8_isAlone : GoodIn wsX8_orderly wsX8_isAlone := goodIn_r _ [48, 1, 15, 5, 49, 16, 7, 23, 24, 11, 25, 26, 27, 28, 29, 30, 31, 37, 38, 39, 40, 18, 19, 20, 21, 22, 32, 33, 34, 35, 36, 17, 70, 71, 72, 73, 74, 75, 76, 77, 78, 79, 80, 81, 82, 83, 84, 85, 86, 87, 88, 89, 90, 91, 92, 93, 94, 95, 96, 97, 98, 99, 100, 101, 102, 103, 104, 105, 106, 107] (by decide +kernel) (by decide +kernel)
set_option maxRecDepth 20000 in
theorem gX8_orderly_X8_isAlone : GoodIn wsX8_orderly (wsV RX8 234 RX8 yX8_isAlone wsX8_isAlone) := goodIn_app (goodIn_of _ (by decide +kernel)) ggX8_orderly_X8_isAlone
set_option maxRecDepth 20000 in
theorem ggX8_orderly_X8_choices : GoodIn wsX8_orderly wsX8_choices := goodIn_r _ [53, 49, 15, 54, 55, 56, 11, 57, 16, 7, 58, 59, 60, 61, 29, 30, 31, 37, 38, 39, 40, 18, 19, 20, 21, 22, 23, 24, 25, 26, 27, 28, 32, 33, 34, 35, 36, 17, 62, 63, 64, 65, 66, 67, 68, 69, 70, 71, 72, 73, 74, 75, 76, 77, 78, 79, 80, 81, 82, 83, 84, 85, 86, 87, 88, 89, 90, 91, 92, 93, 94, 95, 96, 97, 98, 99, 100, 101, 102, 103, 104, 105, 106, 107] (by decide +kernel) (by decide +kernel)
set_option maxRecDepth 20000 in
theorem gX8_orderly_X8_choices : GoodIn wsX8_orderly (wsV RX8 202 RX8 yX8_choices wsX8_choices) := goodIn_app (goodIn_of _ (by decide +kernel)) ggX8_orderly_X8_choices
theorem dX8_orderly_0 : decode cX8_orderly 0 = .ok (.aload_n 0, 1) := by decide +kernel
theorem dX8_orderly_1 : decode cX8_orderly 1 = .ok (.invokevirtual 231, 3) := by decide +kernel
theorem dX8_orderly_4 : decode cX8_orderly 4 = .ok (.ifCond .ne 5, 3) := by decide +kernel
theorem dX8_orderly_7 : decode cX8_orderly 7 = .ok (.iconst (-1), 1) := by decide +kernel
theorem dX8_orderly_8 : decode cX8_orderly 8 = .ok (.ireturn, 1) := by decide +kernel
theorem dX8_orderly_9 : decode cX8_orderly 9 = .ok (.iconst 0, 1) := by decide +kernel
theorem dX8_orderly_10 : decode cX8_orderly 10 = .ok (.istore_n 1, 1) := by decide +kernel
theorem dX8_orderly_11 : decode cX8_orderly 11 = .ok (.iload_n 1, 1) := by decide +kernel
theorem dX8_orderly_12 : decode cX8_orderly 12 = .ok (.sipush 256, 3) := by decide +kernel
theorem dX8_orderly_15 : decode cX8_orderly 15 = .ok (.if_icmp .ge 16, 3) := by decide +kernel
theorem dX8_orderly_18 : decode cX8_orderly 18 = .ok (.aload_n 0, 1) := by decide +kernel
theorem dX8_orderly_19 : decode cX8_orderly 19 = .ok (.getfield 89, 3) := by decide +kernel
theorem dX8_orderly_22 : decode cX8_orderly 22 = .ok (.iload_n 1, 1) := by decide +kernel
theorem dX8_orderly_23 : decode cX8_orderly 23 = .ok (.iconst 0, 1) := by decide +kernel
theorem dX8_orderly_24 : decode cX8_orderly 24 = .ok (.iastore, 1) := by decide +kernel
theorem dX8_orderly_25 : decode cX8_orderly 25 = .ok (.iinc 1 1, 3) := by decide +kernel
theorem dX8_orderly_28 : decode cX8_orderly 28 = .ok (.goto (-17), 3) := by decide +kernel
theorem dX8_orderly_31 : decode cX8_orderly 31 = .ok (.iconst 0, 1) := by decide +kernel
theorem dX8_orderly_32 : decode cX8_orderly 32 = .ok (.istore_n 1, 1) := by decide +kernel
theorem dX8_orderly_33 : decode cX8_orderly 33 = .ok (.iload_n 1, 1) := by decide +kernel
theorem dX8_orderly_34 : decode cX8_orderly 34 = .ok (.aload_n 0, 1) := by decide +kernel
theorem dX8_orderly_35 : decode cX8_orderly 35 = .ok (.getfield 156, 3) := by decide +kernel
theorem dX8_orderly_38 : decode cX8_orderly 38 = .ok (.if_icmp .ge 145, 3) := by decide +kernel
theorem dX8_orderly_41 : decode cX8_orderly 41 = .ok (.aload_n 0, 1) := by decide +kernel
theorem dX8_orderly_42 : decode cX8_orderly 42 = .ok (.getfield 63, 3) := by decide +kernel
theorem dX8_orderly_45 : decode cX8_orderly 45 = .ok (.iload_n 1, 1) := by decide +kernel
theorem dX8_orderly_46 : decode cX8_orderly 46 = .ok (.iaload, 1) := by decide +kernel
theorem dX8_orderly_47 : decode cX8_orderly 47 = .ok (.istore_n 2, 1) := by decide +kernel
theorem dX8_orderly_48 : decode cX8_orderly 48 = .ok (.aload_n 0, 1) := by decide +kernel
theorem dX8_orderly_49 : decode cX8_orderly 49 = .ok (.getfield 60, 3) := by decide +kernel
theorem dX8_orderly_52 : decode cX8_orderly 52 = .ok (.iload_n 1, 1) := by decide +kernel
theorem dX8_orderly_53 : decode cX8_orderly 53 = .ok (.iaload, 1) := by decide +kernel
theorem dX8_orderly_54 : decode cX8_orderly 54 = .ok (.istore_n 3, 1) := by decide +kernel
theorem dX8_orderly_55 : decode cX8_orderly 55 = .ok (.aload_n 0, 1) := by decide +kernel
theorem dX8_orderly_56 : decode cX8_orderly 56 = .ok (.getfield 86, 3) := by decide +kernel
theorem dX8_orderly_59 : decode cX8_orderly 59 = .ok (.iload_n 2, 1) := by decide +kernel
theorem dX8_orderly_60 : decode cX8_orderly 60 = .ok (.iconst 0, 1) := by decide +kernel
theorem dX8_orderly_61 : decode cX8_orderly 61 = .ok (.iastore, 1) := by decide +kernel
theorem dX8_orderly_62 : decode cX8_orderly 62 = .ok (.iconst 0, 1) := by decide +kernel
theorem dX8_orderly_63 : decode cX8_orderly 63 = .ok (.istore 4, 2) := by decide +kernel
theorem dX8_orderly_65 : decode cX8_orderly 65 = .ok (.iload 4, 2) := by decide +kernel
theorem dX8_orderly_67 : decode cX8_orderly 67 = .ok (.iconst 4, 1) := by decide +kernel
theorem dX8_orderly_68 : decode cX8_orderly 68 = .ok (.if_icmp .ge 56, 3) := by decide +kernel
theorem dX8_orderly_71 : decode cX8_orderly 71 = .ok (.aload_n 0, 1) := by decide +kernel
theorem dX8_orderly_72 : decode cX8_orderly 72 = .ok (.getfield 57, 3) := by decide +kernel
theorem dX8_orderly_75 : decode cX8_orderly 75 = .ok (.iload_n 1, 1) := by decide +kernel
theorem dX8_orderly_76 : decode cX8_orderly 76 = .ok (.iaload, 1) := by decide +kernel
theorem dX8_orderly_77 : decode cX8_orderly 77 = .ok (.iconst 1, 1) := by decide +kernel
theorem dX8_orderly_78 : decode cX8_orderly 78 = .ok (.if_icmp .ne 46, 3) := by decide +kernel
theorem dX8_orderly_81 : decode cX8_orderly 81 = .ok (.aload_n 0, 1) := by decide +kernel
theorem dX8_orderly_82 : decode cX8_orderly 82 = .ok (.aload_n 0, 1) := by decide +kernel
theorem dX8_orderly_83 : decode cX8_orderly 83 = .ok (.getfield 89, 3) := by decide +kernel
theorem dX8_orderly_86 : decode cX8_orderly 86 = .ok (.iconst 0, 1) := by decide +kernel
theorem dX8_orderly_87 : decode cX8_orderly 87 = .ok (.iload_n 3, 1) := by decide +kernel
theorem dX8_orderly_88 : decode cX8_orderly 88 = .ok (.iconst 0, 1) := by decide +kernel
theorem dX8_orderly_89 : decode cX8_orderly 89 = .ok (.iload_n 2, 1) := by decide +kernel
theorem dX8_orderly_90 : decode cX8_orderly 90 = .ok (.bipush 16, 2) := by decide +kernel
theorem dX8_orderly_92 : decode cX8_orderly 92 = .ok (.irem, 1) := by decide +kernel
theorem dX8_orderly_93 : decode cX8_orderly 93 = .ok (.iload_n 2, 1) := by decide +kernel
theorem dX8_orderly_94 : decode cX8_orderly 94 = .ok (.bipush 16, 2) := by decide +kernel
theorem dX8_orderly_96 : decode cX8_orderly 96 = .ok (.idiv, 1) := by decide +kernel
theorem dX8_orderly_97 : decode cX8_orderly 97 = .ok (.iload 4, 2) := by decide +kernel
theorem dX8_orderly_99 : decode cX8_orderly 99 = .ok (.invokevirtual 132, 3) := by decide +kernel
theorem dX8_orderly_102 : decode cX8_orderly 102 = .ok (.ifCond .le 16, 3) := by decide +kernel
theorem dX8_orderly_105 : decode cX8_orderly 105 = .ok (.aload_n 0, 1) := by decide +kernel
theorem dX8_orderly_106 : decode cX8_orderly 106 = .ok (.getfield 86, 3) := by decide +kernel
theorem dX8_orderly_109 : decode cX8_orderly 109 = .ok (.iload_n 2, 1) := by decide +kernel
theorem dX8_orderly_110 : decode cX8_orderly 110 = .ok (.dup2, 1) := by decide +kernel
theorem dX8_orderly_111 : decode cX8_orderly 111 = .ok (.iaload, 1) := by decide +kernel
theorem dX8_orderly_112 : decode cX8_orderly 112 = .ok (.iconst 1, 1) := by decide +kernel
theorem dX8_orderly_113 : decode cX8_orderly 113 = .ok (.iload 4, 2) := by decide +kernel
theorem dX8_orderly_115 : decode cX8_orderly 115 = .ok (.ishl, 1) := by decide +kernel
theorem dX8_orderly_116 : decode cX8_orderly 116 = .ok (.ior, 1) := by decide +kernel
theorem dX8_orderly_117 : decode cX8_orderly 117 = .ok (.iastore, 1) := by decide +kernel
theorem dX8_orderly_118 : decode cX8_orderly 118 = .ok (.iinc 4 1, 3) := by decide +kernel
theorem dX8_orderly_121 : decode cX8_orderly 121 = .ok (.goto (-56), 3) := by decide +kernel
theorem dX8_orderly_124 : decode cX8_orderly 124 = .ok (.aload_n 0, 1) := by decide +kernel
theorem dX8_orderly_125 : decode cX8_orderly 125 = .ok (.getfield 57, 3) := by decide +kernel
theorem dX8_orderly_128 : decode cX8_orderly 128 = .ok (.iload_n 1, 1) := by decide +kernel
theorem dX8_orderly_129 : decode cX8_orderly 129 = .ok (.iaload, 1) := by decide +kernel
theorem dX8_orderly_130 : decode cX8_orderly 130 = .ok (.iconst 1, 1) := by decide +kernel
theorem dX8_orderly_131 : decode cX8_orderly 131 = .ok (.if_icmp .ne 35, 3) := by decide +kernel
theorem dX8_orderly_134 : decode cX8_orderly 134 = .ok (.aload_n 0, 1) := by decide +kernel
theorem dX8_orderly_135 : decode cX8_orderly 135 = .ok (.aload_n 0, 1) := by decide +kernel
theorem dX8_orderly_136 : decode cX8_orderly 136 = .ok (.getfield 89, 3) := by decide +kernel
theorem dX8_orderly_139 : decode cX8_orderly 139 = .ok (.iconst 0, 1) := by decide +kernel
theorem dX8_orderly_140 : decode cX8_orderly 140 = .ok (.iload_n 3, 1) := by decide +kernel
theorem dX8_orderly_141 : decode cX8_orderly 141 = .ok (.iload_n 2, 1) := by decide +kernel
theorem dX8_orderly_142 : decode cX8_orderly 142 = .ok (.bipush 16, 2) := by decide +kernel
theorem dX8_orderly_144 : decode cX8_orderly 144 = .ok (.irem, 1) := by decide +kernel
theorem dX8_orderly_145 : decode cX8_orderly 145 = .ok (.iload_n 2, 1) := by decide +kernel
theorem dX8_orderly_146 : decode cX8_orderly 146 = .ok (.bipush 16, 2) := by decide +kernel
theorem dX8_orderly_148 : decode cX8_orderly 148 = .ok (.idiv, 1) := by decide +kernel
theorem dX8_orderly_149 : decode cX8_orderly 149 = .ok (.invokevirtual 143, 3) := by decide +kernel
theorem dX8_orderly_152 : decode cX8_orderly 152 = .ok (.aload_n 0, 1) := by decide +kernel
theorem dX8_orderly_153 : decode cX8_orderly 153 = .ok (.getfield 22, 3) := by decide +kernel
theorem dX8_orderly_156 : decode cX8_orderly 156 = .ok (.if_icmp .eq 10, 3) := by decide +kernel
theorem dX8_orderly_159 : decode cX8_orderly 159 = .ok (.bipush (-2), 2) := by decide +kernel
theorem dX8_orderly_161 : decode cX8_orderly 161 = .ok (.iconst 4, 1) := by decide +kernel
theorem dX8_orderly_162 : decode cX8_orderly 162 = .ok (.iload_n 2, 1) := by decide +kernel
theorem dX8_orderly_163 : decode cX8_orderly 163 = .ok (.imul, 1) := by decide +kernel
theorem dX8_orderly_164 : decode cX8_orderly 164 = .ok (.isub, 1) := by decide +kernel
theorem dX8_orderly_165 : decode cX8_orderly 165 = .ok (.ireturn, 1) := by decide +kernel
theorem dX8_orderly_166 : decode cX8_orderly 166 = .ok (.aload_n 0, 1) := by decide +kernel
theorem dX8_orderly_167 : decode cX8_orderly 167 = .ok (.aload_n 0, 1) := by decide +kernel
theorem dX8_orderly_168 : decode cX8_orderly 168 = .ok (.getfield 89, 3) := by decide +kernel
theorem dX8_orderly_171 : decode cX8_orderly 171 = .ok (.iconst 0, 1) := by decide +kernel
theorem dX8_orderly_172 : decode cX8_orderly 172 = .ok (.iload_n 3, 1) := by decide +kernel
theorem dX8_orderly_173 : decode cX8_orderly 173 = .ok (.iload_n 2, 1) := by decide +kernel
theorem dX8_orderly_174 : decode cX8_orderly 174 = .ok (.invokevirtual 162, 3) := by decide +kernel
theorem dX8_orderly_177 : decode cX8_orderly 177 = .ok (.iinc 1 1, 3) := by decide +kernel
theorem dX8_orderly_180 : decode cX8_orderly 180 = .ok (.goto (-147), 3) := by decide +kernel
theorem dX8_orderly_183 : decode cX8_orderly 183 = .ok (.iconst 0, 1) := by decide +kernel
theorem dX8_orderly_184 : decode cX8_orderly 184 = .ok (.istore_n 1, 1) := by decide +kernel
theorem dX8_orderly_185 : decode cX8_orderly 185 = .ok (.iload_n 1, 1) := by decide +kernel
theorem dX8_orderly_186 : decode cX8_orderly 186 = .ok (.aload_n 0, 1) := by decide +kernel
theorem dX8_orderly_187 : decode cX8_orderly 187 = .ok (.getfield 156, 3) := by decide +kernel
theorem dX8_orderly_190 : decode cX8_orderly 190 = .ok (.if_icmp .ge 50, 3) := by decide +kernel
theorem dX8_orderly_193 : decode cX8_orderly 193 = .ok (.aload_n 0, 1) := by decide +kernel
theorem dX8_orderly_194 : decode cX8_orderly 194 = .ok (.getfield 57, 3) := by decide +kernel
theorem dX8_orderly_197 : decode cX8_orderly 197 = .ok (.iload_n 1, 1) := by decide +kernel
theorem dX8_orderly_198 : decode cX8_orderly 198 = .ok (.iaload, 1) := by decide +kernel
theorem dX8_orderly_199 : decode cX8_orderly 199 = .ok (.iconst 1, 1) := by decide +kernel
theorem dX8_orderly_200 : decode cX8_orderly 200 = .ok (.if_icmp .ne 34, 3) := by decide +kernel
theorem dX8_orderly_203 : decode cX8_orderly 203 = .ok (.aload_n 0, 1) := by decide +kernel
theorem dX8_orderly_204 : decode cX8_orderly 204 = .ok (.aload_n 0, 1) := by decide +kernel
theorem dX8_orderly_205 : decode cX8_orderly 205 = .ok (.getfield 63, 3) := by decide +kernel
theorem dX8_orderly_208 : decode cX8_orderly 208 = .ok (.iload_n 1, 1) := by decide +kernel
theorem dX8_orderly_209 : decode cX8_orderly 209 = .ok (.iaload, 1) := by decide +kernel
theorem dX8_orderly_210 : decode cX8_orderly 210 = .ok (.aload_n 0, 1) := by decide +kernel
theorem dX8_orderly_211 : decode cX8_orderly 211 = .ok (.getfield 60, 3) := by decide +kernel
theorem dX8_orderly_214 : decode cX8_orderly 214 = .ok (.iload_n 1, 1) := by decide +kernel
theorem dX8_orderly_215 : decode cX8_orderly 215 = .ok (.iaload, 1) := by decide +kernel
theorem dX8_orderly_216 : decode cX8_orderly 216 = .ok (.invokevirtual 234, 3) := by decide +kernel
theorem dX8_orderly_219 : decode cX8_orderly 219 = .ok (.ifCond .ne 15, 3) := by decide +kernel
theorem dX8_orderly_222 : decode cX8_orderly 222 = .ok (.bipush (-3), 2) := by decide +kernel
theorem dX8_orderly_224 : decode cX8_orderly 224 = .ok (.iconst 4, 1) := by decide +kernel
theorem dX8_orderly_225 : decode cX8_orderly 225 = .ok (.aload_n 0, 1) := by decide +kernel
theorem dX8_orderly_226 : decode cX8_orderly 226 = .ok (.getfield 63, 3) := by decide +kernel
theorem dX8_orderly_229 : decode cX8_orderly 229 = .ok (.iload_n 1, 1) := by decide +kernel
theorem dX8_orderly_230 : decode cX8_orderly 230 = .ok (.iaload, 1) := by decide +kernel
theorem dX8_orderly_231 : decode cX8_orderly 231 = .ok (.imul, 1) := by decide +kernel
theorem dX8_orderly_232 : decode cX8_orderly 232 = .ok (.isub, 1) := by decide +kernel
theorem dX8_orderly_233 : decode cX8_orderly 233 = .ok (.ireturn, 1) := by decide +kernel
theorem dX8_orderly_234 : decode cX8_orderly 234 = .ok (.iinc 1 1, 3) := by decide +kernel
theorem dX8_orderly_237 : decode cX8_orderly 237 = .ok (.goto (-52), 3) := by decide +kernel
theorem dX8_orderly_240 : decode cX8_orderly 240 = .ok (.aload_n 0, 1) := by decide +kernel
theorem dX8_orderly_241 : decode cX8_orderly 241 = .ok (.invokevirtual 202, 3) := by decide +kernel
theorem dX8_orderly_244 : decode cX8_orderly 244 = .ok (.ifCond .ne 7, 3) := by decide +kernel
theorem dX8_orderly_247 : decode cX8_orderly 247 = .ok (.iconst 1, 1) := by decide +kernel
theorem dX8_orderly_248 : decode cX8_orderly 248 = .ok (.goto 5, 3) := by decide +kernel
theorem dX8_orderly_251 : decode cX8_orderly 251 = .ok (.bipush (-4), 2) := by decide +kernel
theorem dX8_orderly_253 : decode cX8_orderly 253 = .ok (.ireturn, 1) := by decide +kernel
set_option maxRecDepth 20000 in
theorem ggX8_isAlone_X8_xAt : GoodIn wsX8_isAlone wsX8_xAt := goodIn_r _ [10] (by decide +kernel) (by decide +kernel)
set_option maxRecDepth 20000 in
theorem gX8_isAlone_X8_xAt : GoodIn wsX8_isAlone (va_wsS RX8 118 yX8_xAt wsX8_xAt) := goodIn_app (goodIn_of _ (by decide +kernel)) ggX8_isAlone_X8_xAt
set_option maxRecDepth 20000 in
theorem ggX8_isAlone_X8_yAt : GoodIn wsX8_isAlone wsX8_yAt := goodIn_r _ [13] (by decide +kernel) (by decide +kernel)
set_option maxRecDepth 20000 in
theorem gX8_isAlone_X8_yAt : GoodIn wsX8_isAlone (va_wsS RX8 122 yX8_yAt wsX8_yAt) := goodIn_app (goodIn_of _ (by decide +kernel)) ggX8_isAlone_X8_yAt
set_option maxRecDepth 20000 in
theorem ggX8_isAlone_X8_isOn : GoodIn wsX8_isAlone wsX8_isOn := goodIn_r _ [16] (by decide +kernel) (by decide +kernel)
set_option maxRecDepth 20000 in
theorem gX8_isAlone_X8_isOn : GoodIn wsX8_isAlone (va_wsS RX8 125 yX8_isOn wsX8_isOn) := goodIn_app (goodIn_of _ (by decide +kernel)) ggX8_isAlone_X8_isOn
set_option maxRecDepth 20000 in
theorem ggX8_isAlone_X8_holdOf : GoodIn wsX8_isAlone wsX8_holdOf := goodIn_r _ [20, 5, 21, 22, 23, 9, 24, 25, 7, 8, 10, 11, 12, 13, 14, 15, 16, 26, 27, 28, 29, 30, 31, 32, 33, 34, 35, 36, 37, 38, 39, 40, 41, 42, 43, 44, 45, 46, 47, 48, 49, 50, 51, 52, 53, 54, 55, 56, 57, 58, 59, 60, 61, 62, 63, 64, 65, 66, 67, 68, 69] (by decide +kernel) (by decide +kernel)
set_option maxRecDepth 20000 in
theorem gX8_isAlone_X8_holdOf : GoodIn wsX8_isAlone (wsV RX8 143 RX8 yX8_holdOf wsX8_holdOf) := goodIn_app (goodIn_of _ (by decide +kernel)) ggX8_isAlone_X8_holdOf
theorem dX8_isAlone_0 : decode cX8_isAlone 0 = .ok (.iload_n 1, 1) := by decide +kernel
theorem dX8_isAlone_1 : decode cX8_isAlone 1 = .ok (.bipush 16, 2) := by decide +kernel
theorem dX8_isAlone_3 : decode cX8_isAlone 3 = .ok (.irem, 1) := by decide +kernel
theorem dX8_isAlone_4 : decode cX8_isAlone 4 = .ok (.istore_n 3, 1) := by decide +kernel
theorem dX8_isAlone_5 : decode cX8_isAlone 5 = .ok (.iload_n 1, 1) := by decide +kernel
theorem dX8_isAlone_6 : decode cX8_isAlone 6 = .ok (.bipush 16, 2) := by decide +kernel
theorem dX8_isAlone_8 : decode cX8_isAlone 8 = .ok (.idiv, 1) := by decide +kernel
theorem dX8_isAlone_9 : decode cX8_isAlone 9 = .ok (.istore 4, 2) := by decide +kernel
theorem dX8_isAlone_11 : decode cX8_isAlone 11 = .ok (.iconst 0, 1) := by decide +kernel
theorem dX8_isAlone_12 : decode cX8_isAlone 12 = .ok (.istore 5, 2) := by decide +kernel
theorem dX8_isAlone_14 : decode cX8_isAlone 14 = .ok (.iload 5, 2) := by decide +kernel
theorem dX8_isAlone_16 : decode cX8_isAlone 16 = .ok (.sipush 256, 3) := by decide +kernel
theorem dX8_isAlone_19 : decode cX8_isAlone 19 = .ok (.if_icmp .ge 23, 3) := by decide +kernel
theorem dX8_isAlone_22 : decode cX8_isAlone 22 = .ok (.aload_n 0, 1) := by decide +kernel
theorem dX8_isAlone_23 : decode cX8_isAlone 23 = .ok (.getfield 89, 3) := by decide +kernel
theorem dX8_isAlone_26 : decode cX8_isAlone 26 = .ok (.iload 5, 2) := by decide +kernel
theorem dX8_isAlone_28 : decode cX8_isAlone 28 = .ok (.aload_n 0, 1) := by decide +kernel
theorem dX8_isAlone_29 : decode cX8_isAlone 29 = .ok (.getfield 26, 3) := by decide +kernel
theorem dX8_isAlone_32 : decode cX8_isAlone 32 = .ok (.iload 5, 2) := by decide +kernel
theorem dX8_isAlone_34 : decode cX8_isAlone 34 = .ok (.iaload, 1) := by decide +kernel
theorem dX8_isAlone_35 : decode cX8_isAlone 35 = .ok (.iastore, 1) := by decide +kernel
theorem dX8_isAlone_36 : decode cX8_isAlone 36 = .ok (.iinc 5 1, 3) := by decide +kernel
theorem dX8_isAlone_39 : decode cX8_isAlone 39 = .ok (.goto (-25), 3) := by decide +kernel
theorem dX8_isAlone_42 : decode cX8_isAlone 42 = .ok (.aload_n 0, 1) := by decide +kernel
theorem dX8_isAlone_43 : decode cX8_isAlone 43 = .ok (.getfield 89, 3) := by decide +kernel
theorem dX8_isAlone_46 : decode cX8_isAlone 46 = .ok (.iload_n 1, 1) := by decide +kernel
theorem dX8_isAlone_47 : decode cX8_isAlone 47 = .ok (.iconst 0, 1) := by decide +kernel
theorem dX8_isAlone_48 : decode cX8_isAlone 48 = .ok (.iastore, 1) := by decide +kernel
theorem dX8_isAlone_49 : decode cX8_isAlone 49 = .ok (.iconst 0, 1) := by decide +kernel
theorem dX8_isAlone_50 : decode cX8_isAlone 50 = .ok (.istore 5, 2) := by decide +kernel
theorem dX8_isAlone_52 : decode cX8_isAlone 52 = .ok (.iload 5, 2) := by decide +kernel
theorem dX8_isAlone_54 : decode cX8_isAlone 54 = .ok (.iconst 4, 1) := by decide +kernel
theorem dX8_isAlone_55 : decode cX8_isAlone 55 = .ok (.if_icmp .ge 94, 3) := by decide +kernel
theorem dX8_isAlone_58 : decode cX8_isAlone 58 = .ok (.iload_n 3, 1) := by decide +kernel
theorem dX8_isAlone_59 : decode cX8_isAlone 59 = .ok (.iload 5, 2) := by decide +kernel
theorem dX8_isAlone_61 : decode cX8_isAlone 61 = .ok (.invokestatic 118, 3) := by decide +kernel
theorem dX8_isAlone_64 : decode cX8_isAlone 64 = .ok (.iadd, 1) := by decide +kernel
theorem dX8_isAlone_65 : decode cX8_isAlone 65 = .ok (.istore 6, 2) := by decide +kernel
theorem dX8_isAlone_67 : decode cX8_isAlone 67 = .ok (.iload 4, 2) := by decide +kernel
theorem dX8_isAlone_69 : decode cX8_isAlone 69 = .ok (.iload 5, 2) := by decide +kernel
theorem dX8_isAlone_71 : decode cX8_isAlone 71 = .ok (.invokestatic 122, 3) := by decide +kernel
theorem dX8_isAlone_74 : decode cX8_isAlone 74 = .ok (.iadd, 1) := by decide +kernel
theorem dX8_isAlone_75 : decode cX8_isAlone 75 = .ok (.istore 7, 2) := by decide +kernel
theorem dX8_isAlone_77 : decode cX8_isAlone 77 = .ok (.iload 6, 2) := by decide +kernel
theorem dX8_isAlone_79 : decode cX8_isAlone 79 = .ok (.iload 7, 2) := by decide +kernel
theorem dX8_isAlone_81 : decode cX8_isAlone 81 = .ok (.invokestatic 125, 3) := by decide +kernel
theorem dX8_isAlone_84 : decode cX8_isAlone 84 = .ok (.ifCond .eq 59, 3) := by decide +kernel
theorem dX8_isAlone_87 : decode cX8_isAlone 87 = .ok (.aload_n 0, 1) := by decide +kernel
theorem dX8_isAlone_88 : decode cX8_isAlone 88 = .ok (.getfield 26, 3) := by decide +kernel
theorem dX8_isAlone_91 : decode cX8_isAlone 91 = .ok (.iload 6, 2) := by decide +kernel
theorem dX8_isAlone_93 : decode cX8_isAlone 93 = .ok (.bipush 16, 2) := by decide +kernel
theorem dX8_isAlone_95 : decode cX8_isAlone 95 = .ok (.iload 7, 2) := by decide +kernel
theorem dX8_isAlone_97 : decode cX8_isAlone 97 = .ok (.imul, 1) := by decide +kernel
theorem dX8_isAlone_98 : decode cX8_isAlone 98 = .ok (.iadd, 1) := by decide +kernel
theorem dX8_isAlone_99 : decode cX8_isAlone 99 = .ok (.iaload, 1) := by decide +kernel
theorem dX8_isAlone_100 : decode cX8_isAlone 100 = .ok (.ifCond .eq 43, 3) := by decide +kernel
theorem dX8_isAlone_103 : decode cX8_isAlone 103 = .ok (.aload_n 0, 1) := by decide +kernel
theorem dX8_isAlone_104 : decode cX8_isAlone 104 = .ok (.getfield 86, 3) := by decide +kernel
theorem dX8_isAlone_107 : decode cX8_isAlone 107 = .ok (.iload 6, 2) := by decide +kernel
theorem dX8_isAlone_109 : decode cX8_isAlone 109 = .ok (.bipush 16, 2) := by decide +kernel
theorem dX8_isAlone_111 : decode cX8_isAlone 111 = .ok (.iload 7, 2) := by decide +kernel
theorem dX8_isAlone_113 : decode cX8_isAlone 113 = .ok (.imul, 1) := by decide +kernel
theorem dX8_isAlone_114 : decode cX8_isAlone 114 = .ok (.iadd, 1) := by decide +kernel
theorem dX8_isAlone_115 : decode cX8_isAlone 115 = .ok (.iaload, 1) := by decide +kernel
theorem dX8_isAlone_116 : decode cX8_isAlone 116 = .ok (.iload 5, 2) := by decide +kernel
theorem dX8_isAlone_118 : decode cX8_isAlone 118 = .ok (.iconst 2, 1) := by decide +kernel
theorem dX8_isAlone_119 : decode cX8_isAlone 119 = .ok (.iadd, 1) := by decide +kernel
theorem dX8_isAlone_120 : decode cX8_isAlone 120 = .ok (.iconst 4, 1) := by decide +kernel
theorem dX8_isAlone_121 : decode cX8_isAlone 121 = .ok (.irem, 1) := by decide +kernel
theorem dX8_isAlone_122 : decode cX8_isAlone 122 = .ok (.ishr, 1) := by decide +kernel
theorem dX8_isAlone_123 : decode cX8_isAlone 123 = .ok (.iconst 1, 1) := by decide +kernel
theorem dX8_isAlone_124 : decode cX8_isAlone 124 = .ok (.iand, 1) := by decide +kernel
theorem dX8_isAlone_125 : decode cX8_isAlone 125 = .ok (.iconst 1, 1) := by decide +kernel
theorem dX8_isAlone_126 : decode cX8_isAlone 126 = .ok (.if_icmp .ne 17, 3) := by decide +kernel
theorem dX8_isAlone_129 : decode cX8_isAlone 129 = .ok (.aload_n 0, 1) := by decide +kernel
theorem dX8_isAlone_130 : decode cX8_isAlone 130 = .ok (.getfield 89, 3) := by decide +kernel
theorem dX8_isAlone_133 : decode cX8_isAlone 133 = .ok (.iload 6, 2) := by decide +kernel
theorem dX8_isAlone_135 : decode cX8_isAlone 135 = .ok (.bipush 16, 2) := by decide +kernel
theorem dX8_isAlone_137 : decode cX8_isAlone 137 = .ok (.iload 7, 2) := by decide +kernel
theorem dX8_isAlone_139 : decode cX8_isAlone 139 = .ok (.imul, 1) := by decide +kernel
theorem dX8_isAlone_140 : decode cX8_isAlone 140 = .ok (.iadd, 1) := by decide +kernel
theorem dX8_isAlone_141 : decode cX8_isAlone 141 = .ok (.iconst 0, 1) := by decide +kernel
theorem dX8_isAlone_142 : decode cX8_isAlone 142 = .ok (.iastore, 1) := by decide +kernel
theorem dX8_isAlone_143 : decode cX8_isAlone 143 = .ok (.iinc 5 1, 3) := by decide +kernel
theorem dX8_isAlone_146 : decode cX8_isAlone 146 = .ok (.goto (-94), 3) := by decide +kernel
theorem dX8_isAlone_149 : decode cX8_isAlone 149 = .ok (.iconst 0, 1) := by decide +kernel
theorem dX8_isAlone_150 : decode cX8_isAlone 150 = .ok (.istore 5, 2) := by decide +kernel
theorem dX8_isAlone_152 : decode cX8_isAlone 152 = .ok (.iload 5, 2) := by decide +kernel
theorem dX8_isAlone_154 : decode cX8_isAlone 154 = .ok (.aload_n 0, 1) := by decide +kernel
theorem dX8_isAlone_155 : decode cX8_isAlone 155 = .ok (.getfield 92, 3) := by decide +kernel
theorem dX8_isAlone_158 : decode cX8_isAlone 158 = .ok (.if_icmp .ge 82, 3) := by decide +kernel
theorem dX8_isAlone_161 : decode cX8_isAlone 161 = .ok (.iload 5, 2) := by decide +kernel
theorem dX8_isAlone_163 : decode cX8_isAlone 163 = .ok (.iload_n 2, 1) := by decide +kernel
theorem dX8_isAlone_164 : decode cX8_isAlone 164 = .ok (.if_icmp .eq 39, 3) := by decide +kernel
theorem dX8_isAlone_167 : decode cX8_isAlone 167 = .ok (.aload_n 0, 1) := by decide +kernel
theorem dX8_isAlone_168 : decode cX8_isAlone 168 = .ok (.getfield 13, 3) := by decide +kernel
theorem dX8_isAlone_171 : decode cX8_isAlone 171 = .ok (.iload 5, 2) := by decide +kernel
theorem dX8_isAlone_173 : decode cX8_isAlone 173 = .ok (.iaload, 1) := by decide +kernel
theorem dX8_isAlone_174 : decode cX8_isAlone 174 = .ok (.ifCond .eq 25, 3) := by decide +kernel
theorem dX8_isAlone_177 : decode cX8_isAlone 177 = .ok (.aload_n 0, 1) := by decide +kernel
theorem dX8_isAlone_178 : decode cX8_isAlone 178 = .ok (.getfield 13, 3) := by decide +kernel
theorem dX8_isAlone_181 : decode cX8_isAlone 181 = .ok (.iload 5, 2) := by decide +kernel
theorem dX8_isAlone_183 : decode cX8_isAlone 183 = .ok (.iaload, 1) := by decide +kernel
theorem dX8_isAlone_184 : decode cX8_isAlone 184 = .ok (.iconst 3, 1) := by decide +kernel
theorem dX8_isAlone_185 : decode cX8_isAlone 185 = .ok (.if_icmp .eq 14, 3) := by decide +kernel
theorem dX8_isAlone_188 : decode cX8_isAlone 188 = .ok (.aload_n 0, 1) := by decide +kernel
theorem dX8_isAlone_189 : decode cX8_isAlone 189 = .ok (.getfield 13, 3) := by decide +kernel
theorem dX8_isAlone_192 : decode cX8_isAlone 192 = .ok (.iload 5, 2) := by decide +kernel
theorem dX8_isAlone_194 : decode cX8_isAlone 194 = .ok (.iaload, 1) := by decide +kernel
theorem dX8_isAlone_195 : decode cX8_isAlone 195 = .ok (.iconst 5, 1) := by decide +kernel
theorem dX8_isAlone_196 : decode cX8_isAlone 196 = .ok (.if_icmp .ne 7, 3) := by decide +kernel
theorem dX8_isAlone_199 : decode cX8_isAlone 199 = .ok (.iconst 1, 1) := by decide +kernel
theorem dX8_isAlone_200 : decode cX8_isAlone 200 = .ok (.goto 4, 3) := by decide +kernel
theorem dX8_isAlone_203 : decode cX8_isAlone 203 = .ok (.iconst 0, 1) := by decide +kernel
theorem dX8_isAlone_204 : decode cX8_isAlone 204 = .ok (.istore 6, 2) := by decide +kernel
theorem dX8_isAlone_206 : decode cX8_isAlone 206 = .ok (.iload 6, 2) := by decide +kernel
theorem dX8_isAlone_208 : decode cX8_isAlone 208 = .ok (.ifCond .eq 26, 3) := by decide +kernel
theorem dX8_isAlone_211 : decode cX8_isAlone 211 = .ok (.aload_n 0, 1) := by decide +kernel
theorem dX8_isAlone_212 : decode cX8_isAlone 212 = .ok (.aload_n 0, 1) := by decide +kernel
theorem dX8_isAlone_213 : decode cX8_isAlone 213 = .ok (.getfield 89, 3) := by decide +kernel
theorem dX8_isAlone_216 : decode cX8_isAlone 216 = .ok (.iconst 0, 1) := by decide +kernel
theorem dX8_isAlone_217 : decode cX8_isAlone 217 = .ok (.iload 5, 2) := by decide +kernel
theorem dX8_isAlone_219 : decode cX8_isAlone 219 = .ok (.iload_n 3, 1) := by decide +kernel
theorem dX8_isAlone_220 : decode cX8_isAlone 220 = .ok (.iload 4, 2) := by decide +kernel
theorem dX8_isAlone_222 : decode cX8_isAlone 222 = .ok (.invokevirtual 143, 3) := by decide +kernel
theorem dX8_isAlone_225 : decode cX8_isAlone 225 = .ok (.aload_n 0, 1) := by decide +kernel
theorem dX8_isAlone_226 : decode cX8_isAlone 226 = .ok (.getfield 22, 3) := by decide +kernel
theorem dX8_isAlone_229 : decode cX8_isAlone 229 = .ok (.if_icmp .lt 5, 3) := by decide +kernel
theorem dX8_isAlone_232 : decode cX8_isAlone 232 = .ok (.iconst 0, 1) := by decide +kernel
theorem dX8_isAlone_233 : decode cX8_isAlone 233 = .ok (.ireturn, 1) := by decide +kernel
theorem dX8_isAlone_234 : decode cX8_isAlone 234 = .ok (.iinc 5 1, 3) := by decide +kernel
theorem dX8_isAlone_237 : decode cX8_isAlone 237 = .ok (.goto (-85), 3) := by decide +kernel
theorem dX8_isAlone_240 : decode cX8_isAlone 240 = .ok (.iconst 1, 1) := by decide +kernel
theorem dX8_isAlone_241 : decode cX8_isAlone 241 = .ok (.ireturn, 1) := by decide +kernel
set_option maxRecDepth 20000 in
theorem ggX8_rule_X8_clear : GoodIn wsX8_rule wsX8_clear := goodIn_r _ [8, 9, 10, 11, 12, 13, 14, 7, 15, 16, 17, 18, 19, 20, 21, 70, 71, 72, 73, 74, 75, 76, 77, 78, 79, 80, 81, 82, 83, 84, 85, 86, 87, 88, 89, 90, 91, 92, 93, 94, 95, 96, 97, 98, 99, 100, 101, 102, 103, 104, 105, 106, 107] (by decide +kernel) (by decide +kernel)
set_option maxRecDepth 20000 in
theorem gX8_rule_X8_clear : GoodIn wsX8_rule (wsV RX8 237 RX8 yX8_clear wsX8_clear) := goodIn_app (goodIn_of _ (by decide +kernel)) ggX8_rule_X8_clear
set_option maxRecDepth 20000 in
theorem ggX8_rule_X8_piece : GoodIn wsX8_rule wsX8_piece := goodIn_r _ [25, 1, 26, 27, 28, 29, 30, 7, 31, 32, 33, 34, 70, 71, 72, 73, 74, 75, 76, 77, 78, 79, 80, 81, 82, 83, 84, 85, 86, 87, 88, 89, 90, 91, 92, 93, 94, 95, 96, 97, 98, 99, 100, 101, 102, 103, 104, 105, 106, 107] (by decide +kernel) (by decide +kernel)
set_option maxRecDepth 20000 in
theorem gX8_rule_X8_piece : GoodIn wsX8_rule (wsV RX8 114 RX8 yX8_piece wsX8_piece) := goodIn_app (goodIn_of _ (by decide +kernel)) ggX8_rule_X8_piece
set_option maxRecDepth 20000 in
theorem ggX8_rule_X8_seed : GoodIn wsX8_rule wsX8_seed := goodIn_r _ [38, 26, 9, 39, 40, 41, 7, 42, 1, 43, 44, 45, 46, 47, 48, 49, 50, 51, 52, 53, 20, 54, 55, 56, 57, 58, 59, 60, 61, 10, 62, 63, 64, 65, 21, 66, 67, 68, 69, 70, 71, 72, 73, 74, 75, 76, 77, 78, 79, 80, 81, 82, 83, 84, 85, 86, 87, 88, 89, 90, 91, 92, 93, 94, 95, 96, 97, 98, 99, 100, 101, 102, 103, 104, 105, 106, 107] (by decide +kernel) (by decide +kernel)
set_option maxRecDepth 20000 in
theorem gX8_rule_X8_seed : GoodIn wsX8_rule (wsV RX8 240 RX8 yX8_seed wsX8_seed) := goodIn_app (goodIn_of _ (by decide +kernel)) ggX8_rule_X8_seed
theorem dX8_rule_0 : decode cX8_rule 0 = .ok (.iload_n 1, 1) := by decide +kernel
theorem dX8_rule_1 : decode cX8_rule 1 = .ok (.ifCond .lt 43, 3) := by decide +kernel
theorem dX8_rule_4 : decode cX8_rule 4 = .ok (.iload_n 1, 1) := by decide +kernel
theorem dX8_rule_5 : decode cX8_rule 5 = .ok (.bipush 15, 2) := by decide +kernel
theorem dX8_rule_7 : decode cX8_rule 7 = .ok (.if_icmp .gt 37, 3) := by decide +kernel
theorem dX8_rule_10 : decode cX8_rule 10 = .ok (.iload_n 2, 1) := by decide +kernel
theorem dX8_rule_11 : decode cX8_rule 11 = .ok (.ifCond .lt 33, 3) := by decide +kernel
theorem dX8_rule_14 : decode cX8_rule 14 = .ok (.iload_n 2, 1) := by decide +kernel
theorem dX8_rule_15 : decode cX8_rule 15 = .ok (.bipush 15, 2) := by decide +kernel
theorem dX8_rule_17 : decode cX8_rule 17 = .ok (.if_icmp .gt 27, 3) := by decide +kernel
theorem dX8_rule_20 : decode cX8_rule 20 = .ok (.iload_n 3, 1) := by decide +kernel
theorem dX8_rule_21 : decode cX8_rule 21 = .ok (.iconst 1, 1) := by decide +kernel
theorem dX8_rule_22 : decode cX8_rule 22 = .ok (.if_icmp .lt 22, 3) := by decide +kernel
theorem dX8_rule_25 : decode cX8_rule 25 = .ok (.iload_n 3, 1) := by decide +kernel
theorem dX8_rule_26 : decode cX8_rule 26 = .ok (.bipush 15, 2) := by decide +kernel
theorem dX8_rule_28 : decode cX8_rule 28 = .ok (.if_icmp .gt 16, 3) := by decide +kernel
theorem dX8_rule_31 : decode cX8_rule 31 = .ok (.iload 4, 2) := by decide +kernel
theorem dX8_rule_33 : decode cX8_rule 33 = .ok (.iconst 1, 1) := by decide +kernel
theorem dX8_rule_34 : decode cX8_rule 34 = .ok (.if_icmp .lt 10, 3) := by decide +kernel
theorem dX8_rule_37 : decode cX8_rule 37 = .ok (.iload 4, 2) := by decide +kernel
theorem dX8_rule_39 : decode cX8_rule 39 = .ok (.bipush 15, 2) := by decide +kernel
theorem dX8_rule_41 : decode cX8_rule 41 = .ok (.if_icmp .le 5, 3) := by decide +kernel
theorem dX8_rule_44 : decode cX8_rule 44 = .ok (.iconst (-1), 1) := by decide +kernel
theorem dX8_rule_45 : decode cX8_rule 45 = .ok (.ireturn, 1) := by decide +kernel
theorem dX8_rule_46 : decode cX8_rule 46 = .ok (.aload_n 0, 1) := by decide +kernel
theorem dX8_rule_47 : decode cX8_rule 47 = .ok (.invokevirtual 237, 3) := by decide +kernel
theorem dX8_rule_50 : decode cX8_rule 50 = .ok (.pop, 1) := by decide +kernel
theorem dX8_rule_51 : decode cX8_rule 51 = .ok (.aload_n 0, 1) := by decide +kernel
theorem dX8_rule_52 : decode cX8_rule 52 = .ok (.iconst 0, 1) := by decide +kernel
theorem dX8_rule_53 : decode cX8_rule 53 = .ok (.putfield 92, 3) := by decide +kernel
theorem dX8_rule_56 : decode cX8_rule 56 = .ok (.iconst 0, 1) := by decide +kernel
theorem dX8_rule_57 : decode cX8_rule 57 = .ok (.istore 7, 2) := by decide +kernel
theorem dX8_rule_59 : decode cX8_rule 59 = .ok (.iload 7, 2) := by decide +kernel
theorem dX8_rule_61 : decode cX8_rule 61 = .ok (.bipush 50, 2) := by decide +kernel
theorem dX8_rule_63 : decode cX8_rule 63 = .ok (.if_icmp .gt 33, 3) := by decide +kernel
theorem dX8_rule_66 : decode cX8_rule 66 = .ok (.aload_n 0, 1) := by decide +kernel
theorem dX8_rule_67 : decode cX8_rule 67 = .ok (.getfield 7, 3) := by decide +kernel
theorem dX8_rule_70 : decode cX8_rule 70 = .ok (.iload 7, 2) := by decide +kernel
theorem dX8_rule_72 : decode cX8_rule 72 = .ok (.iload 7, 2) := by decide +kernel
theorem dX8_rule_74 : decode cX8_rule 74 = .ok (.iconst 1, 1) := by decide +kernel
theorem dX8_rule_75 : decode cX8_rule 75 = .ok (.if_icmp .lt 13, 3) := by decide +kernel
theorem dX8_rule_78 : decode cX8_rule 78 = .ok (.iload 7, 2) := by decide +kernel
theorem dX8_rule_80 : decode cX8_rule 80 = .ok (.iconst 4, 1) := by decide +kernel
theorem dX8_rule_81 : decode cX8_rule 81 = .ok (.if_icmp .gt 7, 3) := by decide +kernel
theorem dX8_rule_84 : decode cX8_rule 84 = .ok (.iconst 1, 1) := by decide +kernel
theorem dX8_rule_85 : decode cX8_rule 85 = .ok (.goto 4, 3) := by decide +kernel
theorem dX8_rule_88 : decode cX8_rule 88 = .ok (.iconst 0, 1) := by decide +kernel
theorem dX8_rule_89 : decode cX8_rule 89 = .ok (.iastore, 1) := by decide +kernel
theorem dX8_rule_90 : decode cX8_rule 90 = .ok (.iinc 7 1, 3) := by decide +kernel
theorem dX8_rule_93 : decode cX8_rule 93 = .ok (.goto (-34), 3) := by decide +kernel
theorem dX8_rule_96 : decode cX8_rule 96 = .ok (.aload_n 0, 1) := by decide +kernel
theorem dX8_rule_97 : decode cX8_rule 97 = .ok (.iconst 2, 1) := by decide +kernel
theorem dX8_rule_98 : decode cX8_rule 98 = .ok (.putfield 22, 3) := by decide +kernel
theorem dX8_rule_101 : decode cX8_rule 101 = .ok (.iconst 0, 1) := by decide +kernel
theorem dX8_rule_102 : decode cX8_rule 102 = .ok (.istore 7, 2) := by decide +kernel
theorem dX8_rule_104 : decode cX8_rule 104 = .ok (.iload 7, 2) := by decide +kernel
theorem dX8_rule_106 : decode cX8_rule 106 = .ok (.iconst 4, 1) := by decide +kernel
theorem dX8_rule_107 : decode cX8_rule 107 = .ok (.if_icmp .ge 54, 3) := by decide +kernel
theorem dX8_rule_110 : decode cX8_rule 110 = .ok (.iload_n 1, 1) := by decide +kernel
theorem dX8_rule_111 : decode cX8_rule 111 = .ok (.iload 7, 2) := by decide +kernel
theorem dX8_rule_113 : decode cX8_rule 113 = .ok (.ishr, 1) := by decide +kernel
theorem dX8_rule_114 : decode cX8_rule 114 = .ok (.iconst 1, 1) := by decide +kernel
theorem dX8_rule_115 : decode cX8_rule 115 = .ok (.iand, 1) := by decide +kernel
theorem dX8_rule_116 : decode cX8_rule 116 = .ok (.istore 8, 2) := by decide +kernel
theorem dX8_rule_118 : decode cX8_rule 118 = .ok (.aload_n 0, 1) := by decide +kernel
theorem dX8_rule_119 : decode cX8_rule 119 = .ok (.iconst 5, 1) := by decide +kernel
theorem dX8_rule_120 : decode cX8_rule 120 = .ok (.iconst 1, 1) := by decide +kernel
theorem dX8_rule_121 : decode cX8_rule 121 = .ok (.iload 8, 2) := by decide +kernel
theorem dX8_rule_123 : decode cX8_rule 123 = .ok (.iadd, 1) := by decide +kernel
theorem dX8_rule_124 : decode cX8_rule 124 = .ok (.iconst 3, 1) := by decide +kernel
theorem dX8_rule_125 : decode cX8_rule 125 = .ok (.iload 7, 2) := by decide +kernel
theorem dX8_rule_127 : decode cX8_rule 127 = .ok (.iconst 2, 1) := by decide +kernel
theorem dX8_rule_128 : decode cX8_rule 128 = .ok (.irem, 1) := by decide +kernel
theorem dX8_rule_129 : decode cX8_rule 129 = .ok (.iadd, 1) := by decide +kernel
theorem dX8_rule_130 : decode cX8_rule 130 = .ok (.iconst 1, 1) := by decide +kernel
theorem dX8_rule_131 : decode cX8_rule 131 = .ok (.iload 7, 2) := by decide +kernel
theorem dX8_rule_133 : decode cX8_rule 133 = .ok (.iconst 2, 1) := by decide +kernel
theorem dX8_rule_134 : decode cX8_rule 134 = .ok (.idiv, 1) := by decide +kernel
theorem dX8_rule_135 : decode cX8_rule 135 = .ok (.iadd, 1) := by decide +kernel
theorem dX8_rule_136 : decode cX8_rule 136 = .ok (.iconst 3, 1) := by decide +kernel
theorem dX8_rule_137 : decode cX8_rule 137 = .ok (.iload_n 2, 1) := by decide +kernel
theorem dX8_rule_138 : decode cX8_rule 138 = .ok (.iload 7, 2) := by decide +kernel
theorem dX8_rule_140 : decode cX8_rule 140 = .ok (.ishr, 1) := by decide +kernel
theorem dX8_rule_141 : decode cX8_rule 141 = .ok (.iconst 1, 1) := by decide +kernel
theorem dX8_rule_142 : decode cX8_rule 142 = .ok (.iand, 1) := by decide +kernel
theorem dX8_rule_143 : decode cX8_rule 143 = .ok (.iadd, 1) := by decide +kernel
theorem dX8_rule_144 : decode cX8_rule 144 = .ok (.bipush 16, 2) := by decide +kernel
theorem dX8_rule_146 : decode cX8_rule 146 = .ok (.iconst 1, 1) := by decide +kernel
theorem dX8_rule_147 : decode cX8_rule 147 = .ok (.iload 8, 2) := by decide +kernel
theorem dX8_rule_149 : decode cX8_rule 149 = .ok (.iadd, 1) := by decide +kernel
theorem dX8_rule_150 : decode cX8_rule 150 = .ok (.imul, 1) := by decide +kernel
theorem dX8_rule_151 : decode cX8_rule 151 = .ok (.invokevirtual 114, 3) := by decide +kernel
theorem dX8_rule_154 : decode cX8_rule 154 = .ok (.pop, 1) := by decide +kernel
theorem dX8_rule_155 : decode cX8_rule 155 = .ok (.iinc 7 1, 3) := by decide +kernel
theorem dX8_rule_158 : decode cX8_rule 158 = .ok (.goto (-54), 3) := by decide +kernel
theorem dX8_rule_161 : decode cX8_rule 161 = .ok (.aload_n 0, 1) := by decide +kernel
theorem dX8_rule_162 : decode cX8_rule 162 = .ok (.iconst 1, 1) := by decide +kernel
theorem dX8_rule_163 : decode cX8_rule 163 = .ok (.iconst 1, 1) := by decide +kernel
theorem dX8_rule_164 : decode cX8_rule 164 = .ok (.iconst 0, 1) := by decide +kernel
theorem dX8_rule_165 : decode cX8_rule 165 = .ok (.iconst 0, 1) := by decide +kernel
theorem dX8_rule_166 : decode cX8_rule 166 = .ok (.iconst 0, 1) := by decide +kernel
theorem dX8_rule_167 : decode cX8_rule 167 = .ok (.iconst 0, 1) := by decide +kernel
theorem dX8_rule_168 : decode cX8_rule 168 = .ok (.invokevirtual 114, 3) := by decide +kernel
theorem dX8_rule_171 : decode cX8_rule 171 = .ok (.pop, 1) := by decide +kernel
theorem dX8_rule_172 : decode cX8_rule 172 = .ok (.aload_n 0, 1) := by decide +kernel
theorem dX8_rule_173 : decode cX8_rule 173 = .ok (.iconst 1, 1) := by decide +kernel
theorem dX8_rule_174 : decode cX8_rule 174 = .ok (.iconst 2, 1) := by decide +kernel
theorem dX8_rule_175 : decode cX8_rule 175 = .ok (.iconst 0, 1) := by decide +kernel
theorem dX8_rule_176 : decode cX8_rule 176 = .ok (.iconst 0, 1) := by decide +kernel
theorem dX8_rule_177 : decode cX8_rule 177 = .ok (.iconst 0, 1) := by decide +kernel
theorem dX8_rule_178 : decode cX8_rule 178 = .ok (.iconst 0, 1) := by decide +kernel
theorem dX8_rule_179 : decode cX8_rule 179 = .ok (.invokevirtual 114, 3) := by decide +kernel
theorem dX8_rule_182 : decode cX8_rule 182 = .ok (.pop, 1) := by decide +kernel
theorem dX8_rule_183 : decode cX8_rule 183 = .ok (.aload_n 0, 1) := by decide +kernel
theorem dX8_rule_184 : decode cX8_rule 184 = .ok (.iconst 1, 1) := by decide +kernel
theorem dX8_rule_185 : decode cX8_rule 185 = .ok (.iconst 0, 1) := by decide +kernel
theorem dX8_rule_186 : decode cX8_rule 186 = .ok (.iconst 0, 1) := by decide +kernel
theorem dX8_rule_187 : decode cX8_rule 187 = .ok (.iconst 0, 1) := by decide +kernel
theorem dX8_rule_188 : decode cX8_rule 188 = .ok (.iconst 3, 1) := by decide +kernel
theorem dX8_rule_189 : decode cX8_rule 189 = .ok (.iconst 0, 1) := by decide +kernel
theorem dX8_rule_190 : decode cX8_rule 190 = .ok (.invokevirtual 114, 3) := by decide +kernel
theorem dX8_rule_193 : decode cX8_rule 193 = .ok (.pop, 1) := by decide +kernel
theorem dX8_rule_194 : decode cX8_rule 194 = .ok (.aload_n 0, 1) := by decide +kernel
theorem dX8_rule_195 : decode cX8_rule 195 = .ok (.iconst 1, 1) := by decide +kernel
theorem dX8_rule_196 : decode cX8_rule 196 = .ok (.iconst 0, 1) := by decide +kernel
theorem dX8_rule_197 : decode cX8_rule 197 = .ok (.iconst 0, 1) := by decide +kernel
theorem dX8_rule_198 : decode cX8_rule 198 = .ok (.iconst 0, 1) := by decide +kernel
theorem dX8_rule_199 : decode cX8_rule 199 = .ok (.iconst 4, 1) := by decide +kernel
theorem dX8_rule_200 : decode cX8_rule 200 = .ok (.iconst 0, 1) := by decide +kernel
theorem dX8_rule_201 : decode cX8_rule 201 = .ok (.invokevirtual 114, 3) := by decide +kernel
theorem dX8_rule_204 : decode cX8_rule 204 = .ok (.pop, 1) := by decide +kernel
theorem dX8_rule_205 : decode cX8_rule 205 = .ok (.iconst 0, 1) := by decide +kernel
theorem dX8_rule_206 : decode cX8_rule 206 = .ok (.istore 7, 2) := by decide +kernel
theorem dX8_rule_208 : decode cX8_rule 208 = .ok (.iload 7, 2) := by decide +kernel
theorem dX8_rule_210 : decode cX8_rule 210 = .ok (.iload_n 3, 1) := by decide +kernel
theorem dX8_rule_211 : decode cX8_rule 211 = .ok (.if_icmp .ge 31, 3) := by decide +kernel
theorem dX8_rule_214 : decode cX8_rule 214 = .ok (.aload_n 0, 1) := by decide +kernel
theorem dX8_rule_215 : decode cX8_rule 215 = .ok (.iconst 4, 1) := by decide +kernel
theorem dX8_rule_216 : decode cX8_rule 216 = .ok (.iload 5, 2) := by decide +kernel
theorem dX8_rule_218 : decode cX8_rule 218 = .ok (.iload_n 3, 1) := by decide +kernel
theorem dX8_rule_219 : decode cX8_rule 219 = .ok (.iconst 1, 1) := by decide +kernel
theorem dX8_rule_220 : decode cX8_rule 220 = .ok (.isub, 1) := by decide +kernel
theorem dX8_rule_221 : decode cX8_rule 221 = .ok (.iload 7, 2) := by decide +kernel
theorem dX8_rule_223 : decode cX8_rule 223 = .ok (.isub, 1) := by decide +kernel
theorem dX8_rule_224 : decode cX8_rule 224 = .ok (.ishr, 1) := by decide +kernel
theorem dX8_rule_225 : decode cX8_rule 225 = .ok (.iconst 1, 1) := by decide +kernel
theorem dX8_rule_226 : decode cX8_rule 226 = .ok (.iand, 1) := by decide +kernel
theorem dX8_rule_227 : decode cX8_rule 227 = .ok (.iadd, 1) := by decide +kernel
theorem dX8_rule_228 : decode cX8_rule 228 = .ok (.iload 7, 2) := by decide +kernel
theorem dX8_rule_230 : decode cX8_rule 230 = .ok (.bipush 15, 2) := by decide +kernel
theorem dX8_rule_232 : decode cX8_rule 232 = .ok (.invokevirtual 240, 3) := by decide +kernel
theorem dX8_rule_235 : decode cX8_rule 235 = .ok (.pop, 1) := by decide +kernel
theorem dX8_rule_236 : decode cX8_rule 236 = .ok (.iinc 7 1, 3) := by decide +kernel
theorem dX8_rule_239 : decode cX8_rule 239 = .ok (.goto (-31), 3) := by decide +kernel
theorem dX8_rule_242 : decode cX8_rule 242 = .ok (.iconst 0, 1) := by decide +kernel
theorem dX8_rule_243 : decode cX8_rule 243 = .ok (.istore 7, 2) := by decide +kernel
theorem dX8_rule_245 : decode cX8_rule 245 = .ok (.iload 7, 2) := by decide +kernel
theorem dX8_rule_247 : decode cX8_rule 247 = .ok (.iload 4, 2) := by decide +kernel
theorem dX8_rule_249 : decode cX8_rule 249 = .ok (.if_icmp .ge 30, 3) := by decide +kernel
theorem dX8_rule_252 : decode cX8_rule 252 = .ok (.aload_n 0, 1) := by decide +kernel
theorem dX8_rule_253 : decode cX8_rule 253 = .ok (.bipush 6, 2) := by decide +kernel
theorem dX8_rule_255 : decode cX8_rule 255 = .ok (.iload 6, 2) := by decide +kernel
theorem dX8_rule_257 : decode cX8_rule 257 = .ok (.iload 7, 2) := by decide +kernel
theorem dX8_rule_259 : decode cX8_rule 259 = .ok (.ishr, 1) := by decide +kernel
theorem dX8_rule_260 : decode cX8_rule 260 = .ok (.iconst 1, 1) := by decide +kernel
theorem dX8_rule_261 : decode cX8_rule 261 = .ok (.iand, 1) := by decide +kernel
theorem dX8_rule_262 : decode cX8_rule 262 = .ok (.iadd, 1) := by decide +kernel
theorem dX8_rule_263 : decode cX8_rule 263 = .ok (.iload_n 3, 1) := by decide +kernel
theorem dX8_rule_264 : decode cX8_rule 264 = .ok (.bipush 14, 2) := by decide +kernel
