theorem dX10_putOnTape_12 : decode cX10_putOnTape 12 = .ok (.getfield 38, 3) := by decide +kernel
theorem dX10_putOnTape_15 : decode cX10_putOnTape 15 = .ok (.iload_n 1, 1) := by decide +kernel
theorem dX10_putOnTape_16 : decode cX10_putOnTape 16 = .ok (.iload_n 2, 1) := by decide +kernel
theorem dX10_putOnTape_17 : decode cX10_putOnTape 17 = .ok (.iushr, 1) := by decide +kernel
theorem dX10_putOnTape_18 : decode cX10_putOnTape 18 = .ok (.i2b, 1) := by decide +kernel
theorem dX10_putOnTape_19 : decode cX10_putOnTape 19 = .ok (.bastore, 1) := by decide +kernel
theorem dX10_putOnTape_20 : decode cX10_putOnTape 20 = .ok (.aload_n 0, 1) := by decide +kernel
theorem dX10_putOnTape_21 : decode cX10_putOnTape 21 = .ok (.dup, 1) := by decide +kernel
theorem dX10_putOnTape_22 : decode cX10_putOnTape 22 = .ok (.getfield 38, 3) := by decide +kernel
theorem dX10_putOnTape_25 : decode cX10_putOnTape 25 = .ok (.iconst 1, 1) := by decide +kernel
theorem dX10_putOnTape_26 : decode cX10_putOnTape 26 = .ok (.iadd, 1) := by decide +kernel
theorem dX10_putOnTape_27 : decode cX10_putOnTape 27 = .ok (.putfield 38, 3) := by decide +kernel
theorem dX10_putOnTape_30 : decode cX10_putOnTape 30 = .ok (.iinc 2 (-8), 3) := by decide +kernel
theorem dX10_putOnTape_33 : decode cX10_putOnTape 33 = .ok (.goto (-30), 3) := by decide +kernel
theorem dX10_putOnTape_36 : decode cX10_putOnTape 36 = .ok (.return_, 1) := by decide +kernel
set_option maxRecDepth 20000 in
theorem ggX10_furnishSet_X3_prepare : GoodIn wsX10_furnishSet wsX3_prepare := goodIn_r _ [9, 10, 11, 12, 13, 14, 15, 16, 17, 18, 19, 20, 21, 22, 23, 24, 25, 8, 26, 27, 28, 29, 30, 31, 32, 33, 34, 35, 36, 90, 91, 92, 93, 94, 95, 96, 97, 98, 99, 78, 79, 80, 81, 82, 83, 100, 101, 84, 85, 86, 87, 88, 89, 102, 103, 104, 105, 106, 107] (by decide +kernel) (by decide +kernel)
set_option maxRecDepth 20000 in
theorem gX10_furnishSet_X3_prepare : GoodIn wsX10_furnishSet (wsV RX10 265 RX3 yX3_prepare wsX3_prepare) := goodIn_app (goodIn_of _ (by decide +kernel)) ggX10_furnishSet_X3_prepare
set_option maxRecDepth 20000 in
theorem ggX10_furnishSet_X3_furnish : GoodIn wsX10_furnishSet wsX3_furnish := goodIn_r _ [40, 41, 42, 43, 44, 15, 17, 14, 45, 46, 47, 48, 49, 50, 51, 52, 53, 54, 55, 28, 29, 30, 27, 56, 57, 58, 59, 60, 61, 62, 8, 63, 19, 64, 11, 13, 10, 65, 66, 16, 12, 67, 68, 69, 70, 71, 90, 91, 92, 93, 94, 95, 96, 97, 98, 99, 108, 109, 110, 111, 112, 78, 79, 80, 81, 82, 83, 84, 85, 86, 87, 88, 89, 100, 101] (by decide +kernel) (by decide +kernel)
set_option maxRecDepth 20000 in
theorem gX10_furnishSet_X3_furnish : GoodIn wsX10_furnishSet (wsV RX10 268 RX3 yX3_furnish wsX3_furnish) := goodIn_app (goodIn_of _ (by decide +kernel)) ggX10_furnishSet_X3_furnish
theorem dX10_furnishSet_0 : decode cX10_furnishSet 0 = .ok (.iload_n 1, 1) := by decide +kernel
theorem dX10_furnishSet_1 : decode cX10_furnishSet 1 = .ok (.aload_n 0, 1) := by decide +kernel
theorem dX10_furnishSet_2 : decode cX10_furnishSet 2 = .ok (.getfield 30, 3) := by decide +kernel
theorem dX10_furnishSet_5 : decode cX10_furnishSet 5 = .ok (.getfield 97, 3) := by decide +kernel
theorem dX10_furnishSet_8 : decode cX10_furnishSet 8 = .ok (.getfield 101, 3) := by decide +kernel
theorem dX10_furnishSet_11 : decode cX10_furnishSet 11 = .ok (.iushr, 1) := by decide +kernel
theorem dX10_furnishSet_12 : decode cX10_furnishSet 12 = .ok (.ifCond .eq 5, 3) := by decide +kernel
theorem dX10_furnishSet_15 : decode cX10_furnishSet 15 = .ok (.iconst 0, 1) := by decide +kernel
theorem dX10_furnishSet_16 : decode cX10_furnishSet 16 = .ok (.ireturn, 1) := by decide +kernel
theorem dX10_furnishSet_17 : decode cX10_furnishSet 17 = .ok (.aload_n 0, 1) := by decide +kernel
theorem dX10_furnishSet_18 : decode cX10_furnishSet 18 = .ok (.getfield 23, 3) := by decide +kernel
theorem dX10_furnishSet_21 : decode cX10_furnishSet 21 = .ok (.aload_n 0, 1) := by decide +kernel
theorem dX10_furnishSet_22 : decode cX10_furnishSet 22 = .ok (.getfield 30, 3) := by decide +kernel
theorem dX10_furnishSet_25 : decode cX10_furnishSet 25 = .ok (.invokevirtual 265, 3) := by decide +kernel
theorem dX10_furnishSet_28 : decode cX10_furnishSet 28 = .ok (.aload_n 0, 1) := by decide +kernel
theorem dX10_furnishSet_29 : decode cX10_furnishSet 29 = .ok (.getfield 23, 3) := by decide +kernel
theorem dX10_furnishSet_32 : decode cX10_furnishSet 32 = .ok (.aload_n 0, 1) := by decide +kernel
theorem dX10_furnishSet_33 : decode cX10_furnishSet 33 = .ok (.getfield 30, 3) := by decide +kernel
theorem dX10_furnishSet_36 : decode cX10_furnishSet 36 = .ok (.iload_n 1, 1) := by decide +kernel
theorem dX10_furnishSet_37 : decode cX10_furnishSet 37 = .ok (.invokevirtual 268, 3) := by decide +kernel
theorem dX10_furnishSet_40 : decode cX10_furnishSet 40 = .ok (.ireturn, 1) := by decide +kernel
theorem dX11_init_0 : decode cX11_init 0 = .ok (.aload_n 0, 1) := by decide +kernel
theorem dX11_init_1 : decode cX11_init 1 = .ok (.invokespecial 1, 3) := by decide +kernel
theorem dX11_init_4 : decode cX11_init 4 = .ok (.aload_n 0, 1) := by decide +kernel
theorem dX11_init_5 : decode cX11_init 5 = .ok (.sipush 500, 3) := by decide +kernel
theorem dX11_init_8 : decode cX11_init 8 = .ok (.newarray .byte, 2) := by decide +kernel
theorem dX11_init_10 : decode cX11_init 10 = .ok (.putfield 7, 3) := by decide +kernel
theorem dX11_init_13 : decode cX11_init 13 = .ok (.aload_n 0, 1) := by decide +kernel
theorem dX11_init_14 : decode cX11_init 14 = .ok (.bipush 15, 2) := by decide +kernel
theorem dX11_init_16 : decode cX11_init 16 = .ok (.newarray .long, 2) := by decide +kernel
theorem dX11_init_18 : decode cX11_init 18 = .ok (.putfield 13, 3) := by decide +kernel
theorem dX11_init_21 : decode cX11_init 21 = .ok (.aload_n 0, 1) := by decide +kernel
theorem dX11_init_22 : decode cX11_init 22 = .ok (.iconst 4, 1) := by decide +kernel
theorem dX11_init_23 : decode cX11_init 23 = .ok (.newarray .int, 2) := by decide +kernel
theorem dX11_init_25 : decode cX11_init 25 = .ok (.putfield 17, 3) := by decide +kernel
theorem dX11_init_28 : decode cX11_init 28 = .ok (.aload_n 0, 1) := by decide +kernel
theorem dX11_init_29 : decode cX11_init 29 = .ok (.bipush 20, 2) := by decide +kernel
theorem dX11_init_31 : decode cX11_init 31 = .ok (.newarray .int, 2) := by decide +kernel
theorem dX11_init_33 : decode cX11_init 33 = .ok (.putfield 21, 3) := by decide +kernel
theorem dX11_init_36 : decode cX11_init 36 = .ok (.aload_n 0, 1) := by decide +kernel
theorem dX11_init_37 : decode cX11_init 37 = .ok (.iconst 4, 1) := by decide +kernel
theorem dX11_init_38 : decode cX11_init 38 = .ok (.newarray .int, 2) := by decide +kernel
theorem dX11_init_40 : decode cX11_init 40 = .ok (.putfield 24, 3) := by decide +kernel
theorem dX11_init_43 : decode cX11_init 43 = .ok (.aload_n 0, 1) := by decide +kernel
theorem dX11_init_44 : decode cX11_init 44 = .ok (.bipush 40, 2) := by decide +kernel
theorem dX11_init_46 : decode cX11_init 46 = .ok (.newarray .int, 2) := by decide +kernel
theorem dX11_init_48 : decode cX11_init 48 = .ok (.putfield 27, 3) := by decide +kernel
theorem dX11_init_51 : decode cX11_init 51 = .ok (.aload_n 0, 1) := by decide +kernel
theorem dX11_init_52 : decode cX11_init 52 = .ok (.bipush 40, 2) := by decide +kernel
theorem dX11_init_54 : decode cX11_init 54 = .ok (.newarray .int, 2) := by decide +kernel
theorem dX11_init_56 : decode cX11_init 56 = .ok (.putfield 30, 3) := by decide +kernel
theorem dX11_init_59 : decode cX11_init 59 = .ok (.aload_n 0, 1) := by decide +kernel
theorem dX11_init_60 : decode cX11_init 60 = .ok (.bipush 40, 2) := by decide +kernel
theorem dX11_init_62 : decode cX11_init 62 = .ok (.newarray .int, 2) := by decide +kernel
theorem dX11_init_64 : decode cX11_init 64 = .ok (.putfield 33, 3) := by decide +kernel
theorem dX11_init_67 : decode cX11_init 67 = .ok (.aload_n 0, 1) := by decide +kernel
theorem dX11_init_68 : decode cX11_init 68 = .ok (.bipush 40, 2) := by decide +kernel
theorem dX11_init_70 : decode cX11_init 70 = .ok (.newarray .int, 2) := by decide +kernel
theorem dX11_init_72 : decode cX11_init 72 = .ok (.putfield 36, 3) := by decide +kernel
theorem dX11_init_75 : decode cX11_init 75 = .ok (.aload_n 0, 1) := by decide +kernel
theorem dX11_init_76 : decode cX11_init 76 = .ok (.bipush 40, 2) := by decide +kernel
theorem dX11_init_78 : decode cX11_init 78 = .ok (.newarray .int, 2) := by decide +kernel
theorem dX11_init_80 : decode cX11_init 80 = .ok (.putfield 39, 3) := by decide +kernel
theorem dX11_init_83 : decode cX11_init 83 = .ok (.aload_n 0, 1) := by decide +kernel
theorem dX11_init_84 : decode cX11_init 84 = .ok (.iconst 4, 1) := by decide +kernel
theorem dX11_init_85 : decode cX11_init 85 = .ok (.newarray .int, 2) := by decide +kernel
theorem dX11_init_87 : decode cX11_init 87 = .ok (.putfield 42, 3) := by decide +kernel
theorem dX11_init_90 : decode cX11_init 90 = .ok (.aload_n 0, 1) := by decide +kernel
theorem dX11_init_91 : decode cX11_init 91 = .ok (.bipush 120, 2) := by decide +kernel
theorem dX11_init_93 : decode cX11_init 93 = .ok (.newarray .int, 2) := by decide +kernel
theorem dX11_init_95 : decode cX11_init 95 = .ok (.putfield 45, 3) := by decide +kernel
theorem dX11_init_98 : decode cX11_init 98 = .ok (.aload_n 0, 1) := by decide +kernel
theorem dX11_init_99 : decode cX11_init 99 = .ok (.bipush 120, 2) := by decide +kernel
theorem dX11_init_101 : decode cX11_init 101 = .ok (.newarray .int, 2) := by decide +kernel
theorem dX11_init_103 : decode cX11_init 103 = .ok (.putfield 48, 3) := by decide +kernel
theorem dX11_init_106 : decode cX11_init 106 = .ok (.aload_n 0, 1) := by decide +kernel
theorem dX11_init_107 : decode cX11_init 107 = .ok (.bipush 120, 2) := by decide +kernel
theorem dX11_init_109 : decode cX11_init 109 = .ok (.newarray .int, 2) := by decide +kernel
theorem dX11_init_111 : decode cX11_init 111 = .ok (.putfield 51, 3) := by decide +kernel
theorem dX11_init_114 : decode cX11_init 114 = .ok (.aload_n 0, 1) := by decide +kernel
theorem dX11_init_115 : decode cX11_init 115 = .ok (.bipush 120, 2) := by decide +kernel
theorem dX11_init_117 : decode cX11_init 117 = .ok (.newarray .int, 2) := by decide +kernel
theorem dX11_init_119 : decode cX11_init 119 = .ok (.putfield 54, 3) := by decide +kernel
theorem dX11_init_122 : decode cX11_init 122 = .ok (.aload_n 0, 1) := by decide +kernel
theorem dX11_init_123 : decode cX11_init 123 = .ok (.sipush 720, 3) := by decide +kernel
theorem dX11_init_126 : decode cX11_init 126 = .ok (.newarray .int, 2) := by decide +kernel
theorem dX11_init_128 : decode cX11_init 128 = .ok (.putfield 57, 3) := by decide +kernel
theorem dX11_init_131 : decode cX11_init 131 = .ok (.aload_n 0, 1) := by decide +kernel
theorem dX11_init_132 : decode cX11_init 132 = .ok (.iconst 4, 1) := by decide +kernel
theorem dX11_init_133 : decode cX11_init 133 = .ok (.newarray .int, 2) := by decide +kernel
theorem dX11_init_135 : decode cX11_init 135 = .ok (.putfield 60, 3) := by decide +kernel
theorem dX11_init_138 : decode cX11_init 138 = .ok (.aload_n 0, 1) := by decide +kernel
theorem dX11_init_139 : decode cX11_init 139 = .ok (.iconst 4, 1) := by decide +kernel
theorem dX11_init_140 : decode cX11_init 140 = .ok (.newarray .int, 2) := by decide +kernel
theorem dX11_init_142 : decode cX11_init 142 = .ok (.putfield 63, 3) := by decide +kernel
theorem dX11_init_145 : decode cX11_init 145 = .ok (.aload_n 0, 1) := by decide +kernel
theorem dX11_init_146 : decode cX11_init 146 = .ok (.bipush 40, 2) := by decide +kernel
theorem dX11_init_148 : decode cX11_init 148 = .ok (.newarray .int, 2) := by decide +kernel
theorem dX11_init_150 : decode cX11_init 150 = .ok (.putfield 66, 3) := by decide +kernel
theorem dX11_init_153 : decode cX11_init 153 = .ok (.aload_n 0, 1) := by decide +kernel
theorem dX11_init_154 : decode cX11_init 154 = .ok (.bipush 40, 2) := by decide +kernel
theorem dX11_init_156 : decode cX11_init 156 = .ok (.newarray .int, 2) := by decide +kernel
theorem dX11_init_158 : decode cX11_init 158 = .ok (.putfield 69, 3) := by decide +kernel
theorem dX11_init_161 : decode cX11_init 161 = .ok (.aload_n 0, 1) := by decide +kernel
theorem dX11_init_162 : decode cX11_init 162 = .ok (.bipush 40, 2) := by decide +kernel
theorem dX11_init_164 : decode cX11_init 164 = .ok (.newarray .int, 2) := by decide +kernel
theorem dX11_init_166 : decode cX11_init 166 = .ok (.putfield 72, 3) := by decide +kernel
theorem dX11_init_169 : decode cX11_init 169 = .ok (.aload_n 0, 1) := by decide +kernel
theorem dX11_init_170 : decode cX11_init 170 = .ok (.bipush 120, 2) := by decide +kernel
theorem dX11_init_172 : decode cX11_init 172 = .ok (.newarray .int, 2) := by decide +kernel
theorem dX11_init_174 : decode cX11_init 174 = .ok (.putfield 75, 3) := by decide +kernel
theorem dX11_init_177 : decode cX11_init 177 = .ok (.aload_n 0, 1) := by decide +kernel
theorem dX11_init_178 : decode cX11_init 178 = .ok (.bipush 120, 2) := by decide +kernel
theorem dX11_init_180 : decode cX11_init 180 = .ok (.newarray .int, 2) := by decide +kernel
theorem dX11_init_182 : decode cX11_init 182 = .ok (.putfield 78, 3) := by decide +kernel
theorem dX11_init_185 : decode cX11_init 185 = .ok (.aload_n 0, 1) := by decide +kernel
theorem dX11_init_186 : decode cX11_init 186 = .ok (.bipush 24, 2) := by decide +kernel
theorem dX11_init_188 : decode cX11_init 188 = .ok (.newarray .int, 2) := by decide +kernel
theorem dX11_init_190 : decode cX11_init 190 = .ok (.putfield 81, 3) := by decide +kernel
theorem dX11_init_193 : decode cX11_init 193 = .ok (.aload_n 0, 1) := by decide +kernel
theorem dX11_init_194 : decode cX11_init 194 = .ok (.bipush 20, 2) := by decide +kernel
theorem dX11_init_196 : decode cX11_init 196 = .ok (.newarray .int, 2) := by decide +kernel
theorem dX11_init_198 : decode cX11_init 198 = .ok (.putfield 84, 3) := by decide +kernel
theorem dX11_init_201 : decode cX11_init 201 = .ok (.aload_n 0, 1) := by decide +kernel
theorem dX11_init_202 : decode cX11_init 202 = .ok (.iconst 4, 1) := by decide +kernel
theorem dX11_init_203 : decode cX11_init 203 = .ok (.newarray .int, 2) := by decide +kernel
theorem dX11_init_205 : decode cX11_init 205 = .ok (.putfield 87, 3) := by decide +kernel
theorem dX11_init_208 : decode cX11_init 208 = .ok (.aload_n 0, 1) := by decide +kernel
theorem dX11_init_209 : decode cX11_init 209 = .ok (.bipush 64, 2) := by decide +kernel
theorem dX11_init_211 : decode cX11_init 211 = .ok (.newarray .int, 2) := by decide +kernel
theorem dX11_init_213 : decode cX11_init 213 = .ok (.putfield 90, 3) := by decide +kernel
theorem dX11_init_216 : decode cX11_init 216 = .ok (.aload_n 0, 1) := by decide +kernel
theorem dX11_init_217 : decode cX11_init 217 = .ok (.sipush 256, 3) := by decide +kernel
theorem dX11_init_220 : decode cX11_init 220 = .ok (.newarray .int, 2) := by decide +kernel
theorem dX11_init_222 : decode cX11_init 222 = .ok (.putfield 93, 3) := by decide +kernel
theorem dX11_init_225 : decode cX11_init 225 = .ok (.aload_n 0, 1) := by decide +kernel
theorem dX11_init_226 : decode cX11_init 226 = .ok (.sipush 256, 3) := by decide +kernel
theorem dX11_init_229 : decode cX11_init 229 = .ok (.newarray .int, 2) := by decide +kernel
theorem dX11_init_231 : decode cX11_init 231 = .ok (.putfield 96, 3) := by decide +kernel
theorem dX11_init_234 : decode cX11_init 234 = .ok (.aload_n 0, 1) := by decide +kernel
theorem dX11_init_235 : decode cX11_init 235 = .ok (.sipush 256, 3) := by decide +kernel
theorem dX11_init_238 : decode cX11_init 238 = .ok (.newarray .int, 2) := by decide +kernel
theorem dX11_init_240 : decode cX11_init 240 = .ok (.putfield 99, 3) := by decide +kernel
theorem dX11_init_243 : decode cX11_init 243 = .ok (.aload_n 0, 1) := by decide +kernel
theorem dX11_init_244 : decode cX11_init 244 = .ok (.bipush 64, 2) := by decide +kernel
theorem dX11_init_246 : decode cX11_init 246 = .ok (.newarray .int, 2) := by decide +kernel
theorem dX11_init_248 : decode cX11_init 248 = .ok (.putfield 102, 3) := by decide +kernel
theorem dX11_init_251 : decode cX11_init 251 = .ok (.aload_n 0, 1) := by decide +kernel
theorem dX11_init_252 : decode cX11_init 252 = .ok (.bipush 64, 2) := by decide +kernel
theorem dX11_init_254 : decode cX11_init 254 = .ok (.newarray .int, 2) := by decide +kernel
theorem dX11_init_256 : decode cX11_init 256 = .ok (.putfield 105, 3) := by decide +kernel
theorem dX11_init_259 : decode cX11_init 259 = .ok (.aload_n 0, 1) := by decide +kernel
theorem dX11_init_260 : decode cX11_init 260 = .ok (.bipush 64, 2) := by decide +kernel
theorem dX11_init_262 : decode cX11_init 262 = .ok (.newarray .int, 2) := by decide +kernel
theorem dX11_init_264 : decode cX11_init 264 = .ok (.putfield 108, 3) := by decide +kernel
theorem dX11_init_267 : decode cX11_init 267 = .ok (.aload_n 0, 1) := by decide +kernel
theorem dX11_init_268 : decode cX11_init 268 = .ok (.iconst (-1), 1) := by decide +kernel
theorem dX11_init_269 : decode cX11_init 269 = .ok (.putfield 111, 3) := by decide +kernel
theorem dX11_init_272 : decode cX11_init 272 = .ok (.aload_n 0, 1) := by decide +kernel
theorem dX11_init_273 : decode cX11_init 273 = .ok (.bipush 17, 2) := by decide +kernel
theorem dX11_init_275 : decode cX11_init 275 = .ok (.newarray .int, 2) := by decide +kernel
theorem dX11_init_277 : decode cX11_init 277 = .ok (.putfield 115, 3) := by decide +kernel
theorem dX11_init_280 : decode cX11_init 280 = .ok (.aload_n 0, 1) := by decide +kernel
theorem dX11_init_281 : decode cX11_init 281 = .ok (.bipush 64, 2) := by decide +kernel
theorem dX11_init_283 : decode cX11_init 283 = .ok (.newarray .int, 2) := by decide +kernel
theorem dX11_init_285 : decode cX11_init 285 = .ok (.putfield 118, 3) := by decide +kernel
theorem dX11_init_288 : decode cX11_init 288 = .ok (.aload_n 0, 1) := by decide +kernel
theorem dX11_init_289 : decode cX11_init 289 = .ok (.bipush 64, 2) := by decide +kernel
theorem dX11_init_291 : decode cX11_init 291 = .ok (.newarray .int, 2) := by decide +kernel
theorem dX11_init_293 : decode cX11_init 293 = .ok (.putfield 121, 3) := by decide +kernel
theorem dX11_init_296 : decode cX11_init 296 = .ok (.aload_n 0, 1) := by decide +kernel
theorem dX11_init_297 : decode cX11_init 297 = .ok (.bipush 64, 2) := by decide +kernel
theorem dX11_init_299 : decode cX11_init 299 = .ok (.newarray .int, 2) := by decide +kernel
theorem dX11_init_301 : decode cX11_init 301 = .ok (.putfield 124, 3) := by decide +kernel
theorem dX11_init_304 : decode cX11_init 304 = .ok (.aload_n 0, 1) := by decide +kernel
theorem dX11_init_305 : decode cX11_init 305 = .ok (.bipush 17, 2) := by decide +kernel
theorem dX11_init_307 : decode cX11_init 307 = .ok (.newarray .int, 2) := by decide +kernel
theorem dX11_init_309 : decode cX11_init 309 = .ok (.putfield 127, 3) := by decide +kernel
theorem dX11_init_312 : decode cX11_init 312 = .ok (.aload_n 0, 1) := by decide +kernel
theorem dX11_init_313 : decode cX11_init 313 = .ok (.bipush 17, 2) := by decide +kernel
theorem dX11_init_315 : decode cX11_init 315 = .ok (.newarray .int, 2) := by decide +kernel
theorem dX11_init_317 : decode cX11_init 317 = .ok (.putfield 130, 3) := by decide +kernel
theorem dX11_init_320 : decode cX11_init 320 = .ok (.aload_n 0, 1) := by decide +kernel
theorem dX11_init_321 : decode cX11_init 321 = .ok (.bipush 17, 2) := by decide +kernel
theorem dX11_init_323 : decode cX11_init 323 = .ok (.newarray .int, 2) := by decide +kernel
theorem dX11_init_325 : decode cX11_init 325 = .ok (.putfield 133, 3) := by decide +kernel
theorem dX11_init_328 : decode cX11_init 328 = .ok (.aload_n 0, 1) := by decide +kernel
theorem dX11_init_329 : decode cX11_init 329 = .ok (.bipush 10, 2) := by decide +kernel
theorem dX11_init_331 : decode cX11_init 331 = .ok (.newarray .int, 2) := by decide +kernel
theorem dX11_init_333 : decode cX11_init 333 = .ok (.putfield 136, 3) := by decide +kernel
theorem dX11_init_336 : decode cX11_init 336 = .ok (.aload_n 0, 1) := by decide +kernel
theorem dX11_init_337 : decode cX11_init 337 = .ok (.bipush 10, 2) := by decide +kernel
theorem dX11_init_339 : decode cX11_init 339 = .ok (.newarray .int, 2) := by decide +kernel
theorem dX11_init_341 : decode cX11_init 341 = .ok (.putfield 139, 3) := by decide +kernel
theorem dX11_init_344 : decode cX11_init 344 = .ok (.aload_n 0, 1) := by decide +kernel
theorem dX11_init_345 : decode cX11_init 345 = .ok (.bipush 30, 2) := by decide +kernel
theorem dX11_init_347 : decode cX11_init 347 = .ok (.newarray .int, 2) := by decide +kernel
theorem dX11_init_349 : decode cX11_init 349 = .ok (.putfield 142, 3) := by decide +kernel
theorem dX11_init_352 : decode cX11_init 352 = .ok (.aload_n 0, 1) := by decide +kernel
theorem dX11_init_353 : decode cX11_init 353 = .ok (.iconst 3, 1) := by decide +kernel
theorem dX11_init_354 : decode cX11_init 354 = .ok (.newarray .boolean, 2) := by decide +kernel
theorem dX11_init_356 : decode cX11_init 356 = .ok (.putfield 145, 3) := by decide +kernel
theorem dX11_init_359 : decode cX11_init 359 = .ok (.aload_n 0, 1) := by decide +kernel
theorem dX11_init_360 : decode cX11_init 360 = .ok (.getfield 13, 3) := by decide +kernel
theorem dX11_init_363 : decode cX11_init 363 = .ok (.iconst 0, 1) := by decide +kernel
theorem dX11_init_364 : decode cX11_init 364 = .ok (.ldc2_w 149, 3) := by decide +kernel
theorem dX11_init_367 : decode cX11_init 367 = .ok (.lastore, 1) := by decide +kernel
theorem dX11_init_368 : decode cX11_init 368 = .ok (.aload_n 0, 1) := by decide +kernel
theorem dX11_init_369 : decode cX11_init 369 = .ok (.getfield 13, 3) := by decide +kernel
theorem dX11_init_372 : decode cX11_init 372 = .ok (.iconst 1, 1) := by decide +kernel
theorem dX11_init_373 : decode cX11_init 373 = .ok (.ldc2_w 151, 3) := by decide +kernel
theorem dX11_init_376 : decode cX11_init 376 = .ok (.lastore, 1) := by decide +kernel
theorem dX11_init_377 : decode cX11_init 377 = .ok (.aload_n 0, 1) := by decide +kernel
theorem dX11_init_378 : decode cX11_init 378 = .ok (.getfield 13, 3) := by decide +kernel
theorem dX11_init_381 : decode cX11_init 381 = .ok (.iconst 2, 1) := by decide +kernel
theorem dX11_init_382 : decode cX11_init 382 = .ok (.ldc2_w 153, 3) := by decide +kernel
theorem dX11_init_385 : decode cX11_init 385 = .ok (.lastore, 1) := by decide +kernel
theorem dX11_init_386 : decode cX11_init 386 = .ok (.aload_n 0, 1) := by decide +kernel
theorem dX11_init_387 : decode cX11_init 387 = .ok (.getfield 13, 3) := by decide +kernel
theorem dX11_init_390 : decode cX11_init 390 = .ok (.iconst 3, 1) := by decide +kernel
theorem dX11_init_391 : decode cX11_init 391 = .ok (.ldc2_w 155, 3) := by decide +kernel
theorem dX11_init_394 : decode cX11_init 394 = .ok (.lastore, 1) := by decide +kernel
theorem dX11_init_395 : decode cX11_init 395 = .ok (.aload_n 0, 1) := by decide +kernel
theorem dX11_init_396 : decode cX11_init 396 = .ok (.getfield 13, 3) := by decide +kernel
theorem dX11_init_399 : decode cX11_init 399 = .ok (.iconst 4, 1) := by decide +kernel
theorem dX11_init_400 : decode cX11_init 400 = .ok (.ldc2_w 157, 3) := by decide +kernel
theorem dX11_init_403 : decode cX11_init 403 = .ok (.lastore, 1) := by decide +kernel
theorem dX11_init_404 : decode cX11_init 404 = .ok (.aload_n 0, 1) := by decide +kernel
theorem dX11_init_405 : decode cX11_init 405 = .ok (.getfield 13, 3) := by decide +kernel
theorem dX11_init_408 : decode cX11_init 408 = .ok (.iconst 5, 1) := by decide +kernel
theorem dX11_init_409 : decode cX11_init 409 = .ok (.ldc2_w 159, 3) := by decide +kernel
theorem dX11_init_412 : decode cX11_init 412 = .ok (.lastore, 1) := by decide +kernel
theorem dX11_init_413 : decode cX11_init 413 = .ok (.aload_n 0, 1) := by decide +kernel
theorem dX11_init_414 : decode cX11_init 414 = .ok (.getfield 13, 3) := by decide +kernel
theorem dX11_init_417 : decode cX11_init 417 = .ok (.bipush 6, 2) := by decide +kernel
theorem dX11_init_419 : decode cX11_init 419 = .ok (.ldc2_w 161, 3) := by decide +kernel
theorem dX11_init_422 : decode cX11_init 422 = .ok (.lastore, 1) := by decide +kernel
theorem dX11_init_423 : decode cX11_init 423 = .ok (.aload_n 0, 1) := by decide +kernel
theorem dX11_init_424 : decode cX11_init 424 = .ok (.getfield 13, 3) := by decide +kernel
theorem dX11_init_427 : decode cX11_init 427 = .ok (.bipush 7, 2) := by decide +kernel
theorem dX11_init_429 : decode cX11_init 429 = .ok (.ldc2_w 163, 3) := by decide +kernel
theorem dX11_init_432 : decode cX11_init 432 = .ok (.lastore, 1) := by decide +kernel
theorem dX11_init_433 : decode cX11_init 433 = .ok (.aload_n 0, 1) := by decide +kernel
theorem dX11_init_434 : decode cX11_init 434 = .ok (.getfield 13, 3) := by decide +kernel
theorem dX11_init_437 : decode cX11_init 437 = .ok (.bipush 8, 2) := by decide +kernel
theorem dX11_init_439 : decode cX11_init 439 = .ok (.ldc2_w 165, 3) := by decide +kernel
theorem dX11_init_442 : decode cX11_init 442 = .ok (.lastore, 1) := by decide +kernel
theorem dX11_init_443 : decode cX11_init 443 = .ok (.aload_n 0, 1) := by decide +kernel
theorem dX11_init_444 : decode cX11_init 444 = .ok (.getfield 13, 3) := by decide +kernel
theorem dX11_init_447 : decode cX11_init 447 = .ok (.bipush 9, 2) := by decide +kernel
theorem dX11_init_449 : decode cX11_init 449 = .ok (.ldc2_w 167, 3) := by decide +kernel
theorem dX11_init_452 : decode cX11_init 452 = .ok (.lastore, 1) := by decide +kernel
theorem dX11_init_453 : decode cX11_init 453 = .ok (.aload_n 0, 1) := by decide +kernel
theorem dX11_init_454 : decode cX11_init 454 = .ok (.getfield 13, 3) := by decide +kernel
theorem dX11_init_457 : decode cX11_init 457 = .ok (.bipush 10, 2) := by decide +kernel
theorem dX11_init_459 : decode cX11_init 459 = .ok (.ldc2_w 169, 3) := by decide +kernel
theorem dX11_init_462 : decode cX11_init 462 = .ok (.lastore, 1) := by decide +kernel
theorem dX11_init_463 : decode cX11_init 463 = .ok (.aload_n 0, 1) := by decide +kernel
theorem dX11_init_464 : decode cX11_init 464 = .ok (.getfield 13, 3) := by decide +kernel
theorem dX11_init_467 : decode cX11_init 467 = .ok (.bipush 11, 2) := by decide +kernel
theorem dX11_init_469 : decode cX11_init 469 = .ok (.ldc2_w 171, 3) := by decide +kernel
theorem dX11_init_472 : decode cX11_init 472 = .ok (.lastore, 1) := by decide +kernel
theorem dX11_init_473 : decode cX11_init 473 = .ok (.aload_n 0, 1) := by decide +kernel
theorem dX11_init_474 : decode cX11_init 474 = .ok (.getfield 13, 3) := by decide +kernel
theorem dX11_init_477 : decode cX11_init 477 = .ok (.bipush 12, 2) := by decide +kernel
theorem dX11_init_479 : decode cX11_init 479 = .ok (.ldc2_w 173, 3) := by decide +kernel
theorem dX11_init_482 : decode cX11_init 482 = .ok (.lastore, 1) := by decide +kernel
theorem dX11_init_483 : decode cX11_init 483 = .ok (.aload_n 0, 1) := by decide +kernel
theorem dX11_init_484 : decode cX11_init 484 = .ok (.getfield 13, 3) := by decide +kernel
theorem dX11_init_487 : decode cX11_init 487 = .ok (.bipush 13, 2) := by decide +kernel
theorem dX11_init_489 : decode cX11_init 489 = .ok (.ldc2_w 175, 3) := by decide +kernel
theorem dX11_init_492 : decode cX11_init 492 = .ok (.lastore, 1) := by decide +kernel
theorem dX11_init_493 : decode cX11_init 493 = .ok (.aload_n 0, 1) := by decide +kernel
theorem dX11_init_494 : decode cX11_init 494 = .ok (.getfield 13, 3) := by decide +kernel
theorem dX11_init_497 : decode cX11_init 497 = .ok (.bipush 14, 2) := by decide +kernel
theorem dX11_init_499 : decode cX11_init 499 = .ok (.ldc2_w 177, 3) := by decide +kernel
theorem dX11_init_502 : decode cX11_init 502 = .ok (.lastore, 1) := by decide +kernel
theorem dX11_init_503 : decode cX11_init 503 = .ok (.aload_n 0, 1) := by decide +kernel
theorem dX11_init_504 : decode cX11_init 504 = .ok (.getfield 60, 3) := by decide +kernel
theorem dX11_init_507 : decode cX11_init 507 = .ok (.iconst 0, 1) := by decide +kernel
theorem dX11_init_508 : decode cX11_init 508 = .ok (.iconst (-1), 1) := by decide +kernel
theorem dX11_init_509 : decode cX11_init 509 = .ok (.iastore, 1) := by decide +kernel
theorem dX11_init_510 : decode cX11_init 510 = .ok (.return_, 1) := by decide +kernel
theorem dX11_in_0 : decode cX11_in 0 = .ok (.iload_n 0, 1) := by decide +kernel
theorem dX11_in_1 : decode cX11_in 1 = .ok (.iload_n 1, 1) := by decide +kernel
theorem dX11_in_2 : decode cX11_in 2 = .ok (.if_icmp .lt 12, 3) := by decide +kernel
theorem dX11_in_5 : decode cX11_in 5 = .ok (.iload_n 0, 1) := by decide +kernel
theorem dX11_in_6 : decode cX11_in 6 = .ok (.iload_n 2, 1) := by decide +kernel
theorem dX11_in_7 : decode cX11_in 7 = .ok (.if_icmp .gt 7, 3) := by decide +kernel
theorem dX11_in_10 : decode cX11_in 10 = .ok (.iconst 1, 1) := by decide +kernel
theorem dX11_in_11 : decode cX11_in 11 = .ok (.goto 4, 3) := by decide +kernel
theorem dX11_in_14 : decode cX11_in 14 = .ok (.iconst 0, 1) := by decide +kernel
theorem dX11_in_15 : decode cX11_in 15 = .ok (.ireturn, 1) := by decide +kernel
theorem dX11_move_0 : decode cX11_move 0 = .ok (.iconst 0, 1) := by decide +kernel
theorem dX11_move_1 : decode cX11_move 1 = .ok (.istore 4, 2) := by decide +kernel
theorem dX11_move_3 : decode cX11_move 3 = .ok (.iload 4, 2) := by decide +kernel
theorem dX11_move_5 : decode cX11_move 5 = .ok (.iload_n 1, 1) := by decide +kernel
theorem dX11_move_6 : decode cX11_move 6 = .ok (.if_icmp .ge 25, 3) := by decide +kernel
theorem dX11_move_9 : decode cX11_move 9 = .ok (.aload_n 0, 1) := by decide +kernel
theorem dX11_move_10 : decode cX11_move 10 = .ok (.iload_n 1, 1) := by decide +kernel
theorem dX11_move_11 : decode cX11_move 11 = .ok (.iload_n 3, 1) := by decide +kernel
theorem dX11_move_12 : decode cX11_move 12 = .ok (.imul, 1) := by decide +kernel
theorem dX11_move_13 : decode cX11_move 13 = .ok (.iload 4, 2) := by decide +kernel
theorem dX11_move_15 : decode cX11_move 15 = .ok (.iadd, 1) := by decide +kernel
theorem dX11_move_16 : decode cX11_move 16 = .ok (.aload_n 0, 1) := by decide +kernel
theorem dX11_move_17 : decode cX11_move 17 = .ok (.iload_n 1, 1) := by decide +kernel
theorem dX11_move_18 : decode cX11_move 18 = .ok (.iload_n 2, 1) := by decide +kernel
theorem dX11_move_19 : decode cX11_move 19 = .ok (.imul, 1) := by decide +kernel
theorem dX11_move_20 : decode cX11_move 20 = .ok (.iload 4, 2) := by decide +kernel
theorem dX11_move_22 : decode cX11_move 22 = .ok (.iadd, 1) := by decide +kernel
theorem dX11_move_23 : decode cX11_move 23 = .ok (.iaload, 1) := by decide +kernel
theorem dX11_move_24 : decode cX11_move 24 = .ok (.iastore, 1) := by decide +kernel
theorem dX11_move_25 : decode cX11_move 25 = .ok (.iinc 4 1, 3) := by decide +kernel
theorem dX11_move_28 : decode cX11_move 28 = .ok (.goto (-25), 3) := by decide +kernel
theorem dX11_move_31 : decode cX11_move 31 = .ok (.return_, 1) := by decide +kernel
set_option maxRecDepth 20000 in
theorem ggX11_copy_X11_move : GoodIn wsX11_copy wsX11_move := goodIn_r _ [35] (by decide +kernel) (by decide +kernel)
set_option maxRecDepth 20000 in
theorem gX11_copy_X11_move : GoodIn wsX11_copy (va_wsS RX11 182 yX11_move wsX11_move) := goodIn_app (goodIn_of _ (by decide +kernel)) ggX11_copy_X11_move
theorem dX11_copy_0 : decode cX11_copy 0 = .ok (.aload_n 0, 1) := by decide +kernel
theorem dX11_copy_1 : decode cX11_copy 1 = .ok (.getfield 17, 3) := by decide +kernel
theorem dX11_copy_4 : decode cX11_copy 4 = .ok (.iconst 1, 1) := by decide +kernel
theorem dX11_copy_5 : decode cX11_copy 5 = .ok (.iload_n 1, 1) := by decide +kernel
theorem dX11_copy_6 : decode cX11_copy 6 = .ok (.iload_n 2, 1) := by decide +kernel
theorem dX11_copy_7 : decode cX11_copy 7 = .ok (.invokestatic 182, 3) := by decide +kernel
theorem dX11_copy_10 : decode cX11_copy 10 = .ok (.aload_n 0, 1) := by decide +kernel
theorem dX11_copy_11 : decode cX11_copy 11 = .ok (.getfield 21, 3) := by decide +kernel
theorem dX11_copy_14 : decode cX11_copy 14 = .ok (.iconst 5, 1) := by decide +kernel
theorem dX11_copy_15 : decode cX11_copy 15 = .ok (.iload_n 1, 1) := by decide +kernel
theorem dX11_copy_16 : decode cX11_copy 16 = .ok (.iload_n 2, 1) := by decide +kernel
theorem dX11_copy_17 : decode cX11_copy 17 = .ok (.invokestatic 182, 3) := by decide +kernel
theorem dX11_copy_20 : decode cX11_copy 20 = .ok (.aload_n 0, 1) := by decide +kernel
theorem dX11_copy_21 : decode cX11_copy 21 = .ok (.getfield 24, 3) := by decide +kernel
theorem dX11_copy_24 : decode cX11_copy 24 = .ok (.iconst 1, 1) := by decide +kernel
theorem dX11_copy_25 : decode cX11_copy 25 = .ok (.iload_n 1, 1) := by decide +kernel
theorem dX11_copy_26 : decode cX11_copy 26 = .ok (.iload_n 2, 1) := by decide +kernel
theorem dX11_copy_27 : decode cX11_copy 27 = .ok (.invokestatic 182, 3) := by decide +kernel
theorem dX11_copy_30 : decode cX11_copy 30 = .ok (.aload_n 0, 1) := by decide +kernel
theorem dX11_copy_31 : decode cX11_copy 31 = .ok (.getfield 27, 3) := by decide +kernel
theorem dX11_copy_34 : decode cX11_copy 34 = .ok (.bipush 10, 2) := by decide +kernel
theorem dX11_copy_36 : decode cX11_copy 36 = .ok (.iload_n 1, 1) := by decide +kernel
theorem dX11_copy_37 : decode cX11_copy 37 = .ok (.iload_n 2, 1) := by decide +kernel
theorem dX11_copy_38 : decode cX11_copy 38 = .ok (.invokestatic 182, 3) := by decide +kernel
theorem dX11_copy_41 : decode cX11_copy 41 = .ok (.aload_n 0, 1) := by decide +kernel
theorem dX11_copy_42 : decode cX11_copy 42 = .ok (.getfield 30, 3) := by decide +kernel
theorem dX11_copy_45 : decode cX11_copy 45 = .ok (.bipush 10, 2) := by decide +kernel
theorem dX11_copy_47 : decode cX11_copy 47 = .ok (.iload_n 1, 1) := by decide +kernel
theorem dX11_copy_48 : decode cX11_copy 48 = .ok (.iload_n 2, 1) := by decide +kernel
theorem dX11_copy_49 : decode cX11_copy 49 = .ok (.invokestatic 182, 3) := by decide +kernel
theorem dX11_copy_52 : decode cX11_copy 52 = .ok (.aload_n 0, 1) := by decide +kernel
theorem dX11_copy_53 : decode cX11_copy 53 = .ok (.getfield 33, 3) := by decide +kernel
theorem dX11_copy_56 : decode cX11_copy 56 = .ok (.bipush 10, 2) := by decide +kernel
theorem dX11_copy_58 : decode cX11_copy 58 = .ok (.iload_n 1, 1) := by decide +kernel
theorem dX11_copy_59 : decode cX11_copy 59 = .ok (.iload_n 2, 1) := by decide +kernel
theorem dX11_copy_60 : decode cX11_copy 60 = .ok (.invokestatic 182, 3) := by decide +kernel
theorem dX11_copy_63 : decode cX11_copy 63 = .ok (.aload_n 0, 1) := by decide +kernel
theorem dX11_copy_64 : decode cX11_copy 64 = .ok (.getfield 36, 3) := by decide +kernel
theorem dX11_copy_67 : decode cX11_copy 67 = .ok (.bipush 10, 2) := by decide +kernel
theorem dX11_copy_69 : decode cX11_copy 69 = .ok (.iload_n 1, 1) := by decide +kernel
theorem dX11_copy_70 : decode cX11_copy 70 = .ok (.iload_n 2, 1) := by decide +kernel
theorem dX11_copy_71 : decode cX11_copy 71 = .ok (.invokestatic 182, 3) := by decide +kernel
theorem dX11_copy_74 : decode cX11_copy 74 = .ok (.aload_n 0, 1) := by decide +kernel
theorem dX11_copy_75 : decode cX11_copy 75 = .ok (.getfield 39, 3) := by decide +kernel
theorem dX11_copy_78 : decode cX11_copy 78 = .ok (.bipush 10, 2) := by decide +kernel
theorem dX11_copy_80 : decode cX11_copy 80 = .ok (.iload_n 1, 1) := by decide +kernel
theorem dX11_copy_81 : decode cX11_copy 81 = .ok (.iload_n 2, 1) := by decide +kernel
theorem dX11_copy_82 : decode cX11_copy 82 = .ok (.invokestatic 182, 3) := by decide +kernel
theorem dX11_copy_85 : decode cX11_copy 85 = .ok (.aload_n 0, 1) := by decide +kernel
theorem dX11_copy_86 : decode cX11_copy 86 = .ok (.getfield 42, 3) := by decide +kernel
theorem dX11_copy_89 : decode cX11_copy 89 = .ok (.iconst 1, 1) := by decide +kernel
theorem dX11_copy_90 : decode cX11_copy 90 = .ok (.iload_n 1, 1) := by decide +kernel
theorem dX11_copy_91 : decode cX11_copy 91 = .ok (.iload_n 2, 1) := by decide +kernel
theorem dX11_copy_92 : decode cX11_copy 92 = .ok (.invokestatic 182, 3) := by decide +kernel
theorem dX11_copy_95 : decode cX11_copy 95 = .ok (.aload_n 0, 1) := by decide +kernel
theorem dX11_copy_96 : decode cX11_copy 96 = .ok (.getfield 45, 3) := by decide +kernel
theorem dX11_copy_99 : decode cX11_copy 99 = .ok (.bipush 30, 2) := by decide +kernel
theorem dX11_copy_101 : decode cX11_copy 101 = .ok (.iload_n 1, 1) := by decide +kernel
theorem dX11_copy_102 : decode cX11_copy 102 = .ok (.iload_n 2, 1) := by decide +kernel
theorem dX11_copy_103 : decode cX11_copy 103 = .ok (.invokestatic 182, 3) := by decide +kernel
theorem dX11_copy_106 : decode cX11_copy 106 = .ok (.aload_n 0, 1) := by decide +kernel
theorem dX11_copy_107 : decode cX11_copy 107 = .ok (.getfield 48, 3) := by decide +kernel
theorem dX11_copy_110 : decode cX11_copy 110 = .ok (.bipush 30, 2) := by decide +kernel
theorem dX11_copy_112 : decode cX11_copy 112 = .ok (.iload_n 1, 1) := by decide +kernel
theorem dX11_copy_113 : decode cX11_copy 113 = .ok (.iload_n 2, 1) := by decide +kernel
theorem dX11_copy_114 : decode cX11_copy 114 = .ok (.invokestatic 182, 3) := by decide +kernel
theorem dX11_copy_117 : decode cX11_copy 117 = .ok (.aload_n 0, 1) := by decide +kernel
theorem dX11_copy_118 : decode cX11_copy 118 = .ok (.getfield 51, 3) := by decide +kernel
theorem dX11_copy_121 : decode cX11_copy 121 = .ok (.bipush 30, 2) := by decide +kernel
theorem dX11_copy_123 : decode cX11_copy 123 = .ok (.iload_n 1, 1) := by decide +kernel
theorem dX11_copy_124 : decode cX11_copy 124 = .ok (.iload_n 2, 1) := by decide +kernel
theorem dX11_copy_125 : decode cX11_copy 125 = .ok (.invokestatic 182, 3) := by decide +kernel
theorem dX11_copy_128 : decode cX11_copy 128 = .ok (.aload_n 0, 1) := by decide +kernel
theorem dX11_copy_129 : decode cX11_copy 129 = .ok (.getfield 54, 3) := by decide +kernel
theorem dX11_copy_132 : decode cX11_copy 132 = .ok (.bipush 30, 2) := by decide +kernel
theorem dX11_copy_134 : decode cX11_copy 134 = .ok (.iload_n 1, 1) := by decide +kernel
theorem dX11_copy_135 : decode cX11_copy 135 = .ok (.iload_n 2, 1) := by decide +kernel
theorem dX11_copy_136 : decode cX11_copy 136 = .ok (.invokestatic 182, 3) := by decide +kernel
theorem dX11_copy_139 : decode cX11_copy 139 = .ok (.aload_n 0, 1) := by decide +kernel
theorem dX11_copy_140 : decode cX11_copy 140 = .ok (.getfield 57, 3) := by decide +kernel
theorem dX11_copy_143 : decode cX11_copy 143 = .ok (.sipush 180, 3) := by decide +kernel
theorem dX11_copy_146 : decode cX11_copy 146 = .ok (.iload_n 1, 1) := by decide +kernel
theorem dX11_copy_147 : decode cX11_copy 147 = .ok (.iload_n 2, 1) := by decide +kernel
theorem dX11_copy_148 : decode cX11_copy 148 = .ok (.invokestatic 182, 3) := by decide +kernel
theorem dX11_copy_151 : decode cX11_copy 151 = .ok (.aload_n 0, 1) := by decide +kernel
theorem dX11_copy_152 : decode cX11_copy 152 = .ok (.getfield 60, 3) := by decide +kernel
theorem dX11_copy_155 : decode cX11_copy 155 = .ok (.iconst 1, 1) := by decide +kernel
theorem dX11_copy_156 : decode cX11_copy 156 = .ok (.iload_n 1, 1) := by decide +kernel
theorem dX11_copy_157 : decode cX11_copy 157 = .ok (.iload_n 2, 1) := by decide +kernel
theorem dX11_copy_158 : decode cX11_copy 158 = .ok (.invokestatic 182, 3) := by decide +kernel
theorem dX11_copy_161 : decode cX11_copy 161 = .ok (.aload_n 0, 1) := by decide +kernel
theorem dX11_copy_162 : decode cX11_copy 162 = .ok (.getfield 63, 3) := by decide +kernel
theorem dX11_copy_165 : decode cX11_copy 165 = .ok (.iconst 1, 1) := by decide +kernel
theorem dX11_copy_166 : decode cX11_copy 166 = .ok (.iload_n 1, 1) := by decide +kernel
theorem dX11_copy_167 : decode cX11_copy 167 = .ok (.iload_n 2, 1) := by decide +kernel
theorem dX11_copy_168 : decode cX11_copy 168 = .ok (.invokestatic 182, 3) := by decide +kernel
theorem dX11_copy_171 : decode cX11_copy 171 = .ok (.aload_n 0, 1) := by decide +kernel
theorem dX11_copy_172 : decode cX11_copy 172 = .ok (.getfield 66, 3) := by decide +kernel
theorem dX11_copy_175 : decode cX11_copy 175 = .ok (.bipush 10, 2) := by decide +kernel
theorem dX11_copy_177 : decode cX11_copy 177 = .ok (.iload_n 1, 1) := by decide +kernel
theorem dX11_copy_178 : decode cX11_copy 178 = .ok (.iload_n 2, 1) := by decide +kernel
theorem dX11_copy_179 : decode cX11_copy 179 = .ok (.invokestatic 182, 3) := by decide +kernel
theorem dX11_copy_182 : decode cX11_copy 182 = .ok (.aload_n 0, 1) := by decide +kernel
theorem dX11_copy_183 : decode cX11_copy 183 = .ok (.getfield 69, 3) := by decide +kernel
theorem dX11_copy_186 : decode cX11_copy 186 = .ok (.bipush 10, 2) := by decide +kernel
theorem dX11_copy_188 : decode cX11_copy 188 = .ok (.iload_n 1, 1) := by decide +kernel
theorem dX11_copy_189 : decode cX11_copy 189 = .ok (.iload_n 2, 1) := by decide +kernel
theorem dX11_copy_190 : decode cX11_copy 190 = .ok (.invokestatic 182, 3) := by decide +kernel
theorem dX11_copy_193 : decode cX11_copy 193 = .ok (.aload_n 0, 1) := by decide +kernel
theorem dX11_copy_194 : decode cX11_copy 194 = .ok (.getfield 72, 3) := by decide +kernel
theorem dX11_copy_197 : decode cX11_copy 197 = .ok (.bipush 10, 2) := by decide +kernel
theorem dX11_copy_199 : decode cX11_copy 199 = .ok (.iload_n 1, 1) := by decide +kernel
theorem dX11_copy_200 : decode cX11_copy 200 = .ok (.iload_n 2, 1) := by decide +kernel
theorem dX11_copy_201 : decode cX11_copy 201 = .ok (.invokestatic 182, 3) := by decide +kernel
theorem dX11_copy_204 : decode cX11_copy 204 = .ok (.aload_n 0, 1) := by decide +kernel
theorem dX11_copy_205 : decode cX11_copy 205 = .ok (.getfield 75, 3) := by decide +kernel
theorem dX11_copy_208 : decode cX11_copy 208 = .ok (.bipush 30, 2) := by decide +kernel
theorem dX11_copy_210 : decode cX11_copy 210 = .ok (.iload_n 1, 1) := by decide +kernel
theorem dX11_copy_211 : decode cX11_copy 211 = .ok (.iload_n 2, 1) := by decide +kernel
theorem dX11_copy_212 : decode cX11_copy 212 = .ok (.invokestatic 182, 3) := by decide +kernel
theorem dX11_copy_215 : decode cX11_copy 215 = .ok (.aload_n 0, 1) := by decide +kernel
theorem dX11_copy_216 : decode cX11_copy 216 = .ok (.getfield 78, 3) := by decide +kernel
theorem dX11_copy_219 : decode cX11_copy 219 = .ok (.bipush 30, 2) := by decide +kernel
theorem dX11_copy_221 : decode cX11_copy 221 = .ok (.iload_n 1, 1) := by decide +kernel
theorem dX11_copy_222 : decode cX11_copy 222 = .ok (.iload_n 2, 1) := by decide +kernel
theorem dX11_copy_223 : decode cX11_copy 223 = .ok (.invokestatic 182, 3) := by decide +kernel
theorem dX11_copy_226 : decode cX11_copy 226 = .ok (.aload_n 0, 1) := by decide +kernel
theorem dX11_copy_227 : decode cX11_copy 227 = .ok (.getfield 81, 3) := by decide +kernel
theorem dX11_copy_230 : decode cX11_copy 230 = .ok (.bipush 6, 2) := by decide +kernel
theorem dX11_copy_232 : decode cX11_copy 232 = .ok (.iload_n 1, 1) := by decide +kernel
theorem dX11_copy_233 : decode cX11_copy 233 = .ok (.iload_n 2, 1) := by decide +kernel
theorem dX11_copy_234 : decode cX11_copy 234 = .ok (.invokestatic 182, 3) := by decide +kernel
theorem dX11_copy_237 : decode cX11_copy 237 = .ok (.aload_n 0, 1) := by decide +kernel
theorem dX11_copy_238 : decode cX11_copy 238 = .ok (.getfield 84, 3) := by decide +kernel
theorem dX11_copy_241 : decode cX11_copy 241 = .ok (.iconst 5, 1) := by decide +kernel
theorem dX11_copy_242 : decode cX11_copy 242 = .ok (.iload_n 1, 1) := by decide +kernel
theorem dX11_copy_243 : decode cX11_copy 243 = .ok (.iload_n 2, 1) := by decide +kernel
theorem dX11_copy_244 : decode cX11_copy 244 = .ok (.invokestatic 182, 3) := by decide +kernel
theorem dX11_copy_247 : decode cX11_copy 247 = .ok (.aload_n 0, 1) := by decide +kernel
theorem dX11_copy_248 : decode cX11_copy 248 = .ok (.getfield 87, 3) := by decide +kernel
theorem dX11_copy_251 : decode cX11_copy 251 = .ok (.iconst 1, 1) := by decide +kernel
theorem dX11_copy_252 : decode cX11_copy 252 = .ok (.iload_n 1, 1) := by decide +kernel
theorem dX11_copy_253 : decode cX11_copy 253 = .ok (.iload_n 2, 1) := by decide +kernel
theorem dX11_copy_254 : decode cX11_copy 254 = .ok (.invokestatic 182, 3) := by decide +kernel
theorem dX11_copy_257 : decode cX11_copy 257 = .ok (.aload_n 0, 1) := by decide +kernel
theorem dX11_copy_258 : decode cX11_copy 258 = .ok (.getfield 90, 3) := by decide +kernel
theorem dX11_copy_261 : decode cX11_copy 261 = .ok (.bipush 16, 2) := by decide +kernel
theorem dX11_copy_263 : decode cX11_copy 263 = .ok (.iload_n 1, 1) := by decide +kernel
theorem dX11_copy_264 : decode cX11_copy 264 = .ok (.iload_n 2, 1) := by decide +kernel
theorem dX11_copy_265 : decode cX11_copy 265 = .ok (.invokestatic 182, 3) := by decide +kernel
theorem dX11_copy_268 : decode cX11_copy 268 = .ok (.aload_n 0, 1) := by decide +kernel
theorem dX11_copy_269 : decode cX11_copy 269 = .ok (.getfield 93, 3) := by decide +kernel
theorem dX11_copy_272 : decode cX11_copy 272 = .ok (.bipush 64, 2) := by decide +kernel
theorem dX11_copy_274 : decode cX11_copy 274 = .ok (.iload_n 1, 1) := by decide +kernel
theorem dX11_copy_275 : decode cX11_copy 275 = .ok (.iload_n 2, 1) := by decide +kernel
theorem dX11_copy_276 : decode cX11_copy 276 = .ok (.invokestatic 182, 3) := by decide +kernel
theorem dX11_copy_279 : decode cX11_copy 279 = .ok (.aload_n 0, 1) := by decide +kernel
theorem dX11_copy_280 : decode cX11_copy 280 = .ok (.getfield 96, 3) := by decide +kernel
theorem dX11_copy_283 : decode cX11_copy 283 = .ok (.bipush 64, 2) := by decide +kernel
theorem dX11_copy_285 : decode cX11_copy 285 = .ok (.iload_n 1, 1) := by decide +kernel
theorem dX11_copy_286 : decode cX11_copy 286 = .ok (.iload_n 2, 1) := by decide +kernel
theorem dX11_copy_287 : decode cX11_copy 287 = .ok (.invokestatic 182, 3) := by decide +kernel
theorem dX11_copy_290 : decode cX11_copy 290 = .ok (.aload_n 0, 1) := by decide +kernel
theorem dX11_copy_291 : decode cX11_copy 291 = .ok (.getfield 99, 3) := by decide +kernel
theorem dX11_copy_294 : decode cX11_copy 294 = .ok (.bipush 64, 2) := by decide +kernel
theorem dX11_copy_296 : decode cX11_copy 296 = .ok (.iload_n 1, 1) := by decide +kernel
theorem dX11_copy_297 : decode cX11_copy 297 = .ok (.iload_n 2, 1) := by decide +kernel
theorem dX11_copy_298 : decode cX11_copy 298 = .ok (.invokestatic 182, 3) := by decide +kernel
theorem dX11_copy_301 : decode cX11_copy 301 = .ok (.aload_n 0, 1) := by decide +kernel
theorem dX11_copy_302 : decode cX11_copy 302 = .ok (.getfield 102, 3) := by decide +kernel
theorem dX11_copy_305 : decode cX11_copy 305 = .ok (.bipush 16, 2) := by decide +kernel
theorem dX11_copy_307 : decode cX11_copy 307 = .ok (.iload_n 1, 1) := by decide +kernel
theorem dX11_copy_308 : decode cX11_copy 308 = .ok (.iload_n 2, 1) := by decide +kernel
theorem dX11_copy_309 : decode cX11_copy 309 = .ok (.invokestatic 182, 3) := by decide +kernel
theorem dX11_copy_312 : decode cX11_copy 312 = .ok (.aload_n 0, 1) := by decide +kernel
theorem dX11_copy_313 : decode cX11_copy 313 = .ok (.getfield 105, 3) := by decide +kernel
theorem dX11_copy_316 : decode cX11_copy 316 = .ok (.bipush 16, 2) := by decide +kernel
theorem dX11_copy_318 : decode cX11_copy 318 = .ok (.iload_n 1, 1) := by decide +kernel
theorem dX11_copy_319 : decode cX11_copy 319 = .ok (.iload_n 2, 1) := by decide +kernel
theorem dX11_copy_320 : decode cX11_copy 320 = .ok (.invokestatic 182, 3) := by decide +kernel
theorem dX11_copy_323 : decode cX11_copy 323 = .ok (.aload_n 0, 1) := by decide +kernel
theorem dX11_copy_324 : decode cX11_copy 324 = .ok (.getfield 108, 3) := by decide +kernel
theorem dX11_copy_327 : decode cX11_copy 327 = .ok (.bipush 16, 2) := by decide +kernel
theorem dX11_copy_329 : decode cX11_copy 329 = .ok (.iload_n 1, 1) := by decide +kernel
theorem dX11_copy_330 : decode cX11_copy 330 = .ok (.iload_n 2, 1) := by decide +kernel
theorem dX11_copy_331 : decode cX11_copy 331 = .ok (.invokestatic 182, 3) := by decide +kernel
theorem dX11_copy_334 : decode cX11_copy 334 = .ok (.return_, 1) := by decide +kernel
set_option maxRecDepth 20000 in
theorem ggX11_feed_X11_four : GoodIn wsX11_feed wsX11_four := goodIn_r _ [7, 8, 2, 9, 10, 11, 12, 13, 14, 15, 16, 17, 18, 19, 20, 21, 22, 23, 24, 25, 26, 27, 28, 29, 30, 31, 32, 33, 34, 35, 36, 37, 38, 39, 40, 41, 42, 43, 44, 45, 46, 47, 48, 49, 50, 51, 52, 53, 54, 55, 56, 57, 58, 59, 60, 61, 62, 63, 64, 65, 66, 67] (by decide +kernel) (by decide +kernel)
set_option maxRecDepth 20000 in
theorem gX11_feed_X11_four : GoodIn wsX11_feed (wsV RX11 189 RX11 yX11_four wsX11_four) := goodIn_app (goodIn_of _ (by decide +kernel)) ggX11_feed_X11_four
theorem dX11_feed_0 : decode cX11_feed 0 = .ok (.aload_n 0, 1) := by decide +kernel
theorem dX11_feed_1 : decode cX11_feed 1 = .ok (.iconst 0, 1) := by decide +kernel
theorem dX11_feed_2 : decode cX11_feed 2 = .ok (.putfield 179, 3) := by decide +kernel
theorem dX11_feed_5 : decode cX11_feed 5 = .ok (.aload_n 0, 1) := by decide +kernel
theorem dX11_feed_6 : decode cX11_feed 6 = .ok (.getfield 186, 3) := by decide +kernel
theorem dX11_feed_9 : decode cX11_feed 9 = .ok (.bipush 20, 2) := by decide +kernel
theorem dX11_feed_11 : decode cX11_feed 11 = .ok (.iadd, 1) := by decide +kernel
theorem dX11_feed_12 : decode cX11_feed 12 = .ok (.sipush 500, 3) := by decide +kernel
theorem dX11_feed_15 : decode cX11_feed 15 = .ok (.if_icmp .le 5, 3) := by decide +kernel
theorem dX11_feed_18 : decode cX11_feed 18 = .ok (.iconst (-1), 1) := by decide +kernel
theorem dX11_feed_19 : decode cX11_feed 19 = .ok (.ireturn, 1) := by decide +kernel
theorem dX11_feed_20 : decode cX11_feed 20 = .ok (.aload_n 0, 1) := by decide +kernel
theorem dX11_feed_21 : decode cX11_feed 21 = .ok (.iload_n 1, 1) := by decide +kernel
theorem dX11_feed_22 : decode cX11_feed 22 = .ok (.invokevirtual 189, 3) := by decide +kernel
theorem dX11_feed_25 : decode cX11_feed 25 = .ok (.aload_n 0, 1) := by decide +kernel
theorem dX11_feed_26 : decode cX11_feed 26 = .ok (.iload_n 2, 1) := by decide +kernel
theorem dX11_feed_27 : decode cX11_feed 27 = .ok (.invokevirtual 189, 3) := by decide +kernel
theorem dX11_feed_30 : decode cX11_feed 30 = .ok (.aload_n 0, 1) := by decide +kernel
theorem dX11_feed_31 : decode cX11_feed 31 = .ok (.iload_n 3, 1) := by decide +kernel
theorem dX11_feed_32 : decode cX11_feed 32 = .ok (.invokevirtual 189, 3) := by decide +kernel
theorem dX11_feed_35 : decode cX11_feed 35 = .ok (.aload_n 0, 1) := by decide +kernel
theorem dX11_feed_36 : decode cX11_feed 36 = .ok (.iload 4, 2) := by decide +kernel
theorem dX11_feed_38 : decode cX11_feed 38 = .ok (.invokevirtual 189, 3) := by decide +kernel
theorem dX11_feed_41 : decode cX11_feed 41 = .ok (.aload_n 0, 1) := by decide +kernel
theorem dX11_feed_42 : decode cX11_feed 42 = .ok (.iload 5, 2) := by decide +kernel
theorem dX11_feed_44 : decode cX11_feed 44 = .ok (.invokevirtual 189, 3) := by decide +kernel
theorem dX11_feed_47 : decode cX11_feed 47 = .ok (.aload_n 0, 1) := by decide +kernel
theorem dX11_feed_48 : decode cX11_feed 48 = .ok (.getfield 186, 3) := by decide +kernel
theorem dX11_feed_51 : decode cX11_feed 51 = .ok (.ireturn, 1) := by decide +kernel
theorem dX11_four_0 : decode cX11_four 0 = .ok (.bipush 24, 2) := by decide +kernel
theorem dX11_four_2 : decode cX11_four 2 = .ok (.istore_n 2, 1) := by decide +kernel
theorem dX11_four_3 : decode cX11_four 3 = .ok (.iload_n 2, 1) := by decide +kernel
theorem dX11_four_4 : decode cX11_four 4 = .ok (.ifCond .lt 32, 3) := by decide +kernel
theorem dX11_four_7 : decode cX11_four 7 = .ok (.aload_n 0, 1) := by decide +kernel
theorem dX11_four_8 : decode cX11_four 8 = .ok (.getfield 7, 3) := by decide +kernel
theorem dX11_four_11 : decode cX11_four 11 = .ok (.aload_n 0, 1) := by decide +kernel
theorem dX11_four_12 : decode cX11_four 12 = .ok (.getfield 186, 3) := by decide +kernel
theorem dX11_four_15 : decode cX11_four 15 = .ok (.iload_n 1, 1) := by decide +kernel
theorem dX11_four_16 : decode cX11_four 16 = .ok (.iload_n 2, 1) := by decide +kernel
theorem dX11_four_17 : decode cX11_four 17 = .ok (.ishr, 1) := by decide +kernel
theorem dX11_four_18 : decode cX11_four 18 = .ok (.i2b, 1) := by decide +kernel
theorem dX11_four_19 : decode cX11_four 19 = .ok (.bastore, 1) := by decide +kernel
theorem dX11_four_20 : decode cX11_four 20 = .ok (.aload_n 0, 1) := by decide +kernel
theorem dX11_four_21 : decode cX11_four 21 = .ok (.dup, 1) := by decide +kernel
theorem dX11_four_22 : decode cX11_four 22 = .ok (.getfield 186, 3) := by decide +kernel
theorem dX11_four_25 : decode cX11_four 25 = .ok (.iconst 1, 1) := by decide +kernel
theorem dX11_four_26 : decode cX11_four 26 = .ok (.iadd, 1) := by decide +kernel
theorem dX11_four_27 : decode cX11_four 27 = .ok (.putfield 186, 3) := by decide +kernel
theorem dX11_four_30 : decode cX11_four 30 = .ok (.iinc 2 (-8), 3) := by decide +kernel
theorem dX11_four_33 : decode cX11_four 33 = .ok (.goto (-30), 3) := by decide +kernel
theorem dX11_four_36 : decode cX11_four 36 = .ok (.return_, 1) := by decide +kernel
set_option maxRecDepth 20000 in
theorem ggX11_end_X11_in : GoodIn wsX11_end wsX11_in := goodIn_r _ [6] (by decide +kernel) (by decide +kernel)
set_option maxRecDepth 20000 in
theorem gX11_end_X11_in : GoodIn wsX11_end (va_wsS RX11 193 yX11_in wsX11_in) := goodIn_app (goodIn_of _ (by decide +kernel)) ggX11_end_X11_in
theorem dX11_end_0 : decode cX11_end 0 = .ok (.aload_n 0, 1) := by decide +kernel
theorem dX11_end_1 : decode cX11_end 1 = .ok (.iconst 0, 1) := by decide +kernel
theorem dX11_end_2 : decode cX11_end 2 = .ok (.putfield 179, 3) := by decide +kernel
theorem dX11_end_5 : decode cX11_end 5 = .ok (.iload_n 1, 1) := by decide +kernel
theorem dX11_end_6 : decode cX11_end 6 = .ok (.iconst 0, 1) := by decide +kernel
theorem dX11_end_7 : decode cX11_end 7 = .ok (.aload_n 0, 1) := by decide +kernel
theorem dX11_end_8 : decode cX11_end 8 = .ok (.getfield 186, 3) := by decide +kernel
theorem dX11_end_11 : decode cX11_end 11 = .ok (.invokestatic 193, 3) := by decide +kernel
theorem dX11_end_14 : decode cX11_end 14 = .ok (.ifCond .ne 5, 3) := by decide +kernel
theorem dX11_end_17 : decode cX11_end 17 = .ok (.iconst (-1), 1) := by decide +kernel
theorem dX11_end_18 : decode cX11_end 18 = .ok (.ireturn, 1) := by decide +kernel
theorem dX11_end_19 : decode cX11_end 19 = .ok (.aload_n 0, 1) := by decide +kernel
theorem dX11_end_20 : decode cX11_end 20 = .ok (.iload_n 1, 1) := by decide +kernel
theorem dX11_end_21 : decode cX11_end 21 = .ok (.putfield 186, 3) := by decide +kernel
theorem dX11_end_24 : decode cX11_end 24 = .ok (.iload_n 1, 1) := by decide +kernel
theorem dX11_end_25 : decode cX11_end 25 = .ok (.ireturn, 1) := by decide +kernel
theorem dX11_see_0 : decode cX11_see 0 = .ok (.aload_n 0, 1) := by decide +kernel
theorem dX11_see_1 : decode cX11_see 1 = .ok (.getfield 197, 3) := by decide +kernel
theorem dX11_see_4 : decode cX11_see 4 = .ok (.aload_n 0, 1) := by decide +kernel
theorem dX11_see_5 : decode cX11_see 5 = .ok (.getfield 200, 3) := by decide +kernel
theorem dX11_see_8 : decode cX11_see 8 = .ok (.if_icmp .ge 19, 3) := by decide +kernel
theorem dX11_see_11 : decode cX11_see 11 = .ok (.aload_n 0, 1) := by decide +kernel
theorem dX11_see_12 : decode cX11_see 12 = .ok (.getfield 7, 3) := by decide +kernel
theorem dX11_see_15 : decode cX11_see 15 = .ok (.aload_n 0, 1) := by decide +kernel
theorem dX11_see_16 : decode cX11_see 16 = .ok (.getfield 197, 3) := by decide +kernel
theorem dX11_see_19 : decode cX11_see 19 = .ok (.baload, 1) := by decide +kernel
theorem dX11_see_20 : decode cX11_see 20 = .ok (.sipush 255, 3) := by decide +kernel
theorem dX11_see_23 : decode cX11_see 23 = .ok (.iand, 1) := by decide +kernel
theorem dX11_see_24 : decode cX11_see 24 = .ok (.goto 4, 3) := by decide +kernel
theorem dX11_see_27 : decode cX11_see 27 = .ok (.iconst (-1), 1) := by decide +kernel
theorem dX11_see_28 : decode cX11_see 28 = .ok (.ireturn, 1) := by decide +kernel
set_option maxRecDepth 20000 in
theorem ggX11_next_X11_see : GoodIn wsX11_next wsX11_see := goodIn_r _ [10, 1, 11, 12, 16, 17, 18, 19, 20, 21, 22, 23, 24, 25, 26, 27, 28, 29, 30, 31, 32, 33, 34, 35, 36, 37, 38, 39, 40, 41, 42, 43, 44, 45, 46, 47, 48, 49, 50, 51, 52, 53, 54, 55, 56, 57, 58, 59, 60, 61, 62, 63, 64, 65, 66, 67, 68, 69, 70, 71, 72, 73, 74] (by decide +kernel) (by decide +kernel)
set_option maxRecDepth 20000 in
theorem gX11_next_X11_see : GoodIn wsX11_next (wsV RX11 203 RX11 yX11_see wsX11_see) := goodIn_app (goodIn_of _ (by decide +kernel)) ggX11_next_X11_see
set_option maxRecDepth 20000 in
theorem ggX11_next_X11_in : GoodIn wsX11_next wsX11_in := goodIn_r _ [15] (by decide +kernel) (by decide +kernel)
set_option maxRecDepth 20000 in
theorem gX11_next_X11_in : GoodIn wsX11_next (va_wsS RX11 193 yX11_in wsX11_in) := goodIn_app (goodIn_of _ (by decide +kernel)) ggX11_next_X11_in
theorem dX11_next_0 : decode cX11_next 0 = .ok (.aload_n 0, 1) := by decide +kernel
theorem dX11_next_1 : decode cX11_next 1 = .ok (.invokevirtual 203, 3) := by decide +kernel
theorem dX11_next_4 : decode cX11_next 4 = .ok (.bipush 10, 2) := by decide +kernel
theorem dX11_next_6 : decode cX11_next 6 = .ok (.if_icmp .eq 12, 3) := by decide +kernel
theorem dX11_next_9 : decode cX11_next 9 = .ok (.aload_n 0, 1) := by decide +kernel
theorem dX11_next_10 : decode cX11_next 10 = .ok (.invokevirtual 203, 3) := by decide +kernel
theorem dX11_next_13 : decode cX11_next 13 = .ok (.bipush 32, 2) := by decide +kernel
theorem dX11_next_15 : decode cX11_next 15 = .ok (.if_icmp .ne 16, 3) := by decide +kernel
theorem dX11_next_18 : decode cX11_next 18 = .ok (.aload_n 0, 1) := by decide +kernel
theorem dX11_next_19 : decode cX11_next 19 = .ok (.dup, 1) := by decide +kernel
theorem dX11_next_20 : decode cX11_next 20 = .ok (.getfield 197, 3) := by decide +kernel
theorem dX11_next_23 : decode cX11_next 23 = .ok (.iconst 1, 1) := by decide +kernel
theorem dX11_next_24 : decode cX11_next 24 = .ok (.iadd, 1) := by decide +kernel
theorem dX11_next_25 : decode cX11_next 25 = .ok (.putfield 197, 3) := by decide +kernel
theorem dX11_next_28 : decode cX11_next 28 = .ok (.goto (-28), 3) := by decide +kernel
theorem dX11_next_31 : decode cX11_next 31 = .ok (.aload_n 0, 1) := by decide +kernel
theorem dX11_next_32 : decode cX11_next 32 = .ok (.aload_n 0, 1) := by decide +kernel
theorem dX11_next_33 : decode cX11_next 33 = .ok (.getfield 197, 3) := by decide +kernel
theorem dX11_next_36 : decode cX11_next 36 = .ok (.putfield 207, 3) := by decide +kernel
theorem dX11_next_39 : decode cX11_next 39 = .ok (.aload_n 0, 1) := by decide +kernel
theorem dX11_next_40 : decode cX11_next 40 = .ok (.invokevirtual 203, 3) := by decide +kernel
theorem dX11_next_43 : decode cX11_next 43 = .ok (.istore_n 1, 1) := by decide +kernel
theorem dX11_next_44 : decode cX11_next 44 = .ok (.aload_n 0, 1) := by decide +kernel
theorem dX11_next_45 : decode cX11_next 45 = .ok (.iload_n 1, 1) := by decide +kernel
theorem dX11_next_46 : decode cX11_next 46 = .ok (.putfield 210, 3) := by decide +kernel
theorem dX11_next_49 : decode cX11_next 49 = .ok (.iload_n 1, 1) := by decide +kernel
theorem dX11_next_50 : decode cX11_next 50 = .ok (.ifCond .ge 11, 3) := by decide +kernel
theorem dX11_next_53 : decode cX11_next 53 = .ok (.aload_n 0, 1) := by decide +kernel
theorem dX11_next_54 : decode cX11_next 54 = .ok (.iconst 0, 1) := by decide +kernel
theorem dX11_next_55 : decode cX11_next 55 = .ok (.putfield 213, 3) := by decide +kernel
theorem dX11_next_58 : decode cX11_next 58 = .ok (.goto 270, 3) := by decide +kernel
theorem dX11_next_61 : decode cX11_next 61 = .ok (.iload_n 1, 1) := by decide +kernel
theorem dX11_next_62 : decode cX11_next 62 = .ok (.bipush 97, 2) := by decide +kernel
theorem dX11_next_64 : decode cX11_next 64 = .ok (.bipush 122, 2) := by decide +kernel
theorem dX11_next_66 : decode cX11_next 66 = .ok (.invokestatic 193, 3) := by decide +kernel
theorem dX11_next_69 : decode cX11_next 69 = .ok (.ifCond .eq 108, 3) := by decide +kernel
theorem dX11_next_72 : decode cX11_next 72 = .ok (.iconst 0, 1) := by decide +kernel
theorem dX11_next_73 : decode cX11_next 73 = .ok (.istore_n 2, 1) := by decide +kernel
theorem dX11_next_74 : decode cX11_next 74 = .ok (.lconst 0, 1) := by decide +kernel
theorem dX11_next_75 : decode cX11_next 75 = .ok (.lstore_n 3, 1) := by decide +kernel
theorem dX11_next_76 : decode cX11_next 76 = .ok (.aload_n 0, 1) := by decide +kernel
theorem dX11_next_77 : decode cX11_next 77 = .ok (.invokevirtual 203, 3) := by decide +kernel
theorem dX11_next_80 : decode cX11_next 80 = .ok (.bipush 97, 2) := by decide +kernel
theorem dX11_next_82 : decode cX11_next 82 = .ok (.bipush 122, 2) := by decide +kernel
theorem dX11_next_84 : decode cX11_next 84 = .ok (.invokestatic 193, 3) := by decide +kernel
theorem dX11_next_87 : decode cX11_next 87 = .ok (.ifCond .eq 30, 3) := by decide +kernel
theorem dX11_next_90 : decode cX11_next 90 = .ok (.lload_n 3, 1) := by decide +kernel
theorem dX11_next_91 : decode cX11_next 91 = .ok (.bipush 8, 2) := by decide +kernel
theorem dX11_next_93 : decode cX11_next 93 = .ok (.lshl, 1) := by decide +kernel
theorem dX11_next_94 : decode cX11_next 94 = .ok (.aload_n 0, 1) := by decide +kernel
theorem dX11_next_95 : decode cX11_next 95 = .ok (.invokevirtual 203, 3) := by decide +kernel
theorem dX11_next_98 : decode cX11_next 98 = .ok (.i2l, 1) := by decide +kernel
theorem dX11_next_99 : decode cX11_next 99 = .ok (.lor, 1) := by decide +kernel
theorem dX11_next_100 : decode cX11_next 100 = .ok (.lstore_n 3, 1) := by decide +kernel
theorem dX11_next_101 : decode cX11_next 101 = .ok (.aload_n 0, 1) := by decide +kernel
theorem dX11_next_102 : decode cX11_next 102 = .ok (.dup, 1) := by decide +kernel
theorem dX11_next_103 : decode cX11_next 103 = .ok (.getfield 197, 3) := by decide +kernel
theorem dX11_next_106 : decode cX11_next 106 = .ok (.iconst 1, 1) := by decide +kernel
theorem dX11_next_107 : decode cX11_next 107 = .ok (.iadd, 1) := by decide +kernel
theorem dX11_next_108 : decode cX11_next 108 = .ok (.putfield 197, 3) := by decide +kernel
theorem dX11_next_111 : decode cX11_next 111 = .ok (.iinc 2 1, 3) := by decide +kernel
theorem dX11_next_114 : decode cX11_next 114 = .ok (.goto (-38), 3) := by decide +kernel
theorem dX11_next_117 : decode cX11_next 117 = .ok (.aload_n 0, 1) := by decide +kernel
theorem dX11_next_118 : decode cX11_next 118 = .ok (.iconst 2, 1) := by decide +kernel
theorem dX11_next_119 : decode cX11_next 119 = .ok (.putfield 213, 3) := by decide +kernel
theorem dX11_next_122 : decode cX11_next 122 = .ok (.aload_n 0, 1) := by decide +kernel
theorem dX11_next_123 : decode cX11_next 123 = .ok (.iconst (-1), 1) := by decide +kernel
theorem dX11_next_124 : decode cX11_next 124 = .ok (.putfield 210, 3) := by decide +kernel
theorem dX11_next_127 : decode cX11_next 127 = .ok (.iconst 0, 1) := by decide +kernel
theorem dX11_next_128 : decode cX11_next 128 = .ok (.istore 5, 2) := by decide +kernel
theorem dX11_next_130 : decode cX11_next 130 = .ok (.iload 5, 2) := by decide +kernel
theorem dX11_next_132 : decode cX11_next 132 = .ok (.bipush 15, 2) := by decide +kernel
theorem dX11_next_134 : decode cX11_next 134 = .ok (.if_icmp .ge 40, 3) := by decide +kernel
theorem dX11_next_137 : decode cX11_next 137 = .ok (.iload_n 2, 1) := by decide +kernel
theorem dX11_next_138 : decode cX11_next 138 = .ok (.bipush 8, 2) := by decide +kernel
theorem dX11_next_140 : decode cX11_next 140 = .ok (.if_icmp .ge 34, 3) := by decide +kernel
theorem dX11_next_143 : decode cX11_next 143 = .ok (.aload_n 0, 1) := by decide +kernel
theorem dX11_next_144 : decode cX11_next 144 = .ok (.aload_n 0, 1) := by decide +kernel
theorem dX11_next_145 : decode cX11_next 145 = .ok (.getfield 13, 3) := by decide +kernel
theorem dX11_next_148 : decode cX11_next 148 = .ok (.iload 5, 2) := by decide +kernel
theorem dX11_next_150 : decode cX11_next 150 = .ok (.laload, 1) := by decide +kernel
theorem dX11_next_151 : decode cX11_next 151 = .ok (.lload_n 3, 1) := by decide +kernel
theorem dX11_next_152 : decode cX11_next 152 = .ok (.lcmp, 1) := by decide +kernel
theorem dX11_next_153 : decode cX11_next 153 = .ok (.ifCond .ne 8, 3) := by decide +kernel
theorem dX11_next_156 : decode cX11_next 156 = .ok (.iload 5, 2) := by decide +kernel
theorem dX11_next_158 : decode cX11_next 158 = .ok (.goto 7, 3) := by decide +kernel
theorem dX11_next_161 : decode cX11_next 161 = .ok (.aload_n 0, 1) := by decide +kernel
theorem dX11_next_162 : decode cX11_next 162 = .ok (.getfield 210, 3) := by decide +kernel
theorem dX11_next_165 : decode cX11_next 165 = .ok (.putfield 210, 3) := by decide +kernel
theorem dX11_next_168 : decode cX11_next 168 = .ok (.iinc 5 1, 3) := by decide +kernel
theorem dX11_next_171 : decode cX11_next 171 = .ok (.goto (-41), 3) := by decide +kernel
theorem dX11_next_174 : decode cX11_next 174 = .ok (.goto 154, 3) := by decide +kernel
theorem dX11_next_177 : decode cX11_next 177 = .ok (.iload_n 1, 1) := by decide +kernel
theorem dX11_next_178 : decode cX11_next 178 = .ok (.bipush 48, 2) := by decide +kernel
theorem dX11_next_180 : decode cX11_next 180 = .ok (.bipush 57, 2) := by decide +kernel
theorem dX11_next_182 : decode cX11_next 182 = .ok (.invokestatic 193, 3) := by decide +kernel
theorem dX11_next_185 : decode cX11_next 185 = .ok (.ifCond .eq 88, 3) := by decide +kernel
theorem dX11_next_188 : decode cX11_next 188 = .ok (.iconst 0, 1) := by decide +kernel
theorem dX11_next_189 : decode cX11_next 189 = .ok (.istore_n 2, 1) := by decide +kernel
theorem dX11_next_190 : decode cX11_next 190 = .ok (.aload_n 0, 1) := by decide +kernel
theorem dX11_next_191 : decode cX11_next 191 = .ok (.iconst 0, 1) := by decide +kernel
theorem dX11_next_192 : decode cX11_next 192 = .ok (.putfield 210, 3) := by decide +kernel
theorem dX11_next_195 : decode cX11_next 195 = .ok (.aload_n 0, 1) := by decide +kernel
theorem dX11_next_196 : decode cX11_next 196 = .ok (.invokevirtual 203, 3) := by decide +kernel
theorem dX11_next_199 : decode cX11_next 199 = .ok (.bipush 48, 2) := by decide +kernel
theorem dX11_next_201 : decode cX11_next 201 = .ok (.bipush 57, 2) := by decide +kernel
theorem dX11_next_203 : decode cX11_next 203 = .ok (.invokestatic 193, 3) := by decide +kernel
theorem dX11_next_206 : decode cX11_next 206 = .ok (.ifCond .eq 50, 3) := by decide +kernel
theorem dX11_next_209 : decode cX11_next 209 = .ok (.aload_n 0, 1) := by decide +kernel
theorem dX11_next_210 : decode cX11_next 210 = .ok (.iload_n 2, 1) := by decide +kernel
theorem dX11_next_211 : decode cX11_next 211 = .ok (.iconst 5, 1) := by decide +kernel
theorem dX11_next_212 : decode cX11_next 212 = .ok (.if_icmp .ge 21, 3) := by decide +kernel
theorem dX11_next_215 : decode cX11_next 215 = .ok (.bipush 10, 2) := by decide +kernel
theorem dX11_next_217 : decode cX11_next 217 = .ok (.aload_n 0, 1) := by decide +kernel
theorem dX11_next_218 : decode cX11_next 218 = .ok (.getfield 210, 3) := by decide +kernel
theorem dX11_next_221 : decode cX11_next 221 = .ok (.imul, 1) := by decide +kernel
theorem dX11_next_222 : decode cX11_next 222 = .ok (.aload_n 0, 1) := by decide +kernel
theorem dX11_next_223 : decode cX11_next 223 = .ok (.invokevirtual 203, 3) := by decide +kernel
theorem dX11_next_226 : decode cX11_next 226 = .ok (.iadd, 1) := by decide +kernel
theorem dX11_next_227 : decode cX11_next 227 = .ok (.bipush 48, 2) := by decide +kernel
theorem dX11_next_229 : decode cX11_next 229 = .ok (.isub, 1) := by decide +kernel
theorem dX11_next_230 : decode cX11_next 230 = .ok (.goto 7, 3) := by decide +kernel
theorem dX11_next_233 : decode cX11_next 233 = .ok (.aload_n 0, 1) := by decide +kernel
theorem dX11_next_234 : decode cX11_next 234 = .ok (.getfield 210, 3) := by decide +kernel
theorem dX11_next_237 : decode cX11_next 237 = .ok (.putfield 210, 3) := by decide +kernel
theorem dX11_next_240 : decode cX11_next 240 = .ok (.aload_n 0, 1) := by decide +kernel
theorem dX11_next_241 : decode cX11_next 241 = .ok (.dup, 1) := by decide +kernel
theorem dX11_next_242 : decode cX11_next 242 = .ok (.getfield 197, 3) := by decide +kernel
theorem dX11_next_245 : decode cX11_next 245 = .ok (.iconst 1, 1) := by decide +kernel
theorem dX11_next_246 : decode cX11_next 246 = .ok (.iadd, 1) := by decide +kernel
theorem dX11_next_247 : decode cX11_next 247 = .ok (.putfield 197, 3) := by decide +kernel
theorem dX11_next_250 : decode cX11_next 250 = .ok (.iinc 2 1, 3) := by decide +kernel
theorem dX11_next_253 : decode cX11_next 253 = .ok (.goto (-58), 3) := by decide +kernel
theorem dX11_next_256 : decode cX11_next 256 = .ok (.aload_n 0, 1) := by decide +kernel
theorem dX11_next_257 : decode cX11_next 257 = .ok (.iload_n 2, 1) := by decide +kernel
theorem dX11_next_258 : decode cX11_next 258 = .ok (.iconst 5, 1) := by decide +kernel
theorem dX11_next_259 : decode cX11_next 259 = .ok (.if_icmp .le 7, 3) := by decide +kernel
theorem dX11_next_262 : decode cX11_next 262 = .ok (.iconst 1, 1) := by decide +kernel
theorem dX11_next_263 : decode cX11_next 263 = .ok (.goto 4, 3) := by decide +kernel
theorem dX11_next_266 : decode cX11_next 266 = .ok (.iconst 3, 1) := by decide +kernel
theorem dX11_next_267 : decode cX11_next 267 = .ok (.putfield 213, 3) := by decide +kernel
theorem dX11_next_270 : decode cX11_next 270 = .ok (.goto 58, 3) := by decide +kernel
theorem dX11_next_273 : decode cX11_next 273 = .ok (.aload_n 0, 1) := by decide +kernel
theorem dX11_next_274 : decode cX11_next 274 = .ok (.dup, 1) := by decide +kernel
theorem dX11_next_275 : decode cX11_next 275 = .ok (.getfield 197, 3) := by decide +kernel
theorem dX11_next_278 : decode cX11_next 278 = .ok (.iconst 1, 1) := by decide +kernel
theorem dX11_next_279 : decode cX11_next 279 = .ok (.iadd, 1) := by decide +kernel
theorem dX11_next_280 : decode cX11_next 280 = .ok (.putfield 197, 3) := by decide +kernel
theorem dX11_next_283 : decode cX11_next 283 = .ok (.aload_n 0, 1) := by decide +kernel
theorem dX11_next_284 : decode cX11_next 284 = .ok (.iload_n 1, 1) := by decide +kernel
theorem dX11_next_285 : decode cX11_next 285 = .ok (.bipush 58, 2) := by decide +kernel
theorem dX11_next_287 : decode cX11_next 287 = .ok (.if_icmp .eq 33, 3) := by decide +kernel
theorem dX11_next_290 : decode cX11_next 290 = .ok (.iload_n 1, 1) := by decide +kernel
theorem dX11_next_291 : decode cX11_next 291 = .ok (.bipush 59, 2) := by decide +kernel
theorem dX11_next_293 : decode cX11_next 293 = .ok (.if_icmp .eq 27, 3) := by decide +kernel
theorem dX11_next_296 : decode cX11_next 296 = .ok (.iload_n 1, 1) := by decide +kernel
theorem dX11_next_297 : decode cX11_next 297 = .ok (.bipush 47, 2) := by decide +kernel
theorem dX11_next_299 : decode cX11_next 299 = .ok (.if_icmp .eq 21, 3) := by decide +kernel
theorem dX11_next_302 : decode cX11_next 302 = .ok (.iload_n 1, 1) := by decide +kernel
theorem dX11_next_303 : decode cX11_next 303 = .ok (.bipush 60, 2) := by decide +kernel
theorem dX11_next_305 : decode cX11_next 305 = .ok (.if_icmp .eq 15, 3) := by decide +kernel
theorem dX11_next_308 : decode cX11_next 308 = .ok (.iload_n 1, 1) := by decide +kernel
theorem dX11_next_309 : decode cX11_next 309 = .ok (.bipush 62, 2) := by decide +kernel
theorem dX11_next_311 : decode cX11_next 311 = .ok (.if_icmp .eq 9, 3) := by decide +kernel
theorem dX11_next_314 : decode cX11_next 314 = .ok (.iload_n 1, 1) := by decide +kernel
theorem dX11_next_315 : decode cX11_next 315 = .ok (.bipush 61, 2) := by decide +kernel
theorem dX11_next_317 : decode cX11_next 317 = .ok (.if_icmp .ne 7, 3) := by decide +kernel
theorem dX11_next_320 : decode cX11_next 320 = .ok (.iconst 4, 1) := by decide +kernel
theorem dX11_next_321 : decode cX11_next 321 = .ok (.goto 4, 3) := by decide +kernel
theorem dX11_next_324 : decode cX11_next 324 = .ok (.iconst 1, 1) := by decide +kernel
theorem dX11_next_325 : decode cX11_next 325 = .ok (.putfield 213, 3) := by decide +kernel
theorem dX11_next_328 : decode cX11_next 328 = .ok (.return_, 1) := by decide +kernel
theorem dX11_isSign_0 : decode cX11_isSign 0 = .ok (.aload_n 0, 1) := by decide +kernel
theorem dX11_isSign_1 : decode cX11_isSign 1 = .ok (.getfield 213, 3) := by decide +kernel
theorem dX11_isSign_4 : decode cX11_isSign 4 = .ok (.iconst 4, 1) := by decide +kernel
theorem dX11_isSign_5 : decode cX11_isSign 5 = .ok (.if_icmp .ne 15, 3) := by decide +kernel
theorem dX11_isSign_8 : decode cX11_isSign 8 = .ok (.aload_n 0, 1) := by decide +kernel
theorem dX11_isSign_9 : decode cX11_isSign 9 = .ok (.getfield 210, 3) := by decide +kernel
theorem dX11_isSign_12 : decode cX11_isSign 12 = .ok (.iload_n 1, 1) := by decide +kernel
theorem dX11_isSign_13 : decode cX11_isSign 13 = .ok (.if_icmp .ne 7, 3) := by decide +kernel
theorem dX11_isSign_16 : decode cX11_isSign 16 = .ok (.iconst 1, 1) := by decide +kernel
theorem dX11_isSign_17 : decode cX11_isSign 17 = .ok (.goto 4, 3) := by decide +kernel
theorem dX11_isSign_20 : decode cX11_isSign 20 = .ok (.iconst 0, 1) := by decide +kernel
theorem dX11_isSign_21 : decode cX11_isSign 21 = .ok (.ireturn, 1) := by decide +kernel
theorem dX11_isWord_0 : decode cX11_isWord 0 = .ok (.aload_n 0, 1) := by decide +kernel
theorem dX11_isWord_1 : decode cX11_isWord 1 = .ok (.getfield 213, 3) := by decide +kernel
theorem dX11_isWord_4 : decode cX11_isWord 4 = .ok (.iconst 2, 1) := by decide +kernel
theorem dX11_isWord_5 : decode cX11_isWord 5 = .ok (.if_icmp .ne 15, 3) := by decide +kernel
theorem dX11_isWord_8 : decode cX11_isWord 8 = .ok (.aload_n 0, 1) := by decide +kernel
theorem dX11_isWord_9 : decode cX11_isWord 9 = .ok (.getfield 210, 3) := by decide +kernel
theorem dX11_isWord_12 : decode cX11_isWord 12 = .ok (.iload_n 1, 1) := by decide +kernel
theorem dX11_isWord_13 : decode cX11_isWord 13 = .ok (.if_icmp .ne 7, 3) := by decide +kernel
theorem dX11_isWord_16 : decode cX11_isWord 16 = .ok (.iconst 1, 1) := by decide +kernel
theorem dX11_isWord_17 : decode cX11_isWord 17 = .ok (.goto 4, 3) := by decide +kernel
theorem dX11_isWord_20 : decode cX11_isWord 20 = .ok (.iconst 0, 1) := by decide +kernel
theorem dX11_isWord_21 : decode cX11_isWord 21 = .ok (.ireturn, 1) := by decide +kernel
theorem dX11_wrong_0 : decode cX11_wrong 0 = .ok (.aload_n 0, 1) := by decide +kernel
theorem dX11_wrong_1 : decode cX11_wrong 1 = .ok (.iconst 1, 1) := by decide +kernel
theorem dX11_wrong_2 : decode cX11_wrong 2 = .ok (.putfield 216, 3) := by decide +kernel
theorem dX11_wrong_5 : decode cX11_wrong 5 = .ok (.aload_n 0, 1) := by decide +kernel
theorem dX11_wrong_6 : decode cX11_wrong 6 = .ok (.aload_n 0, 1) := by decide +kernel
theorem dX11_wrong_7 : decode cX11_wrong 7 = .ok (.getfield 207, 3) := by decide +kernel
theorem dX11_wrong_10 : decode cX11_wrong 10 = .ok (.putfield 111, 3) := by decide +kernel
theorem dX11_wrong_13 : decode cX11_wrong 13 = .ok (.iconst 0, 1) := by decide +kernel
theorem dX11_wrong_14 : decode cX11_wrong 14 = .ok (.ireturn, 1) := by decide +kernel
theorem dX11_note_0 : decode cX11_note 0 = .ok (.aload_n 0, 1) := by decide +kernel
theorem dX11_note_1 : decode cX11_note 1 = .ok (.getfield 219, 3) := by decide +kernel
theorem dX11_note_4 : decode cX11_note 4 = .ok (.ifCond .ne 13, 3) := by decide +kernel
theorem dX11_note_7 : decode cX11_note 7 = .ok (.aload_n 0, 1) := by decide +kernel
theorem dX11_note_8 : decode cX11_note 8 = .ok (.iload_n 1, 1) := by decide +kernel
theorem dX11_note_9 : decode cX11_note 9 = .ok (.putfield 219, 3) := by decide +kernel
theorem dX11_note_12 : decode cX11_note 12 = .ok (.aload_n 0, 1) := by decide +kernel
theorem dX11_note_13 : decode cX11_note 13 = .ok (.iload_n 2, 1) := by decide +kernel
theorem dX11_note_14 : decode cX11_note 14 = .ok (.putfield 222, 3) := by decide +kernel
theorem dX11_note_17 : decode cX11_note 17 = .ok (.return_, 1) := by decide +kernel
set_option maxRecDepth 20000 in
theorem ggX11_need_X11_isSign : GoodIn wsX11_need wsX11_isSign := goodIn_r _ [5, 6, 7, 30, 31, 32, 33, 34, 35, 36, 37, 38, 39, 40, 41, 42, 43, 44, 45, 46, 47, 48, 49, 50, 51, 52, 53, 54, 55, 56, 57, 58, 59, 60, 61, 62, 63, 64, 65, 66, 67, 68, 69, 70, 71, 72, 73, 74, 75, 76, 77, 78, 79, 80, 81, 82, 83, 84, 85, 86, 87, 88] (by decide +kernel) (by decide +kernel)
set_option maxRecDepth 20000 in
theorem gX11_need_X11_isSign : GoodIn wsX11_need (wsV RX11 225 RX11 yX11_isSign wsX11_isSign) := goodIn_app (goodIn_of _ (by decide +kernel)) ggX11_need_X11_isSign
set_option maxRecDepth 20000 in
theorem ggX11_need_X11_wrong : GoodIn wsX11_need wsX11_wrong := goodIn_r _ [11, 12, 13, 14, 30, 31, 32, 33, 34, 35, 36, 37, 38, 39, 40, 41, 42, 43, 44, 45, 46, 47, 48, 49, 50, 51, 52, 53, 54, 55, 56, 57, 58, 59, 60, 61, 62, 63, 64, 65, 66, 67, 68, 69, 70, 71, 72, 73, 74, 75, 76, 77, 78, 79, 80, 81, 82, 83, 84, 85, 86, 87, 88] (by decide +kernel) (by decide +kernel)
set_option maxRecDepth 20000 in
theorem gX11_need_X11_wrong : GoodIn wsX11_need (wsV RX11 229 RX11 yX11_wrong wsX11_wrong) := goodIn_app (goodIn_of _ (by decide +kernel)) ggX11_need_X11_wrong
set_option maxRecDepth 20000 in
theorem ggX11_need_X11_next : GoodIn wsX11_need wsX11_next := goodIn_r _ [18, 19, 13, 7, 6, 20, 21, 22, 23, 4, 24, 25, 26, 27, 28, 29, 30, 31, 32, 33, 34, 35, 36, 37, 38, 39, 40, 41, 42, 43, 44, 45, 46, 47, 48, 49, 50, 51, 52, 53, 54, 55, 56, 57, 58, 59, 60, 61, 62, 63, 64, 65, 66, 67, 68, 69, 70, 71, 72, 73, 74, 75, 76, 77, 78, 79, 80, 81, 82, 83, 84, 85, 86, 87, 88] (by decide +kernel) (by decide +kernel)
set_option maxRecDepth 20000 in
theorem gX11_need_X11_next : GoodIn wsX11_need (wsV RX11 233 RX11 yX11_next wsX11_next) := goodIn_app (goodIn_of _ (by decide +kernel)) ggX11_need_X11_next
theorem dX11_need_0 : decode cX11_need 0 = .ok (.aload_n 0, 1) := by decide +kernel
theorem dX11_need_1 : decode cX11_need 1 = .ok (.iload_n 1, 1) := by decide +kernel
theorem dX11_need_2 : decode cX11_need 2 = .ok (.invokevirtual 225, 3) := by decide +kernel
theorem dX11_need_5 : decode cX11_need 5 = .ok (.ifCond .ne 8, 3) := by decide +kernel
theorem dX11_need_8 : decode cX11_need 8 = .ok (.aload_n 0, 1) := by decide +kernel
theorem dX11_need_9 : decode cX11_need 9 = .ok (.invokevirtual 229, 3) := by decide +kernel
theorem dX11_need_12 : decode cX11_need 12 = .ok (.ireturn, 1) := by decide +kernel
theorem dX11_need_13 : decode cX11_need 13 = .ok (.aload_n 0, 1) := by decide +kernel
theorem dX11_need_14 : decode cX11_need 14 = .ok (.invokevirtual 233, 3) := by decide +kernel
theorem dX11_need_17 : decode cX11_need 17 = .ok (.iconst 1, 1) := by decide +kernel
theorem dX11_need_18 : decode cX11_need 18 = .ok (.ireturn, 1) := by decide +kernel
set_option maxRecDepth 20000 in
theorem ggX11_number_X11_wrong : GoodIn wsX11_number wsX11_wrong := goodIn_r _ [8, 9, 10, 11, 27, 28, 29, 30, 31, 32, 33, 34, 35, 36, 37, 38, 39, 40, 41, 42, 43, 44, 45, 46, 47, 48, 49, 50, 51, 52, 53, 54, 55, 56, 57, 58, 59, 60, 61, 62, 63, 64, 65, 66, 67, 68, 69, 70, 71, 72, 73, 74, 75, 76, 77, 78, 79, 80, 81, 82, 83, 84, 85] (by decide +kernel) (by decide +kernel)
set_option maxRecDepth 20000 in
theorem gX11_number_X11_wrong : GoodIn wsX11_number (wsV RX11 229 RX11 yX11_wrong wsX11_wrong) := goodIn_app (goodIn_of _ (by decide +kernel)) ggX11_number_X11_wrong
set_option maxRecDepth 20000 in
theorem ggX11_number_X11_next : GoodIn wsX11_number wsX11_next := goodIn_r _ [15, 16, 10, 2, 1, 17, 18, 19, 20, 7, 21, 22, 23, 24, 25, 26, 27, 28, 29, 30, 31, 32, 33, 34, 35, 36, 37, 38, 39, 40, 41, 42, 43, 44, 45, 46, 47, 48, 49, 50, 51, 52, 53, 54, 55, 56, 57, 58, 59, 60, 61, 62, 63, 64, 65, 66, 67, 68, 69, 70, 71, 72, 73, 74, 75, 76, 77, 78, 79, 80, 81, 82, 83, 84, 85] (by decide +kernel) (by decide +kernel)
set_option maxRecDepth 20000 in
theorem gX11_number_X11_next : GoodIn wsX11_number (wsV RX11 233 RX11 yX11_next wsX11_next) := goodIn_app (goodIn_of _ (by decide +kernel)) ggX11_number_X11_next
theorem dX11_number_0 : decode cX11_number 0 = .ok (.aload_n 0, 1) := by decide +kernel
theorem dX11_number_1 : decode cX11_number 1 = .ok (.getfield 213, 3) := by decide +kernel
theorem dX11_number_4 : decode cX11_number 4 = .ok (.iconst 3, 1) := by decide +kernel
theorem dX11_number_5 : decode cX11_number 5 = .ok (.if_icmp .eq 8, 3) := by decide +kernel
theorem dX11_number_8 : decode cX11_number 8 = .ok (.aload_n 0, 1) := by decide +kernel
theorem dX11_number_9 : decode cX11_number 9 = .ok (.invokevirtual 229, 3) := by decide +kernel
theorem dX11_number_12 : decode cX11_number 12 = .ok (.ireturn, 1) := by decide +kernel
theorem dX11_number_13 : decode cX11_number 13 = .ok (.aload_n 0, 1) := by decide +kernel
theorem dX11_number_14 : decode cX11_number 14 = .ok (.aload_n 0, 1) := by decide +kernel
theorem dX11_number_15 : decode cX11_number 15 = .ok (.getfield 210, 3) := by decide +kernel
theorem dX11_number_18 : decode cX11_number 18 = .ok (.putfield 236, 3) := by decide +kernel
theorem dX11_number_21 : decode cX11_number 21 = .ok (.aload_n 0, 1) := by decide +kernel
theorem dX11_number_22 : decode cX11_number 22 = .ok (.invokevirtual 233, 3) := by decide +kernel
theorem dX11_number_25 : decode cX11_number 25 = .ok (.iconst 1, 1) := by decide +kernel
theorem dX11_number_26 : decode cX11_number 26 = .ok (.ireturn, 1) := by decide +kernel
set_option maxRecDepth 20000 in
theorem ggX11_readLine_X11_note : GoodIn wsX11_readLine wsX11_note := goodIn_r _ [14, 15, 16, 61, 62, 63, 64, 65, 66, 67, 68, 69, 70, 71, 72, 73, 74, 75, 76, 77, 78, 79, 80, 81, 82, 83, 84, 85, 86, 87, 88, 89, 90, 91, 92, 93, 94, 95, 96, 97, 98, 99, 100, 101, 102, 103, 104, 105, 106, 107, 108, 109, 110, 111, 112, 113, 114, 115, 116, 117, 118, 119] (by decide +kernel) (by decide +kernel)
set_option maxRecDepth 20000 in
theorem gX11_readLine_X11_note : GoodIn wsX11_readLine (wsV RX11 242 RX11 yX11_note wsX11_note) := goodIn_app (goodIn_of _ (by decide +kernel)) ggX11_readLine_X11_note
set_option maxRecDepth 20000 in
theorem ggX11_readLine_X11_isWord : GoodIn wsX11_readLine wsX11_isWord := goodIn_r _ [20, 4, 5, 61, 62, 63, 64, 65, 66, 67, 68, 69, 70, 71, 72, 73, 74, 75, 76, 77, 78, 79, 80, 81, 82, 83, 84, 85, 86, 87, 88, 89, 90, 91, 92, 93, 94, 95, 96, 97, 98, 99, 100, 101, 102, 103, 104, 105, 106, 107, 108, 109, 110, 111, 112, 113, 114, 115, 116, 117, 118, 119] (by decide +kernel) (by decide +kernel)
set_option maxRecDepth 20000 in
theorem gX11_readLine_X11_isWord : GoodIn wsX11_readLine (wsV RX11 246 RX11 yX11_isWord wsX11_isWord) := goodIn_app (goodIn_of _ (by decide +kernel)) ggX11_readLine_X11_isWord
set_option maxRecDepth 20000 in
theorem ggX11_readLine_X11_next : GoodIn wsX11_readLine wsX11_next := goodIn_r _ [24, 25, 2, 5, 4, 26, 27, 28, 29, 13, 30, 31, 32, 33, 34, 35, 61, 62, 63, 64, 65, 66, 67, 68, 69, 70, 71, 72, 73, 74, 75, 76, 77, 78, 79, 80, 81, 82, 83, 84, 85, 86, 87, 88, 89, 90, 91, 92, 93, 94, 95, 96, 97, 98, 99, 100, 101, 102, 103, 104, 105, 106, 107, 108, 109, 110, 111, 112, 113, 114, 115, 116, 117, 118, 119] (by decide +kernel) (by decide +kernel)
set_option maxRecDepth 20000 in
theorem gX11_readLine_X11_next : GoodIn wsX11_readLine (wsV RX11 233 RX11 yX11_next wsX11_next) := goodIn_app (goodIn_of _ (by decide +kernel)) ggX11_readLine_X11_next
set_option maxRecDepth 20000 in
theorem ggX11_readLine_X11_test : GoodIn wsX11_readLine wsX11_test := goodIn_r _ [39, 2, 5, 4, 40, 41, 42, 8, 3, 33, 34, 13, 35, 43, 44, 45, 46, 47, 48, 10, 11, 12, 14, 15, 16, 21, 22, 23, 24, 25, 26, 27, 28, 29, 30, 31, 32, 49, 50, 51, 52, 61, 62, 63, 64, 65, 66, 67, 68, 69, 70, 71, 72, 73, 74, 75, 76, 77, 78, 79, 80, 81, 82, 83, 84, 85, 86, 87, 88, 89, 90, 91, 92, 93, 94, 95, 96, 97, 98, 99, 100, 101, 102, 103, 104, 105, 106, 107, 108, 109, 110, 111, 112, 113, 114, 115, 116, 117, 118, 119] (by decide +kernel) (by decide +kernel)
set_option maxRecDepth 20000 in
theorem gX11_readLine_X11_test : GoodIn wsX11_readLine (wsV RX11 249 RX11 yX11_test wsX11_test) := goodIn_app (goodIn_of _ (by decide +kernel)) ggX11_readLine_X11_test
set_option maxRecDepth 20000 in
theorem ggX11_readLine_X11_need : GoodIn wsX11_readLine wsX11_need := goodIn_r _ [56, 57, 58, 59, 13, 60, 4, 5, 43, 44, 45, 46, 47, 2, 48, 21, 22, 23, 24, 25, 26, 27, 28, 29, 30, 31, 32, 33, 34, 35, 61, 62, 63, 64, 65, 66, 67, 68, 69, 70, 71, 72, 73, 74, 75, 76, 77, 78, 79, 80, 81, 82, 83, 84, 85, 86, 87, 88, 89, 90, 91, 92, 93, 94, 95, 96, 97, 98, 99, 100, 101, 102, 103, 104, 105, 106, 107, 108, 109, 110, 111, 112, 113, 114, 115, 116, 117, 118, 119] (by decide +kernel) (by decide +kernel)
set_option maxRecDepth 20000 in
theorem gX11_readLine_X11_need : GoodIn wsX11_readLine (wsV RX11 253 RX11 yX11_need wsX11_need) := goodIn_app (goodIn_of _ (by decide +kernel)) ggX11_readLine_X11_need
set_option maxRecDepth 20000 in
theorem ggX11_readLine_X11_in : GoodIn wsX11_readLine wsX11_in := goodIn_r _ [35] (by decide +kernel) (by decide +kernel)
set_option maxRecDepth 20000 in
theorem gX11_readLine_X11_in : GoodIn wsX11_readLine (va_wsS RX11 193 yX11_in wsX11_in) := goodIn_app (goodIn_of _ (by decide +kernel)) ggX11_readLine_X11_in
set_option maxRecDepth 20000 in
theorem ggX11_readLine_X11_wrong : GoodIn wsX11_readLine wsX11_wrong := goodIn_r _ [46, 47, 2, 48, 61, 62, 63, 64, 65, 66, 67, 68, 69, 70, 71, 72, 73, 74, 75, 76, 77, 78, 79, 80, 81, 82, 83, 84, 85, 86, 87, 88, 89, 90, 91, 92, 93, 94, 95, 96, 97, 98, 99, 100, 101, 102, 103, 104, 105, 106, 107, 108, 109, 110, 111, 112, 113, 114, 115, 116, 117, 118, 119] (by decide +kernel) (by decide +kernel)
set_option maxRecDepth 20000 in
theorem gX11_readLine_X11_wrong : GoodIn wsX11_readLine (wsV RX11 229 RX11 yX11_wrong wsX11_wrong) := goodIn_app (goodIn_of _ (by decide +kernel)) ggX11_readLine_X11_wrong
set_option maxRecDepth 20000 in
theorem ggX11_readLine_X11_number : GoodIn wsX11_readLine wsX11_number := goodIn_r _ [52, 4, 5, 8, 43, 44, 45, 13, 46, 47, 2, 48, 21, 22, 23, 24, 25, 26, 27, 28, 29, 30, 31, 32, 33, 34, 35, 61, 62, 63, 64, 65, 66, 67, 68, 69, 70, 71, 72, 73, 74, 75, 76, 77, 78, 79, 80, 81, 82, 83, 84, 85, 86, 87, 88, 89, 90, 91, 92, 93, 94, 95, 96, 97, 98, 99, 100, 101, 102, 103, 104, 105, 106, 107, 108, 109, 110, 111, 112, 113, 114, 115, 116, 117, 118, 119] (by decide +kernel) (by decide +kernel)
set_option maxRecDepth 20000 in
theorem gX11_readLine_X11_number : GoodIn wsX11_readLine (wsV RX11 256 RX11 yX11_number wsX11_number) := goodIn_app (goodIn_of _ (by decide +kernel)) ggX11_readLine_X11_number
theorem dX11_readLine_0 : decode cX11_readLine 0 = .ok (.aload_n 0, 1) := by decide +kernel
theorem dX11_readLine_1 : decode cX11_readLine 1 = .ok (.getfield 239, 3) := by decide +kernel
theorem dX11_readLine_4 : decode cX11_readLine 4 = .ok (.bipush 16, 2) := by decide +kernel
theorem dX11_readLine_6 : decode cX11_readLine 6 = .ok (.if_icmp .ge 10, 3) := by decide +kernel
theorem dX11_readLine_9 : decode cX11_readLine 9 = .ok (.aload_n 0, 1) := by decide +kernel
theorem dX11_readLine_10 : decode cX11_readLine 10 = .ok (.getfield 239, 3) := by decide +kernel
theorem dX11_readLine_13 : decode cX11_readLine 13 = .ok (.goto 5, 3) := by decide +kernel
theorem dX11_readLine_16 : decode cX11_readLine 16 = .ok (.bipush 16, 2) := by decide +kernel
theorem dX11_readLine_18 : decode cX11_readLine 18 = .ok (.istore_n 1, 1) := by decide +kernel
theorem dX11_readLine_19 : decode cX11_readLine 19 = .ok (.aload_n 0, 1) := by decide +kernel
theorem dX11_readLine_20 : decode cX11_readLine 20 = .ok (.getfield 239, 3) := by decide +kernel
theorem dX11_readLine_23 : decode cX11_readLine 23 = .ok (.bipush 16, 2) := by decide +kernel
theorem dX11_readLine_25 : decode cX11_readLine 25 = .ok (.if_icmp .ne 12, 3) := by decide +kernel
theorem dX11_readLine_28 : decode cX11_readLine 28 = .ok (.aload_n 0, 1) := by decide +kernel
theorem dX11_readLine_29 : decode cX11_readLine 29 = .ok (.iconst 3, 1) := by decide +kernel
theorem dX11_readLine_30 : decode cX11_readLine 30 = .ok (.aload_n 0, 1) := by decide +kernel
theorem dX11_readLine_31 : decode cX11_readLine 31 = .ok (.getfield 207, 3) := by decide +kernel
theorem dX11_readLine_34 : decode cX11_readLine 34 = .ok (.invokevirtual 242, 3) := by decide +kernel
theorem dX11_readLine_37 : decode cX11_readLine 37 = .ok (.aload_n 0, 1) := by decide +kernel
theorem dX11_readLine_38 : decode cX11_readLine 38 = .ok (.getfield 115, 3) := by decide +kernel
theorem dX11_readLine_41 : decode cX11_readLine 41 = .ok (.iload_n 1, 1) := by decide +kernel
theorem dX11_readLine_42 : decode cX11_readLine 42 = .ok (.iconst 0, 1) := by decide +kernel
theorem dX11_readLine_43 : decode cX11_readLine 43 = .ok (.iastore, 1) := by decide +kernel
theorem dX11_readLine_44 : decode cX11_readLine 44 = .ok (.aload_n 0, 1) := by decide +kernel
theorem dX11_readLine_45 : decode cX11_readLine 45 = .ok (.iconst 0, 1) := by decide +kernel
theorem dX11_readLine_46 : decode cX11_readLine 46 = .ok (.invokevirtual 246, 3) := by decide +kernel
theorem dX11_readLine_49 : decode cX11_readLine 49 = .ok (.ifCond .eq 49, 3) := by decide +kernel
theorem dX11_readLine_52 : decode cX11_readLine 52 = .ok (.iconst 0, 1) := by decide +kernel
theorem dX11_readLine_53 : decode cX11_readLine 53 = .ok (.istore_n 2, 1) := by decide +kernel
theorem dX11_readLine_54 : decode cX11_readLine 54 = .ok (.iconst 1, 1) := by decide +kernel
theorem dX11_readLine_55 : decode cX11_readLine 55 = .ok (.istore_n 3, 1) := by decide +kernel
theorem dX11_readLine_56 : decode cX11_readLine 56 = .ok (.iload_n 3, 1) := by decide +kernel
theorem dX11_readLine_57 : decode cX11_readLine 57 = .ok (.ifCond .eq 30, 3) := by decide +kernel
theorem dX11_readLine_60 : decode cX11_readLine 60 = .ok (.aload_n 0, 1) := by decide +kernel
theorem dX11_readLine_61 : decode cX11_readLine 61 = .ok (.invokevirtual 233, 3) := by decide +kernel
theorem dX11_readLine_64 : decode cX11_readLine 64 = .ok (.aload_n 0, 1) := by decide +kernel
theorem dX11_readLine_65 : decode cX11_readLine 65 = .ok (.iload_n 1, 1) := by decide +kernel
theorem dX11_readLine_66 : decode cX11_readLine 66 = .ok (.iload_n 2, 1) := by decide +kernel
theorem dX11_readLine_67 : decode cX11_readLine 67 = .ok (.invokevirtual 249, 3) := by decide +kernel
theorem dX11_readLine_70 : decode cX11_readLine 70 = .ok (.ifCond .ne 5, 3) := by decide +kernel
theorem dX11_readLine_73 : decode cX11_readLine 73 = .ok (.iconst 0, 1) := by decide +kernel
theorem dX11_readLine_74 : decode cX11_readLine 74 = .ok (.ireturn, 1) := by decide +kernel
theorem dX11_readLine_75 : decode cX11_readLine 75 = .ok (.iinc 2 1, 3) := by decide +kernel
theorem dX11_readLine_78 : decode cX11_readLine 78 = .ok (.aload_n 0, 1) := by decide +kernel
theorem dX11_readLine_79 : decode cX11_readLine 79 = .ok (.iconst 1, 1) := by decide +kernel
theorem dX11_readLine_80 : decode cX11_readLine 80 = .ok (.invokevirtual 246, 3) := by decide +kernel
theorem dX11_readLine_83 : decode cX11_readLine 83 = .ok (.istore_n 3, 1) := by decide +kernel
theorem dX11_readLine_84 : decode cX11_readLine 84 = .ok (.goto (-28), 3) := by decide +kernel
theorem dX11_readLine_87 : decode cX11_readLine 87 = .ok (.aload_n 0, 1) := by decide +kernel
theorem dX11_readLine_88 : decode cX11_readLine 88 = .ok (.bipush 58, 2) := by decide +kernel
theorem dX11_readLine_90 : decode cX11_readLine 90 = .ok (.invokevirtual 253, 3) := by decide +kernel
theorem dX11_readLine_93 : decode cX11_readLine 93 = .ok (.ifCond .ne 5, 3) := by decide +kernel
theorem dX11_readLine_96 : decode cX11_readLine 96 = .ok (.iconst 0, 1) := by decide +kernel
theorem dX11_readLine_97 : decode cX11_readLine 97 = .ok (.ireturn, 1) := by decide +kernel
theorem dX11_readLine_98 : decode cX11_readLine 98 = .ok (.aload_n 0, 1) := by decide +kernel
theorem dX11_readLine_99 : decode cX11_readLine 99 = .ok (.getfield 213, 3) := by decide +kernel
theorem dX11_readLine_102 : decode cX11_readLine 102 = .ok (.iconst 2, 1) := by decide +kernel
theorem dX11_readLine_103 : decode cX11_readLine 103 = .ok (.if_icmp .ne 17, 3) := by decide +kernel
theorem dX11_readLine_106 : decode cX11_readLine 106 = .ok (.aload_n 0, 1) := by decide +kernel
theorem dX11_readLine_107 : decode cX11_readLine 107 = .ok (.getfield 210, 3) := by decide +kernel
theorem dX11_readLine_110 : decode cX11_readLine 110 = .ok (.bipush 8, 2) := by decide +kernel
theorem dX11_readLine_112 : decode cX11_readLine 112 = .ok (.bipush 14, 2) := by decide +kernel
theorem dX11_readLine_114 : decode cX11_readLine 114 = .ok (.invokestatic 193, 3) := by decide +kernel
theorem dX11_readLine_117 : decode cX11_readLine 117 = .ok (.ifCond .ne 8, 3) := by decide +kernel
theorem dX11_readLine_120 : decode cX11_readLine 120 = .ok (.aload_n 0, 1) := by decide +kernel
theorem dX11_readLine_121 : decode cX11_readLine 121 = .ok (.invokevirtual 229, 3) := by decide +kernel
theorem dX11_readLine_124 : decode cX11_readLine 124 = .ok (.ireturn, 1) := by decide +kernel
theorem dX11_readLine_125 : decode cX11_readLine 125 = .ok (.aload_n 0, 1) := by decide +kernel
theorem dX11_readLine_126 : decode cX11_readLine 126 = .ok (.getfield 127, 3) := by decide +kernel
theorem dX11_readLine_129 : decode cX11_readLine 129 = .ok (.iload_n 1, 1) := by decide +kernel
theorem dX11_readLine_130 : decode cX11_readLine 130 = .ok (.aload_n 0, 1) := by decide +kernel
theorem dX11_readLine_131 : decode cX11_readLine 131 = .ok (.getfield 210, 3) := by decide +kernel
theorem dX11_readLine_134 : decode cX11_readLine 134 = .ok (.iastore, 1) := by decide +kernel
theorem dX11_readLine_135 : decode cX11_readLine 135 = .ok (.aload_n 0, 1) := by decide +kernel
theorem dX11_readLine_136 : decode cX11_readLine 136 = .ok (.invokevirtual 233, 3) := by decide +kernel
theorem dX11_readLine_139 : decode cX11_readLine 139 = .ok (.aload_n 0, 1) := by decide +kernel
theorem dX11_readLine_140 : decode cX11_readLine 140 = .ok (.getfield 127, 3) := by decide +kernel
theorem dX11_readLine_143 : decode cX11_readLine 143 = .ok (.iload_n 1, 1) := by decide +kernel
theorem dX11_readLine_144 : decode cX11_readLine 144 = .ok (.iaload, 1) := by decide +kernel
theorem dX11_readLine_145 : decode cX11_readLine 145 = .ok (.bipush 13, 2) := by decide +kernel
theorem dX11_readLine_147 : decode cX11_readLine 147 = .ok (.if_icmp .ge 22, 3) := by decide +kernel
theorem dX11_readLine_150 : decode cX11_readLine 150 = .ok (.aload_n 0, 1) := by decide +kernel
theorem dX11_readLine_151 : decode cX11_readLine 151 = .ok (.invokevirtual 256, 3) := by decide +kernel
theorem dX11_readLine_154 : decode cX11_readLine 154 = .ok (.ifCond .ne 5, 3) := by decide +kernel
theorem dX11_readLine_157 : decode cX11_readLine 157 = .ok (.iconst 0, 1) := by decide +kernel
theorem dX11_readLine_158 : decode cX11_readLine 158 = .ok (.ireturn, 1) := by decide +kernel
theorem dX11_readLine_159 : decode cX11_readLine 159 = .ok (.aload_n 0, 1) := by decide +kernel
theorem dX11_readLine_160 : decode cX11_readLine 160 = .ok (.getfield 130, 3) := by decide +kernel
theorem dX11_readLine_163 : decode cX11_readLine 163 = .ok (.iload_n 1, 1) := by decide +kernel
theorem dX11_readLine_164 : decode cX11_readLine 164 = .ok (.aload_n 0, 1) := by decide +kernel
theorem dX11_readLine_165 : decode cX11_readLine 165 = .ok (.getfield 236, 3) := by decide +kernel
theorem dX11_readLine_168 : decode cX11_readLine 168 = .ok (.iastore, 1) := by decide +kernel
theorem dX11_readLine_169 : decode cX11_readLine 169 = .ok (.aload_n 0, 1) := by decide +kernel
theorem dX11_readLine_170 : decode cX11_readLine 170 = .ok (.getfield 127, 3) := by decide +kernel
theorem dX11_readLine_173 : decode cX11_readLine 173 = .ok (.iload_n 1, 1) := by decide +kernel
theorem dX11_readLine_174 : decode cX11_readLine 174 = .ok (.iaload, 1) := by decide +kernel
theorem dX11_readLine_175 : decode cX11_readLine 175 = .ok (.bipush 10, 2) := by decide +kernel
theorem dX11_readLine_177 : decode cX11_readLine 177 = .ok (.if_icmp .ne 51, 3) := by decide +kernel
theorem dX11_readLine_180 : decode cX11_readLine 180 = .ok (.aload_n 0, 1) := by decide +kernel
theorem dX11_readLine_181 : decode cX11_readLine 181 = .ok (.bipush 47, 2) := by decide +kernel
theorem dX11_readLine_183 : decode cX11_readLine 183 = .ok (.invokevirtual 253, 3) := by decide +kernel
theorem dX11_readLine_186 : decode cX11_readLine 186 = .ok (.ifCond .ne 5, 3) := by decide +kernel
theorem dX11_readLine_189 : decode cX11_readLine 189 = .ok (.iconst 0, 1) := by decide +kernel
theorem dX11_readLine_190 : decode cX11_readLine 190 = .ok (.ireturn, 1) := by decide +kernel
theorem dX11_readLine_191 : decode cX11_readLine 191 = .ok (.aload_n 0, 1) := by decide +kernel
theorem dX11_readLine_192 : decode cX11_readLine 192 = .ok (.getfield 207, 3) := by decide +kernel
theorem dX11_readLine_195 : decode cX11_readLine 195 = .ok (.istore_n 2, 1) := by decide +kernel
theorem dX11_readLine_196 : decode cX11_readLine 196 = .ok (.aload_n 0, 1) := by decide +kernel
theorem dX11_readLine_197 : decode cX11_readLine 197 = .ok (.invokevirtual 256, 3) := by decide +kernel
theorem dX11_readLine_200 : decode cX11_readLine 200 = .ok (.ifCond .ne 5, 3) := by decide +kernel
theorem dX11_readLine_203 : decode cX11_readLine 203 = .ok (.iconst 0, 1) := by decide +kernel
theorem dX11_readLine_204 : decode cX11_readLine 204 = .ok (.ireturn, 1) := by decide +kernel
theorem dX11_readLine_205 : decode cX11_readLine 205 = .ok (.aload_n 0, 1) := by decide +kernel
theorem dX11_readLine_206 : decode cX11_readLine 206 = .ok (.getfield 133, 3) := by decide +kernel
theorem dX11_readLine_209 : decode cX11_readLine 209 = .ok (.iload_n 1, 1) := by decide +kernel
theorem dX11_readLine_210 : decode cX11_readLine 210 = .ok (.aload_n 0, 1) := by decide +kernel
theorem dX11_readLine_211 : decode cX11_readLine 211 = .ok (.getfield 236, 3) := by decide +kernel
theorem dX11_readLine_214 : decode cX11_readLine 214 = .ok (.iastore, 1) := by decide +kernel
theorem dX11_readLine_215 : decode cX11_readLine 215 = .ok (.aload_n 0, 1) := by decide +kernel
theorem dX11_readLine_216 : decode cX11_readLine 216 = .ok (.getfield 236, 3) := by decide +kernel
theorem dX11_readLine_219 : decode cX11_readLine 219 = .ok (.ifCond .ne 9, 3) := by decide +kernel
theorem dX11_readLine_222 : decode cX11_readLine 222 = .ok (.aload_n 0, 1) := by decide +kernel
theorem dX11_readLine_223 : decode cX11_readLine 223 = .ok (.iconst 2, 1) := by decide +kernel
theorem dX11_readLine_224 : decode cX11_readLine 224 = .ok (.iload_n 2, 1) := by decide +kernel
theorem dX11_readLine_225 : decode cX11_readLine 225 = .ok (.invokevirtual 242, 3) := by decide +kernel
theorem dX11_readLine_228 : decode cX11_readLine 228 = .ok (.aload_n 0, 1) := by decide +kernel
theorem dX11_readLine_229 : decode cX11_readLine 229 = .ok (.dup, 1) := by decide +kernel
theorem dX11_readLine_230 : decode cX11_readLine 230 = .ok (.getfield 239, 3) := by decide +kernel
theorem dX11_readLine_233 : decode cX11_readLine 233 = .ok (.iconst 1, 1) := by decide +kernel
theorem dX11_readLine_234 : decode cX11_readLine 234 = .ok (.iadd, 1) := by decide +kernel
theorem dX11_readLine_235 : decode cX11_readLine 235 = .ok (.putfield 239, 3) := by decide +kernel
theorem dX11_readLine_238 : decode cX11_readLine 238 = .ok (.aload_n 0, 1) := by decide +kernel
theorem dX11_readLine_239 : decode cX11_readLine 239 = .ok (.bipush 59, 2) := by decide +kernel
theorem dX11_readLine_241 : decode cX11_readLine 241 = .ok (.invokevirtual 253, 3) := by decide +kernel
theorem dX11_readLine_244 : decode cX11_readLine 244 = .ok (.ireturn, 1) := by decide +kernel
set_option maxRecDepth 20000 in
theorem ggX11_test_X11_in : GoodIn wsX11_test wsX11_in := goodIn_r _ [12] (by decide +kernel) (by decide +kernel)
set_option maxRecDepth 20000 in
theorem gX11_test_X11_in : GoodIn wsX11_test (va_wsS RX11 193 yX11_in wsX11_in) := goodIn_app (goodIn_of _ (by decide +kernel)) ggX11_test_X11_in
set_option maxRecDepth 20000 in
theorem ggX11_test_X11_wrong : GoodIn wsX11_test wsX11_wrong := goodIn_r _ [16, 17, 1, 18, 41, 42, 43, 44, 45, 46, 47, 48, 49, 50, 51, 52, 53, 54, 55, 56, 57, 58, 59, 60, 61, 62, 63, 64, 65, 66, 67, 68, 69, 70, 71, 72, 73, 74, 75, 76, 77, 78, 79, 80, 81, 82, 83, 84, 85, 86, 87, 88, 89, 90, 91, 92, 93, 94, 95, 96, 97, 98, 99] (by decide +kernel) (by decide +kernel)
set_option maxRecDepth 20000 in
theorem gX11_test_X11_wrong : GoodIn wsX11_test (wsV RX11 229 RX11 yX11_wrong wsX11_wrong) := goodIn_app (goodIn_of _ (by decide +kernel)) ggX11_test_X11_wrong
set_option maxRecDepth 20000 in
theorem ggX11_test_X11_note : GoodIn wsX11_test wsX11_note := goodIn_r _ [22, 23, 24, 41, 42, 43, 44, 45, 46, 47, 48, 49, 50, 51, 52, 53, 54, 55, 56, 57, 58, 59, 60, 61, 62, 63, 64, 65, 66, 67, 68, 69, 70, 71, 72, 73, 74, 75, 76, 77, 78, 79, 80, 81, 82, 83, 84, 85, 86, 87, 88, 89, 90, 91, 92, 93, 94, 95, 96, 97, 98, 99] (by decide +kernel) (by decide +kernel)
set_option maxRecDepth 20000 in
theorem gX11_test_X11_note : GoodIn wsX11_test (wsV RX11 242 RX11 yX11_note wsX11_note) := goodIn_app (goodIn_of _ (by decide +kernel)) ggX11_test_X11_note
set_option maxRecDepth 20000 in
theorem ggX11_test_X11_next : GoodIn wsX11_test wsX11_next := goodIn_r _ [28, 29, 1, 2, 3, 30, 31, 32, 33, 11, 34, 35, 36, 9, 10, 12, 41, 42, 43, 44, 45, 46, 47, 48, 49, 50, 51, 52, 53, 54, 55, 56, 57, 58, 59, 60, 61, 62, 63, 64, 65, 66, 67, 68, 69, 70, 71, 72, 73, 74, 75, 76, 77, 78, 79, 80, 81, 82, 83, 84, 85, 86, 87, 88, 89, 90, 91, 92, 93, 94, 95, 96, 97, 98, 99] (by decide +kernel) (by decide +kernel)
set_option maxRecDepth 20000 in
theorem gX11_test_X11_next : GoodIn wsX11_test (wsV RX11 233 RX11 yX11_next wsX11_next) := goodIn_app (goodIn_of _ (by decide +kernel)) ggX11_test_X11_next
set_option maxRecDepth 20000 in
theorem ggX11_test_X11_number : GoodIn wsX11_test wsX11_number := goodIn_r _ [40, 3, 2, 7, 13, 14, 15, 11, 16, 17, 1, 18, 25, 26, 27, 28, 29, 30, 31, 32, 33, 34, 35, 36, 9, 10, 12, 41, 42, 43, 44, 45, 46, 47, 48, 49, 50, 51, 52, 53, 54, 55, 56, 57, 58, 59, 60, 61, 62, 63, 64, 65, 66, 67, 68, 69, 70, 71, 72, 73, 74, 75, 76, 77, 78, 79, 80, 81, 82, 83, 84, 85, 86, 87, 88, 89, 90, 91, 92, 93, 94, 95, 96, 97, 98, 99] (by decide +kernel) (by decide +kernel)
set_option maxRecDepth 20000 in
theorem gX11_test_X11_number : GoodIn wsX11_test (wsV RX11 256 RX11 yX11_number wsX11_number) := goodIn_app (goodIn_of _ (by decide +kernel)) ggX11_test_X11_number
theorem dX11_test_0 : decode cX11_test 0 = .ok (.aload_n 0, 1) := by decide +kernel
theorem dX11_test_1 : decode cX11_test 1 = .ok (.getfield 207, 3) := by decide +kernel
theorem dX11_test_4 : decode cX11_test 4 = .ok (.istore_n 3, 1) := by decide +kernel
theorem dX11_test_5 : decode cX11_test 5 = .ok (.aload_n 0, 1) := by decide +kernel
theorem dX11_test_6 : decode cX11_test 6 = .ok (.getfield 210, 3) := by decide +kernel
theorem dX11_test_9 : decode cX11_test 9 = .ok (.istore 4, 2) := by decide +kernel
theorem dX11_test_11 : decode cX11_test 11 = .ok (.aload_n 0, 1) := by decide +kernel
theorem dX11_test_12 : decode cX11_test 12 = .ok (.getfield 213, 3) := by decide +kernel
theorem dX11_test_15 : decode cX11_test 15 = .ok (.iconst 2, 1) := by decide +kernel
theorem dX11_test_16 : decode cX11_test 16 = .ok (.if_icmp .ne 14, 3) := by decide +kernel
theorem dX11_test_19 : decode cX11_test 19 = .ok (.iload 4, 2) := by decide +kernel
theorem dX11_test_21 : decode cX11_test 21 = .ok (.iconst 2, 1) := by decide +kernel
theorem dX11_test_22 : decode cX11_test 22 = .ok (.bipush 7, 2) := by decide +kernel
theorem dX11_test_24 : decode cX11_test 24 = .ok (.invokestatic 193, 3) := by decide +kernel
theorem dX11_test_27 : decode cX11_test 27 = .ok (.ifCond .ne 8, 3) := by decide +kernel
theorem dX11_test_30 : decode cX11_test 30 = .ok (.aload_n 0, 1) := by decide +kernel
theorem dX11_test_31 : decode cX11_test 31 = .ok (.invokevirtual 229, 3) := by decide +kernel
theorem dX11_test_34 : decode cX11_test 34 = .ok (.ireturn, 1) := by decide +kernel
theorem dX11_test_35 : decode cX11_test 35 = .ok (.iload_n 2, 1) := by decide +kernel
theorem dX11_test_36 : decode cX11_test 36 = .ok (.iconst 4, 1) := by decide +kernel
theorem dX11_test_37 : decode cX11_test 37 = .ok (.if_icmp .ne 9, 3) := by decide +kernel
theorem dX11_test_40 : decode cX11_test 40 = .ok (.aload_n 0, 1) := by decide +kernel
theorem dX11_test_41 : decode cX11_test 41 = .ok (.iconst 3, 1) := by decide +kernel
theorem dX11_test_42 : decode cX11_test 42 = .ok (.iload_n 3, 1) := by decide +kernel
theorem dX11_test_43 : decode cX11_test 43 = .ok (.invokevirtual 242, 3) := by decide +kernel
theorem dX11_test_46 : decode cX11_test 46 = .ok (.aload_n 0, 1) := by decide +kernel
theorem dX11_test_47 : decode cX11_test 47 = .ok (.invokevirtual 233, 3) := by decide +kernel
theorem dX11_test_50 : decode cX11_test 50 = .ok (.aload_n 0, 1) := by decide +kernel
theorem dX11_test_51 : decode cX11_test 51 = .ok (.getfield 210, 3) := by decide +kernel
theorem dX11_test_54 : decode cX11_test 54 = .ok (.istore 5, 2) := by decide +kernel
theorem dX11_test_56 : decode cX11_test 56 = .ok (.aload_n 0, 1) := by decide +kernel
theorem dX11_test_57 : decode cX11_test 57 = .ok (.getfield 213, 3) := by decide +kernel
theorem dX11_test_60 : decode cX11_test 60 = .ok (.iconst 4, 1) := by decide +kernel
theorem dX11_test_61 : decode cX11_test 61 = .ok (.if_icmp .ne 24, 3) := by decide +kernel
theorem dX11_test_64 : decode cX11_test 64 = .ok (.iload 5, 2) := by decide +kernel
theorem dX11_test_66 : decode cX11_test 66 = .ok (.bipush 60, 2) := by decide +kernel
theorem dX11_test_68 : decode cX11_test 68 = .ok (.if_icmp .eq 22, 3) := by decide +kernel
theorem dX11_test_71 : decode cX11_test 71 = .ok (.iload 5, 2) := by decide +kernel
theorem dX11_test_73 : decode cX11_test 73 = .ok (.bipush 62, 2) := by decide +kernel
theorem dX11_test_75 : decode cX11_test 75 = .ok (.if_icmp .eq 15, 3) := by decide +kernel
theorem dX11_test_78 : decode cX11_test 78 = .ok (.iload 5, 2) := by decide +kernel
theorem dX11_test_80 : decode cX11_test 80 = .ok (.bipush 61, 2) := by decide +kernel
theorem dX11_test_82 : decode cX11_test 82 = .ok (.if_icmp .eq 8, 3) := by decide +kernel
theorem dX11_test_85 : decode cX11_test 85 = .ok (.aload_n 0, 1) := by decide +kernel
theorem dX11_test_86 : decode cX11_test 86 = .ok (.invokevirtual 229, 3) := by decide +kernel
theorem dX11_test_89 : decode cX11_test 89 = .ok (.ireturn, 1) := by decide +kernel
theorem dX11_test_90 : decode cX11_test 90 = .ok (.aload_n 0, 1) := by decide +kernel
theorem dX11_test_91 : decode cX11_test 91 = .ok (.invokevirtual 233, 3) := by decide +kernel
theorem dX11_test_94 : decode cX11_test 94 = .ok (.aload_n 0, 1) := by decide +kernel
theorem dX11_test_95 : decode cX11_test 95 = .ok (.invokevirtual 256, 3) := by decide +kernel
theorem dX11_test_98 : decode cX11_test 98 = .ok (.ifCond .ne 5, 3) := by decide +kernel
theorem dX11_test_101 : decode cX11_test 101 = .ok (.iconst 0, 1) := by decide +kernel
theorem dX11_test_102 : decode cX11_test 102 = .ok (.ireturn, 1) := by decide +kernel
theorem dX11_test_103 : decode cX11_test 103 = .ok (.iload_n 2, 1) := by decide +kernel
theorem dX11_test_104 : decode cX11_test 104 = .ok (.iconst 4, 1) := by decide +kernel
theorem dX11_test_105 : decode cX11_test 105 = .ok (.if_icmp .ge 54, 3) := by decide +kernel
theorem dX11_test_108 : decode cX11_test 108 = .ok (.iload_n 1, 1) := by decide +kernel
theorem dX11_test_109 : decode cX11_test 109 = .ok (.bipush 16, 2) := by decide +kernel
theorem dX11_test_111 : decode cX11_test 111 = .ok (.if_icmp .ge 48, 3) := by decide +kernel
theorem dX11_test_114 : decode cX11_test 114 = .ok (.iconst 4, 1) := by decide +kernel
theorem dX11_test_115 : decode cX11_test 115 = .ok (.iload_n 1, 1) := by decide +kernel
theorem dX11_test_116 : decode cX11_test 116 = .ok (.imul, 1) := by decide +kernel
theorem dX11_test_117 : decode cX11_test 117 = .ok (.iload_n 2, 1) := by decide +kernel
theorem dX11_test_118 : decode cX11_test 118 = .ok (.iadd, 1) := by decide +kernel
theorem dX11_test_119 : decode cX11_test 119 = .ok (.istore 6, 2) := by decide +kernel
theorem dX11_test_121 : decode cX11_test 121 = .ok (.aload_n 0, 1) := by decide +kernel
theorem dX11_test_122 : decode cX11_test 122 = .ok (.getfield 118, 3) := by decide +kernel
theorem dX11_test_125 : decode cX11_test 125 = .ok (.iload 6, 2) := by decide +kernel
theorem dX11_test_127 : decode cX11_test 127 = .ok (.iload 4, 2) := by decide +kernel
theorem dX11_test_129 : decode cX11_test 129 = .ok (.iastore, 1) := by decide +kernel
theorem dX11_test_130 : decode cX11_test 130 = .ok (.aload_n 0, 1) := by decide +kernel
theorem dX11_test_131 : decode cX11_test 131 = .ok (.getfield 121, 3) := by decide +kernel
theorem dX11_test_134 : decode cX11_test 134 = .ok (.iload 6, 2) := by decide +kernel
theorem dX11_test_136 : decode cX11_test 136 = .ok (.iload 5, 2) := by decide +kernel
theorem dX11_test_138 : decode cX11_test 138 = .ok (.iastore, 1) := by decide +kernel
theorem dX11_test_139 : decode cX11_test 139 = .ok (.aload_n 0, 1) := by decide +kernel
theorem dX11_test_140 : decode cX11_test 140 = .ok (.getfield 124, 3) := by decide +kernel
theorem dX11_test_143 : decode cX11_test 143 = .ok (.iload 6, 2) := by decide +kernel
theorem dX11_test_145 : decode cX11_test 145 = .ok (.aload_n 0, 1) := by decide +kernel
theorem dX11_test_146 : decode cX11_test 146 = .ok (.getfield 236, 3) := by decide +kernel
theorem dX11_test_149 : decode cX11_test 149 = .ok (.iastore, 1) := by decide +kernel
theorem dX11_test_150 : decode cX11_test 150 = .ok (.aload_n 0, 1) := by decide +kernel
theorem dX11_test_151 : decode cX11_test 151 = .ok (.getfield 115, 3) := by decide +kernel
theorem dX11_test_154 : decode cX11_test 154 = .ok (.iload_n 1, 1) := by decide +kernel
theorem dX11_test_155 : decode cX11_test 155 = .ok (.iload_n 2, 1) := by decide +kernel
theorem dX11_test_156 : decode cX11_test 156 = .ok (.iconst 1, 1) := by decide +kernel
theorem dX11_test_157 : decode cX11_test 157 = .ok (.iadd, 1) := by decide +kernel
theorem dX11_test_158 : decode cX11_test 158 = .ok (.iastore, 1) := by decide +kernel
theorem dX11_test_159 : decode cX11_test 159 = .ok (.iconst 1, 1) := by decide +kernel
theorem dX11_test_160 : decode cX11_test 160 = .ok (.ireturn, 1) := by decide +kernel
set_option maxRecDepth 20000 in
theorem ggX11_fees_X11_next : GoodIn wsX11_fees wsX11_next := goodIn_r _ [30, 4, 31, 32, 9, 33, 34, 35, 36, 29, 37, 3, 38, 39, 40, 41, 75, 76, 77, 78, 79, 80, 81, 82, 83, 84, 85, 86, 87, 88, 89, 90, 91, 92, 93, 94, 95, 96, 97, 98, 99, 100, 101, 102, 103, 104, 105, 106, 107, 108, 109, 110, 111, 112, 113, 114, 115, 116, 117, 118, 119, 120, 121, 122, 123, 124, 125, 126, 127, 128, 129, 130, 131, 132, 133] (by decide +kernel) (by decide +kernel)
set_option maxRecDepth 20000 in
theorem gX11_fees_X11_next : GoodIn wsX11_fees (wsV RX11 233 RX11 yX11_next wsX11_next) := goodIn_app (goodIn_of _ (by decide +kernel)) ggX11_fees_X11_next
set_option maxRecDepth 20000 in
theorem ggX11_fees_X11_readLine : GoodIn wsX11_fees wsX11_readLine := goodIn_r _ [45, 8, 31, 13, 9, 32, 15, 17, 46, 19, 47, 48, 49, 29, 50, 7, 10, 51, 52, 53, 54, 26, 27, 28, 30, 4, 33, 34, 35, 36, 37, 3, 38, 39, 40, 41, 55, 56, 57, 58, 21, 23, 25, 59, 60, 61, 62, 5, 6, 63, 64, 65, 66, 67, 68, 69, 70, 71, 72, 73, 74, 75, 76, 77, 78, 79, 80, 81, 82, 83, 84, 85, 86, 87, 88, 89, 90, 91, 92, 93, 94, 95, 96, 97, 98, 99, 100, 101, 102, 103, 104, 105, 106, 107, 108, 109, 110, 111, 112, 113, 114, 115, 116, 117, 118, 119, 120, 121, 122, 123, 124, 125, 126, 127, 128, 129, 130, 131, 132, 133] (by decide +kernel) (by decide +kernel)
set_option maxRecDepth 20000 in
theorem gX11_fees_X11_readLine : GoodIn wsX11_fees (wsV RX11 259 RX11 yX11_readLine wsX11_readLine) := goodIn_app (goodIn_of _ (by decide +kernel)) ggX11_fees_X11_readLine
theorem dX11_fees_0 : decode cX11_fees 0 = .ok (.aload_n 0, 1) := by decide +kernel
theorem dX11_fees_1 : decode cX11_fees 1 = .ok (.iconst 0, 1) := by decide +kernel
theorem dX11_fees_2 : decode cX11_fees 2 = .ok (.putfield 179, 3) := by decide +kernel
theorem dX11_fees_5 : decode cX11_fees 5 = .ok (.aload_n 0, 1) := by decide +kernel
theorem dX11_fees_6 : decode cX11_fees 6 = .ok (.aload_n 0, 1) := by decide +kernel
theorem dX11_fees_7 : decode cX11_fees 7 = .ok (.getfield 186, 3) := by decide +kernel
theorem dX11_fees_10 : decode cX11_fees 10 = .ok (.putfield 200, 3) := by decide +kernel
theorem dX11_fees_13 : decode cX11_fees 13 = .ok (.aload_n 0, 1) := by decide +kernel
theorem dX11_fees_14 : decode cX11_fees 14 = .ok (.iconst 0, 1) := by decide +kernel
theorem dX11_fees_15 : decode cX11_fees 15 = .ok (.putfield 186, 3) := by decide +kernel
theorem dX11_fees_18 : decode cX11_fees 18 = .ok (.aload_n 0, 1) := by decide +kernel
theorem dX11_fees_19 : decode cX11_fees 19 = .ok (.iconst 0, 1) := by decide +kernel
theorem dX11_fees_20 : decode cX11_fees 20 = .ok (.putfield 197, 3) := by decide +kernel
theorem dX11_fees_23 : decode cX11_fees 23 = .ok (.aload_n 0, 1) := by decide +kernel
theorem dX11_fees_24 : decode cX11_fees 24 = .ok (.iconst 0, 1) := by decide +kernel
theorem dX11_fees_25 : decode cX11_fees 25 = .ok (.putfield 216, 3) := by decide +kernel
theorem dX11_fees_28 : decode cX11_fees 28 = .ok (.aload_n 0, 1) := by decide +kernel
theorem dX11_fees_29 : decode cX11_fees 29 = .ok (.iconst (-1), 1) := by decide +kernel
theorem dX11_fees_30 : decode cX11_fees 30 = .ok (.putfield 111, 3) := by decide +kernel
theorem dX11_fees_33 : decode cX11_fees 33 = .ok (.aload_n 0, 1) := by decide +kernel
theorem dX11_fees_34 : decode cX11_fees 34 = .ok (.iconst 0, 1) := by decide +kernel
theorem dX11_fees_35 : decode cX11_fees 35 = .ok (.putfield 219, 3) := by decide +kernel
theorem dX11_fees_38 : decode cX11_fees 38 = .ok (.aload_n 0, 1) := by decide +kernel
theorem dX11_fees_39 : decode cX11_fees 39 = .ok (.iconst 0, 1) := by decide +kernel
theorem dX11_fees_40 : decode cX11_fees 40 = .ok (.putfield 239, 3) := by decide +kernel
theorem dX11_fees_43 : decode cX11_fees 43 = .ok (.iconst 1, 1) := by decide +kernel
theorem dX11_fees_44 : decode cX11_fees 44 = .ok (.istore_n 1, 1) := by decide +kernel
theorem dX11_fees_45 : decode cX11_fees 45 = .ok (.aload_n 0, 1) := by decide +kernel
theorem dX11_fees_46 : decode cX11_fees 46 = .ok (.invokevirtual 233, 3) := by decide +kernel
theorem dX11_fees_49 : decode cX11_fees 49 = .ok (.iload_n 1, 1) := by decide +kernel
theorem dX11_fees_50 : decode cX11_fees 50 = .ok (.ifCond .eq 18, 3) := by decide +kernel
theorem dX11_fees_53 : decode cX11_fees 53 = .ok (.aload_n 0, 1) := by decide +kernel
theorem dX11_fees_54 : decode cX11_fees 54 = .ok (.getfield 213, 3) := by decide +kernel
theorem dX11_fees_57 : decode cX11_fees 57 = .ok (.ifCond .eq 11, 3) := by decide +kernel
theorem dX11_fees_60 : decode cX11_fees 60 = .ok (.aload_n 0, 1) := by decide +kernel
theorem dX11_fees_61 : decode cX11_fees 61 = .ok (.invokevirtual 259, 3) := by decide +kernel
theorem dX11_fees_64 : decode cX11_fees 64 = .ok (.istore_n 1, 1) := by decide +kernel
theorem dX11_fees_65 : decode cX11_fees 65 = .ok (.goto (-16), 3) := by decide +kernel
theorem dX11_fees_68 : decode cX11_fees 68 = .ok (.aload_n 0, 1) := by decide +kernel
theorem dX11_fees_69 : decode cX11_fees 69 = .ok (.getfield 216, 3) := by decide +kernel
theorem dX11_fees_72 : decode cX11_fees 72 = .ok (.ifCond .ne 26, 3) := by decide +kernel
theorem dX11_fees_75 : decode cX11_fees 75 = .ok (.aload_n 0, 1) := by decide +kernel
theorem dX11_fees_76 : decode cX11_fees 76 = .ok (.getfield 219, 3) := by decide +kernel
theorem dX11_fees_79 : decode cX11_fees 79 = .ok (.ifCond .le 19, 3) := by decide +kernel
theorem dX11_fees_82 : decode cX11_fees 82 = .ok (.aload_n 0, 1) := by decide +kernel
theorem dX11_fees_83 : decode cX11_fees 83 = .ok (.aload_n 0, 1) := by decide +kernel
theorem dX11_fees_84 : decode cX11_fees 84 = .ok (.getfield 219, 3) := by decide +kernel
theorem dX11_fees_87 : decode cX11_fees 87 = .ok (.putfield 216, 3) := by decide +kernel
theorem dX11_fees_90 : decode cX11_fees 90 = .ok (.aload_n 0, 1) := by decide +kernel
theorem dX11_fees_91 : decode cX11_fees 91 = .ok (.aload_n 0, 1) := by decide +kernel
theorem dX11_fees_92 : decode cX11_fees 92 = .ok (.getfield 222, 3) := by decide +kernel
theorem dX11_fees_95 : decode cX11_fees 95 = .ok (.putfield 111, 3) := by decide +kernel
theorem dX11_fees_98 : decode cX11_fees 98 = .ok (.aload_n 0, 1) := by decide +kernel
theorem dX11_fees_99 : decode cX11_fees 99 = .ok (.getfield 216, 3) := by decide +kernel
theorem dX11_fees_102 : decode cX11_fees 102 = .ok (.ifCond .le 5, 3) := by decide +kernel
theorem dX11_fees_105 : decode cX11_fees 105 = .ok (.iconst (-1), 1) := by decide +kernel
theorem dX11_fees_106 : decode cX11_fees 106 = .ok (.ireturn, 1) := by decide +kernel
theorem dX11_fees_107 : decode cX11_fees 107 = .ok (.aload_n 0, 1) := by decide +kernel
theorem dX11_fees_108 : decode cX11_fees 108 = .ok (.getfield 87, 3) := by decide +kernel
theorem dX11_fees_111 : decode cX11_fees 111 = .ok (.iconst 0, 1) := by decide +kernel
theorem dX11_fees_112 : decode cX11_fees 112 = .ok (.aload_n 0, 1) := by decide +kernel
theorem dX11_fees_113 : decode cX11_fees 113 = .ok (.getfield 239, 3) := by decide +kernel
theorem dX11_fees_116 : decode cX11_fees 116 = .ok (.iastore, 1) := by decide +kernel
theorem dX11_fees_117 : decode cX11_fees 117 = .ok (.iconst 0, 1) := by decide +kernel
theorem dX11_fees_118 : decode cX11_fees 118 = .ok (.istore_n 2, 1) := by decide +kernel
theorem dX11_fees_119 : decode cX11_fees 119 = .ok (.iload_n 2, 1) := by decide +kernel
theorem dX11_fees_120 : decode cX11_fees 120 = .ok (.aload_n 0, 1) := by decide +kernel
theorem dX11_fees_121 : decode cX11_fees 121 = .ok (.getfield 239, 3) := by decide +kernel
theorem dX11_fees_124 : decode cX11_fees 124 = .ok (.if_icmp .ge 135, 3) := by decide +kernel
theorem dX11_fees_127 : decode cX11_fees 127 = .ok (.aload_n 0, 1) := by decide +kernel
theorem dX11_fees_128 : decode cX11_fees 128 = .ok (.getfield 90, 3) := by decide +kernel
theorem dX11_fees_131 : decode cX11_fees 131 = .ok (.iload_n 2, 1) := by decide +kernel
theorem dX11_fees_132 : decode cX11_fees 132 = .ok (.aload_n 0, 1) := by decide +kernel
theorem dX11_fees_133 : decode cX11_fees 133 = .ok (.getfield 115, 3) := by decide +kernel
theorem dX11_fees_136 : decode cX11_fees 136 = .ok (.iload_n 2, 1) := by decide +kernel
theorem dX11_fees_137 : decode cX11_fees 137 = .ok (.iaload, 1) := by decide +kernel
theorem dX11_fees_138 : decode cX11_fees 138 = .ok (.iastore, 1) := by decide +kernel
theorem dX11_fees_139 : decode cX11_fees 139 = .ok (.aload_n 0, 1) := by decide +kernel
theorem dX11_fees_140 : decode cX11_fees 140 = .ok (.getfield 102, 3) := by decide +kernel
theorem dX11_fees_143 : decode cX11_fees 143 = .ok (.iload_n 2, 1) := by decide +kernel
theorem dX11_fees_144 : decode cX11_fees 144 = .ok (.aload_n 0, 1) := by decide +kernel
theorem dX11_fees_145 : decode cX11_fees 145 = .ok (.getfield 127, 3) := by decide +kernel
theorem dX11_fees_148 : decode cX11_fees 148 = .ok (.iload_n 2, 1) := by decide +kernel
theorem dX11_fees_149 : decode cX11_fees 149 = .ok (.iaload, 1) := by decide +kernel
theorem dX11_fees_150 : decode cX11_fees 150 = .ok (.iastore, 1) := by decide +kernel
theorem dX11_fees_151 : decode cX11_fees 151 = .ok (.aload_n 0, 1) := by decide +kernel
theorem dX11_fees_152 : decode cX11_fees 152 = .ok (.getfield 105, 3) := by decide +kernel
theorem dX11_fees_155 : decode cX11_fees 155 = .ok (.iload_n 2, 1) := by decide +kernel
theorem dX11_fees_156 : decode cX11_fees 156 = .ok (.aload_n 0, 1) := by decide +kernel
theorem dX11_fees_157 : decode cX11_fees 157 = .ok (.getfield 130, 3) := by decide +kernel
theorem dX11_fees_160 : decode cX11_fees 160 = .ok (.iload_n 2, 1) := by decide +kernel
theorem dX11_fees_161 : decode cX11_fees 161 = .ok (.iaload, 1) := by decide +kernel
theorem dX11_fees_162 : decode cX11_fees 162 = .ok (.iastore, 1) := by decide +kernel
theorem dX11_fees_163 : decode cX11_fees 163 = .ok (.aload_n 0, 1) := by decide +kernel
theorem dX11_fees_164 : decode cX11_fees 164 = .ok (.getfield 108, 3) := by decide +kernel
theorem dX11_fees_167 : decode cX11_fees 167 = .ok (.iload_n 2, 1) := by decide +kernel
theorem dX11_fees_168 : decode cX11_fees 168 = .ok (.aload_n 0, 1) := by decide +kernel
theorem dX11_fees_169 : decode cX11_fees 169 = .ok (.getfield 133, 3) := by decide +kernel
theorem dX11_fees_172 : decode cX11_fees 172 = .ok (.iload_n 2, 1) := by decide +kernel
theorem dX11_fees_173 : decode cX11_fees 173 = .ok (.iaload, 1) := by decide +kernel
theorem dX11_fees_174 : decode cX11_fees 174 = .ok (.iastore, 1) := by decide +kernel
theorem dX11_fees_175 : decode cX11_fees 175 = .ok (.iconst 0, 1) := by decide +kernel
theorem dX11_fees_176 : decode cX11_fees 176 = .ok (.istore_n 3, 1) := by decide +kernel
theorem dX11_fees_177 : decode cX11_fees 177 = .ok (.iload_n 3, 1) := by decide +kernel
theorem dX11_fees_178 : decode cX11_fees 178 = .ok (.aload_n 0, 1) := by decide +kernel
theorem dX11_fees_179 : decode cX11_fees 179 = .ok (.getfield 115, 3) := by decide +kernel
theorem dX11_fees_182 : decode cX11_fees 182 = .ok (.iload_n 2, 1) := by decide +kernel
theorem dX11_fees_183 : decode cX11_fees 183 = .ok (.iaload, 1) := by decide +kernel
theorem dX11_fees_184 : decode cX11_fees 184 = .ok (.if_icmp .ge 69, 3) := by decide +kernel
theorem dX11_fees_187 : decode cX11_fees 187 = .ok (.aload_n 0, 1) := by decide +kernel
theorem dX11_fees_188 : decode cX11_fees 188 = .ok (.getfield 93, 3) := by decide +kernel
theorem dX11_fees_191 : decode cX11_fees 191 = .ok (.iconst 4, 1) := by decide +kernel
theorem dX11_fees_192 : decode cX11_fees 192 = .ok (.iload_n 2, 1) := by decide +kernel
theorem dX11_fees_193 : decode cX11_fees 193 = .ok (.imul, 1) := by decide +kernel
theorem dX11_fees_194 : decode cX11_fees 194 = .ok (.iload_n 3, 1) := by decide +kernel
theorem dX11_fees_195 : decode cX11_fees 195 = .ok (.iadd, 1) := by decide +kernel
theorem dX11_fees_196 : decode cX11_fees 196 = .ok (.aload_n 0, 1) := by decide +kernel
theorem dX11_fees_197 : decode cX11_fees 197 = .ok (.getfield 118, 3) := by decide +kernel
theorem dX11_fees_200 : decode cX11_fees 200 = .ok (.iconst 4, 1) := by decide +kernel
theorem dX11_fees_201 : decode cX11_fees 201 = .ok (.iload_n 2, 1) := by decide +kernel
theorem dX11_fees_202 : decode cX11_fees 202 = .ok (.imul, 1) := by decide +kernel
theorem dX11_fees_203 : decode cX11_fees 203 = .ok (.iload_n 3, 1) := by decide +kernel
theorem dX11_fees_204 : decode cX11_fees 204 = .ok (.iadd, 1) := by decide +kernel
theorem dX11_fees_205 : decode cX11_fees 205 = .ok (.iaload, 1) := by decide +kernel
theorem dX11_fees_206 : decode cX11_fees 206 = .ok (.iastore, 1) := by decide +kernel
theorem dX11_fees_207 : decode cX11_fees 207 = .ok (.aload_n 0, 1) := by decide +kernel
theorem dX11_fees_208 : decode cX11_fees 208 = .ok (.getfield 96, 3) := by decide +kernel
theorem dX11_fees_211 : decode cX11_fees 211 = .ok (.iconst 4, 1) := by decide +kernel
theorem dX11_fees_212 : decode cX11_fees 212 = .ok (.iload_n 2, 1) := by decide +kernel
theorem dX11_fees_213 : decode cX11_fees 213 = .ok (.imul, 1) := by decide +kernel
theorem dX11_fees_214 : decode cX11_fees 214 = .ok (.iload_n 3, 1) := by decide +kernel
theorem dX11_fees_215 : decode cX11_fees 215 = .ok (.iadd, 1) := by decide +kernel
theorem dX11_fees_216 : decode cX11_fees 216 = .ok (.aload_n 0, 1) := by decide +kernel
theorem dX11_fees_217 : decode cX11_fees 217 = .ok (.getfield 121, 3) := by decide +kernel
theorem dX11_fees_220 : decode cX11_fees 220 = .ok (.iconst 4, 1) := by decide +kernel
theorem dX11_fees_221 : decode cX11_fees 221 = .ok (.iload_n 2, 1) := by decide +kernel
theorem dX11_fees_222 : decode cX11_fees 222 = .ok (.imul, 1) := by decide +kernel
theorem dX11_fees_223 : decode cX11_fees 223 = .ok (.iload_n 3, 1) := by decide +kernel
theorem dX11_fees_224 : decode cX11_fees 224 = .ok (.iadd, 1) := by decide +kernel
theorem dX11_fees_225 : decode cX11_fees 225 = .ok (.iaload, 1) := by decide +kernel
theorem dX11_fees_226 : decode cX11_fees 226 = .ok (.iastore, 1) := by decide +kernel
theorem dX11_fees_227 : decode cX11_fees 227 = .ok (.aload_n 0, 1) := by decide +kernel
theorem dX11_fees_228 : decode cX11_fees 228 = .ok (.getfield 99, 3) := by decide +kernel
theorem dX11_fees_231 : decode cX11_fees 231 = .ok (.iconst 4, 1) := by decide +kernel
theorem dX11_fees_232 : decode cX11_fees 232 = .ok (.iload_n 2, 1) := by decide +kernel
theorem dX11_fees_233 : decode cX11_fees 233 = .ok (.imul, 1) := by decide +kernel
theorem dX11_fees_234 : decode cX11_fees 234 = .ok (.iload_n 3, 1) := by decide +kernel
theorem dX11_fees_235 : decode cX11_fees 235 = .ok (.iadd, 1) := by decide +kernel
theorem dX11_fees_236 : decode cX11_fees 236 = .ok (.aload_n 0, 1) := by decide +kernel
theorem dX11_fees_237 : decode cX11_fees 237 = .ok (.getfield 124, 3) := by decide +kernel
theorem dX11_fees_240 : decode cX11_fees 240 = .ok (.iconst 4, 1) := by decide +kernel
theorem dX11_fees_241 : decode cX11_fees 241 = .ok (.iload_n 2, 1) := by decide +kernel
theorem dX11_fees_242 : decode cX11_fees 242 = .ok (.imul, 1) := by decide +kernel
theorem dX11_fees_243 : decode cX11_fees 243 = .ok (.iload_n 3, 1) := by decide +kernel
theorem dX11_fees_244 : decode cX11_fees 244 = .ok (.iadd, 1) := by decide +kernel
theorem dX11_fees_245 : decode cX11_fees 245 = .ok (.iaload, 1) := by decide +kernel
theorem dX11_fees_246 : decode cX11_fees 246 = .ok (.iastore, 1) := by decide +kernel
theorem dX11_fees_247 : decode cX11_fees 247 = .ok (.iinc 3 1, 3) := by decide +kernel
theorem dX11_fees_250 : decode cX11_fees 250 = .ok (.goto (-73), 3) := by decide +kernel
theorem dX11_fees_253 : decode cX11_fees 253 = .ok (.iinc 2 1, 3) := by decide +kernel
theorem dX11_fees_256 : decode cX11_fees 256 = .ok (.goto (-137), 3) := by decide +kernel
theorem dX11_fees_259 : decode cX11_fees 259 = .ok (.aload_n 0, 1) := by decide +kernel
theorem dX11_fees_260 : decode cX11_fees 260 = .ok (.getfield 239, 3) := by decide +kernel
theorem dX11_fees_263 : decode cX11_fees 263 = .ok (.ireturn, 1) := by decide +kernel
theorem dX11_fault_0 : decode cX11_fault 0 = .ok (.aload_n 0, 1) := by decide +kernel
theorem dX11_fault_1 : decode cX11_fault 1 = .ok (.iconst 0, 1) := by decide +kernel
theorem dX11_fault_2 : decode cX11_fault 2 = .ok (.putfield 179, 3) := by decide +kernel
theorem dX11_fault_5 : decode cX11_fault 5 = .ok (.iload_n 1, 1) := by decide +kernel
theorem dX11_fault_6 : decode cX11_fault 6 = .ok (.ifCond .ne 10, 3) := by decide +kernel
theorem dX11_fault_9 : decode cX11_fault 9 = .ok (.aload_n 0, 1) := by decide +kernel
theorem dX11_fault_10 : decode cX11_fault 10 = .ok (.getfield 216, 3) := by decide +kernel
theorem dX11_fault_13 : decode cX11_fault 13 = .ok (.goto 16, 3) := by decide +kernel
theorem dX11_fault_16 : decode cX11_fault 16 = .ok (.iload_n 1, 1) := by decide +kernel
theorem dX11_fault_17 : decode cX11_fault 17 = .ok (.iconst 1, 1) := by decide +kernel
theorem dX11_fault_18 : decode cX11_fault 18 = .ok (.if_icmp .ne 10, 3) := by decide +kernel
theorem dX11_fault_21 : decode cX11_fault 21 = .ok (.aload_n 0, 1) := by decide +kernel
theorem dX11_fault_22 : decode cX11_fault 22 = .ok (.getfield 111, 3) := by decide +kernel
theorem dX11_fault_25 : decode cX11_fault 25 = .ok (.goto 4, 3) := by decide +kernel
theorem dX11_fault_28 : decode cX11_fault 28 = .ok (.iconst (-1), 1) := by decide +kernel
theorem dX11_fault_29 : decode cX11_fault 29 = .ok (.ireturn, 1) := by decide +kernel
set_option maxRecDepth 20000 in
theorem ggX11_room_X11_in : GoodIn wsX11_room wsX11_in := goodIn_r _ [8] (by decide +kernel) (by decide +kernel)
set_option maxRecDepth 20000 in
theorem gX11_room_X11_in : GoodIn wsX11_room (va_wsS RX11 193 yX11_in wsX11_in) := goodIn_app (goodIn_of _ (by decide +kernel)) ggX11_room_X11_in
theorem dX11_room_0 : decode cX11_room 0 = .ok (.aload_n 0, 1) := by decide +kernel
theorem dX11_room_1 : decode cX11_room 1 = .ok (.iconst 0, 1) := by decide +kernel
theorem dX11_room_2 : decode cX11_room 2 = .ok (.putfield 179, 3) := by decide +kernel
theorem dX11_room_5 : decode cX11_room 5 = .ok (.aload_n 0, 1) := by decide +kernel
theorem dX11_room_6 : decode cX11_room 6 = .ok (.getfield 60, 3) := by decide +kernel
theorem dX11_room_9 : decode cX11_room 9 = .ok (.iconst 0, 1) := by decide +kernel
theorem dX11_room_10 : decode cX11_room 10 = .ok (.iaload, 1) := by decide +kernel
theorem dX11_room_11 : decode cX11_room 11 = .ok (.iconst (-1), 1) := by decide +kernel
theorem dX11_room_12 : decode cX11_room 12 = .ok (.if_icmp .ne 23, 3) := by decide +kernel
theorem dX11_room_15 : decode cX11_room 15 = .ok (.aload_n 0, 1) := by decide +kernel
theorem dX11_room_16 : decode cX11_room 16 = .ok (.getfield 17, 3) := by decide +kernel
theorem dX11_room_19 : decode cX11_room 19 = .ok (.iconst 0, 1) := by decide +kernel
theorem dX11_room_20 : decode cX11_room 20 = .ok (.iaload, 1) := by decide +kernel
theorem dX11_room_21 : decode cX11_room 21 = .ok (.iconst 5, 1) := by decide +kernel
theorem dX11_room_22 : decode cX11_room 22 = .ok (.if_icmp .eq 13, 3) := by decide +kernel
theorem dX11_room_25 : decode cX11_room 25 = .ok (.iload_n 1, 1) := by decide +kernel
theorem dX11_room_26 : decode cX11_room 26 = .ok (.iconst 1, 1) := by decide +kernel
theorem dX11_room_27 : decode cX11_room 27 = .ok (.bipush 40, 2) := by decide +kernel
theorem dX11_room_29 : decode cX11_room 29 = .ok (.invokestatic 193, 3) := by decide +kernel
theorem dX11_room_32 : decode cX11_room 32 = .ok (.ifCond .ne 5, 3) := by decide +kernel
theorem dX11_room_35 : decode cX11_room 35 = .ok (.iconst (-1), 1) := by decide +kernel
theorem dX11_room_36 : decode cX11_room 36 = .ok (.ireturn, 1) := by decide +kernel
theorem dX11_room_37 : decode cX11_room 37 = .ok (.aload_n 0, 1) := by decide +kernel
theorem dX11_room_38 : decode cX11_room 38 = .ok (.getfield 21, 3) := by decide +kernel
theorem dX11_room_41 : decode cX11_room 41 = .ok (.aload_n 0, 1) := by decide +kernel
theorem dX11_room_42 : decode cX11_room 42 = .ok (.getfield 17, 3) := by decide +kernel
theorem dX11_room_45 : decode cX11_room 45 = .ok (.iconst 0, 1) := by decide +kernel
theorem dX11_room_46 : decode cX11_room 46 = .ok (.iaload, 1) := by decide +kernel
theorem dX11_room_47 : decode cX11_room 47 = .ok (.iload_n 1, 1) := by decide +kernel
theorem dX11_room_48 : decode cX11_room 48 = .ok (.iastore, 1) := by decide +kernel
theorem dX11_room_49 : decode cX11_room 49 = .ok (.aload_n 0, 1) := by decide +kernel
theorem dX11_room_50 : decode cX11_room 50 = .ok (.getfield 17, 3) := by decide +kernel
theorem dX11_room_53 : decode cX11_room 53 = .ok (.iconst 0, 1) := by decide +kernel
theorem dX11_room_54 : decode cX11_room 54 = .ok (.dup2, 1) := by decide +kernel
theorem dX11_room_55 : decode cX11_room 55 = .ok (.iaload, 1) := by decide +kernel
theorem dX11_room_56 : decode cX11_room 56 = .ok (.iconst 1, 1) := by decide +kernel
theorem dX11_room_57 : decode cX11_room 57 = .ok (.iadd, 1) := by decide +kernel
theorem dX11_room_58 : decode cX11_room 58 = .ok (.iastore, 1) := by decide +kernel
theorem dX11_room_59 : decode cX11_room 59 = .ok (.aload_n 0, 1) := by decide +kernel
theorem dX11_room_60 : decode cX11_room 60 = .ok (.getfield 17, 3) := by decide +kernel
theorem dX11_room_63 : decode cX11_room 63 = .ok (.iconst 0, 1) := by decide +kernel
theorem dX11_room_64 : decode cX11_room 64 = .ok (.iaload, 1) := by decide +kernel
theorem dX11_room_65 : decode cX11_room 65 = .ok (.iconst 1, 1) := by decide +kernel
theorem dX11_room_66 : decode cX11_room 66 = .ok (.isub, 1) := by decide +kernel
