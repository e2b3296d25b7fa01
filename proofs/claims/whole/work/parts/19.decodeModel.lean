theorem dX7_init_0 : decode cX7_init 0 = .ok (.aload_n 0, 1) := by decide +kernel
theorem dX7_init_1 : decode cX7_init 1 = .ok (.invokespecial 1, 3) := by decide +kernel
theorem dX7_init_4 : decode cX7_init 4 = .ok (.aload_n 0, 1) := by decide +kernel
theorem dX7_init_5 : decode cX7_init 5 = .ok (.bipush 10, 2) := by decide +kernel
theorem dX7_init_7 : decode cX7_init 7 = .ok (.newarray .int, 2) := by decide +kernel
theorem dX7_init_9 : decode cX7_init 9 = .ok (.putfield 7, 3) := by decide +kernel
theorem dX7_init_12 : decode cX7_init 12 = .ok (.aload_n 0, 1) := by decide +kernel
theorem dX7_init_13 : decode cX7_init 13 = .ok (.bipush 10, 2) := by decide +kernel
theorem dX7_init_15 : decode cX7_init 15 = .ok (.newarray .int, 2) := by decide +kernel
theorem dX7_init_17 : decode cX7_init 17 = .ok (.putfield 13, 3) := by decide +kernel
theorem dX7_init_20 : decode cX7_init 20 = .ok (.aload_n 0, 1) := by decide +kernel
theorem dX7_init_21 : decode cX7_init 21 = .ok (.bipush 10, 2) := by decide +kernel
theorem dX7_init_23 : decode cX7_init 23 = .ok (.newarray .boolean, 2) := by decide +kernel
theorem dX7_init_25 : decode cX7_init 25 = .ok (.putfield 16, 3) := by decide +kernel
theorem dX7_init_28 : decode cX7_init 28 = .ok (.aload_n 0, 1) := by decide +kernel
theorem dX7_init_29 : decode cX7_init 29 = .ok (.bipush 24, 2) := by decide +kernel
theorem dX7_init_31 : decode cX7_init 31 = .ok (.newarray .int, 2) := by decide +kernel
theorem dX7_init_33 : decode cX7_init 33 = .ok (.putfield 20, 3) := by decide +kernel
theorem dX7_init_36 : decode cX7_init 36 = .ok (.aload_n 0, 1) := by decide +kernel
theorem dX7_init_37 : decode cX7_init 37 = .ok (.bipush 24, 2) := by decide +kernel
theorem dX7_init_39 : decode cX7_init 39 = .ok (.newarray .int, 2) := by decide +kernel
theorem dX7_init_41 : decode cX7_init 41 = .ok (.putfield 23, 3) := by decide +kernel
theorem dX7_init_44 : decode cX7_init 44 = .ok (.aload_n 0, 1) := by decide +kernel
theorem dX7_init_45 : decode cX7_init 45 = .ok (.bipush 24, 2) := by decide +kernel
theorem dX7_init_47 : decode cX7_init 47 = .ok (.newarray .int, 2) := by decide +kernel
theorem dX7_init_49 : decode cX7_init 49 = .ok (.putfield 26, 3) := by decide +kernel
theorem dX7_init_52 : decode cX7_init 52 = .ok (.aload_n 0, 1) := by decide +kernel
theorem dX7_init_53 : decode cX7_init 53 = .ok (.bipush 24, 2) := by decide +kernel
theorem dX7_init_55 : decode cX7_init 55 = .ok (.newarray .int, 2) := by decide +kernel
theorem dX7_init_57 : decode cX7_init 57 = .ok (.putfield 29, 3) := by decide +kernel
theorem dX7_init_60 : decode cX7_init 60 = .ok (.aload_n 0, 1) := by decide +kernel
theorem dX7_init_61 : decode cX7_init 61 = .ok (.bipush 24, 2) := by decide +kernel
theorem dX7_init_63 : decode cX7_init 63 = .ok (.newarray .int, 2) := by decide +kernel
theorem dX7_init_65 : decode cX7_init 65 = .ok (.putfield 32, 3) := by decide +kernel
theorem dX7_init_68 : decode cX7_init 68 = .ok (.aload_n 0, 1) := by decide +kernel
theorem dX7_init_69 : decode cX7_init 69 = .ok (.bipush 24, 2) := by decide +kernel
theorem dX7_init_71 : decode cX7_init 71 = .ok (.newarray .int, 2) := by decide +kernel
theorem dX7_init_73 : decode cX7_init 73 = .ok (.putfield 35, 3) := by decide +kernel
theorem dX7_init_76 : decode cX7_init 76 = .ok (.aload_n 0, 1) := by decide +kernel
theorem dX7_init_77 : decode cX7_init 77 = .ok (.bipush 24, 2) := by decide +kernel
theorem dX7_init_79 : decode cX7_init 79 = .ok (.newarray .int, 2) := by decide +kernel
theorem dX7_init_81 : decode cX7_init 81 = .ok (.putfield 38, 3) := by decide +kernel
theorem dX7_init_84 : decode cX7_init 84 = .ok (.aload_n 0, 1) := by decide +kernel
theorem dX7_init_85 : decode cX7_init 85 = .ok (.bipush 6, 2) := by decide +kernel
theorem dX7_init_87 : decode cX7_init 87 = .ok (.newarray .int, 2) := by decide +kernel
theorem dX7_init_89 : decode cX7_init 89 = .ok (.putfield 41, 3) := by decide +kernel
theorem dX7_init_92 : decode cX7_init 92 = .ok (.aload_n 0, 1) := by decide +kernel
theorem dX7_init_93 : decode cX7_init 93 = .ok (.bipush 24, 2) := by decide +kernel
theorem dX7_init_95 : decode cX7_init 95 = .ok (.newarray .int, 2) := by decide +kernel
theorem dX7_init_97 : decode cX7_init 97 = .ok (.putfield 44, 3) := by decide +kernel
theorem dX7_init_100 : decode cX7_init 100 = .ok (.aload_n 0, 1) := by decide +kernel
theorem dX7_init_101 : decode cX7_init 101 = .ok (.iconst 4, 1) := by decide +kernel
theorem dX7_init_102 : decode cX7_init 102 = .ok (.newarray .int, 2) := by decide +kernel
theorem dX7_init_104 : decode cX7_init 104 = .ok (.dup, 1) := by decide +kernel
theorem dX7_init_105 : decode cX7_init 105 = .ok (.iconst 0, 1) := by decide +kernel
theorem dX7_init_106 : decode cX7_init 106 = .ok (.iconst 0, 1) := by decide +kernel
theorem dX7_init_107 : decode cX7_init 107 = .ok (.iastore, 1) := by decide +kernel
theorem dX7_init_108 : decode cX7_init 108 = .ok (.dup, 1) := by decide +kernel
theorem dX7_init_109 : decode cX7_init 109 = .ok (.iconst 1, 1) := by decide +kernel
theorem dX7_init_110 : decode cX7_init 110 = .ok (.iconst 5, 1) := by decide +kernel
theorem dX7_init_111 : decode cX7_init 111 = .ok (.iastore, 1) := by decide +kernel
theorem dX7_init_112 : decode cX7_init 112 = .ok (.dup, 1) := by decide +kernel
theorem dX7_init_113 : decode cX7_init 113 = .ok (.iconst 2, 1) := by decide +kernel
theorem dX7_init_114 : decode cX7_init 114 = .ok (.bipush 10, 2) := by decide +kernel
theorem dX7_init_116 : decode cX7_init 116 = .ok (.iastore, 1) := by decide +kernel
theorem dX7_init_117 : decode cX7_init 117 = .ok (.dup, 1) := by decide +kernel
theorem dX7_init_118 : decode cX7_init 118 = .ok (.iconst 3, 1) := by decide +kernel
theorem dX7_init_119 : decode cX7_init 119 = .ok (.bipush 15, 2) := by decide +kernel
theorem dX7_init_121 : decode cX7_init 121 = .ok (.iastore, 1) := by decide +kernel
theorem dX7_init_122 : decode cX7_init 122 = .ok (.putfield 47, 3) := by decide +kernel
theorem dX7_init_125 : decode cX7_init 125 = .ok (.aload_n 0, 1) := by decide +kernel
theorem dX7_init_126 : decode cX7_init 126 = .ok (.bipush 8, 2) := by decide +kernel
theorem dX7_init_128 : decode cX7_init 128 = .ok (.newarray .boolean, 2) := by decide +kernel
theorem dX7_init_130 : decode cX7_init 130 = .ok (.putfield 50, 3) := by decide +kernel
theorem dX7_init_133 : decode cX7_init 133 = .ok (.aload_n 0, 1) := by decide +kernel
theorem dX7_init_134 : decode cX7_init 134 = .ok (.bipush 80, 2) := by decide +kernel
theorem dX7_init_136 : decode cX7_init 136 = .ok (.newarray .int, 2) := by decide +kernel
theorem dX7_init_138 : decode cX7_init 138 = .ok (.putfield 53, 3) := by decide +kernel
theorem dX7_init_141 : decode cX7_init 141 = .ok (.aload_n 0, 1) := by decide +kernel
theorem dX7_init_142 : decode cX7_init 142 = .ok (.bipush 80, 2) := by decide +kernel
theorem dX7_init_144 : decode cX7_init 144 = .ok (.newarray .int, 2) := by decide +kernel
theorem dX7_init_146 : decode cX7_init 146 = .ok (.putfield 56, 3) := by decide +kernel
theorem dX7_init_149 : decode cX7_init 149 = .ok (.aload_n 0, 1) := by decide +kernel
theorem dX7_init_150 : decode cX7_init 150 = .ok (.bipush 80, 2) := by decide +kernel
theorem dX7_init_152 : decode cX7_init 152 = .ok (.newarray .int, 2) := by decide +kernel
theorem dX7_init_154 : decode cX7_init 154 = .ok (.putfield 59, 3) := by decide +kernel
theorem dX7_init_157 : decode cX7_init 157 = .ok (.aload_n 0, 1) := by decide +kernel
theorem dX7_init_158 : decode cX7_init 158 = .ok (.bipush 80, 2) := by decide +kernel
theorem dX7_init_160 : decode cX7_init 160 = .ok (.newarray .int, 2) := by decide +kernel
theorem dX7_init_162 : decode cX7_init 162 = .ok (.putfield 62, 3) := by decide +kernel
theorem dX7_init_165 : decode cX7_init 165 = .ok (.aload_n 0, 1) := by decide +kernel
theorem dX7_init_166 : decode cX7_init 166 = .ok (.bipush 80, 2) := by decide +kernel
theorem dX7_init_168 : decode cX7_init 168 = .ok (.newarray .int, 2) := by decide +kernel
theorem dX7_init_170 : decode cX7_init 170 = .ok (.putfield 65, 3) := by decide +kernel
theorem dX7_init_173 : decode cX7_init 173 = .ok (.aload_n 0, 1) := by decide +kernel
theorem dX7_init_174 : decode cX7_init 174 = .ok (.bipush 80, 2) := by decide +kernel
theorem dX7_init_176 : decode cX7_init 176 = .ok (.newarray .boolean, 2) := by decide +kernel
theorem dX7_init_178 : decode cX7_init 178 = .ok (.putfield 68, 3) := by decide +kernel
theorem dX7_init_181 : decode cX7_init 181 = .ok (.aload_n 0, 1) := by decide +kernel
theorem dX7_init_182 : decode cX7_init 182 = .ok (.bipush 80, 2) := by decide +kernel
theorem dX7_init_184 : decode cX7_init 184 = .ok (.newarray .int, 2) := by decide +kernel
theorem dX7_init_186 : decode cX7_init 186 = .ok (.putfield 71, 3) := by decide +kernel
theorem dX7_init_189 : decode cX7_init 189 = .ok (.aload_n 0, 1) := by decide +kernel
theorem dX7_init_190 : decode cX7_init 190 = .ok (.bipush 80, 2) := by decide +kernel
theorem dX7_init_192 : decode cX7_init 192 = .ok (.newarray .int, 2) := by decide +kernel
theorem dX7_init_194 : decode cX7_init 194 = .ok (.putfield 74, 3) := by decide +kernel
theorem dX7_init_197 : decode cX7_init 197 = .ok (.aload_n 0, 1) := by decide +kernel
theorem dX7_init_198 : decode cX7_init 198 = .ok (.bipush 8, 2) := by decide +kernel
theorem dX7_init_200 : decode cX7_init 200 = .ok (.newarray .int, 2) := by decide +kernel
theorem dX7_init_202 : decode cX7_init 202 = .ok (.putfield 77, 3) := by decide +kernel
theorem dX7_init_205 : decode cX7_init 205 = .ok (.aload_n 0, 1) := by decide +kernel
theorem dX7_init_206 : decode cX7_init 206 = .ok (.sipush 640, 3) := by decide +kernel
theorem dX7_init_209 : decode cX7_init 209 = .ok (.newarray .int, 2) := by decide +kernel
theorem dX7_init_211 : decode cX7_init 211 = .ok (.putfield 80, 3) := by decide +kernel
theorem dX7_init_214 : decode cX7_init 214 = .ok (.aload_n 0, 1) := by decide +kernel
theorem dX7_init_215 : decode cX7_init 215 = .ok (.bipush 8, 2) := by decide +kernel
theorem dX7_init_217 : decode cX7_init 217 = .ok (.newarray .int, 2) := by decide +kernel
theorem dX7_init_219 : decode cX7_init 219 = .ok (.putfield 83, 3) := by decide +kernel
theorem dX7_init_222 : decode cX7_init 222 = .ok (.aload_n 0, 1) := by decide +kernel
theorem dX7_init_223 : decode cX7_init 223 = .ok (.bipush 8, 2) := by decide +kernel
theorem dX7_init_225 : decode cX7_init 225 = .ok (.newarray .int, 2) := by decide +kernel
theorem dX7_init_227 : decode cX7_init 227 = .ok (.putfield 86, 3) := by decide +kernel
theorem dX7_init_230 : decode cX7_init 230 = .ok (.aload_n 0, 1) := by decide +kernel
theorem dX7_init_231 : decode cX7_init 231 = .ok (.bipush 8, 2) := by decide +kernel
theorem dX7_init_233 : decode cX7_init 233 = .ok (.newarray .int, 2) := by decide +kernel
theorem dX7_init_235 : decode cX7_init 235 = .ok (.dup, 1) := by decide +kernel
theorem dX7_init_236 : decode cX7_init 236 = .ok (.iconst 0, 1) := by decide +kernel
theorem dX7_init_237 : decode cX7_init 237 = .ok (.iconst (-1), 1) := by decide +kernel
theorem dX7_init_238 : decode cX7_init 238 = .ok (.iastore, 1) := by decide +kernel
theorem dX7_init_239 : decode cX7_init 239 = .ok (.dup, 1) := by decide +kernel
theorem dX7_init_240 : decode cX7_init 240 = .ok (.iconst 1, 1) := by decide +kernel
theorem dX7_init_241 : decode cX7_init 241 = .ok (.iconst (-1), 1) := by decide +kernel
theorem dX7_init_242 : decode cX7_init 242 = .ok (.iastore, 1) := by decide +kernel
theorem dX7_init_243 : decode cX7_init 243 = .ok (.dup, 1) := by decide +kernel
theorem dX7_init_244 : decode cX7_init 244 = .ok (.iconst 2, 1) := by decide +kernel
theorem dX7_init_245 : decode cX7_init 245 = .ok (.iconst (-1), 1) := by decide +kernel
theorem dX7_init_246 : decode cX7_init 246 = .ok (.iastore, 1) := by decide +kernel
theorem dX7_init_247 : decode cX7_init 247 = .ok (.dup, 1) := by decide +kernel
theorem dX7_init_248 : decode cX7_init 248 = .ok (.iconst 3, 1) := by decide +kernel
theorem dX7_init_249 : decode cX7_init 249 = .ok (.iconst (-1), 1) := by decide +kernel
theorem dX7_init_250 : decode cX7_init 250 = .ok (.iastore, 1) := by decide +kernel
theorem dX7_init_251 : decode cX7_init 251 = .ok (.dup, 1) := by decide +kernel
theorem dX7_init_252 : decode cX7_init 252 = .ok (.iconst 4, 1) := by decide +kernel
theorem dX7_init_253 : decode cX7_init 253 = .ok (.iconst (-1), 1) := by decide +kernel
theorem dX7_init_254 : decode cX7_init 254 = .ok (.iastore, 1) := by decide +kernel
theorem dX7_init_255 : decode cX7_init 255 = .ok (.dup, 1) := by decide +kernel
theorem dX7_init_256 : decode cX7_init 256 = .ok (.iconst 5, 1) := by decide +kernel
theorem dX7_init_257 : decode cX7_init 257 = .ok (.iconst (-1), 1) := by decide +kernel
theorem dX7_init_258 : decode cX7_init 258 = .ok (.iastore, 1) := by decide +kernel
theorem dX7_init_259 : decode cX7_init 259 = .ok (.dup, 1) := by decide +kernel
theorem dX7_init_260 : decode cX7_init 260 = .ok (.bipush 6, 2) := by decide +kernel
theorem dX7_init_262 : decode cX7_init 262 = .ok (.iconst (-1), 1) := by decide +kernel
theorem dX7_init_263 : decode cX7_init 263 = .ok (.iastore, 1) := by decide +kernel
theorem dX7_init_264 : decode cX7_init 264 = .ok (.dup, 1) := by decide +kernel
theorem dX7_init_265 : decode cX7_init 265 = .ok (.bipush 7, 2) := by decide +kernel
theorem dX7_init_267 : decode cX7_init 267 = .ok (.iconst (-1), 1) := by decide +kernel
theorem dX7_init_268 : decode cX7_init 268 = .ok (.iastore, 1) := by decide +kernel
theorem dX7_init_269 : decode cX7_init 269 = .ok (.putfield 89, 3) := by decide +kernel
theorem dX7_init_272 : decode cX7_init 272 = .ok (.aload_n 0, 1) := by decide +kernel
theorem dX7_init_273 : decode cX7_init 273 = .ok (.bipush 8, 2) := by decide +kernel
theorem dX7_init_275 : decode cX7_init 275 = .ok (.newarray .int, 2) := by decide +kernel
theorem dX7_init_277 : decode cX7_init 277 = .ok (.dup, 1) := by decide +kernel
theorem dX7_init_278 : decode cX7_init 278 = .ok (.iconst 0, 1) := by decide +kernel
theorem dX7_init_279 : decode cX7_init 279 = .ok (.iconst (-1), 1) := by decide +kernel
theorem dX7_init_280 : decode cX7_init 280 = .ok (.iastore, 1) := by decide +kernel
theorem dX7_init_281 : decode cX7_init 281 = .ok (.dup, 1) := by decide +kernel
theorem dX7_init_282 : decode cX7_init 282 = .ok (.iconst 1, 1) := by decide +kernel
theorem dX7_init_283 : decode cX7_init 283 = .ok (.iconst (-1), 1) := by decide +kernel
theorem dX7_init_284 : decode cX7_init 284 = .ok (.iastore, 1) := by decide +kernel
theorem dX7_init_285 : decode cX7_init 285 = .ok (.dup, 1) := by decide +kernel
theorem dX7_init_286 : decode cX7_init 286 = .ok (.iconst 2, 1) := by decide +kernel
theorem dX7_init_287 : decode cX7_init 287 = .ok (.iconst (-1), 1) := by decide +kernel
theorem dX7_init_288 : decode cX7_init 288 = .ok (.iastore, 1) := by decide +kernel
theorem dX7_init_289 : decode cX7_init 289 = .ok (.dup, 1) := by decide +kernel
theorem dX7_init_290 : decode cX7_init 290 = .ok (.iconst 3, 1) := by decide +kernel
theorem dX7_init_291 : decode cX7_init 291 = .ok (.iconst (-1), 1) := by decide +kernel
theorem dX7_init_292 : decode cX7_init 292 = .ok (.iastore, 1) := by decide +kernel
theorem dX7_init_293 : decode cX7_init 293 = .ok (.dup, 1) := by decide +kernel
theorem dX7_init_294 : decode cX7_init 294 = .ok (.iconst 4, 1) := by decide +kernel
theorem dX7_init_295 : decode cX7_init 295 = .ok (.iconst (-1), 1) := by decide +kernel
theorem dX7_init_296 : decode cX7_init 296 = .ok (.iastore, 1) := by decide +kernel
theorem dX7_init_297 : decode cX7_init 297 = .ok (.dup, 1) := by decide +kernel
theorem dX7_init_298 : decode cX7_init 298 = .ok (.iconst 5, 1) := by decide +kernel
theorem dX7_init_299 : decode cX7_init 299 = .ok (.iconst (-1), 1) := by decide +kernel
theorem dX7_init_300 : decode cX7_init 300 = .ok (.iastore, 1) := by decide +kernel
theorem dX7_init_301 : decode cX7_init 301 = .ok (.dup, 1) := by decide +kernel
theorem dX7_init_302 : decode cX7_init 302 = .ok (.bipush 6, 2) := by decide +kernel
theorem dX7_init_304 : decode cX7_init 304 = .ok (.iconst (-1), 1) := by decide +kernel
theorem dX7_init_305 : decode cX7_init 305 = .ok (.iastore, 1) := by decide +kernel
theorem dX7_init_306 : decode cX7_init 306 = .ok (.dup, 1) := by decide +kernel
theorem dX7_init_307 : decode cX7_init 307 = .ok (.bipush 7, 2) := by decide +kernel
theorem dX7_init_309 : decode cX7_init 309 = .ok (.iconst (-1), 1) := by decide +kernel
theorem dX7_init_310 : decode cX7_init 310 = .ok (.iastore, 1) := by decide +kernel
theorem dX7_init_311 : decode cX7_init 311 = .ok (.putfield 92, 3) := by decide +kernel
theorem dX7_init_314 : decode cX7_init 314 = .ok (.return_, 1) := by decide +kernel
theorem dX7_thrown_0 : decode cX7_thrown 0 = .ok (.aload_n 0, 1) := by decide +kernel
theorem dX7_thrown_1 : decode cX7_thrown 1 = .ok (.getfield 95, 3) := by decide +kernel
theorem dX7_thrown_4 : decode cX7_thrown 4 = .ok (.ireturn, 1) := by decide +kernel
theorem dX7_in_0 : decode cX7_in 0 = .ok (.iload_n 0, 1) := by decide +kernel
theorem dX7_in_1 : decode cX7_in 1 = .ok (.iload_n 1, 1) := by decide +kernel
theorem dX7_in_2 : decode cX7_in 2 = .ok (.if_icmp .lt 12, 3) := by decide +kernel
theorem dX7_in_5 : decode cX7_in 5 = .ok (.iload_n 0, 1) := by decide +kernel
theorem dX7_in_6 : decode cX7_in 6 = .ok (.iload_n 2, 1) := by decide +kernel
theorem dX7_in_7 : decode cX7_in 7 = .ok (.if_icmp .gt 7, 3) := by decide +kernel
theorem dX7_in_10 : decode cX7_in 10 = .ok (.iconst 1, 1) := by decide +kernel
theorem dX7_in_11 : decode cX7_in 11 = .ok (.goto 4, 3) := by decide +kernel
theorem dX7_in_14 : decode cX7_in 14 = .ok (.iconst 0, 1) := by decide +kernel
theorem dX7_in_15 : decode cX7_in 15 = .ok (.ireturn, 1) := by decide +kernel
theorem dX7_isPlace_0 : decode cX7_isPlace 0 = .ok (.iload_n 0, 1) := by decide +kernel
theorem dX7_isPlace_1 : decode cX7_isPlace 1 = .ok (.iconst 0, 1) := by decide +kernel
theorem dX7_isPlace_2 : decode cX7_isPlace 2 = .ok (.bipush 15, 2) := by decide +kernel
theorem dX7_isPlace_4 : decode cX7_isPlace 4 = .ok (.invokestatic 99, 3) := by decide +kernel
theorem dX7_isPlace_7 : decode cX7_isPlace 7 = .ok (.ireturn, 1) := by decide +kernel
theorem dX7_isCrane_0 : decode cX7_isCrane 0 = .ok (.iload_n 0, 1) := by decide +kernel
theorem dX7_isCrane_1 : decode cX7_isCrane 1 = .ok (.iconst 0, 1) := by decide +kernel
theorem dX7_isCrane_2 : decode cX7_isCrane 2 = .ok (.iconst 3, 1) := by decide +kernel
theorem dX7_isCrane_3 : decode cX7_isCrane 3 = .ok (.invokestatic 99, 3) := by decide +kernel
theorem dX7_isCrane_6 : decode cX7_isCrane 6 = .ok (.ireturn, 1) := by decide +kernel
theorem dX7_isWorker_0 : decode cX7_isWorker 0 = .ok (.iload_n 0, 1) := by decide +kernel
theorem dX7_isWorker_1 : decode cX7_isWorker 1 = .ok (.iconst 0, 1) := by decide +kernel
theorem dX7_isWorker_2 : decode cX7_isWorker 2 = .ok (.bipush 7, 2) := by decide +kernel
theorem dX7_isWorker_4 : decode cX7_isWorker 4 = .ok (.invokestatic 99, 3) := by decide +kernel
theorem dX7_isWorker_7 : decode cX7_isWorker 7 = .ok (.ireturn, 1) := by decide +kernel
theorem dX7_isShip_0 : decode cX7_isShip 0 = .ok (.iload_n 1, 1) := by decide +kernel
theorem dX7_isShip_1 : decode cX7_isShip 1 = .ok (.iconst 0, 1) := by decide +kernel
theorem dX7_isShip_2 : decode cX7_isShip 2 = .ok (.aload_n 0, 1) := by decide +kernel
theorem dX7_isShip_3 : decode cX7_isShip 3 = .ok (.getfield 103, 3) := by decide +kernel
theorem dX7_isShip_6 : decode cX7_isShip 6 = .ok (.iconst 1, 1) := by decide +kernel
theorem dX7_isShip_7 : decode cX7_isShip 7 = .ok (.isub, 1) := by decide +kernel
theorem dX7_isShip_8 : decode cX7_isShip 8 = .ok (.invokestatic 99, 3) := by decide +kernel
theorem dX7_isShip_11 : decode cX7_isShip 11 = .ok (.ifCond .eq 16, 3) := by decide +kernel
theorem dX7_isShip_14 : decode cX7_isShip 14 = .ok (.aload_n 0, 1) := by decide +kernel
theorem dX7_isShip_15 : decode cX7_isShip 15 = .ok (.getfield 16, 3) := by decide +kernel
theorem dX7_isShip_18 : decode cX7_isShip 18 = .ok (.iload_n 1, 1) := by decide +kernel
theorem dX7_isShip_19 : decode cX7_isShip 19 = .ok (.baload, 1) := by decide +kernel
theorem dX7_isShip_20 : decode cX7_isShip 20 = .ok (.ifCond .ne 7, 3) := by decide +kernel
theorem dX7_isShip_23 : decode cX7_isShip 23 = .ok (.iconst 1, 1) := by decide +kernel
theorem dX7_isShip_24 : decode cX7_isShip 24 = .ok (.goto 4, 3) := by decide +kernel
theorem dX7_isShip_27 : decode cX7_isShip 27 = .ok (.iconst 0, 1) := by decide +kernel
theorem dX7_isShip_28 : decode cX7_isShip 28 = .ok (.ireturn, 1) := by decide +kernel
theorem dX7_isBox_0 : decode cX7_isBox 0 = .ok (.iload_n 1, 1) := by decide +kernel
theorem dX7_isBox_1 : decode cX7_isBox 1 = .ok (.iconst 0, 1) := by decide +kernel
theorem dX7_isBox_2 : decode cX7_isBox 2 = .ok (.aload_n 0, 1) := by decide +kernel
theorem dX7_isBox_3 : decode cX7_isBox 3 = .ok (.getfield 106, 3) := by decide +kernel
theorem dX7_isBox_6 : decode cX7_isBox 6 = .ok (.iconst 1, 1) := by decide +kernel
theorem dX7_isBox_7 : decode cX7_isBox 7 = .ok (.isub, 1) := by decide +kernel
theorem dX7_isBox_8 : decode cX7_isBox 8 = .ok (.invokestatic 99, 3) := by decide +kernel
theorem dX7_isBox_11 : decode cX7_isBox 11 = .ok (.ireturn, 1) := by decide +kernel
theorem dX7_isFree_0 : decode cX7_isFree 0 = .ok (.iconst 1, 1) := by decide +kernel
theorem dX7_isFree_1 : decode cX7_isFree 1 = .ok (.istore_n 3, 1) := by decide +kernel
theorem dX7_isFree_2 : decode cX7_isFree 2 = .ok (.iconst 0, 1) := by decide +kernel
theorem dX7_isFree_3 : decode cX7_isFree 3 = .ok (.istore 4, 2) := by decide +kernel
theorem dX7_isFree_5 : decode cX7_isFree 5 = .ok (.iload 4, 2) := by decide +kernel
theorem dX7_isFree_7 : decode cX7_isFree 7 = .ok (.aload_n 0, 1) := by decide +kernel
theorem dX7_isFree_8 : decode cX7_isFree 8 = .ok (.getfield 103, 3) := by decide +kernel
theorem dX7_isFree_11 : decode cX7_isFree 11 = .ok (.if_icmp .ge 61, 3) := by decide +kernel
theorem dX7_isFree_14 : decode cX7_isFree 14 = .ok (.iload_n 3, 1) := by decide +kernel
theorem dX7_isFree_15 : decode cX7_isFree 15 = .ok (.ifCond .eq 49, 3) := by decide +kernel
theorem dX7_isFree_18 : decode cX7_isFree 18 = .ok (.aload_n 0, 1) := by decide +kernel
theorem dX7_isFree_19 : decode cX7_isFree 19 = .ok (.getfield 16, 3) := by decide +kernel
theorem dX7_isFree_22 : decode cX7_isFree 22 = .ok (.iload 4, 2) := by decide +kernel
theorem dX7_isFree_24 : decode cX7_isFree 24 = .ok (.baload, 1) := by decide +kernel
theorem dX7_isFree_25 : decode cX7_isFree 25 = .ok (.ifCond .ne 35, 3) := by decide +kernel
theorem dX7_isFree_28 : decode cX7_isFree 28 = .ok (.aload_n 0, 1) := by decide +kernel
theorem dX7_isFree_29 : decode cX7_isFree 29 = .ok (.getfield 7, 3) := by decide +kernel
theorem dX7_isFree_32 : decode cX7_isFree 32 = .ok (.iload 4, 2) := by decide +kernel
theorem dX7_isFree_34 : decode cX7_isFree 34 = .ok (.iaload, 1) := by decide +kernel
theorem dX7_isFree_35 : decode cX7_isFree 35 = .ok (.iload_n 1, 1) := by decide +kernel
theorem dX7_isFree_36 : decode cX7_isFree 36 = .ok (.iload_n 2, 1) := by decide +kernel
theorem dX7_isFree_37 : decode cX7_isFree 37 = .ok (.iadd, 1) := by decide +kernel
theorem dX7_isFree_38 : decode cX7_isFree 38 = .ok (.if_icmp .ge 22, 3) := by decide +kernel
theorem dX7_isFree_41 : decode cX7_isFree 41 = .ok (.iload_n 1, 1) := by decide +kernel
theorem dX7_isFree_42 : decode cX7_isFree 42 = .ok (.aload_n 0, 1) := by decide +kernel
theorem dX7_isFree_43 : decode cX7_isFree 43 = .ok (.getfield 7, 3) := by decide +kernel
theorem dX7_isFree_46 : decode cX7_isFree 46 = .ok (.iload 4, 2) := by decide +kernel
theorem dX7_isFree_48 : decode cX7_isFree 48 = .ok (.iaload, 1) := by decide +kernel
theorem dX7_isFree_49 : decode cX7_isFree 49 = .ok (.aload_n 0, 1) := by decide +kernel
theorem dX7_isFree_50 : decode cX7_isFree 50 = .ok (.getfield 13, 3) := by decide +kernel
theorem dX7_isFree_53 : decode cX7_isFree 53 = .ok (.iload 4, 2) := by decide +kernel
theorem dX7_isFree_55 : decode cX7_isFree 55 = .ok (.iaload, 1) := by decide +kernel
theorem dX7_isFree_56 : decode cX7_isFree 56 = .ok (.iadd, 1) := by decide +kernel
theorem dX7_isFree_57 : decode cX7_isFree 57 = .ok (.if_icmp .lt 7, 3) := by decide +kernel
theorem dX7_isFree_60 : decode cX7_isFree 60 = .ok (.iconst 1, 1) := by decide +kernel
theorem dX7_isFree_61 : decode cX7_isFree 61 = .ok (.goto 4, 3) := by decide +kernel
theorem dX7_isFree_64 : decode cX7_isFree 64 = .ok (.iconst 0, 1) := by decide +kernel
theorem dX7_isFree_65 : decode cX7_isFree 65 = .ok (.istore_n 3, 1) := by decide +kernel
theorem dX7_isFree_66 : decode cX7_isFree 66 = .ok (.iinc 4 1, 3) := by decide +kernel
theorem dX7_isFree_69 : decode cX7_isFree 69 = .ok (.goto (-64), 3) := by decide +kernel
theorem dX7_isFree_72 : decode cX7_isFree 72 = .ok (.iload_n 3, 1) := by decide +kernel
theorem dX7_isFree_73 : decode cX7_isFree 73 = .ok (.ireturn, 1) := by decide +kernel
theorem dX7_berth_0 : decode cX7_berth 0 = .ok (.aload_n 0, 1) := by decide +kernel
theorem dX7_berth_1 : decode cX7_berth 1 = .ok (.iload_n 1, 1) := by decide +kernel
theorem dX7_berth_2 : decode cX7_berth 2 = .ok (.invokestatic 109, 3) := by decide +kernel
theorem dX7_berth_5 : decode cX7_berth 5 = .ok (.ifCond .ne 7, 3) := by decide +kernel
theorem dX7_berth_8 : decode cX7_berth 8 = .ok (.iconst 1, 1) := by decide +kernel
theorem dX7_berth_9 : decode cX7_berth 9 = .ok (.goto 48, 3) := by decide +kernel
theorem dX7_berth_12 : decode cX7_berth 12 = .ok (.iload_n 2, 1) := by decide +kernel
theorem dX7_berth_13 : decode cX7_berth 13 = .ok (.iconst 1, 1) := by decide +kernel
theorem dX7_berth_14 : decode cX7_berth 14 = .ok (.bipush 8, 2) := by decide +kernel
theorem dX7_berth_16 : decode cX7_berth 16 = .ok (.invokestatic 99, 3) := by decide +kernel
theorem dX7_berth_19 : decode cX7_berth 19 = .ok (.ifCond .eq 11, 3) := by decide +kernel
theorem dX7_berth_22 : decode cX7_berth 22 = .ok (.iload_n 1, 1) := by decide +kernel
theorem dX7_berth_23 : decode cX7_berth 23 = .ok (.iload_n 2, 1) := by decide +kernel
theorem dX7_berth_24 : decode cX7_berth 24 = .ok (.iadd, 1) := by decide +kernel
theorem dX7_berth_25 : decode cX7_berth 25 = .ok (.bipush 16, 2) := by decide +kernel
theorem dX7_berth_27 : decode cX7_berth 27 = .ok (.if_icmp .le 7, 3) := by decide +kernel
theorem dX7_berth_30 : decode cX7_berth 30 = .ok (.iconst 2, 1) := by decide +kernel
theorem dX7_berth_31 : decode cX7_berth 31 = .ok (.goto 26, 3) := by decide +kernel
theorem dX7_berth_34 : decode cX7_berth 34 = .ok (.aload_n 0, 1) := by decide +kernel
theorem dX7_berth_35 : decode cX7_berth 35 = .ok (.iload_n 1, 1) := by decide +kernel
theorem dX7_berth_36 : decode cX7_berth 36 = .ok (.iload_n 2, 1) := by decide +kernel
theorem dX7_berth_37 : decode cX7_berth 37 = .ok (.invokevirtual 113, 3) := by decide +kernel
theorem dX7_berth_40 : decode cX7_berth 40 = .ok (.ifCond .eq 12, 3) := by decide +kernel
theorem dX7_berth_43 : decode cX7_berth 43 = .ok (.aload_n 0, 1) := by decide +kernel
theorem dX7_berth_44 : decode cX7_berth 44 = .ok (.getfield 103, 3) := by decide +kernel
theorem dX7_berth_47 : decode cX7_berth 47 = .ok (.bipush 10, 2) := by decide +kernel
theorem dX7_berth_49 : decode cX7_berth 49 = .ok (.if_icmp .ne 7, 3) := by decide +kernel
theorem dX7_berth_52 : decode cX7_berth 52 = .ok (.iconst 3, 1) := by decide +kernel
theorem dX7_berth_53 : decode cX7_berth 53 = .ok (.goto 4, 3) := by decide +kernel
theorem dX7_berth_56 : decode cX7_berth 56 = .ok (.iconst 0, 1) := by decide +kernel
theorem dX7_berth_57 : decode cX7_berth 57 = .ok (.putfield 95, 3) := by decide +kernel
theorem dX7_berth_60 : decode cX7_berth 60 = .ok (.aload_n 0, 1) := by decide +kernel
theorem dX7_berth_61 : decode cX7_berth 61 = .ok (.getfield 95, 3) := by decide +kernel
theorem dX7_berth_64 : decode cX7_berth 64 = .ok (.ifCond .le 5, 3) := by decide +kernel
theorem dX7_berth_67 : decode cX7_berth 67 = .ok (.iconst 0, 1) := by decide +kernel
theorem dX7_berth_68 : decode cX7_berth 68 = .ok (.ireturn, 1) := by decide +kernel
theorem dX7_berth_69 : decode cX7_berth 69 = .ok (.aload_n 0, 1) := by decide +kernel
theorem dX7_berth_70 : decode cX7_berth 70 = .ok (.getfield 7, 3) := by decide +kernel
theorem dX7_berth_73 : decode cX7_berth 73 = .ok (.aload_n 0, 1) := by decide +kernel
theorem dX7_berth_74 : decode cX7_berth 74 = .ok (.getfield 103, 3) := by decide +kernel
theorem dX7_berth_77 : decode cX7_berth 77 = .ok (.iload_n 1, 1) := by decide +kernel
theorem dX7_berth_78 : decode cX7_berth 78 = .ok (.iastore, 1) := by decide +kernel
theorem dX7_berth_79 : decode cX7_berth 79 = .ok (.aload_n 0, 1) := by decide +kernel
theorem dX7_berth_80 : decode cX7_berth 80 = .ok (.getfield 13, 3) := by decide +kernel
theorem dX7_berth_83 : decode cX7_berth 83 = .ok (.aload_n 0, 1) := by decide +kernel
theorem dX7_berth_84 : decode cX7_berth 84 = .ok (.getfield 103, 3) := by decide +kernel
theorem dX7_berth_87 : decode cX7_berth 87 = .ok (.iload_n 2, 1) := by decide +kernel
theorem dX7_berth_88 : decode cX7_berth 88 = .ok (.iastore, 1) := by decide +kernel
theorem dX7_berth_89 : decode cX7_berth 89 = .ok (.aload_n 0, 1) := by decide +kernel
theorem dX7_berth_90 : decode cX7_berth 90 = .ok (.dup, 1) := by decide +kernel
theorem dX7_berth_91 : decode cX7_berth 91 = .ok (.getfield 103, 3) := by decide +kernel
theorem dX7_berth_94 : decode cX7_berth 94 = .ok (.iconst 1, 1) := by decide +kernel
theorem dX7_berth_95 : decode cX7_berth 95 = .ok (.iadd, 1) := by decide +kernel
theorem dX7_berth_96 : decode cX7_berth 96 = .ok (.putfield 103, 3) := by decide +kernel
theorem dX7_berth_99 : decode cX7_berth 99 = .ok (.aload_n 0, 1) := by decide +kernel
theorem dX7_berth_100 : decode cX7_berth 100 = .ok (.getfield 103, 3) := by decide +kernel
theorem dX7_berth_103 : decode cX7_berth 103 = .ok (.iconst 1, 1) := by decide +kernel
theorem dX7_berth_104 : decode cX7_berth 104 = .ok (.isub, 1) := by decide +kernel
theorem dX7_berth_105 : decode cX7_berth 105 = .ok (.ireturn, 1) := by decide +kernel
theorem dX7_box_0 : decode cX7_box 0 = .ok (.aload_n 0, 1) := by decide +kernel
theorem dX7_box_1 : decode cX7_box 1 = .ok (.aload_n 0, 1) := by decide +kernel
theorem dX7_box_2 : decode cX7_box 2 = .ok (.iload_n 1, 1) := by decide +kernel
theorem dX7_box_3 : decode cX7_box 3 = .ok (.invokevirtual 117, 3) := by decide +kernel
theorem dX7_box_6 : decode cX7_box 6 = .ok (.ifCond .eq 7, 3) := by decide +kernel
theorem dX7_box_9 : decode cX7_box 9 = .ok (.iconst 0, 1) := by decide +kernel
theorem dX7_box_10 : decode cX7_box 10 = .ok (.goto 4, 3) := by decide +kernel
theorem dX7_box_13 : decode cX7_box 13 = .ok (.iconst 1, 1) := by decide +kernel
theorem dX7_box_14 : decode cX7_box 14 = .ok (.putfield 95, 3) := by decide +kernel
theorem dX7_box_17 : decode cX7_box 17 = .ok (.aload_n 0, 1) := by decide +kernel
theorem dX7_box_18 : decode cX7_box 18 = .ok (.getfield 95, 3) := by decide +kernel
theorem dX7_box_21 : decode cX7_box 21 = .ok (.ifCond .ne 53, 3) := by decide +kernel
theorem dX7_box_24 : decode cX7_box 24 = .ok (.aload_n 0, 1) := by decide +kernel
theorem dX7_box_25 : decode cX7_box 25 = .ok (.iload_n 2, 1) := by decide +kernel
theorem dX7_box_26 : decode cX7_box 26 = .ok (.aload_n 0, 1) := by decide +kernel
theorem dX7_box_27 : decode cX7_box 27 = .ok (.getfield 7, 3) := by decide +kernel
theorem dX7_box_30 : decode cX7_box 30 = .ok (.iload_n 1, 1) := by decide +kernel
theorem dX7_box_31 : decode cX7_box 31 = .ok (.iaload, 1) := by decide +kernel
theorem dX7_box_32 : decode cX7_box 32 = .ok (.aload_n 0, 1) := by decide +kernel
theorem dX7_box_33 : decode cX7_box 33 = .ok (.getfield 7, 3) := by decide +kernel
theorem dX7_box_36 : decode cX7_box 36 = .ok (.iload_n 1, 1) := by decide +kernel
theorem dX7_box_37 : decode cX7_box 37 = .ok (.iaload, 1) := by decide +kernel
theorem dX7_box_38 : decode cX7_box 38 = .ok (.aload_n 0, 1) := by decide +kernel
theorem dX7_box_39 : decode cX7_box 39 = .ok (.getfield 13, 3) := by decide +kernel
theorem dX7_box_42 : decode cX7_box 42 = .ok (.iload_n 1, 1) := by decide +kernel
theorem dX7_box_43 : decode cX7_box 43 = .ok (.iaload, 1) := by decide +kernel
theorem dX7_box_44 : decode cX7_box 44 = .ok (.iadd, 1) := by decide +kernel
theorem dX7_box_45 : decode cX7_box 45 = .ok (.iconst 1, 1) := by decide +kernel
theorem dX7_box_46 : decode cX7_box 46 = .ok (.isub, 1) := by decide +kernel
theorem dX7_box_47 : decode cX7_box 47 = .ok (.invokestatic 99, 3) := by decide +kernel
theorem dX7_box_50 : decode cX7_box 50 = .ok (.ifCond .ne 7, 3) := by decide +kernel
theorem dX7_box_53 : decode cX7_box 53 = .ok (.iconst 2, 1) := by decide +kernel
theorem dX7_box_54 : decode cX7_box 54 = .ok (.goto 17, 3) := by decide +kernel
theorem dX7_box_57 : decode cX7_box 57 = .ok (.aload_n 0, 1) := by decide +kernel
theorem dX7_box_58 : decode cX7_box 58 = .ok (.getfield 106, 3) := by decide +kernel
theorem dX7_box_61 : decode cX7_box 61 = .ok (.bipush 24, 2) := by decide +kernel
theorem dX7_box_63 : decode cX7_box 63 = .ok (.if_icmp .ne 7, 3) := by decide +kernel
theorem dX7_box_66 : decode cX7_box 66 = .ok (.iconst 3, 1) := by decide +kernel
theorem dX7_box_67 : decode cX7_box 67 = .ok (.goto 4, 3) := by decide +kernel
theorem dX7_box_70 : decode cX7_box 70 = .ok (.iconst 0, 1) := by decide +kernel
theorem dX7_box_71 : decode cX7_box 71 = .ok (.putfield 95, 3) := by decide +kernel
theorem dX7_box_74 : decode cX7_box 74 = .ok (.aload_n 0, 1) := by decide +kernel
theorem dX7_box_75 : decode cX7_box 75 = .ok (.getfield 95, 3) := by decide +kernel
theorem dX7_box_78 : decode cX7_box 78 = .ok (.ifCond .le 5, 3) := by decide +kernel
theorem dX7_box_81 : decode cX7_box 81 = .ok (.iconst 0, 1) := by decide +kernel
theorem dX7_box_82 : decode cX7_box 82 = .ok (.ireturn, 1) := by decide +kernel
theorem dX7_box_83 : decode cX7_box 83 = .ok (.aload_n 0, 1) := by decide +kernel
theorem dX7_box_84 : decode cX7_box 84 = .ok (.getfield 20, 3) := by decide +kernel
theorem dX7_box_87 : decode cX7_box 87 = .ok (.aload_n 0, 1) := by decide +kernel
theorem dX7_box_88 : decode cX7_box 88 = .ok (.getfield 106, 3) := by decide +kernel
theorem dX7_box_91 : decode cX7_box 91 = .ok (.iload_n 1, 1) := by decide +kernel
theorem dX7_box_92 : decode cX7_box 92 = .ok (.iastore, 1) := by decide +kernel
theorem dX7_box_93 : decode cX7_box 93 = .ok (.aload_n 0, 1) := by decide +kernel
theorem dX7_box_94 : decode cX7_box 94 = .ok (.getfield 23, 3) := by decide +kernel
theorem dX7_box_97 : decode cX7_box 97 = .ok (.aload_n 0, 1) := by decide +kernel
theorem dX7_box_98 : decode cX7_box 98 = .ok (.getfield 106, 3) := by decide +kernel
theorem dX7_box_101 : decode cX7_box 101 = .ok (.iload_n 2, 1) := by decide +kernel
theorem dX7_box_102 : decode cX7_box 102 = .ok (.iastore, 1) := by decide +kernel
theorem dX7_box_103 : decode cX7_box 103 = .ok (.aload_n 0, 1) := by decide +kernel
theorem dX7_box_104 : decode cX7_box 104 = .ok (.getfield 26, 3) := by decide +kernel
theorem dX7_box_107 : decode cX7_box 107 = .ok (.aload_n 0, 1) := by decide +kernel
theorem dX7_box_108 : decode cX7_box 108 = .ok (.getfield 106, 3) := by decide +kernel
theorem dX7_box_111 : decode cX7_box 111 = .ok (.iconst 0, 1) := by decide +kernel
theorem dX7_box_112 : decode cX7_box 112 = .ok (.iastore, 1) := by decide +kernel
theorem dX7_box_113 : decode cX7_box 113 = .ok (.aload_n 0, 1) := by decide +kernel
theorem dX7_box_114 : decode cX7_box 114 = .ok (.getfield 32, 3) := by decide +kernel
theorem dX7_box_117 : decode cX7_box 117 = .ok (.aload_n 0, 1) := by decide +kernel
theorem dX7_box_118 : decode cX7_box 118 = .ok (.getfield 106, 3) := by decide +kernel
theorem dX7_box_121 : decode cX7_box 121 = .ok (.iconst (-1), 1) := by decide +kernel
theorem dX7_box_122 : decode cX7_box 122 = .ok (.iastore, 1) := by decide +kernel
theorem dX7_box_123 : decode cX7_box 123 = .ok (.aload_n 0, 1) := by decide +kernel
theorem dX7_box_124 : decode cX7_box 124 = .ok (.getfield 35, 3) := by decide +kernel
theorem dX7_box_127 : decode cX7_box 127 = .ok (.aload_n 0, 1) := by decide +kernel
theorem dX7_box_128 : decode cX7_box 128 = .ok (.getfield 106, 3) := by decide +kernel
theorem dX7_box_131 : decode cX7_box 131 = .ok (.iconst (-1), 1) := by decide +kernel
theorem dX7_box_132 : decode cX7_box 132 = .ok (.iastore, 1) := by decide +kernel
theorem dX7_box_133 : decode cX7_box 133 = .ok (.aload_n 0, 1) := by decide +kernel
theorem dX7_box_134 : decode cX7_box 134 = .ok (.dup, 1) := by decide +kernel
theorem dX7_box_135 : decode cX7_box 135 = .ok (.getfield 106, 3) := by decide +kernel
theorem dX7_box_138 : decode cX7_box 138 = .ok (.iconst 1, 1) := by decide +kernel
theorem dX7_box_139 : decode cX7_box 139 = .ok (.iadd, 1) := by decide +kernel
theorem dX7_box_140 : decode cX7_box 140 = .ok (.putfield 106, 3) := by decide +kernel
theorem dX7_box_143 : decode cX7_box 143 = .ok (.aload_n 0, 1) := by decide +kernel
theorem dX7_box_144 : decode cX7_box 144 = .ok (.getfield 106, 3) := by decide +kernel
theorem dX7_box_147 : decode cX7_box 147 = .ok (.iconst 1, 1) := by decide +kernel
theorem dX7_box_148 : decode cX7_box 148 = .ok (.isub, 1) := by decide +kernel
theorem dX7_box_149 : decode cX7_box 149 = .ok (.ireturn, 1) := by decide +kernel
theorem dX7_leave_0 : decode cX7_leave 0 = .ok (.aload_n 0, 1) := by decide +kernel
theorem dX7_leave_1 : decode cX7_leave 1 = .ok (.aload_n 0, 1) := by decide +kernel
theorem dX7_leave_2 : decode cX7_leave 2 = .ok (.iload_n 1, 1) := by decide +kernel
theorem dX7_leave_3 : decode cX7_leave 3 = .ok (.invokevirtual 117, 3) := by decide +kernel
theorem dX7_leave_6 : decode cX7_leave 6 = .ok (.ifCond .eq 7, 3) := by decide +kernel
theorem dX7_leave_9 : decode cX7_leave 9 = .ok (.iconst 0, 1) := by decide +kernel
theorem dX7_leave_10 : decode cX7_leave 10 = .ok (.goto 4, 3) := by decide +kernel
theorem dX7_leave_13 : decode cX7_leave 13 = .ok (.iconst 1, 1) := by decide +kernel
theorem dX7_leave_14 : decode cX7_leave 14 = .ok (.putfield 95, 3) := by decide +kernel
theorem dX7_leave_17 : decode cX7_leave 17 = .ok (.iconst 0, 1) := by decide +kernel
theorem dX7_leave_18 : decode cX7_leave 18 = .ok (.istore_n 2, 1) := by decide +kernel
theorem dX7_leave_19 : decode cX7_leave 19 = .ok (.iconst 0, 1) := by decide +kernel
theorem dX7_leave_20 : decode cX7_leave 20 = .ok (.istore_n 3, 1) := by decide +kernel
theorem dX7_leave_21 : decode cX7_leave 21 = .ok (.iload_n 3, 1) := by decide +kernel
theorem dX7_leave_22 : decode cX7_leave 22 = .ok (.aload_n 0, 1) := by decide +kernel
theorem dX7_leave_23 : decode cX7_leave 23 = .ok (.getfield 106, 3) := by decide +kernel
theorem dX7_leave_26 : decode cX7_leave 26 = .ok (.if_icmp .ge 62, 3) := by decide +kernel
theorem dX7_leave_29 : decode cX7_leave 29 = .ok (.aload_n 0, 1) := by decide +kernel
theorem dX7_leave_30 : decode cX7_leave 30 = .ok (.getfield 95, 3) := by decide +kernel
theorem dX7_leave_33 : decode cX7_leave 33 = .ok (.ifCond .ne 55, 3) := by decide +kernel
theorem dX7_leave_36 : decode cX7_leave 36 = .ok (.aload_n 0, 1) := by decide +kernel
theorem dX7_leave_37 : decode cX7_leave 37 = .ok (.aload_n 0, 1) := by decide +kernel
theorem dX7_leave_38 : decode cX7_leave 38 = .ok (.getfield 20, 3) := by decide +kernel
theorem dX7_leave_41 : decode cX7_leave 41 = .ok (.iload_n 3, 1) := by decide +kernel
theorem dX7_leave_42 : decode cX7_leave 42 = .ok (.iaload, 1) := by decide +kernel
theorem dX7_leave_43 : decode cX7_leave 43 = .ok (.iload_n 1, 1) := by decide +kernel
theorem dX7_leave_44 : decode cX7_leave 44 = .ok (.if_icmp .ne 16, 3) := by decide +kernel
theorem dX7_leave_47 : decode cX7_leave 47 = .ok (.aload_n 0, 1) := by decide +kernel
theorem dX7_leave_48 : decode cX7_leave 48 = .ok (.getfield 26, 3) := by decide +kernel
theorem dX7_leave_51 : decode cX7_leave 51 = .ok (.iload_n 3, 1) := by decide +kernel
theorem dX7_leave_52 : decode cX7_leave 52 = .ok (.iaload, 1) := by decide +kernel
theorem dX7_leave_53 : decode cX7_leave 53 = .ok (.ifCond .ne 7, 3) := by decide +kernel
theorem dX7_leave_56 : decode cX7_leave 56 = .ok (.iconst 2, 1) := by decide +kernel
theorem dX7_leave_57 : decode cX7_leave 57 = .ok (.goto 4, 3) := by decide +kernel
theorem dX7_leave_60 : decode cX7_leave 60 = .ok (.iconst 0, 1) := by decide +kernel
theorem dX7_leave_61 : decode cX7_leave 61 = .ok (.putfield 95, 3) := by decide +kernel
theorem dX7_leave_64 : decode cX7_leave 64 = .ok (.iload_n 2, 1) := by decide +kernel
theorem dX7_leave_65 : decode cX7_leave 65 = .ok (.aload_n 0, 1) := by decide +kernel
theorem dX7_leave_66 : decode cX7_leave 66 = .ok (.getfield 20, 3) := by decide +kernel
theorem dX7_leave_69 : decode cX7_leave 69 = .ok (.iload_n 3, 1) := by decide +kernel
theorem dX7_leave_70 : decode cX7_leave 70 = .ok (.iaload, 1) := by decide +kernel
theorem dX7_leave_71 : decode cX7_leave 71 = .ok (.iload_n 1, 1) := by decide +kernel
theorem dX7_leave_72 : decode cX7_leave 72 = .ok (.if_icmp .ne 7, 3) := by decide +kernel
theorem dX7_leave_75 : decode cX7_leave 75 = .ok (.iconst 1, 1) := by decide +kernel
theorem dX7_leave_76 : decode cX7_leave 76 = .ok (.goto 4, 3) := by decide +kernel
theorem dX7_leave_79 : decode cX7_leave 79 = .ok (.iconst 0, 1) := by decide +kernel
theorem dX7_leave_80 : decode cX7_leave 80 = .ok (.iadd, 1) := by decide +kernel
theorem dX7_leave_81 : decode cX7_leave 81 = .ok (.istore_n 2, 1) := by decide +kernel
theorem dX7_leave_82 : decode cX7_leave 82 = .ok (.iinc 3 1, 3) := by decide +kernel
theorem dX7_leave_85 : decode cX7_leave 85 = .ok (.goto (-64), 3) := by decide +kernel
theorem dX7_leave_88 : decode cX7_leave 88 = .ok (.aload_n 0, 1) := by decide +kernel
theorem dX7_leave_89 : decode cX7_leave 89 = .ok (.getfield 95, 3) := by decide +kernel
theorem dX7_leave_92 : decode cX7_leave 92 = .ok (.ifCond .le 5, 3) := by decide +kernel
theorem dX7_leave_95 : decode cX7_leave 95 = .ok (.iconst 0, 1) := by decide +kernel
theorem dX7_leave_96 : decode cX7_leave 96 = .ok (.ireturn, 1) := by decide +kernel
theorem dX7_leave_97 : decode cX7_leave 97 = .ok (.aload_n 0, 1) := by decide +kernel
theorem dX7_leave_98 : decode cX7_leave 98 = .ok (.getfield 16, 3) := by decide +kernel
theorem dX7_leave_101 : decode cX7_leave 101 = .ok (.iload_n 1, 1) := by decide +kernel
theorem dX7_leave_102 : decode cX7_leave 102 = .ok (.iconst 1, 1) := by decide +kernel
theorem dX7_leave_103 : decode cX7_leave 103 = .ok (.bastore, 1) := by decide +kernel
theorem dX7_leave_104 : decode cX7_leave 104 = .ok (.iload_n 2, 1) := by decide +kernel
theorem dX7_leave_105 : decode cX7_leave 105 = .ok (.ireturn, 1) := by decide +kernel
theorem dX7_joins_0 : decode cX7_joins 0 = .ok (.aload_n 0, 1) := by decide +kernel
theorem dX7_joins_1 : decode cX7_joins 1 = .ok (.getfield 80, 3) := by decide +kernel
theorem dX7_joins_4 : decode cX7_joins 4 = .ok (.bipush 80, 2) := by decide +kernel
theorem dX7_joins_6 : decode cX7_joins 6 = .ok (.iload_n 1, 1) := by decide +kernel
theorem dX7_joins_7 : decode cX7_joins 7 = .ok (.imul, 1) := by decide +kernel
theorem dX7_joins_8 : decode cX7_joins 8 = .ok (.aload_n 0, 1) := by decide +kernel
theorem dX7_joins_9 : decode cX7_joins 9 = .ok (.getfield 77, 3) := by decide +kernel
theorem dX7_joins_12 : decode cX7_joins 12 = .ok (.iload_n 1, 1) := by decide +kernel
theorem dX7_joins_13 : decode cX7_joins 13 = .ok (.iaload, 1) := by decide +kernel
theorem dX7_joins_14 : decode cX7_joins 14 = .ok (.iadd, 1) := by decide +kernel
theorem dX7_joins_15 : decode cX7_joins 15 = .ok (.iload_n 2, 1) := by decide +kernel
theorem dX7_joins_16 : decode cX7_joins 16 = .ok (.iastore, 1) := by decide +kernel
theorem dX7_joins_17 : decode cX7_joins 17 = .ok (.aload_n 0, 1) := by decide +kernel
theorem dX7_joins_18 : decode cX7_joins 18 = .ok (.getfield 77, 3) := by decide +kernel
theorem dX7_joins_21 : decode cX7_joins 21 = .ok (.iload_n 1, 1) := by decide +kernel
theorem dX7_joins_22 : decode cX7_joins 22 = .ok (.dup2, 1) := by decide +kernel
theorem dX7_joins_23 : decode cX7_joins 23 = .ok (.iaload, 1) := by decide +kernel
theorem dX7_joins_24 : decode cX7_joins 24 = .ok (.iconst 1, 1) := by decide +kernel
theorem dX7_joins_25 : decode cX7_joins 25 = .ok (.iadd, 1) := by decide +kernel
theorem dX7_joins_26 : decode cX7_joins 26 = .ok (.iastore, 1) := by decide +kernel
theorem dX7_joins_27 : decode cX7_joins 27 = .ok (.return_, 1) := by decide +kernel
theorem dX7_quits_0 : decode cX7_quits 0 = .ok (.iconst 0, 1) := by decide +kernel
theorem dX7_quits_1 : decode cX7_quits 1 = .ok (.istore_n 3, 1) := by decide +kernel
theorem dX7_quits_2 : decode cX7_quits 2 = .ok (.iconst 0, 1) := by decide +kernel
theorem dX7_quits_3 : decode cX7_quits 3 = .ok (.istore 4, 2) := by decide +kernel
theorem dX7_quits_5 : decode cX7_quits 5 = .ok (.iload 4, 2) := by decide +kernel
theorem dX7_quits_7 : decode cX7_quits 7 = .ok (.aload_n 0, 1) := by decide +kernel
theorem dX7_quits_8 : decode cX7_quits 8 = .ok (.getfield 77, 3) := by decide +kernel
theorem dX7_quits_11 : decode cX7_quits 11 = .ok (.iload_n 1, 1) := by decide +kernel
theorem dX7_quits_12 : decode cX7_quits 12 = .ok (.iaload, 1) := by decide +kernel
theorem dX7_quits_13 : decode cX7_quits 13 = .ok (.if_icmp .ge 50, 3) := by decide +kernel
theorem dX7_quits_16 : decode cX7_quits 16 = .ok (.aload_n 0, 1) := by decide +kernel
theorem dX7_quits_17 : decode cX7_quits 17 = .ok (.getfield 80, 3) := by decide +kernel
theorem dX7_quits_20 : decode cX7_quits 20 = .ok (.bipush 80, 2) := by decide +kernel
theorem dX7_quits_22 : decode cX7_quits 22 = .ok (.iload_n 1, 1) := by decide +kernel
theorem dX7_quits_23 : decode cX7_quits 23 = .ok (.imul, 1) := by decide +kernel
theorem dX7_quits_24 : decode cX7_quits 24 = .ok (.iload 4, 2) := by decide +kernel
theorem dX7_quits_26 : decode cX7_quits 26 = .ok (.iadd, 1) := by decide +kernel
theorem dX7_quits_27 : decode cX7_quits 27 = .ok (.iaload, 1) := by decide +kernel
theorem dX7_quits_28 : decode cX7_quits 28 = .ok (.istore 5, 2) := by decide +kernel
theorem dX7_quits_30 : decode cX7_quits 30 = .ok (.aload_n 0, 1) := by decide +kernel
theorem dX7_quits_31 : decode cX7_quits 31 = .ok (.getfield 80, 3) := by decide +kernel
theorem dX7_quits_34 : decode cX7_quits 34 = .ok (.bipush 80, 2) := by decide +kernel
theorem dX7_quits_36 : decode cX7_quits 36 = .ok (.iload_n 1, 1) := by decide +kernel
theorem dX7_quits_37 : decode cX7_quits 37 = .ok (.imul, 1) := by decide +kernel
theorem dX7_quits_38 : decode cX7_quits 38 = .ok (.iload_n 3, 1) := by decide +kernel
theorem dX7_quits_39 : decode cX7_quits 39 = .ok (.iadd, 1) := by decide +kernel
theorem dX7_quits_40 : decode cX7_quits 40 = .ok (.iload 5, 2) := by decide +kernel
theorem dX7_quits_42 : decode cX7_quits 42 = .ok (.iastore, 1) := by decide +kernel
theorem dX7_quits_43 : decode cX7_quits 43 = .ok (.iload_n 3, 1) := by decide +kernel
theorem dX7_quits_44 : decode cX7_quits 44 = .ok (.iload 5, 2) := by decide +kernel
theorem dX7_quits_46 : decode cX7_quits 46 = .ok (.iload_n 2, 1) := by decide +kernel
theorem dX7_quits_47 : decode cX7_quits 47 = .ok (.if_icmp .ne 7, 3) := by decide +kernel
theorem dX7_quits_50 : decode cX7_quits 50 = .ok (.iconst 0, 1) := by decide +kernel
theorem dX7_quits_51 : decode cX7_quits 51 = .ok (.goto 4, 3) := by decide +kernel
theorem dX7_quits_54 : decode cX7_quits 54 = .ok (.iconst 1, 1) := by decide +kernel
theorem dX7_quits_55 : decode cX7_quits 55 = .ok (.iadd, 1) := by decide +kernel
theorem dX7_quits_56 : decode cX7_quits 56 = .ok (.istore_n 3, 1) := by decide +kernel
theorem dX7_quits_57 : decode cX7_quits 57 = .ok (.iinc 4 1, 3) := by decide +kernel
theorem dX7_quits_60 : decode cX7_quits 60 = .ok (.goto (-55), 3) := by decide +kernel
theorem dX7_quits_63 : decode cX7_quits 63 = .ok (.aload_n 0, 1) := by decide +kernel
theorem dX7_quits_64 : decode cX7_quits 64 = .ok (.getfield 77, 3) := by decide +kernel
theorem dX7_quits_67 : decode cX7_quits 67 = .ok (.iload_n 1, 1) := by decide +kernel
theorem dX7_quits_68 : decode cX7_quits 68 = .ok (.iload_n 3, 1) := by decide +kernel
theorem dX7_quits_69 : decode cX7_quits 69 = .ok (.iastore, 1) := by decide +kernel
theorem dX7_quits_70 : decode cX7_quits 70 = .ok (.return_, 1) := by decide +kernel
theorem dX7_isIn_0 : decode cX7_isIn 0 = .ok (.iconst 0, 1) := by decide +kernel
theorem dX7_isIn_1 : decode cX7_isIn 1 = .ok (.istore_n 3, 1) := by decide +kernel
theorem dX7_isIn_2 : decode cX7_isIn 2 = .ok (.iconst 0, 1) := by decide +kernel
theorem dX7_isIn_3 : decode cX7_isIn 3 = .ok (.istore 4, 2) := by decide +kernel
theorem dX7_isIn_5 : decode cX7_isIn 5 = .ok (.iload 4, 2) := by decide +kernel
theorem dX7_isIn_7 : decode cX7_isIn 7 = .ok (.aload_n 0, 1) := by decide +kernel
theorem dX7_isIn_8 : decode cX7_isIn 8 = .ok (.getfield 77, 3) := by decide +kernel
theorem dX7_isIn_11 : decode cX7_isIn 11 = .ok (.iload_n 1, 1) := by decide +kernel
theorem dX7_isIn_12 : decode cX7_isIn 12 = .ok (.iaload, 1) := by decide +kernel
theorem dX7_isIn_13 : decode cX7_isIn 13 = .ok (.if_icmp .ge 35, 3) := by decide +kernel
theorem dX7_isIn_16 : decode cX7_isIn 16 = .ok (.iload_n 3, 1) := by decide +kernel
theorem dX7_isIn_17 : decode cX7_isIn 17 = .ok (.ifCond .ne 19, 3) := by decide +kernel
theorem dX7_isIn_20 : decode cX7_isIn 20 = .ok (.aload_n 0, 1) := by decide +kernel
theorem dX7_isIn_21 : decode cX7_isIn 21 = .ok (.getfield 80, 3) := by decide +kernel
theorem dX7_isIn_24 : decode cX7_isIn 24 = .ok (.bipush 80, 2) := by decide +kernel
theorem dX7_isIn_26 : decode cX7_isIn 26 = .ok (.iload_n 1, 1) := by decide +kernel
theorem dX7_isIn_27 : decode cX7_isIn 27 = .ok (.imul, 1) := by decide +kernel
theorem dX7_isIn_28 : decode cX7_isIn 28 = .ok (.iload 4, 2) := by decide +kernel
theorem dX7_isIn_30 : decode cX7_isIn 30 = .ok (.iadd, 1) := by decide +kernel
theorem dX7_isIn_31 : decode cX7_isIn 31 = .ok (.iaload, 1) := by decide +kernel
theorem dX7_isIn_32 : decode cX7_isIn 32 = .ok (.iload_n 2, 1) := by decide +kernel
theorem dX7_isIn_33 : decode cX7_isIn 33 = .ok (.if_icmp .ne 7, 3) := by decide +kernel
theorem dX7_isIn_36 : decode cX7_isIn 36 = .ok (.iconst 1, 1) := by decide +kernel
theorem dX7_isIn_37 : decode cX7_isIn 37 = .ok (.goto 4, 3) := by decide +kernel
theorem dX7_isIn_40 : decode cX7_isIn 40 = .ok (.iconst 0, 1) := by decide +kernel
theorem dX7_isIn_41 : decode cX7_isIn 41 = .ok (.istore_n 3, 1) := by decide +kernel
theorem dX7_isIn_42 : decode cX7_isIn 42 = .ok (.iinc 4 1, 3) := by decide +kernel
theorem dX7_isIn_45 : decode cX7_isIn 45 = .ok (.goto (-40), 3) := by decide +kernel
theorem dX7_isIn_48 : decode cX7_isIn 48 = .ok (.iload_n 3, 1) := by decide +kernel
theorem dX7_isIn_49 : decode cX7_isIn 49 = .ok (.ireturn, 1) := by decide +kernel
theorem dX7_firstFor_0 : decode cX7_firstFor 0 = .ok (.iload_n 0, 1) := by decide +kernel
theorem dX7_firstFor_1 : decode cX7_firstFor 1 = .ok (.ifCond .ne 7, 3) := by decide +kernel
theorem dX7_firstFor_4 : decode cX7_firstFor 4 = .ok (.iconst 0, 1) := by decide +kernel
theorem dX7_firstFor_5 : decode cX7_firstFor 5 = .ok (.goto 4, 3) := by decide +kernel
theorem dX7_firstFor_8 : decode cX7_firstFor 8 = .ok (.iconst 4, 1) := by decide +kernel
theorem dX7_firstFor_9 : decode cX7_firstFor 9 = .ok (.ireturn, 1) := by decide +kernel
theorem dX7_freest_0 : decode cX7_freest 0 = .ok (.iconst (-1), 1) := by decide +kernel
theorem dX7_freest_1 : decode cX7_freest 1 = .ok (.istore_n 2, 1) := by decide +kernel
theorem dX7_freest_2 : decode cX7_freest 2 = .ok (.iload_n 1, 1) := by decide +kernel
theorem dX7_freest_3 : decode cX7_freest 3 = .ok (.invokestatic 120, 3) := by decide +kernel
theorem dX7_freest_6 : decode cX7_freest 6 = .ok (.iconst 3, 1) := by decide +kernel
theorem dX7_freest_7 : decode cX7_freest 7 = .ok (.iadd, 1) := by decide +kernel
theorem dX7_freest_8 : decode cX7_freest 8 = .ok (.istore_n 3, 1) := by decide +kernel
theorem dX7_freest_9 : decode cX7_freest 9 = .ok (.iload_n 3, 1) := by decide +kernel
theorem dX7_freest_10 : decode cX7_freest 10 = .ok (.iload_n 1, 1) := by decide +kernel
theorem dX7_freest_11 : decode cX7_freest 11 = .ok (.invokestatic 120, 3) := by decide +kernel
theorem dX7_freest_14 : decode cX7_freest 14 = .ok (.if_icmp .lt 44, 3) := by decide +kernel
theorem dX7_freest_17 : decode cX7_freest 17 = .ok (.aload_n 0, 1) := by decide +kernel
theorem dX7_freest_18 : decode cX7_freest 18 = .ok (.getfield 50, 3) := by decide +kernel
theorem dX7_freest_21 : decode cX7_freest 21 = .ok (.iload_n 3, 1) := by decide +kernel
theorem dX7_freest_22 : decode cX7_freest 22 = .ok (.baload, 1) := by decide +kernel
theorem dX7_freest_23 : decode cX7_freest 23 = .ok (.ifCond .ne 27, 3) := by decide +kernel
theorem dX7_freest_26 : decode cX7_freest 26 = .ok (.iload_n 2, 1) := by decide +kernel
theorem dX7_freest_27 : decode cX7_freest 27 = .ok (.iconst (-1), 1) := by decide +kernel
theorem dX7_freest_28 : decode cX7_freest 28 = .ok (.if_icmp .eq 18, 3) := by decide +kernel
theorem dX7_freest_31 : decode cX7_freest 31 = .ok (.aload_n 0, 1) := by decide +kernel
theorem dX7_freest_32 : decode cX7_freest 32 = .ok (.getfield 77, 3) := by decide +kernel
theorem dX7_freest_35 : decode cX7_freest 35 = .ok (.iload_n 3, 1) := by decide +kernel
theorem dX7_freest_36 : decode cX7_freest 36 = .ok (.iaload, 1) := by decide +kernel
theorem dX7_freest_37 : decode cX7_freest 37 = .ok (.aload_n 0, 1) := by decide +kernel
theorem dX7_freest_38 : decode cX7_freest 38 = .ok (.getfield 77, 3) := by decide +kernel
theorem dX7_freest_41 : decode cX7_freest 41 = .ok (.iload_n 2, 1) := by decide +kernel
theorem dX7_freest_42 : decode cX7_freest 42 = .ok (.iaload, 1) := by decide +kernel
theorem dX7_freest_43 : decode cX7_freest 43 = .ok (.if_icmp .gt 7, 3) := by decide +kernel
theorem dX7_freest_46 : decode cX7_freest 46 = .ok (.iload_n 3, 1) := by decide +kernel
theorem dX7_freest_47 : decode cX7_freest 47 = .ok (.goto 4, 3) := by decide +kernel
theorem dX7_freest_50 : decode cX7_freest 50 = .ok (.iload_n 2, 1) := by decide +kernel
theorem dX7_freest_51 : decode cX7_freest 51 = .ok (.istore_n 2, 1) := by decide +kernel
theorem dX7_freest_52 : decode cX7_freest 52 = .ok (.iinc 3 (-1), 3) := by decide +kernel
theorem dX7_freest_55 : decode cX7_freest 55 = .ok (.goto (-46), 3) := by decide +kernel
theorem dX7_freest_58 : decode cX7_freest 58 = .ok (.iload_n 2, 1) := by decide +kernel
theorem dX7_freest_59 : decode cX7_freest 59 = .ok (.ireturn, 1) := by decide +kernel
theorem dX7_isTarget_0 : decode cX7_isTarget 0 = .ok (.iload_n 1, 1) := by decide +kernel
theorem dX7_isTarget_1 : decode cX7_isTarget 1 = .ok (.iconst 0, 1) := by decide +kernel
theorem dX7_isTarget_2 : decode cX7_isTarget 2 = .ok (.iload_n 0, 1) := by decide +kernel
theorem dX7_isTarget_3 : decode cX7_isTarget 3 = .ok (.ifCond .ne 7, 3) := by decide +kernel
theorem dX7_isTarget_6 : decode cX7_isTarget 6 = .ok (.iconst 0, 1) := by decide +kernel
theorem dX7_isTarget_7 : decode cX7_isTarget 7 = .ok (.goto 13, 3) := by decide +kernel
theorem dX7_isTarget_10 : decode cX7_isTarget 10 = .ok (.iload_n 0, 1) := by decide +kernel
theorem dX7_isTarget_11 : decode cX7_isTarget 11 = .ok (.iconst 1, 1) := by decide +kernel
theorem dX7_isTarget_12 : decode cX7_isTarget 12 = .ok (.if_icmp .ne 7, 3) := by decide +kernel
theorem dX7_isTarget_15 : decode cX7_isTarget 15 = .ok (.iconst 5, 1) := by decide +kernel
theorem dX7_isTarget_16 : decode cX7_isTarget 16 = .ok (.goto 4, 3) := by decide +kernel
theorem dX7_isTarget_19 : decode cX7_isTarget 19 = .ok (.iconst 1, 1) := by decide +kernel
theorem dX7_isTarget_20 : decode cX7_isTarget 20 = .ok (.invokestatic 99, 3) := by decide +kernel
theorem dX7_isTarget_23 : decode cX7_isTarget 23 = .ok (.ireturn, 1) := by decide +kernel
theorem dX7_send_0 : decode cX7_send 0 = .ok (.aload_n 0, 1) := by decide +kernel
theorem dX7_send_1 : decode cX7_send 1 = .ok (.iload_n 1, 1) := by decide +kernel
theorem dX7_send_2 : decode cX7_send 2 = .ok (.iconst 0, 1) := by decide +kernel
theorem dX7_send_3 : decode cX7_send 3 = .ok (.iconst 2, 1) := by decide +kernel
theorem dX7_send_4 : decode cX7_send 4 = .ok (.invokestatic 99, 3) := by decide +kernel
theorem dX7_send_7 : decode cX7_send 7 = .ok (.ifCond .eq 7, 3) := by decide +kernel
theorem dX7_send_10 : decode cX7_send 10 = .ok (.iconst 0, 1) := by decide +kernel
theorem dX7_send_11 : decode cX7_send 11 = .ok (.goto 4, 3) := by decide +kernel
theorem dX7_send_14 : decode cX7_send 14 = .ok (.iconst 1, 1) := by decide +kernel
theorem dX7_send_15 : decode cX7_send 15 = .ok (.putfield 95, 3) := by decide +kernel
theorem dX7_send_18 : decode cX7_send 18 = .ok (.aload_n 0, 1) := by decide +kernel
theorem dX7_send_19 : decode cX7_send 19 = .ok (.getfield 95, 3) := by decide +kernel
theorem dX7_send_22 : decode cX7_send 22 = .ok (.ifCond .ne 77, 3) := by decide +kernel
theorem dX7_send_25 : decode cX7_send 25 = .ok (.iload 4, 2) := by decide +kernel
theorem dX7_send_27 : decode cX7_send 27 = .ok (.iconst (-1), 1) := by decide +kernel
theorem dX7_send_28 : decode cX7_send 28 = .ok (.if_icmp .eq 21, 3) := by decide +kernel
theorem dX7_send_31 : decode cX7_send 31 = .ok (.iload 4, 2) := by decide +kernel
theorem dX7_send_33 : decode cX7_send 33 = .ok (.iload_n 1, 1) := by decide +kernel
theorem dX7_send_34 : decode cX7_send 34 = .ok (.invokestatic 120, 3) := by decide +kernel
theorem dX7_send_37 : decode cX7_send 37 = .ok (.iload_n 1, 1) := by decide +kernel
theorem dX7_send_38 : decode cX7_send 38 = .ok (.invokestatic 120, 3) := by decide +kernel
theorem dX7_send_41 : decode cX7_send 41 = .ok (.iconst 3, 1) := by decide +kernel
theorem dX7_send_42 : decode cX7_send 42 = .ok (.iadd, 1) := by decide +kernel
theorem dX7_send_43 : decode cX7_send 43 = .ok (.invokestatic 99, 3) := by decide +kernel
theorem dX7_send_46 : decode cX7_send 46 = .ok (.ifCond .eq 7, 3) := by decide +kernel
theorem dX7_send_49 : decode cX7_send 49 = .ok (.iconst 1, 1) := by decide +kernel
theorem dX7_send_50 : decode cX7_send 50 = .ok (.goto 4, 3) := by decide +kernel
theorem dX7_send_53 : decode cX7_send 53 = .ok (.iconst 0, 1) := by decide +kernel
theorem dX7_send_54 : decode cX7_send 54 = .ok (.istore 5, 2) := by decide +kernel
theorem dX7_send_56 : decode cX7_send 56 = .ok (.aload_n 0, 1) := by decide +kernel
theorem dX7_send_57 : decode cX7_send 57 = .ok (.aload_n 0, 1) := by decide +kernel
theorem dX7_send_58 : decode cX7_send 58 = .ok (.iload_n 2, 1) := by decide +kernel
theorem dX7_send_59 : decode cX7_send 59 = .ok (.invokevirtual 124, 3) := by decide +kernel
theorem dX7_send_62 : decode cX7_send 62 = .ok (.ifCond .eq 16, 3) := by decide +kernel
theorem dX7_send_65 : decode cX7_send 65 = .ok (.iload_n 1, 1) := by decide +kernel
theorem dX7_send_66 : decode cX7_send 66 = .ok (.iload_n 3, 1) := by decide +kernel
theorem dX7_send_67 : decode cX7_send 67 = .ok (.invokestatic 127, 3) := by decide +kernel
theorem dX7_send_70 : decode cX7_send 70 = .ok (.ifCond .eq 8, 3) := by decide +kernel
theorem dX7_send_73 : decode cX7_send 73 = .ok (.iload 5, 2) := by decide +kernel
theorem dX7_send_75 : decode cX7_send 75 = .ok (.ifCond .ne 7, 3) := by decide +kernel
theorem dX7_send_78 : decode cX7_send 78 = .ok (.iconst 2, 1) := by decide +kernel
theorem dX7_send_79 : decode cX7_send 79 = .ok (.goto 17, 3) := by decide +kernel
theorem dX7_send_82 : decode cX7_send 82 = .ok (.aload_n 0, 1) := by decide +kernel
theorem dX7_send_83 : decode cX7_send 83 = .ok (.getfield 130, 3) := by decide +kernel
theorem dX7_send_86 : decode cX7_send 86 = .ok (.bipush 80, 2) := by decide +kernel
theorem dX7_send_88 : decode cX7_send 88 = .ok (.if_icmp .ne 7, 3) := by decide +kernel
theorem dX7_send_91 : decode cX7_send 91 = .ok (.iconst 3, 1) := by decide +kernel
theorem dX7_send_92 : decode cX7_send 92 = .ok (.goto 4, 3) := by decide +kernel
theorem dX7_send_95 : decode cX7_send 95 = .ok (.iconst 0, 1) := by decide +kernel
theorem dX7_send_96 : decode cX7_send 96 = .ok (.putfield 95, 3) := by decide +kernel
theorem dX7_send_99 : decode cX7_send 99 = .ok (.aload_n 0, 1) := by decide +kernel
theorem dX7_send_100 : decode cX7_send 100 = .ok (.getfield 95, 3) := by decide +kernel
theorem dX7_send_103 : decode cX7_send 103 = .ok (.ifCond .le 7, 3) := by decide +kernel
theorem dX7_send_106 : decode cX7_send 106 = .ok (.iconst 0, 1) := by decide +kernel
theorem dX7_send_107 : decode cX7_send 107 = .ok (.goto 19, 3) := by decide +kernel
theorem dX7_send_110 : decode cX7_send 110 = .ok (.iload 4, 2) := by decide +kernel
theorem dX7_send_112 : decode cX7_send 112 = .ok (.iconst (-1), 1) := by decide +kernel
theorem dX7_send_113 : decode cX7_send 113 = .ok (.if_icmp .ne 11, 3) := by decide +kernel
theorem dX7_send_116 : decode cX7_send 116 = .ok (.aload_n 0, 1) := by decide +kernel
theorem dX7_send_117 : decode cX7_send 117 = .ok (.iload_n 1, 1) := by decide +kernel
theorem dX7_send_118 : decode cX7_send 118 = .ok (.invokevirtual 133, 3) := by decide +kernel
theorem dX7_send_121 : decode cX7_send 121 = .ok (.goto 5, 3) := by decide +kernel
theorem dX7_send_124 : decode cX7_send 124 = .ok (.iload 4, 2) := by decide +kernel
theorem dX7_send_126 : decode cX7_send 126 = .ok (.istore 5, 2) := by decide +kernel
theorem dX7_send_128 : decode cX7_send 128 = .ok (.aload_n 0, 1) := by decide +kernel
theorem dX7_send_129 : decode cX7_send 129 = .ok (.iload 5, 2) := by decide +kernel
theorem dX7_send_131 : decode cX7_send 131 = .ok (.iconst (-1), 1) := by decide +kernel
theorem dX7_send_132 : decode cX7_send 132 = .ok (.if_icmp .ne 7, 3) := by decide +kernel
theorem dX7_send_135 : decode cX7_send 135 = .ok (.iconst 3, 1) := by decide +kernel
theorem dX7_send_136 : decode cX7_send 136 = .ok (.goto 7, 3) := by decide +kernel
theorem dX7_send_139 : decode cX7_send 139 = .ok (.aload_n 0, 1) := by decide +kernel
theorem dX7_send_140 : decode cX7_send 140 = .ok (.getfield 95, 3) := by decide +kernel
theorem dX7_send_143 : decode cX7_send 143 = .ok (.putfield 95, 3) := by decide +kernel
theorem dX7_send_146 : decode cX7_send 146 = .ok (.aload_n 0, 1) := by decide +kernel
theorem dX7_send_147 : decode cX7_send 147 = .ok (.getfield 95, 3) := by decide +kernel
theorem dX7_send_150 : decode cX7_send 150 = .ok (.ifCond .le 5, 3) := by decide +kernel
theorem dX7_send_153 : decode cX7_send 153 = .ok (.iconst 0, 1) := by decide +kernel
theorem dX7_send_154 : decode cX7_send 154 = .ok (.ireturn, 1) := by decide +kernel
theorem dX7_send_155 : decode cX7_send 155 = .ok (.aload_n 0, 1) := by decide +kernel
theorem dX7_send_156 : decode cX7_send 156 = .ok (.getfield 53, 3) := by decide +kernel
theorem dX7_send_159 : decode cX7_send 159 = .ok (.aload_n 0, 1) := by decide +kernel
theorem dX7_send_160 : decode cX7_send 160 = .ok (.getfield 130, 3) := by decide +kernel
theorem dX7_send_163 : decode cX7_send 163 = .ok (.iload_n 1, 1) := by decide +kernel
theorem dX7_send_164 : decode cX7_send 164 = .ok (.iastore, 1) := by decide +kernel
theorem dX7_send_165 : decode cX7_send 165 = .ok (.aload_n 0, 1) := by decide +kernel
theorem dX7_send_166 : decode cX7_send 166 = .ok (.getfield 56, 3) := by decide +kernel
theorem dX7_send_169 : decode cX7_send 169 = .ok (.aload_n 0, 1) := by decide +kernel
theorem dX7_send_170 : decode cX7_send 170 = .ok (.getfield 130, 3) := by decide +kernel
theorem dX7_send_173 : decode cX7_send 173 = .ok (.iload_n 2, 1) := by decide +kernel
theorem dX7_send_174 : decode cX7_send 174 = .ok (.iastore, 1) := by decide +kernel
theorem dX7_send_175 : decode cX7_send 175 = .ok (.aload_n 0, 1) := by decide +kernel
theorem dX7_send_176 : decode cX7_send 176 = .ok (.getfield 59, 3) := by decide +kernel
theorem dX7_send_179 : decode cX7_send 179 = .ok (.aload_n 0, 1) := by decide +kernel
theorem dX7_send_180 : decode cX7_send 180 = .ok (.getfield 130, 3) := by decide +kernel
theorem dX7_send_183 : decode cX7_send 183 = .ok (.iload_n 3, 1) := by decide +kernel
theorem dX7_send_184 : decode cX7_send 184 = .ok (.iastore, 1) := by decide +kernel
theorem dX7_send_185 : decode cX7_send 185 = .ok (.aload_n 0, 1) := by decide +kernel
theorem dX7_send_186 : decode cX7_send 186 = .ok (.iload 5, 2) := by decide +kernel
theorem dX7_send_188 : decode cX7_send 188 = .ok (.aload_n 0, 1) := by decide +kernel
theorem dX7_send_189 : decode cX7_send 189 = .ok (.getfield 130, 3) := by decide +kernel
theorem dX7_send_192 : decode cX7_send 192 = .ok (.invokevirtual 136, 3) := by decide +kernel
theorem dX7_send_195 : decode cX7_send 195 = .ok (.aload_n 0, 1) := by decide +kernel
theorem dX7_send_196 : decode cX7_send 196 = .ok (.dup, 1) := by decide +kernel
theorem dX7_send_197 : decode cX7_send 197 = .ok (.getfield 130, 3) := by decide +kernel
theorem dX7_send_200 : decode cX7_send 200 = .ok (.iconst 1, 1) := by decide +kernel
theorem dX7_send_201 : decode cX7_send 201 = .ok (.iadd, 1) := by decide +kernel
theorem dX7_send_202 : decode cX7_send 202 = .ok (.putfield 130, 3) := by decide +kernel
theorem dX7_send_205 : decode cX7_send 205 = .ok (.aload_n 0, 1) := by decide +kernel
theorem dX7_send_206 : decode cX7_send 206 = .ok (.getfield 130, 3) := by decide +kernel
theorem dX7_send_209 : decode cX7_send 209 = .ok (.iconst 1, 1) := by decide +kernel
theorem dX7_send_210 : decode cX7_send 210 = .ok (.isub, 1) := by decide +kernel
theorem dX7_send_211 : decode cX7_send 211 = .ok (.ireturn, 1) := by decide +kernel
theorem dX7_acknowledges_0 : decode cX7_acknowledges 0 = .ok (.aload_n 0, 1) := by decide +kernel
theorem dX7_acknowledges_1 : decode cX7_acknowledges 1 = .ok (.getfield 86, 3) := by decide +kernel
theorem dX7_acknowledges_4 : decode cX7_acknowledges 4 = .ok (.iload_n 1, 1) := by decide +kernel
theorem dX7_acknowledges_5 : decode cX7_acknowledges 5 = .ok (.iaload, 1) := by decide +kernel
theorem dX7_acknowledges_6 : decode cX7_acknowledges 6 = .ok (.ifCond .le 15, 3) := by decide +kernel
theorem dX7_acknowledges_9 : decode cX7_acknowledges 9 = .ok (.aload_n 0, 1) := by decide +kernel
theorem dX7_acknowledges_10 : decode cX7_acknowledges 10 = .ok (.getfield 86, 3) := by decide +kernel
theorem dX7_acknowledges_13 : decode cX7_acknowledges 13 = .ok (.iload_n 1, 1) := by decide +kernel
theorem dX7_acknowledges_14 : decode cX7_acknowledges 14 = .ok (.dup2, 1) := by decide +kernel
theorem dX7_acknowledges_15 : decode cX7_acknowledges 15 = .ok (.iaload, 1) := by decide +kernel
theorem dX7_acknowledges_16 : decode cX7_acknowledges 16 = .ok (.iconst 1, 1) := by decide +kernel
theorem dX7_acknowledges_17 : decode cX7_acknowledges 17 = .ok (.isub, 1) := by decide +kernel
theorem dX7_acknowledges_18 : decode cX7_acknowledges 18 = .ok (.iastore, 1) := by decide +kernel
theorem dX7_acknowledges_19 : decode cX7_acknowledges 19 = .ok (.iconst 5, 1) := by decide +kernel
theorem dX7_acknowledges_20 : decode cX7_acknowledges 20 = .ok (.ireturn, 1) := by decide +kernel
theorem dX7_acknowledges_21 : decode cX7_acknowledges 21 = .ok (.aload_n 0, 1) := by decide +kernel
theorem dX7_acknowledges_22 : decode cX7_acknowledges 22 = .ok (.getfield 89, 3) := by decide +kernel
theorem dX7_acknowledges_25 : decode cX7_acknowledges 25 = .ok (.iload_n 1, 1) := by decide +kernel
theorem dX7_acknowledges_26 : decode cX7_acknowledges 26 = .ok (.iload_n 2, 1) := by decide +kernel
theorem dX7_acknowledges_27 : decode cX7_acknowledges 27 = .ok (.iastore, 1) := by decide +kernel
theorem dX7_acknowledges_28 : decode cX7_acknowledges 28 = .ok (.aload_n 0, 1) := by decide +kernel
theorem dX7_acknowledges_29 : decode cX7_acknowledges 29 = .ok (.iload_n 1, 1) := by decide +kernel
theorem dX7_acknowledges_30 : decode cX7_acknowledges 30 = .ok (.iload_n 2, 1) := by decide +kernel
theorem dX7_acknowledges_31 : decode cX7_acknowledges 31 = .ok (.invokevirtual 140, 3) := by decide +kernel
theorem dX7_acknowledges_34 : decode cX7_acknowledges 34 = .ok (.aload_n 0, 1) := by decide +kernel
theorem dX7_acknowledges_35 : decode cX7_acknowledges 35 = .ok (.getfield 65, 3) := by decide +kernel
theorem dX7_acknowledges_38 : decode cX7_acknowledges 38 = .ok (.iload_n 2, 1) := by decide +kernel
theorem dX7_acknowledges_39 : decode cX7_acknowledges 39 = .ok (.iaload, 1) := by decide +kernel
theorem dX7_acknowledges_40 : decode cX7_acknowledges 40 = .ok (.ifCond .le 39, 3) := by decide +kernel
theorem dX7_acknowledges_43 : decode cX7_acknowledges 43 = .ok (.aload_n 0, 1) := by decide +kernel
theorem dX7_acknowledges_44 : decode cX7_acknowledges 44 = .ok (.getfield 68, 3) := by decide +kernel
theorem dX7_acknowledges_47 : decode cX7_acknowledges 47 = .ok (.iload_n 2, 1) := by decide +kernel
theorem dX7_acknowledges_48 : decode cX7_acknowledges 48 = .ok (.baload, 1) := by decide +kernel
theorem dX7_acknowledges_49 : decode cX7_acknowledges 49 = .ok (.ifCond .ne 30, 3) := by decide +kernel
theorem dX7_acknowledges_52 : decode cX7_acknowledges 52 = .ok (.aload_n 0, 1) := by decide +kernel
theorem dX7_acknowledges_53 : decode cX7_acknowledges 53 = .ok (.getfield 68, 3) := by decide +kernel
theorem dX7_acknowledges_56 : decode cX7_acknowledges 56 = .ok (.iload_n 2, 1) := by decide +kernel
theorem dX7_acknowledges_57 : decode cX7_acknowledges 57 = .ok (.iconst 1, 1) := by decide +kernel
theorem dX7_acknowledges_58 : decode cX7_acknowledges 58 = .ok (.bastore, 1) := by decide +kernel
theorem dX7_acknowledges_59 : decode cX7_acknowledges 59 = .ok (.aload_n 0, 1) := by decide +kernel
theorem dX7_acknowledges_60 : decode cX7_acknowledges 60 = .ok (.getfield 74, 3) := by decide +kernel
theorem dX7_acknowledges_63 : decode cX7_acknowledges 63 = .ok (.aload_n 0, 1) := by decide +kernel
theorem dX7_acknowledges_64 : decode cX7_acknowledges 64 = .ok (.getfield 143, 3) := by decide +kernel
theorem dX7_acknowledges_67 : decode cX7_acknowledges 67 = .ok (.iload_n 2, 1) := by decide +kernel
theorem dX7_acknowledges_68 : decode cX7_acknowledges 68 = .ok (.iastore, 1) := by decide +kernel
theorem dX7_acknowledges_69 : decode cX7_acknowledges 69 = .ok (.aload_n 0, 1) := by decide +kernel
theorem dX7_acknowledges_70 : decode cX7_acknowledges 70 = .ok (.dup, 1) := by decide +kernel
theorem dX7_acknowledges_71 : decode cX7_acknowledges 71 = .ok (.getfield 143, 3) := by decide +kernel
theorem dX7_acknowledges_74 : decode cX7_acknowledges 74 = .ok (.iconst 1, 1) := by decide +kernel
theorem dX7_acknowledges_75 : decode cX7_acknowledges 75 = .ok (.iadd, 1) := by decide +kernel
theorem dX7_acknowledges_76 : decode cX7_acknowledges 76 = .ok (.putfield 143, 3) := by decide +kernel
theorem dX7_acknowledges_79 : decode cX7_acknowledges 79 = .ok (.iconst 4, 1) := by decide +kernel
theorem dX7_acknowledges_80 : decode cX7_acknowledges 80 = .ok (.ireturn, 1) := by decide +kernel
theorem dX7_makes_0 : decode cX7_makes 0 = .ok (.aload_n 0, 1) := by decide +kernel
theorem dX7_makes_1 : decode cX7_makes 1 = .ok (.dup, 1) := by decide +kernel
theorem dX7_makes_2 : decode cX7_makes 2 = .ok (.getfield 146, 3) := by decide +kernel
theorem dX7_makes_5 : decode cX7_makes 5 = .ok (.iconst 1, 1) := by decide +kernel
theorem dX7_makes_6 : decode cX7_makes 6 = .ok (.iadd, 1) := by decide +kernel
theorem dX7_makes_7 : decode cX7_makes 7 = .ok (.putfield 146, 3) := by decide +kernel
theorem dX7_makes_10 : decode cX7_makes 10 = .ok (.aload_n 0, 1) := by decide +kernel
theorem dX7_makes_11 : decode cX7_makes 11 = .ok (.getfield 65, 3) := by decide +kernel
theorem dX7_makes_14 : decode cX7_makes 14 = .ok (.iload_n 1, 1) := by decide +kernel
theorem dX7_makes_15 : decode cX7_makes 15 = .ok (.aload_n 0, 1) := by decide +kernel
theorem dX7_makes_16 : decode cX7_makes 16 = .ok (.getfield 146, 3) := by decide +kernel
theorem dX7_makes_19 : decode cX7_makes 19 = .ok (.iastore, 1) := by decide +kernel
theorem dX7_makes_20 : decode cX7_makes 20 = .ok (.return_, 1) := by decide +kernel
theorem dX7_canGo_0 : decode cX7_canGo 0 = .ok (.iload_n 1, 1) := by decide +kernel
theorem dX7_canGo_1 : decode cX7_canGo 1 = .ok (.ifCond .eq 15, 3) := by decide +kernel
theorem dX7_canGo_4 : decode cX7_canGo 4 = .ok (.aload_n 0, 1) := by decide +kernel
theorem dX7_canGo_5 : decode cX7_canGo 5 = .ok (.getfield 47, 3) := by decide +kernel
theorem dX7_canGo_8 : decode cX7_canGo 8 = .ok (.iload_n 1, 1) := by decide +kernel
theorem dX7_canGo_9 : decode cX7_canGo 9 = .ok (.iconst 1, 1) := by decide +kernel
theorem dX7_canGo_10 : decode cX7_canGo 10 = .ok (.isub, 1) := by decide +kernel
theorem dX7_canGo_11 : decode cX7_canGo 11 = .ok (.iaload, 1) := by decide +kernel
theorem dX7_canGo_12 : decode cX7_canGo 12 = .ok (.iload_n 2, 1) := by decide +kernel
theorem dX7_canGo_13 : decode cX7_canGo 13 = .ok (.if_icmp .ge 24, 3) := by decide +kernel
theorem dX7_canGo_16 : decode cX7_canGo 16 = .ok (.iload_n 1, 1) := by decide +kernel
theorem dX7_canGo_17 : decode cX7_canGo 17 = .ok (.iconst 3, 1) := by decide +kernel
theorem dX7_canGo_18 : decode cX7_canGo 18 = .ok (.if_icmp .eq 15, 3) := by decide +kernel
theorem dX7_canGo_21 : decode cX7_canGo 21 = .ok (.aload_n 0, 1) := by decide +kernel
theorem dX7_canGo_22 : decode cX7_canGo 22 = .ok (.getfield 47, 3) := by decide +kernel
theorem dX7_canGo_25 : decode cX7_canGo 25 = .ok (.iload_n 1, 1) := by decide +kernel
theorem dX7_canGo_26 : decode cX7_canGo 26 = .ok (.iconst 1, 1) := by decide +kernel
theorem dX7_canGo_27 : decode cX7_canGo 27 = .ok (.iadd, 1) := by decide +kernel
theorem dX7_canGo_28 : decode cX7_canGo 28 = .ok (.iaload, 1) := by decide +kernel
theorem dX7_canGo_29 : decode cX7_canGo 29 = .ok (.iload_n 2, 1) := by decide +kernel
theorem dX7_canGo_30 : decode cX7_canGo 30 = .ok (.if_icmp .le 7, 3) := by decide +kernel
theorem dX7_canGo_33 : decode cX7_canGo 33 = .ok (.iconst 1, 1) := by decide +kernel
theorem dX7_canGo_34 : decode cX7_canGo 34 = .ok (.goto 4, 3) := by decide +kernel
theorem dX7_canGo_37 : decode cX7_canGo 37 = .ok (.iconst 0, 1) := by decide +kernel
theorem dX7_canGo_38 : decode cX7_canGo 38 = .ok (.ireturn, 1) := by decide +kernel
theorem dX7_isTaken_0 : decode cX7_isTaken 0 = .ok (.iconst 0, 1) := by decide +kernel
theorem dX7_isTaken_1 : decode cX7_isTaken 1 = .ok (.istore_n 2, 1) := by decide +kernel
theorem dX7_isTaken_2 : decode cX7_isTaken 2 = .ok (.iconst 0, 1) := by decide +kernel
theorem dX7_isTaken_3 : decode cX7_isTaken 3 = .ok (.istore_n 3, 1) := by decide +kernel
theorem dX7_isTaken_4 : decode cX7_isTaken 4 = .ok (.iload_n 3, 1) := by decide +kernel
theorem dX7_isTaken_5 : decode cX7_isTaken 5 = .ok (.aload_n 0, 1) := by decide +kernel
theorem dX7_isTaken_6 : decode cX7_isTaken 6 = .ok (.getfield 106, 3) := by decide +kernel
theorem dX7_isTaken_9 : decode cX7_isTaken 9 = .ok (.if_icmp .ge 39, 3) := by decide +kernel
theorem dX7_isTaken_12 : decode cX7_isTaken 12 = .ok (.iload_n 2, 1) := by decide +kernel
theorem dX7_isTaken_13 : decode cX7_isTaken 13 = .ok (.ifCond .ne 23, 3) := by decide +kernel
theorem dX7_isTaken_16 : decode cX7_isTaken 16 = .ok (.aload_n 0, 1) := by decide +kernel
theorem dX7_isTaken_17 : decode cX7_isTaken 17 = .ok (.getfield 26, 3) := by decide +kernel
theorem dX7_isTaken_20 : decode cX7_isTaken 20 = .ok (.iload_n 3, 1) := by decide +kernel
theorem dX7_isTaken_21 : decode cX7_isTaken 21 = .ok (.iaload, 1) := by decide +kernel
theorem dX7_isTaken_22 : decode cX7_isTaken 22 = .ok (.iconst 1, 1) := by decide +kernel
theorem dX7_isTaken_23 : decode cX7_isTaken 23 = .ok (.if_icmp .ne 17, 3) := by decide +kernel
theorem dX7_isTaken_26 : decode cX7_isTaken 26 = .ok (.aload_n 0, 1) := by decide +kernel
theorem dX7_isTaken_27 : decode cX7_isTaken 27 = .ok (.getfield 23, 3) := by decide +kernel
theorem dX7_isTaken_30 : decode cX7_isTaken 30 = .ok (.iload_n 3, 1) := by decide +kernel
theorem dX7_isTaken_31 : decode cX7_isTaken 31 = .ok (.iaload, 1) := by decide +kernel
theorem dX7_isTaken_32 : decode cX7_isTaken 32 = .ok (.iload_n 1, 1) := by decide +kernel
theorem dX7_isTaken_33 : decode cX7_isTaken 33 = .ok (.if_icmp .ne 7, 3) := by decide +kernel
theorem dX7_isTaken_36 : decode cX7_isTaken 36 = .ok (.iconst 1, 1) := by decide +kernel
theorem dX7_isTaken_37 : decode cX7_isTaken 37 = .ok (.goto 4, 3) := by decide +kernel
theorem dX7_isTaken_40 : decode cX7_isTaken 40 = .ok (.iconst 0, 1) := by decide +kernel
theorem dX7_isTaken_41 : decode cX7_isTaken 41 = .ok (.istore_n 2, 1) := by decide +kernel
theorem dX7_isTaken_42 : decode cX7_isTaken 42 = .ok (.iinc 3 1, 3) := by decide +kernel
theorem dX7_isTaken_45 : decode cX7_isTaken 45 = .ok (.goto (-41), 3) := by decide +kernel
theorem dX7_isTaken_48 : decode cX7_isTaken 48 = .ok (.iload_n 2, 1) := by decide +kernel
theorem dX7_isTaken_49 : decode cX7_isTaken 49 = .ok (.ireturn, 1) := by decide +kernel
theorem dX7_lifts_0 : decode cX7_lifts 0 = .ok (.aload_n 0, 1) := by decide +kernel
theorem dX7_lifts_1 : decode cX7_lifts 1 = .ok (.getfield 56, 3) := by decide +kernel
theorem dX7_lifts_4 : decode cX7_lifts 4 = .ok (.iload_n 2, 1) := by decide +kernel
theorem dX7_lifts_5 : decode cX7_lifts 5 = .ok (.iaload, 1) := by decide +kernel
theorem dX7_lifts_6 : decode cX7_lifts 6 = .ok (.istore_n 3, 1) := by decide +kernel
theorem dX7_lifts_7 : decode cX7_lifts 7 = .ok (.aload_n 0, 1) := by decide +kernel
theorem dX7_lifts_8 : decode cX7_lifts 8 = .ok (.getfield 26, 3) := by decide +kernel
theorem dX7_lifts_11 : decode cX7_lifts 11 = .ok (.iload_n 3, 1) := by decide +kernel
theorem dX7_lifts_12 : decode cX7_lifts 12 = .ok (.iaload, 1) := by decide +kernel
theorem dX7_lifts_13 : decode cX7_lifts 13 = .ok (.ifCond .eq 10, 3) := by decide +kernel
theorem dX7_lifts_16 : decode cX7_lifts 16 = .ok (.aload_n 0, 1) := by decide +kernel
theorem dX7_lifts_17 : decode cX7_lifts 17 = .ok (.iload_n 1, 1) := by decide +kernel
theorem dX7_lifts_18 : decode cX7_lifts 18 = .ok (.iload_n 2, 1) := by decide +kernel
theorem dX7_lifts_19 : decode cX7_lifts 19 = .ok (.invokevirtual 149, 3) := by decide +kernel
theorem dX7_lifts_22 : decode cX7_lifts 22 = .ok (.ireturn, 1) := by decide +kernel
theorem dX7_lifts_23 : decode cX7_lifts 23 = .ok (.aload_n 0, 1) := by decide +kernel
theorem dX7_lifts_24 : decode cX7_lifts 24 = .ok (.getfield 23, 3) := by decide +kernel
theorem dX7_lifts_27 : decode cX7_lifts 27 = .ok (.iload_n 3, 1) := by decide +kernel
theorem dX7_lifts_28 : decode cX7_lifts 28 = .ok (.iaload, 1) := by decide +kernel
theorem dX7_lifts_29 : decode cX7_lifts 29 = .ok (.istore 4, 2) := by decide +kernel
theorem dX7_lifts_31 : decode cX7_lifts 31 = .ok (.aload_n 0, 1) := by decide +kernel
theorem dX7_lifts_32 : decode cX7_lifts 32 = .ok (.iload_n 1, 1) := by decide +kernel
theorem dX7_lifts_33 : decode cX7_lifts 33 = .ok (.iload 4, 2) := by decide +kernel
theorem dX7_lifts_35 : decode cX7_lifts 35 = .ok (.invokevirtual 153, 3) := by decide +kernel
theorem dX7_lifts_38 : decode cX7_lifts 38 = .ok (.ifCond .eq 12, 3) := by decide +kernel
theorem dX7_lifts_41 : decode cX7_lifts 41 = .ok (.aload_n 0, 1) := by decide +kernel
theorem dX7_lifts_42 : decode cX7_lifts 42 = .ok (.iload 4, 2) := by decide +kernel
theorem dX7_lifts_44 : decode cX7_lifts 44 = .ok (.invokevirtual 156, 3) := by decide +kernel
theorem dX7_lifts_47 : decode cX7_lifts 47 = .ok (.ifCond .eq 5, 3) := by decide +kernel
theorem dX7_lifts_50 : decode cX7_lifts 50 = .ok (.iconst 3, 1) := by decide +kernel
theorem dX7_lifts_51 : decode cX7_lifts 51 = .ok (.ireturn, 1) := by decide +kernel
theorem dX7_lifts_52 : decode cX7_lifts 52 = .ok (.aload_n 0, 1) := by decide +kernel
theorem dX7_lifts_53 : decode cX7_lifts 53 = .ok (.getfield 47, 3) := by decide +kernel
theorem dX7_lifts_56 : decode cX7_lifts 56 = .ok (.iload_n 1, 1) := by decide +kernel
theorem dX7_lifts_57 : decode cX7_lifts 57 = .ok (.iload 4, 2) := by decide +kernel
theorem dX7_lifts_59 : decode cX7_lifts 59 = .ok (.iastore, 1) := by decide +kernel
theorem dX7_lifts_60 : decode cX7_lifts 60 = .ok (.aload_n 0, 1) := by decide +kernel
theorem dX7_lifts_61 : decode cX7_lifts 61 = .ok (.getfield 26, 3) := by decide +kernel
theorem dX7_lifts_64 : decode cX7_lifts 64 = .ok (.iload_n 3, 1) := by decide +kernel
theorem dX7_lifts_65 : decode cX7_lifts 65 = .ok (.iconst 1, 1) := by decide +kernel
theorem dX7_lifts_66 : decode cX7_lifts 66 = .ok (.iastore, 1) := by decide +kernel
theorem dX7_lifts_67 : decode cX7_lifts 67 = .ok (.aload_n 0, 1) := by decide +kernel
theorem dX7_lifts_68 : decode cX7_lifts 68 = .ok (.getfield 32, 3) := by decide +kernel
theorem dX7_lifts_71 : decode cX7_lifts 71 = .ok (.iload_n 3, 1) := by decide +kernel
theorem dX7_lifts_72 : decode cX7_lifts 72 = .ok (.iload_n 1, 1) := by decide +kernel
theorem dX7_lifts_73 : decode cX7_lifts 73 = .ok (.iastore, 1) := by decide +kernel
theorem dX7_lifts_74 : decode cX7_lifts 74 = .ok (.aload_n 0, 1) := by decide +kernel
theorem dX7_lifts_75 : decode cX7_lifts 75 = .ok (.iload_n 2, 1) := by decide +kernel
theorem dX7_lifts_76 : decode cX7_lifts 76 = .ok (.invokevirtual 159, 3) := by decide +kernel
theorem dX7_lifts_79 : decode cX7_lifts 79 = .ok (.aload_n 0, 1) := by decide +kernel
theorem dX7_lifts_80 : decode cX7_lifts 80 = .ok (.getfield 71, 3) := by decide +kernel
theorem dX7_lifts_83 : decode cX7_lifts 83 = .ok (.iload_n 2, 1) := by decide +kernel
theorem dX7_lifts_84 : decode cX7_lifts 84 = .ok (.dup2, 1) := by decide +kernel
theorem dX7_lifts_85 : decode cX7_lifts 85 = .ok (.iaload, 1) := by decide +kernel
theorem dX7_lifts_86 : decode cX7_lifts 86 = .ok (.iconst 1, 1) := by decide +kernel
theorem dX7_lifts_87 : decode cX7_lifts 87 = .ok (.iload_n 1, 1) := by decide +kernel
theorem dX7_lifts_88 : decode cX7_lifts 88 = .ok (.ishl, 1) := by decide +kernel
theorem dX7_lifts_89 : decode cX7_lifts 89 = .ok (.ior, 1) := by decide +kernel
theorem dX7_lifts_90 : decode cX7_lifts 90 = .ok (.iastore, 1) := by decide +kernel
theorem dX7_lifts_91 : decode cX7_lifts 91 = .ok (.aload_n 0, 1) := by decide +kernel
theorem dX7_lifts_92 : decode cX7_lifts 92 = .ok (.iload_n 1, 1) := by decide +kernel
theorem dX7_lifts_93 : decode cX7_lifts 93 = .ok (.iload_n 2, 1) := by decide +kernel
theorem dX7_lifts_94 : decode cX7_lifts 94 = .ok (.invokevirtual 149, 3) := by decide +kernel
theorem dX7_lifts_97 : decode cX7_lifts 97 = .ok (.ireturn, 1) := by decide +kernel
theorem dX7_deliver_0 : decode cX7_deliver 0 = .ok (.aload_n 0, 1) := by decide +kernel
theorem dX7_deliver_1 : decode cX7_deliver 1 = .ok (.iload_n 1, 1) := by decide +kernel
theorem dX7_deliver_2 : decode cX7_deliver 2 = .ok (.invokestatic 163, 3) := by decide +kernel
theorem dX7_deliver_5 : decode cX7_deliver 5 = .ok (.ifCond .eq 7, 3) := by decide +kernel
theorem dX7_deliver_8 : decode cX7_deliver 8 = .ok (.iconst 0, 1) := by decide +kernel
theorem dX7_deliver_9 : decode cX7_deliver 9 = .ok (.goto 4, 3) := by decide +kernel
theorem dX7_deliver_12 : decode cX7_deliver 12 = .ok (.iconst 1, 1) := by decide +kernel
theorem dX7_deliver_13 : decode cX7_deliver 13 = .ok (.putfield 95, 3) := by decide +kernel
theorem dX7_deliver_16 : decode cX7_deliver 16 = .ok (.aload_n 0, 1) := by decide +kernel
theorem dX7_deliver_17 : decode cX7_deliver 17 = .ok (.getfield 95, 3) := by decide +kernel
theorem dX7_deliver_20 : decode cX7_deliver 20 = .ok (.ifCond .gt 12, 3) := by decide +kernel
theorem dX7_deliver_23 : decode cX7_deliver 23 = .ok (.aload_n 0, 1) := by decide +kernel
theorem dX7_deliver_24 : decode cX7_deliver 24 = .ok (.getfield 77, 3) := by decide +kernel
theorem dX7_deliver_27 : decode cX7_deliver 27 = .ok (.iload_n 1, 1) := by decide +kernel
theorem dX7_deliver_28 : decode cX7_deliver 28 = .ok (.iaload, 1) := by decide +kernel
theorem dX7_deliver_29 : decode cX7_deliver 29 = .ok (.ifCond .ne 5, 3) := by decide +kernel
theorem dX7_deliver_32 : decode cX7_deliver 32 = .ok (.iconst 0, 1) := by decide +kernel
theorem dX7_deliver_33 : decode cX7_deliver 33 = .ok (.ireturn, 1) := by decide +kernel
theorem dX7_deliver_34 : decode cX7_deliver 34 = .ok (.aload_n 0, 1) := by decide +kernel
theorem dX7_deliver_35 : decode cX7_deliver 35 = .ok (.getfield 80, 3) := by decide +kernel
theorem dX7_deliver_38 : decode cX7_deliver 38 = .ok (.bipush 80, 2) := by decide +kernel
theorem dX7_deliver_40 : decode cX7_deliver 40 = .ok (.iload_n 1, 1) := by decide +kernel
theorem dX7_deliver_41 : decode cX7_deliver 41 = .ok (.imul, 1) := by decide +kernel
theorem dX7_deliver_42 : decode cX7_deliver 42 = .ok (.iaload, 1) := by decide +kernel
theorem dX7_deliver_43 : decode cX7_deliver 43 = .ok (.istore_n 2, 1) := by decide +kernel
theorem dX7_deliver_44 : decode cX7_deliver 44 = .ok (.aload_n 0, 1) := by decide +kernel
theorem dX7_deliver_45 : decode cX7_deliver 45 = .ok (.getfield 62, 3) := by decide +kernel
theorem dX7_deliver_48 : decode cX7_deliver 48 = .ok (.iload_n 2, 1) := by decide +kernel
theorem dX7_deliver_49 : decode cX7_deliver 49 = .ok (.dup2, 1) := by decide +kernel
theorem dX7_deliver_50 : decode cX7_deliver 50 = .ok (.iaload, 1) := by decide +kernel
theorem dX7_deliver_51 : decode cX7_deliver 51 = .ok (.iconst 1, 1) := by decide +kernel
theorem dX7_deliver_52 : decode cX7_deliver 52 = .ok (.iadd, 1) := by decide +kernel
theorem dX7_deliver_53 : decode cX7_deliver 53 = .ok (.iastore, 1) := by decide +kernel
theorem dX7_deliver_54 : decode cX7_deliver 54 = .ok (.aload_n 0, 1) := by decide +kernel
theorem dX7_deliver_55 : decode cX7_deliver 55 = .ok (.iload_n 1, 1) := by decide +kernel
theorem dX7_deliver_56 : decode cX7_deliver 56 = .ok (.iload_n 2, 1) := by decide +kernel
theorem dX7_deliver_57 : decode cX7_deliver 57 = .ok (.invokevirtual 140, 3) := by decide +kernel
theorem dX7_deliver_60 : decode cX7_deliver 60 = .ok (.aload_n 0, 1) := by decide +kernel
theorem dX7_deliver_61 : decode cX7_deliver 61 = .ok (.iload_n 1, 1) := by decide +kernel
theorem dX7_deliver_62 : decode cX7_deliver 62 = .ok (.iload_n 2, 1) := by decide +kernel
theorem dX7_deliver_63 : decode cX7_deliver 63 = .ok (.invokevirtual 136, 3) := by decide +kernel
theorem dX7_deliver_66 : decode cX7_deliver 66 = .ok (.aload_n 0, 1) := by decide +kernel
theorem dX7_deliver_67 : decode cX7_deliver 67 = .ok (.getfield 83, 3) := by decide +kernel
theorem dX7_deliver_70 : decode cX7_deliver 70 = .ok (.iload_n 1, 1) := by decide +kernel
theorem dX7_deliver_71 : decode cX7_deliver 71 = .ok (.iaload, 1) := by decide +kernel
theorem dX7_deliver_72 : decode cX7_deliver 72 = .ok (.ifCond .le 15, 3) := by decide +kernel
theorem dX7_deliver_75 : decode cX7_deliver 75 = .ok (.aload_n 0, 1) := by decide +kernel
theorem dX7_deliver_76 : decode cX7_deliver 76 = .ok (.getfield 83, 3) := by decide +kernel
theorem dX7_deliver_79 : decode cX7_deliver 79 = .ok (.iload_n 1, 1) := by decide +kernel
theorem dX7_deliver_80 : decode cX7_deliver 80 = .ok (.dup2, 1) := by decide +kernel
theorem dX7_deliver_81 : decode cX7_deliver 81 = .ok (.iaload, 1) := by decide +kernel
theorem dX7_deliver_82 : decode cX7_deliver 82 = .ok (.iconst 1, 1) := by decide +kernel
theorem dX7_deliver_83 : decode cX7_deliver 83 = .ok (.isub, 1) := by decide +kernel
theorem dX7_deliver_84 : decode cX7_deliver 84 = .ok (.iastore, 1) := by decide +kernel
theorem dX7_deliver_85 : decode cX7_deliver 85 = .ok (.iconst 1, 1) := by decide +kernel
theorem dX7_deliver_86 : decode cX7_deliver 86 = .ok (.ireturn, 1) := by decide +kernel
theorem dX7_deliver_87 : decode cX7_deliver 87 = .ok (.aload_n 0, 1) := by decide +kernel
theorem dX7_deliver_88 : decode cX7_deliver 88 = .ok (.getfield 50, 3) := by decide +kernel
theorem dX7_deliver_91 : decode cX7_deliver 91 = .ok (.iload_n 1, 1) := by decide +kernel
theorem dX7_deliver_92 : decode cX7_deliver 92 = .ok (.baload, 1) := by decide +kernel
theorem dX7_deliver_93 : decode cX7_deliver 93 = .ok (.ifCond .eq 5, 3) := by decide +kernel
theorem dX7_deliver_96 : decode cX7_deliver 96 = .ok (.iconst 2, 1) := by decide +kernel
theorem dX7_deliver_97 : decode cX7_deliver 97 = .ok (.ireturn, 1) := by decide +kernel
theorem dX7_deliver_98 : decode cX7_deliver 98 = .ok (.aload_n 0, 1) := by decide +kernel
theorem dX7_deliver_99 : decode cX7_deliver 99 = .ok (.getfield 71, 3) := by decide +kernel
theorem dX7_deliver_102 : decode cX7_deliver 102 = .ok (.iload_n 2, 1) := by decide +kernel
theorem dX7_deliver_103 : decode cX7_deliver 103 = .ok (.iaload, 1) := by decide +kernel
theorem dX7_deliver_104 : decode cX7_deliver 104 = .ok (.iload_n 1, 1) := by decide +kernel
theorem dX7_deliver_105 : decode cX7_deliver 105 = .ok (.ishr, 1) := by decide +kernel
theorem dX7_deliver_106 : decode cX7_deliver 106 = .ok (.iconst 1, 1) := by decide +kernel
theorem dX7_deliver_107 : decode cX7_deliver 107 = .ok (.iand, 1) := by decide +kernel
theorem dX7_deliver_108 : decode cX7_deliver 108 = .ok (.iconst 1, 1) := by decide +kernel
theorem dX7_deliver_109 : decode cX7_deliver 109 = .ok (.if_icmp .ne 10, 3) := by decide +kernel
theorem dX7_deliver_112 : decode cX7_deliver 112 = .ok (.aload_n 0, 1) := by decide +kernel
theorem dX7_deliver_113 : decode cX7_deliver 113 = .ok (.iload_n 1, 1) := by decide +kernel
theorem dX7_deliver_114 : decode cX7_deliver 114 = .ok (.iload_n 2, 1) := by decide +kernel
theorem dX7_deliver_115 : decode cX7_deliver 115 = .ok (.invokevirtual 149, 3) := by decide +kernel
theorem dX7_deliver_118 : decode cX7_deliver 118 = .ok (.ireturn, 1) := by decide +kernel
theorem dX7_deliver_119 : decode cX7_deliver 119 = .ok (.iload_n 1, 1) := by decide +kernel
theorem dX7_deliver_120 : decode cX7_deliver 120 = .ok (.invokestatic 166, 3) := by decide +kernel
theorem dX7_deliver_123 : decode cX7_deliver 123 = .ok (.ifCond .eq 10, 3) := by decide +kernel
theorem dX7_deliver_126 : decode cX7_deliver 126 = .ok (.aload_n 0, 1) := by decide +kernel
theorem dX7_deliver_127 : decode cX7_deliver 127 = .ok (.iload_n 1, 1) := by decide +kernel
theorem dX7_deliver_128 : decode cX7_deliver 128 = .ok (.iload_n 2, 1) := by decide +kernel
theorem dX7_deliver_129 : decode cX7_deliver 129 = .ok (.invokevirtual 169, 3) := by decide +kernel
theorem dX7_deliver_132 : decode cX7_deliver 132 = .ok (.ireturn, 1) := by decide +kernel
theorem dX7_deliver_133 : decode cX7_deliver 133 = .ok (.aload_n 0, 1) := by decide +kernel
theorem dX7_deliver_134 : decode cX7_deliver 134 = .ok (.getfield 92, 3) := by decide +kernel
theorem dX7_deliver_137 : decode cX7_deliver 137 = .ok (.iload_n 1, 1) := by decide +kernel
theorem dX7_deliver_138 : decode cX7_deliver 138 = .ok (.iload_n 2, 1) := by decide +kernel
theorem dX7_deliver_139 : decode cX7_deliver 139 = .ok (.iastore, 1) := by decide +kernel
theorem dX7_deliver_140 : decode cX7_deliver 140 = .ok (.bipush 6, 2) := by decide +kernel
theorem dX7_deliver_142 : decode cX7_deliver 142 = .ok (.ireturn, 1) := by decide +kernel
theorem dX7_isUppermost_0 : decode cX7_isUppermost 0 = .ok (.aload_n 0, 1) := by decide +kernel
theorem dX7_isUppermost_1 : decode cX7_isUppermost 1 = .ok (.getfield 26, 3) := by decide +kernel
theorem dX7_isUppermost_4 : decode cX7_isUppermost 4 = .ok (.iload_n 1, 1) := by decide +kernel
theorem dX7_isUppermost_5 : decode cX7_isUppermost 5 = .ok (.iaload, 1) := by decide +kernel
theorem dX7_isUppermost_6 : decode cX7_isUppermost 6 = .ok (.iconst 3, 1) := by decide +kernel
theorem dX7_isUppermost_7 : decode cX7_isUppermost 7 = .ok (.if_icmp .ne 29, 3) := by decide +kernel
theorem dX7_isUppermost_10 : decode cX7_isUppermost 10 = .ok (.aload_n 0, 1) := by decide +kernel
theorem dX7_isUppermost_11 : decode cX7_isUppermost 11 = .ok (.getfield 44, 3) := by decide +kernel
theorem dX7_isUppermost_14 : decode cX7_isUppermost 14 = .ok (.iload_n 1, 1) := by decide +kernel
theorem dX7_isUppermost_15 : decode cX7_isUppermost 15 = .ok (.iaload, 1) := by decide +kernel
theorem dX7_isUppermost_16 : decode cX7_isUppermost 16 = .ok (.aload_n 0, 1) := by decide +kernel
theorem dX7_isUppermost_17 : decode cX7_isUppermost 17 = .ok (.getfield 41, 3) := by decide +kernel
theorem dX7_isUppermost_20 : decode cX7_isUppermost 20 = .ok (.aload_n 0, 1) := by decide +kernel
theorem dX7_isUppermost_21 : decode cX7_isUppermost 21 = .ok (.getfield 29, 3) := by decide +kernel
theorem dX7_isUppermost_24 : decode cX7_isUppermost 24 = .ok (.iload_n 1, 1) := by decide +kernel
theorem dX7_isUppermost_25 : decode cX7_isUppermost 25 = .ok (.iaload, 1) := by decide +kernel
theorem dX7_isUppermost_26 : decode cX7_isUppermost 26 = .ok (.iaload, 1) := by decide +kernel
theorem dX7_isUppermost_27 : decode cX7_isUppermost 27 = .ok (.iconst 1, 1) := by decide +kernel
theorem dX7_isUppermost_28 : decode cX7_isUppermost 28 = .ok (.isub, 1) := by decide +kernel
theorem dX7_isUppermost_29 : decode cX7_isUppermost 29 = .ok (.if_icmp .ne 7, 3) := by decide +kernel
theorem dX7_isUppermost_32 : decode cX7_isUppermost 32 = .ok (.iconst 1, 1) := by decide +kernel
theorem dX7_isUppermost_33 : decode cX7_isUppermost 33 = .ok (.goto 4, 3) := by decide +kernel
theorem dX7_isUppermost_36 : decode cX7_isUppermost 36 = .ok (.iconst 0, 1) := by decide +kernel
theorem dX7_isUppermost_37 : decode cX7_isUppermost 37 = .ok (.ireturn, 1) := by decide +kernel
theorem dX7_isEmpty_0 : decode cX7_isEmpty 0 = .ok (.iconst 1, 1) := by decide +kernel
theorem dX7_isEmpty_1 : decode cX7_isEmpty 1 = .ok (.istore_n 2, 1) := by decide +kernel
theorem dX7_isEmpty_2 : decode cX7_isEmpty 2 = .ok (.iconst 0, 1) := by decide +kernel
theorem dX7_isEmpty_3 : decode cX7_isEmpty 3 = .ok (.istore_n 3, 1) := by decide +kernel
theorem dX7_isEmpty_4 : decode cX7_isEmpty 4 = .ok (.iload_n 3, 1) := by decide +kernel
theorem dX7_isEmpty_5 : decode cX7_isEmpty 5 = .ok (.aload_n 0, 1) := by decide +kernel
theorem dX7_isEmpty_6 : decode cX7_isEmpty 6 = .ok (.getfield 106, 3) := by decide +kernel
theorem dX7_isEmpty_9 : decode cX7_isEmpty 9 = .ok (.if_icmp .ge 39, 3) := by decide +kernel
theorem dX7_isEmpty_12 : decode cX7_isEmpty 12 = .ok (.iload_n 2, 1) := by decide +kernel
theorem dX7_isEmpty_13 : decode cX7_isEmpty 13 = .ok (.ifCond .eq 27, 3) := by decide +kernel
theorem dX7_isEmpty_16 : decode cX7_isEmpty 16 = .ok (.aload_n 0, 1) := by decide +kernel
theorem dX7_isEmpty_17 : decode cX7_isEmpty 17 = .ok (.getfield 26, 3) := by decide +kernel
theorem dX7_isEmpty_20 : decode cX7_isEmpty 20 = .ok (.iload_n 3, 1) := by decide +kernel
theorem dX7_isEmpty_21 : decode cX7_isEmpty 21 = .ok (.iaload, 1) := by decide +kernel
theorem dX7_isEmpty_22 : decode cX7_isEmpty 22 = .ok (.iconst 2, 1) := by decide +kernel
theorem dX7_isEmpty_23 : decode cX7_isEmpty 23 = .ok (.if_icmp .ne 13, 3) := by decide +kernel
theorem dX7_isEmpty_26 : decode cX7_isEmpty 26 = .ok (.aload_n 0, 1) := by decide +kernel
theorem dX7_isEmpty_27 : decode cX7_isEmpty 27 = .ok (.getfield 29, 3) := by decide +kernel
theorem dX7_isEmpty_30 : decode cX7_isEmpty 30 = .ok (.iload_n 3, 1) := by decide +kernel
theorem dX7_isEmpty_31 : decode cX7_isEmpty 31 = .ok (.iaload, 1) := by decide +kernel
theorem dX7_isEmpty_32 : decode cX7_isEmpty 32 = .ok (.iload_n 1, 1) := by decide +kernel
theorem dX7_isEmpty_33 : decode cX7_isEmpty 33 = .ok (.if_icmp .eq 7, 3) := by decide +kernel
theorem dX7_isEmpty_36 : decode cX7_isEmpty 36 = .ok (.iconst 1, 1) := by decide +kernel
theorem dX7_isEmpty_37 : decode cX7_isEmpty 37 = .ok (.goto 4, 3) := by decide +kernel
theorem dX7_isEmpty_40 : decode cX7_isEmpty 40 = .ok (.iconst 0, 1) := by decide +kernel
theorem dX7_isEmpty_41 : decode cX7_isEmpty 41 = .ok (.istore_n 2, 1) := by decide +kernel
theorem dX7_isEmpty_42 : decode cX7_isEmpty 42 = .ok (.iinc 3 1, 3) := by decide +kernel
theorem dX7_isEmpty_45 : decode cX7_isEmpty 45 = .ok (.goto (-41), 3) := by decide +kernel
theorem dX7_isEmpty_48 : decode cX7_isEmpty 48 = .ok (.iload_n 2, 1) := by decide +kernel
theorem dX7_isEmpty_49 : decode cX7_isEmpty 49 = .ok (.ireturn, 1) := by decide +kernel
theorem dX7_finishes_0 : decode cX7_finishes 0 = .ok (.aload_n 0, 1) := by decide +kernel
theorem dX7_finishes_1 : decode cX7_finishes 1 = .ok (.getfield 71, 3) := by decide +kernel
theorem dX7_finishes_4 : decode cX7_finishes 4 = .ok (.iload_n 2, 1) := by decide +kernel
theorem dX7_finishes_5 : decode cX7_finishes 5 = .ok (.dup2, 1) := by decide +kernel
theorem dX7_finishes_6 : decode cX7_finishes 6 = .ok (.iaload, 1) := by decide +kernel
theorem dX7_finishes_7 : decode cX7_finishes 7 = .ok (.iconst 1, 1) := by decide +kernel
theorem dX7_finishes_8 : decode cX7_finishes 8 = .ok (.iload_n 1, 1) := by decide +kernel
theorem dX7_finishes_9 : decode cX7_finishes 9 = .ok (.ishl, 1) := by decide +kernel
theorem dX7_finishes_10 : decode cX7_finishes 10 = .ok (.ior, 1) := by decide +kernel
theorem dX7_finishes_11 : decode cX7_finishes 11 = .ok (.iastore, 1) := by decide +kernel
theorem dX7_finishes_12 : decode cX7_finishes 12 = .ok (.aload_n 0, 1) := by decide +kernel
theorem dX7_finishes_13 : decode cX7_finishes 13 = .ok (.getfield 92, 3) := by decide +kernel
theorem dX7_finishes_16 : decode cX7_finishes 16 = .ok (.iload_n 1, 1) := by decide +kernel
theorem dX7_finishes_17 : decode cX7_finishes 17 = .ok (.iconst (-1), 1) := by decide +kernel
theorem dX7_finishes_18 : decode cX7_finishes 18 = .ok (.iastore, 1) := by decide +kernel
theorem dX7_finishes_19 : decode cX7_finishes 19 = .ok (.aload_n 0, 1) := by decide +kernel
theorem dX7_finishes_20 : decode cX7_finishes 20 = .ok (.iload_n 1, 1) := by decide +kernel
theorem dX7_finishes_21 : decode cX7_finishes 21 = .ok (.iload_n 2, 1) := by decide +kernel
theorem dX7_finishes_22 : decode cX7_finishes 22 = .ok (.invokevirtual 149, 3) := by decide +kernel
theorem dX7_finishes_25 : decode cX7_finishes 25 = .ok (.ireturn, 1) := by decide +kernel
theorem dX7_puts_0 : decode cX7_puts 0 = .ok (.aload_n 0, 1) := by decide +kernel
theorem dX7_puts_1 : decode cX7_puts 1 = .ok (.getfield 56, 3) := by decide +kernel
theorem dX7_puts_4 : decode cX7_puts 4 = .ok (.iload_n 1, 1) := by decide +kernel
theorem dX7_puts_5 : decode cX7_puts 5 = .ok (.iaload, 1) := by decide +kernel
theorem dX7_puts_6 : decode cX7_puts 6 = .ok (.istore_n 2, 1) := by decide +kernel
theorem dX7_puts_7 : decode cX7_puts 7 = .ok (.aload_n 0, 1) := by decide +kernel
theorem dX7_puts_8 : decode cX7_puts 8 = .ok (.getfield 53, 3) := by decide +kernel
theorem dX7_puts_11 : decode cX7_puts 11 = .ok (.iload_n 1, 1) := by decide +kernel
theorem dX7_puts_12 : decode cX7_puts 12 = .ok (.iaload, 1) := by decide +kernel
theorem dX7_puts_13 : decode cX7_puts 13 = .ok (.iconst 1, 1) := by decide +kernel
theorem dX7_puts_14 : decode cX7_puts 14 = .ok (.if_icmp .ne 76, 3) := by decide +kernel
theorem dX7_puts_17 : decode cX7_puts 17 = .ok (.aload_n 0, 1) := by decide +kernel
theorem dX7_puts_18 : decode cX7_puts 18 = .ok (.getfield 41, 3) := by decide +kernel
theorem dX7_puts_21 : decode cX7_puts 21 = .ok (.aload_n 0, 1) := by decide +kernel
theorem dX7_puts_22 : decode cX7_puts 22 = .ok (.getfield 59, 3) := by decide +kernel
theorem dX7_puts_25 : decode cX7_puts 25 = .ok (.iload_n 1, 1) := by decide +kernel
theorem dX7_puts_26 : decode cX7_puts 26 = .ok (.iaload, 1) := by decide +kernel
theorem dX7_puts_27 : decode cX7_puts 27 = .ok (.iaload, 1) := by decide +kernel
theorem dX7_puts_28 : decode cX7_puts 28 = .ok (.iconst 4, 1) := by decide +kernel
theorem dX7_puts_29 : decode cX7_puts 29 = .ok (.if_icmp .ge 61, 3) := by decide +kernel
theorem dX7_puts_32 : decode cX7_puts 32 = .ok (.aload_n 0, 1) := by decide +kernel
theorem dX7_puts_33 : decode cX7_puts 33 = .ok (.getfield 26, 3) := by decide +kernel
theorem dX7_puts_36 : decode cX7_puts 36 = .ok (.iload_n 2, 1) := by decide +kernel
theorem dX7_puts_37 : decode cX7_puts 37 = .ok (.iconst 3, 1) := by decide +kernel
theorem dX7_puts_38 : decode cX7_puts 38 = .ok (.iastore, 1) := by decide +kernel
theorem dX7_puts_39 : decode cX7_puts 39 = .ok (.aload_n 0, 1) := by decide +kernel
theorem dX7_puts_40 : decode cX7_puts 40 = .ok (.getfield 29, 3) := by decide +kernel
theorem dX7_puts_43 : decode cX7_puts 43 = .ok (.iload_n 2, 1) := by decide +kernel
theorem dX7_puts_44 : decode cX7_puts 44 = .ok (.aload_n 0, 1) := by decide +kernel
theorem dX7_puts_45 : decode cX7_puts 45 = .ok (.getfield 59, 3) := by decide +kernel
theorem dX7_puts_48 : decode cX7_puts 48 = .ok (.iload_n 1, 1) := by decide +kernel
theorem dX7_puts_49 : decode cX7_puts 49 = .ok (.iaload, 1) := by decide +kernel
theorem dX7_puts_50 : decode cX7_puts 50 = .ok (.iastore, 1) := by decide +kernel
theorem dX7_puts_51 : decode cX7_puts 51 = .ok (.aload_n 0, 1) := by decide +kernel
theorem dX7_puts_52 : decode cX7_puts 52 = .ok (.getfield 44, 3) := by decide +kernel
theorem dX7_puts_55 : decode cX7_puts 55 = .ok (.iload_n 2, 1) := by decide +kernel
theorem dX7_puts_56 : decode cX7_puts 56 = .ok (.aload_n 0, 1) := by decide +kernel
theorem dX7_puts_57 : decode cX7_puts 57 = .ok (.getfield 41, 3) := by decide +kernel
theorem dX7_puts_60 : decode cX7_puts 60 = .ok (.aload_n 0, 1) := by decide +kernel
theorem dX7_puts_61 : decode cX7_puts 61 = .ok (.getfield 59, 3) := by decide +kernel
theorem dX7_puts_64 : decode cX7_puts 64 = .ok (.iload_n 1, 1) := by decide +kernel
theorem dX7_puts_65 : decode cX7_puts 65 = .ok (.iaload, 1) := by decide +kernel
theorem dX7_puts_66 : decode cX7_puts 66 = .ok (.iaload, 1) := by decide +kernel
theorem dX7_puts_67 : decode cX7_puts 67 = .ok (.iastore, 1) := by decide +kernel
theorem dX7_puts_68 : decode cX7_puts 68 = .ok (.aload_n 0, 1) := by decide +kernel
theorem dX7_puts_69 : decode cX7_puts 69 = .ok (.getfield 41, 3) := by decide +kernel
theorem dX7_puts_72 : decode cX7_puts 72 = .ok (.aload_n 0, 1) := by decide +kernel
theorem dX7_puts_73 : decode cX7_puts 73 = .ok (.getfield 59, 3) := by decide +kernel
theorem dX7_puts_76 : decode cX7_puts 76 = .ok (.iload_n 1, 1) := by decide +kernel
theorem dX7_puts_77 : decode cX7_puts 77 = .ok (.iaload, 1) := by decide +kernel
theorem dX7_puts_78 : decode cX7_puts 78 = .ok (.dup2, 1) := by decide +kernel
theorem dX7_puts_79 : decode cX7_puts 79 = .ok (.iaload, 1) := by decide +kernel
theorem dX7_puts_80 : decode cX7_puts 80 = .ok (.iconst 1, 1) := by decide +kernel
theorem dX7_puts_81 : decode cX7_puts 81 = .ok (.iadd, 1) := by decide +kernel
theorem dX7_puts_82 : decode cX7_puts 82 = .ok (.iastore, 1) := by decide +kernel
theorem dX7_puts_83 : decode cX7_puts 83 = .ok (.aload_n 0, 1) := by decide +kernel
theorem dX7_puts_84 : decode cX7_puts 84 = .ok (.iload_n 1, 1) := by decide +kernel
theorem dX7_puts_85 : decode cX7_puts 85 = .ok (.invokevirtual 159, 3) := by decide +kernel
theorem dX7_puts_88 : decode cX7_puts 88 = .ok (.iconst 1, 1) := by decide +kernel
theorem dX7_puts_89 : decode cX7_puts 89 = .ok (.ireturn, 1) := by decide +kernel
theorem dX7_puts_90 : decode cX7_puts 90 = .ok (.aload_n 0, 1) := by decide +kernel
theorem dX7_puts_91 : decode cX7_puts 91 = .ok (.getfield 53, 3) := by decide +kernel
theorem dX7_puts_94 : decode cX7_puts 94 = .ok (.iload_n 1, 1) := by decide +kernel
theorem dX7_puts_95 : decode cX7_puts 95 = .ok (.iaload, 1) := by decide +kernel
theorem dX7_puts_96 : decode cX7_puts 96 = .ok (.iconst 2, 1) := by decide +kernel
theorem dX7_puts_97 : decode cX7_puts 97 = .ok (.if_icmp .ne 64, 3) := by decide +kernel
theorem dX7_puts_100 : decode cX7_puts 100 = .ok (.aload_n 0, 1) := by decide +kernel
theorem dX7_puts_101 : decode cX7_puts 101 = .ok (.getfield 35, 3) := by decide +kernel
theorem dX7_puts_104 : decode cX7_puts 104 = .ok (.iload_n 2, 1) := by decide +kernel
theorem dX7_puts_105 : decode cX7_puts 105 = .ok (.iaload, 1) := by decide +kernel
theorem dX7_puts_106 : decode cX7_puts 106 = .ok (.aload_n 0, 1) := by decide +kernel
theorem dX7_puts_107 : decode cX7_puts 107 = .ok (.getfield 172, 3) := by decide +kernel
theorem dX7_puts_110 : decode cX7_puts 110 = .ok (.if_icmp .ne 51, 3) := by decide +kernel
theorem dX7_puts_113 : decode cX7_puts 113 = .ok (.aload_n 0, 1) := by decide +kernel
theorem dX7_puts_114 : decode cX7_puts 114 = .ok (.getfield 38, 3) := by decide +kernel
theorem dX7_puts_117 : decode cX7_puts 117 = .ok (.iload_n 2, 1) := by decide +kernel
theorem dX7_puts_118 : decode cX7_puts 118 = .ok (.iaload, 1) := by decide +kernel
theorem dX7_puts_119 : decode cX7_puts 119 = .ok (.aload_n 0, 1) := by decide +kernel
theorem dX7_puts_120 : decode cX7_puts 120 = .ok (.getfield 59, 3) := by decide +kernel
theorem dX7_puts_123 : decode cX7_puts 123 = .ok (.iload_n 1, 1) := by decide +kernel
theorem dX7_puts_124 : decode cX7_puts 124 = .ok (.iaload, 1) := by decide +kernel
theorem dX7_puts_125 : decode cX7_puts 125 = .ok (.if_icmp .ne 36, 3) := by decide +kernel
theorem dX7_puts_128 : decode cX7_puts 128 = .ok (.aload_n 0, 1) := by decide +kernel
theorem dX7_puts_129 : decode cX7_puts 129 = .ok (.getfield 26, 3) := by decide +kernel
theorem dX7_puts_132 : decode cX7_puts 132 = .ok (.iload_n 2, 1) := by decide +kernel
theorem dX7_puts_133 : decode cX7_puts 133 = .ok (.iconst 4, 1) := by decide +kernel
theorem dX7_puts_134 : decode cX7_puts 134 = .ok (.iastore, 1) := by decide +kernel
theorem dX7_puts_135 : decode cX7_puts 135 = .ok (.aload_n 0, 1) := by decide +kernel
theorem dX7_puts_136 : decode cX7_puts 136 = .ok (.getfield 29, 3) := by decide +kernel
theorem dX7_puts_139 : decode cX7_puts 139 = .ok (.iload_n 2, 1) := by decide +kernel
theorem dX7_puts_140 : decode cX7_puts 140 = .ok (.aload_n 0, 1) := by decide +kernel
theorem dX7_puts_141 : decode cX7_puts 141 = .ok (.getfield 59, 3) := by decide +kernel
theorem dX7_puts_144 : decode cX7_puts 144 = .ok (.iload_n 1, 1) := by decide +kernel
theorem dX7_puts_145 : decode cX7_puts 145 = .ok (.iaload, 1) := by decide +kernel
theorem dX7_puts_146 : decode cX7_puts 146 = .ok (.iastore, 1) := by decide +kernel
theorem dX7_puts_147 : decode cX7_puts 147 = .ok (.aload_n 0, 1) := by decide +kernel
theorem dX7_puts_148 : decode cX7_puts 148 = .ok (.getfield 35, 3) := by decide +kernel
theorem dX7_puts_151 : decode cX7_puts 151 = .ok (.iload_n 2, 1) := by decide +kernel
theorem dX7_puts_152 : decode cX7_puts 152 = .ok (.iconst (-1), 1) := by decide +kernel
theorem dX7_puts_153 : decode cX7_puts 153 = .ok (.iastore, 1) := by decide +kernel
theorem dX7_puts_154 : decode cX7_puts 154 = .ok (.aload_n 0, 1) := by decide +kernel
theorem dX7_puts_155 : decode cX7_puts 155 = .ok (.iload_n 1, 1) := by decide +kernel
theorem dX7_puts_156 : decode cX7_puts 156 = .ok (.invokevirtual 159, 3) := by decide +kernel
theorem dX7_puts_159 : decode cX7_puts 159 = .ok (.iconst 1, 1) := by decide +kernel
theorem dX7_puts_160 : decode cX7_puts 160 = .ok (.ireturn, 1) := by decide +kernel
theorem dX7_puts_161 : decode cX7_puts 161 = .ok (.iconst 0, 1) := by decide +kernel
theorem dX7_puts_162 : decode cX7_puts 162 = .ok (.ireturn, 1) := by decide +kernel
theorem dX7_act_0 : decode cX7_act 0 = .ok (.aload_n 0, 1) := by decide +kernel
theorem dX7_act_1 : decode cX7_act 1 = .ok (.iload_n 1, 1) := by decide +kernel
theorem dX7_act_2 : decode cX7_act 2 = .ok (.iconst 4, 1) := by decide +kernel
theorem dX7_act_3 : decode cX7_act 3 = .ok (.bipush 7, 2) := by decide +kernel
theorem dX7_act_5 : decode cX7_act 5 = .ok (.invokestatic 99, 3) := by decide +kernel
theorem dX7_act_8 : decode cX7_act 8 = .ok (.ifCond .eq 7, 3) := by decide +kernel
theorem dX7_act_11 : decode cX7_act 11 = .ok (.iconst 0, 1) := by decide +kernel
theorem dX7_act_12 : decode cX7_act 12 = .ok (.goto 4, 3) := by decide +kernel
theorem dX7_act_15 : decode cX7_act 15 = .ok (.iconst 1, 1) := by decide +kernel
theorem dX7_act_16 : decode cX7_act 16 = .ok (.putfield 95, 3) := by decide +kernel
theorem dX7_act_19 : decode cX7_act 19 = .ok (.aload_n 0, 1) := by decide +kernel
theorem dX7_act_20 : decode cX7_act 20 = .ok (.getfield 95, 3) := by decide +kernel
theorem dX7_act_23 : decode cX7_act 23 = .ok (.ifCond .gt 13, 3) := by decide +kernel
theorem dX7_act_26 : decode cX7_act 26 = .ok (.aload_n 0, 1) := by decide +kernel
theorem dX7_act_27 : decode cX7_act 27 = .ok (.getfield 92, 3) := by decide +kernel
theorem dX7_act_30 : decode cX7_act 30 = .ok (.iload_n 1, 1) := by decide +kernel
theorem dX7_act_31 : decode cX7_act 31 = .ok (.iaload, 1) := by decide +kernel
theorem dX7_act_32 : decode cX7_act 32 = .ok (.iconst (-1), 1) := by decide +kernel
theorem dX7_act_33 : decode cX7_act 33 = .ok (.if_icmp .ne 5, 3) := by decide +kernel
theorem dX7_act_36 : decode cX7_act 36 = .ok (.iconst 0, 1) := by decide +kernel
theorem dX7_act_37 : decode cX7_act 37 = .ok (.ireturn, 1) := by decide +kernel
theorem dX7_act_38 : decode cX7_act 38 = .ok (.aload_n 0, 1) := by decide +kernel
theorem dX7_act_39 : decode cX7_act 39 = .ok (.getfield 92, 3) := by decide +kernel
theorem dX7_act_42 : decode cX7_act 42 = .ok (.iload_n 1, 1) := by decide +kernel
theorem dX7_act_43 : decode cX7_act 43 = .ok (.iaload, 1) := by decide +kernel
theorem dX7_act_44 : decode cX7_act 44 = .ok (.istore_n 2, 1) := by decide +kernel
theorem dX7_act_45 : decode cX7_act 45 = .ok (.aload_n 0, 1) := by decide +kernel
theorem dX7_act_46 : decode cX7_act 46 = .ok (.getfield 56, 3) := by decide +kernel
theorem dX7_act_49 : decode cX7_act 49 = .ok (.iload_n 2, 1) := by decide +kernel
theorem dX7_act_50 : decode cX7_act 50 = .ok (.iaload, 1) := by decide +kernel
theorem dX7_act_51 : decode cX7_act 51 = .ok (.istore_n 3, 1) := by decide +kernel
theorem dX7_act_52 : decode cX7_act 52 = .ok (.aload_n 0, 1) := by decide +kernel
theorem dX7_act_53 : decode cX7_act 53 = .ok (.getfield 26, 3) := by decide +kernel
theorem dX7_act_56 : decode cX7_act 56 = .ok (.iload_n 3, 1) := by decide +kernel
theorem dX7_act_57 : decode cX7_act 57 = .ok (.iaload, 1) := by decide +kernel
theorem dX7_act_58 : decode cX7_act 58 = .ok (.iconst 4, 1) := by decide +kernel
theorem dX7_act_59 : decode cX7_act 59 = .ok (.if_icmp .eq 38, 3) := by decide +kernel
theorem dX7_act_62 : decode cX7_act 62 = .ok (.aload_n 0, 1) := by decide +kernel
theorem dX7_act_63 : decode cX7_act 63 = .ok (.getfield 53, 3) := by decide +kernel
theorem dX7_act_66 : decode cX7_act 66 = .ok (.iload_n 2, 1) := by decide +kernel
theorem dX7_act_67 : decode cX7_act 67 = .ok (.iaload, 1) := by decide +kernel
theorem dX7_act_68 : decode cX7_act 68 = .ok (.iconst 1, 1) := by decide +kernel
theorem dX7_act_69 : decode cX7_act 69 = .ok (.if_icmp .ne 35, 3) := by decide +kernel
theorem dX7_act_72 : decode cX7_act 72 = .ok (.aload_n 0, 1) := by decide +kernel
theorem dX7_act_73 : decode cX7_act 73 = .ok (.getfield 26, 3) := by decide +kernel
theorem dX7_act_76 : decode cX7_act 76 = .ok (.iload_n 3, 1) := by decide +kernel
theorem dX7_act_77 : decode cX7_act 77 = .ok (.iaload, 1) := by decide +kernel
theorem dX7_act_78 : decode cX7_act 78 = .ok (.iconst 3, 1) := by decide +kernel
theorem dX7_act_79 : decode cX7_act 79 = .ok (.if_icmp .ne 25, 3) := by decide +kernel
theorem dX7_act_82 : decode cX7_act 82 = .ok (.aload_n 0, 1) := by decide +kernel
theorem dX7_act_83 : decode cX7_act 83 = .ok (.getfield 29, 3) := by decide +kernel
theorem dX7_act_86 : decode cX7_act 86 = .ok (.iload_n 3, 1) := by decide +kernel
theorem dX7_act_87 : decode cX7_act 87 = .ok (.iaload, 1) := by decide +kernel
theorem dX7_act_88 : decode cX7_act 88 = .ok (.aload_n 0, 1) := by decide +kernel
theorem dX7_act_89 : decode cX7_act 89 = .ok (.getfield 59, 3) := by decide +kernel
theorem dX7_act_92 : decode cX7_act 92 = .ok (.iload_n 2, 1) := by decide +kernel
theorem dX7_act_93 : decode cX7_act 93 = .ok (.iaload, 1) := by decide +kernel
theorem dX7_act_94 : decode cX7_act 94 = .ok (.if_icmp .ne 10, 3) := by decide +kernel
theorem dX7_act_97 : decode cX7_act 97 = .ok (.aload_n 0, 1) := by decide +kernel
theorem dX7_act_98 : decode cX7_act 98 = .ok (.iload_n 1, 1) := by decide +kernel
theorem dX7_act_99 : decode cX7_act 99 = .ok (.iload_n 2, 1) := by decide +kernel
theorem dX7_act_100 : decode cX7_act 100 = .ok (.invokevirtual 175, 3) := by decide +kernel
theorem dX7_act_103 : decode cX7_act 103 = .ok (.ireturn, 1) := by decide +kernel
theorem dX7_act_104 : decode cX7_act 104 = .ok (.aload_n 0, 1) := by decide +kernel
theorem dX7_act_105 : decode cX7_act 105 = .ok (.getfield 26, 3) := by decide +kernel
theorem dX7_act_108 : decode cX7_act 108 = .ok (.iload_n 3, 1) := by decide +kernel
theorem dX7_act_109 : decode cX7_act 109 = .ok (.iaload, 1) := by decide +kernel
theorem dX7_act_110 : decode cX7_act 110 = .ok (.iconst 2, 1) := by decide +kernel
theorem dX7_act_111 : decode cX7_act 111 = .ok (.if_icmp .ne 32, 3) := by decide +kernel
theorem dX7_act_114 : decode cX7_act 114 = .ok (.aload_n 0, 1) := by decide +kernel
theorem dX7_act_115 : decode cX7_act 115 = .ok (.getfield 29, 3) := by decide +kernel
theorem dX7_act_118 : decode cX7_act 118 = .ok (.iload_n 3, 1) := by decide +kernel
theorem dX7_act_119 : decode cX7_act 119 = .ok (.iaload, 1) := by decide +kernel
theorem dX7_act_120 : decode cX7_act 120 = .ok (.iload_n 1, 1) := by decide +kernel
theorem dX7_act_121 : decode cX7_act 121 = .ok (.if_icmp .ne 22, 3) := by decide +kernel
theorem dX7_act_124 : decode cX7_act 124 = .ok (.aload_n 0, 1) := by decide +kernel
theorem dX7_act_125 : decode cX7_act 125 = .ok (.iload_n 2, 1) := by decide +kernel
theorem dX7_act_126 : decode cX7_act 126 = .ok (.invokevirtual 178, 3) := by decide +kernel
theorem dX7_act_129 : decode cX7_act 129 = .ok (.ifCond .eq 12, 3) := by decide +kernel
theorem dX7_act_132 : decode cX7_act 132 = .ok (.aload_n 0, 1) := by decide +kernel
theorem dX7_act_133 : decode cX7_act 133 = .ok (.iload_n 1, 1) := by decide +kernel
theorem dX7_act_134 : decode cX7_act 134 = .ok (.iload_n 2, 1) := by decide +kernel
theorem dX7_act_135 : decode cX7_act 135 = .ok (.invokevirtual 175, 3) := by decide +kernel
theorem dX7_act_138 : decode cX7_act 138 = .ok (.goto 4, 3) := by decide +kernel
theorem dX7_act_141 : decode cX7_act 141 = .ok (.iconst 3, 1) := by decide +kernel
theorem dX7_act_142 : decode cX7_act 142 = .ok (.ireturn, 1) := by decide +kernel
theorem dX7_act_143 : decode cX7_act 143 = .ok (.aload_n 0, 1) := by decide +kernel
theorem dX7_act_144 : decode cX7_act 144 = .ok (.iload_n 1, 1) := by decide +kernel
theorem dX7_act_145 : decode cX7_act 145 = .ok (.invokevirtual 181, 3) := by decide +kernel
theorem dX7_act_148 : decode cX7_act 148 = .ok (.ifCond .eq 21, 3) := by decide +kernel
theorem dX7_act_151 : decode cX7_act 151 = .ok (.aload_n 0, 1) := by decide +kernel
theorem dX7_act_152 : decode cX7_act 152 = .ok (.getfield 26, 3) := by decide +kernel
theorem dX7_act_155 : decode cX7_act 155 = .ok (.iload_n 3, 1) := by decide +kernel
theorem dX7_act_156 : decode cX7_act 156 = .ok (.iaload, 1) := by decide +kernel
theorem dX7_act_157 : decode cX7_act 157 = .ok (.iconst 1, 1) := by decide +kernel
theorem dX7_act_158 : decode cX7_act 158 = .ok (.if_icmp .eq 13, 3) := by decide +kernel
theorem dX7_act_161 : decode cX7_act 161 = .ok (.aload_n 0, 1) := by decide +kernel
theorem dX7_act_162 : decode cX7_act 162 = .ok (.iload_n 3, 1) := by decide +kernel
theorem dX7_act_163 : decode cX7_act 163 = .ok (.invokevirtual 184, 3) := by decide +kernel
theorem dX7_act_166 : decode cX7_act 166 = .ok (.ifCond .ne 5, 3) := by decide +kernel
theorem dX7_act_169 : decode cX7_act 169 = .ok (.iconst 3, 1) := by decide +kernel
theorem dX7_act_170 : decode cX7_act 170 = .ok (.ireturn, 1) := by decide +kernel
theorem dX7_act_171 : decode cX7_act 171 = .ok (.aload_n 0, 1) := by decide +kernel
theorem dX7_act_172 : decode cX7_act 172 = .ok (.getfield 26, 3) := by decide +kernel
theorem dX7_act_175 : decode cX7_act 175 = .ok (.iload_n 3, 1) := by decide +kernel
theorem dX7_act_176 : decode cX7_act 176 = .ok (.iaload, 1) := by decide +kernel
theorem dX7_act_177 : decode cX7_act 177 = .ok (.iconst 3, 1) := by decide +kernel
theorem dX7_act_178 : decode cX7_act 178 = .ok (.if_icmp .ne 18, 3) := by decide +kernel
theorem dX7_act_181 : decode cX7_act 181 = .ok (.aload_n 0, 1) := by decide +kernel
theorem dX7_act_182 : decode cX7_act 182 = .ok (.getfield 41, 3) := by decide +kernel
theorem dX7_act_185 : decode cX7_act 185 = .ok (.aload_n 0, 1) := by decide +kernel
theorem dX7_act_186 : decode cX7_act 186 = .ok (.getfield 29, 3) := by decide +kernel
theorem dX7_act_189 : decode cX7_act 189 = .ok (.iload_n 3, 1) := by decide +kernel
theorem dX7_act_190 : decode cX7_act 190 = .ok (.iaload, 1) := by decide +kernel
theorem dX7_act_191 : decode cX7_act 191 = .ok (.dup2, 1) := by decide +kernel
theorem dX7_act_192 : decode cX7_act 192 = .ok (.iaload, 1) := by decide +kernel
theorem dX7_act_193 : decode cX7_act 193 = .ok (.iconst 1, 1) := by decide +kernel
theorem dX7_act_194 : decode cX7_act 194 = .ok (.isub, 1) := by decide +kernel
theorem dX7_act_195 : decode cX7_act 195 = .ok (.iastore, 1) := by decide +kernel
theorem dX7_act_196 : decode cX7_act 196 = .ok (.aload_n 0, 1) := by decide +kernel
theorem dX7_act_197 : decode cX7_act 197 = .ok (.getfield 26, 3) := by decide +kernel
theorem dX7_act_200 : decode cX7_act 200 = .ok (.iload_n 3, 1) := by decide +kernel
theorem dX7_act_201 : decode cX7_act 201 = .ok (.iconst 2, 1) := by decide +kernel
theorem dX7_act_202 : decode cX7_act 202 = .ok (.iastore, 1) := by decide +kernel
theorem dX7_act_203 : decode cX7_act 203 = .ok (.aload_n 0, 1) := by decide +kernel
theorem dX7_act_204 : decode cX7_act 204 = .ok (.getfield 29, 3) := by decide +kernel
theorem dX7_act_207 : decode cX7_act 207 = .ok (.iload_n 3, 1) := by decide +kernel
theorem dX7_act_208 : decode cX7_act 208 = .ok (.iload_n 1, 1) := by decide +kernel
theorem dX7_act_209 : decode cX7_act 209 = .ok (.iastore, 1) := by decide +kernel
theorem dX7_act_210 : decode cX7_act 210 = .ok (.bipush 7, 2) := by decide +kernel
theorem dX7_act_212 : decode cX7_act 212 = .ok (.ireturn, 1) := by decide +kernel
theorem dX7_lose_0 : decode cX7_lose 0 = .ok (.aload_n 0, 1) := by decide +kernel
theorem dX7_lose_1 : decode cX7_lose 1 = .ok (.iload_n 1, 1) := by decide +kernel
theorem dX7_lose_2 : decode cX7_lose 2 = .ok (.invokestatic 163, 3) := by decide +kernel
theorem dX7_lose_5 : decode cX7_lose 5 = .ok (.ifCond .ne 7, 3) := by decide +kernel
theorem dX7_lose_8 : decode cX7_lose 8 = .ok (.iconst 1, 1) := by decide +kernel
theorem dX7_lose_9 : decode cX7_lose 9 = .ok (.goto 18, 3) := by decide +kernel
theorem dX7_lose_12 : decode cX7_lose 12 = .ok (.iload_n 2, 1) := by decide +kernel
theorem dX7_lose_13 : decode cX7_lose 13 = .ok (.iconst 1, 1) := by decide +kernel
theorem dX7_lose_14 : decode cX7_lose 14 = .ok (.bipush 9, 2) := by decide +kernel
theorem dX7_lose_16 : decode cX7_lose 16 = .ok (.invokestatic 99, 3) := by decide +kernel
theorem dX7_lose_19 : decode cX7_lose 19 = .ok (.ifCond .eq 7, 3) := by decide +kernel
theorem dX7_lose_22 : decode cX7_lose 22 = .ok (.iconst 0, 1) := by decide +kernel
theorem dX7_lose_23 : decode cX7_lose 23 = .ok (.goto 4, 3) := by decide +kernel
theorem dX7_lose_26 : decode cX7_lose 26 = .ok (.iconst 2, 1) := by decide +kernel
theorem dX7_lose_27 : decode cX7_lose 27 = .ok (.putfield 95, 3) := by decide +kernel
theorem dX7_lose_30 : decode cX7_lose 30 = .ok (.aload_n 0, 1) := by decide +kernel
theorem dX7_lose_31 : decode cX7_lose 31 = .ok (.getfield 95, 3) := by decide +kernel
theorem dX7_lose_34 : decode cX7_lose 34 = .ok (.ifCond .le 5, 3) := by decide +kernel
theorem dX7_lose_37 : decode cX7_lose 37 = .ok (.iconst 0, 1) := by decide +kernel
theorem dX7_lose_38 : decode cX7_lose 38 = .ok (.ireturn, 1) := by decide +kernel
theorem dX7_lose_39 : decode cX7_lose 39 = .ok (.aload_n 0, 1) := by decide +kernel
theorem dX7_lose_40 : decode cX7_lose 40 = .ok (.getfield 86, 3) := by decide +kernel
theorem dX7_lose_43 : decode cX7_lose 43 = .ok (.iload_n 1, 1) := by decide +kernel
theorem dX7_lose_44 : decode cX7_lose 44 = .ok (.dup2, 1) := by decide +kernel
theorem dX7_lose_45 : decode cX7_lose 45 = .ok (.iaload, 1) := by decide +kernel
theorem dX7_lose_46 : decode cX7_lose 46 = .ok (.iload_n 3, 1) := by decide +kernel
theorem dX7_lose_47 : decode cX7_lose 47 = .ok (.ifCond .eq 7, 3) := by decide +kernel
theorem dX7_lose_50 : decode cX7_lose 50 = .ok (.iload_n 2, 1) := by decide +kernel
theorem dX7_lose_51 : decode cX7_lose 51 = .ok (.goto 4, 3) := by decide +kernel
theorem dX7_lose_54 : decode cX7_lose 54 = .ok (.iconst 0, 1) := by decide +kernel
theorem dX7_lose_55 : decode cX7_lose 55 = .ok (.iadd, 1) := by decide +kernel
theorem dX7_lose_56 : decode cX7_lose 56 = .ok (.iastore, 1) := by decide +kernel
theorem dX7_lose_57 : decode cX7_lose 57 = .ok (.aload_n 0, 1) := by decide +kernel
theorem dX7_lose_58 : decode cX7_lose 58 = .ok (.getfield 83, 3) := by decide +kernel
theorem dX7_lose_61 : decode cX7_lose 61 = .ok (.iload_n 1, 1) := by decide +kernel
theorem dX7_lose_62 : decode cX7_lose 62 = .ok (.dup2, 1) := by decide +kernel
theorem dX7_lose_63 : decode cX7_lose 63 = .ok (.iaload, 1) := by decide +kernel
theorem dX7_lose_64 : decode cX7_lose 64 = .ok (.iload_n 3, 1) := by decide +kernel
theorem dX7_lose_65 : decode cX7_lose 65 = .ok (.ifCond .eq 7, 3) := by decide +kernel
theorem dX7_lose_68 : decode cX7_lose 68 = .ok (.iconst 0, 1) := by decide +kernel
theorem dX7_lose_69 : decode cX7_lose 69 = .ok (.goto 4, 3) := by decide +kernel
theorem dX7_lose_72 : decode cX7_lose 72 = .ok (.iload_n 2, 1) := by decide +kernel
theorem dX7_lose_73 : decode cX7_lose 73 = .ok (.iadd, 1) := by decide +kernel
theorem dX7_lose_74 : decode cX7_lose 74 = .ok (.iastore, 1) := by decide +kernel
theorem dX7_lose_75 : decode cX7_lose 75 = .ok (.iload_n 3, 1) := by decide +kernel
theorem dX7_lose_76 : decode cX7_lose 76 = .ok (.ifCond .eq 12, 3) := by decide +kernel
theorem dX7_lose_79 : decode cX7_lose 79 = .ok (.aload_n 0, 1) := by decide +kernel
theorem dX7_lose_80 : decode cX7_lose 80 = .ok (.getfield 86, 3) := by decide +kernel
theorem dX7_lose_83 : decode cX7_lose 83 = .ok (.iload_n 1, 1) := by decide +kernel
theorem dX7_lose_84 : decode cX7_lose 84 = .ok (.iaload, 1) := by decide +kernel
theorem dX7_lose_85 : decode cX7_lose 85 = .ok (.goto 9, 3) := by decide +kernel
theorem dX7_lose_88 : decode cX7_lose 88 = .ok (.aload_n 0, 1) := by decide +kernel
theorem dX7_lose_89 : decode cX7_lose 89 = .ok (.getfield 83, 3) := by decide +kernel
theorem dX7_lose_92 : decode cX7_lose 92 = .ok (.iload_n 1, 1) := by decide +kernel
theorem dX7_lose_93 : decode cX7_lose 93 = .ok (.iaload, 1) := by decide +kernel
theorem dX7_lose_94 : decode cX7_lose 94 = .ok (.ireturn, 1) := by decide +kernel
theorem dX7_repeat_0 : decode cX7_repeat 0 = .ok (.aload_n 0, 1) := by decide +kernel
theorem dX7_repeat_1 : decode cX7_repeat 1 = .ok (.iload_n 1, 1) := by decide +kernel
theorem dX7_repeat_2 : decode cX7_repeat 2 = .ok (.invokestatic 163, 3) := by decide +kernel
theorem dX7_repeat_5 : decode cX7_repeat 5 = .ok (.ifCond .eq 7, 3) := by decide +kernel
theorem dX7_repeat_8 : decode cX7_repeat 8 = .ok (.iconst 0, 1) := by decide +kernel
theorem dX7_repeat_9 : decode cX7_repeat 9 = .ok (.goto 4, 3) := by decide +kernel
theorem dX7_repeat_12 : decode cX7_repeat 12 = .ok (.iconst 1, 1) := by decide +kernel
theorem dX7_repeat_13 : decode cX7_repeat 13 = .ok (.putfield 95, 3) := by decide +kernel
theorem dX7_repeat_16 : decode cX7_repeat 16 = .ok (.aload_n 0, 1) := by decide +kernel
theorem dX7_repeat_17 : decode cX7_repeat 17 = .ok (.getfield 95, 3) := by decide +kernel
theorem dX7_repeat_20 : decode cX7_repeat 20 = .ok (.ifCond .le 5, 3) := by decide +kernel
theorem dX7_repeat_23 : decode cX7_repeat 23 = .ok (.iconst 0, 1) := by decide +kernel
theorem dX7_repeat_24 : decode cX7_repeat 24 = .ok (.ireturn, 1) := by decide +kernel
theorem dX7_repeat_25 : decode cX7_repeat 25 = .ok (.aload_n 0, 1) := by decide +kernel
theorem dX7_repeat_26 : decode cX7_repeat 26 = .ok (.getfield 89, 3) := by decide +kernel
theorem dX7_repeat_29 : decode cX7_repeat 29 = .ok (.iload_n 1, 1) := by decide +kernel
theorem dX7_repeat_30 : decode cX7_repeat 30 = .ok (.iaload, 1) := by decide +kernel
theorem dX7_repeat_31 : decode cX7_repeat 31 = .ok (.istore_n 2, 1) := by decide +kernel
theorem dX7_repeat_32 : decode cX7_repeat 32 = .ok (.aload_n 0, 1) := by decide +kernel
theorem dX7_repeat_33 : decode cX7_repeat 33 = .ok (.iload_n 2, 1) := by decide +kernel
theorem dX7_repeat_34 : decode cX7_repeat 34 = .ok (.iconst (-1), 1) := by decide +kernel
theorem dX7_repeat_35 : decode cX7_repeat 35 = .ok (.if_icmp .ne 7, 3) := by decide +kernel
theorem dX7_repeat_38 : decode cX7_repeat 38 = .ok (.iconst 2, 1) := by decide +kernel
theorem dX7_repeat_39 : decode cX7_repeat 39 = .ok (.goto 4, 3) := by decide +kernel
theorem dX7_repeat_42 : decode cX7_repeat 42 = .ok (.iconst 0, 1) := by decide +kernel
theorem dX7_repeat_43 : decode cX7_repeat 43 = .ok (.putfield 95, 3) := by decide +kernel
theorem dX7_repeat_46 : decode cX7_repeat 46 = .ok (.iconst 0, 1) := by decide +kernel
theorem dX7_repeat_47 : decode cX7_repeat 47 = .ok (.istore_n 3, 1) := by decide +kernel
theorem dX7_repeat_48 : decode cX7_repeat 48 = .ok (.iload_n 3, 1) := by decide +kernel
theorem dX7_repeat_49 : decode cX7_repeat 49 = .ok (.bipush 8, 2) := by decide +kernel
theorem dX7_repeat_51 : decode cX7_repeat 51 = .ok (.if_icmp .ge 34, 3) := by decide +kernel
theorem dX7_repeat_54 : decode cX7_repeat 54 = .ok (.aload_n 0, 1) := by decide +kernel
theorem dX7_repeat_55 : decode cX7_repeat 55 = .ok (.getfield 95, 3) := by decide +kernel
theorem dX7_repeat_58 : decode cX7_repeat 58 = .ok (.ifCond .ne 27, 3) := by decide +kernel
theorem dX7_repeat_61 : decode cX7_repeat 61 = .ok (.aload_n 0, 1) := by decide +kernel
theorem dX7_repeat_62 : decode cX7_repeat 62 = .ok (.aload_n 0, 1) := by decide +kernel
theorem dX7_repeat_63 : decode cX7_repeat 63 = .ok (.iload_n 3, 1) := by decide +kernel
theorem dX7_repeat_64 : decode cX7_repeat 64 = .ok (.iload_n 2, 1) := by decide +kernel
theorem dX7_repeat_65 : decode cX7_repeat 65 = .ok (.invokevirtual 187, 3) := by decide +kernel
theorem dX7_repeat_68 : decode cX7_repeat 68 = .ok (.ifCond .eq 7, 3) := by decide +kernel
theorem dX7_repeat_71 : decode cX7_repeat 71 = .ok (.iconst 2, 1) := by decide +kernel
theorem dX7_repeat_72 : decode cX7_repeat 72 = .ok (.goto 4, 3) := by decide +kernel
theorem dX7_repeat_75 : decode cX7_repeat 75 = .ok (.iconst 0, 1) := by decide +kernel
theorem dX7_repeat_76 : decode cX7_repeat 76 = .ok (.putfield 95, 3) := by decide +kernel
theorem dX7_repeat_79 : decode cX7_repeat 79 = .ok (.iinc 3 1, 3) := by decide +kernel
theorem dX7_repeat_82 : decode cX7_repeat 82 = .ok (.goto (-34), 3) := by decide +kernel
theorem dX7_repeat_85 : decode cX7_repeat 85 = .ok (.aload_n 0, 1) := by decide +kernel
theorem dX7_repeat_86 : decode cX7_repeat 86 = .ok (.getfield 95, 3) := by decide +kernel
theorem dX7_repeat_89 : decode cX7_repeat 89 = .ok (.ifCond .le 5, 3) := by decide +kernel
theorem dX7_repeat_92 : decode cX7_repeat 92 = .ok (.iconst 0, 1) := by decide +kernel
theorem dX7_repeat_93 : decode cX7_repeat 93 = .ok (.ireturn, 1) := by decide +kernel
theorem dX7_repeat_94 : decode cX7_repeat 94 = .ok (.aload_n 0, 1) := by decide +kernel
theorem dX7_repeat_95 : decode cX7_repeat 95 = .ok (.iload_n 1, 1) := by decide +kernel
theorem dX7_repeat_96 : decode cX7_repeat 96 = .ok (.iload_n 2, 1) := by decide +kernel
theorem dX7_repeat_97 : decode cX7_repeat 97 = .ok (.invokevirtual 136, 3) := by decide +kernel
theorem dX7_repeat_100 : decode cX7_repeat 100 = .ok (.iload_n 2, 1) := by decide +kernel
theorem dX7_repeat_101 : decode cX7_repeat 101 = .ok (.ireturn, 1) := by decide +kernel
theorem dX7_silence_0 : decode cX7_silence 0 = .ok (.aload_n 0, 1) := by decide +kernel
theorem dX7_silence_1 : decode cX7_silence 1 = .ok (.iload_n 1, 1) := by decide +kernel
theorem dX7_silence_2 : decode cX7_silence 2 = .ok (.invokestatic 166, 3) := by decide +kernel
theorem dX7_silence_5 : decode cX7_silence 5 = .ok (.ifCond .eq 7, 3) := by decide +kernel
theorem dX7_silence_8 : decode cX7_silence 8 = .ok (.iconst 0, 1) := by decide +kernel
theorem dX7_silence_9 : decode cX7_silence 9 = .ok (.goto 4, 3) := by decide +kernel
theorem dX7_silence_12 : decode cX7_silence 12 = .ok (.iconst 1, 1) := by decide +kernel
theorem dX7_silence_13 : decode cX7_silence 13 = .ok (.putfield 95, 3) := by decide +kernel
theorem dX7_silence_16 : decode cX7_silence 16 = .ok (.aload_n 0, 1) := by decide +kernel
theorem dX7_silence_17 : decode cX7_silence 17 = .ok (.getfield 95, 3) := by decide +kernel
theorem dX7_silence_20 : decode cX7_silence 20 = .ok (.ifCond .le 5, 3) := by decide +kernel
theorem dX7_silence_23 : decode cX7_silence 23 = .ok (.iconst 0, 1) := by decide +kernel
theorem dX7_silence_24 : decode cX7_silence 24 = .ok (.ireturn, 1) := by decide +kernel
theorem dX7_silence_25 : decode cX7_silence 25 = .ok (.aload_n 0, 1) := by decide +kernel
theorem dX7_silence_26 : decode cX7_silence 26 = .ok (.getfield 50, 3) := by decide +kernel
theorem dX7_silence_29 : decode cX7_silence 29 = .ok (.iload_n 1, 1) := by decide +kernel
theorem dX7_silence_30 : decode cX7_silence 30 = .ok (.baload, 1) := by decide +kernel
theorem dX7_silence_31 : decode cX7_silence 31 = .ok (.istore_n 3, 1) := by decide +kernel
theorem dX7_silence_32 : decode cX7_silence 32 = .ok (.aload_n 0, 1) := by decide +kernel
theorem dX7_silence_33 : decode cX7_silence 33 = .ok (.getfield 50, 3) := by decide +kernel
theorem dX7_silence_36 : decode cX7_silence 36 = .ok (.iload_n 1, 1) := by decide +kernel
theorem dX7_silence_37 : decode cX7_silence 37 = .ok (.iload_n 2, 1) := by decide +kernel
theorem dX7_silence_38 : decode cX7_silence 38 = .ok (.bastore, 1) := by decide +kernel
theorem dX7_silence_39 : decode cX7_silence 39 = .ok (.iload_n 3, 1) := by decide +kernel
theorem dX7_silence_40 : decode cX7_silence 40 = .ok (.ireturn, 1) := by decide +kernel
theorem dX7_giveAway_0 : decode cX7_giveAway 0 = .ok (.aload_n 0, 1) := by decide +kernel
theorem dX7_giveAway_1 : decode cX7_giveAway 1 = .ok (.iload_n 1, 1) := by decide +kernel
theorem dX7_giveAway_2 : decode cX7_giveAway 2 = .ok (.invokestatic 166, 3) := by decide +kernel
theorem dX7_giveAway_5 : decode cX7_giveAway 5 = .ok (.ifCond .eq 10, 3) := by decide +kernel
theorem dX7_giveAway_8 : decode cX7_giveAway 8 = .ok (.iload_n 2, 1) := by decide +kernel
theorem dX7_giveAway_9 : decode cX7_giveAway 9 = .ok (.invokestatic 166, 3) := by decide +kernel
theorem dX7_giveAway_12 : decode cX7_giveAway 12 = .ok (.ifCond .ne 7, 3) := by decide +kernel
theorem dX7_giveAway_15 : decode cX7_giveAway 15 = .ok (.iconst 1, 1) := by decide +kernel
theorem dX7_giveAway_16 : decode cX7_giveAway 16 = .ok (.goto 22, 3) := by decide +kernel
theorem dX7_giveAway_19 : decode cX7_giveAway 19 = .ok (.aload_n 0, 1) := by decide +kernel
theorem dX7_giveAway_20 : decode cX7_giveAway 20 = .ok (.getfield 50, 3) := by decide +kernel
theorem dX7_giveAway_23 : decode cX7_giveAway 23 = .ok (.iload_n 1, 1) := by decide +kernel
theorem dX7_giveAway_24 : decode cX7_giveAway 24 = .ok (.baload, 1) := by decide +kernel
theorem dX7_giveAway_25 : decode cX7_giveAway 25 = .ok (.ifCond .eq 8, 3) := by decide +kernel
theorem dX7_giveAway_28 : decode cX7_giveAway 28 = .ok (.iload_n 1, 1) := by decide +kernel
theorem dX7_giveAway_29 : decode cX7_giveAway 29 = .ok (.iload_n 2, 1) := by decide +kernel
theorem dX7_giveAway_30 : decode cX7_giveAway 30 = .ok (.if_icmp .ne 7, 3) := by decide +kernel
theorem dX7_giveAway_33 : decode cX7_giveAway 33 = .ok (.iconst 2, 1) := by decide +kernel
theorem dX7_giveAway_34 : decode cX7_giveAway 34 = .ok (.goto 4, 3) := by decide +kernel
theorem dX7_giveAway_37 : decode cX7_giveAway 37 = .ok (.iconst 0, 1) := by decide +kernel
theorem dX7_giveAway_38 : decode cX7_giveAway 38 = .ok (.putfield 95, 3) := by decide +kernel
theorem dX7_giveAway_41 : decode cX7_giveAway 41 = .ok (.aload_n 0, 1) := by decide +kernel
theorem dX7_giveAway_42 : decode cX7_giveAway 42 = .ok (.getfield 95, 3) := by decide +kernel
theorem dX7_giveAway_45 : decode cX7_giveAway 45 = .ok (.ifCond .le 5, 3) := by decide +kernel
theorem dX7_giveAway_48 : decode cX7_giveAway 48 = .ok (.iconst 0, 1) := by decide +kernel
theorem dX7_giveAway_49 : decode cX7_giveAway 49 = .ok (.ireturn, 1) := by decide +kernel
theorem dX7_giveAway_50 : decode cX7_giveAway 50 = .ok (.aload_n 0, 1) := by decide +kernel
theorem dX7_giveAway_51 : decode cX7_giveAway 51 = .ok (.getfield 77, 3) := by decide +kernel
theorem dX7_giveAway_54 : decode cX7_giveAway 54 = .ok (.iload_n 1, 1) := by decide +kernel
theorem dX7_giveAway_55 : decode cX7_giveAway 55 = .ok (.iaload, 1) := by decide +kernel
theorem dX7_giveAway_56 : decode cX7_giveAway 56 = .ok (.istore_n 3, 1) := by decide +kernel
theorem dX7_giveAway_57 : decode cX7_giveAway 57 = .ok (.iconst 0, 1) := by decide +kernel
theorem dX7_giveAway_58 : decode cX7_giveAway 58 = .ok (.istore 4, 2) := by decide +kernel
theorem dX7_giveAway_60 : decode cX7_giveAway 60 = .ok (.iload 4, 2) := by decide +kernel
theorem dX7_giveAway_62 : decode cX7_giveAway 62 = .ok (.iload_n 3, 1) := by decide +kernel
theorem dX7_giveAway_63 : decode cX7_giveAway 63 = .ok (.if_icmp .ge 26, 3) := by decide +kernel
theorem dX7_giveAway_66 : decode cX7_giveAway 66 = .ok (.aload_n 0, 1) := by decide +kernel
theorem dX7_giveAway_67 : decode cX7_giveAway 67 = .ok (.iload_n 2, 1) := by decide +kernel
theorem dX7_giveAway_68 : decode cX7_giveAway 68 = .ok (.aload_n 0, 1) := by decide +kernel
theorem dX7_giveAway_69 : decode cX7_giveAway 69 = .ok (.getfield 80, 3) := by decide +kernel
theorem dX7_giveAway_72 : decode cX7_giveAway 72 = .ok (.bipush 80, 2) := by decide +kernel
theorem dX7_giveAway_74 : decode cX7_giveAway 74 = .ok (.iload_n 1, 1) := by decide +kernel
theorem dX7_giveAway_75 : decode cX7_giveAway 75 = .ok (.imul, 1) := by decide +kernel
theorem dX7_giveAway_76 : decode cX7_giveAway 76 = .ok (.iload 4, 2) := by decide +kernel
theorem dX7_giveAway_78 : decode cX7_giveAway 78 = .ok (.iadd, 1) := by decide +kernel
theorem dX7_giveAway_79 : decode cX7_giveAway 79 = .ok (.iaload, 1) := by decide +kernel
theorem dX7_giveAway_80 : decode cX7_giveAway 80 = .ok (.invokevirtual 136, 3) := by decide +kernel
theorem dX7_giveAway_83 : decode cX7_giveAway 83 = .ok (.iinc 4 1, 3) := by decide +kernel
theorem dX7_giveAway_86 : decode cX7_giveAway 86 = .ok (.goto (-26), 3) := by decide +kernel
theorem dX7_giveAway_89 : decode cX7_giveAway 89 = .ok (.aload_n 0, 1) := by decide +kernel
theorem dX7_giveAway_90 : decode cX7_giveAway 90 = .ok (.getfield 77, 3) := by decide +kernel
theorem dX7_giveAway_93 : decode cX7_giveAway 93 = .ok (.iload_n 1, 1) := by decide +kernel
theorem dX7_giveAway_94 : decode cX7_giveAway 94 = .ok (.iconst 0, 1) := by decide +kernel
theorem dX7_giveAway_95 : decode cX7_giveAway 95 = .ok (.iastore, 1) := by decide +kernel
theorem dX7_giveAway_96 : decode cX7_giveAway 96 = .ok (.iload_n 3, 1) := by decide +kernel
theorem dX7_giveAway_97 : decode cX7_giveAway 97 = .ok (.ireturn, 1) := by decide +kernel
theorem dX7_park_0 : decode cX7_park 0 = .ok (.aload_n 0, 1) := by decide +kernel
theorem dX7_park_1 : decode cX7_park 1 = .ok (.iload_n 1, 1) := by decide +kernel
theorem dX7_park_2 : decode cX7_park 2 = .ok (.invokestatic 166, 3) := by decide +kernel
theorem dX7_park_5 : decode cX7_park 5 = .ok (.ifCond .eq 10, 3) := by decide +kernel
theorem dX7_park_8 : decode cX7_park 8 = .ok (.iload_n 2, 1) := by decide +kernel
theorem dX7_park_9 : decode cX7_park 9 = .ok (.invokestatic 109, 3) := by decide +kernel
theorem dX7_park_12 : decode cX7_park 12 = .ok (.ifCond .ne 7, 3) := by decide +kernel
theorem dX7_park_15 : decode cX7_park 15 = .ok (.iconst 1, 1) := by decide +kernel
theorem dX7_park_16 : decode cX7_park 16 = .ok (.goto 26, 3) := by decide +kernel
theorem dX7_park_19 : decode cX7_park 19 = .ok (.aload_n 0, 1) := by decide +kernel
theorem dX7_park_20 : decode cX7_park 20 = .ok (.getfield 50, 3) := by decide +kernel
theorem dX7_park_23 : decode cX7_park 23 = .ok (.iload_n 1, 1) := by decide +kernel
theorem dX7_park_24 : decode cX7_park 24 = .ok (.baload, 1) := by decide +kernel
theorem dX7_park_25 : decode cX7_park 25 = .ok (.ifCond .ne 12, 3) := by decide +kernel
theorem dX7_park_28 : decode cX7_park 28 = .ok (.aload_n 0, 1) := by decide +kernel
theorem dX7_park_29 : decode cX7_park 29 = .ok (.iload_n 1, 1) := by decide +kernel
theorem dX7_park_30 : decode cX7_park 30 = .ok (.iload_n 2, 1) := by decide +kernel
theorem dX7_park_31 : decode cX7_park 31 = .ok (.invokevirtual 153, 3) := by decide +kernel
theorem dX7_park_34 : decode cX7_park 34 = .ok (.ifCond .ne 7, 3) := by decide +kernel
theorem dX7_park_37 : decode cX7_park 37 = .ok (.iconst 2, 1) := by decide +kernel
theorem dX7_park_38 : decode cX7_park 38 = .ok (.goto 4, 3) := by decide +kernel
theorem dX7_park_41 : decode cX7_park 41 = .ok (.iconst 0, 1) := by decide +kernel
theorem dX7_park_42 : decode cX7_park 42 = .ok (.putfield 95, 3) := by decide +kernel
theorem dX7_park_45 : decode cX7_park 45 = .ok (.aload_n 0, 1) := by decide +kernel
theorem dX7_park_46 : decode cX7_park 46 = .ok (.getfield 95, 3) := by decide +kernel
theorem dX7_park_49 : decode cX7_park 49 = .ok (.ifCond .le 5, 3) := by decide +kernel
theorem dX7_park_52 : decode cX7_park 52 = .ok (.iconst 0, 1) := by decide +kernel
theorem dX7_park_53 : decode cX7_park 53 = .ok (.ireturn, 1) := by decide +kernel
theorem dX7_park_54 : decode cX7_park 54 = .ok (.aload_n 0, 1) := by decide +kernel
theorem dX7_park_55 : decode cX7_park 55 = .ok (.getfield 47, 3) := by decide +kernel
theorem dX7_park_58 : decode cX7_park 58 = .ok (.iload_n 1, 1) := by decide +kernel
theorem dX7_park_59 : decode cX7_park 59 = .ok (.iaload, 1) := by decide +kernel
theorem dX7_park_60 : decode cX7_park 60 = .ok (.istore_n 3, 1) := by decide +kernel
theorem dX7_park_61 : decode cX7_park 61 = .ok (.aload_n 0, 1) := by decide +kernel
theorem dX7_park_62 : decode cX7_park 62 = .ok (.getfield 47, 3) := by decide +kernel
theorem dX7_park_65 : decode cX7_park 65 = .ok (.iload_n 1, 1) := by decide +kernel
theorem dX7_park_66 : decode cX7_park 66 = .ok (.iload_n 2, 1) := by decide +kernel
theorem dX7_park_67 : decode cX7_park 67 = .ok (.iastore, 1) := by decide +kernel
theorem dX7_park_68 : decode cX7_park 68 = .ok (.iload_n 3, 1) := by decide +kernel
theorem dX7_park_69 : decode cX7_park 69 = .ok (.ireturn, 1) := by decide +kernel
theorem dX7_slotsFor_0 : decode cX7_slotsFor 0 = .ok (.iconst 2, 1) := by decide +kernel
theorem dX7_slotsFor_1 : decode cX7_slotsFor 1 = .ok (.istore_n 3, 1) := by decide +kernel
theorem dX7_slotsFor_2 : decode cX7_slotsFor 2 = .ok (.iconst 0, 1) := by decide +kernel
theorem dX7_slotsFor_3 : decode cX7_slotsFor 3 = .ok (.istore 4, 2) := by decide +kernel
theorem dX7_slotsFor_5 : decode cX7_slotsFor 5 = .ok (.iload 4, 2) := by decide +kernel
theorem dX7_slotsFor_7 : decode cX7_slotsFor 7 = .ok (.aload_n 0, 1) := by decide +kernel
theorem dX7_slotsFor_8 : decode cX7_slotsFor 8 = .ok (.getfield 106, 3) := by decide +kernel
theorem dX7_slotsFor_11 : decode cX7_slotsFor 11 = .ok (.if_icmp .ge 39, 3) := by decide +kernel
theorem dX7_slotsFor_14 : decode cX7_slotsFor 14 = .ok (.iload_n 3, 1) := by decide +kernel
theorem dX7_slotsFor_15 : decode cX7_slotsFor 15 = .ok (.aload_n 0, 1) := by decide +kernel
theorem dX7_slotsFor_16 : decode cX7_slotsFor 16 = .ok (.getfield 35, 3) := by decide +kernel
theorem dX7_slotsFor_19 : decode cX7_slotsFor 19 = .ok (.iload 4, 2) := by decide +kernel
theorem dX7_slotsFor_21 : decode cX7_slotsFor 21 = .ok (.iaload, 1) := by decide +kernel
theorem dX7_slotsFor_22 : decode cX7_slotsFor 22 = .ok (.iload_n 2, 1) := by decide +kernel
theorem dX7_slotsFor_23 : decode cX7_slotsFor 23 = .ok (.if_icmp .ne 18, 3) := by decide +kernel
theorem dX7_slotsFor_26 : decode cX7_slotsFor 26 = .ok (.aload_n 0, 1) := by decide +kernel
theorem dX7_slotsFor_27 : decode cX7_slotsFor 27 = .ok (.getfield 38, 3) := by decide +kernel
theorem dX7_slotsFor_30 : decode cX7_slotsFor 30 = .ok (.iload 4, 2) := by decide +kernel
theorem dX7_slotsFor_32 : decode cX7_slotsFor 32 = .ok (.iaload, 1) := by decide +kernel
theorem dX7_slotsFor_33 : decode cX7_slotsFor 33 = .ok (.iload_n 1, 1) := by decide +kernel
theorem dX7_slotsFor_34 : decode cX7_slotsFor 34 = .ok (.if_icmp .ne 7, 3) := by decide +kernel
theorem dX7_slotsFor_37 : decode cX7_slotsFor 37 = .ok (.iconst 1, 1) := by decide +kernel
theorem dX7_slotsFor_38 : decode cX7_slotsFor 38 = .ok (.goto 4, 3) := by decide +kernel
theorem dX7_slotsFor_41 : decode cX7_slotsFor 41 = .ok (.iconst 0, 1) := by decide +kernel
theorem dX7_slotsFor_42 : decode cX7_slotsFor 42 = .ok (.isub, 1) := by decide +kernel
theorem dX7_slotsFor_43 : decode cX7_slotsFor 43 = .ok (.istore_n 3, 1) := by decide +kernel
theorem dX7_slotsFor_44 : decode cX7_slotsFor 44 = .ok (.iinc 4 1, 3) := by decide +kernel
theorem dX7_slotsFor_47 : decode cX7_slotsFor 47 = .ok (.goto (-42), 3) := by decide +kernel
theorem dX7_slotsFor_50 : decode cX7_slotsFor 50 = .ok (.iload_n 3, 1) := by decide +kernel
theorem dX7_slotsFor_51 : decode cX7_slotsFor 51 = .ok (.ireturn, 1) := by decide +kernel
theorem dX7_canBook_0 : decode cX7_canBook 0 = .ok (.aload_n 0, 1) := by decide +kernel
theorem dX7_canBook_1 : decode cX7_canBook 1 = .ok (.getfield 26, 3) := by decide +kernel
theorem dX7_canBook_4 : decode cX7_canBook 4 = .ok (.iload_n 3, 1) := by decide +kernel
theorem dX7_canBook_5 : decode cX7_canBook 5 = .ok (.iaload, 1) := by decide +kernel
theorem dX7_canBook_6 : decode cX7_canBook 6 = .ok (.iconst 3, 1) := by decide +kernel
theorem dX7_canBook_7 : decode cX7_canBook 7 = .ok (.if_icmp .ne 26, 3) := by decide +kernel
theorem dX7_canBook_10 : decode cX7_canBook 10 = .ok (.aload_n 0, 1) := by decide +kernel
theorem dX7_canBook_11 : decode cX7_canBook 11 = .ok (.getfield 35, 3) := by decide +kernel
theorem dX7_canBook_14 : decode cX7_canBook 14 = .ok (.iload_n 3, 1) := by decide +kernel
theorem dX7_canBook_15 : decode cX7_canBook 15 = .ok (.iaload, 1) := by decide +kernel
theorem dX7_canBook_16 : decode cX7_canBook 16 = .ok (.iconst (-1), 1) := by decide +kernel
theorem dX7_canBook_17 : decode cX7_canBook 17 = .ok (.if_icmp .ne 16, 3) := by decide +kernel
theorem dX7_canBook_20 : decode cX7_canBook 20 = .ok (.aload_n 0, 1) := by decide +kernel
theorem dX7_canBook_21 : decode cX7_canBook 21 = .ok (.iload_n 1, 1) := by decide +kernel
theorem dX7_canBook_22 : decode cX7_canBook 22 = .ok (.iload_n 2, 1) := by decide +kernel
theorem dX7_canBook_23 : decode cX7_canBook 23 = .ok (.invokevirtual 190, 3) := by decide +kernel
theorem dX7_canBook_26 : decode cX7_canBook 26 = .ok (.ifCond .le 7, 3) := by decide +kernel
theorem dX7_canBook_29 : decode cX7_canBook 29 = .ok (.iconst 1, 1) := by decide +kernel
theorem dX7_canBook_30 : decode cX7_canBook 30 = .ok (.goto 4, 3) := by decide +kernel
theorem dX7_canBook_33 : decode cX7_canBook 33 = .ok (.iconst 0, 1) := by decide +kernel
theorem dX7_canBook_34 : decode cX7_canBook 34 = .ok (.istore 4, 2) := by decide +kernel
theorem dX7_canBook_36 : decode cX7_canBook 36 = .ok (.iconst 0, 1) := by decide +kernel
theorem dX7_canBook_37 : decode cX7_canBook 37 = .ok (.istore 5, 2) := by decide +kernel
theorem dX7_canBook_39 : decode cX7_canBook 39 = .ok (.iload 5, 2) := by decide +kernel
theorem dX7_canBook_41 : decode cX7_canBook 41 = .ok (.aload_n 0, 1) := by decide +kernel
theorem dX7_canBook_42 : decode cX7_canBook 42 = .ok (.getfield 106, 3) := by decide +kernel
theorem dX7_canBook_45 : decode cX7_canBook 45 = .ok (.if_icmp .ge 159, 3) := by decide +kernel
theorem dX7_canBook_48 : decode cX7_canBook 48 = .ok (.iload 4, 2) := by decide +kernel
theorem dX7_canBook_50 : decode cX7_canBook 50 = .ok (.ifCond .eq 154, 3) := by decide +kernel
theorem dX7_canBook_53 : decode cX7_canBook 53 = .ok (.iload 5, 2) := by decide +kernel
theorem dX7_canBook_55 : decode cX7_canBook 55 = .ok (.iload_n 3, 1) := by decide +kernel
theorem dX7_canBook_56 : decode cX7_canBook 56 = .ok (.if_icmp .eq 34, 3) := by decide +kernel
theorem dX7_canBook_59 : decode cX7_canBook 59 = .ok (.aload_n 0, 1) := by decide +kernel
theorem dX7_canBook_60 : decode cX7_canBook 60 = .ok (.getfield 26, 3) := by decide +kernel
theorem dX7_canBook_63 : decode cX7_canBook 63 = .ok (.iload 5, 2) := by decide +kernel
theorem dX7_canBook_65 : decode cX7_canBook 65 = .ok (.iaload, 1) := by decide +kernel
theorem dX7_canBook_66 : decode cX7_canBook 66 = .ok (.iconst 3, 1) := by decide +kernel
theorem dX7_canBook_67 : decode cX7_canBook 67 = .ok (.if_icmp .ne 23, 3) := by decide +kernel
theorem dX7_canBook_70 : decode cX7_canBook 70 = .ok (.aload_n 0, 1) := by decide +kernel
theorem dX7_canBook_71 : decode cX7_canBook 71 = .ok (.getfield 29, 3) := by decide +kernel
theorem dX7_canBook_74 : decode cX7_canBook 74 = .ok (.iload 5, 2) := by decide +kernel
theorem dX7_canBook_76 : decode cX7_canBook 76 = .ok (.iaload, 1) := by decide +kernel
theorem dX7_canBook_77 : decode cX7_canBook 77 = .ok (.aload_n 0, 1) := by decide +kernel
theorem dX7_canBook_78 : decode cX7_canBook 78 = .ok (.getfield 29, 3) := by decide +kernel
theorem dX7_canBook_81 : decode cX7_canBook 81 = .ok (.iload_n 3, 1) := by decide +kernel
theorem dX7_canBook_82 : decode cX7_canBook 82 = .ok (.iaload, 1) := by decide +kernel
theorem dX7_canBook_83 : decode cX7_canBook 83 = .ok (.if_icmp .ne 7, 3) := by decide +kernel
theorem dX7_canBook_86 : decode cX7_canBook 86 = .ok (.iconst 1, 1) := by decide +kernel
theorem dX7_canBook_87 : decode cX7_canBook 87 = .ok (.goto 4, 3) := by decide +kernel
theorem dX7_canBook_90 : decode cX7_canBook 90 = .ok (.iconst 0, 1) := by decide +kernel
theorem dX7_canBook_91 : decode cX7_canBook 91 = .ok (.istore 6, 2) := by decide +kernel
theorem dX7_canBook_93 : decode cX7_canBook 93 = .ok (.iload 6, 2) := by decide +kernel
theorem dX7_canBook_95 : decode cX7_canBook 95 = .ok (.ifCond .eq 23, 3) := by decide +kernel
theorem dX7_canBook_98 : decode cX7_canBook 98 = .ok (.aload_n 0, 1) := by decide +kernel
theorem dX7_canBook_99 : decode cX7_canBook 99 = .ok (.getfield 44, 3) := by decide +kernel
theorem dX7_canBook_102 : decode cX7_canBook 102 = .ok (.iload 5, 2) := by decide +kernel
theorem dX7_canBook_104 : decode cX7_canBook 104 = .ok (.iaload, 1) := by decide +kernel
theorem dX7_canBook_105 : decode cX7_canBook 105 = .ok (.aload_n 0, 1) := by decide +kernel
theorem dX7_canBook_106 : decode cX7_canBook 106 = .ok (.getfield 44, 3) := by decide +kernel
theorem dX7_canBook_109 : decode cX7_canBook 109 = .ok (.iload_n 3, 1) := by decide +kernel
theorem dX7_canBook_110 : decode cX7_canBook 110 = .ok (.iaload, 1) := by decide +kernel
theorem dX7_canBook_111 : decode cX7_canBook 111 = .ok (.if_icmp .le 7, 3) := by decide +kernel
theorem dX7_canBook_114 : decode cX7_canBook 114 = .ok (.iconst 1, 1) := by decide +kernel
theorem dX7_canBook_115 : decode cX7_canBook 115 = .ok (.goto 4, 3) := by decide +kernel
theorem dX7_canBook_118 : decode cX7_canBook 118 = .ok (.iconst 0, 1) := by decide +kernel
theorem dX7_canBook_119 : decode cX7_canBook 119 = .ok (.istore 7, 2) := by decide +kernel
theorem dX7_canBook_121 : decode cX7_canBook 121 = .ok (.iload 6, 2) := by decide +kernel
theorem dX7_canBook_123 : decode cX7_canBook 123 = .ok (.ifCond .eq 23, 3) := by decide +kernel
theorem dX7_canBook_126 : decode cX7_canBook 126 = .ok (.aload_n 0, 1) := by decide +kernel
theorem dX7_canBook_127 : decode cX7_canBook 127 = .ok (.getfield 44, 3) := by decide +kernel
theorem dX7_canBook_130 : decode cX7_canBook 130 = .ok (.iload 5, 2) := by decide +kernel
theorem dX7_canBook_132 : decode cX7_canBook 132 = .ok (.iaload, 1) := by decide +kernel
theorem dX7_canBook_133 : decode cX7_canBook 133 = .ok (.aload_n 0, 1) := by decide +kernel
theorem dX7_canBook_134 : decode cX7_canBook 134 = .ok (.getfield 44, 3) := by decide +kernel
theorem dX7_canBook_137 : decode cX7_canBook 137 = .ok (.iload_n 3, 1) := by decide +kernel
theorem dX7_canBook_138 : decode cX7_canBook 138 = .ok (.iaload, 1) := by decide +kernel
theorem dX7_canBook_139 : decode cX7_canBook 139 = .ok (.if_icmp .ge 7, 3) := by decide +kernel
theorem dX7_canBook_142 : decode cX7_canBook 142 = .ok (.iconst 1, 1) := by decide +kernel
theorem dX7_canBook_143 : decode cX7_canBook 143 = .ok (.goto 4, 3) := by decide +kernel
theorem dX7_canBook_146 : decode cX7_canBook 146 = .ok (.iconst 0, 1) := by decide +kernel
theorem dX7_canBook_147 : decode cX7_canBook 147 = .ok (.istore 8, 2) := by decide +kernel
theorem dX7_canBook_149 : decode cX7_canBook 149 = .ok (.iload 7, 2) := by decide +kernel
theorem dX7_canBook_151 : decode cX7_canBook 151 = .ok (.ifCond .eq 18, 3) := by decide +kernel
theorem dX7_canBook_154 : decode cX7_canBook 154 = .ok (.aload_n 0, 1) := by decide +kernel
theorem dX7_canBook_155 : decode cX7_canBook 155 = .ok (.getfield 35, 3) := by decide +kernel
theorem dX7_canBook_158 : decode cX7_canBook 158 = .ok (.iload 5, 2) := by decide +kernel
theorem dX7_canBook_160 : decode cX7_canBook 160 = .ok (.iaload, 1) := by decide +kernel
theorem dX7_canBook_161 : decode cX7_canBook 161 = .ok (.iconst 0, 1) := by decide +kernel
theorem dX7_canBook_162 : decode cX7_canBook 162 = .ok (.iload_n 2, 1) := by decide +kernel
theorem dX7_canBook_163 : decode cX7_canBook 163 = .ok (.invokestatic 99, 3) := by decide +kernel
theorem dX7_canBook_166 : decode cX7_canBook 166 = .ok (.ifCond .eq 29, 3) := by decide +kernel
theorem dX7_canBook_169 : decode cX7_canBook 169 = .ok (.iload 8, 2) := by decide +kernel
theorem dX7_canBook_171 : decode cX7_canBook 171 = .ok (.ifCond .eq 20, 3) := by decide +kernel
theorem dX7_canBook_174 : decode cX7_canBook 174 = .ok (.aload_n 0, 1) := by decide +kernel
theorem dX7_canBook_175 : decode cX7_canBook 175 = .ok (.getfield 35, 3) := by decide +kernel
theorem dX7_canBook_178 : decode cX7_canBook 178 = .ok (.iload 5, 2) := by decide +kernel
theorem dX7_canBook_180 : decode cX7_canBook 180 = .ok (.iaload, 1) := by decide +kernel
theorem dX7_canBook_181 : decode cX7_canBook 181 = .ok (.iconst 0, 1) := by decide +kernel
theorem dX7_canBook_182 : decode cX7_canBook 182 = .ok (.iload_n 2, 1) := by decide +kernel
theorem dX7_canBook_183 : decode cX7_canBook 183 = .ok (.iconst 1, 1) := by decide +kernel
theorem dX7_canBook_184 : decode cX7_canBook 184 = .ok (.isub, 1) := by decide +kernel
theorem dX7_canBook_185 : decode cX7_canBook 185 = .ok (.invokestatic 99, 3) := by decide +kernel
theorem dX7_canBook_188 : decode cX7_canBook 188 = .ok (.ifCond .ne 7, 3) := by decide +kernel
theorem dX7_canBook_191 : decode cX7_canBook 191 = .ok (.iconst 1, 1) := by decide +kernel
theorem dX7_canBook_192 : decode cX7_canBook 192 = .ok (.goto 4, 3) := by decide +kernel
theorem dX7_canBook_195 : decode cX7_canBook 195 = .ok (.iconst 0, 1) := by decide +kernel
theorem dX7_canBook_196 : decode cX7_canBook 196 = .ok (.istore 4, 2) := by decide +kernel
theorem dX7_canBook_198 : decode cX7_canBook 198 = .ok (.iinc 5 1, 3) := by decide +kernel
theorem dX7_canBook_201 : decode cX7_canBook 201 = .ok (.goto (-162), 3) := by decide +kernel
theorem dX7_canBook_204 : decode cX7_canBook 204 = .ok (.iload 4, 2) := by decide +kernel
theorem dX7_canBook_206 : decode cX7_canBook 206 = .ok (.ireturn, 1) := by decide +kernel
theorem dX7_book_0 : decode cX7_book 0 = .ok (.aload_n 0, 1) := by decide +kernel
theorem dX7_book_1 : decode cX7_book 1 = .ok (.iload_n 1, 1) := by decide +kernel
theorem dX7_book_2 : decode cX7_book 2 = .ok (.iconst 0, 1) := by decide +kernel
theorem dX7_book_3 : decode cX7_book 3 = .ok (.iconst 1, 1) := by decide +kernel
theorem dX7_book_4 : decode cX7_book 4 = .ok (.invokestatic 99, 3) := by decide +kernel
theorem dX7_book_7 : decode cX7_book 7 = .ok (.ifCond .eq 11, 3) := by decide +kernel
theorem dX7_book_10 : decode cX7_book 10 = .ok (.aload_n 0, 1) := by decide +kernel
theorem dX7_book_11 : decode cX7_book 11 = .ok (.iload_n 3, 1) := by decide +kernel
theorem dX7_book_12 : decode cX7_book 12 = .ok (.invokevirtual 124, 3) := by decide +kernel
theorem dX7_book_15 : decode cX7_book 15 = .ok (.ifCond .ne 7, 3) := by decide +kernel
theorem dX7_book_18 : decode cX7_book 18 = .ok (.iconst 1, 1) := by decide +kernel
theorem dX7_book_19 : decode cX7_book 19 = .ok (.goto 40, 3) := by decide +kernel
theorem dX7_book_22 : decode cX7_book 22 = .ok (.iload_n 2, 1) := by decide +kernel
theorem dX7_book_23 : decode cX7_book 23 = .ok (.aload_n 0, 1) := by decide +kernel
theorem dX7_book_24 : decode cX7_book 24 = .ok (.getfield 172, 3) := by decide +kernel
theorem dX7_book_27 : decode cX7_book 27 = .ok (.aload_n 0, 1) := by decide +kernel
theorem dX7_book_28 : decode cX7_book 28 = .ok (.getfield 172, 3) := by decide +kernel
theorem dX7_book_31 : decode cX7_book 31 = .ok (.bipush 24, 2) := by decide +kernel
theorem dX7_book_33 : decode cX7_book 33 = .ok (.iadd, 1) := by decide +kernel
theorem dX7_book_34 : decode cX7_book 34 = .ok (.invokestatic 99, 3) := by decide +kernel
theorem dX7_book_37 : decode cX7_book 37 = .ok (.ifCond .ne 7, 3) := by decide +kernel
theorem dX7_book_40 : decode cX7_book 40 = .ok (.iconst 2, 1) := by decide +kernel
theorem dX7_book_41 : decode cX7_book 41 = .ok (.goto 18, 3) := by decide +kernel
theorem dX7_book_44 : decode cX7_book 44 = .ok (.aload_n 0, 1) := by decide +kernel
theorem dX7_book_45 : decode cX7_book 45 = .ok (.iload_n 1, 1) := by decide +kernel
theorem dX7_book_46 : decode cX7_book 46 = .ok (.iload_n 2, 1) := by decide +kernel
theorem dX7_book_47 : decode cX7_book 47 = .ok (.iload_n 3, 1) := by decide +kernel
theorem dX7_book_48 : decode cX7_book 48 = .ok (.invokevirtual 193, 3) := by decide +kernel
theorem dX7_book_51 : decode cX7_book 51 = .ok (.ifCond .eq 7, 3) := by decide +kernel
theorem dX7_book_54 : decode cX7_book 54 = .ok (.iconst 0, 1) := by decide +kernel
theorem dX7_book_55 : decode cX7_book 55 = .ok (.goto 4, 3) := by decide +kernel
theorem dX7_book_58 : decode cX7_book 58 = .ok (.iconst 3, 1) := by decide +kernel
theorem dX7_book_59 : decode cX7_book 59 = .ok (.putfield 95, 3) := by decide +kernel
theorem dX7_book_62 : decode cX7_book 62 = .ok (.aload_n 0, 1) := by decide +kernel
theorem dX7_book_63 : decode cX7_book 63 = .ok (.getfield 95, 3) := by decide +kernel
theorem dX7_book_66 : decode cX7_book 66 = .ok (.ifCond .le 5, 3) := by decide +kernel
theorem dX7_book_69 : decode cX7_book 69 = .ok (.iconst 0, 1) := by decide +kernel
theorem dX7_book_70 : decode cX7_book 70 = .ok (.ireturn, 1) := by decide +kernel
theorem dX7_book_71 : decode cX7_book 71 = .ok (.aload_n 0, 1) := by decide +kernel
theorem dX7_book_72 : decode cX7_book 72 = .ok (.getfield 35, 3) := by decide +kernel
theorem dX7_book_75 : decode cX7_book 75 = .ok (.iload_n 3, 1) := by decide +kernel
theorem dX7_book_76 : decode cX7_book 76 = .ok (.iload_n 2, 1) := by decide +kernel
theorem dX7_book_77 : decode cX7_book 77 = .ok (.iastore, 1) := by decide +kernel
theorem dX7_book_78 : decode cX7_book 78 = .ok (.aload_n 0, 1) := by decide +kernel
theorem dX7_book_79 : decode cX7_book 79 = .ok (.getfield 38, 3) := by decide +kernel
theorem dX7_book_82 : decode cX7_book 82 = .ok (.iload_n 3, 1) := by decide +kernel
theorem dX7_book_83 : decode cX7_book 83 = .ok (.iload_n 1, 1) := by decide +kernel
theorem dX7_book_84 : decode cX7_book 84 = .ok (.iastore, 1) := by decide +kernel
theorem dX7_book_85 : decode cX7_book 85 = .ok (.aload_n 0, 1) := by decide +kernel
theorem dX7_book_86 : decode cX7_book 86 = .ok (.iload_n 1, 1) := by decide +kernel
theorem dX7_book_87 : decode cX7_book 87 = .ok (.iload_n 2, 1) := by decide +kernel
theorem dX7_book_88 : decode cX7_book 88 = .ok (.invokevirtual 190, 3) := by decide +kernel
theorem dX7_book_91 : decode cX7_book 91 = .ok (.ireturn, 1) := by decide +kernel
theorem dX7_unbook_0 : decode cX7_unbook 0 = .ok (.aload_n 0, 1) := by decide +kernel
theorem dX7_unbook_1 : decode cX7_unbook 1 = .ok (.aload_n 0, 1) := by decide +kernel
theorem dX7_unbook_2 : decode cX7_unbook 2 = .ok (.iload_n 1, 1) := by decide +kernel
theorem dX7_unbook_3 : decode cX7_unbook 3 = .ok (.invokevirtual 124, 3) := by decide +kernel
theorem dX7_unbook_6 : decode cX7_unbook 6 = .ok (.ifCond .ne 7, 3) := by decide +kernel
theorem dX7_unbook_9 : decode cX7_unbook 9 = .ok (.iconst 1, 1) := by decide +kernel
theorem dX7_unbook_10 : decode cX7_unbook 10 = .ok (.goto 18, 3) := by decide +kernel
theorem dX7_unbook_13 : decode cX7_unbook 13 = .ok (.aload_n 0, 1) := by decide +kernel
theorem dX7_unbook_14 : decode cX7_unbook 14 = .ok (.getfield 35, 3) := by decide +kernel
theorem dX7_unbook_17 : decode cX7_unbook 17 = .ok (.iload_n 1, 1) := by decide +kernel
theorem dX7_unbook_18 : decode cX7_unbook 18 = .ok (.iaload, 1) := by decide +kernel
theorem dX7_unbook_19 : decode cX7_unbook 19 = .ok (.iconst (-1), 1) := by decide +kernel
theorem dX7_unbook_20 : decode cX7_unbook 20 = .ok (.if_icmp .ne 7, 3) := by decide +kernel
theorem dX7_unbook_23 : decode cX7_unbook 23 = .ok (.iconst 2, 1) := by decide +kernel
theorem dX7_unbook_24 : decode cX7_unbook 24 = .ok (.goto 4, 3) := by decide +kernel
theorem dX7_unbook_27 : decode cX7_unbook 27 = .ok (.iconst 0, 1) := by decide +kernel
theorem dX7_unbook_28 : decode cX7_unbook 28 = .ok (.putfield 95, 3) := by decide +kernel
theorem dX7_unbook_31 : decode cX7_unbook 31 = .ok (.aload_n 0, 1) := by decide +kernel
theorem dX7_unbook_32 : decode cX7_unbook 32 = .ok (.getfield 95, 3) := by decide +kernel
theorem dX7_unbook_35 : decode cX7_unbook 35 = .ok (.ifCond .le 5, 3) := by decide +kernel
theorem dX7_unbook_38 : decode cX7_unbook 38 = .ok (.iconst 0, 1) := by decide +kernel
theorem dX7_unbook_39 : decode cX7_unbook 39 = .ok (.ireturn, 1) := by decide +kernel
theorem dX7_unbook_40 : decode cX7_unbook 40 = .ok (.aload_n 0, 1) := by decide +kernel
theorem dX7_unbook_41 : decode cX7_unbook 41 = .ok (.getfield 35, 3) := by decide +kernel
theorem dX7_unbook_44 : decode cX7_unbook 44 = .ok (.iload_n 1, 1) := by decide +kernel
theorem dX7_unbook_45 : decode cX7_unbook 45 = .ok (.iaload, 1) := by decide +kernel
theorem dX7_unbook_46 : decode cX7_unbook 46 = .ok (.istore_n 2, 1) := by decide +kernel
theorem dX7_unbook_47 : decode cX7_unbook 47 = .ok (.aload_n 0, 1) := by decide +kernel
theorem dX7_unbook_48 : decode cX7_unbook 48 = .ok (.getfield 35, 3) := by decide +kernel
theorem dX7_unbook_51 : decode cX7_unbook 51 = .ok (.iload_n 1, 1) := by decide +kernel
theorem dX7_unbook_52 : decode cX7_unbook 52 = .ok (.iconst (-1), 1) := by decide +kernel
theorem dX7_unbook_53 : decode cX7_unbook 53 = .ok (.iastore, 1) := by decide +kernel
theorem dX7_unbook_54 : decode cX7_unbook 54 = .ok (.iload_n 2, 1) := by decide +kernel
theorem dX7_unbook_55 : decode cX7_unbook 55 = .ok (.ireturn, 1) := by decide +kernel
theorem dX7_advance_0 : decode cX7_advance 0 = .ok (.aload_n 0, 1) := by decide +kernel
theorem dX7_advance_1 : decode cX7_advance 1 = .ok (.iload_n 1, 1) := by decide +kernel
theorem dX7_advance_2 : decode cX7_advance 2 = .ok (.iconst 1, 1) := by decide +kernel
theorem dX7_advance_3 : decode cX7_advance 3 = .ok (.bipush 48, 2) := by decide +kernel
theorem dX7_advance_5 : decode cX7_advance 5 = .ok (.invokestatic 99, 3) := by decide +kernel
theorem dX7_advance_8 : decode cX7_advance 8 = .ok (.ifCond .ne 7, 3) := by decide +kernel
theorem dX7_advance_11 : decode cX7_advance 11 = .ok (.iconst 1, 1) := by decide +kernel
theorem dX7_advance_12 : decode cX7_advance 12 = .ok (.goto 20, 3) := by decide +kernel
theorem dX7_advance_15 : decode cX7_advance 15 = .ok (.aload_n 0, 1) := by decide +kernel
theorem dX7_advance_16 : decode cX7_advance 16 = .ok (.getfield 172, 3) := by decide +kernel
theorem dX7_advance_19 : decode cX7_advance 19 = .ok (.iload_n 1, 1) := by decide +kernel
theorem dX7_advance_20 : decode cX7_advance 20 = .ok (.iadd, 1) := by decide +kernel
theorem dX7_advance_21 : decode cX7_advance 21 = .ok (.sipush 5000, 3) := by decide +kernel
theorem dX7_advance_24 : decode cX7_advance 24 = .ok (.if_icmp .le 7, 3) := by decide +kernel
theorem dX7_advance_27 : decode cX7_advance 27 = .ok (.iconst 2, 1) := by decide +kernel
theorem dX7_advance_28 : decode cX7_advance 28 = .ok (.goto 4, 3) := by decide +kernel
theorem dX7_advance_31 : decode cX7_advance 31 = .ok (.iconst 0, 1) := by decide +kernel
theorem dX7_advance_32 : decode cX7_advance 32 = .ok (.putfield 95, 3) := by decide +kernel
theorem dX7_advance_35 : decode cX7_advance 35 = .ok (.aload_n 0, 1) := by decide +kernel
theorem dX7_advance_36 : decode cX7_advance 36 = .ok (.getfield 95, 3) := by decide +kernel
theorem dX7_advance_39 : decode cX7_advance 39 = .ok (.ifCond .le 5, 3) := by decide +kernel
theorem dX7_advance_42 : decode cX7_advance 42 = .ok (.iconst 0, 1) := by decide +kernel
theorem dX7_advance_43 : decode cX7_advance 43 = .ok (.ireturn, 1) := by decide +kernel
theorem dX7_advance_44 : decode cX7_advance 44 = .ok (.aload_n 0, 1) := by decide +kernel
theorem dX7_advance_45 : decode cX7_advance 45 = .ok (.dup, 1) := by decide +kernel
theorem dX7_advance_46 : decode cX7_advance 46 = .ok (.getfield 172, 3) := by decide +kernel
theorem dX7_advance_49 : decode cX7_advance 49 = .ok (.iload_n 1, 1) := by decide +kernel
theorem dX7_advance_50 : decode cX7_advance 50 = .ok (.iadd, 1) := by decide +kernel
theorem dX7_advance_51 : decode cX7_advance 51 = .ok (.putfield 172, 3) := by decide +kernel
theorem dX7_advance_54 : decode cX7_advance 54 = .ok (.iconst 0, 1) := by decide +kernel
theorem dX7_advance_55 : decode cX7_advance 55 = .ok (.istore_n 2, 1) := by decide +kernel
theorem dX7_advance_56 : decode cX7_advance 56 = .ok (.iconst 0, 1) := by decide +kernel
theorem dX7_advance_57 : decode cX7_advance 57 = .ok (.istore_n 3, 1) := by decide +kernel
theorem dX7_advance_58 : decode cX7_advance 58 = .ok (.iload_n 3, 1) := by decide +kernel
theorem dX7_advance_59 : decode cX7_advance 59 = .ok (.aload_n 0, 1) := by decide +kernel
theorem dX7_advance_60 : decode cX7_advance 60 = .ok (.getfield 106, 3) := by decide +kernel
theorem dX7_advance_63 : decode cX7_advance 63 = .ok (.if_icmp .ge 42, 3) := by decide +kernel
theorem dX7_advance_66 : decode cX7_advance 66 = .ok (.aload_n 0, 1) := by decide +kernel
theorem dX7_advance_67 : decode cX7_advance 67 = .ok (.getfield 35, 3) := by decide +kernel
theorem dX7_advance_70 : decode cX7_advance 70 = .ok (.iload_n 3, 1) := by decide +kernel
theorem dX7_advance_71 : decode cX7_advance 71 = .ok (.iaload, 1) := by decide +kernel
theorem dX7_advance_72 : decode cX7_advance 72 = .ok (.iconst (-1), 1) := by decide +kernel
theorem dX7_advance_73 : decode cX7_advance 73 = .ok (.if_icmp .eq 26, 3) := by decide +kernel
theorem dX7_advance_76 : decode cX7_advance 76 = .ok (.aload_n 0, 1) := by decide +kernel
theorem dX7_advance_77 : decode cX7_advance 77 = .ok (.getfield 35, 3) := by decide +kernel
theorem dX7_advance_80 : decode cX7_advance 80 = .ok (.iload_n 3, 1) := by decide +kernel
theorem dX7_advance_81 : decode cX7_advance 81 = .ok (.iaload, 1) := by decide +kernel
theorem dX7_advance_82 : decode cX7_advance 82 = .ok (.aload_n 0, 1) := by decide +kernel
theorem dX7_advance_83 : decode cX7_advance 83 = .ok (.getfield 172, 3) := by decide +kernel
theorem dX7_advance_86 : decode cX7_advance 86 = .ok (.if_icmp .ge 13, 3) := by decide +kernel
theorem dX7_advance_89 : decode cX7_advance 89 = .ok (.aload_n 0, 1) := by decide +kernel
theorem dX7_advance_90 : decode cX7_advance 90 = .ok (.getfield 35, 3) := by decide +kernel
theorem dX7_advance_93 : decode cX7_advance 93 = .ok (.iload_n 3, 1) := by decide +kernel
theorem dX7_advance_94 : decode cX7_advance 94 = .ok (.iconst (-1), 1) := by decide +kernel
theorem dX7_advance_95 : decode cX7_advance 95 = .ok (.iastore, 1) := by decide +kernel
theorem dX7_advance_96 : decode cX7_advance 96 = .ok (.iinc 2 1, 3) := by decide +kernel
theorem dX7_advance_99 : decode cX7_advance 99 = .ok (.iinc 3 1, 3) := by decide +kernel
theorem dX7_advance_102 : decode cX7_advance 102 = .ok (.goto (-44), 3) := by decide +kernel
theorem dX7_advance_105 : decode cX7_advance 105 = .ok (.iload_n 2, 1) := by decide +kernel
theorem dX7_advance_106 : decode cX7_advance 106 = .ok (.ireturn, 1) := by decide +kernel
theorem dX7_hour_0 : decode cX7_hour 0 = .ok (.aload_n 0, 1) := by decide +kernel
theorem dX7_hour_1 : decode cX7_hour 1 = .ok (.iconst 0, 1) := by decide +kernel
theorem dX7_hour_2 : decode cX7_hour 2 = .ok (.putfield 95, 3) := by decide +kernel
theorem dX7_hour_5 : decode cX7_hour 5 = .ok (.aload_n 0, 1) := by decide +kernel
theorem dX7_hour_6 : decode cX7_hour 6 = .ok (.getfield 172, 3) := by decide +kernel
theorem dX7_hour_9 : decode cX7_hour 9 = .ok (.ireturn, 1) := by decide +kernel
theorem dX7_boxes_0 : decode cX7_boxes 0 = .ok (.aload_n 0, 1) := by decide +kernel
theorem dX7_boxes_1 : decode cX7_boxes 1 = .ok (.iconst 0, 1) := by decide +kernel
theorem dX7_boxes_2 : decode cX7_boxes 2 = .ok (.putfield 95, 3) := by decide +kernel
theorem dX7_boxes_5 : decode cX7_boxes 5 = .ok (.aload_n 0, 1) := by decide +kernel
theorem dX7_boxes_6 : decode cX7_boxes 6 = .ok (.getfield 106, 3) := by decide +kernel
theorem dX7_boxes_9 : decode cX7_boxes 9 = .ok (.ireturn, 1) := by decide +kernel
theorem dX7_asksBox_0 : decode cX7_asksBox 0 = .ok (.aload_n 0, 1) := by decide +kernel
theorem dX7_asksBox_1 : decode cX7_asksBox 1 = .ok (.aload_n 0, 1) := by decide +kernel
theorem dX7_asksBox_2 : decode cX7_asksBox 2 = .ok (.iload_n 1, 1) := by decide +kernel
theorem dX7_asksBox_3 : decode cX7_asksBox 3 = .ok (.invokevirtual 124, 3) := by decide +kernel
theorem dX7_asksBox_6 : decode cX7_asksBox 6 = .ok (.ifCond .eq 7, 3) := by decide +kernel
theorem dX7_asksBox_9 : decode cX7_asksBox 9 = .ok (.iconst 0, 1) := by decide +kernel
theorem dX7_asksBox_10 : decode cX7_asksBox 10 = .ok (.goto 4, 3) := by decide +kernel
theorem dX7_asksBox_13 : decode cX7_asksBox 13 = .ok (.iconst 1, 1) := by decide +kernel
theorem dX7_asksBox_14 : decode cX7_asksBox 14 = .ok (.putfield 95, 3) := by decide +kernel
theorem dX7_asksBox_17 : decode cX7_asksBox 17 = .ok (.aload_n 0, 1) := by decide +kernel
theorem dX7_asksBox_18 : decode cX7_asksBox 18 = .ok (.getfield 95, 3) := by decide +kernel
theorem dX7_asksBox_21 : decode cX7_asksBox 21 = .ok (.ifCond .ne 7, 3) := by decide +kernel
theorem dX7_asksBox_24 : decode cX7_asksBox 24 = .ok (.iconst 1, 1) := by decide +kernel
theorem dX7_asksBox_25 : decode cX7_asksBox 25 = .ok (.goto 4, 3) := by decide +kernel
theorem dX7_asksBox_28 : decode cX7_asksBox 28 = .ok (.iconst 0, 1) := by decide +kernel
theorem dX7_asksBox_29 : decode cX7_asksBox 29 = .ok (.ireturn, 1) := by decide +kernel
theorem dX7_whereIs_0 : decode cX7_whereIs 0 = .ok (.aload_n 0, 1) := by decide +kernel
theorem dX7_whereIs_1 : decode cX7_whereIs 1 = .ok (.iload_n 1, 1) := by decide +kernel
theorem dX7_whereIs_2 : decode cX7_whereIs 2 = .ok (.invokevirtual 196, 3) := by decide +kernel
theorem dX7_whereIs_5 : decode cX7_whereIs 5 = .ok (.ifCond .ne 5, 3) := by decide +kernel
theorem dX7_whereIs_8 : decode cX7_whereIs 8 = .ok (.iconst 0, 1) := by decide +kernel
theorem dX7_whereIs_9 : decode cX7_whereIs 9 = .ok (.ireturn, 1) := by decide +kernel
theorem dX7_whereIs_10 : decode cX7_whereIs 10 = .ok (.aload_n 0, 1) := by decide +kernel
theorem dX7_whereIs_11 : decode cX7_whereIs 11 = .ok (.getfield 26, 3) := by decide +kernel
theorem dX7_whereIs_14 : decode cX7_whereIs 14 = .ok (.iload_n 1, 1) := by decide +kernel
theorem dX7_whereIs_15 : decode cX7_whereIs 15 = .ok (.iaload, 1) := by decide +kernel
theorem dX7_whereIs_16 : decode cX7_whereIs 16 = .ok (.iconst 1, 1) := by decide +kernel
theorem dX7_whereIs_17 : decode cX7_whereIs 17 = .ok (.if_icmp .gt 12, 3) := by decide +kernel
theorem dX7_whereIs_20 : decode cX7_whereIs 20 = .ok (.aload_n 0, 1) := by decide +kernel
theorem dX7_whereIs_21 : decode cX7_whereIs 21 = .ok (.getfield 23, 3) := by decide +kernel
theorem dX7_whereIs_24 : decode cX7_whereIs 24 = .ok (.iload_n 1, 1) := by decide +kernel
theorem dX7_whereIs_25 : decode cX7_whereIs 25 = .ok (.iaload, 1) := by decide +kernel
theorem dX7_whereIs_26 : decode cX7_whereIs 26 = .ok (.goto 38, 3) := by decide +kernel
theorem dX7_whereIs_29 : decode cX7_whereIs 29 = .ok (.aload_n 0, 1) := by decide +kernel
theorem dX7_whereIs_30 : decode cX7_whereIs 30 = .ok (.getfield 26, 3) := by decide +kernel
theorem dX7_whereIs_33 : decode cX7_whereIs 33 = .ok (.iload_n 1, 1) := by decide +kernel
theorem dX7_whereIs_34 : decode cX7_whereIs 34 = .ok (.iaload, 1) := by decide +kernel
theorem dX7_whereIs_35 : decode cX7_whereIs 35 = .ok (.iconst 3, 1) := by decide +kernel
theorem dX7_whereIs_36 : decode cX7_whereIs 36 = .ok (.if_icmp .ne 22, 3) := by decide +kernel
theorem dX7_whereIs_39 : decode cX7_whereIs 39 = .ok (.bipush 10, 2) := by decide +kernel
theorem dX7_whereIs_41 : decode cX7_whereIs 41 = .ok (.aload_n 0, 1) := by decide +kernel
theorem dX7_whereIs_42 : decode cX7_whereIs 42 = .ok (.getfield 29, 3) := by decide +kernel
theorem dX7_whereIs_45 : decode cX7_whereIs 45 = .ok (.iload_n 1, 1) := by decide +kernel
theorem dX7_whereIs_46 : decode cX7_whereIs 46 = .ok (.iaload, 1) := by decide +kernel
theorem dX7_whereIs_47 : decode cX7_whereIs 47 = .ok (.imul, 1) := by decide +kernel
theorem dX7_whereIs_48 : decode cX7_whereIs 48 = .ok (.aload_n 0, 1) := by decide +kernel
theorem dX7_whereIs_49 : decode cX7_whereIs 49 = .ok (.getfield 44, 3) := by decide +kernel
theorem dX7_whereIs_52 : decode cX7_whereIs 52 = .ok (.iload_n 1, 1) := by decide +kernel
theorem dX7_whereIs_53 : decode cX7_whereIs 53 = .ok (.iaload, 1) := by decide +kernel
theorem dX7_whereIs_54 : decode cX7_whereIs 54 = .ok (.iadd, 1) := by decide +kernel
theorem dX7_whereIs_55 : decode cX7_whereIs 55 = .ok (.goto 9, 3) := by decide +kernel
theorem dX7_whereIs_58 : decode cX7_whereIs 58 = .ok (.aload_n 0, 1) := by decide +kernel
theorem dX7_whereIs_59 : decode cX7_whereIs 59 = .ok (.getfield 29, 3) := by decide +kernel
theorem dX7_whereIs_62 : decode cX7_whereIs 62 = .ok (.iload_n 1, 1) := by decide +kernel
theorem dX7_whereIs_63 : decode cX7_whereIs 63 = .ok (.iaload, 1) := by decide +kernel
theorem dX7_whereIs_64 : decode cX7_whereIs 64 = .ok (.istore_n 2, 1) := by decide +kernel
theorem dX7_whereIs_65 : decode cX7_whereIs 65 = .ok (.bipush 100, 2) := by decide +kernel
theorem dX7_whereIs_67 : decode cX7_whereIs 67 = .ok (.aload_n 0, 1) := by decide +kernel
theorem dX7_whereIs_68 : decode cX7_whereIs 68 = .ok (.getfield 26, 3) := by decide +kernel
theorem dX7_whereIs_71 : decode cX7_whereIs 71 = .ok (.iload_n 1, 1) := by decide +kernel
theorem dX7_whereIs_72 : decode cX7_whereIs 72 = .ok (.iaload, 1) := by decide +kernel
theorem dX7_whereIs_73 : decode cX7_whereIs 73 = .ok (.imul, 1) := by decide +kernel
theorem dX7_whereIs_74 : decode cX7_whereIs 74 = .ok (.iload_n 2, 1) := by decide +kernel
theorem dX7_whereIs_75 : decode cX7_whereIs 75 = .ok (.iadd, 1) := by decide +kernel
theorem dX7_whereIs_76 : decode cX7_whereIs 76 = .ok (.ireturn, 1) := by decide +kernel
theorem dX7_whereByLog_0 : decode cX7_whereByLog 0 = .ok (.aload_n 0, 1) := by decide +kernel
theorem dX7_whereByLog_1 : decode cX7_whereByLog 1 = .ok (.iload_n 1, 1) := by decide +kernel
theorem dX7_whereByLog_2 : decode cX7_whereByLog 2 = .ok (.invokevirtual 196, 3) := by decide +kernel
theorem dX7_whereByLog_5 : decode cX7_whereByLog 5 = .ok (.ifCond .ne 5, 3) := by decide +kernel
theorem dX7_whereByLog_8 : decode cX7_whereByLog 8 = .ok (.iconst 0, 1) := by decide +kernel
theorem dX7_whereByLog_9 : decode cX7_whereByLog 9 = .ok (.ireturn, 1) := by decide +kernel
theorem dX7_whereByLog_10 : decode cX7_whereByLog 10 = .ok (.iconst (-1), 1) := by decide +kernel
theorem dX7_whereByLog_11 : decode cX7_whereByLog 11 = .ok (.istore_n 2, 1) := by decide +kernel
theorem dX7_whereByLog_12 : decode cX7_whereByLog 12 = .ok (.iconst 0, 1) := by decide +kernel
theorem dX7_whereByLog_13 : decode cX7_whereByLog 13 = .ok (.istore_n 3, 1) := by decide +kernel
theorem dX7_whereByLog_14 : decode cX7_whereByLog 14 = .ok (.iload_n 3, 1) := by decide +kernel
theorem dX7_whereByLog_15 : decode cX7_whereByLog 15 = .ok (.aload_n 0, 1) := by decide +kernel
theorem dX7_whereByLog_16 : decode cX7_whereByLog 16 = .ok (.getfield 143, 3) := by decide +kernel
theorem dX7_whereByLog_19 : decode cX7_whereByLog 19 = .ok (.if_icmp .ge 72, 3) := by decide +kernel
theorem dX7_whereByLog_22 : decode cX7_whereByLog 22 = .ok (.aload_n 0, 1) := by decide +kernel
theorem dX7_whereByLog_23 : decode cX7_whereByLog 23 = .ok (.getfield 56, 3) := by decide +kernel
theorem dX7_whereByLog_26 : decode cX7_whereByLog 26 = .ok (.aload_n 0, 1) := by decide +kernel
theorem dX7_whereByLog_27 : decode cX7_whereByLog 27 = .ok (.getfield 74, 3) := by decide +kernel
theorem dX7_whereByLog_30 : decode cX7_whereByLog 30 = .ok (.iload_n 3, 1) := by decide +kernel
theorem dX7_whereByLog_31 : decode cX7_whereByLog 31 = .ok (.iaload, 1) := by decide +kernel
theorem dX7_whereByLog_32 : decode cX7_whereByLog 32 = .ok (.iaload, 1) := by decide +kernel
theorem dX7_whereByLog_33 : decode cX7_whereByLog 33 = .ok (.iload_n 1, 1) := by decide +kernel
theorem dX7_whereByLog_34 : decode cX7_whereByLog 34 = .ok (.if_icmp .ne 7, 3) := by decide +kernel
theorem dX7_whereByLog_37 : decode cX7_whereByLog 37 = .ok (.iconst 1, 1) := by decide +kernel
theorem dX7_whereByLog_38 : decode cX7_whereByLog 38 = .ok (.goto 4, 3) := by decide +kernel
theorem dX7_whereByLog_41 : decode cX7_whereByLog 41 = .ok (.iconst 0, 1) := by decide +kernel
theorem dX7_whereByLog_42 : decode cX7_whereByLog 42 = .ok (.istore 4, 2) := by decide +kernel
theorem dX7_whereByLog_44 : decode cX7_whereByLog 44 = .ok (.iload 4, 2) := by decide +kernel
theorem dX7_whereByLog_46 : decode cX7_whereByLog 46 = .ok (.ifCond .eq 37, 3) := by decide +kernel
theorem dX7_whereByLog_49 : decode cX7_whereByLog 49 = .ok (.iload_n 2, 1) := by decide +kernel
theorem dX7_whereByLog_50 : decode cX7_whereByLog 50 = .ok (.iconst (-1), 1) := by decide +kernel
theorem dX7_whereByLog_51 : decode cX7_whereByLog 51 = .ok (.if_icmp .eq 23, 3) := by decide +kernel
theorem dX7_whereByLog_54 : decode cX7_whereByLog 54 = .ok (.aload_n 0, 1) := by decide +kernel
theorem dX7_whereByLog_55 : decode cX7_whereByLog 55 = .ok (.getfield 65, 3) := by decide +kernel
theorem dX7_whereByLog_58 : decode cX7_whereByLog 58 = .ok (.aload_n 0, 1) := by decide +kernel
theorem dX7_whereByLog_59 : decode cX7_whereByLog 59 = .ok (.getfield 74, 3) := by decide +kernel
theorem dX7_whereByLog_62 : decode cX7_whereByLog 62 = .ok (.iload_n 3, 1) := by decide +kernel
theorem dX7_whereByLog_63 : decode cX7_whereByLog 63 = .ok (.iaload, 1) := by decide +kernel
theorem dX7_whereByLog_64 : decode cX7_whereByLog 64 = .ok (.iaload, 1) := by decide +kernel
theorem dX7_whereByLog_65 : decode cX7_whereByLog 65 = .ok (.aload_n 0, 1) := by decide +kernel
theorem dX7_whereByLog_66 : decode cX7_whereByLog 66 = .ok (.getfield 65, 3) := by decide +kernel
theorem dX7_whereByLog_69 : decode cX7_whereByLog 69 = .ok (.iload_n 2, 1) := by decide +kernel
theorem dX7_whereByLog_70 : decode cX7_whereByLog 70 = .ok (.iaload, 1) := by decide +kernel
theorem dX7_whereByLog_71 : decode cX7_whereByLog 71 = .ok (.if_icmp .le 12, 3) := by decide +kernel
theorem dX7_whereByLog_74 : decode cX7_whereByLog 74 = .ok (.aload_n 0, 1) := by decide +kernel
theorem dX7_whereByLog_75 : decode cX7_whereByLog 75 = .ok (.getfield 74, 3) := by decide +kernel
theorem dX7_whereByLog_78 : decode cX7_whereByLog 78 = .ok (.iload_n 3, 1) := by decide +kernel
theorem dX7_whereByLog_79 : decode cX7_whereByLog 79 = .ok (.iaload, 1) := by decide +kernel
theorem dX7_whereByLog_80 : decode cX7_whereByLog 80 = .ok (.goto 4, 3) := by decide +kernel
theorem dX7_whereByLog_83 : decode cX7_whereByLog 83 = .ok (.iload_n 2, 1) := by decide +kernel
theorem dX7_whereByLog_84 : decode cX7_whereByLog 84 = .ok (.istore_n 2, 1) := by decide +kernel
theorem dX7_whereByLog_85 : decode cX7_whereByLog 85 = .ok (.iinc 3 1, 3) := by decide +kernel
theorem dX7_whereByLog_88 : decode cX7_whereByLog 88 = .ok (.goto (-74), 3) := by decide +kernel
theorem dX7_whereByLog_91 : decode cX7_whereByLog 91 = .ok (.iload_n 2, 1) := by decide +kernel
theorem dX7_whereByLog_92 : decode cX7_whereByLog 92 = .ok (.iconst (-1), 1) := by decide +kernel
theorem dX7_whereByLog_93 : decode cX7_whereByLog 93 = .ok (.if_icmp .ne 7, 3) := by decide +kernel
theorem dX7_whereByLog_96 : decode cX7_whereByLog 96 = .ok (.iconst (-1), 1) := by decide +kernel
theorem dX7_whereByLog_97 : decode cX7_whereByLog 97 = .ok (.goto 9, 3) := by decide +kernel
theorem dX7_whereByLog_100 : decode cX7_whereByLog 100 = .ok (.aload_n 0, 1) := by decide +kernel
theorem dX7_whereByLog_101 : decode cX7_whereByLog 101 = .ok (.getfield 53, 3) := by decide +kernel
theorem dX7_whereByLog_104 : decode cX7_whereByLog 104 = .ok (.iload_n 2, 1) := by decide +kernel
theorem dX7_whereByLog_105 : decode cX7_whereByLog 105 = .ok (.iaload, 1) := by decide +kernel
theorem dX7_whereByLog_106 : decode cX7_whereByLog 106 = .ok (.istore_n 3, 1) := by decide +kernel
theorem dX7_whereByLog_107 : decode cX7_whereByLog 107 = .ok (.iload_n 3, 1) := by decide +kernel
theorem dX7_whereByLog_108 : decode cX7_whereByLog 108 = .ok (.iconst (-1), 1) := by decide +kernel
theorem dX7_whereByLog_109 : decode cX7_whereByLog 109 = .ok (.if_icmp .ne 12, 3) := by decide +kernel
theorem dX7_whereByLog_112 : decode cX7_whereByLog 112 = .ok (.aload_n 0, 1) := by decide +kernel
theorem dX7_whereByLog_113 : decode cX7_whereByLog 113 = .ok (.getfield 23, 3) := by decide +kernel
theorem dX7_whereByLog_116 : decode cX7_whereByLog 116 = .ok (.iload_n 1, 1) := by decide +kernel
theorem dX7_whereByLog_117 : decode cX7_whereByLog 117 = .ok (.iaload, 1) := by decide +kernel
theorem dX7_whereByLog_118 : decode cX7_whereByLog 118 = .ok (.goto 50, 3) := by decide +kernel
theorem dX7_whereByLog_121 : decode cX7_whereByLog 121 = .ok (.iload_n 3, 1) := by decide +kernel
theorem dX7_whereByLog_122 : decode cX7_whereByLog 122 = .ok (.ifCond .ne 15, 3) := by decide +kernel
theorem dX7_whereByLog_125 : decode cX7_whereByLog 125 = .ok (.bipush 100, 2) := by decide +kernel
theorem dX7_whereByLog_127 : decode cX7_whereByLog 127 = .ok (.aload_n 0, 1) := by decide +kernel
theorem dX7_whereByLog_128 : decode cX7_whereByLog 128 = .ok (.getfield 23, 3) := by decide +kernel
theorem dX7_whereByLog_131 : decode cX7_whereByLog 131 = .ok (.iload_n 1, 1) := by decide +kernel
theorem dX7_whereByLog_132 : decode cX7_whereByLog 132 = .ok (.iaload, 1) := by decide +kernel
theorem dX7_whereByLog_133 : decode cX7_whereByLog 133 = .ok (.iadd, 1) := by decide +kernel
theorem dX7_whereByLog_134 : decode cX7_whereByLog 134 = .ok (.goto 34, 3) := by decide +kernel
theorem dX7_whereByLog_137 : decode cX7_whereByLog 137 = .ok (.iload_n 3, 1) := by decide +kernel
theorem dX7_whereByLog_138 : decode cX7_whereByLog 138 = .ok (.iconst 1, 1) := by decide +kernel
theorem dX7_whereByLog_139 : decode cX7_whereByLog 139 = .ok (.if_icmp .ne 19, 3) := by decide +kernel
theorem dX7_whereByLog_142 : decode cX7_whereByLog 142 = .ok (.sipush 300, 3) := by decide +kernel
theorem dX7_whereByLog_145 : decode cX7_whereByLog 145 = .ok (.bipush 10, 2) := by decide +kernel
theorem dX7_whereByLog_147 : decode cX7_whereByLog 147 = .ok (.aload_n 0, 1) := by decide +kernel
theorem dX7_whereByLog_148 : decode cX7_whereByLog 148 = .ok (.getfield 59, 3) := by decide +kernel
theorem dX7_whereByLog_151 : decode cX7_whereByLog 151 = .ok (.iload_n 2, 1) := by decide +kernel
theorem dX7_whereByLog_152 : decode cX7_whereByLog 152 = .ok (.iaload, 1) := by decide +kernel
theorem dX7_whereByLog_153 : decode cX7_whereByLog 153 = .ok (.imul, 1) := by decide +kernel
theorem dX7_whereByLog_154 : decode cX7_whereByLog 154 = .ok (.iadd, 1) := by decide +kernel
theorem dX7_whereByLog_155 : decode cX7_whereByLog 155 = .ok (.goto 13, 3) := by decide +kernel
theorem dX7_whereByLog_158 : decode cX7_whereByLog 158 = .ok (.sipush 400, 3) := by decide +kernel
theorem dX7_whereByLog_161 : decode cX7_whereByLog 161 = .ok (.aload_n 0, 1) := by decide +kernel
theorem dX7_whereByLog_162 : decode cX7_whereByLog 162 = .ok (.getfield 59, 3) := by decide +kernel
theorem dX7_whereByLog_165 : decode cX7_whereByLog 165 = .ok (.iload_n 2, 1) := by decide +kernel
theorem dX7_whereByLog_166 : decode cX7_whereByLog 166 = .ok (.iaload, 1) := by decide +kernel
theorem dX7_whereByLog_167 : decode cX7_whereByLog 167 = .ok (.iadd, 1) := by decide +kernel
theorem dX7_whereByLog_168 : decode cX7_whereByLog 168 = .ok (.ireturn, 1) := by decide +kernel
theorem dX7_liftedBy_0 : decode cX7_liftedBy 0 = .ok (.aload_n 0, 1) := by decide +kernel
theorem dX7_liftedBy_1 : decode cX7_liftedBy 1 = .ok (.iload_n 1, 1) := by decide +kernel
theorem dX7_liftedBy_2 : decode cX7_liftedBy 2 = .ok (.invokevirtual 196, 3) := by decide +kernel
theorem dX7_liftedBy_5 : decode cX7_liftedBy 5 = .ok (.ifCond .eq 12, 3) := by decide +kernel
theorem dX7_liftedBy_8 : decode cX7_liftedBy 8 = .ok (.aload_n 0, 1) := by decide +kernel
theorem dX7_liftedBy_9 : decode cX7_liftedBy 9 = .ok (.getfield 32, 3) := by decide +kernel
theorem dX7_liftedBy_12 : decode cX7_liftedBy 12 = .ok (.iload_n 1, 1) := by decide +kernel
theorem dX7_liftedBy_13 : decode cX7_liftedBy 13 = .ok (.iaload, 1) := by decide +kernel
theorem dX7_liftedBy_14 : decode cX7_liftedBy 14 = .ok (.goto 4, 3) := by decide +kernel
theorem dX7_liftedBy_17 : decode cX7_liftedBy 17 = .ok (.iconst 0, 1) := by decide +kernel
theorem dX7_liftedBy_18 : decode cX7_liftedBy 18 = .ok (.ireturn, 1) := by decide +kernel
theorem dX7_bookedFor_0 : decode cX7_bookedFor 0 = .ok (.aload_n 0, 1) := by decide +kernel
theorem dX7_bookedFor_1 : decode cX7_bookedFor 1 = .ok (.iload_n 1, 1) := by decide +kernel
theorem dX7_bookedFor_2 : decode cX7_bookedFor 2 = .ok (.invokevirtual 196, 3) := by decide +kernel
theorem dX7_bookedFor_5 : decode cX7_bookedFor 5 = .ok (.ifCond .eq 12, 3) := by decide +kernel
theorem dX7_bookedFor_8 : decode cX7_bookedFor 8 = .ok (.aload_n 0, 1) := by decide +kernel
theorem dX7_bookedFor_9 : decode cX7_bookedFor 9 = .ok (.getfield 35, 3) := by decide +kernel
theorem dX7_bookedFor_12 : decode cX7_bookedFor 12 = .ok (.iload_n 1, 1) := by decide +kernel
theorem dX7_bookedFor_13 : decode cX7_bookedFor 13 = .ok (.iaload, 1) := by decide +kernel
theorem dX7_bookedFor_14 : decode cX7_bookedFor 14 = .ok (.goto 4, 3) := by decide +kernel
theorem dX7_bookedFor_17 : decode cX7_bookedFor 17 = .ok (.iconst 0, 1) := by decide +kernel
theorem dX7_bookedFor_18 : decode cX7_bookedFor 18 = .ok (.ireturn, 1) := by decide +kernel
theorem dX7_placeOf_0 : decode cX7_placeOf 0 = .ok (.aload_n 0, 1) := by decide +kernel
theorem dX7_placeOf_1 : decode cX7_placeOf 1 = .ok (.iload_n 1, 1) := by decide +kernel
theorem dX7_placeOf_2 : decode cX7_placeOf 2 = .ok (.invokestatic 166, 3) := by decide +kernel
theorem dX7_placeOf_5 : decode cX7_placeOf 5 = .ok (.ifCond .eq 7, 3) := by decide +kernel
theorem dX7_placeOf_8 : decode cX7_placeOf 8 = .ok (.iconst 0, 1) := by decide +kernel
theorem dX7_placeOf_9 : decode cX7_placeOf 9 = .ok (.goto 4, 3) := by decide +kernel
theorem dX7_placeOf_12 : decode cX7_placeOf 12 = .ok (.iconst 1, 1) := by decide +kernel
theorem dX7_placeOf_13 : decode cX7_placeOf 13 = .ok (.putfield 95, 3) := by decide +kernel
theorem dX7_placeOf_16 : decode cX7_placeOf 16 = .ok (.aload_n 0, 1) := by decide +kernel
theorem dX7_placeOf_17 : decode cX7_placeOf 17 = .ok (.getfield 95, 3) := by decide +kernel
theorem dX7_placeOf_20 : decode cX7_placeOf 20 = .ok (.ifCond .le 7, 3) := by decide +kernel
theorem dX7_placeOf_23 : decode cX7_placeOf 23 = .ok (.iconst 0, 1) := by decide +kernel
theorem dX7_placeOf_24 : decode cX7_placeOf 24 = .ok (.goto 9, 3) := by decide +kernel
theorem dX7_placeOf_27 : decode cX7_placeOf 27 = .ok (.aload_n 0, 1) := by decide +kernel
theorem dX7_placeOf_28 : decode cX7_placeOf 28 = .ok (.getfield 47, 3) := by decide +kernel
theorem dX7_placeOf_31 : decode cX7_placeOf 31 = .ok (.iload_n 1, 1) := by decide +kernel
theorem dX7_placeOf_32 : decode cX7_placeOf 32 = .ok (.iaload, 1) := by decide +kernel
theorem dX7_placeOf_33 : decode cX7_placeOf 33 = .ok (.ireturn, 1) := by decide +kernel
theorem dX7_height_0 : decode cX7_height 0 = .ok (.aload_n 0, 1) := by decide +kernel
theorem dX7_height_1 : decode cX7_height 1 = .ok (.iload_n 1, 1) := by decide +kernel
theorem dX7_height_2 : decode cX7_height 2 = .ok (.iconst 0, 1) := by decide +kernel
theorem dX7_height_3 : decode cX7_height 3 = .ok (.iconst 5, 1) := by decide +kernel
theorem dX7_height_4 : decode cX7_height 4 = .ok (.invokestatic 99, 3) := by decide +kernel
theorem dX7_height_7 : decode cX7_height 7 = .ok (.ifCond .eq 7, 3) := by decide +kernel
theorem dX7_height_10 : decode cX7_height 10 = .ok (.iconst 0, 1) := by decide +kernel
theorem dX7_height_11 : decode cX7_height 11 = .ok (.goto 4, 3) := by decide +kernel
theorem dX7_height_14 : decode cX7_height 14 = .ok (.iconst 1, 1) := by decide +kernel
theorem dX7_height_15 : decode cX7_height 15 = .ok (.putfield 95, 3) := by decide +kernel
theorem dX7_height_18 : decode cX7_height 18 = .ok (.aload_n 0, 1) := by decide +kernel
theorem dX7_height_19 : decode cX7_height 19 = .ok (.getfield 95, 3) := by decide +kernel
theorem dX7_height_22 : decode cX7_height 22 = .ok (.ifCond .le 7, 3) := by decide +kernel
theorem dX7_height_25 : decode cX7_height 25 = .ok (.iconst 0, 1) := by decide +kernel
theorem dX7_height_26 : decode cX7_height 26 = .ok (.goto 9, 3) := by decide +kernel
theorem dX7_height_29 : decode cX7_height 29 = .ok (.aload_n 0, 1) := by decide +kernel
theorem dX7_height_30 : decode cX7_height 30 = .ok (.getfield 41, 3) := by decide +kernel
theorem dX7_height_33 : decode cX7_height 33 = .ok (.iload_n 1, 1) := by decide +kernel
theorem dX7_height_34 : decode cX7_height 34 = .ok (.iaload, 1) := by decide +kernel
theorem dX7_height_35 : decode cX7_height 35 = .ok (.ireturn, 1) := by decide +kernel
theorem dX7_queue_0 : decode cX7_queue 0 = .ok (.aload_n 0, 1) := by decide +kernel
theorem dX7_queue_1 : decode cX7_queue 1 = .ok (.iload_n 1, 1) := by decide +kernel
theorem dX7_queue_2 : decode cX7_queue 2 = .ok (.invokestatic 163, 3) := by decide +kernel
theorem dX7_queue_5 : decode cX7_queue 5 = .ok (.ifCond .eq 7, 3) := by decide +kernel
theorem dX7_queue_8 : decode cX7_queue 8 = .ok (.iconst 0, 1) := by decide +kernel
theorem dX7_queue_9 : decode cX7_queue 9 = .ok (.goto 4, 3) := by decide +kernel
theorem dX7_queue_12 : decode cX7_queue 12 = .ok (.iconst 1, 1) := by decide +kernel
theorem dX7_queue_13 : decode cX7_queue 13 = .ok (.putfield 95, 3) := by decide +kernel
theorem dX7_queue_16 : decode cX7_queue 16 = .ok (.aload_n 0, 1) := by decide +kernel
theorem dX7_queue_17 : decode cX7_queue 17 = .ok (.getfield 95, 3) := by decide +kernel
theorem dX7_queue_20 : decode cX7_queue 20 = .ok (.ifCond .le 7, 3) := by decide +kernel
theorem dX7_queue_23 : decode cX7_queue 23 = .ok (.iconst 0, 1) := by decide +kernel
theorem dX7_queue_24 : decode cX7_queue 24 = .ok (.goto 9, 3) := by decide +kernel
theorem dX7_queue_27 : decode cX7_queue 27 = .ok (.aload_n 0, 1) := by decide +kernel
theorem dX7_queue_28 : decode cX7_queue 28 = .ok (.getfield 77, 3) := by decide +kernel
theorem dX7_queue_31 : decode cX7_queue 31 = .ok (.iload_n 1, 1) := by decide +kernel
theorem dX7_queue_32 : decode cX7_queue 32 = .ok (.iaload, 1) := by decide +kernel
theorem dX7_queue_33 : decode cX7_queue 33 = .ok (.ireturn, 1) := by decide +kernel
theorem dX7_queued_0 : decode cX7_queued 0 = .ok (.aload_n 0, 1) := by decide +kernel
theorem dX7_queued_1 : decode cX7_queued 1 = .ok (.iload_n 1, 1) := by decide +kernel
theorem dX7_queued_2 : decode cX7_queued 2 = .ok (.invokestatic 163, 3) := by decide +kernel
theorem dX7_queued_5 : decode cX7_queued 5 = .ok (.ifCond .eq 23, 3) := by decide +kernel
theorem dX7_queued_8 : decode cX7_queued 8 = .ok (.iload_n 2, 1) := by decide +kernel
theorem dX7_queued_9 : decode cX7_queued 9 = .ok (.iconst 0, 1) := by decide +kernel
theorem dX7_queued_10 : decode cX7_queued 10 = .ok (.aload_n 0, 1) := by decide +kernel
theorem dX7_queued_11 : decode cX7_queued 11 = .ok (.getfield 77, 3) := by decide +kernel
theorem dX7_queued_14 : decode cX7_queued 14 = .ok (.iload_n 1, 1) := by decide +kernel
theorem dX7_queued_15 : decode cX7_queued 15 = .ok (.iaload, 1) := by decide +kernel
theorem dX7_queued_16 : decode cX7_queued 16 = .ok (.iconst 1, 1) := by decide +kernel
theorem dX7_queued_17 : decode cX7_queued 17 = .ok (.isub, 1) := by decide +kernel
theorem dX7_queued_18 : decode cX7_queued 18 = .ok (.invokestatic 99, 3) := by decide +kernel
theorem dX7_queued_21 : decode cX7_queued 21 = .ok (.ifCond .eq 7, 3) := by decide +kernel
theorem dX7_queued_24 : decode cX7_queued 24 = .ok (.iconst 0, 1) := by decide +kernel
theorem dX7_queued_25 : decode cX7_queued 25 = .ok (.goto 4, 3) := by decide +kernel
theorem dX7_queued_28 : decode cX7_queued 28 = .ok (.iconst 1, 1) := by decide +kernel
theorem dX7_queued_29 : decode cX7_queued 29 = .ok (.putfield 95, 3) := by decide +kernel
theorem dX7_queued_32 : decode cX7_queued 32 = .ok (.aload_n 0, 1) := by decide +kernel
theorem dX7_queued_33 : decode cX7_queued 33 = .ok (.getfield 95, 3) := by decide +kernel
theorem dX7_queued_36 : decode cX7_queued 36 = .ok (.ifCond .le 7, 3) := by decide +kernel
theorem dX7_queued_39 : decode cX7_queued 39 = .ok (.iconst 0, 1) := by decide +kernel
theorem dX7_queued_40 : decode cX7_queued 40 = .ok (.goto 14, 3) := by decide +kernel
theorem dX7_queued_43 : decode cX7_queued 43 = .ok (.aload_n 0, 1) := by decide +kernel
theorem dX7_queued_44 : decode cX7_queued 44 = .ok (.getfield 80, 3) := by decide +kernel
theorem dX7_queued_47 : decode cX7_queued 47 = .ok (.bipush 80, 2) := by decide +kernel
theorem dX7_queued_49 : decode cX7_queued 49 = .ok (.iload_n 1, 1) := by decide +kernel
theorem dX7_queued_50 : decode cX7_queued 50 = .ok (.imul, 1) := by decide +kernel
theorem dX7_queued_51 : decode cX7_queued 51 = .ok (.iload_n 2, 1) := by decide +kernel
theorem dX7_queued_52 : decode cX7_queued 52 = .ok (.iadd, 1) := by decide +kernel
theorem dX7_queued_53 : decode cX7_queued 53 = .ok (.iaload, 1) := by decide +kernel
theorem dX7_queued_54 : decode cX7_queued 54 = .ok (.ireturn, 1) := by decide +kernel
theorem dX7_seen_0 : decode cX7_seen 0 = .ok (.aload_n 0, 1) := by decide +kernel
theorem dX7_seen_1 : decode cX7_seen 1 = .ok (.iload_n 1, 1) := by decide +kernel
theorem dX7_seen_2 : decode cX7_seen 2 = .ok (.iconst 4, 1) := by decide +kernel
theorem dX7_seen_3 : decode cX7_seen 3 = .ok (.bipush 7, 2) := by decide +kernel
theorem dX7_seen_5 : decode cX7_seen 5 = .ok (.invokestatic 99, 3) := by decide +kernel
theorem dX7_seen_8 : decode cX7_seen 8 = .ok (.ifCond .eq 7, 3) := by decide +kernel
theorem dX7_seen_11 : decode cX7_seen 11 = .ok (.iconst 0, 1) := by decide +kernel
theorem dX7_seen_12 : decode cX7_seen 12 = .ok (.goto 4, 3) := by decide +kernel
theorem dX7_seen_15 : decode cX7_seen 15 = .ok (.iconst 1, 1) := by decide +kernel
theorem dX7_seen_16 : decode cX7_seen 16 = .ok (.putfield 95, 3) := by decide +kernel
theorem dX7_seen_19 : decode cX7_seen 19 = .ok (.aload_n 0, 1) := by decide +kernel
theorem dX7_seen_20 : decode cX7_seen 20 = .ok (.getfield 95, 3) := by decide +kernel
theorem dX7_seen_23 : decode cX7_seen 23 = .ok (.ifCond .le 7, 3) := by decide +kernel
theorem dX7_seen_26 : decode cX7_seen 26 = .ok (.iconst 0, 1) := by decide +kernel
theorem dX7_seen_27 : decode cX7_seen 27 = .ok (.goto 9, 3) := by decide +kernel
theorem dX7_seen_30 : decode cX7_seen 30 = .ok (.aload_n 0, 1) := by decide +kernel
theorem dX7_seen_31 : decode cX7_seen 31 = .ok (.getfield 92, 3) := by decide +kernel
theorem dX7_seen_34 : decode cX7_seen 34 = .ok (.iload_n 1, 1) := by decide +kernel
theorem dX7_seen_35 : decode cX7_seen 35 = .ok (.iaload, 1) := by decide +kernel
theorem dX7_seen_36 : decode cX7_seen 36 = .ok (.ireturn, 1) := by decide +kernel
theorem dX7_asksMessage_0 : decode cX7_asksMessage 0 = .ok (.aload_n 0, 1) := by decide +kernel
theorem dX7_asksMessage_1 : decode cX7_asksMessage 1 = .ok (.iload_n 1, 1) := by decide +kernel
theorem dX7_asksMessage_2 : decode cX7_asksMessage 2 = .ok (.iconst 0, 1) := by decide +kernel
theorem dX7_asksMessage_3 : decode cX7_asksMessage 3 = .ok (.aload_n 0, 1) := by decide +kernel
theorem dX7_asksMessage_4 : decode cX7_asksMessage 4 = .ok (.getfield 130, 3) := by decide +kernel
theorem dX7_asksMessage_7 : decode cX7_asksMessage 7 = .ok (.iconst 1, 1) := by decide +kernel
theorem dX7_asksMessage_8 : decode cX7_asksMessage 8 = .ok (.isub, 1) := by decide +kernel
theorem dX7_asksMessage_9 : decode cX7_asksMessage 9 = .ok (.invokestatic 99, 3) := by decide +kernel
theorem dX7_asksMessage_12 : decode cX7_asksMessage 12 = .ok (.ifCond .eq 7, 3) := by decide +kernel
theorem dX7_asksMessage_15 : decode cX7_asksMessage 15 = .ok (.iconst 0, 1) := by decide +kernel
theorem dX7_asksMessage_16 : decode cX7_asksMessage 16 = .ok (.goto 4, 3) := by decide +kernel
theorem dX7_asksMessage_19 : decode cX7_asksMessage 19 = .ok (.iconst 1, 1) := by decide +kernel
theorem dX7_asksMessage_20 : decode cX7_asksMessage 20 = .ok (.putfield 95, 3) := by decide +kernel
theorem dX7_asksMessage_23 : decode cX7_asksMessage 23 = .ok (.aload_n 0, 1) := by decide +kernel
theorem dX7_asksMessage_24 : decode cX7_asksMessage 24 = .ok (.getfield 95, 3) := by decide +kernel
theorem dX7_asksMessage_27 : decode cX7_asksMessage 27 = .ok (.ifCond .ne 7, 3) := by decide +kernel
theorem dX7_asksMessage_30 : decode cX7_asksMessage 30 = .ok (.iconst 1, 1) := by decide +kernel
theorem dX7_asksMessage_31 : decode cX7_asksMessage 31 = .ok (.goto 4, 3) := by decide +kernel
theorem dX7_asksMessage_34 : decode cX7_asksMessage 34 = .ok (.iconst 0, 1) := by decide +kernel
theorem dX7_asksMessage_35 : decode cX7_asksMessage 35 = .ok (.ireturn, 1) := by decide +kernel
theorem dX7_handed_0 : decode cX7_handed 0 = .ok (.aload_n 0, 1) := by decide +kernel
theorem dX7_handed_1 : decode cX7_handed 1 = .ok (.iload_n 1, 1) := by decide +kernel
theorem dX7_handed_2 : decode cX7_handed 2 = .ok (.invokevirtual 199, 3) := by decide +kernel
theorem dX7_handed_5 : decode cX7_handed 5 = .ok (.ifCond .eq 12, 3) := by decide +kernel
theorem dX7_handed_8 : decode cX7_handed 8 = .ok (.aload_n 0, 1) := by decide +kernel
theorem dX7_handed_9 : decode cX7_handed 9 = .ok (.getfield 62, 3) := by decide +kernel
theorem dX7_handed_12 : decode cX7_handed 12 = .ok (.iload_n 1, 1) := by decide +kernel
theorem dX7_handed_13 : decode cX7_handed 13 = .ok (.iaload, 1) := by decide +kernel
theorem dX7_handed_14 : decode cX7_handed 14 = .ok (.goto 4, 3) := by decide +kernel
theorem dX7_handed_17 : decode cX7_handed 17 = .ok (.iconst 0, 1) := by decide +kernel
theorem dX7_handed_18 : decode cX7_handed 18 = .ok (.ireturn, 1) := by decide +kernel
theorem dX7_isDone_0 : decode cX7_isDone 0 = .ok (.aload_n 0, 1) := by decide +kernel
theorem dX7_isDone_1 : decode cX7_isDone 1 = .ok (.iload_n 1, 1) := by decide +kernel
theorem dX7_isDone_2 : decode cX7_isDone 2 = .ok (.invokevirtual 199, 3) := by decide +kernel
theorem dX7_isDone_5 : decode cX7_isDone 5 = .ok (.ifCond .eq 16, 3) := by decide +kernel
theorem dX7_isDone_8 : decode cX7_isDone 8 = .ok (.aload_n 0, 1) := by decide +kernel
theorem dX7_isDone_9 : decode cX7_isDone 9 = .ok (.getfield 65, 3) := by decide +kernel
theorem dX7_isDone_12 : decode cX7_isDone 12 = .ok (.iload_n 1, 1) := by decide +kernel
theorem dX7_isDone_13 : decode cX7_isDone 13 = .ok (.iaload, 1) := by decide +kernel
theorem dX7_isDone_14 : decode cX7_isDone 14 = .ok (.ifCond .le 7, 3) := by decide +kernel
theorem dX7_isDone_17 : decode cX7_isDone 17 = .ok (.iconst 1, 1) := by decide +kernel
theorem dX7_isDone_18 : decode cX7_isDone 18 = .ok (.goto 4, 3) := by decide +kernel
theorem dX7_isDone_21 : decode cX7_isDone 21 = .ok (.iconst 0, 1) := by decide +kernel
theorem dX7_isDone_22 : decode cX7_isDone 22 = .ok (.ireturn, 1) := by decide +kernel
theorem dX7_moves_0 : decode cX7_moves 0 = .ok (.aload_n 0, 1) := by decide +kernel
theorem dX7_moves_1 : decode cX7_moves 1 = .ok (.iconst 0, 1) := by decide +kernel
theorem dX7_moves_2 : decode cX7_moves 2 = .ok (.putfield 95, 3) := by decide +kernel
theorem dX7_moves_5 : decode cX7_moves 5 = .ok (.aload_n 0, 1) := by decide +kernel
theorem dX7_moves_6 : decode cX7_moves 6 = .ok (.getfield 143, 3) := by decide +kernel
theorem dX7_moves_9 : decode cX7_moves 9 = .ok (.ireturn, 1) := by decide +kernel
theorem dX7_moveAt_0 : decode cX7_moveAt 0 = .ok (.aload_n 0, 1) := by decide +kernel
theorem dX7_moveAt_1 : decode cX7_moveAt 1 = .ok (.iload_n 1, 1) := by decide +kernel
theorem dX7_moveAt_2 : decode cX7_moveAt 2 = .ok (.iconst 0, 1) := by decide +kernel
theorem dX7_moveAt_3 : decode cX7_moveAt 3 = .ok (.aload_n 0, 1) := by decide +kernel
theorem dX7_moveAt_4 : decode cX7_moveAt 4 = .ok (.getfield 143, 3) := by decide +kernel
theorem dX7_moveAt_7 : decode cX7_moveAt 7 = .ok (.iconst 1, 1) := by decide +kernel
theorem dX7_moveAt_8 : decode cX7_moveAt 8 = .ok (.isub, 1) := by decide +kernel
theorem dX7_moveAt_9 : decode cX7_moveAt 9 = .ok (.invokestatic 99, 3) := by decide +kernel
theorem dX7_moveAt_12 : decode cX7_moveAt 12 = .ok (.ifCond .eq 7, 3) := by decide +kernel
theorem dX7_moveAt_15 : decode cX7_moveAt 15 = .ok (.iconst 0, 1) := by decide +kernel
theorem dX7_moveAt_16 : decode cX7_moveAt 16 = .ok (.goto 4, 3) := by decide +kernel
theorem dX7_moveAt_19 : decode cX7_moveAt 19 = .ok (.iconst 1, 1) := by decide +kernel
theorem dX7_moveAt_20 : decode cX7_moveAt 20 = .ok (.putfield 95, 3) := by decide +kernel
theorem dX7_moveAt_23 : decode cX7_moveAt 23 = .ok (.aload_n 0, 1) := by decide +kernel
theorem dX7_moveAt_24 : decode cX7_moveAt 24 = .ok (.getfield 95, 3) := by decide +kernel
theorem dX7_moveAt_27 : decode cX7_moveAt 27 = .ok (.ifCond .le 7, 3) := by decide +kernel
theorem dX7_moveAt_30 : decode cX7_moveAt 30 = .ok (.iconst 0, 1) := by decide +kernel
theorem dX7_moveAt_31 : decode cX7_moveAt 31 = .ok (.goto 9, 3) := by decide +kernel
theorem dX7_moveAt_34 : decode cX7_moveAt 34 = .ok (.aload_n 0, 1) := by decide +kernel
theorem dX7_moveAt_35 : decode cX7_moveAt 35 = .ok (.getfield 74, 3) := by decide +kernel
theorem dX7_moveAt_38 : decode cX7_moveAt 38 = .ok (.iload_n 1, 1) := by decide +kernel
theorem dX7_moveAt_39 : decode cX7_moveAt 39 = .ok (.iaload, 1) := by decide +kernel
theorem dX7_moveAt_40 : decode cX7_moveAt 40 = .ok (.ireturn, 1) := by decide +kernel
theorem dX7_unheard_0 : decode cX7_unheard 0 = .ok (.aload_n 0, 1) := by decide +kernel
theorem dX7_unheard_1 : decode cX7_unheard 1 = .ok (.iconst 0, 1) := by decide +kernel
theorem dX7_unheard_2 : decode cX7_unheard 2 = .ok (.putfield 95, 3) := by decide +kernel
theorem dX7_unheard_5 : decode cX7_unheard 5 = .ok (.aload_n 0, 1) := by decide +kernel
theorem dX7_unheard_6 : decode cX7_unheard 6 = .ok (.getfield 146, 3) := by decide +kernel
theorem dX7_unheard_9 : decode cX7_unheard 9 = .ok (.aload_n 0, 1) := by decide +kernel
theorem dX7_unheard_10 : decode cX7_unheard 10 = .ok (.getfield 143, 3) := by decide +kernel
theorem dX7_unheard_13 : decode cX7_unheard 13 = .ok (.isub, 1) := by decide +kernel
theorem dX7_unheard_14 : decode cX7_unheard 14 = .ok (.ireturn, 1) := by decide +kernel
