theorem diM_0 : decode prog_11_method_3_code 0 = .ok (.aload_n 0, 1) := by decide +kernel
theorem diM_1 : decode prog_11_method_3_code 1 = .ok (.invokespecial 7, 3) := by decide +kernel
theorem diM_4 : decode prog_11_method_3_code 4 = .ok (.aload_n 0, 1) := by decide +kernel
theorem diM_5 : decode prog_11_method_3_code 5 = .ok (.bipush 100, 2) := by decide +kernel
theorem diM_7 : decode prog_11_method_3_code 7 = .ok (.newarray .int, 2) := by decide +kernel
theorem diM_9 : decode prog_11_method_3_code 9 = .ok (.putfield 13, 3) := by decide +kernel
theorem diM_12 : decode prog_11_method_3_code 12 = .ok (.aload_n 0, 1) := by decide +kernel
theorem diM_13 : decode prog_11_method_3_code 13 = .ok (.bipush 100, 2) := by decide +kernel
theorem diM_15 : decode prog_11_method_3_code 15 = .ok (.newarray .int, 2) := by decide +kernel
theorem diM_17 : decode prog_11_method_3_code 17 = .ok (.putfield 17, 3) := by decide +kernel
theorem diM_20 : decode prog_11_method_3_code 20 = .ok (.aload_n 0, 1) := by decide +kernel
theorem diM_21 : decode prog_11_method_3_code 21 = .ok (.bipush 100, 2) := by decide +kernel
theorem diM_23 : decode prog_11_method_3_code 23 = .ok (.newarray .int, 2) := by decide +kernel
theorem diM_25 : decode prog_11_method_3_code 25 = .ok (.putfield 20, 3) := by decide +kernel
theorem diM_28 : decode prog_11_method_3_code 28 = .ok (.aload_n 0, 1) := by decide +kernel
theorem diM_29 : decode prog_11_method_3_code 29 = .ok (.bipush 100, 2) := by decide +kernel
theorem diM_31 : decode prog_11_method_3_code 31 = .ok (.newarray .int, 2) := by decide +kernel
theorem diM_33 : decode prog_11_method_3_code 33 = .ok (.putfield 23, 3) := by decide +kernel
theorem diM_36 : decode prog_11_method_3_code 36 = .ok (.aload_n 0, 1) := by decide +kernel
theorem diM_37 : decode prog_11_method_3_code 37 = .ok (.bipush 100, 2) := by decide +kernel
theorem diM_39 : decode prog_11_method_3_code 39 = .ok (.newarray .int, 2) := by decide +kernel
theorem diM_41 : decode prog_11_method_3_code 41 = .ok (.putfield 26, 3) := by decide +kernel
theorem diM_44 : decode prog_11_method_3_code 44 = .ok (.aload_n 0, 1) := by decide +kernel
theorem diM_45 : decode prog_11_method_3_code 45 = .ok (.bipush 100, 2) := by decide +kernel
theorem diM_47 : decode prog_11_method_3_code 47 = .ok (.newarray .int, 2) := by decide +kernel
theorem diM_49 : decode prog_11_method_3_code 49 = .ok (.putfield 29, 3) := by decide +kernel
theorem diM_52 : decode prog_11_method_3_code 52 = .ok (.aload_n 0, 1) := by decide +kernel
theorem diM_53 : decode prog_11_method_3_code 53 = .ok (.sipush 3010, 3) := by decide +kernel
theorem diM_56 : decode prog_11_method_3_code 56 = .ok (.newarray .int, 2) := by decide +kernel
theorem diM_58 : decode prog_11_method_3_code 58 = .ok (.putfield 32, 3) := by decide +kernel
theorem diM_61 : decode prog_11_method_3_code 61 = .ok (.aload_n 0, 1) := by decide +kernel
theorem diM_62 : decode prog_11_method_3_code 62 = .ok (.bipush 16, 2) := by decide +kernel
theorem diM_64 : decode prog_11_method_3_code 64 = .ok (.putfield 35, 3) := by decide +kernel
theorem diM_67 : decode prog_11_method_3_code 67 = .ok (.aload_n 0, 1) := by decide +kernel
theorem diM_68 : decode prog_11_method_3_code 68 = .ok (.bipush 8, 2) := by decide +kernel
theorem diM_70 : decode prog_11_method_3_code 70 = .ok (.putfield 38, 3) := by decide +kernel
theorem diM_73 : decode prog_11_method_3_code 73 = .ok (.aload_n 0, 1) := by decide +kernel
theorem diM_74 : decode prog_11_method_3_code 74 = .ok (.bipush 40, 2) := by decide +kernel
theorem diM_76 : decode prog_11_method_3_code 76 = .ok (.putfield 41, 3) := by decide +kernel
theorem diM_79 : decode prog_11_method_3_code 79 = .ok (.aload_n 0, 1) := by decide +kernel
theorem diM_80 : decode prog_11_method_3_code 80 = .ok (.bipush 30, 2) := by decide +kernel
theorem diM_82 : decode prog_11_method_3_code 82 = .ok (.putfield 44, 3) := by decide +kernel
theorem diM_85 : decode prog_11_method_3_code 85 = .ok (.aload_n 0, 1) := by decide +kernel
theorem diM_86 : decode prog_11_method_3_code 86 = .ok (.bipush 60, 2) := by decide +kernel
theorem diM_88 : decode prog_11_method_3_code 88 = .ok (.putfield 47, 3) := by decide +kernel
theorem diM_91 : decode prog_11_method_3_code 91 = .ok (.aload_n 0, 1) := by decide +kernel
theorem diM_92 : decode prog_11_method_3_code 92 = .ok (.iconst 1, 1) := by decide +kernel
theorem diM_93 : decode prog_11_method_3_code 93 = .ok (.putfield 50, 3) := by decide +kernel
theorem diM_96 : decode prog_11_method_3_code 96 = .ok (.aload_n 0, 1) := by decide +kernel
theorem diM_97 : decode prog_11_method_3_code 97 = .ok (.bipush 24, 2) := by decide +kernel
theorem diM_99 : decode prog_11_method_3_code 99 = .ok (.newarray .int, 2) := by decide +kernel
theorem diM_101 : decode prog_11_method_3_code 101 = .ok (.dup, 1) := by decide +kernel
theorem diM_102 : decode prog_11_method_3_code 102 = .ok (.iconst 0, 1) := by decide +kernel
theorem diM_103 : decode prog_11_method_3_code 103 = .ok (.bipush 63, 2) := by decide +kernel
theorem diM_105 : decode prog_11_method_3_code 105 = .ok (.iastore, 1) := by decide +kernel
theorem diM_106 : decode prog_11_method_3_code 106 = .ok (.dup, 1) := by decide +kernel
theorem diM_107 : decode prog_11_method_3_code 107 = .ok (.iconst 1, 1) := by decide +kernel
theorem diM_108 : decode prog_11_method_3_code 108 = .ok (.bipush 22, 2) := by decide +kernel
theorem diM_110 : decode prog_11_method_3_code 110 = .ok (.iastore, 1) := by decide +kernel
theorem diM_111 : decode prog_11_method_3_code 111 = .ok (.dup, 1) := by decide +kernel
theorem diM_112 : decode prog_11_method_3_code 112 = .ok (.iconst 2, 1) := by decide +kernel
theorem diM_113 : decode prog_11_method_3_code 113 = .ok (.bipush 35, 2) := by decide +kernel
theorem diM_115 : decode prog_11_method_3_code 115 = .ok (.iastore, 1) := by decide +kernel
theorem diM_116 : decode prog_11_method_3_code 116 = .ok (.dup, 1) := by decide +kernel
theorem diM_117 : decode prog_11_method_3_code 117 = .ok (.iconst 3, 1) := by decide +kernel
theorem diM_118 : decode prog_11_method_3_code 118 = .ok (.bipush 23, 2) := by decide +kernel
theorem diM_120 : decode prog_11_method_3_code 120 = .ok (.iastore, 1) := by decide +kernel
theorem diM_121 : decode prog_11_method_3_code 121 = .ok (.dup, 1) := by decide +kernel
theorem diM_122 : decode prog_11_method_3_code 122 = .ok (.iconst 4, 1) := by decide +kernel
theorem diM_123 : decode prog_11_method_3_code 123 = .ok (.bipush 44, 2) := by decide +kernel
theorem diM_125 : decode prog_11_method_3_code 125 = .ok (.iastore, 1) := by decide +kernel
theorem diM_126 : decode prog_11_method_3_code 126 = .ok (.dup, 1) := by decide +kernel
theorem diM_127 : decode prog_11_method_3_code 127 = .ok (.iconst 5, 1) := by decide +kernel
theorem diM_128 : decode prog_11_method_3_code 128 = .ok (.bipush 41, 2) := by decide +kernel
theorem diM_130 : decode prog_11_method_3_code 130 = .ok (.iastore, 1) := by decide +kernel
theorem diM_131 : decode prog_11_method_3_code 131 = .ok (.dup, 1) := by decide +kernel
theorem diM_132 : decode prog_11_method_3_code 132 = .ok (.bipush 6, 2) := by decide +kernel
theorem diM_134 : decode prog_11_method_3_code 134 = .ok (.bipush 25, 2) := by decide +kernel
theorem diM_136 : decode prog_11_method_3_code 136 = .ok (.iastore, 1) := by decide +kernel
theorem diM_137 : decode prog_11_method_3_code 137 = .ok (.dup, 1) := by decide +kernel
theorem diM_138 : decode prog_11_method_3_code 138 = .ok (.bipush 7, 2) := by decide +kernel
theorem diM_140 : decode prog_11_method_3_code 140 = .ok (.bipush 52, 2) := by decide +kernel
theorem diM_142 : decode prog_11_method_3_code 142 = .ok (.iastore, 1) := by decide +kernel
theorem diM_143 : decode prog_11_method_3_code 143 = .ok (.dup, 1) := by decide +kernel
theorem diM_144 : decode prog_11_method_3_code 144 = .ok (.bipush 8, 2) := by decide +kernel
theorem diM_146 : decode prog_11_method_3_code 146 = .ok (.bipush 24, 2) := by decide +kernel
theorem diM_148 : decode prog_11_method_3_code 148 = .ok (.iastore, 1) := by decide +kernel
theorem diM_149 : decode prog_11_method_3_code 149 = .ok (.dup, 1) := by decide +kernel
theorem diM_150 : decode prog_11_method_3_code 150 = .ok (.bipush 9, 2) := by decide +kernel
theorem diM_152 : decode prog_11_method_3_code 152 = .ok (.bipush 37, 2) := by decide +kernel
theorem diM_154 : decode prog_11_method_3_code 154 = .ok (.iastore, 1) := by decide +kernel
theorem diM_155 : decode prog_11_method_3_code 155 = .ok (.dup, 1) := by decide +kernel
theorem diM_156 : decode prog_11_method_3_code 156 = .ok (.bipush 10, 2) := by decide +kernel
theorem diM_158 : decode prog_11_method_3_code 158 = .ok (.bipush 23, 2) := by decide +kernel
theorem diM_160 : decode prog_11_method_3_code 160 = .ok (.iastore, 1) := by decide +kernel
theorem diM_161 : decode prog_11_method_3_code 161 = .ok (.dup, 1) := by decide +kernel
theorem diM_162 : decode prog_11_method_3_code 162 = .ok (.bipush 11, 2) := by decide +kernel
theorem diM_164 : decode prog_11_method_3_code 164 = .ok (.bipush 29, 2) := by decide +kernel
theorem diM_166 : decode prog_11_method_3_code 166 = .ok (.iastore, 1) := by decide +kernel
theorem diM_167 : decode prog_11_method_3_code 167 = .ok (.dup, 1) := by decide +kernel
theorem diM_168 : decode prog_11_method_3_code 168 = .ok (.bipush 12, 2) := by decide +kernel
theorem diM_170 : decode prog_11_method_3_code 170 = .ok (.bipush 63, 2) := by decide +kernel
theorem diM_172 : decode prog_11_method_3_code 172 = .ok (.iastore, 1) := by decide +kernel
theorem diM_173 : decode prog_11_method_3_code 173 = .ok (.dup, 1) := by decide +kernel
theorem diM_174 : decode prog_11_method_3_code 174 = .ok (.bipush 13, 2) := by decide +kernel
theorem diM_176 : decode prog_11_method_3_code 176 = .ok (.bipush 27, 2) := by decide +kernel
theorem diM_178 : decode prog_11_method_3_code 178 = .ok (.iastore, 1) := by decide +kernel
theorem diM_179 : decode prog_11_method_3_code 179 = .ok (.dup, 1) := by decide +kernel
theorem diM_180 : decode prog_11_method_3_code 180 = .ok (.bipush 14, 2) := by decide +kernel
theorem diM_182 : decode prog_11_method_3_code 182 = .ok (.bipush 35, 2) := by decide +kernel
theorem diM_184 : decode prog_11_method_3_code 184 = .ok (.iastore, 1) := by decide +kernel
theorem diM_185 : decode prog_11_method_3_code 185 = .ok (.dup, 1) := by decide +kernel
theorem diM_186 : decode prog_11_method_3_code 186 = .ok (.bipush 15, 2) := by decide +kernel
theorem diM_188 : decode prog_11_method_3_code 188 = .ok (.bipush 54, 2) := by decide +kernel
theorem diM_190 : decode prog_11_method_3_code 190 = .ok (.iastore, 1) := by decide +kernel
theorem diM_191 : decode prog_11_method_3_code 191 = .ok (.dup, 1) := by decide +kernel
theorem diM_192 : decode prog_11_method_3_code 192 = .ok (.bipush 16, 2) := by decide +kernel
theorem diM_194 : decode prog_11_method_3_code 194 = .ok (.bipush 26, 2) := by decide +kernel
theorem diM_196 : decode prog_11_method_3_code 196 = .ok (.iastore, 1) := by decide +kernel
theorem diM_197 : decode prog_11_method_3_code 197 = .ok (.dup, 1) := by decide +kernel
theorem diM_198 : decode prog_11_method_3_code 198 = .ok (.bipush 17, 2) := by decide +kernel
theorem diM_200 : decode prog_11_method_3_code 200 = .ok (.bipush 35, 2) := by decide +kernel
theorem diM_202 : decode prog_11_method_3_code 202 = .ok (.iastore, 1) := by decide +kernel
theorem diM_203 : decode prog_11_method_3_code 203 = .ok (.dup, 1) := by decide +kernel
theorem diM_204 : decode prog_11_method_3_code 204 = .ok (.bipush 18, 2) := by decide +kernel
theorem diM_206 : decode prog_11_method_3_code 206 = .ok (.bipush 25, 2) := by decide +kernel
theorem diM_208 : decode prog_11_method_3_code 208 = .ok (.iastore, 1) := by decide +kernel
theorem diM_209 : decode prog_11_method_3_code 209 = .ok (.dup, 1) := by decide +kernel
theorem diM_210 : decode prog_11_method_3_code 210 = .ok (.bipush 19, 2) := by decide +kernel
theorem diM_212 : decode prog_11_method_3_code 212 = .ok (.bipush 48, 2) := by decide +kernel
theorem diM_214 : decode prog_11_method_3_code 214 = .ok (.iastore, 1) := by decide +kernel
theorem diM_215 : decode prog_11_method_3_code 215 = .ok (.dup, 1) := by decide +kernel
theorem diM_216 : decode prog_11_method_3_code 216 = .ok (.bipush 20, 2) := by decide +kernel
theorem diM_218 : decode prog_11_method_3_code 218 = .ok (.bipush 40, 2) := by decide +kernel
theorem diM_220 : decode prog_11_method_3_code 220 = .ok (.iastore, 1) := by decide +kernel
theorem diM_221 : decode prog_11_method_3_code 221 = .ok (.dup, 1) := by decide +kernel
theorem diM_222 : decode prog_11_method_3_code 222 = .ok (.bipush 21, 2) := by decide +kernel
theorem diM_224 : decode prog_11_method_3_code 224 = .ok (.bipush 27, 2) := by decide +kernel
theorem diM_226 : decode prog_11_method_3_code 226 = .ok (.iastore, 1) := by decide +kernel
theorem diM_227 : decode prog_11_method_3_code 227 = .ok (.dup, 1) := by decide +kernel
theorem diM_228 : decode prog_11_method_3_code 228 = .ok (.bipush 22, 2) := by decide +kernel
theorem diM_230 : decode prog_11_method_3_code 230 = .ok (.bipush 33, 2) := by decide +kernel
theorem diM_232 : decode prog_11_method_3_code 232 = .ok (.iastore, 1) := by decide +kernel
theorem diM_233 : decode prog_11_method_3_code 233 = .ok (.dup, 1) := by decide +kernel
theorem diM_234 : decode prog_11_method_3_code 234 = .ok (.bipush 23, 2) := by decide +kernel
theorem diM_236 : decode prog_11_method_3_code 236 = .ok (.bipush 32, 2) := by decide +kernel
theorem diM_238 : decode prog_11_method_3_code 238 = .ok (.iastore, 1) := by decide +kernel
theorem diM_239 : decode prog_11_method_3_code 239 = .ok (.putfield 53, 3) := by decide +kernel
theorem diM_242 : decode prog_11_method_3_code 242 = .ok (.aload_n 0, 1) := by decide +kernel
theorem diM_243 : decode prog_11_method_3_code 243 = .ok (.bipush 48, 2) := by decide +kernel
theorem diM_245 : decode prog_11_method_3_code 245 = .ok (.newarray .int, 2) := by decide +kernel
theorem diM_247 : decode prog_11_method_3_code 247 = .ok (.putfield 56, 3) := by decide +kernel
theorem diM_250 : decode prog_11_method_3_code 250 = .ok (.aload_n 0, 1) := by decide +kernel
theorem diM_251 : decode prog_11_method_3_code 251 = .ok (.sipush 700, 3) := by decide +kernel
theorem diM_254 : decode prog_11_method_3_code 254 = .ok (.newarray .byte, 2) := by decide +kernel
theorem diM_256 : decode prog_11_method_3_code 256 = .ok (.putfield 59, 3) := by decide +kernel
theorem diM_259 : decode prog_11_method_3_code 259 = .ok (.aload_n 0, 1) := by decide +kernel
theorem diM_260 : decode prog_11_method_3_code 260 = .ok (.iconst (-1), 1) := by decide +kernel
theorem diM_261 : decode prog_11_method_3_code 261 = .ok (.putfield 63, 3) := by decide +kernel
theorem diM_264 : decode prog_11_method_3_code 264 = .ok (.aload_n 0, 1) := by decide +kernel
theorem diM_265 : decode prog_11_method_3_code 265 = .ok (.bipush 12, 2) := by decide +kernel
theorem diM_267 : decode prog_11_method_3_code 267 = .ok (.newarray .int, 2) := by decide +kernel
theorem diM_269 : decode prog_11_method_3_code 269 = .ok (.putfield 66, 3) := by decide +kernel
theorem diM_272 : decode prog_11_method_3_code 272 = .ok (.aload_n 0, 1) := by decide +kernel
theorem diM_273 : decode prog_11_method_3_code 273 = .ok (.bipush 24, 2) := by decide +kernel
theorem diM_275 : decode prog_11_method_3_code 275 = .ok (.newarray .int, 2) := by decide +kernel
theorem diM_277 : decode prog_11_method_3_code 277 = .ok (.putfield 69, 3) := by decide +kernel
theorem diM_280 : decode prog_11_method_3_code 280 = .ok (.aload_n 0, 1) := by decide +kernel
theorem diM_281 : decode prog_11_method_3_code 281 = .ok (.bipush 24, 2) := by decide +kernel
theorem diM_283 : decode prog_11_method_3_code 283 = .ok (.newarray .int, 2) := by decide +kernel
theorem diM_285 : decode prog_11_method_3_code 285 = .ok (.putfield 72, 3) := by decide +kernel
theorem diM_288 : decode prog_11_method_3_code 288 = .ok (.aload_n 0, 1) := by decide +kernel
theorem diM_289 : decode prog_11_method_3_code 289 = .ok (.sipush 576, 3) := by decide +kernel
theorem diM_292 : decode prog_11_method_3_code 292 = .ok (.newarray .int, 2) := by decide +kernel
theorem diM_294 : decode prog_11_method_3_code 294 = .ok (.putfield 75, 3) := by decide +kernel
theorem diM_297 : decode prog_11_method_3_code 297 = .ok (.aload_n 0, 1) := by decide +kernel
theorem diM_298 : decode prog_11_method_3_code 298 = .ok (.sipush 1152, 3) := by decide +kernel
theorem diM_301 : decode prog_11_method_3_code 301 = .ok (.newarray .int, 2) := by decide +kernel
theorem diM_303 : decode prog_11_method_3_code 303 = .ok (.putfield 78, 3) := by decide +kernel
theorem diM_306 : decode prog_11_method_3_code 306 = .ok (.aload_n 0, 1) := by decide +kernel
theorem diM_307 : decode prog_11_method_3_code 307 = .ok (.sipush 1152, 3) := by decide +kernel
theorem diM_310 : decode prog_11_method_3_code 310 = .ok (.newarray .int, 2) := by decide +kernel
theorem diM_312 : decode prog_11_method_3_code 312 = .ok (.putfield 81, 3) := by decide +kernel
theorem diM_315 : decode prog_11_method_3_code 315 = .ok (.aload_n 0, 1) := by decide +kernel
theorem diM_316 : decode prog_11_method_3_code 316 = .ok (.sipush 1152, 3) := by decide +kernel
theorem diM_319 : decode prog_11_method_3_code 319 = .ok (.newarray .int, 2) := by decide +kernel
theorem diM_321 : decode prog_11_method_3_code 321 = .ok (.putfield 84, 3) := by decide +kernel
theorem diM_324 : decode prog_11_method_3_code 324 = .ok (.aload_n 0, 1) := by decide +kernel
theorem diM_325 : decode prog_11_method_3_code 325 = .ok (.sipush 1152, 3) := by decide +kernel
theorem diM_328 : decode prog_11_method_3_code 328 = .ok (.newarray .int, 2) := by decide +kernel
theorem diM_330 : decode prog_11_method_3_code 330 = .ok (.putfield 87, 3) := by decide +kernel
theorem diM_333 : decode prog_11_method_3_code 333 = .ok (.aload_n 0, 1) := by decide +kernel
theorem diM_334 : decode prog_11_method_3_code 334 = .ok (.bipush 48, 2) := by decide +kernel
theorem diM_336 : decode prog_11_method_3_code 336 = .ok (.newarray .int, 2) := by decide +kernel
theorem diM_338 : decode prog_11_method_3_code 338 = .ok (.putfield 90, 3) := by decide +kernel
theorem diM_341 : decode prog_11_method_3_code 341 = .ok (.aload_n 0, 1) := by decide +kernel
theorem diM_342 : decode prog_11_method_3_code 342 = .ok (.bipush 48, 2) := by decide +kernel
theorem diM_344 : decode prog_11_method_3_code 344 = .ok (.newarray .boolean, 2) := by decide +kernel
theorem diM_346 : decode prog_11_method_3_code 346 = .ok (.putfield 93, 3) := by decide +kernel
theorem diM_349 : decode prog_11_method_3_code 349 = .ok (.aload_n 0, 1) := by decide +kernel
theorem diM_350 : decode prog_11_method_3_code 350 = .ok (.sipush 1152, 3) := by decide +kernel
theorem diM_353 : decode prog_11_method_3_code 353 = .ok (.newarray .int, 2) := by decide +kernel
theorem diM_355 : decode prog_11_method_3_code 355 = .ok (.putfield 97, 3) := by decide +kernel
theorem diM_358 : decode prog_11_method_3_code 358 = .ok (.aload_n 0, 1) := by decide +kernel
theorem diM_359 : decode prog_11_method_3_code 359 = .ok (.sipush 1152, 3) := by decide +kernel
theorem diM_362 : decode prog_11_method_3_code 362 = .ok (.newarray .int, 2) := by decide +kernel
theorem diM_364 : decode prog_11_method_3_code 364 = .ok (.putfield 100, 3) := by decide +kernel
theorem diM_367 : decode prog_11_method_3_code 367 = .ok (.aload_n 0, 1) := by decide +kernel
theorem diM_368 : decode prog_11_method_3_code 368 = .ok (.bipush 12, 2) := by decide +kernel
theorem diM_370 : decode prog_11_method_3_code 370 = .ok (.newarray .int, 2) := by decide +kernel
theorem diM_372 : decode prog_11_method_3_code 372 = .ok (.putfield 103, 3) := by decide +kernel
theorem diM_375 : decode prog_11_method_3_code 375 = .ok (.iconst 0, 1) := by decide +kernel
theorem diM_376 : decode prog_11_method_3_code 376 = .ok (.istore_n 1, 1) := by decide +kernel
theorem diM_377 : decode prog_11_method_3_code 377 = .ok (.iload_n 1, 1) := by decide +kernel
theorem diM_378 : decode prog_11_method_3_code 378 = .ok (.bipush 48, 2) := by decide +kernel
theorem diM_380 : decode prog_11_method_3_code 380 = .ok (.if_icmp .ge 16, 3) := by decide +kernel
theorem diM_383 : decode prog_11_method_3_code 383 = .ok (.aload_n 0, 1) := by decide +kernel
theorem diM_384 : decode prog_11_method_3_code 384 = .ok (.getfield 56, 3) := by decide +kernel
theorem diM_387 : decode prog_11_method_3_code 387 = .ok (.iload_n 1, 1) := by decide +kernel
theorem diM_388 : decode prog_11_method_3_code 388 = .ok (.iconst (-1), 1) := by decide +kernel
theorem diM_389 : decode prog_11_method_3_code 389 = .ok (.iastore, 1) := by decide +kernel
theorem diM_390 : decode prog_11_method_3_code 390 = .ok (.iinc 1 1, 3) := by decide +kernel
theorem diM_393 : decode prog_11_method_3_code 393 = .ok (.goto (-16), 3) := by decide +kernel
theorem diM_396 : decode prog_11_method_3_code 396 = .ok (.return_, 1) := by decide +kernel
theorem g_mloop {X : KG} {d mc ms a b k cells slots : Nat} (hX : gOk X d mc ms prog_11_method_3_code 2 "KeyPathModel") {fs : List Value} {v : va_W} (hv : v[k]? = some (b, .inr (9, fs))) (hf : fs[18]? = some (.ref a)) (hend : gW X cells slots 396 [(1, .int (nI 48)), (0, .ref b)] [] ((a, .inl (gK X 1, 48, .inl (fun _ => -1))) :: v)) : ∀ n i : Nat, i + n = 48 → gW X cells slots 377 [(1, .int (nI i)), (0, .ref b)] [] ((a, .inl (gK X 1, 48, .inl (fun j => if j < i then -1 else 0))) :: v)
  | 0, i, h => by
    have h : i = 48 := by omega
    subst h
    refine g_iload hX diM_377 rfl 0 rfl ?_
    refine g_bipush (v := nI 48) hX diM_378 (by decide) ?_
    refine g_ge (tgt := 396) hX diM_380 (by decide) (fun _ => ?_) (fun h => absurd (nI_le (Nat.le_refl 48) (by decide)) h)
    refine g_swap (g := fun _ => -1) (fun j h => if_pos h) ?_
    exact hend
  | n + 1, i, h => by
    refine g_iload hX diM_377 rfl 0 rfl ?_
    refine g_bipush (v := nI 48) hX diM_378 (by decide) ?_
    refine g_ge (tgt := 396) hX diM_380 (by decide) (fun h1 => absurd h1 (nI_ge (by omega) (by decide))) (fun _ => ?_)
    refine g_aload hX diM_383 rfl 1 rfl ?_
    refine g_get (ci := 9) (k := 18) (q0 := k + 1) hX rfl k_lay9 (by decide) cw_1005 rfl hv hf diM_384 ?_
    refine g_iload hX diM_387 rfl 0 rfl ?_
    refine g_iconst (v := -1) hX diM_388 (by decide) ?_
    refine g_iast (q0 := 0) (w' := (a, .inl (gK X 1, 48, .inl (upd (fun j => if j < i then -1 else 0) (nI i).toNatClampNeg (-1)))) :: v) hX rfl (nI_in (by omega) (by decide)) rfl diM_389 ?_
    refine g_swap (g := fun j => if j < i + 1 then -1 else 0) (fun j _ => g_down (by omega) j) ?_
    refine g_iinc (v := nI (i + 1)) (lv' := [(1, .int (nI (i + 1))), (0, .ref b)]) hX diM_390 0 rfl (by rw [nI_succ]; rfl) (by decide) rfl ?_
    refine g_goto (tgt := 377) hX diM_393 (by decide) ?_
    exact g_mloop hX hv hf hend n (i + 1) (by omega)
set_option maxRecDepth 100000 in
set_option maxHeartbeats 4000000 in
theorem giM : gSem 1 23 12038 (⟨"KeyPathModel", "<init>", "()V"⟩ : MethodName) prog_11_method_3_code 2 (fun b => [.ref b]) (fun _ b w => (b, .inr (9, .int 0 :: .null :: .null :: .null :: .null :: .null :: .null :: .int 0 :: .int 0 :: .null :: .int 0 :: .int 0 :: .int 0 :: .int 0 :: .int 0 :: .int 0 :: .int 0 :: .null :: .null :: .null :: .int 0 :: .int 0 :: .int 0 :: .int 0 :: .int 0 :: .int 0 :: .null :: .int 0 :: .null :: .null :: .null :: .null :: .null :: .null :: .null :: .null :: .null :: .int 0 :: .int 0 :: .null :: .null :: .null :: [])) :: w) (fun K b w u => ∃ q245 q370 q362 q353 q344 q336 q328 q319 q310 q301 q292 q283 q275 q267 q254 q99 q56 q47 q39 q31 q23 q15 q7 : Nat, u = (q245, .inl (K 1, 48, .inl (fun _ => -1))) :: (q370, .inl (K 1, 12, .inl (fun _ => 0))) :: (q362, .inl (K 1, 1152, .inl (fun _ => 0))) :: (q353, .inl (K 1, 1152, .inl (fun _ => 0))) :: (q344, .inl (K 3, 48, .inl (fun _ => 0))) :: (q336, .inl (K 1, 48, .inl (fun _ => 0))) :: (q328, .inl (K 1, 1152, .inl (fun _ => 0))) :: (q319, .inl (K 1, 1152, .inl (fun _ => 0))) :: (q310, .inl (K 1, 1152, .inl (fun _ => 0))) :: (q301, .inl (K 1, 1152, .inl (fun _ => 0))) :: (q292, .inl (K 1, 576, .inl (fun _ => 0))) :: (q283, .inl (K 1, 24, .inl (fun _ => 0))) :: (q275, .inl (K 1, 24, .inl (fun _ => 0))) :: (q267, .inl (K 1, 12, .inl (fun _ => 0))) :: (q254, .inl (K 2, 700, .inl (fun _ => 0))) :: (q99, .inl (K 1, 24, .inl (fun j => c32 (k_s5 j)))) :: (q56, .inl (K 1, 3010, .inl (fun _ => 0))) :: (q47, .inl (K 1, 100, .inl (fun _ => 0))) :: (q39, .inl (K 1, 100, .inl (fun _ => 0))) :: (q31, .inl (K 1, 100, .inl (fun _ => 0))) :: (q23, .inl (K 1, 100, .inl (fun _ => 0))) :: (q15, .inl (K 1, 100, .inl (fun _ => 0))) :: (q7, .inl (K 1, 100, .inl (fun _ => 0))) :: (b, .inr (9, .int 0 :: .ref q7 :: .ref q15 :: .ref q23 :: .ref q31 :: .ref q39 :: .ref q47 :: .int 0 :: .int 0 :: .ref q56 :: .int 0 :: .int 16 :: .int 8 :: .int 40 :: .int 30 :: .int 60 :: .int 1 :: .ref q99 :: .ref q245 :: .ref q254 :: .int 0 :: .int 0 :: .int 0 :: .int 0 :: .int (-1) :: .int 0 :: .ref q267 :: .int 0 :: .ref q275 :: .ref q283 :: .ref q292 :: .ref q301 :: .ref q310 :: .ref q319 :: .ref q328 :: .ref q336 :: .ref q344 :: .int 0 :: .int 0 :: .ref q353 :: .ref q362 :: .ref q370 :: [])) :: w) := by
  refine gSem.of (lv := fun b => [(0, .ref b)]) (by decide) (fun _ => Nat.le_of_ble_eq_true rfl) (fun _ => rfl) (fun X b w hX hI hR => ?_)
  have hI := hI rfl
  refine g_aload hX diM_0 rfl 0 rfl ?_
  refine g_obj hX cw_986 cw_24 cw_25 (by decide) (Nat.le_of_ble_eq_true rfl) diM_1 ?_
  refine g_aload hX diM_4 rfl 0 rfl ?_
  refine g_bipush (v := 100) hX diM_5 (by decide) ?_
  refine g_newa (atype := .int) (ty := .int) (t := 1) (N := 100) (cells' := 1) (slots' := 100) hX rfl (fun _ => rfl) (fun _ _ h => h) rfl cw_60 (by decide) (by decide) (by decide) rfl rfl (by decide) (by decide) diM_7 (fun q7 => ?_)
  refine g_putF (ci := 9) (k := 1) (q0 := 1) (ty0 := k_y9) (w' := (q7, .inl (gK X 1, 100, .inl (fun _ => 0))) :: (b, .inr (9, .int 0 :: .ref q7 :: .null :: .null :: .null :: .null :: .null :: .int 0 :: .int 0 :: .null :: .int 0 :: .int 0 :: .int 0 :: .int 0 :: .int 0 :: .int 0 :: .int 0 :: .null :: .null :: .null :: .int 0 :: .int 0 :: .int 0 :: .int 0 :: .int 0 :: .int 0 :: .null :: .int 0 :: .null :: .null :: .null :: .null :: .null :: .null :: .null :: .null :: .null :: .int 0 :: .int 0 :: .null :: .null :: .null :: [])) :: w) hX hI rfl k_lay9 k_ok9 k_n9 (by decide) cw_988 rfl rfl rfl rfl rfl (Nat.le_of_ble_eq_true rfl) rfl diM_9 ?_
  refine g_aload hX diM_12 rfl 0 rfl ?_
  refine g_bipush (v := 100) hX diM_13 (by decide) ?_
  refine g_newa (atype := .int) (ty := .int) (t := 1) (N := 100) (cells' := 2) (slots' := 200) hX rfl (fun _ => rfl) (fun _ _ h => h) rfl cw_60 (by decide) (by decide) (by decide) rfl rfl (by decide) (by decide) diM_15 (fun q15 => ?_)
  refine g_at (pc := 17) rfl ?_
  refine g_putF (ci := 9) (k := 2) (q0 := 2) (ty0 := k_y9) (w' := (q15, .inl (gK X 1, 100, .inl (fun _ => 0))) :: (q7, .inl (gK X 1, 100, .inl (fun _ => 0))) :: (b, .inr (9, .int 0 :: .ref q7 :: .ref q15 :: .null :: .null :: .null :: .null :: .int 0 :: .int 0 :: .null :: .int 0 :: .int 0 :: .int 0 :: .int 0 :: .int 0 :: .int 0 :: .int 0 :: .null :: .null :: .null :: .int 0 :: .int 0 :: .int 0 :: .int 0 :: .int 0 :: .int 0 :: .null :: .int 0 :: .null :: .null :: .null :: .null :: .null :: .null :: .null :: .null :: .null :: .int 0 :: .int 0 :: .null :: .null :: .null :: [])) :: w) hX hI rfl k_lay9 k_ok9 k_n9 (by decide) cw_989 rfl rfl rfl rfl rfl (Nat.le_of_ble_eq_true rfl) rfl diM_17 ?_
  refine g_aload hX diM_20 rfl 0 rfl ?_
  refine g_bipush (v := 100) hX diM_21 (by decide) ?_
  refine g_newa (atype := .int) (ty := .int) (t := 1) (N := 100) (cells' := 3) (slots' := 300) hX rfl (fun _ => rfl) (fun _ _ h => h) rfl cw_60 (by decide) (by decide) (by decide) rfl rfl (by decide) (by decide) diM_23 (fun q23 => ?_)
  refine g_putF (ci := 9) (k := 3) (q0 := 3) (ty0 := k_y9) (w' := (q23, .inl (gK X 1, 100, .inl (fun _ => 0))) :: (q15, .inl (gK X 1, 100, .inl (fun _ => 0))) :: (q7, .inl (gK X 1, 100, .inl (fun _ => 0))) :: (b, .inr (9, .int 0 :: .ref q7 :: .ref q15 :: .ref q23 :: .null :: .null :: .null :: .int 0 :: .int 0 :: .null :: .int 0 :: .int 0 :: .int 0 :: .int 0 :: .int 0 :: .int 0 :: .int 0 :: .null :: .null :: .null :: .int 0 :: .int 0 :: .int 0 :: .int 0 :: .int 0 :: .int 0 :: .null :: .int 0 :: .null :: .null :: .null :: .null :: .null :: .null :: .null :: .null :: .null :: .int 0 :: .int 0 :: .null :: .null :: .null :: [])) :: w) hX hI rfl k_lay9 k_ok9 k_n9 (by decide) cw_990 rfl rfl rfl rfl rfl (Nat.le_of_ble_eq_true rfl) rfl diM_25 ?_
  refine g_aload hX diM_28 rfl 0 rfl ?_
  refine g_bipush (v := 100) hX diM_29 (by decide) ?_
  refine g_newa (atype := .int) (ty := .int) (t := 1) (N := 100) (cells' := 4) (slots' := 400) hX rfl (fun _ => rfl) (fun _ _ h => h) rfl cw_60 (by decide) (by decide) (by decide) rfl rfl (by decide) (by decide) diM_31 (fun q31 => ?_)
  refine g_putF (ci := 9) (k := 4) (q0 := 4) (ty0 := k_y9) (w' := (q31, .inl (gK X 1, 100, .inl (fun _ => 0))) :: (q23, .inl (gK X 1, 100, .inl (fun _ => 0))) :: (q15, .inl (gK X 1, 100, .inl (fun _ => 0))) :: (q7, .inl (gK X 1, 100, .inl (fun _ => 0))) :: (b, .inr (9, .int 0 :: .ref q7 :: .ref q15 :: .ref q23 :: .ref q31 :: .null :: .null :: .int 0 :: .int 0 :: .null :: .int 0 :: .int 0 :: .int 0 :: .int 0 :: .int 0 :: .int 0 :: .int 0 :: .null :: .null :: .null :: .int 0 :: .int 0 :: .int 0 :: .int 0 :: .int 0 :: .int 0 :: .null :: .int 0 :: .null :: .null :: .null :: .null :: .null :: .null :: .null :: .null :: .null :: .int 0 :: .int 0 :: .null :: .null :: .null :: [])) :: w) hX hI rfl k_lay9 k_ok9 k_n9 (by decide) cw_991 rfl rfl rfl rfl rfl (Nat.le_of_ble_eq_true rfl) rfl diM_33 ?_
  refine g_aload hX diM_36 rfl 0 rfl ?_
  refine g_at (pc := 37) rfl ?_
  refine g_bipush (v := 100) hX diM_37 (by decide) ?_
  refine g_newa (atype := .int) (ty := .int) (t := 1) (N := 100) (cells' := 5) (slots' := 500) hX rfl (fun _ => rfl) (fun _ _ h => h) rfl cw_60 (by decide) (by decide) (by decide) rfl rfl (by decide) (by decide) diM_39 (fun q39 => ?_)
  refine g_putF (ci := 9) (k := 5) (q0 := 5) (ty0 := k_y9) (w' := (q39, .inl (gK X 1, 100, .inl (fun _ => 0))) :: (q31, .inl (gK X 1, 100, .inl (fun _ => 0))) :: (q23, .inl (gK X 1, 100, .inl (fun _ => 0))) :: (q15, .inl (gK X 1, 100, .inl (fun _ => 0))) :: (q7, .inl (gK X 1, 100, .inl (fun _ => 0))) :: (b, .inr (9, .int 0 :: .ref q7 :: .ref q15 :: .ref q23 :: .ref q31 :: .ref q39 :: .null :: .int 0 :: .int 0 :: .null :: .int 0 :: .int 0 :: .int 0 :: .int 0 :: .int 0 :: .int 0 :: .int 0 :: .null :: .null :: .null :: .int 0 :: .int 0 :: .int 0 :: .int 0 :: .int 0 :: .int 0 :: .null :: .int 0 :: .null :: .null :: .null :: .null :: .null :: .null :: .null :: .null :: .null :: .int 0 :: .int 0 :: .null :: .null :: .null :: [])) :: w) hX hI rfl k_lay9 k_ok9 k_n9 (by decide) cw_992 rfl rfl rfl rfl rfl (Nat.le_of_ble_eq_true rfl) rfl diM_41 ?_
  refine g_aload hX diM_44 rfl 0 rfl ?_
  refine g_bipush (v := 100) hX diM_45 (by decide) ?_
  refine g_newa (atype := .int) (ty := .int) (t := 1) (N := 100) (cells' := 6) (slots' := 600) hX rfl (fun _ => rfl) (fun _ _ h => h) rfl cw_60 (by decide) (by decide) (by decide) rfl rfl (by decide) (by decide) diM_47 (fun q47 => ?_)
  refine g_putF (ci := 9) (k := 6) (q0 := 6) (ty0 := k_y9) (w' := (q47, .inl (gK X 1, 100, .inl (fun _ => 0))) :: (q39, .inl (gK X 1, 100, .inl (fun _ => 0))) :: (q31, .inl (gK X 1, 100, .inl (fun _ => 0))) :: (q23, .inl (gK X 1, 100, .inl (fun _ => 0))) :: (q15, .inl (gK X 1, 100, .inl (fun _ => 0))) :: (q7, .inl (gK X 1, 100, .inl (fun _ => 0))) :: (b, .inr (9, .int 0 :: .ref q7 :: .ref q15 :: .ref q23 :: .ref q31 :: .ref q39 :: .ref q47 :: .int 0 :: .int 0 :: .null :: .int 0 :: .int 0 :: .int 0 :: .int 0 :: .int 0 :: .int 0 :: .int 0 :: .null :: .null :: .null :: .int 0 :: .int 0 :: .int 0 :: .int 0 :: .int 0 :: .int 0 :: .null :: .int 0 :: .null :: .null :: .null :: .null :: .null :: .null :: .null :: .null :: .null :: .int 0 :: .int 0 :: .null :: .null :: .null :: [])) :: w) hX hI rfl k_lay9 k_ok9 k_n9 (by decide) cw_993 rfl rfl rfl rfl rfl (Nat.le_of_ble_eq_true rfl) rfl diM_49 ?_
  refine g_aload hX diM_52 rfl 0 rfl ?_
  refine g_sipush (v := 3010) hX diM_53 (by decide) ?_
  refine g_newa (atype := .int) (ty := .int) (t := 1) (N := 3010) (cells' := 7) (slots' := 3610) hX rfl (fun _ => rfl) (fun _ _ h => h) rfl cw_60 (by decide) (by decide) (by decide) rfl rfl (by decide) (by decide) diM_56 (fun q56 => ?_)
  refine g_at (pc := 58) rfl ?_
  refine g_putF (ci := 9) (k := 9) (q0 := 7) (ty0 := k_y9) (w' := (q56, .inl (gK X 1, 3010, .inl (fun _ => 0))) :: (q47, .inl (gK X 1, 100, .inl (fun _ => 0))) :: (q39, .inl (gK X 1, 100, .inl (fun _ => 0))) :: (q31, .inl (gK X 1, 100, .inl (fun _ => 0))) :: (q23, .inl (gK X 1, 100, .inl (fun _ => 0))) :: (q15, .inl (gK X 1, 100, .inl (fun _ => 0))) :: (q7, .inl (gK X 1, 100, .inl (fun _ => 0))) :: (b, .inr (9, .int 0 :: .ref q7 :: .ref q15 :: .ref q23 :: .ref q31 :: .ref q39 :: .ref q47 :: .int 0 :: .int 0 :: .ref q56 :: .int 0 :: .int 0 :: .int 0 :: .int 0 :: .int 0 :: .int 0 :: .int 0 :: .null :: .null :: .null :: .int 0 :: .int 0 :: .int 0 :: .int 0 :: .int 0 :: .int 0 :: .null :: .int 0 :: .null :: .null :: .null :: .null :: .null :: .null :: .null :: .null :: .null :: .int 0 :: .int 0 :: .null :: .null :: .null :: [])) :: w) hX hI rfl k_lay9 k_ok9 k_n9 (by decide) cw_996 rfl rfl rfl rfl rfl (Nat.le_of_ble_eq_true rfl) rfl diM_58 ?_
  refine g_aload hX diM_61 rfl 0 rfl ?_
  refine g_bipush (v := 16) hX diM_62 (by decide) ?_
  refine g_put (ci := 9) (k := 11) (q0 := 7) (ty0 := k_y9) (w' := (q56, .inl (gK X 1, 3010, .inl (fun _ => 0))) :: (q47, .inl (gK X 1, 100, .inl (fun _ => 0))) :: (q39, .inl (gK X 1, 100, .inl (fun _ => 0))) :: (q31, .inl (gK X 1, 100, .inl (fun _ => 0))) :: (q23, .inl (gK X 1, 100, .inl (fun _ => 0))) :: (q15, .inl (gK X 1, 100, .inl (fun _ => 0))) :: (q7, .inl (gK X 1, 100, .inl (fun _ => 0))) :: (b, .inr (9, .int 0 :: .ref q7 :: .ref q15 :: .ref q23 :: .ref q31 :: .ref q39 :: .ref q47 :: .int 0 :: .int 0 :: .ref q56 :: .int 0 :: .int 16 :: .int 0 :: .int 0 :: .int 0 :: .int 0 :: .int 0 :: .null :: .null :: .null :: .int 0 :: .int 0 :: .int 0 :: .int 0 :: .int 0 :: .int 0 :: .null :: .int 0 :: .null :: .null :: .null :: .null :: .null :: .null :: .null :: .null :: .null :: .int 0 :: .int 0 :: .null :: .null :: .null :: [])) :: w) hX rfl k_lay9 k_ok9 k_n9 (by decide) cw_998 rfl rfl rfl rfl rfl (Nat.le_of_ble_eq_true rfl) rfl diM_64 ?_
  refine g_aload hX diM_67 rfl 0 rfl ?_
  refine g_bipush (v := 8) hX diM_68 (by decide) ?_
  refine g_put (ci := 9) (k := 12) (q0 := 7) (ty0 := k_y9) (w' := (q56, .inl (gK X 1, 3010, .inl (fun _ => 0))) :: (q47, .inl (gK X 1, 100, .inl (fun _ => 0))) :: (q39, .inl (gK X 1, 100, .inl (fun _ => 0))) :: (q31, .inl (gK X 1, 100, .inl (fun _ => 0))) :: (q23, .inl (gK X 1, 100, .inl (fun _ => 0))) :: (q15, .inl (gK X 1, 100, .inl (fun _ => 0))) :: (q7, .inl (gK X 1, 100, .inl (fun _ => 0))) :: (b, .inr (9, .int 0 :: .ref q7 :: .ref q15 :: .ref q23 :: .ref q31 :: .ref q39 :: .ref q47 :: .int 0 :: .int 0 :: .ref q56 :: .int 0 :: .int 16 :: .int 8 :: .int 0 :: .int 0 :: .int 0 :: .int 0 :: .null :: .null :: .null :: .int 0 :: .int 0 :: .int 0 :: .int 0 :: .int 0 :: .int 0 :: .null :: .int 0 :: .null :: .null :: .null :: .null :: .null :: .null :: .null :: .null :: .null :: .int 0 :: .int 0 :: .null :: .null :: .null :: [])) :: w) hX rfl k_lay9 k_ok9 k_n9 (by decide) cw_999 rfl rfl rfl rfl rfl (Nat.le_of_ble_eq_true rfl) rfl diM_70 ?_
  refine g_aload hX diM_73 rfl 0 rfl ?_
  refine g_bipush (v := 40) hX diM_74 (by decide) ?_
  refine g_put (ci := 9) (k := 13) (q0 := 7) (ty0 := k_y9) (w' := (q56, .inl (gK X 1, 3010, .inl (fun _ => 0))) :: (q47, .inl (gK X 1, 100, .inl (fun _ => 0))) :: (q39, .inl (gK X 1, 100, .inl (fun _ => 0))) :: (q31, .inl (gK X 1, 100, .inl (fun _ => 0))) :: (q23, .inl (gK X 1, 100, .inl (fun _ => 0))) :: (q15, .inl (gK X 1, 100, .inl (fun _ => 0))) :: (q7, .inl (gK X 1, 100, .inl (fun _ => 0))) :: (b, .inr (9, .int 0 :: .ref q7 :: .ref q15 :: .ref q23 :: .ref q31 :: .ref q39 :: .ref q47 :: .int 0 :: .int 0 :: .ref q56 :: .int 0 :: .int 16 :: .int 8 :: .int 40 :: .int 0 :: .int 0 :: .int 0 :: .null :: .null :: .null :: .int 0 :: .int 0 :: .int 0 :: .int 0 :: .int 0 :: .int 0 :: .null :: .int 0 :: .null :: .null :: .null :: .null :: .null :: .null :: .null :: .null :: .null :: .int 0 :: .int 0 :: .null :: .null :: .null :: [])) :: w) hX rfl k_lay9 k_ok9 k_n9 (by decide) cw_1000 rfl rfl rfl rfl rfl (Nat.le_of_ble_eq_true rfl) rfl diM_76 ?_
  refine g_at (pc := 79) rfl ?_
  refine g_aload hX diM_79 rfl 0 rfl ?_
  refine g_bipush (v := 30) hX diM_80 (by decide) ?_
  refine g_put (ci := 9) (k := 14) (q0 := 7) (ty0 := k_y9) (w' := (q56, .inl (gK X 1, 3010, .inl (fun _ => 0))) :: (q47, .inl (gK X 1, 100, .inl (fun _ => 0))) :: (q39, .inl (gK X 1, 100, .inl (fun _ => 0))) :: (q31, .inl (gK X 1, 100, .inl (fun _ => 0))) :: (q23, .inl (gK X 1, 100, .inl (fun _ => 0))) :: (q15, .inl (gK X 1, 100, .inl (fun _ => 0))) :: (q7, .inl (gK X 1, 100, .inl (fun _ => 0))) :: (b, .inr (9, .int 0 :: .ref q7 :: .ref q15 :: .ref q23 :: .ref q31 :: .ref q39 :: .ref q47 :: .int 0 :: .int 0 :: .ref q56 :: .int 0 :: .int 16 :: .int 8 :: .int 40 :: .int 30 :: .int 0 :: .int 0 :: .null :: .null :: .null :: .int 0 :: .int 0 :: .int 0 :: .int 0 :: .int 0 :: .int 0 :: .null :: .int 0 :: .null :: .null :: .null :: .null :: .null :: .null :: .null :: .null :: .null :: .int 0 :: .int 0 :: .null :: .null :: .null :: [])) :: w) hX rfl k_lay9 k_ok9 k_n9 (by decide) cw_1001 rfl rfl rfl rfl rfl (Nat.le_of_ble_eq_true rfl) rfl diM_82 ?_
  refine g_aload hX diM_85 rfl 0 rfl ?_
  refine g_bipush (v := 60) hX diM_86 (by decide) ?_
  refine g_put (ci := 9) (k := 15) (q0 := 7) (ty0 := k_y9) (w' := (q56, .inl (gK X 1, 3010, .inl (fun _ => 0))) :: (q47, .inl (gK X 1, 100, .inl (fun _ => 0))) :: (q39, .inl (gK X 1, 100, .inl (fun _ => 0))) :: (q31, .inl (gK X 1, 100, .inl (fun _ => 0))) :: (q23, .inl (gK X 1, 100, .inl (fun _ => 0))) :: (q15, .inl (gK X 1, 100, .inl (fun _ => 0))) :: (q7, .inl (gK X 1, 100, .inl (fun _ => 0))) :: (b, .inr (9, .int 0 :: .ref q7 :: .ref q15 :: .ref q23 :: .ref q31 :: .ref q39 :: .ref q47 :: .int 0 :: .int 0 :: .ref q56 :: .int 0 :: .int 16 :: .int 8 :: .int 40 :: .int 30 :: .int 60 :: .int 0 :: .null :: .null :: .null :: .int 0 :: .int 0 :: .int 0 :: .int 0 :: .int 0 :: .int 0 :: .null :: .int 0 :: .null :: .null :: .null :: .null :: .null :: .null :: .null :: .null :: .null :: .int 0 :: .int 0 :: .null :: .null :: .null :: [])) :: w) hX rfl k_lay9 k_ok9 k_n9 (by decide) cw_1002 rfl rfl rfl rfl rfl (Nat.le_of_ble_eq_true rfl) rfl diM_88 ?_
  refine g_aload hX diM_91 rfl 0 rfl ?_
  refine g_iconst (v := 1) hX diM_92 (by decide) ?_
  refine g_put (ci := 9) (k := 16) (q0 := 7) (ty0 := k_y9) (w' := (q56, .inl (gK X 1, 3010, .inl (fun _ => 0))) :: (q47, .inl (gK X 1, 100, .inl (fun _ => 0))) :: (q39, .inl (gK X 1, 100, .inl (fun _ => 0))) :: (q31, .inl (gK X 1, 100, .inl (fun _ => 0))) :: (q23, .inl (gK X 1, 100, .inl (fun _ => 0))) :: (q15, .inl (gK X 1, 100, .inl (fun _ => 0))) :: (q7, .inl (gK X 1, 100, .inl (fun _ => 0))) :: (b, .inr (9, .int 0 :: .ref q7 :: .ref q15 :: .ref q23 :: .ref q31 :: .ref q39 :: .ref q47 :: .int 0 :: .int 0 :: .ref q56 :: .int 0 :: .int 16 :: .int 8 :: .int 40 :: .int 30 :: .int 60 :: .int 1 :: .null :: .null :: .null :: .int 0 :: .int 0 :: .int 0 :: .int 0 :: .int 0 :: .int 0 :: .null :: .int 0 :: .null :: .null :: .null :: .null :: .null :: .null :: .null :: .null :: .null :: .int 0 :: .int 0 :: .null :: .null :: .null :: [])) :: w) hX rfl k_lay9 k_ok9 k_n9 (by decide) cw_1003 rfl rfl rfl rfl rfl (Nat.le_of_ble_eq_true rfl) rfl diM_93 ?_
  refine g_aload hX diM_96 rfl 0 rfl ?_
  refine g_at (pc := 97) rfl ?_
  refine g_bipush (v := 24) hX diM_97 (by decide) ?_
  refine g_newa (atype := .int) (ty := .int) (t := 1) (N := 24) (cells' := 8) (slots' := 3634) hX rfl (fun _ => rfl) (fun _ _ h => h) rfl cw_60 (by decide) (by decide) (by decide) rfl rfl (by decide) (by decide) diM_99 (fun q99 => ?_)
  refine g_dup hX diM_101 rfl ?_
  refine g_iconst (v := 0) hX diM_102 (by decide) ?_
  refine g_bipush (v := 63) hX diM_103 (by decide) ?_
  refine g_swap (g := fun j => if j < 0 then c32 (k_s5 j) else 0) (fun j _ => by simp) ?_
  refine g_iast (q0 := 0) (w' := (q99, .inl (gK X 1, 24, .inl (upd (fun j => if j < 0 then c32 (k_s5 j) else 0) (0 : Int32).toNatClampNeg 63))) :: (q56, .inl (gK X 1, 3010, .inl (fun _ => 0))) :: (q47, .inl (gK X 1, 100, .inl (fun _ => 0))) :: (q39, .inl (gK X 1, 100, .inl (fun _ => 0))) :: (q31, .inl (gK X 1, 100, .inl (fun _ => 0))) :: (q23, .inl (gK X 1, 100, .inl (fun _ => 0))) :: (q15, .inl (gK X 1, 100, .inl (fun _ => 0))) :: (q7, .inl (gK X 1, 100, .inl (fun _ => 0))) :: (b, .inr (9, .int 0 :: .ref q7 :: .ref q15 :: .ref q23 :: .ref q31 :: .ref q39 :: .ref q47 :: .int 0 :: .int 0 :: .ref q56 :: .int 0 :: .int 16 :: .int 8 :: .int 40 :: .int 30 :: .int 60 :: .int 1 :: .null :: .null :: .null :: .int 0 :: .int 0 :: .int 0 :: .int 0 :: .int 0 :: .int 0 :: .null :: .int 0 :: .null :: .null :: .null :: .null :: .null :: .null :: .null :: .null :: .null :: .int 0 :: .int 0 :: .null :: .null :: .null :: [])) :: w) hX rfl (by unfold vp_in; decide) rfl diM_105 ?_
  refine g_swap (g := fun j => if j < 1 then c32 (k_s5 j) else 0) (fun j _ => g_step (by decide) (by decide) j) ?_
  refine g_dup hX diM_106 rfl ?_
  refine g_iconst (v := 1) hX diM_107 (by decide) ?_
  refine g_bipush (v := 22) hX diM_108 (by decide) ?_
  refine g_iast (q0 := 0) (w' := (q99, .inl (gK X 1, 24, .inl (upd (fun j => if j < 1 then c32 (k_s5 j) else 0) (1 : Int32).toNatClampNeg 22))) :: (q56, .inl (gK X 1, 3010, .inl (fun _ => 0))) :: (q47, .inl (gK X 1, 100, .inl (fun _ => 0))) :: (q39, .inl (gK X 1, 100, .inl (fun _ => 0))) :: (q31, .inl (gK X 1, 100, .inl (fun _ => 0))) :: (q23, .inl (gK X 1, 100, .inl (fun _ => 0))) :: (q15, .inl (gK X 1, 100, .inl (fun _ => 0))) :: (q7, .inl (gK X 1, 100, .inl (fun _ => 0))) :: (b, .inr (9, .int 0 :: .ref q7 :: .ref q15 :: .ref q23 :: .ref q31 :: .ref q39 :: .ref q47 :: .int 0 :: .int 0 :: .ref q56 :: .int 0 :: .int 16 :: .int 8 :: .int 40 :: .int 30 :: .int 60 :: .int 1 :: .null :: .null :: .null :: .int 0 :: .int 0 :: .int 0 :: .int 0 :: .int 0 :: .int 0 :: .null :: .int 0 :: .null :: .null :: .null :: .null :: .null :: .null :: .null :: .null :: .null :: .int 0 :: .int 0 :: .null :: .null :: .null :: [])) :: w) hX rfl (by unfold vp_in; decide) rfl diM_110 ?_
  refine g_swap (g := fun j => if j < 2 then c32 (k_s5 j) else 0) (fun j _ => g_step (by decide) (by decide) j) ?_
  refine g_at (pc := 111) rfl ?_
  refine g_dup hX diM_111 rfl ?_
  refine g_iconst (v := 2) hX diM_112 (by decide) ?_
  refine g_bipush (v := 35) hX diM_113 (by decide) ?_
  refine g_iast (q0 := 0) (w' := (q99, .inl (gK X 1, 24, .inl (upd (fun j => if j < 2 then c32 (k_s5 j) else 0) (2 : Int32).toNatClampNeg 35))) :: (q56, .inl (gK X 1, 3010, .inl (fun _ => 0))) :: (q47, .inl (gK X 1, 100, .inl (fun _ => 0))) :: (q39, .inl (gK X 1, 100, .inl (fun _ => 0))) :: (q31, .inl (gK X 1, 100, .inl (fun _ => 0))) :: (q23, .inl (gK X 1, 100, .inl (fun _ => 0))) :: (q15, .inl (gK X 1, 100, .inl (fun _ => 0))) :: (q7, .inl (gK X 1, 100, .inl (fun _ => 0))) :: (b, .inr (9, .int 0 :: .ref q7 :: .ref q15 :: .ref q23 :: .ref q31 :: .ref q39 :: .ref q47 :: .int 0 :: .int 0 :: .ref q56 :: .int 0 :: .int 16 :: .int 8 :: .int 40 :: .int 30 :: .int 60 :: .int 1 :: .null :: .null :: .null :: .int 0 :: .int 0 :: .int 0 :: .int 0 :: .int 0 :: .int 0 :: .null :: .int 0 :: .null :: .null :: .null :: .null :: .null :: .null :: .null :: .null :: .null :: .int 0 :: .int 0 :: .null :: .null :: .null :: [])) :: w) hX rfl (by unfold vp_in; decide) rfl diM_115 ?_
  refine g_swap (g := fun j => if j < 3 then c32 (k_s5 j) else 0) (fun j _ => g_step (by decide) (by decide) j) ?_
  refine g_dup hX diM_116 rfl ?_
  refine g_iconst (v := 3) hX diM_117 (by decide) ?_
  refine g_bipush (v := 23) hX diM_118 (by decide) ?_
  refine g_iast (q0 := 0) (w' := (q99, .inl (gK X 1, 24, .inl (upd (fun j => if j < 3 then c32 (k_s5 j) else 0) (3 : Int32).toNatClampNeg 23))) :: (q56, .inl (gK X 1, 3010, .inl (fun _ => 0))) :: (q47, .inl (gK X 1, 100, .inl (fun _ => 0))) :: (q39, .inl (gK X 1, 100, .inl (fun _ => 0))) :: (q31, .inl (gK X 1, 100, .inl (fun _ => 0))) :: (q23, .inl (gK X 1, 100, .inl (fun _ => 0))) :: (q15, .inl (gK X 1, 100, .inl (fun _ => 0))) :: (q7, .inl (gK X 1, 100, .inl (fun _ => 0))) :: (b, .inr (9, .int 0 :: .ref q7 :: .ref q15 :: .ref q23 :: .ref q31 :: .ref q39 :: .ref q47 :: .int 0 :: .int 0 :: .ref q56 :: .int 0 :: .int 16 :: .int 8 :: .int 40 :: .int 30 :: .int 60 :: .int 1 :: .null :: .null :: .null :: .int 0 :: .int 0 :: .int 0 :: .int 0 :: .int 0 :: .int 0 :: .null :: .int 0 :: .null :: .null :: .null :: .null :: .null :: .null :: .null :: .null :: .null :: .int 0 :: .int 0 :: .null :: .null :: .null :: [])) :: w) hX rfl (by unfold vp_in; decide) rfl diM_120 ?_
  refine g_swap (g := fun j => if j < 4 then c32 (k_s5 j) else 0) (fun j _ => g_step (by decide) (by decide) j) ?_
  refine g_dup hX diM_121 rfl ?_
  refine g_iconst (v := 4) hX diM_122 (by decide) ?_
  refine g_at (pc := 123) rfl ?_
  refine g_bipush (v := 44) hX diM_123 (by decide) ?_
  refine g_iast (q0 := 0) (w' := (q99, .inl (gK X 1, 24, .inl (upd (fun j => if j < 4 then c32 (k_s5 j) else 0) (4 : Int32).toNatClampNeg 44))) :: (q56, .inl (gK X 1, 3010, .inl (fun _ => 0))) :: (q47, .inl (gK X 1, 100, .inl (fun _ => 0))) :: (q39, .inl (gK X 1, 100, .inl (fun _ => 0))) :: (q31, .inl (gK X 1, 100, .inl (fun _ => 0))) :: (q23, .inl (gK X 1, 100, .inl (fun _ => 0))) :: (q15, .inl (gK X 1, 100, .inl (fun _ => 0))) :: (q7, .inl (gK X 1, 100, .inl (fun _ => 0))) :: (b, .inr (9, .int 0 :: .ref q7 :: .ref q15 :: .ref q23 :: .ref q31 :: .ref q39 :: .ref q47 :: .int 0 :: .int 0 :: .ref q56 :: .int 0 :: .int 16 :: .int 8 :: .int 40 :: .int 30 :: .int 60 :: .int 1 :: .null :: .null :: .null :: .int 0 :: .int 0 :: .int 0 :: .int 0 :: .int 0 :: .int 0 :: .null :: .int 0 :: .null :: .null :: .null :: .null :: .null :: .null :: .null :: .null :: .null :: .int 0 :: .int 0 :: .null :: .null :: .null :: [])) :: w) hX rfl (by unfold vp_in; decide) rfl diM_125 ?_
  refine g_swap (g := fun j => if j < 5 then c32 (k_s5 j) else 0) (fun j _ => g_step (by decide) (by decide) j) ?_
  refine g_dup hX diM_126 rfl ?_
  refine g_iconst (v := 5) hX diM_127 (by decide) ?_
  refine g_bipush (v := 41) hX diM_128 (by decide) ?_
  refine g_iast (q0 := 0) (w' := (q99, .inl (gK X 1, 24, .inl (upd (fun j => if j < 5 then c32 (k_s5 j) else 0) (5 : Int32).toNatClampNeg 41))) :: (q56, .inl (gK X 1, 3010, .inl (fun _ => 0))) :: (q47, .inl (gK X 1, 100, .inl (fun _ => 0))) :: (q39, .inl (gK X 1, 100, .inl (fun _ => 0))) :: (q31, .inl (gK X 1, 100, .inl (fun _ => 0))) :: (q23, .inl (gK X 1, 100, .inl (fun _ => 0))) :: (q15, .inl (gK X 1, 100, .inl (fun _ => 0))) :: (q7, .inl (gK X 1, 100, .inl (fun _ => 0))) :: (b, .inr (9, .int 0 :: .ref q7 :: .ref q15 :: .ref q23 :: .ref q31 :: .ref q39 :: .ref q47 :: .int 0 :: .int 0 :: .ref q56 :: .int 0 :: .int 16 :: .int 8 :: .int 40 :: .int 30 :: .int 60 :: .int 1 :: .null :: .null :: .null :: .int 0 :: .int 0 :: .int 0 :: .int 0 :: .int 0 :: .int 0 :: .null :: .int 0 :: .null :: .null :: .null :: .null :: .null :: .null :: .null :: .null :: .null :: .int 0 :: .int 0 :: .null :: .null :: .null :: [])) :: w) hX rfl (by unfold vp_in; decide) rfl diM_130 ?_
  refine g_swap (g := fun j => if j < 6 then c32 (k_s5 j) else 0) (fun j _ => g_step (by decide) (by decide) j) ?_
  refine g_dup hX diM_131 rfl ?_
  refine g_bipush (v := 6) hX diM_132 (by decide) ?_
  refine g_bipush (v := 25) hX diM_134 (by decide) ?_
  refine g_iast (q0 := 0) (w' := (q99, .inl (gK X 1, 24, .inl (upd (fun j => if j < 6 then c32 (k_s5 j) else 0) (6 : Int32).toNatClampNeg 25))) :: (q56, .inl (gK X 1, 3010, .inl (fun _ => 0))) :: (q47, .inl (gK X 1, 100, .inl (fun _ => 0))) :: (q39, .inl (gK X 1, 100, .inl (fun _ => 0))) :: (q31, .inl (gK X 1, 100, .inl (fun _ => 0))) :: (q23, .inl (gK X 1, 100, .inl (fun _ => 0))) :: (q15, .inl (gK X 1, 100, .inl (fun _ => 0))) :: (q7, .inl (gK X 1, 100, .inl (fun _ => 0))) :: (b, .inr (9, .int 0 :: .ref q7 :: .ref q15 :: .ref q23 :: .ref q31 :: .ref q39 :: .ref q47 :: .int 0 :: .int 0 :: .ref q56 :: .int 0 :: .int 16 :: .int 8 :: .int 40 :: .int 30 :: .int 60 :: .int 1 :: .null :: .null :: .null :: .int 0 :: .int 0 :: .int 0 :: .int 0 :: .int 0 :: .int 0 :: .null :: .int 0 :: .null :: .null :: .null :: .null :: .null :: .null :: .null :: .null :: .null :: .int 0 :: .int 0 :: .null :: .null :: .null :: [])) :: w) hX rfl (by unfold vp_in; decide) rfl diM_136 ?_
  refine g_swap (g := fun j => if j < 7 then c32 (k_s5 j) else 0) (fun j _ => g_step (by decide) (by decide) j) ?_
  refine g_at (pc := 137) rfl ?_
  refine g_dup hX diM_137 rfl ?_
  refine g_bipush (v := 7) hX diM_138 (by decide) ?_
  refine g_bipush (v := 52) hX diM_140 (by decide) ?_
  refine g_iast (q0 := 0) (w' := (q99, .inl (gK X 1, 24, .inl (upd (fun j => if j < 7 then c32 (k_s5 j) else 0) (7 : Int32).toNatClampNeg 52))) :: (q56, .inl (gK X 1, 3010, .inl (fun _ => 0))) :: (q47, .inl (gK X 1, 100, .inl (fun _ => 0))) :: (q39, .inl (gK X 1, 100, .inl (fun _ => 0))) :: (q31, .inl (gK X 1, 100, .inl (fun _ => 0))) :: (q23, .inl (gK X 1, 100, .inl (fun _ => 0))) :: (q15, .inl (gK X 1, 100, .inl (fun _ => 0))) :: (q7, .inl (gK X 1, 100, .inl (fun _ => 0))) :: (b, .inr (9, .int 0 :: .ref q7 :: .ref q15 :: .ref q23 :: .ref q31 :: .ref q39 :: .ref q47 :: .int 0 :: .int 0 :: .ref q56 :: .int 0 :: .int 16 :: .int 8 :: .int 40 :: .int 30 :: .int 60 :: .int 1 :: .null :: .null :: .null :: .int 0 :: .int 0 :: .int 0 :: .int 0 :: .int 0 :: .int 0 :: .null :: .int 0 :: .null :: .null :: .null :: .null :: .null :: .null :: .null :: .null :: .null :: .int 0 :: .int 0 :: .null :: .null :: .null :: [])) :: w) hX rfl (by unfold vp_in; decide) rfl diM_142 ?_
  refine g_swap (g := fun j => if j < 8 then c32 (k_s5 j) else 0) (fun j _ => g_step (by decide) (by decide) j) ?_
  refine g_dup hX diM_143 rfl ?_
  refine g_bipush (v := 8) hX diM_144 (by decide) ?_
  refine g_bipush (v := 24) hX diM_146 (by decide) ?_
  refine g_iast (q0 := 0) (w' := (q99, .inl (gK X 1, 24, .inl (upd (fun j => if j < 8 then c32 (k_s5 j) else 0) (8 : Int32).toNatClampNeg 24))) :: (q56, .inl (gK X 1, 3010, .inl (fun _ => 0))) :: (q47, .inl (gK X 1, 100, .inl (fun _ => 0))) :: (q39, .inl (gK X 1, 100, .inl (fun _ => 0))) :: (q31, .inl (gK X 1, 100, .inl (fun _ => 0))) :: (q23, .inl (gK X 1, 100, .inl (fun _ => 0))) :: (q15, .inl (gK X 1, 100, .inl (fun _ => 0))) :: (q7, .inl (gK X 1, 100, .inl (fun _ => 0))) :: (b, .inr (9, .int 0 :: .ref q7 :: .ref q15 :: .ref q23 :: .ref q31 :: .ref q39 :: .ref q47 :: .int 0 :: .int 0 :: .ref q56 :: .int 0 :: .int 16 :: .int 8 :: .int 40 :: .int 30 :: .int 60 :: .int 1 :: .null :: .null :: .null :: .int 0 :: .int 0 :: .int 0 :: .int 0 :: .int 0 :: .int 0 :: .null :: .int 0 :: .null :: .null :: .null :: .null :: .null :: .null :: .null :: .null :: .null :: .int 0 :: .int 0 :: .null :: .null :: .null :: [])) :: w) hX rfl (by unfold vp_in; decide) rfl diM_148 ?_
  refine g_swap (g := fun j => if j < 9 then c32 (k_s5 j) else 0) (fun j _ => g_step (by decide) (by decide) j) ?_
  refine g_dup hX diM_149 rfl ?_
  refine g_bipush (v := 9) hX diM_150 (by decide) ?_
  refine g_at (pc := 152) rfl ?_
  refine g_bipush (v := 37) hX diM_152 (by decide) ?_
  refine g_iast (q0 := 0) (w' := (q99, .inl (gK X 1, 24, .inl (upd (fun j => if j < 9 then c32 (k_s5 j) else 0) (9 : Int32).toNatClampNeg 37))) :: (q56, .inl (gK X 1, 3010, .inl (fun _ => 0))) :: (q47, .inl (gK X 1, 100, .inl (fun _ => 0))) :: (q39, .inl (gK X 1, 100, .inl (fun _ => 0))) :: (q31, .inl (gK X 1, 100, .inl (fun _ => 0))) :: (q23, .inl (gK X 1, 100, .inl (fun _ => 0))) :: (q15, .inl (gK X 1, 100, .inl (fun _ => 0))) :: (q7, .inl (gK X 1, 100, .inl (fun _ => 0))) :: (b, .inr (9, .int 0 :: .ref q7 :: .ref q15 :: .ref q23 :: .ref q31 :: .ref q39 :: .ref q47 :: .int 0 :: .int 0 :: .ref q56 :: .int 0 :: .int 16 :: .int 8 :: .int 40 :: .int 30 :: .int 60 :: .int 1 :: .null :: .null :: .null :: .int 0 :: .int 0 :: .int 0 :: .int 0 :: .int 0 :: .int 0 :: .null :: .int 0 :: .null :: .null :: .null :: .null :: .null :: .null :: .null :: .null :: .null :: .int 0 :: .int 0 :: .null :: .null :: .null :: [])) :: w) hX rfl (by unfold vp_in; decide) rfl diM_154 ?_
  refine g_swap (g := fun j => if j < 10 then c32 (k_s5 j) else 0) (fun j _ => g_step (by decide) (by decide) j) ?_
  refine g_dup hX diM_155 rfl ?_
  refine g_bipush (v := 10) hX diM_156 (by decide) ?_
  refine g_bipush (v := 23) hX diM_158 (by decide) ?_
  refine g_iast (q0 := 0) (w' := (q99, .inl (gK X 1, 24, .inl (upd (fun j => if j < 10 then c32 (k_s5 j) else 0) (10 : Int32).toNatClampNeg 23))) :: (q56, .inl (gK X 1, 3010, .inl (fun _ => 0))) :: (q47, .inl (gK X 1, 100, .inl (fun _ => 0))) :: (q39, .inl (gK X 1, 100, .inl (fun _ => 0))) :: (q31, .inl (gK X 1, 100, .inl (fun _ => 0))) :: (q23, .inl (gK X 1, 100, .inl (fun _ => 0))) :: (q15, .inl (gK X 1, 100, .inl (fun _ => 0))) :: (q7, .inl (gK X 1, 100, .inl (fun _ => 0))) :: (b, .inr (9, .int 0 :: .ref q7 :: .ref q15 :: .ref q23 :: .ref q31 :: .ref q39 :: .ref q47 :: .int 0 :: .int 0 :: .ref q56 :: .int 0 :: .int 16 :: .int 8 :: .int 40 :: .int 30 :: .int 60 :: .int 1 :: .null :: .null :: .null :: .int 0 :: .int 0 :: .int 0 :: .int 0 :: .int 0 :: .int 0 :: .null :: .int 0 :: .null :: .null :: .null :: .null :: .null :: .null :: .null :: .null :: .null :: .int 0 :: .int 0 :: .null :: .null :: .null :: [])) :: w) hX rfl (by unfold vp_in; decide) rfl diM_160 ?_
  refine g_swap (g := fun j => if j < 11 then c32 (k_s5 j) else 0) (fun j _ => g_step (by decide) (by decide) j) ?_
  refine g_dup hX diM_161 rfl ?_
  refine g_bipush (v := 11) hX diM_162 (by decide) ?_
  refine g_bipush (v := 29) hX diM_164 (by decide) ?_
  refine g_iast (q0 := 0) (w' := (q99, .inl (gK X 1, 24, .inl (upd (fun j => if j < 11 then c32 (k_s5 j) else 0) (11 : Int32).toNatClampNeg 29))) :: (q56, .inl (gK X 1, 3010, .inl (fun _ => 0))) :: (q47, .inl (gK X 1, 100, .inl (fun _ => 0))) :: (q39, .inl (gK X 1, 100, .inl (fun _ => 0))) :: (q31, .inl (gK X 1, 100, .inl (fun _ => 0))) :: (q23, .inl (gK X 1, 100, .inl (fun _ => 0))) :: (q15, .inl (gK X 1, 100, .inl (fun _ => 0))) :: (q7, .inl (gK X 1, 100, .inl (fun _ => 0))) :: (b, .inr (9, .int 0 :: .ref q7 :: .ref q15 :: .ref q23 :: .ref q31 :: .ref q39 :: .ref q47 :: .int 0 :: .int 0 :: .ref q56 :: .int 0 :: .int 16 :: .int 8 :: .int 40 :: .int 30 :: .int 60 :: .int 1 :: .null :: .null :: .null :: .int 0 :: .int 0 :: .int 0 :: .int 0 :: .int 0 :: .int 0 :: .null :: .int 0 :: .null :: .null :: .null :: .null :: .null :: .null :: .null :: .null :: .null :: .int 0 :: .int 0 :: .null :: .null :: .null :: [])) :: w) hX rfl (by unfold vp_in; decide) rfl diM_166 ?_
  refine g_swap (g := fun j => if j < 12 then c32 (k_s5 j) else 0) (fun j _ => g_step (by decide) (by decide) j) ?_
  refine g_at (pc := 167) rfl ?_
  refine g_dup hX diM_167 rfl ?_
  refine g_bipush (v := 12) hX diM_168 (by decide) ?_
  refine g_bipush (v := 63) hX diM_170 (by decide) ?_
  refine g_iast (q0 := 0) (w' := (q99, .inl (gK X 1, 24, .inl (upd (fun j => if j < 12 then c32 (k_s5 j) else 0) (12 : Int32).toNatClampNeg 63))) :: (q56, .inl (gK X 1, 3010, .inl (fun _ => 0))) :: (q47, .inl (gK X 1, 100, .inl (fun _ => 0))) :: (q39, .inl (gK X 1, 100, .inl (fun _ => 0))) :: (q31, .inl (gK X 1, 100, .inl (fun _ => 0))) :: (q23, .inl (gK X 1, 100, .inl (fun _ => 0))) :: (q15, .inl (gK X 1, 100, .inl (fun _ => 0))) :: (q7, .inl (gK X 1, 100, .inl (fun _ => 0))) :: (b, .inr (9, .int 0 :: .ref q7 :: .ref q15 :: .ref q23 :: .ref q31 :: .ref q39 :: .ref q47 :: .int 0 :: .int 0 :: .ref q56 :: .int 0 :: .int 16 :: .int 8 :: .int 40 :: .int 30 :: .int 60 :: .int 1 :: .null :: .null :: .null :: .int 0 :: .int 0 :: .int 0 :: .int 0 :: .int 0 :: .int 0 :: .null :: .int 0 :: .null :: .null :: .null :: .null :: .null :: .null :: .null :: .null :: .null :: .int 0 :: .int 0 :: .null :: .null :: .null :: [])) :: w) hX rfl (by unfold vp_in; decide) rfl diM_172 ?_
  refine g_swap (g := fun j => if j < 13 then c32 (k_s5 j) else 0) (fun j _ => g_step (by decide) (by decide) j) ?_
  refine g_dup hX diM_173 rfl ?_
  refine g_bipush (v := 13) hX diM_174 (by decide) ?_
  refine g_bipush (v := 27) hX diM_176 (by decide) ?_
  refine g_iast (q0 := 0) (w' := (q99, .inl (gK X 1, 24, .inl (upd (fun j => if j < 13 then c32 (k_s5 j) else 0) (13 : Int32).toNatClampNeg 27))) :: (q56, .inl (gK X 1, 3010, .inl (fun _ => 0))) :: (q47, .inl (gK X 1, 100, .inl (fun _ => 0))) :: (q39, .inl (gK X 1, 100, .inl (fun _ => 0))) :: (q31, .inl (gK X 1, 100, .inl (fun _ => 0))) :: (q23, .inl (gK X 1, 100, .inl (fun _ => 0))) :: (q15, .inl (gK X 1, 100, .inl (fun _ => 0))) :: (q7, .inl (gK X 1, 100, .inl (fun _ => 0))) :: (b, .inr (9, .int 0 :: .ref q7 :: .ref q15 :: .ref q23 :: .ref q31 :: .ref q39 :: .ref q47 :: .int 0 :: .int 0 :: .ref q56 :: .int 0 :: .int 16 :: .int 8 :: .int 40 :: .int 30 :: .int 60 :: .int 1 :: .null :: .null :: .null :: .int 0 :: .int 0 :: .int 0 :: .int 0 :: .int 0 :: .int 0 :: .null :: .int 0 :: .null :: .null :: .null :: .null :: .null :: .null :: .null :: .null :: .null :: .int 0 :: .int 0 :: .null :: .null :: .null :: [])) :: w) hX rfl (by unfold vp_in; decide) rfl diM_178 ?_
  refine g_swap (g := fun j => if j < 14 then c32 (k_s5 j) else 0) (fun j _ => g_step (by decide) (by decide) j) ?_
  refine g_dup hX diM_179 rfl ?_
  refine g_bipush (v := 14) hX diM_180 (by decide) ?_
  refine g_at (pc := 182) rfl ?_
  refine g_bipush (v := 35) hX diM_182 (by decide) ?_
  refine g_iast (q0 := 0) (w' := (q99, .inl (gK X 1, 24, .inl (upd (fun j => if j < 14 then c32 (k_s5 j) else 0) (14 : Int32).toNatClampNeg 35))) :: (q56, .inl (gK X 1, 3010, .inl (fun _ => 0))) :: (q47, .inl (gK X 1, 100, .inl (fun _ => 0))) :: (q39, .inl (gK X 1, 100, .inl (fun _ => 0))) :: (q31, .inl (gK X 1, 100, .inl (fun _ => 0))) :: (q23, .inl (gK X 1, 100, .inl (fun _ => 0))) :: (q15, .inl (gK X 1, 100, .inl (fun _ => 0))) :: (q7, .inl (gK X 1, 100, .inl (fun _ => 0))) :: (b, .inr (9, .int 0 :: .ref q7 :: .ref q15 :: .ref q23 :: .ref q31 :: .ref q39 :: .ref q47 :: .int 0 :: .int 0 :: .ref q56 :: .int 0 :: .int 16 :: .int 8 :: .int 40 :: .int 30 :: .int 60 :: .int 1 :: .null :: .null :: .null :: .int 0 :: .int 0 :: .int 0 :: .int 0 :: .int 0 :: .int 0 :: .null :: .int 0 :: .null :: .null :: .null :: .null :: .null :: .null :: .null :: .null :: .null :: .int 0 :: .int 0 :: .null :: .null :: .null :: [])) :: w) hX rfl (by unfold vp_in; decide) rfl diM_184 ?_
  refine g_swap (g := fun j => if j < 15 then c32 (k_s5 j) else 0) (fun j _ => g_step (by decide) (by decide) j) ?_
  refine g_dup hX diM_185 rfl ?_
  refine g_bipush (v := 15) hX diM_186 (by decide) ?_
  refine g_bipush (v := 54) hX diM_188 (by decide) ?_
  refine g_iast (q0 := 0) (w' := (q99, .inl (gK X 1, 24, .inl (upd (fun j => if j < 15 then c32 (k_s5 j) else 0) (15 : Int32).toNatClampNeg 54))) :: (q56, .inl (gK X 1, 3010, .inl (fun _ => 0))) :: (q47, .inl (gK X 1, 100, .inl (fun _ => 0))) :: (q39, .inl (gK X 1, 100, .inl (fun _ => 0))) :: (q31, .inl (gK X 1, 100, .inl (fun _ => 0))) :: (q23, .inl (gK X 1, 100, .inl (fun _ => 0))) :: (q15, .inl (gK X 1, 100, .inl (fun _ => 0))) :: (q7, .inl (gK X 1, 100, .inl (fun _ => 0))) :: (b, .inr (9, .int 0 :: .ref q7 :: .ref q15 :: .ref q23 :: .ref q31 :: .ref q39 :: .ref q47 :: .int 0 :: .int 0 :: .ref q56 :: .int 0 :: .int 16 :: .int 8 :: .int 40 :: .int 30 :: .int 60 :: .int 1 :: .null :: .null :: .null :: .int 0 :: .int 0 :: .int 0 :: .int 0 :: .int 0 :: .int 0 :: .null :: .int 0 :: .null :: .null :: .null :: .null :: .null :: .null :: .null :: .null :: .null :: .int 0 :: .int 0 :: .null :: .null :: .null :: [])) :: w) hX rfl (by unfold vp_in; decide) rfl diM_190 ?_
  refine g_swap (g := fun j => if j < 16 then c32 (k_s5 j) else 0) (fun j _ => g_step (by decide) (by decide) j) ?_
  refine g_dup hX diM_191 rfl ?_
  refine g_bipush (v := 16) hX diM_192 (by decide) ?_
  refine g_bipush (v := 26) hX diM_194 (by decide) ?_
  refine g_iast (q0 := 0) (w' := (q99, .inl (gK X 1, 24, .inl (upd (fun j => if j < 16 then c32 (k_s5 j) else 0) (16 : Int32).toNatClampNeg 26))) :: (q56, .inl (gK X 1, 3010, .inl (fun _ => 0))) :: (q47, .inl (gK X 1, 100, .inl (fun _ => 0))) :: (q39, .inl (gK X 1, 100, .inl (fun _ => 0))) :: (q31, .inl (gK X 1, 100, .inl (fun _ => 0))) :: (q23, .inl (gK X 1, 100, .inl (fun _ => 0))) :: (q15, .inl (gK X 1, 100, .inl (fun _ => 0))) :: (q7, .inl (gK X 1, 100, .inl (fun _ => 0))) :: (b, .inr (9, .int 0 :: .ref q7 :: .ref q15 :: .ref q23 :: .ref q31 :: .ref q39 :: .ref q47 :: .int 0 :: .int 0 :: .ref q56 :: .int 0 :: .int 16 :: .int 8 :: .int 40 :: .int 30 :: .int 60 :: .int 1 :: .null :: .null :: .null :: .int 0 :: .int 0 :: .int 0 :: .int 0 :: .int 0 :: .int 0 :: .null :: .int 0 :: .null :: .null :: .null :: .null :: .null :: .null :: .null :: .null :: .null :: .int 0 :: .int 0 :: .null :: .null :: .null :: [])) :: w) hX rfl (by unfold vp_in; decide) rfl diM_196 ?_
  refine g_swap (g := fun j => if j < 17 then c32 (k_s5 j) else 0) (fun j _ => g_step (by decide) (by decide) j) ?_
  refine g_at (pc := 197) rfl ?_
  refine g_dup hX diM_197 rfl ?_
  refine g_bipush (v := 17) hX diM_198 (by decide) ?_
  refine g_bipush (v := 35) hX diM_200 (by decide) ?_
  refine g_iast (q0 := 0) (w' := (q99, .inl (gK X 1, 24, .inl (upd (fun j => if j < 17 then c32 (k_s5 j) else 0) (17 : Int32).toNatClampNeg 35))) :: (q56, .inl (gK X 1, 3010, .inl (fun _ => 0))) :: (q47, .inl (gK X 1, 100, .inl (fun _ => 0))) :: (q39, .inl (gK X 1, 100, .inl (fun _ => 0))) :: (q31, .inl (gK X 1, 100, .inl (fun _ => 0))) :: (q23, .inl (gK X 1, 100, .inl (fun _ => 0))) :: (q15, .inl (gK X 1, 100, .inl (fun _ => 0))) :: (q7, .inl (gK X 1, 100, .inl (fun _ => 0))) :: (b, .inr (9, .int 0 :: .ref q7 :: .ref q15 :: .ref q23 :: .ref q31 :: .ref q39 :: .ref q47 :: .int 0 :: .int 0 :: .ref q56 :: .int 0 :: .int 16 :: .int 8 :: .int 40 :: .int 30 :: .int 60 :: .int 1 :: .null :: .null :: .null :: .int 0 :: .int 0 :: .int 0 :: .int 0 :: .int 0 :: .int 0 :: .null :: .int 0 :: .null :: .null :: .null :: .null :: .null :: .null :: .null :: .null :: .null :: .int 0 :: .int 0 :: .null :: .null :: .null :: [])) :: w) hX rfl (by unfold vp_in; decide) rfl diM_202 ?_
  refine g_swap (g := fun j => if j < 18 then c32 (k_s5 j) else 0) (fun j _ => g_step (by decide) (by decide) j) ?_
  refine g_dup hX diM_203 rfl ?_
  refine g_bipush (v := 18) hX diM_204 (by decide) ?_
  refine g_bipush (v := 25) hX diM_206 (by decide) ?_
  refine g_iast (q0 := 0) (w' := (q99, .inl (gK X 1, 24, .inl (upd (fun j => if j < 18 then c32 (k_s5 j) else 0) (18 : Int32).toNatClampNeg 25))) :: (q56, .inl (gK X 1, 3010, .inl (fun _ => 0))) :: (q47, .inl (gK X 1, 100, .inl (fun _ => 0))) :: (q39, .inl (gK X 1, 100, .inl (fun _ => 0))) :: (q31, .inl (gK X 1, 100, .inl (fun _ => 0))) :: (q23, .inl (gK X 1, 100, .inl (fun _ => 0))) :: (q15, .inl (gK X 1, 100, .inl (fun _ => 0))) :: (q7, .inl (gK X 1, 100, .inl (fun _ => 0))) :: (b, .inr (9, .int 0 :: .ref q7 :: .ref q15 :: .ref q23 :: .ref q31 :: .ref q39 :: .ref q47 :: .int 0 :: .int 0 :: .ref q56 :: .int 0 :: .int 16 :: .int 8 :: .int 40 :: .int 30 :: .int 60 :: .int 1 :: .null :: .null :: .null :: .int 0 :: .int 0 :: .int 0 :: .int 0 :: .int 0 :: .int 0 :: .null :: .int 0 :: .null :: .null :: .null :: .null :: .null :: .null :: .null :: .null :: .null :: .int 0 :: .int 0 :: .null :: .null :: .null :: [])) :: w) hX rfl (by unfold vp_in; decide) rfl diM_208 ?_
  refine g_swap (g := fun j => if j < 19 then c32 (k_s5 j) else 0) (fun j _ => g_step (by decide) (by decide) j) ?_
  refine g_dup hX diM_209 rfl ?_
  refine g_bipush (v := 19) hX diM_210 (by decide) ?_
  refine g_at (pc := 212) rfl ?_
  refine g_bipush (v := 48) hX diM_212 (by decide) ?_
  refine g_iast (q0 := 0) (w' := (q99, .inl (gK X 1, 24, .inl (upd (fun j => if j < 19 then c32 (k_s5 j) else 0) (19 : Int32).toNatClampNeg 48))) :: (q56, .inl (gK X 1, 3010, .inl (fun _ => 0))) :: (q47, .inl (gK X 1, 100, .inl (fun _ => 0))) :: (q39, .inl (gK X 1, 100, .inl (fun _ => 0))) :: (q31, .inl (gK X 1, 100, .inl (fun _ => 0))) :: (q23, .inl (gK X 1, 100, .inl (fun _ => 0))) :: (q15, .inl (gK X 1, 100, .inl (fun _ => 0))) :: (q7, .inl (gK X 1, 100, .inl (fun _ => 0))) :: (b, .inr (9, .int 0 :: .ref q7 :: .ref q15 :: .ref q23 :: .ref q31 :: .ref q39 :: .ref q47 :: .int 0 :: .int 0 :: .ref q56 :: .int 0 :: .int 16 :: .int 8 :: .int 40 :: .int 30 :: .int 60 :: .int 1 :: .null :: .null :: .null :: .int 0 :: .int 0 :: .int 0 :: .int 0 :: .int 0 :: .int 0 :: .null :: .int 0 :: .null :: .null :: .null :: .null :: .null :: .null :: .null :: .null :: .null :: .int 0 :: .int 0 :: .null :: .null :: .null :: [])) :: w) hX rfl (by unfold vp_in; decide) rfl diM_214 ?_
  refine g_swap (g := fun j => if j < 20 then c32 (k_s5 j) else 0) (fun j _ => g_step (by decide) (by decide) j) ?_
  refine g_dup hX diM_215 rfl ?_
  refine g_bipush (v := 20) hX diM_216 (by decide) ?_
  refine g_bipush (v := 40) hX diM_218 (by decide) ?_
  refine g_iast (q0 := 0) (w' := (q99, .inl (gK X 1, 24, .inl (upd (fun j => if j < 20 then c32 (k_s5 j) else 0) (20 : Int32).toNatClampNeg 40))) :: (q56, .inl (gK X 1, 3010, .inl (fun _ => 0))) :: (q47, .inl (gK X 1, 100, .inl (fun _ => 0))) :: (q39, .inl (gK X 1, 100, .inl (fun _ => 0))) :: (q31, .inl (gK X 1, 100, .inl (fun _ => 0))) :: (q23, .inl (gK X 1, 100, .inl (fun _ => 0))) :: (q15, .inl (gK X 1, 100, .inl (fun _ => 0))) :: (q7, .inl (gK X 1, 100, .inl (fun _ => 0))) :: (b, .inr (9, .int 0 :: .ref q7 :: .ref q15 :: .ref q23 :: .ref q31 :: .ref q39 :: .ref q47 :: .int 0 :: .int 0 :: .ref q56 :: .int 0 :: .int 16 :: .int 8 :: .int 40 :: .int 30 :: .int 60 :: .int 1 :: .null :: .null :: .null :: .int 0 :: .int 0 :: .int 0 :: .int 0 :: .int 0 :: .int 0 :: .null :: .int 0 :: .null :: .null :: .null :: .null :: .null :: .null :: .null :: .null :: .null :: .int 0 :: .int 0 :: .null :: .null :: .null :: [])) :: w) hX rfl (by unfold vp_in; decide) rfl diM_220 ?_
  refine g_swap (g := fun j => if j < 21 then c32 (k_s5 j) else 0) (fun j _ => g_step (by decide) (by decide) j) ?_
  refine g_dup hX diM_221 rfl ?_
  refine g_bipush (v := 21) hX diM_222 (by decide) ?_
  refine g_bipush (v := 27) hX diM_224 (by decide) ?_
  refine g_iast (q0 := 0) (w' := (q99, .inl (gK X 1, 24, .inl (upd (fun j => if j < 21 then c32 (k_s5 j) else 0) (21 : Int32).toNatClampNeg 27))) :: (q56, .inl (gK X 1, 3010, .inl (fun _ => 0))) :: (q47, .inl (gK X 1, 100, .inl (fun _ => 0))) :: (q39, .inl (gK X 1, 100, .inl (fun _ => 0))) :: (q31, .inl (gK X 1, 100, .inl (fun _ => 0))) :: (q23, .inl (gK X 1, 100, .inl (fun _ => 0))) :: (q15, .inl (gK X 1, 100, .inl (fun _ => 0))) :: (q7, .inl (gK X 1, 100, .inl (fun _ => 0))) :: (b, .inr (9, .int 0 :: .ref q7 :: .ref q15 :: .ref q23 :: .ref q31 :: .ref q39 :: .ref q47 :: .int 0 :: .int 0 :: .ref q56 :: .int 0 :: .int 16 :: .int 8 :: .int 40 :: .int 30 :: .int 60 :: .int 1 :: .null :: .null :: .null :: .int 0 :: .int 0 :: .int 0 :: .int 0 :: .int 0 :: .int 0 :: .null :: .int 0 :: .null :: .null :: .null :: .null :: .null :: .null :: .null :: .null :: .null :: .int 0 :: .int 0 :: .null :: .null :: .null :: [])) :: w) hX rfl (by unfold vp_in; decide) rfl diM_226 ?_
  refine g_swap (g := fun j => if j < 22 then c32 (k_s5 j) else 0) (fun j _ => g_step (by decide) (by decide) j) ?_
  refine g_at (pc := 227) rfl ?_
  refine g_dup hX diM_227 rfl ?_
  refine g_bipush (v := 22) hX diM_228 (by decide) ?_
  refine g_bipush (v := 33) hX diM_230 (by decide) ?_
  refine g_iast (q0 := 0) (w' := (q99, .inl (gK X 1, 24, .inl (upd (fun j => if j < 22 then c32 (k_s5 j) else 0) (22 : Int32).toNatClampNeg 33))) :: (q56, .inl (gK X 1, 3010, .inl (fun _ => 0))) :: (q47, .inl (gK X 1, 100, .inl (fun _ => 0))) :: (q39, .inl (gK X 1, 100, .inl (fun _ => 0))) :: (q31, .inl (gK X 1, 100, .inl (fun _ => 0))) :: (q23, .inl (gK X 1, 100, .inl (fun _ => 0))) :: (q15, .inl (gK X 1, 100, .inl (fun _ => 0))) :: (q7, .inl (gK X 1, 100, .inl (fun _ => 0))) :: (b, .inr (9, .int 0 :: .ref q7 :: .ref q15 :: .ref q23 :: .ref q31 :: .ref q39 :: .ref q47 :: .int 0 :: .int 0 :: .ref q56 :: .int 0 :: .int 16 :: .int 8 :: .int 40 :: .int 30 :: .int 60 :: .int 1 :: .null :: .null :: .null :: .int 0 :: .int 0 :: .int 0 :: .int 0 :: .int 0 :: .int 0 :: .null :: .int 0 :: .null :: .null :: .null :: .null :: .null :: .null :: .null :: .null :: .null :: .int 0 :: .int 0 :: .null :: .null :: .null :: [])) :: w) hX rfl (by unfold vp_in; decide) rfl diM_232 ?_
  refine g_swap (g := fun j => if j < 23 then c32 (k_s5 j) else 0) (fun j _ => g_step (by decide) (by decide) j) ?_
  refine g_dup hX diM_233 rfl ?_
  refine g_bipush (v := 23) hX diM_234 (by decide) ?_
  refine g_bipush (v := 32) hX diM_236 (by decide) ?_
  refine g_iast (q0 := 0) (w' := (q99, .inl (gK X 1, 24, .inl (upd (fun j => if j < 23 then c32 (k_s5 j) else 0) (23 : Int32).toNatClampNeg 32))) :: (q56, .inl (gK X 1, 3010, .inl (fun _ => 0))) :: (q47, .inl (gK X 1, 100, .inl (fun _ => 0))) :: (q39, .inl (gK X 1, 100, .inl (fun _ => 0))) :: (q31, .inl (gK X 1, 100, .inl (fun _ => 0))) :: (q23, .inl (gK X 1, 100, .inl (fun _ => 0))) :: (q15, .inl (gK X 1, 100, .inl (fun _ => 0))) :: (q7, .inl (gK X 1, 100, .inl (fun _ => 0))) :: (b, .inr (9, .int 0 :: .ref q7 :: .ref q15 :: .ref q23 :: .ref q31 :: .ref q39 :: .ref q47 :: .int 0 :: .int 0 :: .ref q56 :: .int 0 :: .int 16 :: .int 8 :: .int 40 :: .int 30 :: .int 60 :: .int 1 :: .null :: .null :: .null :: .int 0 :: .int 0 :: .int 0 :: .int 0 :: .int 0 :: .int 0 :: .null :: .int 0 :: .null :: .null :: .null :: .null :: .null :: .null :: .null :: .null :: .null :: .int 0 :: .int 0 :: .null :: .null :: .null :: [])) :: w) hX rfl (by unfold vp_in; decide) rfl diM_238 ?_
  refine g_swap (g := fun j => if j < 24 then c32 (k_s5 j) else 0) (fun j _ => g_step (by decide) (by decide) j) ?_
  refine g_swap (g := fun j => c32 (k_s5 j)) (fun j h => if_pos h) ?_
  refine g_putF (ci := 9) (k := 17) (q0 := 8) (ty0 := k_y9) (w' := (q99, .inl (gK X 1, 24, .inl (fun j => c32 (k_s5 j)))) :: (q56, .inl (gK X 1, 3010, .inl (fun _ => 0))) :: (q47, .inl (gK X 1, 100, .inl (fun _ => 0))) :: (q39, .inl (gK X 1, 100, .inl (fun _ => 0))) :: (q31, .inl (gK X 1, 100, .inl (fun _ => 0))) :: (q23, .inl (gK X 1, 100, .inl (fun _ => 0))) :: (q15, .inl (gK X 1, 100, .inl (fun _ => 0))) :: (q7, .inl (gK X 1, 100, .inl (fun _ => 0))) :: (b, .inr (9, .int 0 :: .ref q7 :: .ref q15 :: .ref q23 :: .ref q31 :: .ref q39 :: .ref q47 :: .int 0 :: .int 0 :: .ref q56 :: .int 0 :: .int 16 :: .int 8 :: .int 40 :: .int 30 :: .int 60 :: .int 1 :: .ref q99 :: .null :: .null :: .int 0 :: .int 0 :: .int 0 :: .int 0 :: .int 0 :: .int 0 :: .null :: .int 0 :: .null :: .null :: .null :: .null :: .null :: .null :: .null :: .null :: .null :: .int 0 :: .int 0 :: .null :: .null :: .null :: [])) :: w) hX hI rfl k_lay9 k_ok9 k_n9 (by decide) cw_1004 rfl rfl rfl rfl rfl (Nat.le_of_ble_eq_true rfl) rfl diM_239 ?_
  refine g_aload hX diM_242 rfl 0 rfl ?_
  refine g_at (pc := 243) rfl ?_
  refine g_bipush (v := 48) hX diM_243 (by decide) ?_
  refine g_newa (atype := .int) (ty := .int) (t := 1) (N := 48) (cells' := 9) (slots' := 3682) hX rfl (fun _ => rfl) (fun _ _ h => h) rfl cw_60 (by decide) (by decide) (by decide) rfl rfl (by decide) (by decide) diM_245 (fun q245 => ?_)
  refine g_putF (ci := 9) (k := 18) (q0 := 9) (ty0 := k_y9) (w' := (q245, .inl (gK X 1, 48, .inl (fun _ => 0))) :: (q99, .inl (gK X 1, 24, .inl (fun j => c32 (k_s5 j)))) :: (q56, .inl (gK X 1, 3010, .inl (fun _ => 0))) :: (q47, .inl (gK X 1, 100, .inl (fun _ => 0))) :: (q39, .inl (gK X 1, 100, .inl (fun _ => 0))) :: (q31, .inl (gK X 1, 100, .inl (fun _ => 0))) :: (q23, .inl (gK X 1, 100, .inl (fun _ => 0))) :: (q15, .inl (gK X 1, 100, .inl (fun _ => 0))) :: (q7, .inl (gK X 1, 100, .inl (fun _ => 0))) :: (b, .inr (9, .int 0 :: .ref q7 :: .ref q15 :: .ref q23 :: .ref q31 :: .ref q39 :: .ref q47 :: .int 0 :: .int 0 :: .ref q56 :: .int 0 :: .int 16 :: .int 8 :: .int 40 :: .int 30 :: .int 60 :: .int 1 :: .ref q99 :: .ref q245 :: .null :: .int 0 :: .int 0 :: .int 0 :: .int 0 :: .int 0 :: .int 0 :: .null :: .int 0 :: .null :: .null :: .null :: .null :: .null :: .null :: .null :: .null :: .null :: .int 0 :: .int 0 :: .null :: .null :: .null :: [])) :: w) hX hI rfl k_lay9 k_ok9 k_n9 (by decide) cw_1005 rfl rfl rfl rfl rfl (Nat.le_of_ble_eq_true rfl) rfl diM_247 ?_
  refine g_aload hX diM_250 rfl 0 rfl ?_
  refine g_sipush (v := 700) hX diM_251 (by decide) ?_
  refine g_newa (atype := .byte) (ty := .byte) (t := 2) (N := 700) (cells' := 10) (slots' := 4382) hX rfl (fun _ => rfl) (fun _ _ h => h) rfl cw_972 (by decide) (by decide) (by decide) rfl rfl (by decide) (by decide) diM_254 (fun q254 => ?_)
  refine g_putF (ci := 9) (k := 19) (q0 := 10) (ty0 := k_y9) (w' := (q254, .inl (gK X 2, 700, .inl (fun _ => 0))) :: (q245, .inl (gK X 1, 48, .inl (fun _ => 0))) :: (q99, .inl (gK X 1, 24, .inl (fun j => c32 (k_s5 j)))) :: (q56, .inl (gK X 1, 3010, .inl (fun _ => 0))) :: (q47, .inl (gK X 1, 100, .inl (fun _ => 0))) :: (q39, .inl (gK X 1, 100, .inl (fun _ => 0))) :: (q31, .inl (gK X 1, 100, .inl (fun _ => 0))) :: (q23, .inl (gK X 1, 100, .inl (fun _ => 0))) :: (q15, .inl (gK X 1, 100, .inl (fun _ => 0))) :: (q7, .inl (gK X 1, 100, .inl (fun _ => 0))) :: (b, .inr (9, .int 0 :: .ref q7 :: .ref q15 :: .ref q23 :: .ref q31 :: .ref q39 :: .ref q47 :: .int 0 :: .int 0 :: .ref q56 :: .int 0 :: .int 16 :: .int 8 :: .int 40 :: .int 30 :: .int 60 :: .int 1 :: .ref q99 :: .ref q245 :: .ref q254 :: .int 0 :: .int 0 :: .int 0 :: .int 0 :: .int 0 :: .int 0 :: .null :: .int 0 :: .null :: .null :: .null :: .null :: .null :: .null :: .null :: .null :: .null :: .int 0 :: .int 0 :: .null :: .null :: .null :: [])) :: w) hX hI rfl k_lay9 k_ok9 k_n9 (by decide) cw_1006 rfl rfl rfl rfl rfl (Nat.le_of_ble_eq_true rfl) rfl diM_256 ?_
  refine g_aload hX diM_259 rfl 0 rfl ?_
  refine g_iconst (v := (-1)) hX diM_260 (by decide) ?_
  refine g_put (ci := 9) (k := 24) (q0 := 10) (ty0 := k_y9) (w' := (q254, .inl (gK X 2, 700, .inl (fun _ => 0))) :: (q245, .inl (gK X 1, 48, .inl (fun _ => 0))) :: (q99, .inl (gK X 1, 24, .inl (fun j => c32 (k_s5 j)))) :: (q56, .inl (gK X 1, 3010, .inl (fun _ => 0))) :: (q47, .inl (gK X 1, 100, .inl (fun _ => 0))) :: (q39, .inl (gK X 1, 100, .inl (fun _ => 0))) :: (q31, .inl (gK X 1, 100, .inl (fun _ => 0))) :: (q23, .inl (gK X 1, 100, .inl (fun _ => 0))) :: (q15, .inl (gK X 1, 100, .inl (fun _ => 0))) :: (q7, .inl (gK X 1, 100, .inl (fun _ => 0))) :: (b, .inr (9, .int 0 :: .ref q7 :: .ref q15 :: .ref q23 :: .ref q31 :: .ref q39 :: .ref q47 :: .int 0 :: .int 0 :: .ref q56 :: .int 0 :: .int 16 :: .int 8 :: .int 40 :: .int 30 :: .int 60 :: .int 1 :: .ref q99 :: .ref q245 :: .ref q254 :: .int 0 :: .int 0 :: .int 0 :: .int 0 :: .int (-1) :: .int 0 :: .null :: .int 0 :: .null :: .null :: .null :: .null :: .null :: .null :: .null :: .null :: .null :: .int 0 :: .int 0 :: .null :: .null :: .null :: [])) :: w) hX rfl k_lay9 k_ok9 k_n9 (by decide) cw_1011 rfl rfl rfl rfl rfl (Nat.le_of_ble_eq_true rfl) rfl diM_261 ?_
  refine g_at (pc := 264) rfl ?_
  refine g_aload hX diM_264 rfl 0 rfl ?_
  refine g_bipush (v := 12) hX diM_265 (by decide) ?_
  refine g_newa (atype := .int) (ty := .int) (t := 1) (N := 12) (cells' := 11) (slots' := 4394) hX rfl (fun _ => rfl) (fun _ _ h => h) rfl cw_60 (by decide) (by decide) (by decide) rfl rfl (by decide) (by decide) diM_267 (fun q267 => ?_)
  refine g_putF (ci := 9) (k := 26) (q0 := 11) (ty0 := k_y9) (w' := (q267, .inl (gK X 1, 12, .inl (fun _ => 0))) :: (q254, .inl (gK X 2, 700, .inl (fun _ => 0))) :: (q245, .inl (gK X 1, 48, .inl (fun _ => 0))) :: (q99, .inl (gK X 1, 24, .inl (fun j => c32 (k_s5 j)))) :: (q56, .inl (gK X 1, 3010, .inl (fun _ => 0))) :: (q47, .inl (gK X 1, 100, .inl (fun _ => 0))) :: (q39, .inl (gK X 1, 100, .inl (fun _ => 0))) :: (q31, .inl (gK X 1, 100, .inl (fun _ => 0))) :: (q23, .inl (gK X 1, 100, .inl (fun _ => 0))) :: (q15, .inl (gK X 1, 100, .inl (fun _ => 0))) :: (q7, .inl (gK X 1, 100, .inl (fun _ => 0))) :: (b, .inr (9, .int 0 :: .ref q7 :: .ref q15 :: .ref q23 :: .ref q31 :: .ref q39 :: .ref q47 :: .int 0 :: .int 0 :: .ref q56 :: .int 0 :: .int 16 :: .int 8 :: .int 40 :: .int 30 :: .int 60 :: .int 1 :: .ref q99 :: .ref q245 :: .ref q254 :: .int 0 :: .int 0 :: .int 0 :: .int 0 :: .int (-1) :: .int 0 :: .ref q267 :: .int 0 :: .null :: .null :: .null :: .null :: .null :: .null :: .null :: .null :: .null :: .int 0 :: .int 0 :: .null :: .null :: .null :: [])) :: w) hX hI rfl k_lay9 k_ok9 k_n9 (by decide) cw_1013 rfl rfl rfl rfl rfl (Nat.le_of_ble_eq_true rfl) rfl diM_269 ?_
  refine g_aload hX diM_272 rfl 0 rfl ?_
  refine g_bipush (v := 24) hX diM_273 (by decide) ?_
  refine g_newa (atype := .int) (ty := .int) (t := 1) (N := 24) (cells' := 12) (slots' := 4418) hX rfl (fun _ => rfl) (fun _ _ h => h) rfl cw_60 (by decide) (by decide) (by decide) rfl rfl (by decide) (by decide) diM_275 (fun q275 => ?_)
  refine g_putF (ci := 9) (k := 28) (q0 := 12) (ty0 := k_y9) (w' := (q275, .inl (gK X 1, 24, .inl (fun _ => 0))) :: (q267, .inl (gK X 1, 12, .inl (fun _ => 0))) :: (q254, .inl (gK X 2, 700, .inl (fun _ => 0))) :: (q245, .inl (gK X 1, 48, .inl (fun _ => 0))) :: (q99, .inl (gK X 1, 24, .inl (fun j => c32 (k_s5 j)))) :: (q56, .inl (gK X 1, 3010, .inl (fun _ => 0))) :: (q47, .inl (gK X 1, 100, .inl (fun _ => 0))) :: (q39, .inl (gK X 1, 100, .inl (fun _ => 0))) :: (q31, .inl (gK X 1, 100, .inl (fun _ => 0))) :: (q23, .inl (gK X 1, 100, .inl (fun _ => 0))) :: (q15, .inl (gK X 1, 100, .inl (fun _ => 0))) :: (q7, .inl (gK X 1, 100, .inl (fun _ => 0))) :: (b, .inr (9, .int 0 :: .ref q7 :: .ref q15 :: .ref q23 :: .ref q31 :: .ref q39 :: .ref q47 :: .int 0 :: .int 0 :: .ref q56 :: .int 0 :: .int 16 :: .int 8 :: .int 40 :: .int 30 :: .int 60 :: .int 1 :: .ref q99 :: .ref q245 :: .ref q254 :: .int 0 :: .int 0 :: .int 0 :: .int 0 :: .int (-1) :: .int 0 :: .ref q267 :: .int 0 :: .ref q275 :: .null :: .null :: .null :: .null :: .null :: .null :: .null :: .null :: .int 0 :: .int 0 :: .null :: .null :: .null :: [])) :: w) hX hI rfl k_lay9 k_ok9 k_n9 (by decide) cw_1015 rfl rfl rfl rfl rfl (Nat.le_of_ble_eq_true rfl) rfl diM_277 ?_
  refine g_aload hX diM_280 rfl 0 rfl ?_
  refine g_bipush (v := 24) hX diM_281 (by decide) ?_
  refine g_at (pc := 283) rfl ?_
  refine g_newa (atype := .int) (ty := .int) (t := 1) (N := 24) (cells' := 13) (slots' := 4442) hX rfl (fun _ => rfl) (fun _ _ h => h) rfl cw_60 (by decide) (by decide) (by decide) rfl rfl (by decide) (by decide) diM_283 (fun q283 => ?_)
  refine g_putF (ci := 9) (k := 29) (q0 := 13) (ty0 := k_y9) (w' := (q283, .inl (gK X 1, 24, .inl (fun _ => 0))) :: (q275, .inl (gK X 1, 24, .inl (fun _ => 0))) :: (q267, .inl (gK X 1, 12, .inl (fun _ => 0))) :: (q254, .inl (gK X 2, 700, .inl (fun _ => 0))) :: (q245, .inl (gK X 1, 48, .inl (fun _ => 0))) :: (q99, .inl (gK X 1, 24, .inl (fun j => c32 (k_s5 j)))) :: (q56, .inl (gK X 1, 3010, .inl (fun _ => 0))) :: (q47, .inl (gK X 1, 100, .inl (fun _ => 0))) :: (q39, .inl (gK X 1, 100, .inl (fun _ => 0))) :: (q31, .inl (gK X 1, 100, .inl (fun _ => 0))) :: (q23, .inl (gK X 1, 100, .inl (fun _ => 0))) :: (q15, .inl (gK X 1, 100, .inl (fun _ => 0))) :: (q7, .inl (gK X 1, 100, .inl (fun _ => 0))) :: (b, .inr (9, .int 0 :: .ref q7 :: .ref q15 :: .ref q23 :: .ref q31 :: .ref q39 :: .ref q47 :: .int 0 :: .int 0 :: .ref q56 :: .int 0 :: .int 16 :: .int 8 :: .int 40 :: .int 30 :: .int 60 :: .int 1 :: .ref q99 :: .ref q245 :: .ref q254 :: .int 0 :: .int 0 :: .int 0 :: .int 0 :: .int (-1) :: .int 0 :: .ref q267 :: .int 0 :: .ref q275 :: .ref q283 :: .null :: .null :: .null :: .null :: .null :: .null :: .null :: .int 0 :: .int 0 :: .null :: .null :: .null :: [])) :: w) hX hI rfl k_lay9 k_ok9 k_n9 (by decide) cw_1016 rfl rfl rfl rfl rfl (Nat.le_of_ble_eq_true rfl) rfl diM_285 ?_
  refine g_aload hX diM_288 rfl 0 rfl ?_
  refine g_sipush (v := 576) hX diM_289 (by decide) ?_
  refine g_newa (atype := .int) (ty := .int) (t := 1) (N := 576) (cells' := 14) (slots' := 5018) hX rfl (fun _ => rfl) (fun _ _ h => h) rfl cw_60 (by decide) (by decide) (by decide) rfl rfl (by decide) (by decide) diM_292 (fun q292 => ?_)
  refine g_putF (ci := 9) (k := 30) (q0 := 14) (ty0 := k_y9) (w' := (q292, .inl (gK X 1, 576, .inl (fun _ => 0))) :: (q283, .inl (gK X 1, 24, .inl (fun _ => 0))) :: (q275, .inl (gK X 1, 24, .inl (fun _ => 0))) :: (q267, .inl (gK X 1, 12, .inl (fun _ => 0))) :: (q254, .inl (gK X 2, 700, .inl (fun _ => 0))) :: (q245, .inl (gK X 1, 48, .inl (fun _ => 0))) :: (q99, .inl (gK X 1, 24, .inl (fun j => c32 (k_s5 j)))) :: (q56, .inl (gK X 1, 3010, .inl (fun _ => 0))) :: (q47, .inl (gK X 1, 100, .inl (fun _ => 0))) :: (q39, .inl (gK X 1, 100, .inl (fun _ => 0))) :: (q31, .inl (gK X 1, 100, .inl (fun _ => 0))) :: (q23, .inl (gK X 1, 100, .inl (fun _ => 0))) :: (q15, .inl (gK X 1, 100, .inl (fun _ => 0))) :: (q7, .inl (gK X 1, 100, .inl (fun _ => 0))) :: (b, .inr (9, .int 0 :: .ref q7 :: .ref q15 :: .ref q23 :: .ref q31 :: .ref q39 :: .ref q47 :: .int 0 :: .int 0 :: .ref q56 :: .int 0 :: .int 16 :: .int 8 :: .int 40 :: .int 30 :: .int 60 :: .int 1 :: .ref q99 :: .ref q245 :: .ref q254 :: .int 0 :: .int 0 :: .int 0 :: .int 0 :: .int (-1) :: .int 0 :: .ref q267 :: .int 0 :: .ref q275 :: .ref q283 :: .ref q292 :: .null :: .null :: .null :: .null :: .null :: .null :: .int 0 :: .int 0 :: .null :: .null :: .null :: [])) :: w) hX hI rfl k_lay9 k_ok9 k_n9 (by decide) cw_1017 rfl rfl rfl rfl rfl (Nat.le_of_ble_eq_true rfl) rfl diM_294 ?_
  refine g_aload hX diM_297 rfl 0 rfl ?_
  refine g_sipush (v := 1152) hX diM_298 (by decide) ?_
  refine g_newa (atype := .int) (ty := .int) (t := 1) (N := 1152) (cells' := 15) (slots' := 6170) hX rfl (fun _ => rfl) (fun _ _ h => h) rfl cw_60 (by decide) (by decide) (by decide) rfl rfl (by decide) (by decide) diM_301 (fun q301 => ?_)
  refine g_putF (ci := 9) (k := 31) (q0 := 15) (ty0 := k_y9) (w' := (q301, .inl (gK X 1, 1152, .inl (fun _ => 0))) :: (q292, .inl (gK X 1, 576, .inl (fun _ => 0))) :: (q283, .inl (gK X 1, 24, .inl (fun _ => 0))) :: (q275, .inl (gK X 1, 24, .inl (fun _ => 0))) :: (q267, .inl (gK X 1, 12, .inl (fun _ => 0))) :: (q254, .inl (gK X 2, 700, .inl (fun _ => 0))) :: (q245, .inl (gK X 1, 48, .inl (fun _ => 0))) :: (q99, .inl (gK X 1, 24, .inl (fun j => c32 (k_s5 j)))) :: (q56, .inl (gK X 1, 3010, .inl (fun _ => 0))) :: (q47, .inl (gK X 1, 100, .inl (fun _ => 0))) :: (q39, .inl (gK X 1, 100, .inl (fun _ => 0))) :: (q31, .inl (gK X 1, 100, .inl (fun _ => 0))) :: (q23, .inl (gK X 1, 100, .inl (fun _ => 0))) :: (q15, .inl (gK X 1, 100, .inl (fun _ => 0))) :: (q7, .inl (gK X 1, 100, .inl (fun _ => 0))) :: (b, .inr (9, .int 0 :: .ref q7 :: .ref q15 :: .ref q23 :: .ref q31 :: .ref q39 :: .ref q47 :: .int 0 :: .int 0 :: .ref q56 :: .int 0 :: .int 16 :: .int 8 :: .int 40 :: .int 30 :: .int 60 :: .int 1 :: .ref q99 :: .ref q245 :: .ref q254 :: .int 0 :: .int 0 :: .int 0 :: .int 0 :: .int (-1) :: .int 0 :: .ref q267 :: .int 0 :: .ref q275 :: .ref q283 :: .ref q292 :: .ref q301 :: .null :: .null :: .null :: .null :: .null :: .int 0 :: .int 0 :: .null :: .null :: .null :: [])) :: w) hX hI rfl k_lay9 k_ok9 k_n9 (by decide) cw_1018 rfl rfl rfl rfl rfl (Nat.le_of_ble_eq_true rfl) rfl diM_303 ?_
  refine g_at (pc := 306) rfl ?_
  refine g_aload hX diM_306 rfl 0 rfl ?_
  refine g_sipush (v := 1152) hX diM_307 (by decide) ?_
  refine g_newa (atype := .int) (ty := .int) (t := 1) (N := 1152) (cells' := 16) (slots' := 7322) hX rfl (fun _ => rfl) (fun _ _ h => h) rfl cw_60 (by decide) (by decide) (by decide) rfl rfl (by decide) (by decide) diM_310 (fun q310 => ?_)
  refine g_putF (ci := 9) (k := 32) (q0 := 16) (ty0 := k_y9) (w' := (q310, .inl (gK X 1, 1152, .inl (fun _ => 0))) :: (q301, .inl (gK X 1, 1152, .inl (fun _ => 0))) :: (q292, .inl (gK X 1, 576, .inl (fun _ => 0))) :: (q283, .inl (gK X 1, 24, .inl (fun _ => 0))) :: (q275, .inl (gK X 1, 24, .inl (fun _ => 0))) :: (q267, .inl (gK X 1, 12, .inl (fun _ => 0))) :: (q254, .inl (gK X 2, 700, .inl (fun _ => 0))) :: (q245, .inl (gK X 1, 48, .inl (fun _ => 0))) :: (q99, .inl (gK X 1, 24, .inl (fun j => c32 (k_s5 j)))) :: (q56, .inl (gK X 1, 3010, .inl (fun _ => 0))) :: (q47, .inl (gK X 1, 100, .inl (fun _ => 0))) :: (q39, .inl (gK X 1, 100, .inl (fun _ => 0))) :: (q31, .inl (gK X 1, 100, .inl (fun _ => 0))) :: (q23, .inl (gK X 1, 100, .inl (fun _ => 0))) :: (q15, .inl (gK X 1, 100, .inl (fun _ => 0))) :: (q7, .inl (gK X 1, 100, .inl (fun _ => 0))) :: (b, .inr (9, .int 0 :: .ref q7 :: .ref q15 :: .ref q23 :: .ref q31 :: .ref q39 :: .ref q47 :: .int 0 :: .int 0 :: .ref q56 :: .int 0 :: .int 16 :: .int 8 :: .int 40 :: .int 30 :: .int 60 :: .int 1 :: .ref q99 :: .ref q245 :: .ref q254 :: .int 0 :: .int 0 :: .int 0 :: .int 0 :: .int (-1) :: .int 0 :: .ref q267 :: .int 0 :: .ref q275 :: .ref q283 :: .ref q292 :: .ref q301 :: .ref q310 :: .null :: .null :: .null :: .null :: .int 0 :: .int 0 :: .null :: .null :: .null :: [])) :: w) hX hI rfl k_lay9 k_ok9 k_n9 (by decide) cw_1019 rfl rfl rfl rfl rfl (Nat.le_of_ble_eq_true rfl) rfl diM_312 ?_
  refine g_aload hX diM_315 rfl 0 rfl ?_
  refine g_sipush (v := 1152) hX diM_316 (by decide) ?_
  refine g_newa (atype := .int) (ty := .int) (t := 1) (N := 1152) (cells' := 17) (slots' := 8474) hX rfl (fun _ => rfl) (fun _ _ h => h) rfl cw_60 (by decide) (by decide) (by decide) rfl rfl (by decide) (by decide) diM_319 (fun q319 => ?_)
  refine g_putF (ci := 9) (k := 33) (q0 := 17) (ty0 := k_y9) (w' := (q319, .inl (gK X 1, 1152, .inl (fun _ => 0))) :: (q310, .inl (gK X 1, 1152, .inl (fun _ => 0))) :: (q301, .inl (gK X 1, 1152, .inl (fun _ => 0))) :: (q292, .inl (gK X 1, 576, .inl (fun _ => 0))) :: (q283, .inl (gK X 1, 24, .inl (fun _ => 0))) :: (q275, .inl (gK X 1, 24, .inl (fun _ => 0))) :: (q267, .inl (gK X 1, 12, .inl (fun _ => 0))) :: (q254, .inl (gK X 2, 700, .inl (fun _ => 0))) :: (q245, .inl (gK X 1, 48, .inl (fun _ => 0))) :: (q99, .inl (gK X 1, 24, .inl (fun j => c32 (k_s5 j)))) :: (q56, .inl (gK X 1, 3010, .inl (fun _ => 0))) :: (q47, .inl (gK X 1, 100, .inl (fun _ => 0))) :: (q39, .inl (gK X 1, 100, .inl (fun _ => 0))) :: (q31, .inl (gK X 1, 100, .inl (fun _ => 0))) :: (q23, .inl (gK X 1, 100, .inl (fun _ => 0))) :: (q15, .inl (gK X 1, 100, .inl (fun _ => 0))) :: (q7, .inl (gK X 1, 100, .inl (fun _ => 0))) :: (b, .inr (9, .int 0 :: .ref q7 :: .ref q15 :: .ref q23 :: .ref q31 :: .ref q39 :: .ref q47 :: .int 0 :: .int 0 :: .ref q56 :: .int 0 :: .int 16 :: .int 8 :: .int 40 :: .int 30 :: .int 60 :: .int 1 :: .ref q99 :: .ref q245 :: .ref q254 :: .int 0 :: .int 0 :: .int 0 :: .int 0 :: .int (-1) :: .int 0 :: .ref q267 :: .int 0 :: .ref q275 :: .ref q283 :: .ref q292 :: .ref q301 :: .ref q310 :: .ref q319 :: .null :: .null :: .null :: .int 0 :: .int 0 :: .null :: .null :: .null :: [])) :: w) hX hI rfl k_lay9 k_ok9 k_n9 (by decide) cw_1020 rfl rfl rfl rfl rfl (Nat.le_of_ble_eq_true rfl) rfl diM_321 ?_
  refine g_aload hX diM_324 rfl 0 rfl ?_
  refine g_sipush (v := 1152) hX diM_325 (by decide) ?_
  refine g_at (pc := 328) rfl ?_
  refine g_newa (atype := .int) (ty := .int) (t := 1) (N := 1152) (cells' := 18) (slots' := 9626) hX rfl (fun _ => rfl) (fun _ _ h => h) rfl cw_60 (by decide) (by decide) (by decide) rfl rfl (by decide) (by decide) diM_328 (fun q328 => ?_)
  refine g_putF (ci := 9) (k := 34) (q0 := 18) (ty0 := k_y9) (w' := (q328, .inl (gK X 1, 1152, .inl (fun _ => 0))) :: (q319, .inl (gK X 1, 1152, .inl (fun _ => 0))) :: (q310, .inl (gK X 1, 1152, .inl (fun _ => 0))) :: (q301, .inl (gK X 1, 1152, .inl (fun _ => 0))) :: (q292, .inl (gK X 1, 576, .inl (fun _ => 0))) :: (q283, .inl (gK X 1, 24, .inl (fun _ => 0))) :: (q275, .inl (gK X 1, 24, .inl (fun _ => 0))) :: (q267, .inl (gK X 1, 12, .inl (fun _ => 0))) :: (q254, .inl (gK X 2, 700, .inl (fun _ => 0))) :: (q245, .inl (gK X 1, 48, .inl (fun _ => 0))) :: (q99, .inl (gK X 1, 24, .inl (fun j => c32 (k_s5 j)))) :: (q56, .inl (gK X 1, 3010, .inl (fun _ => 0))) :: (q47, .inl (gK X 1, 100, .inl (fun _ => 0))) :: (q39, .inl (gK X 1, 100, .inl (fun _ => 0))) :: (q31, .inl (gK X 1, 100, .inl (fun _ => 0))) :: (q23, .inl (gK X 1, 100, .inl (fun _ => 0))) :: (q15, .inl (gK X 1, 100, .inl (fun _ => 0))) :: (q7, .inl (gK X 1, 100, .inl (fun _ => 0))) :: (b, .inr (9, .int 0 :: .ref q7 :: .ref q15 :: .ref q23 :: .ref q31 :: .ref q39 :: .ref q47 :: .int 0 :: .int 0 :: .ref q56 :: .int 0 :: .int 16 :: .int 8 :: .int 40 :: .int 30 :: .int 60 :: .int 1 :: .ref q99 :: .ref q245 :: .ref q254 :: .int 0 :: .int 0 :: .int 0 :: .int 0 :: .int (-1) :: .int 0 :: .ref q267 :: .int 0 :: .ref q275 :: .ref q283 :: .ref q292 :: .ref q301 :: .ref q310 :: .ref q319 :: .ref q328 :: .null :: .null :: .int 0 :: .int 0 :: .null :: .null :: .null :: [])) :: w) hX hI rfl k_lay9 k_ok9 k_n9 (by decide) cw_1021 rfl rfl rfl rfl rfl (Nat.le_of_ble_eq_true rfl) rfl diM_330 ?_
  refine g_aload hX diM_333 rfl 0 rfl ?_
  refine g_bipush (v := 48) hX diM_334 (by decide) ?_
  refine g_newa (atype := .int) (ty := .int) (t := 1) (N := 48) (cells' := 19) (slots' := 9674) hX rfl (fun _ => rfl) (fun _ _ h => h) rfl cw_60 (by decide) (by decide) (by decide) rfl rfl (by decide) (by decide) diM_336 (fun q336 => ?_)
  refine g_putF (ci := 9) (k := 35) (q0 := 19) (ty0 := k_y9) (w' := (q336, .inl (gK X 1, 48, .inl (fun _ => 0))) :: (q328, .inl (gK X 1, 1152, .inl (fun _ => 0))) :: (q319, .inl (gK X 1, 1152, .inl (fun _ => 0))) :: (q310, .inl (gK X 1, 1152, .inl (fun _ => 0))) :: (q301, .inl (gK X 1, 1152, .inl (fun _ => 0))) :: (q292, .inl (gK X 1, 576, .inl (fun _ => 0))) :: (q283, .inl (gK X 1, 24, .inl (fun _ => 0))) :: (q275, .inl (gK X 1, 24, .inl (fun _ => 0))) :: (q267, .inl (gK X 1, 12, .inl (fun _ => 0))) :: (q254, .inl (gK X 2, 700, .inl (fun _ => 0))) :: (q245, .inl (gK X 1, 48, .inl (fun _ => 0))) :: (q99, .inl (gK X 1, 24, .inl (fun j => c32 (k_s5 j)))) :: (q56, .inl (gK X 1, 3010, .inl (fun _ => 0))) :: (q47, .inl (gK X 1, 100, .inl (fun _ => 0))) :: (q39, .inl (gK X 1, 100, .inl (fun _ => 0))) :: (q31, .inl (gK X 1, 100, .inl (fun _ => 0))) :: (q23, .inl (gK X 1, 100, .inl (fun _ => 0))) :: (q15, .inl (gK X 1, 100, .inl (fun _ => 0))) :: (q7, .inl (gK X 1, 100, .inl (fun _ => 0))) :: (b, .inr (9, .int 0 :: .ref q7 :: .ref q15 :: .ref q23 :: .ref q31 :: .ref q39 :: .ref q47 :: .int 0 :: .int 0 :: .ref q56 :: .int 0 :: .int 16 :: .int 8 :: .int 40 :: .int 30 :: .int 60 :: .int 1 :: .ref q99 :: .ref q245 :: .ref q254 :: .int 0 :: .int 0 :: .int 0 :: .int 0 :: .int (-1) :: .int 0 :: .ref q267 :: .int 0 :: .ref q275 :: .ref q283 :: .ref q292 :: .ref q301 :: .ref q310 :: .ref q319 :: .ref q328 :: .ref q336 :: .null :: .int 0 :: .int 0 :: .null :: .null :: .null :: [])) :: w) hX hI rfl k_lay9 k_ok9 k_n9 (by decide) cw_1022 rfl rfl rfl rfl rfl (Nat.le_of_ble_eq_true rfl) rfl diM_338 ?_
  refine g_aload hX diM_341 rfl 0 rfl ?_
  refine g_bipush (v := 48) hX diM_342 (by decide) ?_
  refine g_newa (atype := .boolean) (ty := .boolean) (t := 3) (N := 48) (cells' := 20) (slots' := 9722) hX rfl (fun _ => rfl) (fun _ _ h => h) rfl cw_310 (by decide) (by decide) (by decide) rfl rfl (by decide) (by decide) diM_344 (fun q344 => ?_)
  refine g_putF (ci := 9) (k := 36) (q0 := 20) (ty0 := k_y9) (w' := (q344, .inl (gK X 3, 48, .inl (fun _ => 0))) :: (q336, .inl (gK X 1, 48, .inl (fun _ => 0))) :: (q328, .inl (gK X 1, 1152, .inl (fun _ => 0))) :: (q319, .inl (gK X 1, 1152, .inl (fun _ => 0))) :: (q310, .inl (gK X 1, 1152, .inl (fun _ => 0))) :: (q301, .inl (gK X 1, 1152, .inl (fun _ => 0))) :: (q292, .inl (gK X 1, 576, .inl (fun _ => 0))) :: (q283, .inl (gK X 1, 24, .inl (fun _ => 0))) :: (q275, .inl (gK X 1, 24, .inl (fun _ => 0))) :: (q267, .inl (gK X 1, 12, .inl (fun _ => 0))) :: (q254, .inl (gK X 2, 700, .inl (fun _ => 0))) :: (q245, .inl (gK X 1, 48, .inl (fun _ => 0))) :: (q99, .inl (gK X 1, 24, .inl (fun j => c32 (k_s5 j)))) :: (q56, .inl (gK X 1, 3010, .inl (fun _ => 0))) :: (q47, .inl (gK X 1, 100, .inl (fun _ => 0))) :: (q39, .inl (gK X 1, 100, .inl (fun _ => 0))) :: (q31, .inl (gK X 1, 100, .inl (fun _ => 0))) :: (q23, .inl (gK X 1, 100, .inl (fun _ => 0))) :: (q15, .inl (gK X 1, 100, .inl (fun _ => 0))) :: (q7, .inl (gK X 1, 100, .inl (fun _ => 0))) :: (b, .inr (9, .int 0 :: .ref q7 :: .ref q15 :: .ref q23 :: .ref q31 :: .ref q39 :: .ref q47 :: .int 0 :: .int 0 :: .ref q56 :: .int 0 :: .int 16 :: .int 8 :: .int 40 :: .int 30 :: .int 60 :: .int 1 :: .ref q99 :: .ref q245 :: .ref q254 :: .int 0 :: .int 0 :: .int 0 :: .int 0 :: .int (-1) :: .int 0 :: .ref q267 :: .int 0 :: .ref q275 :: .ref q283 :: .ref q292 :: .ref q301 :: .ref q310 :: .ref q319 :: .ref q328 :: .ref q336 :: .ref q344 :: .int 0 :: .int 0 :: .null :: .null :: .null :: [])) :: w) hX hI rfl k_lay9 k_ok9 k_n9 (by decide) cw_1023 rfl rfl rfl rfl rfl (Nat.le_of_ble_eq_true rfl) rfl diM_346 ?_
  refine g_at (pc := 349) rfl ?_
  refine g_aload hX diM_349 rfl 0 rfl ?_
  refine g_sipush (v := 1152) hX diM_350 (by decide) ?_
  refine g_newa (atype := .int) (ty := .int) (t := 1) (N := 1152) (cells' := 21) (slots' := 10874) hX rfl (fun _ => rfl) (fun _ _ h => h) rfl cw_60 (by decide) (by decide) (by decide) rfl rfl (by decide) (by decide) diM_353 (fun q353 => ?_)
  refine g_putF (ci := 9) (k := 39) (q0 := 21) (ty0 := k_y9) (w' := (q353, .inl (gK X 1, 1152, .inl (fun _ => 0))) :: (q344, .inl (gK X 3, 48, .inl (fun _ => 0))) :: (q336, .inl (gK X 1, 48, .inl (fun _ => 0))) :: (q328, .inl (gK X 1, 1152, .inl (fun _ => 0))) :: (q319, .inl (gK X 1, 1152, .inl (fun _ => 0))) :: (q310, .inl (gK X 1, 1152, .inl (fun _ => 0))) :: (q301, .inl (gK X 1, 1152, .inl (fun _ => 0))) :: (q292, .inl (gK X 1, 576, .inl (fun _ => 0))) :: (q283, .inl (gK X 1, 24, .inl (fun _ => 0))) :: (q275, .inl (gK X 1, 24, .inl (fun _ => 0))) :: (q267, .inl (gK X 1, 12, .inl (fun _ => 0))) :: (q254, .inl (gK X 2, 700, .inl (fun _ => 0))) :: (q245, .inl (gK X 1, 48, .inl (fun _ => 0))) :: (q99, .inl (gK X 1, 24, .inl (fun j => c32 (k_s5 j)))) :: (q56, .inl (gK X 1, 3010, .inl (fun _ => 0))) :: (q47, .inl (gK X 1, 100, .inl (fun _ => 0))) :: (q39, .inl (gK X 1, 100, .inl (fun _ => 0))) :: (q31, .inl (gK X 1, 100, .inl (fun _ => 0))) :: (q23, .inl (gK X 1, 100, .inl (fun _ => 0))) :: (q15, .inl (gK X 1, 100, .inl (fun _ => 0))) :: (q7, .inl (gK X 1, 100, .inl (fun _ => 0))) :: (b, .inr (9, .int 0 :: .ref q7 :: .ref q15 :: .ref q23 :: .ref q31 :: .ref q39 :: .ref q47 :: .int 0 :: .int 0 :: .ref q56 :: .int 0 :: .int 16 :: .int 8 :: .int 40 :: .int 30 :: .int 60 :: .int 1 :: .ref q99 :: .ref q245 :: .ref q254 :: .int 0 :: .int 0 :: .int 0 :: .int 0 :: .int (-1) :: .int 0 :: .ref q267 :: .int 0 :: .ref q275 :: .ref q283 :: .ref q292 :: .ref q301 :: .ref q310 :: .ref q319 :: .ref q328 :: .ref q336 :: .ref q344 :: .int 0 :: .int 0 :: .ref q353 :: .null :: .null :: [])) :: w) hX hI rfl k_lay9 k_ok9 k_n9 (by decide) cw_1026 rfl rfl rfl rfl rfl (Nat.le_of_ble_eq_true rfl) rfl diM_355 ?_
  refine g_aload hX diM_358 rfl 0 rfl ?_
  refine g_sipush (v := 1152) hX diM_359 (by decide) ?_
  refine g_newa (atype := .int) (ty := .int) (t := 1) (N := 1152) (cells' := 22) (slots' := 12026) hX rfl (fun _ => rfl) (fun _ _ h => h) rfl cw_60 (by decide) (by decide) (by decide) rfl rfl (by decide) (by decide) diM_362 (fun q362 => ?_)
  refine g_putF (ci := 9) (k := 40) (q0 := 22) (ty0 := k_y9) (w' := (q362, .inl (gK X 1, 1152, .inl (fun _ => 0))) :: (q353, .inl (gK X 1, 1152, .inl (fun _ => 0))) :: (q344, .inl (gK X 3, 48, .inl (fun _ => 0))) :: (q336, .inl (gK X 1, 48, .inl (fun _ => 0))) :: (q328, .inl (gK X 1, 1152, .inl (fun _ => 0))) :: (q319, .inl (gK X 1, 1152, .inl (fun _ => 0))) :: (q310, .inl (gK X 1, 1152, .inl (fun _ => 0))) :: (q301, .inl (gK X 1, 1152, .inl (fun _ => 0))) :: (q292, .inl (gK X 1, 576, .inl (fun _ => 0))) :: (q283, .inl (gK X 1, 24, .inl (fun _ => 0))) :: (q275, .inl (gK X 1, 24, .inl (fun _ => 0))) :: (q267, .inl (gK X 1, 12, .inl (fun _ => 0))) :: (q254, .inl (gK X 2, 700, .inl (fun _ => 0))) :: (q245, .inl (gK X 1, 48, .inl (fun _ => 0))) :: (q99, .inl (gK X 1, 24, .inl (fun j => c32 (k_s5 j)))) :: (q56, .inl (gK X 1, 3010, .inl (fun _ => 0))) :: (q47, .inl (gK X 1, 100, .inl (fun _ => 0))) :: (q39, .inl (gK X 1, 100, .inl (fun _ => 0))) :: (q31, .inl (gK X 1, 100, .inl (fun _ => 0))) :: (q23, .inl (gK X 1, 100, .inl (fun _ => 0))) :: (q15, .inl (gK X 1, 100, .inl (fun _ => 0))) :: (q7, .inl (gK X 1, 100, .inl (fun _ => 0))) :: (b, .inr (9, .int 0 :: .ref q7 :: .ref q15 :: .ref q23 :: .ref q31 :: .ref q39 :: .ref q47 :: .int 0 :: .int 0 :: .ref q56 :: .int 0 :: .int 16 :: .int 8 :: .int 40 :: .int 30 :: .int 60 :: .int 1 :: .ref q99 :: .ref q245 :: .ref q254 :: .int 0 :: .int 0 :: .int 0 :: .int 0 :: .int (-1) :: .int 0 :: .ref q267 :: .int 0 :: .ref q275 :: .ref q283 :: .ref q292 :: .ref q301 :: .ref q310 :: .ref q319 :: .ref q328 :: .ref q336 :: .ref q344 :: .int 0 :: .int 0 :: .ref q353 :: .ref q362 :: .null :: [])) :: w) hX hI rfl k_lay9 k_ok9 k_n9 (by decide) cw_1027 rfl rfl rfl rfl rfl (Nat.le_of_ble_eq_true rfl) rfl diM_364 ?_
  refine g_aload hX diM_367 rfl 0 rfl ?_
  refine g_bipush (v := 12) hX diM_368 (by decide) ?_
  refine g_at (pc := 370) rfl ?_
  refine g_newa (atype := .int) (ty := .int) (t := 1) (N := 12) (cells' := 23) (slots' := 12038) hX rfl (fun _ => rfl) (fun _ _ h => h) rfl cw_60 (by decide) (by decide) (by decide) rfl rfl (by decide) (by decide) diM_370 (fun q370 => ?_)
  refine g_putF (ci := 9) (k := 41) (q0 := 23) (ty0 := k_y9) (w' := (q370, .inl (gK X 1, 12, .inl (fun _ => 0))) :: (q362, .inl (gK X 1, 1152, .inl (fun _ => 0))) :: (q353, .inl (gK X 1, 1152, .inl (fun _ => 0))) :: (q344, .inl (gK X 3, 48, .inl (fun _ => 0))) :: (q336, .inl (gK X 1, 48, .inl (fun _ => 0))) :: (q328, .inl (gK X 1, 1152, .inl (fun _ => 0))) :: (q319, .inl (gK X 1, 1152, .inl (fun _ => 0))) :: (q310, .inl (gK X 1, 1152, .inl (fun _ => 0))) :: (q301, .inl (gK X 1, 1152, .inl (fun _ => 0))) :: (q292, .inl (gK X 1, 576, .inl (fun _ => 0))) :: (q283, .inl (gK X 1, 24, .inl (fun _ => 0))) :: (q275, .inl (gK X 1, 24, .inl (fun _ => 0))) :: (q267, .inl (gK X 1, 12, .inl (fun _ => 0))) :: (q254, .inl (gK X 2, 700, .inl (fun _ => 0))) :: (q245, .inl (gK X 1, 48, .inl (fun _ => 0))) :: (q99, .inl (gK X 1, 24, .inl (fun j => c32 (k_s5 j)))) :: (q56, .inl (gK X 1, 3010, .inl (fun _ => 0))) :: (q47, .inl (gK X 1, 100, .inl (fun _ => 0))) :: (q39, .inl (gK X 1, 100, .inl (fun _ => 0))) :: (q31, .inl (gK X 1, 100, .inl (fun _ => 0))) :: (q23, .inl (gK X 1, 100, .inl (fun _ => 0))) :: (q15, .inl (gK X 1, 100, .inl (fun _ => 0))) :: (q7, .inl (gK X 1, 100, .inl (fun _ => 0))) :: (b, .inr (9, .int 0 :: .ref q7 :: .ref q15 :: .ref q23 :: .ref q31 :: .ref q39 :: .ref q47 :: .int 0 :: .int 0 :: .ref q56 :: .int 0 :: .int 16 :: .int 8 :: .int 40 :: .int 30 :: .int 60 :: .int 1 :: .ref q99 :: .ref q245 :: .ref q254 :: .int 0 :: .int 0 :: .int 0 :: .int 0 :: .int (-1) :: .int 0 :: .ref q267 :: .int 0 :: .ref q275 :: .ref q283 :: .ref q292 :: .ref q301 :: .ref q310 :: .ref q319 :: .ref q328 :: .ref q336 :: .ref q344 :: .int 0 :: .int 0 :: .ref q353 :: .ref q362 :: .ref q370 :: [])) :: w) hX hI rfl k_lay9 k_ok9 k_n9 (by decide) cw_1028 rfl rfl rfl rfl rfl (Nat.le_of_ble_eq_true rfl) rfl diM_372 ?_
  refine g_iconst (v := nI 0) hX diM_375 (by decide) ?_
  refine g_istore (lv' := [(1, .int (nI 0)), (0, .ref b)]) hX diM_376 rfl (by decide) rfl ?_
  refine g_perm (List.perm_middle (l₁ := ((q370, .inl (gK X 1, 12, .inl (fun _ => 0))) :: (q362, .inl (gK X 1, 1152, .inl (fun _ => 0))) :: (q353, .inl (gK X 1, 1152, .inl (fun _ => 0))) :: (q344, .inl (gK X 3, 48, .inl (fun _ => 0))) :: (q336, .inl (gK X 1, 48, .inl (fun _ => 0))) :: (q328, .inl (gK X 1, 1152, .inl (fun _ => 0))) :: (q319, .inl (gK X 1, 1152, .inl (fun _ => 0))) :: (q310, .inl (gK X 1, 1152, .inl (fun _ => 0))) :: (q301, .inl (gK X 1, 1152, .inl (fun _ => 0))) :: (q292, .inl (gK X 1, 576, .inl (fun _ => 0))) :: (q283, .inl (gK X 1, 24, .inl (fun _ => 0))) :: (q275, .inl (gK X 1, 24, .inl (fun _ => 0))) :: (q267, .inl (gK X 1, 12, .inl (fun _ => 0))) :: (q254, .inl (gK X 2, 700, .inl (fun _ => 0))) ::  [] : va_W)) (a := ((q245, .inl (gK X 1, 48, .inl (fun _ => 0))) : Nat × va_E)) (l₂ := (q99, .inl (gK X 1, 24, .inl (fun j => c32 (k_s5 j)))) :: (q56, .inl (gK X 1, 3010, .inl (fun _ => 0))) :: (q47, .inl (gK X 1, 100, .inl (fun _ => 0))) :: (q39, .inl (gK X 1, 100, .inl (fun _ => 0))) :: (q31, .inl (gK X 1, 100, .inl (fun _ => 0))) :: (q23, .inl (gK X 1, 100, .inl (fun _ => 0))) :: (q15, .inl (gK X 1, 100, .inl (fun _ => 0))) :: (q7, .inl (gK X 1, 100, .inl (fun _ => 0))) :: (b, .inr (9, .int 0 :: .ref q7 :: .ref q15 :: .ref q23 :: .ref q31 :: .ref q39 :: .ref q47 :: .int 0 :: .int 0 :: .ref q56 :: .int 0 :: .int 16 :: .int 8 :: .int 40 :: .int 30 :: .int 60 :: .int 1 :: .ref q99 :: .ref q245 :: .ref q254 :: .int 0 :: .int 0 :: .int 0 :: .int 0 :: .int (-1) :: .int 0 :: .ref q267 :: .int 0 :: .ref q275 :: .ref q283 :: .ref q292 :: .ref q301 :: .ref q310 :: .ref q319 :: .ref q328 :: .ref q336 :: .ref q344 :: .int 0 :: .int 0 :: .ref q353 :: .ref q362 :: .ref q370 :: [])) :: w)) ?_
  refine g_swap (g := fun j => if j < 0 then -1 else 0) (fun j _ => by simp) ?_
  refine g_mloop (k := 22) hX rfl rfl ?_ 48 0 rfl
  exact g_ret hX hR ⟨q245, q370, q362, q353, q344, q336, q328, q319, q310, q301, q292, q283, q275, q267, q254, q99, q56, q47, q39, q31, q23, q15, q7, rfl⟩ diM_396
