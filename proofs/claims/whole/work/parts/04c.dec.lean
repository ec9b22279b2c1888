theorem dX10_init_0 : decode cX10_init 0 = .ok (.aload_n 0, 1) := by decide +kernel
theorem dX10_init_1 : decode cX10_init 1 = .ok (.invokespecial 1, 3) := by decide +kernel
theorem dX10_init_4 : decode cX10_init 4 = .ok (.aload_n 0, 1) := by decide +kernel
theorem dX10_init_5 : decode cX10_init 5 = .ok (.sipush 700, 3) := by decide +kernel
theorem dX10_init_8 : decode cX10_init 8 = .ok (.newarray .int, 2) := by decide +kernel
theorem dX10_init_10 : decode cX10_init 10 = .ok (.putfield 7, 3) := by decide +kernel
theorem dX10_init_13 : decode cX10_init 13 = .ok (.aload_n 0, 1) := by decide +kernel
theorem dX10_init_14 : decode cX10_init 14 = .ok (.bipush 14, 2) := by decide +kernel
theorem dX10_init_16 : decode cX10_init 16 = .ok (.newarray .int, 2) := by decide +kernel
theorem dX10_init_18 : decode cX10_init 18 = .ok (.dup, 1) := by decide +kernel
theorem dX10_init_19 : decode cX10_init 19 = .ok (.iconst 0, 1) := by decide +kernel
theorem dX10_init_20 : decode cX10_init 20 = .ok (.iconst 0, 1) := by decide +kernel
theorem dX10_init_21 : decode cX10_init 21 = .ok (.iastore, 1) := by decide +kernel
theorem dX10_init_22 : decode cX10_init 22 = .ok (.dup, 1) := by decide +kernel
theorem dX10_init_23 : decode cX10_init 23 = .ok (.iconst 1, 1) := by decide +kernel
theorem dX10_init_24 : decode cX10_init 24 = .ok (.iconst 0, 1) := by decide +kernel
theorem dX10_init_25 : decode cX10_init 25 = .ok (.iastore, 1) := by decide +kernel
theorem dX10_init_26 : decode cX10_init 26 = .ok (.dup, 1) := by decide +kernel
theorem dX10_init_27 : decode cX10_init 27 = .ok (.iconst 2, 1) := by decide +kernel
theorem dX10_init_28 : decode cX10_init 28 = .ok (.iconst 0, 1) := by decide +kernel
theorem dX10_init_29 : decode cX10_init 29 = .ok (.iastore, 1) := by decide +kernel
theorem dX10_init_30 : decode cX10_init 30 = .ok (.dup, 1) := by decide +kernel
theorem dX10_init_31 : decode cX10_init 31 = .ok (.iconst 3, 1) := by decide +kernel
theorem dX10_init_32 : decode cX10_init 32 = .ok (.iconst 2, 1) := by decide +kernel
theorem dX10_init_33 : decode cX10_init 33 = .ok (.iastore, 1) := by decide +kernel
theorem dX10_init_34 : decode cX10_init 34 = .ok (.dup, 1) := by decide +kernel
theorem dX10_init_35 : decode cX10_init 35 = .ok (.iconst 4, 1) := by decide +kernel
theorem dX10_init_36 : decode cX10_init 36 = .ok (.iconst 0, 1) := by decide +kernel
theorem dX10_init_37 : decode cX10_init 37 = .ok (.iastore, 1) := by decide +kernel
theorem dX10_init_38 : decode cX10_init 38 = .ok (.dup, 1) := by decide +kernel
theorem dX10_init_39 : decode cX10_init 39 = .ok (.iconst 5, 1) := by decide +kernel
theorem dX10_init_40 : decode cX10_init 40 = .ok (.iconst 0, 1) := by decide +kernel
theorem dX10_init_41 : decode cX10_init 41 = .ok (.iastore, 1) := by decide +kernel
theorem dX10_init_42 : decode cX10_init 42 = .ok (.dup, 1) := by decide +kernel
theorem dX10_init_43 : decode cX10_init 43 = .ok (.bipush 6, 2) := by decide +kernel
theorem dX10_init_45 : decode cX10_init 45 = .ok (.iconst 0, 1) := by decide +kernel
theorem dX10_init_46 : decode cX10_init 46 = .ok (.iastore, 1) := by decide +kernel
theorem dX10_init_47 : decode cX10_init 47 = .ok (.dup, 1) := by decide +kernel
theorem dX10_init_48 : decode cX10_init 48 = .ok (.bipush 7, 2) := by decide +kernel
theorem dX10_init_50 : decode cX10_init 50 = .ok (.iconst 0, 1) := by decide +kernel
theorem dX10_init_51 : decode cX10_init 51 = .ok (.iastore, 1) := by decide +kernel
theorem dX10_init_52 : decode cX10_init 52 = .ok (.dup, 1) := by decide +kernel
theorem dX10_init_53 : decode cX10_init 53 = .ok (.bipush 8, 2) := by decide +kernel
theorem dX10_init_55 : decode cX10_init 55 = .ok (.iconst 0, 1) := by decide +kernel
theorem dX10_init_56 : decode cX10_init 56 = .ok (.iastore, 1) := by decide +kernel
theorem dX10_init_57 : decode cX10_init 57 = .ok (.dup, 1) := by decide +kernel
theorem dX10_init_58 : decode cX10_init 58 = .ok (.bipush 9, 2) := by decide +kernel
theorem dX10_init_60 : decode cX10_init 60 = .ok (.iconst 0, 1) := by decide +kernel
theorem dX10_init_61 : decode cX10_init 61 = .ok (.iastore, 1) := by decide +kernel
theorem dX10_init_62 : decode cX10_init 62 = .ok (.dup, 1) := by decide +kernel
theorem dX10_init_63 : decode cX10_init 63 = .ok (.bipush 10, 2) := by decide +kernel
theorem dX10_init_65 : decode cX10_init 65 = .ok (.iconst 2, 1) := by decide +kernel
theorem dX10_init_66 : decode cX10_init 66 = .ok (.iastore, 1) := by decide +kernel
theorem dX10_init_67 : decode cX10_init 67 = .ok (.dup, 1) := by decide +kernel
theorem dX10_init_68 : decode cX10_init 68 = .ok (.bipush 11, 2) := by decide +kernel
theorem dX10_init_70 : decode cX10_init 70 = .ok (.iconst 0, 1) := by decide +kernel
theorem dX10_init_71 : decode cX10_init 71 = .ok (.iastore, 1) := by decide +kernel
theorem dX10_init_72 : decode cX10_init 72 = .ok (.dup, 1) := by decide +kernel
theorem dX10_init_73 : decode cX10_init 73 = .ok (.bipush 12, 2) := by decide +kernel
theorem dX10_init_75 : decode cX10_init 75 = .ok (.iconst 0, 1) := by decide +kernel
theorem dX10_init_76 : decode cX10_init 76 = .ok (.iastore, 1) := by decide +kernel
theorem dX10_init_77 : decode cX10_init 77 = .ok (.dup, 1) := by decide +kernel
theorem dX10_init_78 : decode cX10_init 78 = .ok (.bipush 13, 2) := by decide +kernel
theorem dX10_init_80 : decode cX10_init 80 = .ok (.iconst 0, 1) := by decide +kernel
theorem dX10_init_81 : decode cX10_init 81 = .ok (.iastore, 1) := by decide +kernel
theorem dX10_init_82 : decode cX10_init 82 = .ok (.putfield 13, 3) := by decide +kernel
theorem dX10_init_85 : decode cX10_init 85 = .ok (.aload_n 0, 1) := by decide +kernel
theorem dX10_init_86 : decode cX10_init 86 = .ok (.bipush 16, 2) := by decide +kernel
theorem dX10_init_88 : decode cX10_init 88 = .ok (.newarray .int, 2) := by decide +kernel
theorem dX10_init_90 : decode cX10_init 90 = .ok (.putfield 16, 3) := by decide +kernel
theorem dX10_init_93 : decode cX10_init 93 = .ok (.aload_n 0, 1) := by decide +kernel
theorem dX10_init_94 : decode cX10_init 94 = .ok (.bipush 16, 2) := by decide +kernel
theorem dX10_init_96 : decode cX10_init 96 = .ok (.newarray .int, 2) := by decide +kernel
theorem dX10_init_98 : decode cX10_init 98 = .ok (.putfield 19, 3) := by decide +kernel
theorem dX10_init_101 : decode cX10_init 101 = .ok (.aload_n 0, 1) := by decide +kernel
theorem dX10_init_102 : decode cX10_init 102 = .ok (.bipush 16, 2) := by decide +kernel
theorem dX10_init_104 : decode cX10_init 104 = .ok (.newarray .int, 2) := by decide +kernel
theorem dX10_init_106 : decode cX10_init 106 = .ok (.putfield 22, 3) := by decide +kernel
theorem dX10_init_109 : decode cX10_init 109 = .ok (.aload_n 0, 1) := by decide +kernel
theorem dX10_init_110 : decode cX10_init 110 = .ok (.bipush 16, 2) := by decide +kernel
theorem dX10_init_112 : decode cX10_init 112 = .ok (.newarray .int, 2) := by decide +kernel
theorem dX10_init_114 : decode cX10_init 114 = .ok (.putfield 25, 3) := by decide +kernel
theorem dX10_init_117 : decode cX10_init 117 = .ok (.aload_n 0, 1) := by decide +kernel
theorem dX10_init_118 : decode cX10_init 118 = .ok (.bipush 8, 2) := by decide +kernel
theorem dX10_init_120 : decode cX10_init 120 = .ok (.newarray .int, 2) := by decide +kernel
theorem dX10_init_122 : decode cX10_init 122 = .ok (.putfield 28, 3) := by decide +kernel
theorem dX10_init_125 : decode cX10_init 125 = .ok (.aload_n 0, 1) := by decide +kernel
theorem dX10_init_126 : decode cX10_init 126 = .ok (.bipush 8, 2) := by decide +kernel
theorem dX10_init_128 : decode cX10_init 128 = .ok (.newarray .int, 2) := by decide +kernel
theorem dX10_init_130 : decode cX10_init 130 = .ok (.putfield 31, 3) := by decide +kernel
theorem dX10_init_133 : decode cX10_init 133 = .ok (.aload_n 0, 1) := by decide +kernel
theorem dX10_init_134 : decode cX10_init 134 = .ok (.bipush 8, 2) := by decide +kernel
theorem dX10_init_136 : decode cX10_init 136 = .ok (.newarray .int, 2) := by decide +kernel
theorem dX10_init_138 : decode cX10_init 138 = .ok (.putfield 34, 3) := by decide +kernel
theorem dX10_init_141 : decode cX10_init 141 = .ok (.aload_n 0, 1) := by decide +kernel
theorem dX10_init_142 : decode cX10_init 142 = .ok (.bipush 8, 2) := by decide +kernel
theorem dX10_init_144 : decode cX10_init 144 = .ok (.newarray .int, 2) := by decide +kernel
theorem dX10_init_146 : decode cX10_init 146 = .ok (.putfield 37, 3) := by decide +kernel
theorem dX10_init_149 : decode cX10_init 149 = .ok (.aload_n 0, 1) := by decide +kernel
theorem dX10_init_150 : decode cX10_init 150 = .ok (.bipush 8, 2) := by decide +kernel
theorem dX10_init_152 : decode cX10_init 152 = .ok (.newarray .int, 2) := by decide +kernel
theorem dX10_init_154 : decode cX10_init 154 = .ok (.putfield 40, 3) := by decide +kernel
theorem dX10_init_157 : decode cX10_init 157 = .ok (.aload_n 0, 1) := by decide +kernel
theorem dX10_init_158 : decode cX10_init 158 = .ok (.bipush 16, 2) := by decide +kernel
theorem dX10_init_160 : decode cX10_init 160 = .ok (.newarray .int, 2) := by decide +kernel
theorem dX10_init_162 : decode cX10_init 162 = .ok (.putfield 43, 3) := by decide +kernel
theorem dX10_init_165 : decode cX10_init 165 = .ok (.aload_n 0, 1) := by decide +kernel
theorem dX10_init_166 : decode cX10_init 166 = .ok (.bipush 16, 2) := by decide +kernel
theorem dX10_init_168 : decode cX10_init 168 = .ok (.newarray .int, 2) := by decide +kernel
theorem dX10_init_170 : decode cX10_init 170 = .ok (.putfield 46, 3) := by decide +kernel
theorem dX10_init_173 : decode cX10_init 173 = .ok (.aload_n 0, 1) := by decide +kernel
theorem dX10_init_174 : decode cX10_init 174 = .ok (.bipush 6, 2) := by decide +kernel
theorem dX10_init_176 : decode cX10_init 176 = .ok (.newarray .int, 2) := by decide +kernel
theorem dX10_init_178 : decode cX10_init 178 = .ok (.putfield 49, 3) := by decide +kernel
theorem dX10_init_181 : decode cX10_init 181 = .ok (.aload_n 0, 1) := by decide +kernel
theorem dX10_init_182 : decode cX10_init 182 = .ok (.bipush 6, 2) := by decide +kernel
theorem dX10_init_184 : decode cX10_init 184 = .ok (.newarray .int, 2) := by decide +kernel
theorem dX10_init_186 : decode cX10_init 186 = .ok (.putfield 52, 3) := by decide +kernel
theorem dX10_init_189 : decode cX10_init 189 = .ok (.aload_n 0, 1) := by decide +kernel
theorem dX10_init_190 : decode cX10_init 190 = .ok (.sipush 128, 3) := by decide +kernel
theorem dX10_init_193 : decode cX10_init 193 = .ok (.newarray .int, 2) := by decide +kernel
theorem dX10_init_195 : decode cX10_init 195 = .ok (.putfield 55, 3) := by decide +kernel
theorem dX10_init_198 : decode cX10_init 198 = .ok (.aload_n 0, 1) := by decide +kernel
theorem dX10_init_199 : decode cX10_init 199 = .ok (.sipush 128, 3) := by decide +kernel
theorem dX10_init_202 : decode cX10_init 202 = .ok (.newarray .int, 2) := by decide +kernel
theorem dX10_init_204 : decode cX10_init 204 = .ok (.putfield 58, 3) := by decide +kernel
theorem dX10_init_207 : decode cX10_init 207 = .ok (.aload_n 0, 1) := by decide +kernel
theorem dX10_init_208 : decode cX10_init 208 = .ok (.iconst (-1), 1) := by decide +kernel
theorem dX10_init_209 : decode cX10_init 209 = .ok (.putfield 61, 3) := by decide +kernel
theorem dX10_init_212 : decode cX10_init 212 = .ok (.aload_n 0, 1) := by decide +kernel
theorem dX10_init_213 : decode cX10_init 213 = .ok (.bipush 7, 2) := by decide +kernel
theorem dX10_init_215 : decode cX10_init 215 = .ok (.newarray .long, 2) := by decide +kernel
theorem dX10_init_217 : decode cX10_init 217 = .ok (.putfield 65, 3) := by decide +kernel
theorem dX10_init_220 : decode cX10_init 220 = .ok (.aload_n 0, 1) := by decide +kernel
theorem dX10_init_221 : decode cX10_init 221 = .ok (.bipush 64, 2) := by decide +kernel
theorem dX10_init_223 : decode cX10_init 223 = .ok (.newarray .long, 2) := by decide +kernel
theorem dX10_init_225 : decode cX10_init 225 = .ok (.putfield 69, 3) := by decide +kernel
theorem dX10_init_228 : decode cX10_init 228 = .ok (.aload_n 0, 1) := by decide +kernel
theorem dX10_init_229 : decode cX10_init 229 = .ok (.bipush 23, 2) := by decide +kernel
theorem dX10_init_231 : decode cX10_init 231 = .ok (.newarray .int, 2) := by decide +kernel
theorem dX10_init_233 : decode cX10_init 233 = .ok (.putfield 72, 3) := by decide +kernel
theorem dX10_init_236 : decode cX10_init 236 = .ok (.aload_n 0, 1) := by decide +kernel
theorem dX10_init_237 : decode cX10_init 237 = .ok (.bipush 23, 2) := by decide +kernel
theorem dX10_init_239 : decode cX10_init 239 = .ok (.newarray .int, 2) := by decide +kernel
theorem dX10_init_241 : decode cX10_init 241 = .ok (.putfield 75, 3) := by decide +kernel
theorem dX10_init_244 : decode cX10_init 244 = .ok (.aload_n 0, 1) := by decide +kernel
theorem dX10_init_245 : decode cX10_init 245 = .ok (.bipush 23, 2) := by decide +kernel
theorem dX10_init_247 : decode cX10_init 247 = .ok (.newarray .int, 2) := by decide +kernel
theorem dX10_init_249 : decode cX10_init 249 = .ok (.putfield 78, 3) := by decide +kernel
theorem dX10_init_252 : decode cX10_init 252 = .ok (.aload_n 0, 1) := by decide +kernel
theorem dX10_init_253 : decode cX10_init 253 = .ok (.sipush 184, 3) := by decide +kernel
theorem dX10_init_256 : decode cX10_init 256 = .ok (.newarray .int, 2) := by decide +kernel
theorem dX10_init_258 : decode cX10_init 258 = .ok (.putfield 81, 3) := by decide +kernel
theorem dX10_init_261 : decode cX10_init 261 = .ok (.aload_n 0, 1) := by decide +kernel
theorem dX10_init_262 : decode cX10_init 262 = .ok (.sipush 184, 3) := by decide +kernel
theorem dX10_init_265 : decode cX10_init 265 = .ok (.newarray .int, 2) := by decide +kernel
theorem dX10_init_267 : decode cX10_init 267 = .ok (.putfield 84, 3) := by decide +kernel
theorem dX10_init_270 : decode cX10_init 270 = .ok (.aload_n 0, 1) := by decide +kernel
theorem dX10_init_271 : decode cX10_init 271 = .ok (.sipush 184, 3) := by decide +kernel
theorem dX10_init_274 : decode cX10_init 274 = .ok (.newarray .int, 2) := by decide +kernel
theorem dX10_init_276 : decode cX10_init 276 = .ok (.putfield 87, 3) := by decide +kernel
theorem dX10_init_279 : decode cX10_init 279 = .ok (.aload_n 0, 1) := by decide +kernel
theorem dX10_init_280 : decode cX10_init 280 = .ok (.sipush 184, 3) := by decide +kernel
theorem dX10_init_283 : decode cX10_init 283 = .ok (.newarray .int, 2) := by decide +kernel
theorem dX10_init_285 : decode cX10_init 285 = .ok (.putfield 90, 3) := by decide +kernel
theorem dX10_init_288 : decode cX10_init 288 = .ok (.aload_n 0, 1) := by decide +kernel
theorem dX10_init_289 : decode cX10_init 289 = .ok (.sipush 184, 3) := by decide +kernel
theorem dX10_init_292 : decode cX10_init 292 = .ok (.newarray .int, 2) := by decide +kernel
theorem dX10_init_294 : decode cX10_init 294 = .ok (.putfield 93, 3) := by decide +kernel
theorem dX10_init_297 : decode cX10_init 297 = .ok (.aload_n 0, 1) := by decide +kernel
theorem dX10_init_298 : decode cX10_init 298 = .ok (.sipush 184, 3) := by decide +kernel
theorem dX10_init_301 : decode cX10_init 301 = .ok (.newarray .int, 2) := by decide +kernel
theorem dX10_init_303 : decode cX10_init 303 = .ok (.putfield 96, 3) := by decide +kernel
theorem dX10_init_306 : decode cX10_init 306 = .ok (.aload_n 0, 1) := by decide +kernel
theorem dX10_init_307 : decode cX10_init 307 = .ok (.sipush 184, 3) := by decide +kernel
theorem dX10_init_310 : decode cX10_init 310 = .ok (.newarray .int, 2) := by decide +kernel
theorem dX10_init_312 : decode cX10_init 312 = .ok (.putfield 99, 3) := by decide +kernel
theorem dX10_init_315 : decode cX10_init 315 = .ok (.aload_n 0, 1) := by decide +kernel
theorem dX10_init_316 : decode cX10_init 316 = .ok (.iconst (-1), 1) := by decide +kernel
theorem dX10_init_317 : decode cX10_init 317 = .ok (.putfield 102, 3) := by decide +kernel
theorem dX10_init_320 : decode cX10_init 320 = .ok (.aload_n 0, 1) := by decide +kernel
theorem dX10_init_321 : decode cX10_init 321 = .ok (.bipush 8, 2) := by decide +kernel
theorem dX10_init_323 : decode cX10_init 323 = .ok (.newarray .int, 2) := by decide +kernel
theorem dX10_init_325 : decode cX10_init 325 = .ok (.putfield 105, 3) := by decide +kernel
theorem dX10_init_328 : decode cX10_init 328 = .ok (.aload_n 0, 1) := by decide +kernel
theorem dX10_init_329 : decode cX10_init 329 = .ok (.iconst 4, 1) := by decide +kernel
theorem dX10_init_330 : decode cX10_init 330 = .ok (.newarray .int, 2) := by decide +kernel
theorem dX10_init_332 : decode cX10_init 332 = .ok (.putfield 108, 3) := by decide +kernel
theorem dX10_init_335 : decode cX10_init 335 = .ok (.aload_n 0, 1) := by decide +kernel
theorem dX10_init_336 : decode cX10_init 336 = .ok (.iconst 4, 1) := by decide +kernel
theorem dX10_init_337 : decode cX10_init 337 = .ok (.newarray .int, 2) := by decide +kernel
theorem dX10_init_339 : decode cX10_init 339 = .ok (.putfield 111, 3) := by decide +kernel
theorem dX10_init_342 : decode cX10_init 342 = .ok (.aload_n 0, 1) := by decide +kernel
theorem dX10_init_343 : decode cX10_init 343 = .ok (.iconst 4, 1) := by decide +kernel
theorem dX10_init_344 : decode cX10_init 344 = .ok (.newarray .int, 2) := by decide +kernel
theorem dX10_init_346 : decode cX10_init 346 = .ok (.putfield 114, 3) := by decide +kernel
theorem dX10_init_349 : decode cX10_init 349 = .ok (.aload_n 0, 1) := by decide +kernel
theorem dX10_init_350 : decode cX10_init 350 = .ok (.iconst 4, 1) := by decide +kernel
theorem dX10_init_351 : decode cX10_init 351 = .ok (.newarray .int, 2) := by decide +kernel
theorem dX10_init_353 : decode cX10_init 353 = .ok (.putfield 117, 3) := by decide +kernel
theorem dX10_init_356 : decode cX10_init 356 = .ok (.aload_n 0, 1) := by decide +kernel
theorem dX10_init_357 : decode cX10_init 357 = .ok (.iconst (-1), 1) := by decide +kernel
theorem dX10_init_358 : decode cX10_init 358 = .ok (.putfield 120, 3) := by decide +kernel
theorem dX10_init_361 : decode cX10_init 361 = .ok (.aload_n 0, 1) := by decide +kernel
theorem dX10_init_362 : decode cX10_init 362 = .ok (.bipush 24, 2) := by decide +kernel
theorem dX10_init_364 : decode cX10_init 364 = .ok (.newarray .int, 2) := by decide +kernel
theorem dX10_init_366 : decode cX10_init 366 = .ok (.putfield 123, 3) := by decide +kernel
theorem dX10_init_369 : decode cX10_init 369 = .ok (.aload_n 0, 1) := by decide +kernel
theorem dX10_init_370 : decode cX10_init 370 = .ok (.bipush 24, 2) := by decide +kernel
theorem dX10_init_372 : decode cX10_init 372 = .ok (.newarray .int, 2) := by decide +kernel
theorem dX10_init_374 : decode cX10_init 374 = .ok (.putfield 126, 3) := by decide +kernel
theorem dX10_init_377 : decode cX10_init 377 = .ok (.aload_n 0, 1) := by decide +kernel
theorem dX10_init_378 : decode cX10_init 378 = .ok (.bipush 24, 2) := by decide +kernel
theorem dX10_init_380 : decode cX10_init 380 = .ok (.newarray .boolean, 2) := by decide +kernel
theorem dX10_init_382 : decode cX10_init 382 = .ok (.putfield 129, 3) := by decide +kernel
theorem dX10_init_385 : decode cX10_init 385 = .ok (.aload_n 0, 1) := by decide +kernel
theorem dX10_init_386 : decode cX10_init 386 = .ok (.bipush 24, 2) := by decide +kernel
theorem dX10_init_388 : decode cX10_init 388 = .ok (.newarray .int, 2) := by decide +kernel
theorem dX10_init_390 : decode cX10_init 390 = .ok (.putfield 133, 3) := by decide +kernel
theorem dX10_init_393 : decode cX10_init 393 = .ok (.aload_n 0, 1) := by decide +kernel
theorem dX10_init_394 : decode cX10_init 394 = .ok (.bipush 24, 2) := by decide +kernel
theorem dX10_init_396 : decode cX10_init 396 = .ok (.newarray .boolean, 2) := by decide +kernel
theorem dX10_init_398 : decode cX10_init 398 = .ok (.putfield 136, 3) := by decide +kernel
theorem dX10_init_401 : decode cX10_init 401 = .ok (.aload_n 0, 1) := by decide +kernel
theorem dX10_init_402 : decode cX10_init 402 = .ok (.invokevirtual 139, 3) := by decide +kernel
theorem dX10_init_405 : decode cX10_init 405 = .ok (.return_, 1) := by decide +kernel
theorem dX10_thrown_0 : decode cX10_thrown 0 = .ok (.aload_n 0, 1) := by decide +kernel
theorem dX10_thrown_1 : decode cX10_thrown 1 = .ok (.getfield 142, 3) := by decide +kernel
theorem dX10_thrown_4 : decode cX10_thrown 4 = .ok (.ireturn, 1) := by decide +kernel
theorem dX10_feed_0 : decode cX10_feed 0 = .ok (.aload_n 0, 1) := by decide +kernel
theorem dX10_feed_1 : decode cX10_feed 1 = .ok (.iconst 0, 1) := by decide +kernel
theorem dX10_feed_2 : decode cX10_feed 2 = .ok (.putfield 142, 3) := by decide +kernel
theorem dX10_feed_5 : decode cX10_feed 5 = .ok (.aload_n 0, 1) := by decide +kernel
theorem dX10_feed_6 : decode cX10_feed 6 = .ok (.getfield 145, 3) := by decide +kernel
theorem dX10_feed_9 : decode cX10_feed 9 = .ok (.sipush 680, 3) := by decide +kernel
theorem dX10_feed_12 : decode cX10_feed 12 = .ok (.if_icmp .le 5, 3) := by decide +kernel
theorem dX10_feed_15 : decode cX10_feed 15 = .ok (.iconst (-1), 1) := by decide +kernel
theorem dX10_feed_16 : decode cX10_feed 16 = .ok (.ireturn, 1) := by decide +kernel
theorem dX10_feed_17 : decode cX10_feed 17 = .ok (.iconst 0, 1) := by decide +kernel
theorem dX10_feed_18 : decode cX10_feed 18 = .ok (.istore 6, 2) := by decide +kernel
theorem dX10_feed_20 : decode cX10_feed 20 = .ok (.iload 6, 2) := by decide +kernel
theorem dX10_feed_22 : decode cX10_feed 22 = .ok (.bipush 20, 2) := by decide +kernel
theorem dX10_feed_24 : decode cX10_feed 24 = .ok (.if_icmp .ge 86, 3) := by decide +kernel
theorem dX10_feed_27 : decode cX10_feed 27 = .ok (.iload 6, 2) := by decide +kernel
theorem dX10_feed_29 : decode cX10_feed 29 = .ok (.iconst 4, 1) := by decide +kernel
theorem dX10_feed_30 : decode cX10_feed 30 = .ok (.if_icmp .ge 7, 3) := by decide +kernel
theorem dX10_feed_33 : decode cX10_feed 33 = .ok (.iload_n 1, 1) := by decide +kernel
theorem dX10_feed_34 : decode cX10_feed 34 = .ok (.goto 39, 3) := by decide +kernel
theorem dX10_feed_37 : decode cX10_feed 37 = .ok (.iload 6, 2) := by decide +kernel
theorem dX10_feed_39 : decode cX10_feed 39 = .ok (.bipush 8, 2) := by decide +kernel
theorem dX10_feed_41 : decode cX10_feed 41 = .ok (.if_icmp .ge 7, 3) := by decide +kernel
theorem dX10_feed_44 : decode cX10_feed 44 = .ok (.iload_n 2, 1) := by decide +kernel
theorem dX10_feed_45 : decode cX10_feed 45 = .ok (.goto 28, 3) := by decide +kernel
theorem dX10_feed_48 : decode cX10_feed 48 = .ok (.iload 6, 2) := by decide +kernel
theorem dX10_feed_50 : decode cX10_feed 50 = .ok (.bipush 12, 2) := by decide +kernel
theorem dX10_feed_52 : decode cX10_feed 52 = .ok (.if_icmp .ge 7, 3) := by decide +kernel
theorem dX10_feed_55 : decode cX10_feed 55 = .ok (.iload_n 3, 1) := by decide +kernel
theorem dX10_feed_56 : decode cX10_feed 56 = .ok (.goto 17, 3) := by decide +kernel
theorem dX10_feed_59 : decode cX10_feed 59 = .ok (.iload 6, 2) := by decide +kernel
theorem dX10_feed_61 : decode cX10_feed 61 = .ok (.bipush 16, 2) := by decide +kernel
theorem dX10_feed_63 : decode cX10_feed 63 = .ok (.if_icmp .ge 8, 3) := by decide +kernel
theorem dX10_feed_66 : decode cX10_feed 66 = .ok (.iload 4, 2) := by decide +kernel
theorem dX10_feed_68 : decode cX10_feed 68 = .ok (.goto 5, 3) := by decide +kernel
theorem dX10_feed_71 : decode cX10_feed 71 = .ok (.iload 5, 2) := by decide +kernel
theorem dX10_feed_73 : decode cX10_feed 73 = .ok (.istore 7, 2) := by decide +kernel
theorem dX10_feed_75 : decode cX10_feed 75 = .ok (.aload_n 0, 1) := by decide +kernel
theorem dX10_feed_76 : decode cX10_feed 76 = .ok (.getfield 7, 3) := by decide +kernel
theorem dX10_feed_79 : decode cX10_feed 79 = .ok (.aload_n 0, 1) := by decide +kernel
theorem dX10_feed_80 : decode cX10_feed 80 = .ok (.getfield 145, 3) := by decide +kernel
theorem dX10_feed_83 : decode cX10_feed 83 = .ok (.iload 6, 2) := by decide +kernel
theorem dX10_feed_85 : decode cX10_feed 85 = .ok (.iadd, 1) := by decide +kernel
theorem dX10_feed_86 : decode cX10_feed 86 = .ok (.iload 7, 2) := by decide +kernel
theorem dX10_feed_88 : decode cX10_feed 88 = .ok (.bipush 24, 2) := by decide +kernel
theorem dX10_feed_90 : decode cX10_feed 90 = .ok (.bipush 8, 2) := by decide +kernel
theorem dX10_feed_92 : decode cX10_feed 92 = .ok (.iload 6, 2) := by decide +kernel
theorem dX10_feed_94 : decode cX10_feed 94 = .ok (.iconst 4, 1) := by decide +kernel
theorem dX10_feed_95 : decode cX10_feed 95 = .ok (.irem, 1) := by decide +kernel
theorem dX10_feed_96 : decode cX10_feed 96 = .ok (.imul, 1) := by decide +kernel
theorem dX10_feed_97 : decode cX10_feed 97 = .ok (.isub, 1) := by decide +kernel
theorem dX10_feed_98 : decode cX10_feed 98 = .ok (.ishr, 1) := by decide +kernel
theorem dX10_feed_99 : decode cX10_feed 99 = .ok (.sipush 255, 3) := by decide +kernel
theorem dX10_feed_102 : decode cX10_feed 102 = .ok (.iand, 1) := by decide +kernel
theorem dX10_feed_103 : decode cX10_feed 103 = .ok (.iastore, 1) := by decide +kernel
theorem dX10_feed_104 : decode cX10_feed 104 = .ok (.iinc 6 1, 3) := by decide +kernel
theorem dX10_feed_107 : decode cX10_feed 107 = .ok (.goto (-87), 3) := by decide +kernel
theorem dX10_feed_110 : decode cX10_feed 110 = .ok (.aload_n 0, 1) := by decide +kernel
theorem dX10_feed_111 : decode cX10_feed 111 = .ok (.dup, 1) := by decide +kernel
theorem dX10_feed_112 : decode cX10_feed 112 = .ok (.getfield 145, 3) := by decide +kernel
theorem dX10_feed_115 : decode cX10_feed 115 = .ok (.bipush 20, 2) := by decide +kernel
theorem dX10_feed_117 : decode cX10_feed 117 = .ok (.iadd, 1) := by decide +kernel
theorem dX10_feed_118 : decode cX10_feed 118 = .ok (.putfield 145, 3) := by decide +kernel
theorem dX10_feed_121 : decode cX10_feed 121 = .ok (.aload_n 0, 1) := by decide +kernel
theorem dX10_feed_122 : decode cX10_feed 122 = .ok (.getfield 145, 3) := by decide +kernel
theorem dX10_feed_125 : decode cX10_feed 125 = .ok (.ireturn, 1) := by decide +kernel
theorem dX10_here_0 : decode cX10_here 0 = .ok (.aload_n 0, 1) := by decide +kernel
theorem dX10_here_1 : decode cX10_here 1 = .ok (.getfield 148, 3) := by decide +kernel
theorem dX10_here_4 : decode cX10_here 4 = .ok (.aload_n 0, 1) := by decide +kernel
theorem dX10_here_5 : decode cX10_here 5 = .ok (.getfield 151, 3) := by decide +kernel
theorem dX10_here_8 : decode cX10_here 8 = .ok (.if_icmp .ge 15, 3) := by decide +kernel
theorem dX10_here_11 : decode cX10_here 11 = .ok (.aload_n 0, 1) := by decide +kernel
theorem dX10_here_12 : decode cX10_here 12 = .ok (.getfield 7, 3) := by decide +kernel
theorem dX10_here_15 : decode cX10_here 15 = .ok (.aload_n 0, 1) := by decide +kernel
theorem dX10_here_16 : decode cX10_here 16 = .ok (.getfield 148, 3) := by decide +kernel
theorem dX10_here_19 : decode cX10_here 19 = .ok (.iaload, 1) := by decide +kernel
theorem dX10_here_20 : decode cX10_here 20 = .ok (.goto 4, 3) := by decide +kernel
theorem dX10_here_23 : decode cX10_here 23 = .ok (.iconst (-1), 1) := by decide +kernel
theorem dX10_here_24 : decode cX10_here 24 = .ok (.ireturn, 1) := by decide +kernel
theorem dX10_isSmall_0 : decode cX10_isSmall 0 = .ok (.iload_n 0, 1) := by decide +kernel
theorem dX10_isSmall_1 : decode cX10_isSmall 1 = .ok (.bipush 97, 2) := by decide +kernel
theorem dX10_isSmall_3 : decode cX10_isSmall 3 = .ok (.if_icmp .lt 13, 3) := by decide +kernel
theorem dX10_isSmall_6 : decode cX10_isSmall 6 = .ok (.iload_n 0, 1) := by decide +kernel
theorem dX10_isSmall_7 : decode cX10_isSmall 7 = .ok (.bipush 122, 2) := by decide +kernel
theorem dX10_isSmall_9 : decode cX10_isSmall 9 = .ok (.if_icmp .gt 7, 3) := by decide +kernel
theorem dX10_isSmall_12 : decode cX10_isSmall 12 = .ok (.iconst 1, 1) := by decide +kernel
theorem dX10_isSmall_13 : decode cX10_isSmall 13 = .ok (.goto 4, 3) := by decide +kernel
theorem dX10_isSmall_16 : decode cX10_isSmall 16 = .ok (.iconst 0, 1) := by decide +kernel
theorem dX10_isSmall_17 : decode cX10_isSmall 17 = .ok (.ireturn, 1) := by decide +kernel
theorem dX10_isDigit_0 : decode cX10_isDigit 0 = .ok (.iload_n 0, 1) := by decide +kernel
theorem dX10_isDigit_1 : decode cX10_isDigit 1 = .ok (.bipush 48, 2) := by decide +kernel
theorem dX10_isDigit_3 : decode cX10_isDigit 3 = .ok (.if_icmp .lt 13, 3) := by decide +kernel
theorem dX10_isDigit_6 : decode cX10_isDigit 6 = .ok (.iload_n 0, 1) := by decide +kernel
theorem dX10_isDigit_7 : decode cX10_isDigit 7 = .ok (.bipush 57, 2) := by decide +kernel
theorem dX10_isDigit_9 : decode cX10_isDigit 9 = .ok (.if_icmp .gt 7, 3) := by decide +kernel
theorem dX10_isDigit_12 : decode cX10_isDigit 12 = .ok (.iconst 1, 1) := by decide +kernel
theorem dX10_isDigit_13 : decode cX10_isDigit 13 = .ok (.goto 4, 3) := by decide +kernel
theorem dX10_isDigit_16 : decode cX10_isDigit 16 = .ok (.iconst 0, 1) := by decide +kernel
theorem dX10_isDigit_17 : decode cX10_isDigit 17 = .ok (.ireturn, 1) := by decide +kernel
theorem dX10_token_0 : decode cX10_token 0 = .ok (.aload_n 0, 1) := by decide +kernel
theorem dX10_token_1 : decode cX10_token 1 = .ok (.invokevirtual 154, 3) := by decide +kernel
theorem dX10_token_4 : decode cX10_token 4 = .ok (.bipush 10, 2) := by decide +kernel
theorem dX10_token_6 : decode cX10_token 6 = .ok (.if_icmp .eq 12, 3) := by decide +kernel
theorem dX10_token_9 : decode cX10_token 9 = .ok (.aload_n 0, 1) := by decide +kernel
theorem dX10_token_10 : decode cX10_token 10 = .ok (.invokevirtual 154, 3) := by decide +kernel
theorem dX10_token_13 : decode cX10_token 13 = .ok (.bipush 32, 2) := by decide +kernel
theorem dX10_token_15 : decode cX10_token 15 = .ok (.if_icmp .ne 16, 3) := by decide +kernel
theorem dX10_token_18 : decode cX10_token 18 = .ok (.aload_n 0, 1) := by decide +kernel
theorem dX10_token_19 : decode cX10_token 19 = .ok (.dup, 1) := by decide +kernel
theorem dX10_token_20 : decode cX10_token 20 = .ok (.getfield 148, 3) := by decide +kernel
theorem dX10_token_23 : decode cX10_token 23 = .ok (.iconst 1, 1) := by decide +kernel
theorem dX10_token_24 : decode cX10_token 24 = .ok (.iadd, 1) := by decide +kernel
theorem dX10_token_25 : decode cX10_token 25 = .ok (.putfield 148, 3) := by decide +kernel
theorem dX10_token_28 : decode cX10_token 28 = .ok (.goto (-28), 3) := by decide +kernel
theorem dX10_token_31 : decode cX10_token 31 = .ok (.aload_n 0, 1) := by decide +kernel
theorem dX10_token_32 : decode cX10_token 32 = .ok (.aload_n 0, 1) := by decide +kernel
theorem dX10_token_33 : decode cX10_token 33 = .ok (.getfield 148, 3) := by decide +kernel
theorem dX10_token_36 : decode cX10_token 36 = .ok (.putfield 158, 3) := by decide +kernel
theorem dX10_token_39 : decode cX10_token 39 = .ok (.aload_n 0, 1) := by decide +kernel
theorem dX10_token_40 : decode cX10_token 40 = .ok (.invokevirtual 154, 3) := by decide +kernel
theorem dX10_token_43 : decode cX10_token 43 = .ok (.istore_n 1, 1) := by decide +kernel
theorem dX10_token_44 : decode cX10_token 44 = .ok (.iload_n 1, 1) := by decide +kernel
theorem dX10_token_45 : decode cX10_token 45 = .ok (.iconst (-1), 1) := by decide +kernel
theorem dX10_token_46 : decode cX10_token 46 = .ok (.if_icmp .ne 11, 3) := by decide +kernel
theorem dX10_token_49 : decode cX10_token 49 = .ok (.aload_n 0, 1) := by decide +kernel
theorem dX10_token_50 : decode cX10_token 50 = .ok (.iconst 4, 1) := by decide +kernel
theorem dX10_token_51 : decode cX10_token 51 = .ok (.putfield 161, 3) := by decide +kernel
theorem dX10_token_54 : decode cX10_token 54 = .ok (.goto 171, 3) := by decide +kernel
theorem dX10_token_57 : decode cX10_token 57 = .ok (.iload_n 1, 1) := by decide +kernel
theorem dX10_token_58 : decode cX10_token 58 = .ok (.invokestatic 164, 3) := by decide +kernel
theorem dX10_token_61 : decode cX10_token 61 = .ok (.ifCond .eq 84, 3) := by decide +kernel
theorem dX10_token_64 : decode cX10_token 64 = .ok (.aload_n 0, 1) := by decide +kernel
theorem dX10_token_65 : decode cX10_token 65 = .ok (.invokevirtual 154, 3) := by decide +kernel
theorem dX10_token_68 : decode cX10_token 68 = .ok (.invokestatic 164, 3) := by decide +kernel
theorem dX10_token_71 : decode cX10_token 71 = .ok (.ifCond .eq 16, 3) := by decide +kernel
theorem dX10_token_74 : decode cX10_token 74 = .ok (.aload_n 0, 1) := by decide +kernel
theorem dX10_token_75 : decode cX10_token 75 = .ok (.dup, 1) := by decide +kernel
theorem dX10_token_76 : decode cX10_token 76 = .ok (.getfield 148, 3) := by decide +kernel
theorem dX10_token_79 : decode cX10_token 79 = .ok (.iconst 1, 1) := by decide +kernel
theorem dX10_token_80 : decode cX10_token 80 = .ok (.iadd, 1) := by decide +kernel
theorem dX10_token_81 : decode cX10_token 81 = .ok (.putfield 148, 3) := by decide +kernel
theorem dX10_token_84 : decode cX10_token 84 = .ok (.goto (-20), 3) := by decide +kernel
theorem dX10_token_87 : decode cX10_token 87 = .ok (.aload_n 0, 1) := by decide +kernel
theorem dX10_token_88 : decode cX10_token 88 = .ok (.aload_n 0, 1) := by decide +kernel
theorem dX10_token_89 : decode cX10_token 89 = .ok (.invokevirtual 168, 3) := by decide +kernel
theorem dX10_token_92 : decode cX10_token 92 = .ok (.putfield 171, 3) := by decide +kernel
theorem dX10_token_95 : decode cX10_token 95 = .ok (.aload_n 0, 1) := by decide +kernel
theorem dX10_token_96 : decode cX10_token 96 = .ok (.aload_n 0, 1) := by decide +kernel
theorem dX10_token_97 : decode cX10_token 97 = .ok (.getfield 171, 3) := by decide +kernel
theorem dX10_token_100 : decode cX10_token 100 = .ok (.iconst (-1), 1) := by decide +kernel
theorem dX10_token_101 : decode cX10_token 101 = .ok (.if_icmp .eq 7, 3) := by decide +kernel
theorem dX10_token_104 : decode cX10_token 104 = .ok (.iconst 0, 1) := by decide +kernel
theorem dX10_token_105 : decode cX10_token 105 = .ok (.goto 22, 3) := by decide +kernel
theorem dX10_token_108 : decode cX10_token 108 = .ok (.aload_n 0, 1) := by decide +kernel
theorem dX10_token_109 : decode cX10_token 109 = .ok (.getfield 148, 3) := by decide +kernel
theorem dX10_token_112 : decode cX10_token 112 = .ok (.aload_n 0, 1) := by decide +kernel
theorem dX10_token_113 : decode cX10_token 113 = .ok (.getfield 158, 3) := by decide +kernel
theorem dX10_token_116 : decode cX10_token 116 = .ok (.isub, 1) := by decide +kernel
theorem dX10_token_117 : decode cX10_token 117 = .ok (.bipush 6, 2) := by decide +kernel
theorem dX10_token_119 : decode cX10_token 119 = .ok (.if_icmp .le 7, 3) := by decide +kernel
theorem dX10_token_122 : decode cX10_token 122 = .ok (.iconst 5, 1) := by decide +kernel
theorem dX10_token_123 : decode cX10_token 123 = .ok (.goto 4, 3) := by decide +kernel
theorem dX10_token_126 : decode cX10_token 126 = .ok (.iconst 1, 1) := by decide +kernel
theorem dX10_token_127 : decode cX10_token 127 = .ok (.putfield 161, 3) := by decide +kernel
theorem dX10_token_130 : decode cX10_token 130 = .ok (.aload_n 0, 1) := by decide +kernel
theorem dX10_token_131 : decode cX10_token 131 = .ok (.getfield 161, 3) := by decide +kernel
theorem dX10_token_134 : decode cX10_token 134 = .ok (.iconst 1, 1) := by decide +kernel
theorem dX10_token_135 : decode cX10_token 135 = .ok (.if_icmp .ne 90, 3) := by decide +kernel
theorem dX10_token_138 : decode cX10_token 138 = .ok (.aload_n 0, 1) := by decide +kernel
theorem dX10_token_139 : decode cX10_token 139 = .ok (.invokevirtual 174, 3) := by decide +kernel
theorem dX10_token_142 : decode cX10_token 142 = .ok (.goto 83, 3) := by decide +kernel
theorem dX10_token_145 : decode cX10_token 145 = .ok (.iload_n 1, 1) := by decide +kernel
theorem dX10_token_146 : decode cX10_token 146 = .ok (.invokestatic 177, 3) := by decide +kernel
theorem dX10_token_149 : decode cX10_token 149 = .ok (.ifCond .eq 71, 3) := by decide +kernel
theorem dX10_token_152 : decode cX10_token 152 = .ok (.aload_n 0, 1) := by decide +kernel
theorem dX10_token_153 : decode cX10_token 153 = .ok (.iconst 2, 1) := by decide +kernel
theorem dX10_token_154 : decode cX10_token 154 = .ok (.putfield 161, 3) := by decide +kernel
theorem dX10_token_157 : decode cX10_token 157 = .ok (.aload_n 0, 1) := by decide +kernel
theorem dX10_token_158 : decode cX10_token 158 = .ok (.iconst 0, 1) := by decide +kernel
theorem dX10_token_159 : decode cX10_token 159 = .ok (.putfield 171, 3) := by decide +kernel
theorem dX10_token_162 : decode cX10_token 162 = .ok (.aload_n 0, 1) := by decide +kernel
theorem dX10_token_163 : decode cX10_token 163 = .ok (.invokevirtual 154, 3) := by decide +kernel
theorem dX10_token_166 : decode cX10_token 166 = .ok (.invokestatic 177, 3) := by decide +kernel
theorem dX10_token_169 : decode cX10_token 169 = .ok (.ifCond .eq 56, 3) := by decide +kernel
theorem dX10_token_172 : decode cX10_token 172 = .ok (.aload_n 0, 1) := by decide +kernel
theorem dX10_token_173 : decode cX10_token 173 = .ok (.aload_n 0, 1) := by decide +kernel
theorem dX10_token_174 : decode cX10_token 174 = .ok (.getfield 171, 3) := by decide +kernel
theorem dX10_token_177 : decode cX10_token 177 = .ok (.ldc 180, 2) := by decide +kernel
theorem dX10_token_179 : decode cX10_token 179 = .ok (.if_icmp .le 10, 3) := by decide +kernel
theorem dX10_token_182 : decode cX10_token 182 = .ok (.aload_n 0, 1) := by decide +kernel
theorem dX10_token_183 : decode cX10_token 183 = .ok (.getfield 171, 3) := by decide +kernel
theorem dX10_token_186 : decode cX10_token 186 = .ok (.goto 18, 3) := by decide +kernel
theorem dX10_token_189 : decode cX10_token 189 = .ok (.bipush 10, 2) := by decide +kernel
theorem dX10_token_191 : decode cX10_token 191 = .ok (.aload_n 0, 1) := by decide +kernel
theorem dX10_token_192 : decode cX10_token 192 = .ok (.getfield 171, 3) := by decide +kernel
theorem dX10_token_195 : decode cX10_token 195 = .ok (.imul, 1) := by decide +kernel
theorem dX10_token_196 : decode cX10_token 196 = .ok (.aload_n 0, 1) := by decide +kernel
theorem dX10_token_197 : decode cX10_token 197 = .ok (.invokevirtual 154, 3) := by decide +kernel
theorem dX10_token_200 : decode cX10_token 200 = .ok (.iadd, 1) := by decide +kernel
theorem dX10_token_201 : decode cX10_token 201 = .ok (.bipush 48, 2) := by decide +kernel
theorem dX10_token_203 : decode cX10_token 203 = .ok (.isub, 1) := by decide +kernel
theorem dX10_token_204 : decode cX10_token 204 = .ok (.putfield 171, 3) := by decide +kernel
theorem dX10_token_207 : decode cX10_token 207 = .ok (.aload_n 0, 1) := by decide +kernel
theorem dX10_token_208 : decode cX10_token 208 = .ok (.dup, 1) := by decide +kernel
theorem dX10_token_209 : decode cX10_token 209 = .ok (.getfield 148, 3) := by decide +kernel
theorem dX10_token_212 : decode cX10_token 212 = .ok (.iconst 1, 1) := by decide +kernel
theorem dX10_token_213 : decode cX10_token 213 = .ok (.iadd, 1) := by decide +kernel
theorem dX10_token_214 : decode cX10_token 214 = .ok (.putfield 148, 3) := by decide +kernel
theorem dX10_token_217 : decode cX10_token 217 = .ok (.goto (-55), 3) := by decide +kernel
theorem dX10_token_220 : decode cX10_token 220 = .ok (.aload_n 0, 1) := by decide +kernel
theorem dX10_token_221 : decode cX10_token 221 = .ok (.iload_n 1, 1) := by decide +kernel
theorem dX10_token_222 : decode cX10_token 222 = .ok (.invokevirtual 181, 3) := by decide +kernel
theorem dX10_token_225 : decode cX10_token 225 = .ok (.return_, 1) := by decide +kernel
theorem dX10_sign_0 : decode cX10_sign 0 = .ok (.aload_n 0, 1) := by decide +kernel
theorem dX10_sign_1 : decode cX10_sign 1 = .ok (.dup, 1) := by decide +kernel
theorem dX10_sign_2 : decode cX10_sign 2 = .ok (.getfield 148, 3) := by decide +kernel
theorem dX10_sign_5 : decode cX10_sign 5 = .ok (.iconst 1, 1) := by decide +kernel
theorem dX10_sign_6 : decode cX10_sign 6 = .ok (.iadd, 1) := by decide +kernel
theorem dX10_sign_7 : decode cX10_sign 7 = .ok (.putfield 148, 3) := by decide +kernel
theorem dX10_sign_10 : decode cX10_sign 10 = .ok (.aload_n 0, 1) := by decide +kernel
theorem dX10_sign_11 : decode cX10_sign 11 = .ok (.iload_n 1, 1) := by decide +kernel
theorem dX10_sign_12 : decode cX10_sign 12 = .ok (.bipush 59, 2) := by decide +kernel
theorem dX10_sign_14 : decode cX10_sign 14 = .ok (.if_icmp .eq 57, 3) := by decide +kernel
theorem dX10_sign_17 : decode cX10_sign 17 = .ok (.iload_n 1, 1) := by decide +kernel
theorem dX10_sign_18 : decode cX10_sign 18 = .ok (.bipush 40, 2) := by decide +kernel
theorem dX10_sign_20 : decode cX10_sign 20 = .ok (.if_icmp .eq 51, 3) := by decide +kernel
theorem dX10_sign_23 : decode cX10_sign 23 = .ok (.iload_n 1, 1) := by decide +kernel
theorem dX10_sign_24 : decode cX10_sign 24 = .ok (.bipush 41, 2) := by decide +kernel
theorem dX10_sign_26 : decode cX10_sign 26 = .ok (.if_icmp .eq 45, 3) := by decide +kernel
theorem dX10_sign_29 : decode cX10_sign 29 = .ok (.iload_n 1, 1) := by decide +kernel
theorem dX10_sign_30 : decode cX10_sign 30 = .ok (.bipush 43, 2) := by decide +kernel
theorem dX10_sign_32 : decode cX10_sign 32 = .ok (.if_icmp .eq 39, 3) := by decide +kernel
theorem dX10_sign_35 : decode cX10_sign 35 = .ok (.iload_n 1, 1) := by decide +kernel
theorem dX10_sign_36 : decode cX10_sign 36 = .ok (.bipush 45, 2) := by decide +kernel
theorem dX10_sign_38 : decode cX10_sign 38 = .ok (.if_icmp .eq 33, 3) := by decide +kernel
theorem dX10_sign_41 : decode cX10_sign 41 = .ok (.iload_n 1, 1) := by decide +kernel
theorem dX10_sign_42 : decode cX10_sign 42 = .ok (.bipush 42, 2) := by decide +kernel
theorem dX10_sign_44 : decode cX10_sign 44 = .ok (.if_icmp .eq 27, 3) := by decide +kernel
theorem dX10_sign_47 : decode cX10_sign 47 = .ok (.iload_n 1, 1) := by decide +kernel
theorem dX10_sign_48 : decode cX10_sign 48 = .ok (.bipush 47, 2) := by decide +kernel
theorem dX10_sign_50 : decode cX10_sign 50 = .ok (.if_icmp .eq 21, 3) := by decide +kernel
theorem dX10_sign_53 : decode cX10_sign 53 = .ok (.iload_n 1, 1) := by decide +kernel
theorem dX10_sign_54 : decode cX10_sign 54 = .ok (.bipush 60, 2) := by decide +kernel
theorem dX10_sign_56 : decode cX10_sign 56 = .ok (.if_icmp .eq 15, 3) := by decide +kernel
theorem dX10_sign_59 : decode cX10_sign 59 = .ok (.iload_n 1, 1) := by decide +kernel
theorem dX10_sign_60 : decode cX10_sign 60 = .ok (.bipush 61, 2) := by decide +kernel
theorem dX10_sign_62 : decode cX10_sign 62 = .ok (.if_icmp .eq 9, 3) := by decide +kernel
theorem dX10_sign_65 : decode cX10_sign 65 = .ok (.iload_n 1, 1) := by decide +kernel
theorem dX10_sign_66 : decode cX10_sign 66 = .ok (.bipush 62, 2) := by decide +kernel
theorem dX10_sign_68 : decode cX10_sign 68 = .ok (.if_icmp .ne 7, 3) := by decide +kernel
theorem dX10_sign_71 : decode cX10_sign 71 = .ok (.iconst 3, 1) := by decide +kernel
theorem dX10_sign_72 : decode cX10_sign 72 = .ok (.goto 4, 3) := by decide +kernel
theorem dX10_sign_75 : decode cX10_sign 75 = .ok (.iconst 5, 1) := by decide +kernel
theorem dX10_sign_76 : decode cX10_sign 76 = .ok (.putfield 161, 3) := by decide +kernel
theorem dX10_sign_79 : decode cX10_sign 79 = .ok (.aload_n 0, 1) := by decide +kernel
theorem dX10_sign_80 : decode cX10_sign 80 = .ok (.iload_n 1, 1) := by decide +kernel
theorem dX10_sign_81 : decode cX10_sign 81 = .ok (.putfield 171, 3) := by decide +kernel
theorem dX10_sign_84 : decode cX10_sign 84 = .ok (.iload_n 1, 1) := by decide +kernel
theorem dX10_sign_85 : decode cX10_sign 85 = .ok (.bipush 60, 2) := by decide +kernel
theorem dX10_sign_87 : decode cX10_sign 87 = .ok (.if_icmp .ne 19, 3) := by decide +kernel
theorem dX10_sign_90 : decode cX10_sign 90 = .ok (.aload_n 0, 1) := by decide +kernel
theorem dX10_sign_91 : decode cX10_sign 91 = .ok (.invokevirtual 154, 3) := by decide +kernel
theorem dX10_sign_94 : decode cX10_sign 94 = .ok (.bipush 61, 2) := by decide +kernel
theorem dX10_sign_96 : decode cX10_sign 96 = .ok (.if_icmp .ne 10, 3) := by decide +kernel
theorem dX10_sign_99 : decode cX10_sign 99 = .ok (.aload_n 0, 1) := by decide +kernel
theorem dX10_sign_100 : decode cX10_sign 100 = .ok (.sipush 256, 3) := by decide +kernel
theorem dX10_sign_103 : decode cX10_sign 103 = .ok (.putfield 171, 3) := by decide +kernel
theorem dX10_sign_106 : decode cX10_sign 106 = .ok (.iload_n 1, 1) := by decide +kernel
theorem dX10_sign_107 : decode cX10_sign 107 = .ok (.bipush 60, 2) := by decide +kernel
theorem dX10_sign_109 : decode cX10_sign 109 = .ok (.if_icmp .ne 19, 3) := by decide +kernel
theorem dX10_sign_112 : decode cX10_sign 112 = .ok (.aload_n 0, 1) := by decide +kernel
theorem dX10_sign_113 : decode cX10_sign 113 = .ok (.invokevirtual 154, 3) := by decide +kernel
theorem dX10_sign_116 : decode cX10_sign 116 = .ok (.bipush 62, 2) := by decide +kernel
theorem dX10_sign_118 : decode cX10_sign 118 = .ok (.if_icmp .ne 10, 3) := by decide +kernel
theorem dX10_sign_121 : decode cX10_sign 121 = .ok (.aload_n 0, 1) := by decide +kernel
theorem dX10_sign_122 : decode cX10_sign 122 = .ok (.sipush 257, 3) := by decide +kernel
theorem dX10_sign_125 : decode cX10_sign 125 = .ok (.putfield 171, 3) := by decide +kernel
theorem dX10_sign_128 : decode cX10_sign 128 = .ok (.iload_n 1, 1) := by decide +kernel
theorem dX10_sign_129 : decode cX10_sign 129 = .ok (.bipush 62, 2) := by decide +kernel
theorem dX10_sign_131 : decode cX10_sign 131 = .ok (.if_icmp .ne 19, 3) := by decide +kernel
theorem dX10_sign_134 : decode cX10_sign 134 = .ok (.aload_n 0, 1) := by decide +kernel
theorem dX10_sign_135 : decode cX10_sign 135 = .ok (.invokevirtual 154, 3) := by decide +kernel
theorem dX10_sign_138 : decode cX10_sign 138 = .ok (.bipush 61, 2) := by decide +kernel
theorem dX10_sign_140 : decode cX10_sign 140 = .ok (.if_icmp .ne 10, 3) := by decide +kernel
theorem dX10_sign_143 : decode cX10_sign 143 = .ok (.aload_n 0, 1) := by decide +kernel
theorem dX10_sign_144 : decode cX10_sign 144 = .ok (.sipush 258, 3) := by decide +kernel
theorem dX10_sign_147 : decode cX10_sign 147 = .ok (.putfield 171, 3) := by decide +kernel
theorem dX10_sign_150 : decode cX10_sign 150 = .ok (.aload_n 0, 1) := by decide +kernel
theorem dX10_sign_151 : decode cX10_sign 151 = .ok (.getfield 171, 3) := by decide +kernel
theorem dX10_sign_154 : decode cX10_sign 154 = .ok (.sipush 256, 3) := by decide +kernel
theorem dX10_sign_157 : decode cX10_sign 157 = .ok (.if_icmp .lt 13, 3) := by decide +kernel
theorem dX10_sign_160 : decode cX10_sign 160 = .ok (.aload_n 0, 1) := by decide +kernel
theorem dX10_sign_161 : decode cX10_sign 161 = .ok (.dup, 1) := by decide +kernel
theorem dX10_sign_162 : decode cX10_sign 162 = .ok (.getfield 148, 3) := by decide +kernel
theorem dX10_sign_165 : decode cX10_sign 165 = .ok (.iconst 1, 1) := by decide +kernel
theorem dX10_sign_166 : decode cX10_sign 166 = .ok (.iadd, 1) := by decide +kernel
theorem dX10_sign_167 : decode cX10_sign 167 = .ok (.putfield 148, 3) := by decide +kernel
theorem dX10_sign_170 : decode cX10_sign 170 = .ok (.return_, 1) := by decide +kernel
theorem dX10_word_0 : decode cX10_word 0 = .ok (.iconst 0, 1) := by decide +kernel
theorem dX10_word_1 : decode cX10_word 1 = .ok (.istore_n 1, 1) := by decide +kernel
theorem dX10_word_2 : decode cX10_word 2 = .ok (.iconst 0, 1) := by decide +kernel
theorem dX10_word_3 : decode cX10_word 3 = .ok (.istore_n 2, 1) := by decide +kernel
theorem dX10_word_4 : decode cX10_word 4 = .ok (.iload_n 2, 1) := by decide +kernel
theorem dX10_word_5 : decode cX10_word 5 = .ok (.ldc 185, 2) := by decide +kernel
theorem dX10_word_7 : decode cX10_word 7 = .ok (.invokevirtual 187, 3) := by decide +kernel
theorem dX10_word_10 : decode cX10_word 10 = .ok (.if_icmp .ge 113, 3) := by decide +kernel
theorem dX10_word_13 : decode cX10_word 13 = .ok (.iconst 0, 1) := by decide +kernel
theorem dX10_word_14 : decode cX10_word 14 = .ok (.istore_n 3, 1) := by decide +kernel
theorem dX10_word_15 : decode cX10_word 15 = .ok (.ldc 185, 2) := by decide +kernel
theorem dX10_word_17 : decode cX10_word 17 = .ok (.iload_n 2, 1) := by decide +kernel
theorem dX10_word_18 : decode cX10_word 18 = .ok (.iload_n 3, 1) := by decide +kernel
theorem dX10_word_19 : decode cX10_word 19 = .ok (.iadd, 1) := by decide +kernel
theorem dX10_word_20 : decode cX10_word 20 = .ok (.invokevirtual 192, 3) := by decide +kernel
theorem dX10_word_23 : decode cX10_word 23 = .ok (.bipush 32, 2) := by decide +kernel
theorem dX10_word_25 : decode cX10_word 25 = .ok (.if_icmp .eq 44, 3) := by decide +kernel
theorem dX10_word_28 : decode cX10_word 28 = .ok (.aload_n 0, 1) := by decide +kernel
theorem dX10_word_29 : decode cX10_word 29 = .ok (.getfield 158, 3) := by decide +kernel
theorem dX10_word_32 : decode cX10_word 32 = .ok (.iload_n 3, 1) := by decide +kernel
theorem dX10_word_33 : decode cX10_word 33 = .ok (.iadd, 1) := by decide +kernel
theorem dX10_word_34 : decode cX10_word 34 = .ok (.aload_n 0, 1) := by decide +kernel
theorem dX10_word_35 : decode cX10_word 35 = .ok (.getfield 148, 3) := by decide +kernel
theorem dX10_word_38 : decode cX10_word 38 = .ok (.if_icmp .ge 31, 3) := by decide +kernel
theorem dX10_word_41 : decode cX10_word 41 = .ok (.aload_n 0, 1) := by decide +kernel
theorem dX10_word_42 : decode cX10_word 42 = .ok (.getfield 7, 3) := by decide +kernel
theorem dX10_word_45 : decode cX10_word 45 = .ok (.aload_n 0, 1) := by decide +kernel
theorem dX10_word_46 : decode cX10_word 46 = .ok (.getfield 158, 3) := by decide +kernel
theorem dX10_word_49 : decode cX10_word 49 = .ok (.iload_n 3, 1) := by decide +kernel
theorem dX10_word_50 : decode cX10_word 50 = .ok (.iadd, 1) := by decide +kernel
theorem dX10_word_51 : decode cX10_word 51 = .ok (.iaload, 1) := by decide +kernel
theorem dX10_word_52 : decode cX10_word 52 = .ok (.ldc 185, 2) := by decide +kernel
theorem dX10_word_54 : decode cX10_word 54 = .ok (.iload_n 2, 1) := by decide +kernel
theorem dX10_word_55 : decode cX10_word 55 = .ok (.iload_n 3, 1) := by decide +kernel
theorem dX10_word_56 : decode cX10_word 56 = .ok (.iadd, 1) := by decide +kernel
theorem dX10_word_57 : decode cX10_word 57 = .ok (.invokevirtual 192, 3) := by decide +kernel
theorem dX10_word_60 : decode cX10_word 60 = .ok (.if_icmp .ne 9, 3) := by decide +kernel
theorem dX10_word_63 : decode cX10_word 63 = .ok (.iinc 3 1, 3) := by decide +kernel
theorem dX10_word_66 : decode cX10_word 66 = .ok (.goto (-51), 3) := by decide +kernel
theorem dX10_word_69 : decode cX10_word 69 = .ok (.ldc 185, 2) := by decide +kernel
theorem dX10_word_71 : decode cX10_word 71 = .ok (.iload_n 2, 1) := by decide +kernel
theorem dX10_word_72 : decode cX10_word 72 = .ok (.iload_n 3, 1) := by decide +kernel
theorem dX10_word_73 : decode cX10_word 73 = .ok (.iadd, 1) := by decide +kernel
theorem dX10_word_74 : decode cX10_word 74 = .ok (.invokevirtual 192, 3) := by decide +kernel
theorem dX10_word_77 : decode cX10_word 77 = .ok (.bipush 32, 2) := by decide +kernel
theorem dX10_word_79 : decode cX10_word 79 = .ok (.if_icmp .ne 18, 3) := by decide +kernel
theorem dX10_word_82 : decode cX10_word 82 = .ok (.aload_n 0, 1) := by decide +kernel
theorem dX10_word_83 : decode cX10_word 83 = .ok (.getfield 158, 3) := by decide +kernel
theorem dX10_word_86 : decode cX10_word 86 = .ok (.iload_n 3, 1) := by decide +kernel
theorem dX10_word_87 : decode cX10_word 87 = .ok (.iadd, 1) := by decide +kernel
theorem dX10_word_88 : decode cX10_word 88 = .ok (.aload_n 0, 1) := by decide +kernel
theorem dX10_word_89 : decode cX10_word 89 = .ok (.getfield 148, 3) := by decide +kernel
theorem dX10_word_92 : decode cX10_word 92 = .ok (.if_icmp .ne 5, 3) := by decide +kernel
theorem dX10_word_95 : decode cX10_word 95 = .ok (.iload_n 1, 1) := by decide +kernel
theorem dX10_word_96 : decode cX10_word 96 = .ok (.ireturn, 1) := by decide +kernel
theorem dX10_word_97 : decode cX10_word 97 = .ok (.ldc 185, 2) := by decide +kernel
theorem dX10_word_99 : decode cX10_word 99 = .ok (.iload_n 2, 1) := by decide +kernel
theorem dX10_word_100 : decode cX10_word 100 = .ok (.invokevirtual 192, 3) := by decide +kernel
theorem dX10_word_103 : decode cX10_word 103 = .ok (.bipush 32, 2) := by decide +kernel
theorem dX10_word_105 : decode cX10_word 105 = .ok (.if_icmp .eq 9, 3) := by decide +kernel
theorem dX10_word_108 : decode cX10_word 108 = .ok (.iinc 2 1, 3) := by decide +kernel
theorem dX10_word_111 : decode cX10_word 111 = .ok (.goto (-14), 3) := by decide +kernel
theorem dX10_word_114 : decode cX10_word 114 = .ok (.iinc 2 1, 3) := by decide +kernel
theorem dX10_word_117 : decode cX10_word 117 = .ok (.iinc 1 1, 3) := by decide +kernel
theorem dX10_word_120 : decode cX10_word 120 = .ok (.goto (-116), 3) := by decide +kernel
theorem dX10_word_123 : decode cX10_word 123 = .ok (.iconst (-1), 1) := by decide +kernel
theorem dX10_word_124 : decode cX10_word 124 = .ok (.ireturn, 1) := by decide +kernel
theorem dX10_name_0 : decode cX10_name 0 = .ok (.aload_n 0, 1) := by decide +kernel
theorem dX10_name_1 : decode cX10_name 1 = .ok (.iconst 0, 1) := by decide +kernel
theorem dX10_name_2 : decode cX10_name 2 = .ok (.putfield 171, 3) := by decide +kernel
theorem dX10_name_5 : decode cX10_name 5 = .ok (.iconst 0, 1) := by decide +kernel
theorem dX10_name_6 : decode cX10_name 6 = .ok (.istore_n 1, 1) := by decide +kernel
theorem dX10_name_7 : decode cX10_name 7 = .ok (.iload_n 1, 1) := by decide +kernel
theorem dX10_name_8 : decode cX10_name 8 = .ok (.bipush 6, 2) := by decide +kernel
theorem dX10_name_10 : decode cX10_name 10 = .ok (.if_icmp .ge 53, 3) := by decide +kernel
theorem dX10_name_13 : decode cX10_name 13 = .ok (.aload_n 0, 1) := by decide +kernel
theorem dX10_name_14 : decode cX10_name 14 = .ok (.aload_n 0, 1) := by decide +kernel
theorem dX10_name_15 : decode cX10_name 15 = .ok (.getfield 171, 3) := by decide +kernel
theorem dX10_name_18 : decode cX10_name 18 = .ok (.iconst 5, 1) := by decide +kernel
theorem dX10_name_19 : decode cX10_name 19 = .ok (.ishl, 1) := by decide +kernel
theorem dX10_name_20 : decode cX10_name 20 = .ok (.aload_n 0, 1) := by decide +kernel
theorem dX10_name_21 : decode cX10_name 21 = .ok (.getfield 158, 3) := by decide +kernel
theorem dX10_name_24 : decode cX10_name 24 = .ok (.iload_n 1, 1) := by decide +kernel
theorem dX10_name_25 : decode cX10_name 25 = .ok (.iadd, 1) := by decide +kernel
theorem dX10_name_26 : decode cX10_name 26 = .ok (.aload_n 0, 1) := by decide +kernel
theorem dX10_name_27 : decode cX10_name 27 = .ok (.getfield 148, 3) := by decide +kernel
theorem dX10_name_30 : decode cX10_name 30 = .ok (.if_icmp .ge 22, 3) := by decide +kernel
theorem dX10_name_33 : decode cX10_name 33 = .ok (.aload_n 0, 1) := by decide +kernel
theorem dX10_name_34 : decode cX10_name 34 = .ok (.getfield 7, 3) := by decide +kernel
theorem dX10_name_37 : decode cX10_name 37 = .ok (.aload_n 0, 1) := by decide +kernel
theorem dX10_name_38 : decode cX10_name 38 = .ok (.getfield 158, 3) := by decide +kernel
theorem dX10_name_41 : decode cX10_name 41 = .ok (.iload_n 1, 1) := by decide +kernel
theorem dX10_name_42 : decode cX10_name 42 = .ok (.iadd, 1) := by decide +kernel
theorem dX10_name_43 : decode cX10_name 43 = .ok (.iaload, 1) := by decide +kernel
theorem dX10_name_44 : decode cX10_name 44 = .ok (.bipush 97, 2) := by decide +kernel
theorem dX10_name_46 : decode cX10_name 46 = .ok (.isub, 1) := by decide +kernel
theorem dX10_name_47 : decode cX10_name 47 = .ok (.iconst 1, 1) := by decide +kernel
theorem dX10_name_48 : decode cX10_name 48 = .ok (.iadd, 1) := by decide +kernel
theorem dX10_name_49 : decode cX10_name 49 = .ok (.goto 4, 3) := by decide +kernel
theorem dX10_name_52 : decode cX10_name 52 = .ok (.iconst 0, 1) := by decide +kernel
theorem dX10_name_53 : decode cX10_name 53 = .ok (.ior, 1) := by decide +kernel
theorem dX10_name_54 : decode cX10_name 54 = .ok (.putfield 171, 3) := by decide +kernel
theorem dX10_name_57 : decode cX10_name 57 = .ok (.iinc 1 1, 3) := by decide +kernel
theorem dX10_name_60 : decode cX10_name 60 = .ok (.goto (-53), 3) := by decide +kernel
theorem dX10_name_63 : decode cX10_name 63 = .ok (.return_, 1) := by decide +kernel
theorem dX10_wrong_0 : decode cX10_wrong 0 = .ok (.aload_n 0, 1) := by decide +kernel
theorem dX10_wrong_1 : decode cX10_wrong 1 = .ok (.getfield 196, 3) := by decide +kernel
theorem dX10_wrong_4 : decode cX10_wrong 4 = .ok (.ifCond .eq 4, 3) := by decide +kernel
theorem dX10_wrong_7 : decode cX10_wrong 7 = .ok (.return_, 1) := by decide +kernel
theorem dX10_wrong_8 : decode cX10_wrong 8 = .ok (.aload_n 0, 1) := by decide +kernel
theorem dX10_wrong_9 : decode cX10_wrong 9 = .ok (.iload_n 1, 1) := by decide +kernel
theorem dX10_wrong_10 : decode cX10_wrong 10 = .ok (.putfield 196, 3) := by decide +kernel
theorem dX10_wrong_13 : decode cX10_wrong 13 = .ok (.aload_n 0, 1) := by decide +kernel
theorem dX10_wrong_14 : decode cX10_wrong 14 = .ok (.aload_n 0, 1) := by decide +kernel
theorem dX10_wrong_15 : decode cX10_wrong 15 = .ok (.getfield 158, 3) := by decide +kernel
theorem dX10_wrong_18 : decode cX10_wrong 18 = .ok (.putfield 199, 3) := by decide +kernel
theorem dX10_wrong_21 : decode cX10_wrong 21 = .ok (.return_, 1) := by decide +kernel
theorem dX10_isWord_0 : decode cX10_isWord 0 = .ok (.aload_n 0, 1) := by decide +kernel
theorem dX10_isWord_1 : decode cX10_isWord 1 = .ok (.getfield 196, 3) := by decide +kernel
theorem dX10_isWord_4 : decode cX10_isWord 4 = .ok (.ifCond .ne 22, 3) := by decide +kernel
theorem dX10_isWord_7 : decode cX10_isWord 7 = .ok (.aload_n 0, 1) := by decide +kernel
theorem dX10_isWord_8 : decode cX10_isWord 8 = .ok (.getfield 161, 3) := by decide +kernel
theorem dX10_isWord_11 : decode cX10_isWord 11 = .ok (.ifCond .ne 15, 3) := by decide +kernel
theorem dX10_isWord_14 : decode cX10_isWord 14 = .ok (.aload_n 0, 1) := by decide +kernel
theorem dX10_isWord_15 : decode cX10_isWord 15 = .ok (.getfield 171, 3) := by decide +kernel
theorem dX10_isWord_18 : decode cX10_isWord 18 = .ok (.iload_n 1, 1) := by decide +kernel
theorem dX10_isWord_19 : decode cX10_isWord 19 = .ok (.if_icmp .ne 7, 3) := by decide +kernel
theorem dX10_isWord_22 : decode cX10_isWord 22 = .ok (.iconst 1, 1) := by decide +kernel
theorem dX10_isWord_23 : decode cX10_isWord 23 = .ok (.goto 4, 3) := by decide +kernel
theorem dX10_isWord_26 : decode cX10_isWord 26 = .ok (.iconst 0, 1) := by decide +kernel
theorem dX10_isWord_27 : decode cX10_isWord 27 = .ok (.ireturn, 1) := by decide +kernel
theorem dX10_isSign_0 : decode cX10_isSign 0 = .ok (.aload_n 0, 1) := by decide +kernel
theorem dX10_isSign_1 : decode cX10_isSign 1 = .ok (.getfield 196, 3) := by decide +kernel
theorem dX10_isSign_4 : decode cX10_isSign 4 = .ok (.ifCond .ne 23, 3) := by decide +kernel
theorem dX10_isSign_7 : decode cX10_isSign 7 = .ok (.aload_n 0, 1) := by decide +kernel
theorem dX10_isSign_8 : decode cX10_isSign 8 = .ok (.getfield 161, 3) := by decide +kernel
theorem dX10_isSign_11 : decode cX10_isSign 11 = .ok (.iconst 3, 1) := by decide +kernel
theorem dX10_isSign_12 : decode cX10_isSign 12 = .ok (.if_icmp .ne 15, 3) := by decide +kernel
theorem dX10_isSign_15 : decode cX10_isSign 15 = .ok (.aload_n 0, 1) := by decide +kernel
theorem dX10_isSign_16 : decode cX10_isSign 16 = .ok (.getfield 171, 3) := by decide +kernel
theorem dX10_isSign_19 : decode cX10_isSign 19 = .ok (.iload_n 1, 1) := by decide +kernel
theorem dX10_isSign_20 : decode cX10_isSign 20 = .ok (.if_icmp .ne 7, 3) := by decide +kernel
theorem dX10_isSign_23 : decode cX10_isSign 23 = .ok (.iconst 1, 1) := by decide +kernel
theorem dX10_isSign_24 : decode cX10_isSign 24 = .ok (.goto 4, 3) := by decide +kernel
theorem dX10_isSign_27 : decode cX10_isSign 27 = .ok (.iconst 0, 1) := by decide +kernel
theorem dX10_isSign_28 : decode cX10_isSign 28 = .ok (.ireturn, 1) := by decide +kernel
theorem dX10_goOn_0 : decode cX10_goOn 0 = .ok (.aload_n 0, 1) := by decide +kernel
theorem dX10_goOn_1 : decode cX10_goOn 1 = .ok (.getfield 196, 3) := by decide +kernel
theorem dX10_goOn_4 : decode cX10_goOn 4 = .ok (.ifCond .ne 7, 3) := by decide +kernel
theorem dX10_goOn_7 : decode cX10_goOn 7 = .ok (.aload_n 0, 1) := by decide +kernel
theorem dX10_goOn_8 : decode cX10_goOn 8 = .ok (.invokevirtual 202, 3) := by decide +kernel
theorem dX10_goOn_11 : decode cX10_goOn 11 = .ok (.return_, 1) := by decide +kernel
theorem dX10_numeral_0 : decode cX10_numeral 0 = .ok (.aload_n 0, 1) := by decide +kernel
theorem dX10_numeral_1 : decode cX10_numeral 1 = .ok (.getfield 196, 3) := by decide +kernel
theorem dX10_numeral_4 : decode cX10_numeral 4 = .ok (.ifCond .eq 5, 3) := by decide +kernel
theorem dX10_numeral_7 : decode cX10_numeral 7 = .ok (.iload_n 1, 1) := by decide +kernel
theorem dX10_numeral_8 : decode cX10_numeral 8 = .ok (.ireturn, 1) := by decide +kernel
theorem dX10_numeral_9 : decode cX10_numeral 9 = .ok (.aload_n 0, 1) := by decide +kernel
theorem dX10_numeral_10 : decode cX10_numeral 10 = .ok (.getfield 161, 3) := by decide +kernel
theorem dX10_numeral_13 : decode cX10_numeral 13 = .ok (.iconst 2, 1) := by decide +kernel
theorem dX10_numeral_14 : decode cX10_numeral 14 = .ok (.if_icmp .eq 11, 3) := by decide +kernel
theorem dX10_numeral_17 : decode cX10_numeral 17 = .ok (.aload_n 0, 1) := by decide +kernel
theorem dX10_numeral_18 : decode cX10_numeral 18 = .ok (.iconst 1, 1) := by decide +kernel
theorem dX10_numeral_19 : decode cX10_numeral 19 = .ok (.invokevirtual 205, 3) := by decide +kernel
theorem dX10_numeral_22 : decode cX10_numeral 22 = .ok (.goto 24, 3) := by decide +kernel
theorem dX10_numeral_25 : decode cX10_numeral 25 = .ok (.aload_n 0, 1) := by decide +kernel
theorem dX10_numeral_26 : decode cX10_numeral 26 = .ok (.getfield 171, 3) := by decide +kernel
theorem dX10_numeral_29 : decode cX10_numeral 29 = .ok (.iload_n 1, 1) := by decide +kernel
theorem dX10_numeral_30 : decode cX10_numeral 30 = .ok (.if_icmp .lt 11, 3) := by decide +kernel
theorem dX10_numeral_33 : decode cX10_numeral 33 = .ok (.aload_n 0, 1) := by decide +kernel
theorem dX10_numeral_34 : decode cX10_numeral 34 = .ok (.getfield 171, 3) := by decide +kernel
theorem dX10_numeral_37 : decode cX10_numeral 37 = .ok (.iload_n 2, 1) := by decide +kernel
theorem dX10_numeral_38 : decode cX10_numeral 38 = .ok (.if_icmp .le 8, 3) := by decide +kernel
theorem dX10_numeral_41 : decode cX10_numeral 41 = .ok (.aload_n 0, 1) := by decide +kernel
theorem dX10_numeral_42 : decode cX10_numeral 42 = .ok (.iconst 2, 1) := by decide +kernel
theorem dX10_numeral_43 : decode cX10_numeral 43 = .ok (.invokevirtual 205, 3) := by decide +kernel
theorem dX10_numeral_46 : decode cX10_numeral 46 = .ok (.aload_n 0, 1) := by decide +kernel
theorem dX10_numeral_47 : decode cX10_numeral 47 = .ok (.getfield 196, 3) := by decide +kernel
theorem dX10_numeral_50 : decode cX10_numeral 50 = .ok (.ifCond .eq 5, 3) := by decide +kernel
theorem dX10_numeral_53 : decode cX10_numeral 53 = .ok (.iload_n 1, 1) := by decide +kernel
theorem dX10_numeral_54 : decode cX10_numeral 54 = .ok (.ireturn, 1) := by decide +kernel
theorem dX10_numeral_55 : decode cX10_numeral 55 = .ok (.aload_n 0, 1) := by decide +kernel
theorem dX10_numeral_56 : decode cX10_numeral 56 = .ok (.getfield 171, 3) := by decide +kernel
theorem dX10_numeral_59 : decode cX10_numeral 59 = .ok (.istore_n 3, 1) := by decide +kernel
theorem dX10_numeral_60 : decode cX10_numeral 60 = .ok (.aload_n 0, 1) := by decide +kernel
theorem dX10_numeral_61 : decode cX10_numeral 61 = .ok (.invokevirtual 202, 3) := by decide +kernel
theorem dX10_numeral_64 : decode cX10_numeral 64 = .ok (.iload_n 3, 1) := by decide +kernel
theorem dX10_numeral_65 : decode cX10_numeral 65 = .ok (.ireturn, 1) := by decide +kernel
theorem dX10_found_0 : decode cX10_found 0 = .ok (.iconst 0, 1) := by decide +kernel
theorem dX10_found_1 : decode cX10_found 1 = .ok (.istore 4, 2) := by decide +kernel
theorem dX10_found_3 : decode cX10_found 3 = .ok (.iload 4, 2) := by decide +kernel
theorem dX10_found_5 : decode cX10_found 5 = .ok (.iload_n 2, 1) := by decide +kernel
theorem dX10_found_6 : decode cX10_found 6 = .ok (.if_icmp .ge 22, 3) := by decide +kernel
theorem dX10_found_9 : decode cX10_found 9 = .ok (.aload_n 0, 1) := by decide +kernel
theorem dX10_found_10 : decode cX10_found 10 = .ok (.iload_n 1, 1) := by decide +kernel
theorem dX10_found_11 : decode cX10_found 11 = .ok (.iload 4, 2) := by decide +kernel
theorem dX10_found_13 : decode cX10_found 13 = .ok (.iadd, 1) := by decide +kernel
theorem dX10_found_14 : decode cX10_found 14 = .ok (.iaload, 1) := by decide +kernel
theorem dX10_found_15 : decode cX10_found 15 = .ok (.iload_n 3, 1) := by decide +kernel
theorem dX10_found_16 : decode cX10_found 16 = .ok (.if_icmp .ne 6, 3) := by decide +kernel
theorem dX10_found_19 : decode cX10_found 19 = .ok (.iload 4, 2) := by decide +kernel
theorem dX10_found_21 : decode cX10_found 21 = .ok (.ireturn, 1) := by decide +kernel
theorem dX10_found_22 : decode cX10_found 22 = .ok (.iinc 4 1, 3) := by decide +kernel
theorem dX10_found_25 : decode cX10_found 25 = .ok (.goto (-22), 3) := by decide +kernel
theorem dX10_found_28 : decode cX10_found 28 = .ok (.iconst (-1), 1) := by decide +kernel
theorem dX10_found_29 : decode cX10_found 29 = .ok (.ireturn, 1) := by decide +kernel
theorem dX10_fresh_0 : decode cX10_fresh 0 = .ok (.aload_n 0, 1) := by decide +kernel
theorem dX10_fresh_1 : decode cX10_fresh 1 = .ok (.getfield 196, 3) := by decide +kernel
theorem dX10_fresh_4 : decode cX10_fresh 4 = .ok (.ifCond .eq 5, 3) := by decide +kernel
theorem dX10_fresh_7 : decode cX10_fresh 7 = .ok (.iconst 0, 1) := by decide +kernel
theorem dX10_fresh_8 : decode cX10_fresh 8 = .ok (.ireturn, 1) := by decide +kernel
theorem dX10_fresh_9 : decode cX10_fresh 9 = .ok (.aload_n 0, 1) := by decide +kernel
theorem dX10_fresh_10 : decode cX10_fresh 10 = .ok (.getfield 161, 3) := by decide +kernel
theorem dX10_fresh_13 : decode cX10_fresh 13 = .ok (.iconst 1, 1) := by decide +kernel
theorem dX10_fresh_14 : decode cX10_fresh 14 = .ok (.if_icmp .eq 11, 3) := by decide +kernel
theorem dX10_fresh_17 : decode cX10_fresh 17 = .ok (.aload_n 0, 1) := by decide +kernel
theorem dX10_fresh_18 : decode cX10_fresh 18 = .ok (.iconst 1, 1) := by decide +kernel
theorem dX10_fresh_19 : decode cX10_fresh 19 = .ok (.invokevirtual 205, 3) := by decide +kernel
theorem dX10_fresh_22 : decode cX10_fresh 22 = .ok (.goto 22, 3) := by decide +kernel
theorem dX10_fresh_25 : decode cX10_fresh 25 = .ok (.aload_n 1, 1) := by decide +kernel
theorem dX10_fresh_26 : decode cX10_fresh 26 = .ok (.iload_n 2, 1) := by decide +kernel
theorem dX10_fresh_27 : decode cX10_fresh 27 = .ok (.iload_n 3, 1) := by decide +kernel
theorem dX10_fresh_28 : decode cX10_fresh 28 = .ok (.aload_n 0, 1) := by decide +kernel
theorem dX10_fresh_29 : decode cX10_fresh 29 = .ok (.getfield 171, 3) := by decide +kernel
theorem dX10_fresh_32 : decode cX10_fresh 32 = .ok (.invokestatic 208, 3) := by decide +kernel
theorem dX10_fresh_35 : decode cX10_fresh 35 = .ok (.iconst (-1), 1) := by decide +kernel
theorem dX10_fresh_36 : decode cX10_fresh 36 = .ok (.if_icmp .eq 8, 3) := by decide +kernel
theorem dX10_fresh_39 : decode cX10_fresh 39 = .ok (.aload_n 0, 1) := by decide +kernel
theorem dX10_fresh_40 : decode cX10_fresh 40 = .ok (.iconst 3, 1) := by decide +kernel
theorem dX10_fresh_41 : decode cX10_fresh 41 = .ok (.invokevirtual 205, 3) := by decide +kernel
theorem dX10_fresh_44 : decode cX10_fresh 44 = .ok (.aload_n 0, 1) := by decide +kernel
theorem dX10_fresh_45 : decode cX10_fresh 45 = .ok (.getfield 196, 3) := by decide +kernel
theorem dX10_fresh_48 : decode cX10_fresh 48 = .ok (.ifCond .eq 5, 3) := by decide +kernel
theorem dX10_fresh_51 : decode cX10_fresh 51 = .ok (.iconst 0, 1) := by decide +kernel
theorem dX10_fresh_52 : decode cX10_fresh 52 = .ok (.ireturn, 1) := by decide +kernel
theorem dX10_fresh_53 : decode cX10_fresh 53 = .ok (.aload_n 0, 1) := by decide +kernel
theorem dX10_fresh_54 : decode cX10_fresh 54 = .ok (.getfield 171, 3) := by decide +kernel
theorem dX10_fresh_57 : decode cX10_fresh 57 = .ok (.istore 4, 2) := by decide +kernel
theorem dX10_fresh_59 : decode cX10_fresh 59 = .ok (.aload_n 0, 1) := by decide +kernel
theorem dX10_fresh_60 : decode cX10_fresh 60 = .ok (.invokevirtual 202, 3) := by decide +kernel
theorem dX10_fresh_63 : decode cX10_fresh 63 = .ok (.iload 4, 2) := by decide +kernel
theorem dX10_fresh_65 : decode cX10_fresh 65 = .ok (.ireturn, 1) := by decide +kernel
theorem dX10_fresher_0 : decode cX10_fresher 0 = .ok (.aload_n 0, 1) := by decide +kernel
theorem dX10_fresher_1 : decode cX10_fresher 1 = .ok (.getfield 13, 3) := by decide +kernel
theorem dX10_fresher_4 : decode cX10_fresher 4 = .ok (.bipush 7, 2) := by decide +kernel
theorem dX10_fresher_6 : decode cX10_fresher 6 = .ok (.iload_n 1, 1) := by decide +kernel
theorem dX10_fresher_7 : decode cX10_fresher 7 = .ok (.iadd, 1) := by decide +kernel
theorem dX10_fresher_8 : decode cX10_fresher 8 = .ok (.iaload, 1) := by decide +kernel
theorem dX10_fresher_9 : decode cX10_fresher 9 = .ok (.ireturn, 1) := by decide +kernel
theorem dX10_reads_0 : decode cX10_reads 0 = .ok (.aload_n 0, 1) := by decide +kernel
theorem dX10_reads_1 : decode cX10_reads 1 = .ok (.getfield 13, 3) := by decide +kernel
theorem dX10_reads_4 : decode cX10_reads 4 = .ok (.bipush 7, 2) := by decide +kernel
theorem dX10_reads_6 : decode cX10_reads 6 = .ok (.iload_n 1, 1) := by decide +kernel
theorem dX10_reads_7 : decode cX10_reads 7 = .ok (.iadd, 1) := by decide +kernel
theorem dX10_reads_8 : decode cX10_reads 8 = .ok (.iload_n 2, 1) := by decide +kernel
theorem dX10_reads_9 : decode cX10_reads 9 = .ok (.iastore, 1) := by decide +kernel
theorem dX10_reads_10 : decode cX10_reads 10 = .ok (.return_, 1) := by decide +kernel
theorem dX10_soulAtHand_0 : decode cX10_soulAtHand 0 = .ok (.aload_n 0, 1) := by decide +kernel
theorem dX10_soulAtHand_1 : decode cX10_soulAtHand 1 = .ok (.getfield 196, 3) := by decide +kernel
theorem dX10_soulAtHand_4 : decode cX10_soulAtHand 4 = .ok (.ifCond .eq 5, 3) := by decide +kernel
theorem dX10_soulAtHand_7 : decode cX10_soulAtHand 7 = .ok (.iconst 0, 1) := by decide +kernel
theorem dX10_soulAtHand_8 : decode cX10_soulAtHand 8 = .ok (.ireturn, 1) := by decide +kernel
theorem dX10_soulAtHand_9 : decode cX10_soulAtHand 9 = .ok (.aload_n 0, 1) := by decide +kernel
theorem dX10_soulAtHand_10 : decode cX10_soulAtHand 10 = .ok (.getfield 161, 3) := by decide +kernel
theorem dX10_soulAtHand_13 : decode cX10_soulAtHand 13 = .ok (.iconst 1, 1) := by decide +kernel
theorem dX10_soulAtHand_14 : decode cX10_soulAtHand 14 = .ok (.if_icmp .eq 8, 3) := by decide +kernel
theorem dX10_soulAtHand_17 : decode cX10_soulAtHand 17 = .ok (.aload_n 0, 1) := by decide +kernel
theorem dX10_soulAtHand_18 : decode cX10_soulAtHand 18 = .ok (.iconst 1, 1) := by decide +kernel
theorem dX10_soulAtHand_19 : decode cX10_soulAtHand 19 = .ok (.invokevirtual 205, 3) := by decide +kernel
theorem dX10_soulAtHand_22 : decode cX10_soulAtHand 22 = .ok (.aload_n 0, 1) := by decide +kernel
theorem dX10_soulAtHand_23 : decode cX10_soulAtHand 23 = .ok (.getfield 196, 3) := by decide +kernel
theorem dX10_soulAtHand_26 : decode cX10_soulAtHand 26 = .ok (.ifCond .ne 24, 3) := by decide +kernel
theorem dX10_soulAtHand_29 : decode cX10_soulAtHand 29 = .ok (.aload_n 0, 1) := by decide +kernel
theorem dX10_soulAtHand_30 : decode cX10_soulAtHand 30 = .ok (.getfield 16, 3) := by decide +kernel
theorem dX10_soulAtHand_33 : decode cX10_soulAtHand 33 = .ok (.bipush 8, 2) := by decide +kernel
theorem dX10_soulAtHand_35 : decode cX10_soulAtHand 35 = .ok (.aload_n 0, 1) := by decide +kernel
theorem dX10_soulAtHand_36 : decode cX10_soulAtHand 36 = .ok (.iconst 0, 1) := by decide +kernel
theorem dX10_soulAtHand_37 : decode cX10_soulAtHand 37 = .ok (.invokevirtual 212, 3) := by decide +kernel
theorem dX10_soulAtHand_40 : decode cX10_soulAtHand 40 = .ok (.aload_n 0, 1) := by decide +kernel
theorem dX10_soulAtHand_41 : decode cX10_soulAtHand 41 = .ok (.getfield 171, 3) := by decide +kernel
theorem dX10_soulAtHand_44 : decode cX10_soulAtHand 44 = .ok (.invokestatic 208, 3) := by decide +kernel
theorem dX10_soulAtHand_47 : decode cX10_soulAtHand 47 = .ok (.goto 4, 3) := by decide +kernel
theorem dX10_soulAtHand_50 : decode cX10_soulAtHand 50 = .ok (.iconst 0, 1) := by decide +kernel
theorem dX10_soulAtHand_51 : decode cX10_soulAtHand 51 = .ok (.istore_n 1, 1) := by decide +kernel
theorem dX10_soulAtHand_52 : decode cX10_soulAtHand 52 = .ok (.aload_n 0, 1) := by decide +kernel
theorem dX10_soulAtHand_53 : decode cX10_soulAtHand 53 = .ok (.getfield 196, 3) := by decide +kernel
theorem dX10_soulAtHand_56 : decode cX10_soulAtHand 56 = .ok (.ifCond .ne 13, 3) := by decide +kernel
theorem dX10_soulAtHand_59 : decode cX10_soulAtHand 59 = .ok (.iload_n 1, 1) := by decide +kernel
theorem dX10_soulAtHand_60 : decode cX10_soulAtHand 60 = .ok (.iconst (-1), 1) := by decide +kernel
theorem dX10_soulAtHand_61 : decode cX10_soulAtHand 61 = .ok (.if_icmp .ne 8, 3) := by decide +kernel
theorem dX10_soulAtHand_64 : decode cX10_soulAtHand 64 = .ok (.aload_n 0, 1) := by decide +kernel
theorem dX10_soulAtHand_65 : decode cX10_soulAtHand 65 = .ok (.iconst 4, 1) := by decide +kernel
theorem dX10_soulAtHand_66 : decode cX10_soulAtHand 66 = .ok (.invokevirtual 205, 3) := by decide +kernel
theorem dX10_soulAtHand_69 : decode cX10_soulAtHand 69 = .ok (.aload_n 0, 1) := by decide +kernel
theorem dX10_soulAtHand_70 : decode cX10_soulAtHand 70 = .ok (.getfield 196, 3) := by decide +kernel
theorem dX10_soulAtHand_73 : decode cX10_soulAtHand 73 = .ok (.ifCond .eq 7, 3) := by decide +kernel
theorem dX10_soulAtHand_76 : decode cX10_soulAtHand 76 = .ok (.iconst 0, 1) := by decide +kernel
theorem dX10_soulAtHand_77 : decode cX10_soulAtHand 77 = .ok (.goto 4, 3) := by decide +kernel
theorem dX10_soulAtHand_80 : decode cX10_soulAtHand 80 = .ok (.iload_n 1, 1) := by decide +kernel
theorem dX10_soulAtHand_81 : decode cX10_soulAtHand 81 = .ok (.ireturn, 1) := by decide +kernel
theorem dX10_isFull_0 : decode cX10_isFull 0 = .ok (.iload_n 1, 1) := by decide +kernel
theorem dX10_isFull_1 : decode cX10_isFull 1 = .ok (.ifCond .ne 13, 3) := by decide +kernel
theorem dX10_isFull_4 : decode cX10_isFull 4 = .ok (.aload_n 0, 1) := by decide +kernel
theorem dX10_isFull_5 : decode cX10_isFull 5 = .ok (.iconst 0, 1) := by decide +kernel
theorem dX10_isFull_6 : decode cX10_isFull 6 = .ok (.invokevirtual 212, 3) := by decide +kernel
theorem dX10_isFull_9 : decode cX10_isFull 9 = .ok (.bipush 8, 2) := by decide +kernel
theorem dX10_isFull_11 : decode cX10_isFull 11 = .ok (.if_icmp .eq 32, 3) := by decide +kernel
theorem dX10_isFull_14 : decode cX10_isFull 14 = .ok (.iload_n 1, 1) := by decide +kernel
theorem dX10_isFull_15 : decode cX10_isFull 15 = .ok (.iconst 1, 1) := by decide +kernel
theorem dX10_isFull_16 : decode cX10_isFull 16 = .ok (.if_icmp .ne 12, 3) := by decide +kernel
theorem dX10_isFull_19 : decode cX10_isFull 19 = .ok (.aload_n 0, 1) := by decide +kernel
theorem dX10_isFull_20 : decode cX10_isFull 20 = .ok (.iconst 1, 1) := by decide +kernel
theorem dX10_isFull_21 : decode cX10_isFull 21 = .ok (.invokevirtual 212, 3) := by decide +kernel
theorem dX10_isFull_24 : decode cX10_isFull 24 = .ok (.iconst 4, 1) := by decide +kernel
theorem dX10_isFull_25 : decode cX10_isFull 25 = .ok (.if_icmp .eq 18, 3) := by decide +kernel
theorem dX10_isFull_28 : decode cX10_isFull 28 = .ok (.iload_n 1, 1) := by decide +kernel
theorem dX10_isFull_29 : decode cX10_isFull 29 = .ok (.iconst 2, 1) := by decide +kernel
theorem dX10_isFull_30 : decode cX10_isFull 30 = .ok (.if_icmp .ne 17, 3) := by decide +kernel
theorem dX10_isFull_33 : decode cX10_isFull 33 = .ok (.aload_n 0, 1) := by decide +kernel
theorem dX10_isFull_34 : decode cX10_isFull 34 = .ok (.iconst 2, 1) := by decide +kernel
theorem dX10_isFull_35 : decode cX10_isFull 35 = .ok (.invokevirtual 212, 3) := by decide +kernel
theorem dX10_isFull_38 : decode cX10_isFull 38 = .ok (.bipush 8, 2) := by decide +kernel
theorem dX10_isFull_40 : decode cX10_isFull 40 = .ok (.if_icmp .ne 7, 3) := by decide +kernel
theorem dX10_isFull_43 : decode cX10_isFull 43 = .ok (.iconst 1, 1) := by decide +kernel
theorem dX10_isFull_44 : decode cX10_isFull 44 = .ok (.goto 4, 3) := by decide +kernel
theorem dX10_isFull_47 : decode cX10_isFull 47 = .ok (.iconst 0, 1) := by decide +kernel
theorem dX10_isFull_48 : decode cX10_isFull 48 = .ok (.ireturn, 1) := by decide +kernel
theorem dX10_line_0 : decode cX10_line 0 = .ok (.aload_n 0, 1) := by decide +kernel
theorem dX10_line_1 : decode cX10_line 1 = .ok (.getfield 161, 3) := by decide +kernel
theorem dX10_line_4 : decode cX10_line 4 = .ok (.ifCond .ne 12, 3) := by decide +kernel
theorem dX10_line_7 : decode cX10_line 7 = .ok (.aload_n 0, 1) := by decide +kernel
theorem dX10_line_8 : decode cX10_line 8 = .ok (.getfield 171, 3) := by decide +kernel
theorem dX10_line_11 : decode cX10_line 11 = .ok (.bipush 6, 2) := by decide +kernel
theorem dX10_line_13 : decode cX10_line 13 = .ok (.if_icmp .le 9, 3) := by decide +kernel
theorem dX10_line_16 : decode cX10_line 16 = .ok (.aload_n 0, 1) := by decide +kernel
theorem dX10_line_17 : decode cX10_line 17 = .ok (.iconst 1, 1) := by decide +kernel
theorem dX10_line_18 : decode cX10_line 18 = .ok (.invokevirtual 205, 3) := by decide +kernel
theorem dX10_line_21 : decode cX10_line 21 = .ok (.return_, 1) := by decide +kernel
theorem dX10_line_22 : decode cX10_line 22 = .ok (.aload_n 0, 1) := by decide +kernel
theorem dX10_line_23 : decode cX10_line 23 = .ok (.getfield 171, 3) := by decide +kernel
theorem dX10_line_26 : decode cX10_line 26 = .ok (.istore_n 1, 1) := by decide +kernel
theorem dX10_line_27 : decode cX10_line 27 = .ok (.aload_n 0, 1) := by decide +kernel
theorem dX10_line_28 : decode cX10_line 28 = .ok (.iload_n 1, 1) := by decide +kernel
theorem dX10_line_29 : decode cX10_line 29 = .ok (.invokevirtual 216, 3) := by decide +kernel
theorem dX10_line_32 : decode cX10_line 32 = .ok (.ifCond .eq 11, 3) := by decide +kernel
theorem dX10_line_35 : decode cX10_line 35 = .ok (.aload_n 0, 1) := by decide +kernel
theorem dX10_line_36 : decode cX10_line 36 = .ok (.iconst 2, 1) := by decide +kernel
theorem dX10_line_37 : decode cX10_line 37 = .ok (.invokevirtual 205, 3) := by decide +kernel
theorem dX10_line_40 : decode cX10_line 40 = .ok (.goto 30, 3) := by decide +kernel
theorem dX10_line_43 : decode cX10_line 43 = .ok (.iload_n 1, 1) := by decide +kernel
theorem dX10_line_44 : decode cX10_line 44 = .ok (.iconst 3, 1) := by decide +kernel
theorem dX10_line_45 : decode cX10_line 45 = .ok (.if_icmp .lt 25, 3) := by decide +kernel
theorem dX10_line_48 : decode cX10_line 48 = .ok (.iload_n 1, 1) := by decide +kernel
theorem dX10_line_49 : decode cX10_line 49 = .ok (.iconst 5, 1) := by decide +kernel
theorem dX10_line_50 : decode cX10_line 50 = .ok (.if_icmp .gt 20, 3) := by decide +kernel
theorem dX10_line_53 : decode cX10_line 53 = .ok (.aload_n 0, 1) := by decide +kernel
theorem dX10_line_54 : decode cX10_line 54 = .ok (.getfield 219, 3) := by decide +kernel
theorem dX10_line_57 : decode cX10_line 57 = .ok (.iload_n 1, 1) := by decide +kernel
theorem dX10_line_58 : decode cX10_line 58 = .ok (.ishr, 1) := by decide +kernel
theorem dX10_line_59 : decode cX10_line 59 = .ok (.iconst 1, 1) := by decide +kernel
theorem dX10_line_60 : decode cX10_line 60 = .ok (.iand, 1) := by decide +kernel
theorem dX10_line_61 : decode cX10_line 61 = .ok (.iconst 1, 1) := by decide +kernel
theorem dX10_line_62 : decode cX10_line 62 = .ok (.if_icmp .ne 8, 3) := by decide +kernel
theorem dX10_line_65 : decode cX10_line 65 = .ok (.aload_n 0, 1) := by decide +kernel
theorem dX10_line_66 : decode cX10_line 66 = .ok (.iconst 3, 1) := by decide +kernel
theorem dX10_line_67 : decode cX10_line 67 = .ok (.invokevirtual 205, 3) := by decide +kernel
theorem dX10_line_70 : decode cX10_line 70 = .ok (.aload_n 0, 1) := by decide +kernel
theorem dX10_line_71 : decode cX10_line 71 = .ok (.getfield 196, 3) := by decide +kernel
theorem dX10_line_74 : decode cX10_line 74 = .ok (.ifCond .eq 4, 3) := by decide +kernel
theorem dX10_line_77 : decode cX10_line 77 = .ok (.return_, 1) := by decide +kernel
theorem dX10_line_78 : decode cX10_line 78 = .ok (.aload_n 0, 1) := by decide +kernel
theorem dX10_line_79 : decode cX10_line 79 = .ok (.dup, 1) := by decide +kernel
theorem dX10_line_80 : decode cX10_line 80 = .ok (.getfield 219, 3) := by decide +kernel
theorem dX10_line_83 : decode cX10_line 83 = .ok (.iconst 1, 1) := by decide +kernel
theorem dX10_line_84 : decode cX10_line 84 = .ok (.iload_n 1, 1) := by decide +kernel
theorem dX10_line_85 : decode cX10_line 85 = .ok (.ishl, 1) := by decide +kernel
theorem dX10_line_86 : decode cX10_line 86 = .ok (.ior, 1) := by decide +kernel
theorem dX10_line_87 : decode cX10_line 87 = .ok (.putfield 219, 3) := by decide +kernel
theorem dX10_line_90 : decode cX10_line 90 = .ok (.aload_n 0, 1) := by decide +kernel
theorem dX10_line_91 : decode cX10_line 91 = .ok (.invokevirtual 202, 3) := by decide +kernel
theorem dX10_line_94 : decode cX10_line 94 = .ok (.iload_n 1, 1) := by decide +kernel
theorem dX10_line_95 : decode cX10_line 95 = .ok (.tableswitch 268 0 5 #[37, 121, 216, 223, 238, 253], 37) := by decide +kernel
theorem dX10_line_132 : decode cX10_line 132 = .ok (.bipush 8, 2) := by decide +kernel
theorem dX10_line_134 : decode cX10_line 134 = .ok (.aload_n 0, 1) := by decide +kernel
theorem dX10_line_135 : decode cX10_line 135 = .ok (.iconst 0, 1) := by decide +kernel
theorem dX10_line_136 : decode cX10_line 136 = .ok (.invokevirtual 212, 3) := by decide +kernel
theorem dX10_line_139 : decode cX10_line 139 = .ok (.iadd, 1) := by decide +kernel
theorem dX10_line_140 : decode cX10_line 140 = .ok (.istore_n 2, 1) := by decide +kernel
theorem dX10_line_141 : decode cX10_line 141 = .ok (.aload_n 0, 1) := by decide +kernel
theorem dX10_line_142 : decode cX10_line 142 = .ok (.getfield 16, 3) := by decide +kernel
theorem dX10_line_145 : decode cX10_line 145 = .ok (.iload_n 2, 1) := by decide +kernel
theorem dX10_line_146 : decode cX10_line 146 = .ok (.aload_n 0, 1) := by decide +kernel
theorem dX10_line_147 : decode cX10_line 147 = .ok (.aload_n 0, 1) := by decide +kernel
theorem dX10_line_148 : decode cX10_line 148 = .ok (.getfield 16, 3) := by decide +kernel
theorem dX10_line_151 : decode cX10_line 151 = .ok (.bipush 8, 2) := by decide +kernel
theorem dX10_line_153 : decode cX10_line 153 = .ok (.aload_n 0, 1) := by decide +kernel
theorem dX10_line_154 : decode cX10_line 154 = .ok (.iconst 0, 1) := by decide +kernel
theorem dX10_line_155 : decode cX10_line 155 = .ok (.invokevirtual 212, 3) := by decide +kernel
theorem dX10_line_158 : decode cX10_line 158 = .ok (.invokevirtual 222, 3) := by decide +kernel
theorem dX10_line_161 : decode cX10_line 161 = .ok (.iastore, 1) := by decide +kernel
theorem dX10_line_162 : decode cX10_line 162 = .ok (.aload_n 0, 1) := by decide +kernel
theorem dX10_line_163 : decode cX10_line 163 = .ok (.getfield 19, 3) := by decide +kernel
theorem dX10_line_166 : decode cX10_line 166 = .ok (.iload_n 2, 1) := by decide +kernel
theorem dX10_line_167 : decode cX10_line 167 = .ok (.aload_n 0, 1) := by decide +kernel
theorem dX10_line_168 : decode cX10_line 168 = .ok (.iconst 0, 1) := by decide +kernel
theorem dX10_line_169 : decode cX10_line 169 = .ok (.bipush 99, 2) := by decide +kernel
theorem dX10_line_171 : decode cX10_line 171 = .ok (.invokevirtual 226, 3) := by decide +kernel
theorem dX10_line_174 : decode cX10_line 174 = .ok (.iastore, 1) := by decide +kernel
theorem dX10_line_175 : decode cX10_line 175 = .ok (.aload_n 0, 1) := by decide +kernel
theorem dX10_line_176 : decode cX10_line 176 = .ok (.getfield 22, 3) := by decide +kernel
theorem dX10_line_179 : decode cX10_line 179 = .ok (.iload_n 2, 1) := by decide +kernel
theorem dX10_line_180 : decode cX10_line 180 = .ok (.aload_n 0, 1) := by decide +kernel
theorem dX10_line_181 : decode cX10_line 181 = .ok (.iconst 0, 1) := by decide +kernel
theorem dX10_line_182 : decode cX10_line 182 = .ok (.bipush 99, 2) := by decide +kernel
theorem dX10_line_184 : decode cX10_line 184 = .ok (.invokevirtual 226, 3) := by decide +kernel
theorem dX10_line_187 : decode cX10_line 187 = .ok (.iastore, 1) := by decide +kernel
theorem dX10_line_188 : decode cX10_line 188 = .ok (.aload_n 0, 1) := by decide +kernel
theorem dX10_line_189 : decode cX10_line 189 = .ok (.getfield 25, 3) := by decide +kernel
theorem dX10_line_192 : decode cX10_line 192 = .ok (.iload_n 2, 1) := by decide +kernel
theorem dX10_line_193 : decode cX10_line 193 = .ok (.aload_n 0, 1) := by decide +kernel
theorem dX10_line_194 : decode cX10_line 194 = .ok (.iconst 0, 1) := by decide +kernel
theorem dX10_line_195 : decode cX10_line 195 = .ok (.bipush 99, 2) := by decide +kernel
theorem dX10_line_197 : decode cX10_line 197 = .ok (.invokevirtual 226, 3) := by decide +kernel
theorem dX10_line_200 : decode cX10_line 200 = .ok (.iastore, 1) := by decide +kernel
theorem dX10_line_201 : decode cX10_line 201 = .ok (.aload_n 0, 1) := by decide +kernel
theorem dX10_line_202 : decode cX10_line 202 = .ok (.iconst 0, 1) := by decide +kernel
theorem dX10_line_203 : decode cX10_line 203 = .ok (.aload_n 0, 1) := by decide +kernel
theorem dX10_line_204 : decode cX10_line 204 = .ok (.iconst 0, 1) := by decide +kernel
theorem dX10_line_205 : decode cX10_line 205 = .ok (.invokevirtual 212, 3) := by decide +kernel
theorem dX10_line_208 : decode cX10_line 208 = .ok (.iconst 1, 1) := by decide +kernel
theorem dX10_line_209 : decode cX10_line 209 = .ok (.iadd, 1) := by decide +kernel
theorem dX10_line_210 : decode cX10_line 210 = .ok (.invokevirtual 230, 3) := by decide +kernel
theorem dX10_line_213 : decode cX10_line 213 = .ok (.goto 154, 3) := by decide +kernel
theorem dX10_line_216 : decode cX10_line 216 = .ok (.iconst 4, 1) := by decide +kernel
theorem dX10_line_217 : decode cX10_line 217 = .ok (.aload_n 0, 1) := by decide +kernel
theorem dX10_line_218 : decode cX10_line 218 = .ok (.iconst 1, 1) := by decide +kernel
theorem dX10_line_219 : decode cX10_line 219 = .ok (.invokevirtual 212, 3) := by decide +kernel
theorem dX10_line_222 : decode cX10_line 222 = .ok (.iadd, 1) := by decide +kernel
theorem dX10_line_223 : decode cX10_line 223 = .ok (.istore_n 3, 1) := by decide +kernel
theorem dX10_line_224 : decode cX10_line 224 = .ok (.aload_n 0, 1) := by decide +kernel
theorem dX10_line_225 : decode cX10_line 225 = .ok (.getfield 28, 3) := by decide +kernel
theorem dX10_line_228 : decode cX10_line 228 = .ok (.iload_n 3, 1) := by decide +kernel
theorem dX10_line_229 : decode cX10_line 229 = .ok (.aload_n 0, 1) := by decide +kernel
theorem dX10_line_230 : decode cX10_line 230 = .ok (.aload_n 0, 1) := by decide +kernel
theorem dX10_line_231 : decode cX10_line 231 = .ok (.getfield 28, 3) := by decide +kernel
theorem dX10_line_234 : decode cX10_line 234 = .ok (.iconst 4, 1) := by decide +kernel
theorem dX10_line_235 : decode cX10_line 235 = .ok (.aload_n 0, 1) := by decide +kernel
theorem dX10_line_236 : decode cX10_line 236 = .ok (.iconst 1, 1) := by decide +kernel
theorem dX10_line_237 : decode cX10_line 237 = .ok (.invokevirtual 212, 3) := by decide +kernel
theorem dX10_line_240 : decode cX10_line 240 = .ok (.invokevirtual 222, 3) := by decide +kernel
theorem dX10_line_243 : decode cX10_line 243 = .ok (.iastore, 1) := by decide +kernel
theorem dX10_line_244 : decode cX10_line 244 = .ok (.aload_n 0, 1) := by decide +kernel
theorem dX10_line_245 : decode cX10_line 245 = .ok (.getfield 31, 3) := by decide +kernel
theorem dX10_line_248 : decode cX10_line 248 = .ok (.iload_n 3, 1) := by decide +kernel
theorem dX10_line_249 : decode cX10_line 249 = .ok (.aload_n 0, 1) := by decide +kernel
theorem dX10_line_250 : decode cX10_line 250 = .ok (.iconst 0, 1) := by decide +kernel
theorem dX10_line_251 : decode cX10_line 251 = .ok (.bipush 99, 2) := by decide +kernel
theorem dX10_line_253 : decode cX10_line 253 = .ok (.invokevirtual 226, 3) := by decide +kernel
theorem dX10_line_256 : decode cX10_line 256 = .ok (.iastore, 1) := by decide +kernel
theorem dX10_line_257 : decode cX10_line 257 = .ok (.aload_n 0, 1) := by decide +kernel
theorem dX10_line_258 : decode cX10_line 258 = .ok (.getfield 34, 3) := by decide +kernel
theorem dX10_line_261 : decode cX10_line 261 = .ok (.iload_n 3, 1) := by decide +kernel
theorem dX10_line_262 : decode cX10_line 262 = .ok (.aload_n 0, 1) := by decide +kernel
theorem dX10_line_263 : decode cX10_line 263 = .ok (.iconst 1, 1) := by decide +kernel
theorem dX10_line_264 : decode cX10_line 264 = .ok (.bipush 30, 2) := by decide +kernel
theorem dX10_line_266 : decode cX10_line 266 = .ok (.invokevirtual 226, 3) := by decide +kernel
theorem dX10_line_269 : decode cX10_line 269 = .ok (.iastore, 1) := by decide +kernel
theorem dX10_line_270 : decode cX10_line 270 = .ok (.aload_n 0, 1) := by decide +kernel
theorem dX10_line_271 : decode cX10_line 271 = .ok (.getfield 37, 3) := by decide +kernel
theorem dX10_line_274 : decode cX10_line 274 = .ok (.iload_n 3, 1) := by decide +kernel
theorem dX10_line_275 : decode cX10_line 275 = .ok (.aload_n 0, 1) := by decide +kernel
theorem dX10_line_276 : decode cX10_line 276 = .ok (.iconst 1, 1) := by decide +kernel
theorem dX10_line_277 : decode cX10_line 277 = .ok (.bipush 8, 2) := by decide +kernel
theorem dX10_line_279 : decode cX10_line 279 = .ok (.invokevirtual 226, 3) := by decide +kernel
theorem dX10_line_282 : decode cX10_line 282 = .ok (.iastore, 1) := by decide +kernel
theorem dX10_line_283 : decode cX10_line 283 = .ok (.aload_n 0, 1) := by decide +kernel
theorem dX10_line_284 : decode cX10_line 284 = .ok (.getfield 40, 3) := by decide +kernel
theorem dX10_line_287 : decode cX10_line 287 = .ok (.iload_n 3, 1) := by decide +kernel
theorem dX10_line_288 : decode cX10_line 288 = .ok (.aload_n 0, 1) := by decide +kernel
theorem dX10_line_289 : decode cX10_line 289 = .ok (.iconst 0, 1) := by decide +kernel
theorem dX10_line_290 : decode cX10_line 290 = .ok (.bipush 99, 2) := by decide +kernel
theorem dX10_line_292 : decode cX10_line 292 = .ok (.invokevirtual 226, 3) := by decide +kernel
theorem dX10_line_295 : decode cX10_line 295 = .ok (.iastore, 1) := by decide +kernel
theorem dX10_line_296 : decode cX10_line 296 = .ok (.aload_n 0, 1) := by decide +kernel
theorem dX10_line_297 : decode cX10_line 297 = .ok (.iconst 1, 1) := by decide +kernel
theorem dX10_line_298 : decode cX10_line 298 = .ok (.aload_n 0, 1) := by decide +kernel
theorem dX10_line_299 : decode cX10_line 299 = .ok (.iconst 1, 1) := by decide +kernel
theorem dX10_line_300 : decode cX10_line 300 = .ok (.invokevirtual 212, 3) := by decide +kernel
theorem dX10_line_303 : decode cX10_line 303 = .ok (.iconst 1, 1) := by decide +kernel
theorem dX10_line_304 : decode cX10_line 304 = .ok (.iadd, 1) := by decide +kernel
theorem dX10_line_305 : decode cX10_line 305 = .ok (.invokevirtual 230, 3) := by decide +kernel
theorem dX10_line_308 : decode cX10_line 308 = .ok (.goto 59, 3) := by decide +kernel
theorem dX10_line_311 : decode cX10_line 311 = .ok (.aload_n 0, 1) := by decide +kernel
theorem dX10_line_312 : decode cX10_line 312 = .ok (.invokevirtual 234, 3) := by decide +kernel
theorem dX10_line_315 : decode cX10_line 315 = .ok (.goto 52, 3) := by decide +kernel
theorem dX10_line_318 : decode cX10_line 318 = .ok (.aload_n 0, 1) := by decide +kernel
theorem dX10_line_319 : decode cX10_line 319 = .ok (.iconst 3, 1) := by decide +kernel
theorem dX10_line_320 : decode cX10_line 320 = .ok (.aload_n 0, 1) := by decide +kernel
theorem dX10_line_321 : decode cX10_line 321 = .ok (.iconst 0, 1) := by decide +kernel
theorem dX10_line_322 : decode cX10_line 322 = .ok (.bipush 8, 2) := by decide +kernel
theorem dX10_line_324 : decode cX10_line 324 = .ok (.invokevirtual 226, 3) := by decide +kernel
theorem dX10_line_327 : decode cX10_line 327 = .ok (.invokevirtual 230, 3) := by decide +kernel
theorem dX10_line_330 : decode cX10_line 330 = .ok (.goto 37, 3) := by decide +kernel
theorem dX10_line_333 : decode cX10_line 333 = .ok (.aload_n 0, 1) := by decide +kernel
theorem dX10_line_334 : decode cX10_line 334 = .ok (.iconst 4, 1) := by decide +kernel
theorem dX10_line_335 : decode cX10_line 335 = .ok (.aload_n 0, 1) := by decide +kernel
theorem dX10_line_336 : decode cX10_line 336 = .ok (.iconst 0, 1) := by decide +kernel
theorem dX10_line_337 : decode cX10_line 337 = .ok (.bipush 100, 2) := by decide +kernel
theorem dX10_line_339 : decode cX10_line 339 = .ok (.invokevirtual 226, 3) := by decide +kernel
theorem dX10_line_342 : decode cX10_line 342 = .ok (.invokevirtual 230, 3) := by decide +kernel
theorem dX10_line_345 : decode cX10_line 345 = .ok (.goto 22, 3) := by decide +kernel
theorem dX10_line_348 : decode cX10_line 348 = .ok (.aload_n 0, 1) := by decide +kernel
theorem dX10_line_349 : decode cX10_line 349 = .ok (.iconst 5, 1) := by decide +kernel
theorem dX10_line_350 : decode cX10_line 350 = .ok (.aload_n 0, 1) := by decide +kernel
theorem dX10_line_351 : decode cX10_line 351 = .ok (.iconst 0, 1) := by decide +kernel
theorem dX10_line_352 : decode cX10_line 352 = .ok (.ldc 180, 2) := by decide +kernel
theorem dX10_line_354 : decode cX10_line 354 = .ok (.invokevirtual 226, 3) := by decide +kernel
theorem dX10_line_357 : decode cX10_line 357 = .ok (.invokevirtual 230, 3) := by decide +kernel
theorem dX10_line_360 : decode cX10_line 360 = .ok (.goto 7, 3) := by decide +kernel
theorem dX10_line_363 : decode cX10_line 363 = .ok (.aload_n 0, 1) := by decide +kernel
theorem dX10_line_364 : decode cX10_line 364 = .ok (.invokevirtual 237, 3) := by decide +kernel
theorem dX10_line_367 : decode cX10_line 367 = .ok (.aload_n 0, 1) := by decide +kernel
theorem dX10_line_368 : decode cX10_line 368 = .ok (.getfield 196, 3) := by decide +kernel
theorem dX10_line_371 : decode cX10_line 371 = .ok (.ifCond .eq 4, 3) := by decide +kernel
theorem dX10_line_374 : decode cX10_line 374 = .ok (.return_, 1) := by decide +kernel
theorem dX10_line_375 : decode cX10_line 375 = .ok (.aload_n 0, 1) := by decide +kernel
theorem dX10_line_376 : decode cX10_line 376 = .ok (.bipush 59, 2) := by decide +kernel
theorem dX10_line_378 : decode cX10_line 378 = .ok (.invokevirtual 240, 3) := by decide +kernel
theorem dX10_line_381 : decode cX10_line 381 = .ok (.ifCond .ne 11, 3) := by decide +kernel
theorem dX10_line_384 : decode cX10_line 384 = .ok (.aload_n 0, 1) := by decide +kernel
theorem dX10_line_385 : decode cX10_line 385 = .ok (.iconst 1, 1) := by decide +kernel
theorem dX10_line_386 : decode cX10_line 386 = .ok (.invokevirtual 205, 3) := by decide +kernel
theorem dX10_line_389 : decode cX10_line 389 = .ok (.goto 7, 3) := by decide +kernel
theorem dX10_line_392 : decode cX10_line 392 = .ok (.aload_n 0, 1) := by decide +kernel
theorem dX10_line_393 : decode cX10_line 393 = .ok (.invokevirtual 202, 3) := by decide +kernel
theorem dX10_line_396 : decode cX10_line 396 = .ok (.aload_n 0, 1) := by decide +kernel
theorem dX10_line_397 : decode cX10_line 397 = .ok (.dup, 1) := by decide +kernel
theorem dX10_line_398 : decode cX10_line 398 = .ok (.getfield 243, 3) := by decide +kernel
theorem dX10_line_401 : decode cX10_line 401 = .ok (.iconst 1, 1) := by decide +kernel
theorem dX10_line_402 : decode cX10_line 402 = .ok (.iadd, 1) := by decide +kernel
theorem dX10_line_403 : decode cX10_line 403 = .ok (.putfield 243, 3) := by decide +kernel
theorem dX10_line_406 : decode cX10_line 406 = .ok (.return_, 1) := by decide +kernel
theorem dX10_letsLine_0 : decode cX10_letsLine 0 = .ok (.bipush 8, 2) := by decide +kernel
theorem dX10_letsLine_2 : decode cX10_letsLine 2 = .ok (.aload_n 0, 1) := by decide +kernel
theorem dX10_letsLine_3 : decode cX10_letsLine 3 = .ok (.iconst 2, 1) := by decide +kernel
theorem dX10_letsLine_4 : decode cX10_letsLine 4 = .ok (.invokevirtual 212, 3) := by decide +kernel
theorem dX10_letsLine_7 : decode cX10_letsLine 7 = .ok (.iadd, 1) := by decide +kernel
theorem dX10_letsLine_8 : decode cX10_letsLine 8 = .ok (.istore_n 1, 1) := by decide +kernel
theorem dX10_letsLine_9 : decode cX10_letsLine 9 = .ok (.aload_n 0, 1) := by decide +kernel
theorem dX10_letsLine_10 : decode cX10_letsLine 10 = .ok (.getfield 43, 3) := by decide +kernel
theorem dX10_letsLine_13 : decode cX10_letsLine 13 = .ok (.iload_n 1, 1) := by decide +kernel
theorem dX10_letsLine_14 : decode cX10_letsLine 14 = .ok (.aload_n 0, 1) := by decide +kernel
theorem dX10_letsLine_15 : decode cX10_letsLine 15 = .ok (.invokevirtual 246, 3) := by decide +kernel
theorem dX10_letsLine_18 : decode cX10_letsLine 18 = .ok (.iastore, 1) := by decide +kernel
theorem dX10_letsLine_19 : decode cX10_letsLine 19 = .ok (.aload_n 0, 1) := by decide +kernel
theorem dX10_letsLine_20 : decode cX10_letsLine 20 = .ok (.invokevirtual 249, 3) := by decide +kernel
theorem dX10_letsLine_23 : decode cX10_letsLine 23 = .ok (.aload_n 0, 1) := by decide +kernel
theorem dX10_letsLine_24 : decode cX10_letsLine 24 = .ok (.getfield 46, 3) := by decide +kernel
theorem dX10_letsLine_27 : decode cX10_letsLine 27 = .ok (.iload_n 1, 1) := by decide +kernel
theorem dX10_letsLine_28 : decode cX10_letsLine 28 = .ok (.aload_n 0, 1) := by decide +kernel
theorem dX10_letsLine_29 : decode cX10_letsLine 29 = .ok (.invokevirtual 246, 3) := by decide +kernel
theorem dX10_letsLine_32 : decode cX10_letsLine 32 = .ok (.iastore, 1) := by decide +kernel
theorem dX10_letsLine_33 : decode cX10_letsLine 33 = .ok (.bipush 8, 2) := by decide +kernel
theorem dX10_letsLine_35 : decode cX10_letsLine 35 = .ok (.istore_n 2, 1) := by decide +kernel
theorem dX10_letsLine_36 : decode cX10_letsLine 36 = .ok (.iload_n 2, 1) := by decide +kernel
theorem dX10_letsLine_37 : decode cX10_letsLine 37 = .ok (.iload_n 1, 1) := by decide +kernel
theorem dX10_letsLine_38 : decode cX10_letsLine 38 = .ok (.if_icmp .ge 51, 3) := by decide +kernel
theorem dX10_letsLine_41 : decode cX10_letsLine 41 = .ok (.aload_n 0, 1) := by decide +kernel
theorem dX10_letsLine_42 : decode cX10_letsLine 42 = .ok (.getfield 196, 3) := by decide +kernel
theorem dX10_letsLine_45 : decode cX10_letsLine 45 = .ok (.ifCond .ne 38, 3) := by decide +kernel
theorem dX10_letsLine_48 : decode cX10_letsLine 48 = .ok (.aload_n 0, 1) := by decide +kernel
theorem dX10_letsLine_49 : decode cX10_letsLine 49 = .ok (.getfield 43, 3) := by decide +kernel
theorem dX10_letsLine_52 : decode cX10_letsLine 52 = .ok (.iload_n 2, 1) := by decide +kernel
theorem dX10_letsLine_53 : decode cX10_letsLine 53 = .ok (.iaload, 1) := by decide +kernel
theorem dX10_letsLine_54 : decode cX10_letsLine 54 = .ok (.aload_n 0, 1) := by decide +kernel
theorem dX10_letsLine_55 : decode cX10_letsLine 55 = .ok (.getfield 43, 3) := by decide +kernel
theorem dX10_letsLine_58 : decode cX10_letsLine 58 = .ok (.iload_n 1, 1) := by decide +kernel
theorem dX10_letsLine_59 : decode cX10_letsLine 59 = .ok (.iaload, 1) := by decide +kernel
theorem dX10_letsLine_60 : decode cX10_letsLine 60 = .ok (.if_icmp .ne 23, 3) := by decide +kernel
theorem dX10_letsLine_63 : decode cX10_letsLine 63 = .ok (.aload_n 0, 1) := by decide +kernel
theorem dX10_letsLine_64 : decode cX10_letsLine 64 = .ok (.getfield 46, 3) := by decide +kernel
theorem dX10_letsLine_67 : decode cX10_letsLine 67 = .ok (.iload_n 2, 1) := by decide +kernel
theorem dX10_letsLine_68 : decode cX10_letsLine 68 = .ok (.iaload, 1) := by decide +kernel
theorem dX10_letsLine_69 : decode cX10_letsLine 69 = .ok (.aload_n 0, 1) := by decide +kernel
theorem dX10_letsLine_70 : decode cX10_letsLine 70 = .ok (.getfield 46, 3) := by decide +kernel
theorem dX10_letsLine_73 : decode cX10_letsLine 73 = .ok (.iload_n 1, 1) := by decide +kernel
theorem dX10_letsLine_74 : decode cX10_letsLine 74 = .ok (.iaload, 1) := by decide +kernel
theorem dX10_letsLine_75 : decode cX10_letsLine 75 = .ok (.if_icmp .ne 8, 3) := by decide +kernel
theorem dX10_letsLine_78 : decode cX10_letsLine 78 = .ok (.aload_n 0, 1) := by decide +kernel
theorem dX10_letsLine_79 : decode cX10_letsLine 79 = .ok (.iconst 3, 1) := by decide +kernel
theorem dX10_letsLine_80 : decode cX10_letsLine 80 = .ok (.invokevirtual 205, 3) := by decide +kernel
theorem dX10_letsLine_83 : decode cX10_letsLine 83 = .ok (.iinc 2 1, 3) := by decide +kernel
theorem dX10_letsLine_86 : decode cX10_letsLine 86 = .ok (.goto (-50), 3) := by decide +kernel
theorem dX10_letsLine_89 : decode cX10_letsLine 89 = .ok (.aload_n 0, 1) := by decide +kernel
theorem dX10_letsLine_90 : decode cX10_letsLine 90 = .ok (.getfield 196, 3) := by decide +kernel
theorem dX10_letsLine_93 : decode cX10_letsLine 93 = .ok (.ifCond .ne 23, 3) := by decide +kernel
theorem dX10_letsLine_96 : decode cX10_letsLine 96 = .ok (.aload_n 0, 1) := by decide +kernel
theorem dX10_letsLine_97 : decode cX10_letsLine 97 = .ok (.getfield 43, 3) := by decide +kernel
theorem dX10_letsLine_100 : decode cX10_letsLine 100 = .ok (.iload_n 1, 1) := by decide +kernel
theorem dX10_letsLine_101 : decode cX10_letsLine 101 = .ok (.iaload, 1) := by decide +kernel
theorem dX10_letsLine_102 : decode cX10_letsLine 102 = .ok (.aload_n 0, 1) := by decide +kernel
theorem dX10_letsLine_103 : decode cX10_letsLine 103 = .ok (.getfield 46, 3) := by decide +kernel
theorem dX10_letsLine_106 : decode cX10_letsLine 106 = .ok (.iload_n 1, 1) := by decide +kernel
theorem dX10_letsLine_107 : decode cX10_letsLine 107 = .ok (.iaload, 1) := by decide +kernel
theorem dX10_letsLine_108 : decode cX10_letsLine 108 = .ok (.if_icmp .ne 8, 3) := by decide +kernel
theorem dX10_letsLine_111 : decode cX10_letsLine 111 = .ok (.aload_n 0, 1) := by decide +kernel
theorem dX10_letsLine_112 : decode cX10_letsLine 112 = .ok (.iconst 5, 1) := by decide +kernel
theorem dX10_letsLine_113 : decode cX10_letsLine 113 = .ok (.invokevirtual 205, 3) := by decide +kernel
theorem dX10_letsLine_116 : decode cX10_letsLine 116 = .ok (.aload_n 0, 1) := by decide +kernel
theorem dX10_letsLine_117 : decode cX10_letsLine 117 = .ok (.invokevirtual 249, 3) := by decide +kernel
theorem dX10_letsLine_120 : decode cX10_letsLine 120 = .ok (.aload_n 0, 1) := by decide +kernel
theorem dX10_letsLine_121 : decode cX10_letsLine 121 = .ok (.iconst 2, 1) := by decide +kernel
theorem dX10_letsLine_122 : decode cX10_letsLine 122 = .ok (.aload_n 0, 1) := by decide +kernel
theorem dX10_letsLine_123 : decode cX10_letsLine 123 = .ok (.iconst 2, 1) := by decide +kernel
theorem dX10_letsLine_124 : decode cX10_letsLine 124 = .ok (.invokevirtual 212, 3) := by decide +kernel
theorem dX10_letsLine_127 : decode cX10_letsLine 127 = .ok (.iconst 1, 1) := by decide +kernel
theorem dX10_letsLine_128 : decode cX10_letsLine 128 = .ok (.iadd, 1) := by decide +kernel
theorem dX10_letsLine_129 : decode cX10_letsLine 129 = .ok (.invokevirtual 230, 3) := by decide +kernel
theorem dX10_letsLine_132 : decode cX10_letsLine 132 = .ok (.return_, 1) := by decide +kernel
theorem dX10_lawLine_0 : decode cX10_lawLine 0 = .ok (.aload_n 0, 1) := by decide +kernel
theorem dX10_lawLine_1 : decode cX10_lawLine 1 = .ok (.getfield 161, 3) := by decide +kernel
theorem dX10_lawLine_4 : decode cX10_lawLine 4 = .ok (.ifCond .ne 21, 3) := by decide +kernel
theorem dX10_lawLine_7 : decode cX10_lawLine 7 = .ok (.aload_n 0, 1) := by decide +kernel
theorem dX10_lawLine_8 : decode cX10_lawLine 8 = .ok (.getfield 171, 3) := by decide +kernel
theorem dX10_lawLine_11 : decode cX10_lawLine 11 = .ok (.bipush 7, 2) := by decide +kernel
theorem dX10_lawLine_13 : decode cX10_lawLine 13 = .ok (.if_icmp .lt 12, 3) := by decide +kernel
theorem dX10_lawLine_16 : decode cX10_lawLine 16 = .ok (.aload_n 0, 1) := by decide +kernel
theorem dX10_lawLine_17 : decode cX10_lawLine 17 = .ok (.getfield 171, 3) := by decide +kernel
theorem dX10_lawLine_20 : decode cX10_lawLine 20 = .ok (.bipush 9, 2) := by decide +kernel
theorem dX10_lawLine_22 : decode cX10_lawLine 22 = .ok (.if_icmp .le 8, 3) := by decide +kernel
theorem dX10_lawLine_25 : decode cX10_lawLine 25 = .ok (.aload_n 0, 1) := by decide +kernel
theorem dX10_lawLine_26 : decode cX10_lawLine 26 = .ok (.iconst 1, 1) := by decide +kernel
theorem dX10_lawLine_27 : decode cX10_lawLine 27 = .ok (.invokevirtual 205, 3) := by decide +kernel
theorem dX10_lawLine_30 : decode cX10_lawLine 30 = .ok (.aload_n 0, 1) := by decide +kernel
theorem dX10_lawLine_31 : decode cX10_lawLine 31 = .ok (.getfield 171, 3) := by decide +kernel
theorem dX10_lawLine_34 : decode cX10_lawLine 34 = .ok (.bipush 7, 2) := by decide +kernel
theorem dX10_lawLine_36 : decode cX10_lawLine 36 = .ok (.isub, 1) := by decide +kernel
theorem dX10_lawLine_37 : decode cX10_lawLine 37 = .ok (.istore_n 1, 1) := by decide +kernel
theorem dX10_lawLine_38 : decode cX10_lawLine 38 = .ok (.aload_n 0, 1) := by decide +kernel
theorem dX10_lawLine_39 : decode cX10_lawLine 39 = .ok (.getfield 196, 3) := by decide +kernel
theorem dX10_lawLine_42 : decode cX10_lawLine 42 = .ok (.ifCond .ne 23, 3) := by decide +kernel
theorem dX10_lawLine_45 : decode cX10_lawLine 45 = .ok (.aload_n 0, 1) := by decide +kernel
theorem dX10_lawLine_46 : decode cX10_lawLine 46 = .ok (.getfield 219, 3) := by decide +kernel
theorem dX10_lawLine_49 : decode cX10_lawLine 49 = .ok (.bipush 16, 2) := by decide +kernel
theorem dX10_lawLine_51 : decode cX10_lawLine 51 = .ok (.iload_n 1, 1) := by decide +kernel
theorem dX10_lawLine_52 : decode cX10_lawLine 52 = .ok (.iadd, 1) := by decide +kernel
theorem dX10_lawLine_53 : decode cX10_lawLine 53 = .ok (.ishr, 1) := by decide +kernel
theorem dX10_lawLine_54 : decode cX10_lawLine 54 = .ok (.iconst 1, 1) := by decide +kernel
theorem dX10_lawLine_55 : decode cX10_lawLine 55 = .ok (.iand, 1) := by decide +kernel
theorem dX10_lawLine_56 : decode cX10_lawLine 56 = .ok (.iconst 1, 1) := by decide +kernel
theorem dX10_lawLine_57 : decode cX10_lawLine 57 = .ok (.if_icmp .ne 8, 3) := by decide +kernel
theorem dX10_lawLine_60 : decode cX10_lawLine 60 = .ok (.aload_n 0, 1) := by decide +kernel
theorem dX10_lawLine_61 : decode cX10_lawLine 61 = .ok (.iconst 3, 1) := by decide +kernel
theorem dX10_lawLine_62 : decode cX10_lawLine 62 = .ok (.invokevirtual 205, 3) := by decide +kernel
theorem dX10_lawLine_65 : decode cX10_lawLine 65 = .ok (.aload_n 0, 1) := by decide +kernel
theorem dX10_lawLine_66 : decode cX10_lawLine 66 = .ok (.getfield 196, 3) := by decide +kernel
theorem dX10_lawLine_69 : decode cX10_lawLine 69 = .ok (.ifCond .eq 4, 3) := by decide +kernel
theorem dX10_lawLine_72 : decode cX10_lawLine 72 = .ok (.return_, 1) := by decide +kernel
theorem dX10_lawLine_73 : decode cX10_lawLine 73 = .ok (.aload_n 0, 1) := by decide +kernel
theorem dX10_lawLine_74 : decode cX10_lawLine 74 = .ok (.dup, 1) := by decide +kernel
theorem dX10_lawLine_75 : decode cX10_lawLine 75 = .ok (.getfield 219, 3) := by decide +kernel
theorem dX10_lawLine_78 : decode cX10_lawLine 78 = .ok (.iconst 1, 1) := by decide +kernel
theorem dX10_lawLine_79 : decode cX10_lawLine 79 = .ok (.bipush 16, 2) := by decide +kernel
theorem dX10_lawLine_81 : decode cX10_lawLine 81 = .ok (.iload_n 1, 1) := by decide +kernel
theorem dX10_lawLine_82 : decode cX10_lawLine 82 = .ok (.iadd, 1) := by decide +kernel
theorem dX10_lawLine_83 : decode cX10_lawLine 83 = .ok (.ishl, 1) := by decide +kernel
theorem dX10_lawLine_84 : decode cX10_lawLine 84 = .ok (.ior, 1) := by decide +kernel
theorem dX10_lawLine_85 : decode cX10_lawLine 85 = .ok (.putfield 219, 3) := by decide +kernel
theorem dX10_lawLine_88 : decode cX10_lawLine 88 = .ok (.aload_n 0, 1) := by decide +kernel
theorem dX10_lawLine_89 : decode cX10_lawLine 89 = .ok (.invokevirtual 202, 3) := by decide +kernel
theorem dX10_lawLine_92 : decode cX10_lawLine 92 = .ok (.aload_n 0, 1) := by decide +kernel
theorem dX10_lawLine_93 : decode cX10_lawLine 93 = .ok (.getfield 49, 3) := by decide +kernel
theorem dX10_lawLine_96 : decode cX10_lawLine 96 = .ok (.iconst 3, 1) := by decide +kernel
theorem dX10_lawLine_97 : decode cX10_lawLine 97 = .ok (.iload_n 1, 1) := by decide +kernel
theorem dX10_lawLine_98 : decode cX10_lawLine 98 = .ok (.iadd, 1) := by decide +kernel
theorem dX10_lawLine_99 : decode cX10_lawLine 99 = .ok (.aload_n 0, 1) := by decide +kernel
theorem dX10_lawLine_100 : decode cX10_lawLine 100 = .ok (.bipush 6, 2) := by decide +kernel
theorem dX10_lawLine_102 : decode cX10_lawLine 102 = .ok (.invokevirtual 212, 3) := by decide +kernel
theorem dX10_lawLine_105 : decode cX10_lawLine 105 = .ok (.iastore, 1) := by decide +kernel
theorem dX10_lawLine_106 : decode cX10_lawLine 106 = .ok (.aload_n 0, 1) := by decide +kernel
theorem dX10_lawLine_107 : decode cX10_lawLine 107 = .ok (.invokevirtual 252, 3) := by decide +kernel
theorem dX10_lawLine_110 : decode cX10_lawLine 110 = .ok (.aload_n 0, 1) := by decide +kernel
theorem dX10_lawLine_111 : decode cX10_lawLine 111 = .ok (.getfield 52, 3) := by decide +kernel
theorem dX10_lawLine_114 : decode cX10_lawLine 114 = .ok (.iconst 3, 1) := by decide +kernel
theorem dX10_lawLine_115 : decode cX10_lawLine 115 = .ok (.iload_n 1, 1) := by decide +kernel
theorem dX10_lawLine_116 : decode cX10_lawLine 116 = .ok (.iadd, 1) := by decide +kernel
theorem dX10_lawLine_117 : decode cX10_lawLine 117 = .ok (.aload_n 0, 1) := by decide +kernel
theorem dX10_lawLine_118 : decode cX10_lawLine 118 = .ok (.bipush 6, 2) := by decide +kernel
theorem dX10_lawLine_120 : decode cX10_lawLine 120 = .ok (.invokevirtual 212, 3) := by decide +kernel
theorem dX10_lawLine_123 : decode cX10_lawLine 123 = .ok (.iastore, 1) := by decide +kernel
theorem dX10_lawLine_124 : decode cX10_lawLine 124 = .ok (.return_, 1) := by decide +kernel
theorem dX10_puts_0 : decode cX10_puts 0 = .ok (.aload_n 0, 1) := by decide +kernel
theorem dX10_puts_1 : decode cX10_puts 1 = .ok (.getfield 196, 3) := by decide +kernel
theorem dX10_puts_4 : decode cX10_puts 4 = .ok (.ifCond .eq 4, 3) := by decide +kernel
theorem dX10_puts_7 : decode cX10_puts 7 = .ok (.return_, 1) := by decide +kernel
theorem dX10_puts_8 : decode cX10_puts 8 = .ok (.aload_n 0, 1) := by decide +kernel
theorem dX10_puts_9 : decode cX10_puts 9 = .ok (.getfield 55, 3) := by decide +kernel
theorem dX10_puts_12 : decode cX10_puts 12 = .ok (.bipush 64, 2) := by decide +kernel
theorem dX10_puts_14 : decode cX10_puts 14 = .ok (.aload_n 0, 1) := by decide +kernel
theorem dX10_puts_15 : decode cX10_puts 15 = .ok (.bipush 6, 2) := by decide +kernel
theorem dX10_puts_17 : decode cX10_puts 17 = .ok (.invokevirtual 212, 3) := by decide +kernel
theorem dX10_puts_20 : decode cX10_puts 20 = .ok (.iadd, 1) := by decide +kernel
theorem dX10_puts_21 : decode cX10_puts 21 = .ok (.iload_n 1, 1) := by decide +kernel
theorem dX10_puts_22 : decode cX10_puts 22 = .ok (.iastore, 1) := by decide +kernel
theorem dX10_puts_23 : decode cX10_puts 23 = .ok (.aload_n 0, 1) := by decide +kernel
theorem dX10_puts_24 : decode cX10_puts 24 = .ok (.getfield 58, 3) := by decide +kernel
theorem dX10_puts_27 : decode cX10_puts 27 = .ok (.bipush 64, 2) := by decide +kernel
theorem dX10_puts_29 : decode cX10_puts 29 = .ok (.aload_n 0, 1) := by decide +kernel
theorem dX10_puts_30 : decode cX10_puts 30 = .ok (.bipush 6, 2) := by decide +kernel
theorem dX10_puts_32 : decode cX10_puts 32 = .ok (.invokevirtual 212, 3) := by decide +kernel
theorem dX10_puts_35 : decode cX10_puts 35 = .ok (.iadd, 1) := by decide +kernel
theorem dX10_puts_36 : decode cX10_puts 36 = .ok (.iload_n 2, 1) := by decide +kernel
theorem dX10_puts_37 : decode cX10_puts 37 = .ok (.iastore, 1) := by decide +kernel
theorem dX10_puts_38 : decode cX10_puts 38 = .ok (.aload_n 0, 1) := by decide +kernel
theorem dX10_puts_39 : decode cX10_puts 39 = .ok (.bipush 6, 2) := by decide +kernel
theorem dX10_puts_41 : decode cX10_puts 41 = .ok (.aload_n 0, 1) := by decide +kernel
theorem dX10_puts_42 : decode cX10_puts 42 = .ok (.bipush 6, 2) := by decide +kernel
theorem dX10_puts_44 : decode cX10_puts 44 = .ok (.invokevirtual 212, 3) := by decide +kernel
theorem dX10_puts_47 : decode cX10_puts 47 = .ok (.iconst 1, 1) := by decide +kernel
theorem dX10_puts_48 : decode cX10_puts 48 = .ok (.iadd, 1) := by decide +kernel
theorem dX10_puts_49 : decode cX10_puts 49 = .ok (.invokevirtual 230, 3) := by decide +kernel
theorem dX10_puts_52 : decode cX10_puts 52 = .ok (.return_, 1) := by decide +kernel
theorem dX10_knot_0 : decode cX10_knot 0 = .ok (.aload_n 0, 1) := by decide +kernel
theorem dX10_knot_1 : decode cX10_knot 1 = .ok (.getfield 196, 3) := by decide +kernel
theorem dX10_knot_4 : decode cX10_knot 4 = .ok (.ifCond .eq 4, 3) := by decide +kernel
theorem dX10_knot_7 : decode cX10_knot 7 = .ok (.return_, 1) := by decide +kernel
theorem dX10_knot_8 : decode cX10_knot 8 = .ok (.aload_n 0, 1) := by decide +kernel
theorem dX10_knot_9 : decode cX10_knot 9 = .ok (.getfield 255, 3) := by decide +kernel
theorem dX10_knot_12 : decode cX10_knot 12 = .ok (.bipush 64, 2) := by decide +kernel
theorem dX10_knot_14 : decode cX10_knot 14 = .ok (.if_icmp .ne 11, 3) := by decide +kernel
theorem dX10_knot_17 : decode cX10_knot 17 = .ok (.aload_n 0, 1) := by decide +kernel
theorem dX10_knot_18 : decode cX10_knot 18 = .ok (.iconst 2, 1) := by decide +kernel
theorem dX10_knot_19 : decode cX10_knot 19 = .ok (.invokevirtual 205, 3) := by decide +kernel
theorem dX10_knot_22 : decode cX10_knot 22 = .ok (.goto 13, 3) := by decide +kernel
theorem dX10_knot_25 : decode cX10_knot 25 = .ok (.aload_n 0, 1) := by decide +kernel
theorem dX10_knot_26 : decode cX10_knot 26 = .ok (.dup, 1) := by decide +kernel
theorem dX10_knot_27 : decode cX10_knot 27 = .ok (.getfield 255, 3) := by decide +kernel
theorem dX10_knot_30 : decode cX10_knot 30 = .ok (.iconst 1, 1) := by decide +kernel
theorem dX10_knot_31 : decode cX10_knot 31 = .ok (.iadd, 1) := by decide +kernel
theorem dX10_knot_32 : decode cX10_knot 32 = .ok (.putfield 255, 3) := by decide +kernel
theorem dX10_knot_35 : decode cX10_knot 35 = .ok (.return_, 1) := by decide +kernel
theorem dX10_expression_0 : decode cX10_expression 0 = .ok (.aload_n 0, 1) := by decide +kernel
theorem dX10_expression_1 : decode cX10_expression 1 = .ok (.invokevirtual 258, 3) := by decide +kernel
theorem dX10_expression_4 : decode cX10_expression 4 = .ok (.aload_n 0, 1) := by decide +kernel
theorem dX10_expression_5 : decode cX10_expression 5 = .ok (.bipush 10, 2) := by decide +kernel
theorem dX10_expression_7 : decode cX10_expression 7 = .ok (.invokevirtual 261, 3) := by decide +kernel
theorem dX10_expression_10 : decode cX10_expression 10 = .ok (.ifCond .eq 26, 3) := by decide +kernel
theorem dX10_expression_13 : decode cX10_expression 13 = .ok (.aload_n 0, 1) := by decide +kernel
theorem dX10_expression_14 : decode cX10_expression 14 = .ok (.invokevirtual 264, 3) := by decide +kernel
theorem dX10_expression_17 : decode cX10_expression 17 = .ok (.aload_n 0, 1) := by decide +kernel
theorem dX10_expression_18 : decode cX10_expression 18 = .ok (.invokevirtual 249, 3) := by decide +kernel
theorem dX10_expression_21 : decode cX10_expression 21 = .ok (.aload_n 0, 1) := by decide +kernel
theorem dX10_expression_22 : decode cX10_expression 22 = .ok (.invokevirtual 258, 3) := by decide +kernel
theorem dX10_expression_25 : decode cX10_expression 25 = .ok (.aload_n 0, 1) := by decide +kernel
theorem dX10_expression_26 : decode cX10_expression 26 = .ok (.iconst 2, 1) := by decide +kernel
theorem dX10_expression_27 : decode cX10_expression 27 = .ok (.sipush 262, 3) := by decide +kernel
theorem dX10_expression_30 : decode cX10_expression 30 = .ok (.invokevirtual 267, 3) := by decide +kernel
theorem dX10_expression_33 : decode cX10_expression 33 = .ok (.goto (-29), 3) := by decide +kernel
theorem dX10_expression_36 : decode cX10_expression 36 = .ok (.return_, 1) := by decide +kernel
theorem dX10_conjunction_0 : decode cX10_conjunction 0 = .ok (.aload_n 0, 1) := by decide +kernel
theorem dX10_conjunction_1 : decode cX10_conjunction 1 = .ok (.invokevirtual 270, 3) := by decide +kernel
theorem dX10_conjunction_4 : decode cX10_conjunction 4 = .ok (.aload_n 0, 1) := by decide +kernel
theorem dX10_conjunction_5 : decode cX10_conjunction 5 = .ok (.bipush 11, 2) := by decide +kernel
theorem dX10_conjunction_7 : decode cX10_conjunction 7 = .ok (.invokevirtual 261, 3) := by decide +kernel
theorem dX10_conjunction_10 : decode cX10_conjunction 10 = .ok (.ifCond .eq 26, 3) := by decide +kernel
theorem dX10_conjunction_13 : decode cX10_conjunction 13 = .ok (.aload_n 0, 1) := by decide +kernel
theorem dX10_conjunction_14 : decode cX10_conjunction 14 = .ok (.invokevirtual 264, 3) := by decide +kernel
theorem dX10_conjunction_17 : decode cX10_conjunction 17 = .ok (.aload_n 0, 1) := by decide +kernel
theorem dX10_conjunction_18 : decode cX10_conjunction 18 = .ok (.invokevirtual 249, 3) := by decide +kernel
theorem dX10_conjunction_21 : decode cX10_conjunction 21 = .ok (.aload_n 0, 1) := by decide +kernel
theorem dX10_conjunction_22 : decode cX10_conjunction 22 = .ok (.invokevirtual 270, 3) := by decide +kernel
theorem dX10_conjunction_25 : decode cX10_conjunction 25 = .ok (.aload_n 0, 1) := by decide +kernel
theorem dX10_conjunction_26 : decode cX10_conjunction 26 = .ok (.iconst 2, 1) := by decide +kernel
theorem dX10_conjunction_27 : decode cX10_conjunction 27 = .ok (.sipush 261, 3) := by decide +kernel
theorem dX10_conjunction_30 : decode cX10_conjunction 30 = .ok (.invokevirtual 267, 3) := by decide +kernel
theorem dX10_conjunction_33 : decode cX10_conjunction 33 = .ok (.goto (-29), 3) := by decide +kernel
theorem dX10_conjunction_36 : decode cX10_conjunction 36 = .ok (.return_, 1) := by decide +kernel
theorem dX10_negation_0 : decode cX10_negation 0 = .ok (.aload_n 0, 1) := by decide +kernel
theorem dX10_negation_1 : decode cX10_negation 1 = .ok (.bipush 12, 2) := by decide +kernel
theorem dX10_negation_3 : decode cX10_negation 3 = .ok (.invokevirtual 261, 3) := by decide +kernel
theorem dX10_negation_6 : decode cX10_negation 6 = .ok (.ifCond .eq 24, 3) := by decide +kernel
theorem dX10_negation_9 : decode cX10_negation 9 = .ok (.aload_n 0, 1) := by decide +kernel
theorem dX10_negation_10 : decode cX10_negation 10 = .ok (.invokevirtual 264, 3) := by decide +kernel
theorem dX10_negation_13 : decode cX10_negation 13 = .ok (.aload_n 0, 1) := by decide +kernel
theorem dX10_negation_14 : decode cX10_negation 14 = .ok (.invokevirtual 249, 3) := by decide +kernel
theorem dX10_negation_17 : decode cX10_negation 17 = .ok (.aload_n 0, 1) := by decide +kernel
theorem dX10_negation_18 : decode cX10_negation 18 = .ok (.invokevirtual 270, 3) := by decide +kernel
theorem dX10_negation_21 : decode cX10_negation 21 = .ok (.aload_n 0, 1) := by decide +kernel
theorem dX10_negation_22 : decode cX10_negation 22 = .ok (.iconst 2, 1) := by decide +kernel
theorem dX10_negation_23 : decode cX10_negation 23 = .ok (.sipush 260, 3) := by decide +kernel
theorem dX10_negation_26 : decode cX10_negation 26 = .ok (.invokevirtual 267, 3) := by decide +kernel
theorem dX10_negation_29 : decode cX10_negation 29 = .ok (.return_, 1) := by decide +kernel
theorem dX10_negation_30 : decode cX10_negation 30 = .ok (.aload_n 0, 1) := by decide +kernel
theorem dX10_negation_31 : decode cX10_negation 31 = .ok (.invokevirtual 273, 3) := by decide +kernel
theorem dX10_negation_34 : decode cX10_negation 34 = .ok (.aload_n 0, 1) := by decide +kernel
theorem dX10_negation_35 : decode cX10_negation 35 = .ok (.getfield 196, 3) := by decide +kernel
theorem dX10_negation_38 : decode cX10_negation 38 = .ok (.ifCond .ne 48, 3) := by decide +kernel
theorem dX10_negation_41 : decode cX10_negation 41 = .ok (.aload_n 0, 1) := by decide +kernel
theorem dX10_negation_42 : decode cX10_negation 42 = .ok (.getfield 161, 3) := by decide +kernel
theorem dX10_negation_45 : decode cX10_negation 45 = .ok (.iconst 3, 1) := by decide +kernel
theorem dX10_negation_46 : decode cX10_negation 46 = .ok (.if_icmp .ne 40, 3) := by decide +kernel
theorem dX10_negation_49 : decode cX10_negation 49 = .ok (.aload_n 0, 1) := by decide +kernel
theorem dX10_negation_50 : decode cX10_negation 50 = .ok (.getfield 171, 3) := by decide +kernel
theorem dX10_negation_53 : decode cX10_negation 53 = .ok (.bipush 60, 2) := by decide +kernel
theorem dX10_negation_55 : decode cX10_negation 55 = .ok (.if_icmp .eq 32, 3) := by decide +kernel
theorem dX10_negation_58 : decode cX10_negation 58 = .ok (.aload_n 0, 1) := by decide +kernel
theorem dX10_negation_59 : decode cX10_negation 59 = .ok (.getfield 171, 3) := by decide +kernel
theorem dX10_negation_62 : decode cX10_negation 62 = .ok (.bipush 62, 2) := by decide +kernel
theorem dX10_negation_64 : decode cX10_negation 64 = .ok (.if_icmp .eq 23, 3) := by decide +kernel
theorem dX10_negation_67 : decode cX10_negation 67 = .ok (.aload_n 0, 1) := by decide +kernel
theorem dX10_negation_68 : decode cX10_negation 68 = .ok (.getfield 171, 3) := by decide +kernel
theorem dX10_negation_71 : decode cX10_negation 71 = .ok (.bipush 61, 2) := by decide +kernel
theorem dX10_negation_73 : decode cX10_negation 73 = .ok (.if_icmp .eq 14, 3) := by decide +kernel
theorem dX10_negation_76 : decode cX10_negation 76 = .ok (.aload_n 0, 1) := by decide +kernel
theorem dX10_negation_77 : decode cX10_negation 77 = .ok (.getfield 171, 3) := by decide +kernel
theorem dX10_negation_80 : decode cX10_negation 80 = .ok (.sipush 256, 3) := by decide +kernel
theorem dX10_negation_83 : decode cX10_negation 83 = .ok (.if_icmp .ge 4, 3) := by decide +kernel
theorem dX10_negation_86 : decode cX10_negation 86 = .ok (.return_, 1) := by decide +kernel
theorem dX10_negation_87 : decode cX10_negation 87 = .ok (.aload_n 0, 1) := by decide +kernel
theorem dX10_negation_88 : decode cX10_negation 88 = .ok (.getfield 171, 3) := by decide +kernel
theorem dX10_negation_91 : decode cX10_negation 91 = .ok (.istore_n 1, 1) := by decide +kernel
theorem dX10_negation_92 : decode cX10_negation 92 = .ok (.aload_n 0, 1) := by decide +kernel
theorem dX10_negation_93 : decode cX10_negation 93 = .ok (.invokevirtual 264, 3) := by decide +kernel
theorem dX10_negation_96 : decode cX10_negation 96 = .ok (.aload_n 0, 1) := by decide +kernel
theorem dX10_negation_97 : decode cX10_negation 97 = .ok (.invokevirtual 249, 3) := by decide +kernel
theorem dX10_negation_100 : decode cX10_negation 100 = .ok (.aload_n 0, 1) := by decide +kernel
theorem dX10_negation_101 : decode cX10_negation 101 = .ok (.invokevirtual 273, 3) := by decide +kernel
theorem dX10_negation_104 : decode cX10_negation 104 = .ok (.aload_n 0, 1) := by decide +kernel
theorem dX10_negation_105 : decode cX10_negation 105 = .ok (.iconst 2, 1) := by decide +kernel
theorem dX10_negation_106 : decode cX10_negation 106 = .ok (.iload_n 1, 1) := by decide +kernel
theorem dX10_negation_107 : decode cX10_negation 107 = .ok (.invokevirtual 267, 3) := by decide +kernel
theorem dX10_negation_110 : decode cX10_negation 110 = .ok (.return_, 1) := by decide +kernel
theorem dX10_sum_0 : decode cX10_sum 0 = .ok (.aload_n 0, 1) := by decide +kernel
theorem dX10_sum_1 : decode cX10_sum 1 = .ok (.invokevirtual 276, 3) := by decide +kernel
theorem dX10_sum_4 : decode cX10_sum 4 = .ok (.aload_n 0, 1) := by decide +kernel
theorem dX10_sum_5 : decode cX10_sum 5 = .ok (.bipush 43, 2) := by decide +kernel
theorem dX10_sum_7 : decode cX10_sum 7 = .ok (.invokevirtual 240, 3) := by decide +kernel
theorem dX10_sum_10 : decode cX10_sum 10 = .ok (.ifCond .ne 12, 3) := by decide +kernel
theorem dX10_sum_13 : decode cX10_sum 13 = .ok (.aload_n 0, 1) := by decide +kernel
theorem dX10_sum_14 : decode cX10_sum 14 = .ok (.bipush 45, 2) := by decide +kernel
theorem dX10_sum_16 : decode cX10_sum 16 = .ok (.invokevirtual 240, 3) := by decide +kernel
theorem dX10_sum_19 : decode cX10_sum 19 = .ok (.ifCond .eq 29, 3) := by decide +kernel
theorem dX10_sum_22 : decode cX10_sum 22 = .ok (.aload_n 0, 1) := by decide +kernel
theorem dX10_sum_23 : decode cX10_sum 23 = .ok (.getfield 171, 3) := by decide +kernel
theorem dX10_sum_26 : decode cX10_sum 26 = .ok (.istore_n 1, 1) := by decide +kernel
theorem dX10_sum_27 : decode cX10_sum 27 = .ok (.aload_n 0, 1) := by decide +kernel
theorem dX10_sum_28 : decode cX10_sum 28 = .ok (.invokevirtual 264, 3) := by decide +kernel
theorem dX10_sum_31 : decode cX10_sum 31 = .ok (.aload_n 0, 1) := by decide +kernel
theorem dX10_sum_32 : decode cX10_sum 32 = .ok (.invokevirtual 249, 3) := by decide +kernel
theorem dX10_sum_35 : decode cX10_sum 35 = .ok (.aload_n 0, 1) := by decide +kernel
theorem dX10_sum_36 : decode cX10_sum 36 = .ok (.invokevirtual 276, 3) := by decide +kernel
theorem dX10_sum_39 : decode cX10_sum 39 = .ok (.aload_n 0, 1) := by decide +kernel
theorem dX10_sum_40 : decode cX10_sum 40 = .ok (.iconst 2, 1) := by decide +kernel
theorem dX10_sum_41 : decode cX10_sum 41 = .ok (.iload_n 1, 1) := by decide +kernel
theorem dX10_sum_42 : decode cX10_sum 42 = .ok (.invokevirtual 267, 3) := by decide +kernel
theorem dX10_sum_45 : decode cX10_sum 45 = .ok (.goto (-41), 3) := by decide +kernel
theorem dX10_sum_48 : decode cX10_sum 48 = .ok (.return_, 1) := by decide +kernel
theorem dX10_product_0 : decode cX10_product 0 = .ok (.aload_n 0, 1) := by decide +kernel
theorem dX10_product_1 : decode cX10_product 1 = .ok (.invokevirtual 279, 3) := by decide +kernel
theorem dX10_product_4 : decode cX10_product 4 = .ok (.aload_n 0, 1) := by decide +kernel
theorem dX10_product_5 : decode cX10_product 5 = .ok (.bipush 42, 2) := by decide +kernel
theorem dX10_product_7 : decode cX10_product 7 = .ok (.invokevirtual 240, 3) := by decide +kernel
theorem dX10_product_10 : decode cX10_product 10 = .ok (.ifCond .ne 12, 3) := by decide +kernel
theorem dX10_product_13 : decode cX10_product 13 = .ok (.aload_n 0, 1) := by decide +kernel
theorem dX10_product_14 : decode cX10_product 14 = .ok (.bipush 47, 2) := by decide +kernel
theorem dX10_product_16 : decode cX10_product 16 = .ok (.invokevirtual 240, 3) := by decide +kernel
theorem dX10_product_19 : decode cX10_product 19 = .ok (.ifCond .eq 29, 3) := by decide +kernel
theorem dX10_product_22 : decode cX10_product 22 = .ok (.aload_n 0, 1) := by decide +kernel
theorem dX10_product_23 : decode cX10_product 23 = .ok (.getfield 171, 3) := by decide +kernel
theorem dX10_product_26 : decode cX10_product 26 = .ok (.istore_n 1, 1) := by decide +kernel
theorem dX10_product_27 : decode cX10_product 27 = .ok (.aload_n 0, 1) := by decide +kernel
theorem dX10_product_28 : decode cX10_product 28 = .ok (.invokevirtual 264, 3) := by decide +kernel
theorem dX10_product_31 : decode cX10_product 31 = .ok (.aload_n 0, 1) := by decide +kernel
theorem dX10_product_32 : decode cX10_product 32 = .ok (.invokevirtual 249, 3) := by decide +kernel
theorem dX10_product_35 : decode cX10_product 35 = .ok (.aload_n 0, 1) := by decide +kernel
theorem dX10_product_36 : decode cX10_product 36 = .ok (.invokevirtual 279, 3) := by decide +kernel
theorem dX10_product_39 : decode cX10_product 39 = .ok (.aload_n 0, 1) := by decide +kernel
theorem dX10_product_40 : decode cX10_product 40 = .ok (.iconst 2, 1) := by decide +kernel
theorem dX10_product_41 : decode cX10_product 41 = .ok (.iload_n 1, 1) := by decide +kernel
theorem dX10_product_42 : decode cX10_product 42 = .ok (.invokevirtual 267, 3) := by decide +kernel
theorem dX10_product_45 : decode cX10_product 45 = .ok (.goto (-41), 3) := by decide +kernel
theorem dX10_product_48 : decode cX10_product 48 = .ok (.return_, 1) := by decide +kernel
theorem dX10_primary_0 : decode cX10_primary 0 = .ok (.aload_n 0, 1) := by decide +kernel
theorem dX10_primary_1 : decode cX10_primary 1 = .ok (.getfield 196, 3) := by decide +kernel
theorem dX10_primary_4 : decode cX10_primary 4 = .ok (.ifCond .eq 4, 3) := by decide +kernel
theorem dX10_primary_7 : decode cX10_primary 7 = .ok (.return_, 1) := by decide +kernel
theorem dX10_primary_8 : decode cX10_primary 8 = .ok (.aload_n 0, 1) := by decide +kernel
theorem dX10_primary_9 : decode cX10_primary 9 = .ok (.bipush 40, 2) := by decide +kernel
theorem dX10_primary_11 : decode cX10_primary 11 = .ok (.invokevirtual 240, 3) := by decide +kernel
theorem dX10_primary_14 : decode cX10_primary 14 = .ok (.ifCond .eq 87, 3) := by decide +kernel
theorem dX10_primary_17 : decode cX10_primary 17 = .ok (.aload_n 0, 1) := by decide +kernel
theorem dX10_primary_18 : decode cX10_primary 18 = .ok (.getfield 282, 3) := by decide +kernel
theorem dX10_primary_21 : decode cX10_primary 21 = .ok (.bipush 8, 2) := by decide +kernel
theorem dX10_primary_23 : decode cX10_primary 23 = .ok (.if_icmp .ne 8, 3) := by decide +kernel
theorem dX10_primary_26 : decode cX10_primary 26 = .ok (.aload_n 0, 1) := by decide +kernel
theorem dX10_primary_27 : decode cX10_primary 27 = .ok (.iconst 2, 1) := by decide +kernel
theorem dX10_primary_28 : decode cX10_primary 28 = .ok (.invokevirtual 205, 3) := by decide +kernel
theorem dX10_primary_31 : decode cX10_primary 31 = .ok (.aload_n 0, 1) := by decide +kernel
theorem dX10_primary_32 : decode cX10_primary 32 = .ok (.getfield 196, 3) := by decide +kernel
theorem dX10_primary_35 : decode cX10_primary 35 = .ok (.ifCond .eq 4, 3) := by decide +kernel
theorem dX10_primary_38 : decode cX10_primary 38 = .ok (.return_, 1) := by decide +kernel
theorem dX10_primary_39 : decode cX10_primary 39 = .ok (.aload_n 0, 1) := by decide +kernel
theorem dX10_primary_40 : decode cX10_primary 40 = .ok (.dup, 1) := by decide +kernel
theorem dX10_primary_41 : decode cX10_primary 41 = .ok (.getfield 282, 3) := by decide +kernel
theorem dX10_primary_44 : decode cX10_primary 44 = .ok (.iconst 1, 1) := by decide +kernel
theorem dX10_primary_45 : decode cX10_primary 45 = .ok (.iadd, 1) := by decide +kernel
theorem dX10_primary_46 : decode cX10_primary 46 = .ok (.putfield 282, 3) := by decide +kernel
theorem dX10_primary_49 : decode cX10_primary 49 = .ok (.aload_n 0, 1) := by decide +kernel
theorem dX10_primary_50 : decode cX10_primary 50 = .ok (.invokevirtual 202, 3) := by decide +kernel
theorem dX10_primary_53 : decode cX10_primary 53 = .ok (.aload_n 0, 1) := by decide +kernel
theorem dX10_primary_54 : decode cX10_primary 54 = .ok (.invokevirtual 252, 3) := by decide +kernel
theorem dX10_primary_57 : decode cX10_primary 57 = .ok (.aload_n 0, 1) := by decide +kernel
theorem dX10_primary_58 : decode cX10_primary 58 = .ok (.getfield 196, 3) := by decide +kernel
theorem dX10_primary_61 : decode cX10_primary 61 = .ok (.ifCond .ne 17, 3) := by decide +kernel
theorem dX10_primary_64 : decode cX10_primary 64 = .ok (.aload_n 0, 1) := by decide +kernel
theorem dX10_primary_65 : decode cX10_primary 65 = .ok (.bipush 41, 2) := by decide +kernel
theorem dX10_primary_67 : decode cX10_primary 67 = .ok (.invokevirtual 240, 3) := by decide +kernel
theorem dX10_primary_70 : decode cX10_primary 70 = .ok (.ifCond .ne 8, 3) := by decide +kernel
theorem dX10_primary_73 : decode cX10_primary 73 = .ok (.aload_n 0, 1) := by decide +kernel
theorem dX10_primary_74 : decode cX10_primary 74 = .ok (.iconst 1, 1) := by decide +kernel
theorem dX10_primary_75 : decode cX10_primary 75 = .ok (.invokevirtual 205, 3) := by decide +kernel
theorem dX10_primary_78 : decode cX10_primary 78 = .ok (.aload_n 0, 1) := by decide +kernel
theorem dX10_primary_79 : decode cX10_primary 79 = .ok (.getfield 196, 3) := by decide +kernel
theorem dX10_primary_82 : decode cX10_primary 82 = .ok (.ifCond .eq 4, 3) := by decide +kernel
theorem dX10_primary_85 : decode cX10_primary 85 = .ok (.return_, 1) := by decide +kernel
theorem dX10_primary_86 : decode cX10_primary 86 = .ok (.aload_n 0, 1) := by decide +kernel
theorem dX10_primary_87 : decode cX10_primary 87 = .ok (.dup, 1) := by decide +kernel
theorem dX10_primary_88 : decode cX10_primary 88 = .ok (.getfield 282, 3) := by decide +kernel
theorem dX10_primary_91 : decode cX10_primary 91 = .ok (.iconst 1, 1) := by decide +kernel
theorem dX10_primary_92 : decode cX10_primary 92 = .ok (.isub, 1) := by decide +kernel
theorem dX10_primary_93 : decode cX10_primary 93 = .ok (.putfield 282, 3) := by decide +kernel
theorem dX10_primary_96 : decode cX10_primary 96 = .ok (.aload_n 0, 1) := by decide +kernel
theorem dX10_primary_97 : decode cX10_primary 97 = .ok (.invokevirtual 202, 3) := by decide +kernel
theorem dX10_primary_100 : decode cX10_primary 100 = .ok (.return_, 1) := by decide +kernel
theorem dX10_primary_101 : decode cX10_primary 101 = .ok (.aload_n 0, 1) := by decide +kernel
theorem dX10_primary_102 : decode cX10_primary 102 = .ok (.getfield 161, 3) := by decide +kernel
theorem dX10_primary_105 : decode cX10_primary 105 = .ok (.iconst 2, 1) := by decide +kernel
theorem dX10_primary_106 : decode cX10_primary 106 = .ok (.if_icmp .ne 7, 3) := by decide +kernel
theorem dX10_primary_109 : decode cX10_primary 109 = .ok (.iconst 1, 1) := by decide +kernel
theorem dX10_primary_110 : decode cX10_primary 110 = .ok (.goto 4, 3) := by decide +kernel
theorem dX10_primary_113 : decode cX10_primary 113 = .ok (.iconst 0, 1) := by decide +kernel
theorem dX10_primary_114 : decode cX10_primary 114 = .ok (.istore_n 1, 1) := by decide +kernel
theorem dX10_primary_115 : decode cX10_primary 115 = .ok (.iload_n 1, 1) := by decide +kernel
theorem dX10_primary_116 : decode cX10_primary 116 = .ok (.ifCond .eq 21, 3) := by decide +kernel
theorem dX10_primary_119 : decode cX10_primary 119 = .ok (.aload_n 0, 1) := by decide +kernel
theorem dX10_primary_120 : decode cX10_primary 120 = .ok (.getfield 171, 3) := by decide +kernel
theorem dX10_primary_123 : decode cX10_primary 123 = .ok (.sipush 9999, 3) := by decide +kernel
theorem dX10_primary_126 : decode cX10_primary 126 = .ok (.if_icmp .le 11, 3) := by decide +kernel
theorem dX10_primary_129 : decode cX10_primary 129 = .ok (.aload_n 0, 1) := by decide +kernel
theorem dX10_primary_130 : decode cX10_primary 130 = .ok (.iconst 2, 1) := by decide +kernel
theorem dX10_primary_131 : decode cX10_primary 131 = .ok (.invokevirtual 205, 3) := by decide +kernel
theorem dX10_primary_134 : decode cX10_primary 134 = .ok (.goto 28, 3) := by decide +kernel
theorem dX10_primary_137 : decode cX10_primary 137 = .ok (.iload_n 1, 1) := by decide +kernel
theorem dX10_primary_138 : decode cX10_primary 138 = .ok (.ifCond .ne 24, 3) := by decide +kernel
theorem dX10_primary_141 : decode cX10_primary 141 = .ok (.aload_n 0, 1) := by decide +kernel
theorem dX10_primary_142 : decode cX10_primary 142 = .ok (.getfield 161, 3) := by decide +kernel
theorem dX10_primary_145 : decode cX10_primary 145 = .ok (.ifCond .ne 12, 3) := by decide +kernel
theorem dX10_primary_148 : decode cX10_primary 148 = .ok (.aload_n 0, 1) := by decide +kernel
theorem dX10_primary_149 : decode cX10_primary 149 = .ok (.getfield 171, 3) := by decide +kernel
theorem dX10_primary_152 : decode cX10_primary 152 = .ok (.bipush 13, 2) := by decide +kernel
theorem dX10_primary_154 : decode cX10_primary 154 = .ok (.if_icmp .ge 8, 3) := by decide +kernel
theorem dX10_primary_157 : decode cX10_primary 157 = .ok (.aload_n 0, 1) := by decide +kernel
theorem dX10_primary_158 : decode cX10_primary 158 = .ok (.iconst 1, 1) := by decide +kernel
theorem dX10_primary_159 : decode cX10_primary 159 = .ok (.invokevirtual 205, 3) := by decide +kernel
theorem dX10_primary_162 : decode cX10_primary 162 = .ok (.aload_n 0, 1) := by decide +kernel
theorem dX10_primary_163 : decode cX10_primary 163 = .ok (.invokevirtual 264, 3) := by decide +kernel
theorem dX10_primary_166 : decode cX10_primary 166 = .ok (.aload_n 0, 1) := by decide +kernel
theorem dX10_primary_167 : decode cX10_primary 167 = .ok (.iload_n 1, 1) := by decide +kernel
theorem dX10_primary_168 : decode cX10_primary 168 = .ok (.ifCond .eq 7, 3) := by decide +kernel
theorem dX10_primary_171 : decode cX10_primary 171 = .ok (.iconst 0, 1) := by decide +kernel
theorem dX10_primary_172 : decode cX10_primary 172 = .ok (.goto 4, 3) := by decide +kernel
theorem dX10_primary_175 : decode cX10_primary 175 = .ok (.iconst 1, 1) := by decide +kernel
theorem dX10_primary_176 : decode cX10_primary 176 = .ok (.iload_n 1, 1) := by decide +kernel
theorem dX10_primary_177 : decode cX10_primary 177 = .ok (.ifCond .eq 10, 3) := by decide +kernel
theorem dX10_primary_180 : decode cX10_primary 180 = .ok (.aload_n 0, 1) := by decide +kernel
theorem dX10_primary_181 : decode cX10_primary 181 = .ok (.getfield 171, 3) := by decide +kernel
theorem dX10_primary_184 : decode cX10_primary 184 = .ok (.goto 10, 3) := by decide +kernel
theorem dX10_primary_187 : decode cX10_primary 187 = .ok (.aload_n 0, 1) := by decide +kernel
theorem dX10_primary_188 : decode cX10_primary 188 = .ok (.getfield 171, 3) := by decide +kernel
theorem dX10_primary_191 : decode cX10_primary 191 = .ok (.bipush 13, 2) := by decide +kernel
theorem dX10_primary_193 : decode cX10_primary 193 = .ok (.isub, 1) := by decide +kernel
theorem dX10_primary_194 : decode cX10_primary 194 = .ok (.invokevirtual 267, 3) := by decide +kernel
theorem dX10_primary_197 : decode cX10_primary 197 = .ok (.aload_n 0, 1) := by decide +kernel
theorem dX10_primary_198 : decode cX10_primary 198 = .ok (.invokevirtual 249, 3) := by decide +kernel
theorem dX10_primary_201 : decode cX10_primary 201 = .ok (.return_, 1) := by decide +kernel
theorem dX10_half_0 : decode cX10_half 0 = .ok (.aload_n 0, 1) := by decide +kernel
theorem dX10_half_1 : decode cX10_half 1 = .ok (.arraylength, 1) := by decide +kernel
theorem dX10_half_2 : decode cX10_half 2 = .ok (.iconst 2, 1) := by decide +kernel
theorem dX10_half_3 : decode cX10_half 3 = .ok (.idiv, 1) := by decide +kernel
theorem dX10_half_4 : decode cX10_half 4 = .ok (.istore_n 1, 1) := by decide +kernel
theorem dX10_half_5 : decode cX10_half 5 = .ok (.iconst 0, 1) := by decide +kernel
theorem dX10_half_6 : decode cX10_half 6 = .ok (.istore_n 2, 1) := by decide +kernel
theorem dX10_half_7 : decode cX10_half 7 = .ok (.iload_n 2, 1) := by decide +kernel
theorem dX10_half_8 : decode cX10_half 8 = .ok (.iload_n 1, 1) := by decide +kernel
theorem dX10_half_9 : decode cX10_half 9 = .ok (.if_icmp .ge 17, 3) := by decide +kernel
theorem dX10_half_12 : decode cX10_half 12 = .ok (.aload_n 0, 1) := by decide +kernel
theorem dX10_half_13 : decode cX10_half 13 = .ok (.iload_n 2, 1) := by decide +kernel
theorem dX10_half_14 : decode cX10_half 14 = .ok (.aload_n 0, 1) := by decide +kernel
theorem dX10_half_15 : decode cX10_half 15 = .ok (.iload_n 1, 1) := by decide +kernel
theorem dX10_half_16 : decode cX10_half 16 = .ok (.iload_n 2, 1) := by decide +kernel
theorem dX10_half_17 : decode cX10_half 17 = .ok (.iadd, 1) := by decide +kernel
theorem dX10_half_18 : decode cX10_half 18 = .ok (.iaload, 1) := by decide +kernel
theorem dX10_half_19 : decode cX10_half 19 = .ok (.iastore, 1) := by decide +kernel
theorem dX10_half_20 : decode cX10_half 20 = .ok (.iinc 2 1, 3) := by decide +kernel
theorem dX10_half_23 : decode cX10_half 23 = .ok (.goto (-16), 3) := by decide +kernel
theorem dX10_half_26 : decode cX10_half 26 = .ok (.return_, 1) := by decide +kernel
theorem dX10_text_0 : decode cX10_text 0 = .ok (.aload_n 0, 1) := by decide +kernel
theorem dX10_text_1 : decode cX10_text 1 = .ok (.iconst 0, 1) := by decide +kernel
theorem dX10_text_2 : decode cX10_text 2 = .ok (.putfield 142, 3) := by decide +kernel
theorem dX10_text_5 : decode cX10_text 5 = .ok (.iload_n 1, 1) := by decide +kernel
theorem dX10_text_6 : decode cX10_text 6 = .ok (.ifCond .lt 11, 3) := by decide +kernel
theorem dX10_text_9 : decode cX10_text 9 = .ok (.iload_n 1, 1) := by decide +kernel
theorem dX10_text_10 : decode cX10_text 10 = .ok (.aload_n 0, 1) := by decide +kernel
theorem dX10_text_11 : decode cX10_text 11 = .ok (.getfield 145, 3) := by decide +kernel
theorem dX10_text_14 : decode cX10_text 14 = .ok (.if_icmp .le 6, 3) := by decide +kernel
theorem dX10_text_17 : decode cX10_text 17 = .ok (.bipush (-2), 2) := by decide +kernel
theorem dX10_text_19 : decode cX10_text 19 = .ok (.ireturn, 1) := by decide +kernel
theorem dX10_text_20 : decode cX10_text 20 = .ok (.aload_n 0, 1) := by decide +kernel
theorem dX10_text_21 : decode cX10_text 21 = .ok (.iload_n 1, 1) := by decide +kernel
theorem dX10_text_22 : decode cX10_text 22 = .ok (.putfield 151, 3) := by decide +kernel
theorem dX10_text_25 : decode cX10_text 25 = .ok (.aload_n 0, 1) := by decide +kernel
theorem dX10_text_26 : decode cX10_text 26 = .ok (.iconst 0, 1) := by decide +kernel
theorem dX10_text_27 : decode cX10_text 27 = .ok (.putfield 145, 3) := by decide +kernel
theorem dX10_text_30 : decode cX10_text 30 = .ok (.aload_n 0, 1) := by decide +kernel
theorem dX10_text_31 : decode cX10_text 31 = .ok (.iconst 0, 1) := by decide +kernel
theorem dX10_text_32 : decode cX10_text 32 = .ok (.putfield 148, 3) := by decide +kernel
theorem dX10_text_35 : decode cX10_text 35 = .ok (.aload_n 0, 1) := by decide +kernel
theorem dX10_text_36 : decode cX10_text 36 = .ok (.iconst 0, 1) := by decide +kernel
theorem dX10_text_37 : decode cX10_text 37 = .ok (.putfield 196, 3) := by decide +kernel
theorem dX10_text_40 : decode cX10_text 40 = .ok (.aload_n 0, 1) := by decide +kernel
theorem dX10_text_41 : decode cX10_text 41 = .ok (.iconst (-1), 1) := by decide +kernel
theorem dX10_text_42 : decode cX10_text 42 = .ok (.putfield 199, 3) := by decide +kernel
theorem dX10_text_45 : decode cX10_text 45 = .ok (.iconst 0, 1) := by decide +kernel
theorem dX10_text_46 : decode cX10_text 46 = .ok (.istore_n 2, 1) := by decide +kernel
theorem dX10_text_47 : decode cX10_text 47 = .ok (.iload_n 2, 1) := by decide +kernel
theorem dX10_text_48 : decode cX10_text 48 = .ok (.bipush 7, 2) := by decide +kernel
theorem dX10_text_50 : decode cX10_text 50 = .ok (.if_icmp .ge 24, 3) := by decide +kernel
theorem dX10_text_53 : decode cX10_text 53 = .ok (.aload_n 0, 1) := by decide +kernel
theorem dX10_text_54 : decode cX10_text 54 = .ok (.iload_n 2, 1) := by decide +kernel
theorem dX10_text_55 : decode cX10_text 55 = .ok (.iload_n 2, 1) := by decide +kernel
theorem dX10_text_56 : decode cX10_text 56 = .ok (.iconst 3, 1) := by decide +kernel
theorem dX10_text_57 : decode cX10_text 57 = .ok (.if_icmp .ne 7, 3) := by decide +kernel
theorem dX10_text_60 : decode cX10_text 60 = .ok (.iconst 2, 1) := by decide +kernel
theorem dX10_text_61 : decode cX10_text 61 = .ok (.goto 4, 3) := by decide +kernel
theorem dX10_text_64 : decode cX10_text 64 = .ok (.iconst 0, 1) := by decide +kernel
theorem dX10_text_65 : decode cX10_text 65 = .ok (.invokevirtual 230, 3) := by decide +kernel
theorem dX10_text_68 : decode cX10_text 68 = .ok (.iinc 2 1, 3) := by decide +kernel
theorem dX10_text_71 : decode cX10_text 71 = .ok (.goto (-24), 3) := by decide +kernel
theorem dX10_text_74 : decode cX10_text 74 = .ok (.iconst 3, 1) := by decide +kernel
theorem dX10_text_75 : decode cX10_text 75 = .ok (.istore_n 2, 1) := by decide +kernel
theorem dX10_text_76 : decode cX10_text 76 = .ok (.iload_n 2, 1) := by decide +kernel
theorem dX10_text_77 : decode cX10_text 77 = .ok (.bipush 6, 2) := by decide +kernel
theorem dX10_text_79 : decode cX10_text 79 = .ok (.if_icmp .ge 23, 3) := by decide +kernel
theorem dX10_text_82 : decode cX10_text 82 = .ok (.aload_n 0, 1) := by decide +kernel
theorem dX10_text_83 : decode cX10_text 83 = .ok (.getfield 49, 3) := by decide +kernel
theorem dX10_text_86 : decode cX10_text 86 = .ok (.iload_n 2, 1) := by decide +kernel
theorem dX10_text_87 : decode cX10_text 87 = .ok (.iconst 0, 1) := by decide +kernel
theorem dX10_text_88 : decode cX10_text 88 = .ok (.iastore, 1) := by decide +kernel
theorem dX10_text_89 : decode cX10_text 89 = .ok (.aload_n 0, 1) := by decide +kernel
theorem dX10_text_90 : decode cX10_text 90 = .ok (.getfield 52, 3) := by decide +kernel
theorem dX10_text_93 : decode cX10_text 93 = .ok (.iload_n 2, 1) := by decide +kernel
theorem dX10_text_94 : decode cX10_text 94 = .ok (.iconst 0, 1) := by decide +kernel
theorem dX10_text_95 : decode cX10_text 95 = .ok (.iastore, 1) := by decide +kernel
theorem dX10_text_96 : decode cX10_text 96 = .ok (.iinc 2 1, 3) := by decide +kernel
theorem dX10_text_99 : decode cX10_text 99 = .ok (.goto (-23), 3) := by decide +kernel
theorem dX10_text_102 : decode cX10_text 102 = .ok (.aload_n 0, 1) := by decide +kernel
theorem dX10_text_103 : decode cX10_text 103 = .ok (.iconst 0, 1) := by decide +kernel
theorem dX10_text_104 : decode cX10_text 104 = .ok (.putfield 219, 3) := by decide +kernel
theorem dX10_text_107 : decode cX10_text 107 = .ok (.aload_n 0, 1) := by decide +kernel
theorem dX10_text_108 : decode cX10_text 108 = .ok (.iconst 0, 1) := by decide +kernel
theorem dX10_text_109 : decode cX10_text 109 = .ok (.putfield 243, 3) := by decide +kernel
theorem dX10_text_112 : decode cX10_text 112 = .ok (.aload_n 0, 1) := by decide +kernel
theorem dX10_text_113 : decode cX10_text 113 = .ok (.iconst 0, 1) := by decide +kernel
theorem dX10_text_114 : decode cX10_text 114 = .ok (.putfield 282, 3) := by decide +kernel
theorem dX10_text_117 : decode cX10_text 117 = .ok (.aload_n 0, 1) := by decide +kernel
theorem dX10_text_118 : decode cX10_text 118 = .ok (.iconst 0, 1) := by decide +kernel
theorem dX10_text_119 : decode cX10_text 119 = .ok (.putfield 255, 3) := by decide +kernel
theorem dX10_text_122 : decode cX10_text 122 = .ok (.aload_n 0, 1) := by decide +kernel
theorem dX10_text_123 : decode cX10_text 123 = .ok (.invokevirtual 202, 3) := by decide +kernel
theorem dX10_text_126 : decode cX10_text 126 = .ok (.aload_n 0, 1) := by decide +kernel
theorem dX10_text_127 : decode cX10_text 127 = .ok (.getfield 196, 3) := by decide +kernel
theorem dX10_text_130 : decode cX10_text 130 = .ok (.ifCond .ne 18, 3) := by decide +kernel
theorem dX10_text_133 : decode cX10_text 133 = .ok (.aload_n 0, 1) := by decide +kernel
theorem dX10_text_134 : decode cX10_text 134 = .ok (.getfield 161, 3) := by decide +kernel
theorem dX10_text_137 : decode cX10_text 137 = .ok (.iconst 4, 1) := by decide +kernel
theorem dX10_text_138 : decode cX10_text 138 = .ok (.if_icmp .eq 10, 3) := by decide +kernel
theorem dX10_text_141 : decode cX10_text 141 = .ok (.aload_n 0, 1) := by decide +kernel
theorem dX10_text_142 : decode cX10_text 142 = .ok (.invokevirtual 285, 3) := by decide +kernel
theorem dX10_text_145 : decode cX10_text 145 = .ok (.goto (-19), 3) := by decide +kernel
theorem dX10_text_148 : decode cX10_text 148 = .ok (.aload_n 0, 1) := by decide +kernel
theorem dX10_text_149 : decode cX10_text 149 = .ok (.aload_n 0, 1) := by decide +kernel
theorem dX10_text_150 : decode cX10_text 150 = .ok (.getfield 196, 3) := by decide +kernel
theorem dX10_text_153 : decode cX10_text 153 = .ok (.putfield 288, 3) := by decide +kernel
theorem dX10_text_156 : decode cX10_text 156 = .ok (.aload_n 0, 1) := by decide +kernel
theorem dX10_text_157 : decode cX10_text 157 = .ok (.aload_n 0, 1) := by decide +kernel
theorem dX10_text_158 : decode cX10_text 158 = .ok (.getfield 199, 3) := by decide +kernel
theorem dX10_text_161 : decode cX10_text 161 = .ok (.putfield 61, 3) := by decide +kernel
theorem dX10_text_164 : decode cX10_text 164 = .ok (.aload_n 0, 1) := by decide +kernel
theorem dX10_text_165 : decode cX10_text 165 = .ok (.getfield 196, 3) := by decide +kernel
theorem dX10_text_168 : decode cX10_text 168 = .ok (.ifCond .eq 5, 3) := by decide +kernel
theorem dX10_text_171 : decode cX10_text 171 = .ok (.iconst (-1), 1) := by decide +kernel
theorem dX10_text_172 : decode cX10_text 172 = .ok (.ireturn, 1) := by decide +kernel
theorem dX10_text_173 : decode cX10_text 173 = .ok (.aload_n 0, 1) := by decide +kernel
theorem dX10_text_174 : decode cX10_text 174 = .ok (.getfield 13, 3) := by decide +kernel
theorem dX10_text_177 : decode cX10_text 177 = .ok (.invokestatic 291, 3) := by decide +kernel
theorem dX10_text_180 : decode cX10_text 180 = .ok (.aload_n 0, 1) := by decide +kernel
theorem dX10_text_181 : decode cX10_text 181 = .ok (.getfield 16, 3) := by decide +kernel
theorem dX10_text_184 : decode cX10_text 184 = .ok (.invokestatic 291, 3) := by decide +kernel
theorem dX10_text_187 : decode cX10_text 187 = .ok (.aload_n 0, 1) := by decide +kernel
theorem dX10_text_188 : decode cX10_text 188 = .ok (.getfield 19, 3) := by decide +kernel
theorem dX10_text_191 : decode cX10_text 191 = .ok (.invokestatic 291, 3) := by decide +kernel
theorem dX10_text_194 : decode cX10_text 194 = .ok (.aload_n 0, 1) := by decide +kernel
theorem dX10_text_195 : decode cX10_text 195 = .ok (.getfield 22, 3) := by decide +kernel
theorem dX10_text_198 : decode cX10_text 198 = .ok (.invokestatic 291, 3) := by decide +kernel
theorem dX10_text_201 : decode cX10_text 201 = .ok (.aload_n 0, 1) := by decide +kernel
theorem dX10_text_202 : decode cX10_text 202 = .ok (.getfield 25, 3) := by decide +kernel
theorem dX10_text_205 : decode cX10_text 205 = .ok (.invokestatic 291, 3) := by decide +kernel
theorem dX10_text_208 : decode cX10_text 208 = .ok (.aload_n 0, 1) := by decide +kernel
theorem dX10_text_209 : decode cX10_text 209 = .ok (.getfield 28, 3) := by decide +kernel
theorem dX10_text_212 : decode cX10_text 212 = .ok (.invokestatic 291, 3) := by decide +kernel
theorem dX10_text_215 : decode cX10_text 215 = .ok (.aload_n 0, 1) := by decide +kernel
theorem dX10_text_216 : decode cX10_text 216 = .ok (.getfield 31, 3) := by decide +kernel
theorem dX10_text_219 : decode cX10_text 219 = .ok (.invokestatic 291, 3) := by decide +kernel
theorem dX10_text_222 : decode cX10_text 222 = .ok (.aload_n 0, 1) := by decide +kernel
theorem dX10_text_223 : decode cX10_text 223 = .ok (.getfield 34, 3) := by decide +kernel
theorem dX10_text_226 : decode cX10_text 226 = .ok (.invokestatic 291, 3) := by decide +kernel
theorem dX10_text_229 : decode cX10_text 229 = .ok (.aload_n 0, 1) := by decide +kernel
theorem dX10_text_230 : decode cX10_text 230 = .ok (.getfield 37, 3) := by decide +kernel
theorem dX10_text_233 : decode cX10_text 233 = .ok (.invokestatic 291, 3) := by decide +kernel
theorem dX10_text_236 : decode cX10_text 236 = .ok (.aload_n 0, 1) := by decide +kernel
theorem dX10_text_237 : decode cX10_text 237 = .ok (.getfield 40, 3) := by decide +kernel
theorem dX10_text_240 : decode cX10_text 240 = .ok (.invokestatic 291, 3) := by decide +kernel
theorem dX10_text_243 : decode cX10_text 243 = .ok (.aload_n 0, 1) := by decide +kernel
theorem dX10_text_244 : decode cX10_text 244 = .ok (.getfield 43, 3) := by decide +kernel
theorem dX10_text_247 : decode cX10_text 247 = .ok (.invokestatic 291, 3) := by decide +kernel
theorem dX10_text_250 : decode cX10_text 250 = .ok (.aload_n 0, 1) := by decide +kernel
theorem dX10_text_251 : decode cX10_text 251 = .ok (.getfield 46, 3) := by decide +kernel
theorem dX10_text_254 : decode cX10_text 254 = .ok (.invokestatic 291, 3) := by decide +kernel
theorem dX10_text_257 : decode cX10_text 257 = .ok (.aload_n 0, 1) := by decide +kernel
theorem dX10_text_258 : decode cX10_text 258 = .ok (.getfield 49, 3) := by decide +kernel
theorem dX10_text_261 : decode cX10_text 261 = .ok (.invokestatic 291, 3) := by decide +kernel
theorem dX10_text_264 : decode cX10_text 264 = .ok (.aload_n 0, 1) := by decide +kernel
theorem dX10_text_265 : decode cX10_text 265 = .ok (.getfield 52, 3) := by decide +kernel
theorem dX10_text_268 : decode cX10_text 268 = .ok (.invokestatic 291, 3) := by decide +kernel
theorem dX10_text_271 : decode cX10_text 271 = .ok (.aload_n 0, 1) := by decide +kernel
theorem dX10_text_272 : decode cX10_text 272 = .ok (.getfield 55, 3) := by decide +kernel
theorem dX10_text_275 : decode cX10_text 275 = .ok (.invokestatic 291, 3) := by decide +kernel
theorem dX10_text_278 : decode cX10_text 278 = .ok (.aload_n 0, 1) := by decide +kernel
theorem dX10_text_279 : decode cX10_text 279 = .ok (.getfield 58, 3) := by decide +kernel
theorem dX10_text_282 : decode cX10_text 282 = .ok (.invokestatic 291, 3) := by decide +kernel
theorem dX10_text_285 : decode cX10_text 285 = .ok (.aload_n 0, 1) := by decide +kernel
theorem dX10_text_286 : decode cX10_text 286 = .ok (.iconst 0, 1) := by decide +kernel
theorem dX10_text_287 : decode cX10_text 287 = .ok (.putfield 295, 3) := by decide +kernel
theorem dX10_text_290 : decode cX10_text 290 = .ok (.aload_n 0, 1) := by decide +kernel
theorem dX10_text_291 : decode cX10_text 291 = .ok (.iconst (-1), 1) := by decide +kernel
theorem dX10_text_292 : decode cX10_text 292 = .ok (.putfield 120, 3) := by decide +kernel
theorem dX10_text_295 : decode cX10_text 295 = .ok (.aload_n 0, 1) := by decide +kernel
theorem dX10_text_296 : decode cX10_text 296 = .ok (.iconst 0, 1) := by decide +kernel
theorem dX10_text_297 : decode cX10_text 297 = .ok (.putfield 298, 3) := by decide +kernel
theorem dX10_text_300 : decode cX10_text 300 = .ok (.aload_n 0, 1) := by decide +kernel
theorem dX10_text_301 : decode cX10_text 301 = .ok (.iconst 0, 1) := by decide +kernel
theorem dX10_text_302 : decode cX10_text 302 = .ok (.putfield 302, 3) := by decide +kernel
theorem dX10_text_305 : decode cX10_text 305 = .ok (.aload_n 0, 1) := by decide +kernel
theorem dX10_text_306 : decode cX10_text 306 = .ok (.invokevirtual 139, 3) := by decide +kernel
theorem dX10_text_309 : decode cX10_text 309 = .ok (.aload_n 0, 1) := by decide +kernel
theorem dX10_text_310 : decode cX10_text 310 = .ok (.getfield 243, 3) := by decide +kernel
theorem dX10_text_313 : decode cX10_text 313 = .ok (.ireturn, 1) := by decide +kernel
theorem dX10_fault_0 : decode cX10_fault 0 = .ok (.aload_n 0, 1) := by decide +kernel
theorem dX10_fault_1 : decode cX10_fault 1 = .ok (.iconst 0, 1) := by decide +kernel
theorem dX10_fault_2 : decode cX10_fault 2 = .ok (.putfield 142, 3) := by decide +kernel
theorem dX10_fault_5 : decode cX10_fault 5 = .ok (.iload_n 1, 1) := by decide +kernel
theorem dX10_fault_6 : decode cX10_fault 6 = .ok (.ifCond .ne 10, 3) := by decide +kernel
theorem dX10_fault_9 : decode cX10_fault 9 = .ok (.aload_n 0, 1) := by decide +kernel
theorem dX10_fault_10 : decode cX10_fault 10 = .ok (.getfield 288, 3) := by decide +kernel
theorem dX10_fault_13 : decode cX10_fault 13 = .ok (.goto 16, 3) := by decide +kernel
theorem dX10_fault_16 : decode cX10_fault 16 = .ok (.iload_n 1, 1) := by decide +kernel
theorem dX10_fault_17 : decode cX10_fault 17 = .ok (.iconst 1, 1) := by decide +kernel
theorem dX10_fault_18 : decode cX10_fault 18 = .ok (.if_icmp .ne 10, 3) := by decide +kernel
theorem dX10_fault_21 : decode cX10_fault 21 = .ok (.aload_n 0, 1) := by decide +kernel
theorem dX10_fault_22 : decode cX10_fault 22 = .ok (.getfield 61, 3) := by decide +kernel
theorem dX10_fault_25 : decode cX10_fault 25 = .ok (.goto 4, 3) := by decide +kernel
theorem dX10_fault_28 : decode cX10_fault 28 = .ok (.iconst (-1), 1) := by decide +kernel
theorem dX10_fault_29 : decode cX10_fault 29 = .ok (.ireturn, 1) := by decide +kernel
theorem dX10_named_0 : decode cX10_named 0 = .ok (.aload_n 0, 1) := by decide +kernel
theorem dX10_named_1 : decode cX10_named 1 = .ok (.iconst 0, 1) := by decide +kernel
theorem dX10_named_2 : decode cX10_named 2 = .ok (.putfield 142, 3) := by decide +kernel
theorem dX10_named_5 : decode cX10_named 5 = .ok (.iload_n 1, 1) := by decide +kernel
theorem dX10_named_6 : decode cX10_named 6 = .ok (.lookupswitch 58 #[(0, 26), (1, 42)], 26) := by decide +kernel
theorem dX10_named_32 : decode cX10_named 32 = .ok (.aload_n 0, 1) := by decide +kernel
theorem dX10_named_33 : decode cX10_named 33 = .ok (.getfield 16, 3) := by decide +kernel
theorem dX10_named_36 : decode cX10_named 36 = .ok (.iconst 0, 1) := by decide +kernel
theorem dX10_named_37 : decode cX10_named 37 = .ok (.aload_n 0, 1) := by decide +kernel
theorem dX10_named_38 : decode cX10_named 38 = .ok (.getfield 13, 3) := by decide +kernel
theorem dX10_named_41 : decode cX10_named 41 = .ok (.iconst 0, 1) := by decide +kernel
theorem dX10_named_42 : decode cX10_named 42 = .ok (.iaload, 1) := by decide +kernel
theorem dX10_named_43 : decode cX10_named 43 = .ok (.iload_n 2, 1) := by decide +kernel
theorem dX10_named_44 : decode cX10_named 44 = .ok (.invokestatic 208, 3) := by decide +kernel
theorem dX10_named_47 : decode cX10_named 47 = .ok (.ireturn, 1) := by decide +kernel
theorem dX10_named_48 : decode cX10_named 48 = .ok (.aload_n 0, 1) := by decide +kernel
theorem dX10_named_49 : decode cX10_named 49 = .ok (.getfield 28, 3) := by decide +kernel
theorem dX10_named_52 : decode cX10_named 52 = .ok (.iconst 0, 1) := by decide +kernel
theorem dX10_named_53 : decode cX10_named 53 = .ok (.aload_n 0, 1) := by decide +kernel
theorem dX10_named_54 : decode cX10_named 54 = .ok (.getfield 13, 3) := by decide +kernel
theorem dX10_named_57 : decode cX10_named 57 = .ok (.iconst 1, 1) := by decide +kernel
theorem dX10_named_58 : decode cX10_named 58 = .ok (.iaload, 1) := by decide +kernel
theorem dX10_named_59 : decode cX10_named 59 = .ok (.iload_n 2, 1) := by decide +kernel
theorem dX10_named_60 : decode cX10_named 60 = .ok (.invokestatic 208, 3) := by decide +kernel
theorem dX10_named_63 : decode cX10_named 63 = .ok (.ireturn, 1) := by decide +kernel
theorem dX10_named_64 : decode cX10_named 64 = .ok (.iconst (-1), 1) := by decide +kernel
theorem dX10_named_65 : decode cX10_named 65 = .ok (.ireturn, 1) := by decide +kernel
theorem dX10_is_0 : decode cX10_is 0 = .ok (.iload_n 0, 1) := by decide +kernel
theorem dX10_is_1 : decode cX10_is 1 = .ok (.ifCond .eq 7, 3) := by decide +kernel
theorem dX10_is_4 : decode cX10_is 4 = .ok (.lconst 1, 1) := by decide +kernel
theorem dX10_is_5 : decode cX10_is 5 = .ok (.goto 4, 3) := by decide +kernel
theorem dX10_is_8 : decode cX10_is 8 = .ok (.lconst 0, 1) := by decide +kernel
theorem dX10_is_9 : decode cX10_is 9 = .ok (.lreturn, 1) := by decide +kernel
theorem dX10_works_0 : decode cX10_works 0 = .ok (.aload_n 0, 1) := by decide +kernel
theorem dX10_works_1 : decode cX10_works 1 = .ok (.getfield 69, 3) := by decide +kernel
theorem dX10_works_4 : decode cX10_works 4 = .ok (.aload_n 0, 1) := by decide +kernel
theorem dX10_works_5 : decode cX10_works 5 = .ok (.getfield 305, 3) := by decide +kernel
theorem dX10_works_8 : decode cX10_works 8 = .ok (.iconst 1, 1) := by decide +kernel
theorem dX10_works_9 : decode cX10_works 9 = .ok (.isub, 1) := by decide +kernel
theorem dX10_works_10 : decode cX10_works 10 = .ok (.laload, 1) := by decide +kernel
theorem dX10_works_11 : decode cX10_works 11 = .ok (.lstore_n 2, 1) := by decide +kernel
theorem dX10_works_12 : decode cX10_works 12 = .ok (.iload_n 1, 1) := by decide +kernel
theorem dX10_works_13 : decode cX10_works 13 = .ok (.sipush 260, 3) := by decide +kernel
theorem dX10_works_16 : decode cX10_works 16 = .ok (.if_icmp .ne 30, 3) := by decide +kernel
theorem dX10_works_19 : decode cX10_works 19 = .ok (.aload_n 0, 1) := by decide +kernel
theorem dX10_works_20 : decode cX10_works 20 = .ok (.getfield 69, 3) := by decide +kernel
theorem dX10_works_23 : decode cX10_works 23 = .ok (.aload_n 0, 1) := by decide +kernel
theorem dX10_works_24 : decode cX10_works 24 = .ok (.getfield 305, 3) := by decide +kernel
theorem dX10_works_27 : decode cX10_works 27 = .ok (.iconst 1, 1) := by decide +kernel
theorem dX10_works_28 : decode cX10_works 28 = .ok (.isub, 1) := by decide +kernel
theorem dX10_works_29 : decode cX10_works 29 = .ok (.lload_n 2, 1) := by decide +kernel
theorem dX10_works_30 : decode cX10_works 30 = .ok (.lconst 0, 1) := by decide +kernel
theorem dX10_works_31 : decode cX10_works 31 = .ok (.lcmp, 1) := by decide +kernel
theorem dX10_works_32 : decode cX10_works 32 = .ok (.ifCond .ne 7, 3) := by decide +kernel
theorem dX10_works_35 : decode cX10_works 35 = .ok (.iconst 1, 1) := by decide +kernel
theorem dX10_works_36 : decode cX10_works 36 = .ok (.goto 4, 3) := by decide +kernel
theorem dX10_works_39 : decode cX10_works 39 = .ok (.iconst 0, 1) := by decide +kernel
theorem dX10_works_40 : decode cX10_works 40 = .ok (.invokestatic 308, 3) := by decide +kernel
theorem dX10_works_43 : decode cX10_works 43 = .ok (.lastore, 1) := by decide +kernel
theorem dX10_works_44 : decode cX10_works 44 = .ok (.iconst 1, 1) := by decide +kernel
theorem dX10_works_45 : decode cX10_works 45 = .ok (.ireturn, 1) := by decide +kernel
theorem dX10_works_46 : decode cX10_works 46 = .ok (.aload_n 0, 1) := by decide +kernel
theorem dX10_works_47 : decode cX10_works 47 = .ok (.getfield 69, 3) := by decide +kernel
theorem dX10_works_50 : decode cX10_works 50 = .ok (.aload_n 0, 1) := by decide +kernel
theorem dX10_works_51 : decode cX10_works 51 = .ok (.getfield 305, 3) := by decide +kernel
theorem dX10_works_54 : decode cX10_works 54 = .ok (.iconst 2, 1) := by decide +kernel
theorem dX10_works_55 : decode cX10_works 55 = .ok (.isub, 1) := by decide +kernel
theorem dX10_works_56 : decode cX10_works 56 = .ok (.laload, 1) := by decide +kernel
theorem dX10_works_57 : decode cX10_works 57 = .ok (.lstore 4, 2) := by decide +kernel
theorem dX10_works_59 : decode cX10_works 59 = .ok (.aload_n 0, 1) := by decide +kernel
theorem dX10_works_60 : decode cX10_works 60 = .ok (.dup, 1) := by decide +kernel
theorem dX10_works_61 : decode cX10_works 61 = .ok (.getfield 305, 3) := by decide +kernel
theorem dX10_works_64 : decode cX10_works 64 = .ok (.iconst 1, 1) := by decide +kernel
theorem dX10_works_65 : decode cX10_works 65 = .ok (.isub, 1) := by decide +kernel
theorem dX10_works_66 : decode cX10_works 66 = .ok (.putfield 305, 3) := by decide +kernel
theorem dX10_works_69 : decode cX10_works 69 = .ok (.iload_n 1, 1) := by decide +kernel
theorem dX10_works_70 : decode cX10_works 70 = .ok (.lookupswitch 314 #[(42, 116), (43, 98), (45, 107), (47, 151), (60, 168), (61, 208), (62, 188), (256, 228), (257, 268), (258, 248), (261, 288)], 98) := by decide +kernel
theorem dX10_works_168 : decode cX10_works 168 = .ok (.lload 4, 2) := by decide +kernel
theorem dX10_works_170 : decode cX10_works 170 = .ok (.lload_n 2, 1) := by decide +kernel
theorem dX10_works_171 : decode cX10_works 171 = .ok (.ladd, 1) := by decide +kernel
theorem dX10_works_172 : decode cX10_works 172 = .ok (.lstore 6, 2) := by decide +kernel
theorem dX10_works_174 : decode cX10_works 174 = .ok (.goto 233, 3) := by decide +kernel
theorem dX10_works_177 : decode cX10_works 177 = .ok (.lload 4, 2) := by decide +kernel
theorem dX10_works_179 : decode cX10_works 179 = .ok (.lload_n 2, 1) := by decide +kernel
theorem dX10_works_180 : decode cX10_works 180 = .ok (.lsub, 1) := by decide +kernel
theorem dX10_works_181 : decode cX10_works 181 = .ok (.lstore 6, 2) := by decide +kernel
theorem dX10_works_183 : decode cX10_works 183 = .ok (.goto 224, 3) := by decide +kernel
theorem dX10_works_186 : decode cX10_works 186 = .ok (.lload 4, 2) := by decide +kernel
theorem dX10_works_188 : decode cX10_works 188 = .ok (.lconst 0, 1) := by decide +kernel
theorem dX10_works_189 : decode cX10_works 189 = .ok (.lcmp, 1) := by decide +kernel
theorem dX10_works_190 : decode cX10_works 190 = .ok (.ifCond .eq 22, 3) := by decide +kernel
theorem dX10_works_193 : decode cX10_works 193 = .ok (.lload_n 2, 1) := by decide +kernel
theorem dX10_works_194 : decode cX10_works 194 = .ok (.invokestatic 312, 3) := by decide +kernel
theorem dX10_works_197 : decode cX10_works 197 = .ok (.ldc2_w 318, 3) := by decide +kernel
theorem dX10_works_200 : decode cX10_works 200 = .ok (.lload 4, 2) := by decide +kernel
theorem dX10_works_202 : decode cX10_works 202 = .ok (.invokestatic 312, 3) := by decide +kernel
theorem dX10_works_205 : decode cX10_works 205 = .ok (.ldiv, 1) := by decide +kernel
theorem dX10_works_206 : decode cX10_works 206 = .ok (.lcmp, 1) := by decide +kernel
theorem dX10_works_207 : decode cX10_works 207 = .ok (.ifCond .le 5, 3) := by decide +kernel
theorem dX10_works_210 : decode cX10_works 210 = .ok (.iconst 0, 1) := by decide +kernel
theorem dX10_works_211 : decode cX10_works 211 = .ok (.ireturn, 1) := by decide +kernel
theorem dX10_works_212 : decode cX10_works 212 = .ok (.lload 4, 2) := by decide +kernel
theorem dX10_works_214 : decode cX10_works 214 = .ok (.lload_n 2, 1) := by decide +kernel
theorem dX10_works_215 : decode cX10_works 215 = .ok (.lmul, 1) := by decide +kernel
theorem dX10_works_216 : decode cX10_works 216 = .ok (.lstore 6, 2) := by decide +kernel
theorem dX10_works_218 : decode cX10_works 218 = .ok (.goto 189, 3) := by decide +kernel
theorem dX10_works_221 : decode cX10_works 221 = .ok (.lload_n 2, 1) := by decide +kernel
theorem dX10_works_222 : decode cX10_works 222 = .ok (.lconst 0, 1) := by decide +kernel
theorem dX10_works_223 : decode cX10_works 223 = .ok (.lcmp, 1) := by decide +kernel
theorem dX10_works_224 : decode cX10_works 224 = .ok (.ifCond .ne 5, 3) := by decide +kernel
theorem dX10_works_227 : decode cX10_works 227 = .ok (.iconst 0, 1) := by decide +kernel
theorem dX10_works_228 : decode cX10_works 228 = .ok (.ireturn, 1) := by decide +kernel
theorem dX10_works_229 : decode cX10_works 229 = .ok (.lload 4, 2) := by decide +kernel
theorem dX10_works_231 : decode cX10_works 231 = .ok (.lload_n 2, 1) := by decide +kernel
theorem dX10_works_232 : decode cX10_works 232 = .ok (.ldiv, 1) := by decide +kernel
theorem dX10_works_233 : decode cX10_works 233 = .ok (.lstore 6, 2) := by decide +kernel
theorem dX10_works_235 : decode cX10_works 235 = .ok (.goto 172, 3) := by decide +kernel
theorem dX10_works_238 : decode cX10_works 238 = .ok (.lload 4, 2) := by decide +kernel
theorem dX10_works_240 : decode cX10_works 240 = .ok (.lload_n 2, 1) := by decide +kernel
theorem dX10_works_241 : decode cX10_works 241 = .ok (.lcmp, 1) := by decide +kernel
theorem dX10_works_242 : decode cX10_works 242 = .ok (.ifCond .ge 7, 3) := by decide +kernel
theorem dX10_works_245 : decode cX10_works 245 = .ok (.iconst 1, 1) := by decide +kernel
theorem dX10_works_246 : decode cX10_works 246 = .ok (.goto 4, 3) := by decide +kernel
theorem dX10_works_249 : decode cX10_works 249 = .ok (.iconst 0, 1) := by decide +kernel
theorem dX10_works_250 : decode cX10_works 250 = .ok (.invokestatic 308, 3) := by decide +kernel
theorem dX10_works_253 : decode cX10_works 253 = .ok (.lstore 6, 2) := by decide +kernel
theorem dX10_works_255 : decode cX10_works 255 = .ok (.goto 152, 3) := by decide +kernel
theorem dX10_works_258 : decode cX10_works 258 = .ok (.lload 4, 2) := by decide +kernel
theorem dX10_works_260 : decode cX10_works 260 = .ok (.lload_n 2, 1) := by decide +kernel
theorem dX10_works_261 : decode cX10_works 261 = .ok (.lcmp, 1) := by decide +kernel
theorem dX10_works_262 : decode cX10_works 262 = .ok (.ifCond .le 7, 3) := by decide +kernel
theorem dX10_works_265 : decode cX10_works 265 = .ok (.iconst 1, 1) := by decide +kernel
theorem dX10_works_266 : decode cX10_works 266 = .ok (.goto 4, 3) := by decide +kernel
theorem dX10_works_269 : decode cX10_works 269 = .ok (.iconst 0, 1) := by decide +kernel
theorem dX10_works_270 : decode cX10_works 270 = .ok (.invokestatic 308, 3) := by decide +kernel
theorem dX10_works_273 : decode cX10_works 273 = .ok (.lstore 6, 2) := by decide +kernel
theorem dX10_works_275 : decode cX10_works 275 = .ok (.goto 132, 3) := by decide +kernel
theorem dX10_works_278 : decode cX10_works 278 = .ok (.lload 4, 2) := by decide +kernel
theorem dX10_works_280 : decode cX10_works 280 = .ok (.lload_n 2, 1) := by decide +kernel
theorem dX10_works_281 : decode cX10_works 281 = .ok (.lcmp, 1) := by decide +kernel
theorem dX10_works_282 : decode cX10_works 282 = .ok (.ifCond .ne 7, 3) := by decide +kernel
theorem dX10_works_285 : decode cX10_works 285 = .ok (.iconst 1, 1) := by decide +kernel
theorem dX10_works_286 : decode cX10_works 286 = .ok (.goto 4, 3) := by decide +kernel
theorem dX10_works_289 : decode cX10_works 289 = .ok (.iconst 0, 1) := by decide +kernel
theorem dX10_works_290 : decode cX10_works 290 = .ok (.invokestatic 308, 3) := by decide +kernel
theorem dX10_works_293 : decode cX10_works 293 = .ok (.lstore 6, 2) := by decide +kernel
theorem dX10_works_295 : decode cX10_works 295 = .ok (.goto 112, 3) := by decide +kernel
theorem dX10_works_298 : decode cX10_works 298 = .ok (.lload 4, 2) := by decide +kernel
theorem dX10_works_300 : decode cX10_works 300 = .ok (.lload_n 2, 1) := by decide +kernel
theorem dX10_works_301 : decode cX10_works 301 = .ok (.lcmp, 1) := by decide +kernel
theorem dX10_works_302 : decode cX10_works 302 = .ok (.ifCond .gt 7, 3) := by decide +kernel
theorem dX10_works_305 : decode cX10_works 305 = .ok (.iconst 1, 1) := by decide +kernel
theorem dX10_works_306 : decode cX10_works 306 = .ok (.goto 4, 3) := by decide +kernel
theorem dX10_works_309 : decode cX10_works 309 = .ok (.iconst 0, 1) := by decide +kernel
theorem dX10_works_310 : decode cX10_works 310 = .ok (.invokestatic 308, 3) := by decide +kernel
theorem dX10_works_313 : decode cX10_works 313 = .ok (.lstore 6, 2) := by decide +kernel
theorem dX10_works_315 : decode cX10_works 315 = .ok (.goto 92, 3) := by decide +kernel
theorem dX10_works_318 : decode cX10_works 318 = .ok (.lload 4, 2) := by decide +kernel
theorem dX10_works_320 : decode cX10_works 320 = .ok (.lload_n 2, 1) := by decide +kernel
theorem dX10_works_321 : decode cX10_works 321 = .ok (.lcmp, 1) := by decide +kernel
theorem dX10_works_322 : decode cX10_works 322 = .ok (.ifCond .lt 7, 3) := by decide +kernel
theorem dX10_works_325 : decode cX10_works 325 = .ok (.iconst 1, 1) := by decide +kernel
theorem dX10_works_326 : decode cX10_works 326 = .ok (.goto 4, 3) := by decide +kernel
theorem dX10_works_329 : decode cX10_works 329 = .ok (.iconst 0, 1) := by decide +kernel
theorem dX10_works_330 : decode cX10_works 330 = .ok (.invokestatic 308, 3) := by decide +kernel
theorem dX10_works_333 : decode cX10_works 333 = .ok (.lstore 6, 2) := by decide +kernel
theorem dX10_works_335 : decode cX10_works 335 = .ok (.goto 72, 3) := by decide +kernel
theorem dX10_works_338 : decode cX10_works 338 = .ok (.lload 4, 2) := by decide +kernel
theorem dX10_works_340 : decode cX10_works 340 = .ok (.lload_n 2, 1) := by decide +kernel
theorem dX10_works_341 : decode cX10_works 341 = .ok (.lcmp, 1) := by decide +kernel
theorem dX10_works_342 : decode cX10_works 342 = .ok (.ifCond .eq 7, 3) := by decide +kernel
theorem dX10_works_345 : decode cX10_works 345 = .ok (.iconst 1, 1) := by decide +kernel
theorem dX10_works_346 : decode cX10_works 346 = .ok (.goto 4, 3) := by decide +kernel
theorem dX10_works_349 : decode cX10_works 349 = .ok (.iconst 0, 1) := by decide +kernel
theorem dX10_works_350 : decode cX10_works 350 = .ok (.invokestatic 308, 3) := by decide +kernel
theorem dX10_works_353 : decode cX10_works 353 = .ok (.lstore 6, 2) := by decide +kernel
theorem dX10_works_355 : decode cX10_works 355 = .ok (.goto 52, 3) := by decide +kernel
theorem dX10_works_358 : decode cX10_works 358 = .ok (.lload 4, 2) := by decide +kernel
theorem dX10_works_360 : decode cX10_works 360 = .ok (.lconst 0, 1) := by decide +kernel
theorem dX10_works_361 : decode cX10_works 361 = .ok (.lcmp, 1) := by decide +kernel
theorem dX10_works_362 : decode cX10_works 362 = .ok (.ifCond .eq 13, 3) := by decide +kernel
theorem dX10_works_365 : decode cX10_works 365 = .ok (.lload_n 2, 1) := by decide +kernel
theorem dX10_works_366 : decode cX10_works 366 = .ok (.lconst 0, 1) := by decide +kernel
theorem dX10_works_367 : decode cX10_works 367 = .ok (.lcmp, 1) := by decide +kernel
theorem dX10_works_368 : decode cX10_works 368 = .ok (.ifCond .eq 7, 3) := by decide +kernel
theorem dX10_works_371 : decode cX10_works 371 = .ok (.iconst 1, 1) := by decide +kernel
theorem dX10_works_372 : decode cX10_works 372 = .ok (.goto 4, 3) := by decide +kernel
theorem dX10_works_375 : decode cX10_works 375 = .ok (.iconst 0, 1) := by decide +kernel
theorem dX10_works_376 : decode cX10_works 376 = .ok (.invokestatic 308, 3) := by decide +kernel
theorem dX10_works_379 : decode cX10_works 379 = .ok (.lstore 6, 2) := by decide +kernel
theorem dX10_works_381 : decode cX10_works 381 = .ok (.goto 26, 3) := by decide +kernel
theorem dX10_works_384 : decode cX10_works 384 = .ok (.lload 4, 2) := by decide +kernel
theorem dX10_works_386 : decode cX10_works 386 = .ok (.lconst 0, 1) := by decide +kernel
theorem dX10_works_387 : decode cX10_works 387 = .ok (.lcmp, 1) := by decide +kernel
theorem dX10_works_388 : decode cX10_works 388 = .ok (.ifCond .ne 9, 3) := by decide +kernel
theorem dX10_works_391 : decode cX10_works 391 = .ok (.lload_n 2, 1) := by decide +kernel
theorem dX10_works_392 : decode cX10_works 392 = .ok (.lconst 0, 1) := by decide +kernel
theorem dX10_works_393 : decode cX10_works 393 = .ok (.lcmp, 1) := by decide +kernel
theorem dX10_works_394 : decode cX10_works 394 = .ok (.ifCond .eq 7, 3) := by decide +kernel
theorem dX10_works_397 : decode cX10_works 397 = .ok (.iconst 1, 1) := by decide +kernel
theorem dX10_works_398 : decode cX10_works 398 = .ok (.goto 4, 3) := by decide +kernel
theorem dX10_works_401 : decode cX10_works 401 = .ok (.iconst 0, 1) := by decide +kernel
theorem dX10_works_402 : decode cX10_works 402 = .ok (.invokestatic 308, 3) := by decide +kernel
theorem dX10_works_405 : decode cX10_works 405 = .ok (.lstore 6, 2) := by decide +kernel
theorem dX10_works_407 : decode cX10_works 407 = .ok (.aload_n 0, 1) := by decide +kernel
theorem dX10_works_408 : decode cX10_works 408 = .ok (.getfield 69, 3) := by decide +kernel
theorem dX10_works_411 : decode cX10_works 411 = .ok (.aload_n 0, 1) := by decide +kernel
theorem dX10_works_412 : decode cX10_works 412 = .ok (.getfield 305, 3) := by decide +kernel
theorem dX10_works_415 : decode cX10_works 415 = .ok (.iconst 1, 1) := by decide +kernel
theorem dX10_works_416 : decode cX10_works 416 = .ok (.isub, 1) := by decide +kernel
theorem dX10_works_417 : decode cX10_works 417 = .ok (.lload 6, 2) := by decide +kernel
theorem dX10_works_419 : decode cX10_works 419 = .ok (.lastore, 1) := by decide +kernel
theorem dX10_works_420 : decode cX10_works 420 = .ok (.lload 6, 2) := by decide +kernel
theorem dX10_works_422 : decode cX10_works 422 = .ok (.ldc2_w 318, 3) := by decide +kernel
theorem dX10_works_425 : decode cX10_works 425 = .ok (.lcmp, 1) := by decide +kernel
theorem dX10_works_426 : decode cX10_works 426 = .ok (.ifCond .gt 16, 3) := by decide +kernel
theorem dX10_works_429 : decode cX10_works 429 = .ok (.lload 6, 2) := by decide +kernel
theorem dX10_works_431 : decode cX10_works 431 = .ok (.ldc2_w 320, 3) := by decide +kernel
theorem dX10_works_434 : decode cX10_works 434 = .ok (.lcmp, 1) := by decide +kernel
theorem dX10_works_435 : decode cX10_works 435 = .ok (.ifCond .lt 7, 3) := by decide +kernel
theorem dX10_works_438 : decode cX10_works 438 = .ok (.iconst 1, 1) := by decide +kernel
theorem dX10_works_439 : decode cX10_works 439 = .ok (.goto 4, 3) := by decide +kernel
theorem dX10_works_442 : decode cX10_works 442 = .ok (.iconst 0, 1) := by decide +kernel
theorem dX10_works_443 : decode cX10_works 443 = .ok (.ireturn, 1) := by decide +kernel
theorem dX10_comesOut_0 : decode cX10_comesOut 0 = .ok (.aload_n 0, 1) := by decide +kernel
theorem dX10_comesOut_1 : decode cX10_comesOut 1 = .ok (.iconst 0, 1) := by decide +kernel
theorem dX10_comesOut_2 : decode cX10_comesOut 2 = .ok (.putfield 305, 3) := by decide +kernel
theorem dX10_comesOut_5 : decode cX10_comesOut 5 = .ok (.aload_n 0, 1) := by decide +kernel
theorem dX10_comesOut_6 : decode cX10_comesOut 6 = .ok (.getfield 49, 3) := by decide +kernel
theorem dX10_comesOut_9 : decode cX10_comesOut 9 = .ok (.iload_n 1, 1) := by decide +kernel
theorem dX10_comesOut_10 : decode cX10_comesOut 10 = .ok (.iaload, 1) := by decide +kernel
theorem dX10_comesOut_11 : decode cX10_comesOut 11 = .ok (.istore_n 2, 1) := by decide +kernel
theorem dX10_comesOut_12 : decode cX10_comesOut 12 = .ok (.iload_n 2, 1) := by decide +kernel
theorem dX10_comesOut_13 : decode cX10_comesOut 13 = .ok (.aload_n 0, 1) := by decide +kernel
theorem dX10_comesOut_14 : decode cX10_comesOut 14 = .ok (.getfield 52, 3) := by decide +kernel
theorem dX10_comesOut_17 : decode cX10_comesOut 17 = .ok (.iload_n 1, 1) := by decide +kernel
theorem dX10_comesOut_18 : decode cX10_comesOut 18 = .ok (.iaload, 1) := by decide +kernel
theorem dX10_comesOut_19 : decode cX10_comesOut 19 = .ok (.if_icmp .ge 83, 3) := by decide +kernel
theorem dX10_comesOut_22 : decode cX10_comesOut 22 = .ok (.aload_n 0, 1) := by decide +kernel
theorem dX10_comesOut_23 : decode cX10_comesOut 23 = .ok (.getfield 55, 3) := by decide +kernel
theorem dX10_comesOut_26 : decode cX10_comesOut 26 = .ok (.iload_n 2, 1) := by decide +kernel
theorem dX10_comesOut_27 : decode cX10_comesOut 27 = .ok (.iaload, 1) := by decide +kernel
theorem dX10_comesOut_28 : decode cX10_comesOut 28 = .ok (.iconst 2, 1) := by decide +kernel
theorem dX10_comesOut_29 : decode cX10_comesOut 29 = .ok (.if_icmp .ne 18, 3) := by decide +kernel
theorem dX10_comesOut_32 : decode cX10_comesOut 32 = .ok (.aload_n 0, 1) := by decide +kernel
theorem dX10_comesOut_33 : decode cX10_comesOut 33 = .ok (.aload_n 0, 1) := by decide +kernel
theorem dX10_comesOut_34 : decode cX10_comesOut 34 = .ok (.getfield 58, 3) := by decide +kernel
theorem dX10_comesOut_37 : decode cX10_comesOut 37 = .ok (.iload_n 2, 1) := by decide +kernel
theorem dX10_comesOut_38 : decode cX10_comesOut 38 = .ok (.iaload, 1) := by decide +kernel
theorem dX10_comesOut_39 : decode cX10_comesOut 39 = .ok (.invokevirtual 322, 3) := by decide +kernel
theorem dX10_comesOut_42 : decode cX10_comesOut 42 = .ok (.ifCond .ne 54, 3) := by decide +kernel
theorem dX10_comesOut_45 : decode cX10_comesOut 45 = .ok (.iconst 0, 1) := by decide +kernel
theorem dX10_comesOut_46 : decode cX10_comesOut 46 = .ok (.ireturn, 1) := by decide +kernel
theorem dX10_comesOut_47 : decode cX10_comesOut 47 = .ok (.aload_n 0, 1) := by decide +kernel
theorem dX10_comesOut_48 : decode cX10_comesOut 48 = .ok (.getfield 69, 3) := by decide +kernel
theorem dX10_comesOut_51 : decode cX10_comesOut 51 = .ok (.aload_n 0, 1) := by decide +kernel
theorem dX10_comesOut_52 : decode cX10_comesOut 52 = .ok (.getfield 305, 3) := by decide +kernel
theorem dX10_comesOut_55 : decode cX10_comesOut 55 = .ok (.aload_n 0, 1) := by decide +kernel
theorem dX10_comesOut_56 : decode cX10_comesOut 56 = .ok (.getfield 55, 3) := by decide +kernel
theorem dX10_comesOut_59 : decode cX10_comesOut 59 = .ok (.iload_n 2, 1) := by decide +kernel
theorem dX10_comesOut_60 : decode cX10_comesOut 60 = .ok (.iaload, 1) := by decide +kernel
theorem dX10_comesOut_61 : decode cX10_comesOut 61 = .ok (.ifCond .ne 13, 3) := by decide +kernel
theorem dX10_comesOut_64 : decode cX10_comesOut 64 = .ok (.aload_n 0, 1) := by decide +kernel
theorem dX10_comesOut_65 : decode cX10_comesOut 65 = .ok (.getfield 58, 3) := by decide +kernel
theorem dX10_comesOut_68 : decode cX10_comesOut 68 = .ok (.iload_n 2, 1) := by decide +kernel
theorem dX10_comesOut_69 : decode cX10_comesOut 69 = .ok (.iaload, 1) := by decide +kernel
theorem dX10_comesOut_70 : decode cX10_comesOut 70 = .ok (.i2l, 1) := by decide +kernel
theorem dX10_comesOut_71 : decode cX10_comesOut 71 = .ok (.goto 14, 3) := by decide +kernel
theorem dX10_comesOut_74 : decode cX10_comesOut 74 = .ok (.aload_n 0, 1) := by decide +kernel
theorem dX10_comesOut_75 : decode cX10_comesOut 75 = .ok (.getfield 65, 3) := by decide +kernel
theorem dX10_comesOut_78 : decode cX10_comesOut 78 = .ok (.aload_n 0, 1) := by decide +kernel
theorem dX10_comesOut_79 : decode cX10_comesOut 79 = .ok (.getfield 58, 3) := by decide +kernel
theorem dX10_comesOut_82 : decode cX10_comesOut 82 = .ok (.iload_n 2, 1) := by decide +kernel
theorem dX10_comesOut_83 : decode cX10_comesOut 83 = .ok (.iaload, 1) := by decide +kernel
theorem dX10_comesOut_84 : decode cX10_comesOut 84 = .ok (.laload, 1) := by decide +kernel
theorem dX10_comesOut_85 : decode cX10_comesOut 85 = .ok (.lastore, 1) := by decide +kernel
theorem dX10_comesOut_86 : decode cX10_comesOut 86 = .ok (.aload_n 0, 1) := by decide +kernel
theorem dX10_comesOut_87 : decode cX10_comesOut 87 = .ok (.dup, 1) := by decide +kernel
theorem dX10_comesOut_88 : decode cX10_comesOut 88 = .ok (.getfield 305, 3) := by decide +kernel
theorem dX10_comesOut_91 : decode cX10_comesOut 91 = .ok (.iconst 1, 1) := by decide +kernel
theorem dX10_comesOut_92 : decode cX10_comesOut 92 = .ok (.iadd, 1) := by decide +kernel
theorem dX10_comesOut_93 : decode cX10_comesOut 93 = .ok (.putfield 305, 3) := by decide +kernel
theorem dX10_comesOut_96 : decode cX10_comesOut 96 = .ok (.iinc 2 1, 3) := by decide +kernel
theorem dX10_comesOut_99 : decode cX10_comesOut 99 = .ok (.goto (-87), 3) := by decide +kernel
theorem dX10_comesOut_102 : decode cX10_comesOut 102 = .ok (.iconst 1, 1) := by decide +kernel
theorem dX10_comesOut_103 : decode cX10_comesOut 103 = .ok (.ireturn, 1) := by decide +kernel
theorem dX10_hasLaw_0 : decode cX10_hasLaw 0 = .ok (.aload_n 0, 1) := by decide +kernel
theorem dX10_hasLaw_1 : decode cX10_hasLaw 1 = .ok (.getfield 52, 3) := by decide +kernel
theorem dX10_hasLaw_4 : decode cX10_hasLaw 4 = .ok (.iload_n 1, 1) := by decide +kernel
theorem dX10_hasLaw_5 : decode cX10_hasLaw 5 = .ok (.iaload, 1) := by decide +kernel
theorem dX10_hasLaw_6 : decode cX10_hasLaw 6 = .ok (.aload_n 0, 1) := by decide +kernel
theorem dX10_hasLaw_7 : decode cX10_hasLaw 7 = .ok (.getfield 49, 3) := by decide +kernel
theorem dX10_hasLaw_10 : decode cX10_hasLaw 10 = .ok (.iload_n 1, 1) := by decide +kernel
theorem dX10_hasLaw_11 : decode cX10_hasLaw 11 = .ok (.iaload, 1) := by decide +kernel
theorem dX10_hasLaw_12 : decode cX10_hasLaw 12 = .ok (.if_icmp .le 7, 3) := by decide +kernel
theorem dX10_hasLaw_15 : decode cX10_hasLaw 15 = .ok (.iconst 1, 1) := by decide +kernel
theorem dX10_hasLaw_16 : decode cX10_hasLaw 16 = .ok (.goto 4, 3) := by decide +kernel
theorem dX10_hasLaw_19 : decode cX10_hasLaw 19 = .ok (.iconst 0, 1) := by decide +kernel
theorem dX10_hasLaw_20 : decode cX10_hasLaw 20 = .ok (.ireturn, 1) := by decide +kernel
theorem dX10_starts_0 : decode cX10_starts 0 = .ok (.aload_n 0, 1) := by decide +kernel
theorem dX10_starts_1 : decode cX10_starts 1 = .ok (.getfield 72, 3) := by decide +kernel
theorem dX10_starts_4 : decode cX10_starts 4 = .ok (.iload_n 1, 1) := by decide +kernel
theorem dX10_starts_5 : decode cX10_starts 5 = .ok (.iconst 0, 1) := by decide +kernel
theorem dX10_starts_6 : decode cX10_starts 6 = .ok (.iastore, 1) := by decide +kernel
theorem dX10_starts_7 : decode cX10_starts 7 = .ok (.aload_n 0, 1) := by decide +kernel
theorem dX10_starts_8 : decode cX10_starts 8 = .ok (.getfield 75, 3) := by decide +kernel
theorem dX10_starts_11 : decode cX10_starts 11 = .ok (.iload_n 1, 1) := by decide +kernel
theorem dX10_starts_12 : decode cX10_starts 12 = .ok (.aload_n 0, 1) := by decide +kernel
theorem dX10_starts_13 : decode cX10_starts 13 = .ok (.getfield 13, 3) := by decide +kernel
theorem dX10_starts_16 : decode cX10_starts 16 = .ok (.iconst 5, 1) := by decide +kernel
theorem dX10_starts_17 : decode cX10_starts 17 = .ok (.iaload, 1) := by decide +kernel
theorem dX10_starts_18 : decode cX10_starts 18 = .ok (.iastore, 1) := by decide +kernel
theorem dX10_starts_19 : decode cX10_starts 19 = .ok (.aload_n 0, 1) := by decide +kernel
theorem dX10_starts_20 : decode cX10_starts 20 = .ok (.getfield 78, 3) := by decide +kernel
theorem dX10_starts_23 : decode cX10_starts 23 = .ok (.iload_n 1, 1) := by decide +kernel
theorem dX10_starts_24 : decode cX10_starts 24 = .ok (.iconst 0, 1) := by decide +kernel
theorem dX10_starts_25 : decode cX10_starts 25 = .ok (.iastore, 1) := by decide +kernel
theorem dX10_starts_26 : decode cX10_starts 26 = .ok (.iconst 0, 1) := by decide +kernel
theorem dX10_starts_27 : decode cX10_starts 27 = .ok (.istore_n 2, 1) := by decide +kernel
theorem dX10_starts_28 : decode cX10_starts 28 = .ok (.iload_n 2, 1) := by decide +kernel
theorem dX10_starts_29 : decode cX10_starts 29 = .ok (.bipush 8, 2) := by decide +kernel
theorem dX10_starts_31 : decode cX10_starts 31 = .ok (.if_icmp .ge 84, 3) := by decide +kernel
theorem dX10_starts_34 : decode cX10_starts 34 = .ok (.bipush 8, 2) := by decide +kernel
theorem dX10_starts_36 : decode cX10_starts 36 = .ok (.iload_n 1, 1) := by decide +kernel
theorem dX10_starts_37 : decode cX10_starts 37 = .ok (.imul, 1) := by decide +kernel
theorem dX10_starts_38 : decode cX10_starts 38 = .ok (.iload_n 2, 1) := by decide +kernel
theorem dX10_starts_39 : decode cX10_starts 39 = .ok (.iadd, 1) := by decide +kernel
theorem dX10_starts_40 : decode cX10_starts 40 = .ok (.istore_n 3, 1) := by decide +kernel
theorem dX10_starts_41 : decode cX10_starts 41 = .ok (.aload_n 0, 1) := by decide +kernel
theorem dX10_starts_42 : decode cX10_starts 42 = .ok (.getfield 81, 3) := by decide +kernel
theorem dX10_starts_45 : decode cX10_starts 45 = .ok (.iload_n 3, 1) := by decide +kernel
theorem dX10_starts_46 : decode cX10_starts 46 = .ok (.iconst (-1), 1) := by decide +kernel
theorem dX10_starts_47 : decode cX10_starts 47 = .ok (.iastore, 1) := by decide +kernel
theorem dX10_starts_48 : decode cX10_starts 48 = .ok (.aload_n 0, 1) := by decide +kernel
theorem dX10_starts_49 : decode cX10_starts 49 = .ok (.getfield 84, 3) := by decide +kernel
theorem dX10_starts_52 : decode cX10_starts 52 = .ok (.iload_n 3, 1) := by decide +kernel
theorem dX10_starts_53 : decode cX10_starts 53 = .ok (.iconst 0, 1) := by decide +kernel
theorem dX10_starts_54 : decode cX10_starts 54 = .ok (.iastore, 1) := by decide +kernel
theorem dX10_starts_55 : decode cX10_starts 55 = .ok (.aload_n 0, 1) := by decide +kernel
theorem dX10_starts_56 : decode cX10_starts 56 = .ok (.getfield 87, 3) := by decide +kernel
theorem dX10_starts_59 : decode cX10_starts 59 = .ok (.iload_n 3, 1) := by decide +kernel
theorem dX10_starts_60 : decode cX10_starts 60 = .ok (.iload_n 2, 1) := by decide +kernel
theorem dX10_starts_61 : decode cX10_starts 61 = .ok (.aload_n 0, 1) := by decide +kernel
theorem dX10_starts_62 : decode cX10_starts 62 = .ok (.getfield 13, 3) := by decide +kernel
theorem dX10_starts_65 : decode cX10_starts 65 = .ok (.iconst 0, 1) := by decide +kernel
theorem dX10_starts_66 : decode cX10_starts 66 = .ok (.iaload, 1) := by decide +kernel
theorem dX10_starts_67 : decode cX10_starts 67 = .ok (.if_icmp .ge 12, 3) := by decide +kernel
theorem dX10_starts_70 : decode cX10_starts 70 = .ok (.aload_n 0, 1) := by decide +kernel
theorem dX10_starts_71 : decode cX10_starts 71 = .ok (.getfield 25, 3) := by decide +kernel
theorem dX10_starts_74 : decode cX10_starts 74 = .ok (.iload_n 2, 1) := by decide +kernel
theorem dX10_starts_75 : decode cX10_starts 75 = .ok (.iaload, 1) := by decide +kernel
theorem dX10_starts_76 : decode cX10_starts 76 = .ok (.goto 4, 3) := by decide +kernel
theorem dX10_starts_79 : decode cX10_starts 79 = .ok (.iconst 0, 1) := by decide +kernel
theorem dX10_starts_80 : decode cX10_starts 80 = .ok (.iastore, 1) := by decide +kernel
theorem dX10_starts_81 : decode cX10_starts 81 = .ok (.aload_n 0, 1) := by decide +kernel
theorem dX10_starts_82 : decode cX10_starts 82 = .ok (.getfield 90, 3) := by decide +kernel
theorem dX10_starts_85 : decode cX10_starts 85 = .ok (.iload_n 3, 1) := by decide +kernel
theorem dX10_starts_86 : decode cX10_starts 86 = .ok (.iconst 0, 1) := by decide +kernel
theorem dX10_starts_87 : decode cX10_starts 87 = .ok (.iastore, 1) := by decide +kernel
theorem dX10_starts_88 : decode cX10_starts 88 = .ok (.aload_n 0, 1) := by decide +kernel
theorem dX10_starts_89 : decode cX10_starts 89 = .ok (.getfield 93, 3) := by decide +kernel
theorem dX10_starts_92 : decode cX10_starts 92 = .ok (.iload_n 3, 1) := by decide +kernel
theorem dX10_starts_93 : decode cX10_starts 93 = .ok (.iconst 0, 1) := by decide +kernel
theorem dX10_starts_94 : decode cX10_starts 94 = .ok (.iastore, 1) := by decide +kernel
theorem dX10_starts_95 : decode cX10_starts 95 = .ok (.aload_n 0, 1) := by decide +kernel
theorem dX10_starts_96 : decode cX10_starts 96 = .ok (.getfield 96, 3) := by decide +kernel
theorem dX10_starts_99 : decode cX10_starts 99 = .ok (.iload_n 3, 1) := by decide +kernel
theorem dX10_starts_100 : decode cX10_starts 100 = .ok (.iconst (-1), 1) := by decide +kernel
theorem dX10_starts_101 : decode cX10_starts 101 = .ok (.iastore, 1) := by decide +kernel
theorem dX10_starts_102 : decode cX10_starts 102 = .ok (.aload_n 0, 1) := by decide +kernel
theorem dX10_starts_103 : decode cX10_starts 103 = .ok (.getfield 99, 3) := by decide +kernel
theorem dX10_starts_106 : decode cX10_starts 106 = .ok (.iload_n 3, 1) := by decide +kernel
theorem dX10_starts_107 : decode cX10_starts 107 = .ok (.iconst (-1), 1) := by decide +kernel
theorem dX10_starts_108 : decode cX10_starts 108 = .ok (.iastore, 1) := by decide +kernel
theorem dX10_starts_109 : decode cX10_starts 109 = .ok (.iinc 2 1, 3) := by decide +kernel
theorem dX10_starts_112 : decode cX10_starts 112 = .ok (.goto (-84), 3) := by decide +kernel
theorem dX10_starts_115 : decode cX10_starts 115 = .ok (.return_, 1) := by decide +kernel
theorem dX10_begins_0 : decode cX10_begins 0 = .ok (.aload_n 0, 1) := by decide +kernel
theorem dX10_begins_1 : decode cX10_begins 1 = .ok (.iconst 0, 1) := by decide +kernel
theorem dX10_begins_2 : decode cX10_begins 2 = .ok (.invokevirtual 325, 3) := by decide +kernel
theorem dX10_begins_5 : decode cX10_begins 5 = .ok (.return_, 1) := by decide +kernel
theorem dX10_copies_0 : decode cX10_copies 0 = .ok (.aload_n 0, 1) := by decide +kernel
theorem dX10_copies_1 : decode cX10_copies 1 = .ok (.getfield 72, 3) := by decide +kernel
theorem dX10_copies_4 : decode cX10_copies 4 = .ok (.iload_n 1, 1) := by decide +kernel
theorem dX10_copies_5 : decode cX10_copies 5 = .ok (.aload_n 0, 1) := by decide +kernel
theorem dX10_copies_6 : decode cX10_copies 6 = .ok (.getfield 72, 3) := by decide +kernel
theorem dX10_copies_9 : decode cX10_copies 9 = .ok (.iload_n 2, 1) := by decide +kernel
theorem dX10_copies_10 : decode cX10_copies 10 = .ok (.iaload, 1) := by decide +kernel
theorem dX10_copies_11 : decode cX10_copies 11 = .ok (.iastore, 1) := by decide +kernel
theorem dX10_copies_12 : decode cX10_copies 12 = .ok (.aload_n 0, 1) := by decide +kernel
theorem dX10_copies_13 : decode cX10_copies 13 = .ok (.getfield 75, 3) := by decide +kernel
theorem dX10_copies_16 : decode cX10_copies 16 = .ok (.iload_n 1, 1) := by decide +kernel
theorem dX10_copies_17 : decode cX10_copies 17 = .ok (.aload_n 0, 1) := by decide +kernel
theorem dX10_copies_18 : decode cX10_copies 18 = .ok (.getfield 75, 3) := by decide +kernel
theorem dX10_copies_21 : decode cX10_copies 21 = .ok (.iload_n 2, 1) := by decide +kernel
theorem dX10_copies_22 : decode cX10_copies 22 = .ok (.iaload, 1) := by decide +kernel
theorem dX10_copies_23 : decode cX10_copies 23 = .ok (.iastore, 1) := by decide +kernel
theorem dX10_copies_24 : decode cX10_copies 24 = .ok (.aload_n 0, 1) := by decide +kernel
theorem dX10_copies_25 : decode cX10_copies 25 = .ok (.getfield 78, 3) := by decide +kernel
theorem dX10_copies_28 : decode cX10_copies 28 = .ok (.iload_n 1, 1) := by decide +kernel
theorem dX10_copies_29 : decode cX10_copies 29 = .ok (.aload_n 0, 1) := by decide +kernel
theorem dX10_copies_30 : decode cX10_copies 30 = .ok (.getfield 78, 3) := by decide +kernel
theorem dX10_copies_33 : decode cX10_copies 33 = .ok (.iload_n 2, 1) := by decide +kernel
theorem dX10_copies_34 : decode cX10_copies 34 = .ok (.iaload, 1) := by decide +kernel
theorem dX10_copies_35 : decode cX10_copies 35 = .ok (.iastore, 1) := by decide +kernel
theorem dX10_copies_36 : decode cX10_copies 36 = .ok (.iconst 0, 1) := by decide +kernel
theorem dX10_copies_37 : decode cX10_copies 37 = .ok (.istore_n 3, 1) := by decide +kernel
theorem dX10_copies_38 : decode cX10_copies 38 = .ok (.iload_n 3, 1) := by decide +kernel
theorem dX10_copies_39 : decode cX10_copies 39 = .ok (.bipush 8, 2) := by decide +kernel
theorem dX10_copies_41 : decode cX10_copies 41 = .ok (.if_icmp .ge 123, 3) := by decide +kernel
theorem dX10_copies_44 : decode cX10_copies 44 = .ok (.bipush 8, 2) := by decide +kernel
theorem dX10_copies_46 : decode cX10_copies 46 = .ok (.iload_n 1, 1) := by decide +kernel
theorem dX10_copies_47 : decode cX10_copies 47 = .ok (.imul, 1) := by decide +kernel
theorem dX10_copies_48 : decode cX10_copies 48 = .ok (.iload_n 3, 1) := by decide +kernel
theorem dX10_copies_49 : decode cX10_copies 49 = .ok (.iadd, 1) := by decide +kernel
theorem dX10_copies_50 : decode cX10_copies 50 = .ok (.istore 4, 2) := by decide +kernel
theorem dX10_copies_52 : decode cX10_copies 52 = .ok (.bipush 8, 2) := by decide +kernel
theorem dX10_copies_54 : decode cX10_copies 54 = .ok (.iload_n 2, 1) := by decide +kernel
theorem dX10_copies_55 : decode cX10_copies 55 = .ok (.imul, 1) := by decide +kernel
theorem dX10_copies_56 : decode cX10_copies 56 = .ok (.iload_n 3, 1) := by decide +kernel
theorem dX10_copies_57 : decode cX10_copies 57 = .ok (.iadd, 1) := by decide +kernel
theorem dX10_copies_58 : decode cX10_copies 58 = .ok (.istore 5, 2) := by decide +kernel
theorem dX10_copies_60 : decode cX10_copies 60 = .ok (.aload_n 0, 1) := by decide +kernel
theorem dX10_copies_61 : decode cX10_copies 61 = .ok (.getfield 81, 3) := by decide +kernel
theorem dX10_copies_64 : decode cX10_copies 64 = .ok (.iload 4, 2) := by decide +kernel
theorem dX10_copies_66 : decode cX10_copies 66 = .ok (.aload_n 0, 1) := by decide +kernel
theorem dX10_copies_67 : decode cX10_copies 67 = .ok (.getfield 81, 3) := by decide +kernel
theorem dX10_copies_70 : decode cX10_copies 70 = .ok (.iload 5, 2) := by decide +kernel
theorem dX10_copies_72 : decode cX10_copies 72 = .ok (.iaload, 1) := by decide +kernel
theorem dX10_copies_73 : decode cX10_copies 73 = .ok (.iastore, 1) := by decide +kernel
theorem dX10_copies_74 : decode cX10_copies 74 = .ok (.aload_n 0, 1) := by decide +kernel
theorem dX10_copies_75 : decode cX10_copies 75 = .ok (.getfield 84, 3) := by decide +kernel
theorem dX10_copies_78 : decode cX10_copies 78 = .ok (.iload 4, 2) := by decide +kernel
theorem dX10_copies_80 : decode cX10_copies 80 = .ok (.aload_n 0, 1) := by decide +kernel
theorem dX10_copies_81 : decode cX10_copies 81 = .ok (.getfield 84, 3) := by decide +kernel
theorem dX10_copies_84 : decode cX10_copies 84 = .ok (.iload 5, 2) := by decide +kernel
theorem dX10_copies_86 : decode cX10_copies 86 = .ok (.iaload, 1) := by decide +kernel
theorem dX10_copies_87 : decode cX10_copies 87 = .ok (.iastore, 1) := by decide +kernel
theorem dX10_copies_88 : decode cX10_copies 88 = .ok (.aload_n 0, 1) := by decide +kernel
theorem dX10_copies_89 : decode cX10_copies 89 = .ok (.getfield 87, 3) := by decide +kernel
theorem dX10_copies_92 : decode cX10_copies 92 = .ok (.iload 4, 2) := by decide +kernel
theorem dX10_copies_94 : decode cX10_copies 94 = .ok (.aload_n 0, 1) := by decide +kernel
theorem dX10_copies_95 : decode cX10_copies 95 = .ok (.getfield 87, 3) := by decide +kernel
theorem dX10_copies_98 : decode cX10_copies 98 = .ok (.iload 5, 2) := by decide +kernel
theorem dX10_copies_100 : decode cX10_copies 100 = .ok (.iaload, 1) := by decide +kernel
theorem dX10_copies_101 : decode cX10_copies 101 = .ok (.iastore, 1) := by decide +kernel
theorem dX10_copies_102 : decode cX10_copies 102 = .ok (.aload_n 0, 1) := by decide +kernel
theorem dX10_copies_103 : decode cX10_copies 103 = .ok (.getfield 90, 3) := by decide +kernel
theorem dX10_copies_106 : decode cX10_copies 106 = .ok (.iload 4, 2) := by decide +kernel
theorem dX10_copies_108 : decode cX10_copies 108 = .ok (.aload_n 0, 1) := by decide +kernel
theorem dX10_copies_109 : decode cX10_copies 109 = .ok (.getfield 90, 3) := by decide +kernel
theorem dX10_copies_112 : decode cX10_copies 112 = .ok (.iload 5, 2) := by decide +kernel
theorem dX10_copies_114 : decode cX10_copies 114 = .ok (.iaload, 1) := by decide +kernel
theorem dX10_copies_115 : decode cX10_copies 115 = .ok (.iastore, 1) := by decide +kernel
theorem dX10_copies_116 : decode cX10_copies 116 = .ok (.aload_n 0, 1) := by decide +kernel
theorem dX10_copies_117 : decode cX10_copies 117 = .ok (.getfield 93, 3) := by decide +kernel
theorem dX10_copies_120 : decode cX10_copies 120 = .ok (.iload 4, 2) := by decide +kernel
theorem dX10_copies_122 : decode cX10_copies 122 = .ok (.aload_n 0, 1) := by decide +kernel
theorem dX10_copies_123 : decode cX10_copies 123 = .ok (.getfield 93, 3) := by decide +kernel
theorem dX10_copies_126 : decode cX10_copies 126 = .ok (.iload 5, 2) := by decide +kernel
theorem dX10_copies_128 : decode cX10_copies 128 = .ok (.iaload, 1) := by decide +kernel
theorem dX10_copies_129 : decode cX10_copies 129 = .ok (.iastore, 1) := by decide +kernel
theorem dX10_copies_130 : decode cX10_copies 130 = .ok (.aload_n 0, 1) := by decide +kernel
theorem dX10_copies_131 : decode cX10_copies 131 = .ok (.getfield 96, 3) := by decide +kernel
theorem dX10_copies_134 : decode cX10_copies 134 = .ok (.iload 4, 2) := by decide +kernel
theorem dX10_copies_136 : decode cX10_copies 136 = .ok (.aload_n 0, 1) := by decide +kernel
theorem dX10_copies_137 : decode cX10_copies 137 = .ok (.getfield 96, 3) := by decide +kernel
theorem dX10_copies_140 : decode cX10_copies 140 = .ok (.iload 5, 2) := by decide +kernel
theorem dX10_copies_142 : decode cX10_copies 142 = .ok (.iaload, 1) := by decide +kernel
theorem dX10_copies_143 : decode cX10_copies 143 = .ok (.iastore, 1) := by decide +kernel
theorem dX10_copies_144 : decode cX10_copies 144 = .ok (.aload_n 0, 1) := by decide +kernel
theorem dX10_copies_145 : decode cX10_copies 145 = .ok (.getfield 99, 3) := by decide +kernel
theorem dX10_copies_148 : decode cX10_copies 148 = .ok (.iload 4, 2) := by decide +kernel
theorem dX10_copies_150 : decode cX10_copies 150 = .ok (.aload_n 0, 1) := by decide +kernel
theorem dX10_copies_151 : decode cX10_copies 151 = .ok (.getfield 99, 3) := by decide +kernel
theorem dX10_copies_154 : decode cX10_copies 154 = .ok (.iload 5, 2) := by decide +kernel
theorem dX10_copies_156 : decode cX10_copies 156 = .ok (.iaload, 1) := by decide +kernel
theorem dX10_copies_157 : decode cX10_copies 157 = .ok (.iastore, 1) := by decide +kernel
theorem dX10_copies_158 : decode cX10_copies 158 = .ok (.iinc 3 1, 3) := by decide +kernel
theorem dX10_copies_161 : decode cX10_copies 161 = .ok (.goto (-123), 3) := by decide +kernel
theorem dX10_copies_164 : decode cX10_copies 164 = .ok (.return_, 1) := by decide +kernel
theorem dX10_isSoul_0 : decode cX10_isSoul 0 = .ok (.iload_n 1, 1) := by decide +kernel
theorem dX10_isSoul_1 : decode cX10_isSoul 1 = .ok (.ifCond .lt 17, 3) := by decide +kernel
theorem dX10_isSoul_4 : decode cX10_isSoul 4 = .ok (.iload_n 1, 1) := by decide +kernel
theorem dX10_isSoul_5 : decode cX10_isSoul 5 = .ok (.aload_n 0, 1) := by decide +kernel
theorem dX10_isSoul_6 : decode cX10_isSoul 6 = .ok (.getfield 13, 3) := by decide +kernel
theorem dX10_isSoul_9 : decode cX10_isSoul 9 = .ok (.iconst 0, 1) := by decide +kernel
theorem dX10_isSoul_10 : decode cX10_isSoul 10 = .ok (.iaload, 1) := by decide +kernel
theorem dX10_isSoul_11 : decode cX10_isSoul 11 = .ok (.if_icmp .ge 7, 3) := by decide +kernel
theorem dX10_isSoul_14 : decode cX10_isSoul 14 = .ok (.iconst 1, 1) := by decide +kernel
theorem dX10_isSoul_15 : decode cX10_isSoul 15 = .ok (.goto 4, 3) := by decide +kernel
theorem dX10_isSoul_18 : decode cX10_isSoul 18 = .ok (.iconst 0, 1) := by decide +kernel
theorem dX10_isSoul_19 : decode cX10_isSoul 19 = .ok (.ireturn, 1) := by decide +kernel
theorem dX10_isBus_0 : decode cX10_isBus 0 = .ok (.iload_n 1, 1) := by decide +kernel
theorem dX10_isBus_1 : decode cX10_isBus 1 = .ok (.ifCond .lt 17, 3) := by decide +kernel
theorem dX10_isBus_4 : decode cX10_isBus 4 = .ok (.iload_n 1, 1) := by decide +kernel
theorem dX10_isBus_5 : decode cX10_isBus 5 = .ok (.aload_n 0, 1) := by decide +kernel
theorem dX10_isBus_6 : decode cX10_isBus 6 = .ok (.getfield 13, 3) := by decide +kernel
theorem dX10_isBus_9 : decode cX10_isBus 9 = .ok (.iconst 1, 1) := by decide +kernel
theorem dX10_isBus_10 : decode cX10_isBus 10 = .ok (.iaload, 1) := by decide +kernel
theorem dX10_isBus_11 : decode cX10_isBus 11 = .ok (.if_icmp .ge 7, 3) := by decide +kernel
theorem dX10_isBus_14 : decode cX10_isBus 14 = .ok (.iconst 1, 1) := by decide +kernel
theorem dX10_isBus_15 : decode cX10_isBus 15 = .ok (.goto 4, 3) := by decide +kernel
theorem dX10_isBus_18 : decode cX10_isBus 18 = .ok (.iconst 0, 1) := by decide +kernel
theorem dX10_isBus_19 : decode cX10_isBus 19 = .ok (.ireturn, 1) := by decide +kernel
theorem dX10_placeOf_0 : decode cX10_placeOf 0 = .ok (.iconst 0, 1) := by decide +kernel
theorem dX10_placeOf_1 : decode cX10_placeOf 1 = .ok (.istore_n 3, 1) := by decide +kernel
theorem dX10_placeOf_2 : decode cX10_placeOf 2 = .ok (.iload_n 3, 1) := by decide +kernel
theorem dX10_placeOf_3 : decode cX10_placeOf 3 = .ok (.aload_n 0, 1) := by decide +kernel
theorem dX10_placeOf_4 : decode cX10_placeOf 4 = .ok (.getfield 78, 3) := by decide +kernel
theorem dX10_placeOf_7 : decode cX10_placeOf 7 = .ok (.iload_n 1, 1) := by decide +kernel
theorem dX10_placeOf_8 : decode cX10_placeOf 8 = .ok (.iaload, 1) := by decide +kernel
theorem dX10_placeOf_9 : decode cX10_placeOf 9 = .ok (.if_icmp .ge 26, 3) := by decide +kernel
theorem dX10_placeOf_12 : decode cX10_placeOf 12 = .ok (.aload_n 0, 1) := by decide +kernel
theorem dX10_placeOf_13 : decode cX10_placeOf 13 = .ok (.getfield 81, 3) := by decide +kernel
theorem dX10_placeOf_16 : decode cX10_placeOf 16 = .ok (.bipush 8, 2) := by decide +kernel
theorem dX10_placeOf_18 : decode cX10_placeOf 18 = .ok (.iload_n 1, 1) := by decide +kernel
theorem dX10_placeOf_19 : decode cX10_placeOf 19 = .ok (.imul, 1) := by decide +kernel
theorem dX10_placeOf_20 : decode cX10_placeOf 20 = .ok (.iload_n 3, 1) := by decide +kernel
theorem dX10_placeOf_21 : decode cX10_placeOf 21 = .ok (.iadd, 1) := by decide +kernel
theorem dX10_placeOf_22 : decode cX10_placeOf 22 = .ok (.iaload, 1) := by decide +kernel
theorem dX10_placeOf_23 : decode cX10_placeOf 23 = .ok (.iload_n 2, 1) := by decide +kernel
theorem dX10_placeOf_24 : decode cX10_placeOf 24 = .ok (.if_icmp .ne 5, 3) := by decide +kernel
theorem dX10_placeOf_27 : decode cX10_placeOf 27 = .ok (.iload_n 3, 1) := by decide +kernel
theorem dX10_placeOf_28 : decode cX10_placeOf 28 = .ok (.ireturn, 1) := by decide +kernel
theorem dX10_placeOf_29 : decode cX10_placeOf 29 = .ok (.iinc 3 1, 3) := by decide +kernel
theorem dX10_placeOf_32 : decode cX10_placeOf 32 = .ok (.goto (-30), 3) := by decide +kernel
theorem dX10_placeOf_35 : decode cX10_placeOf 35 = .ok (.iconst (-1), 1) := by decide +kernel
theorem dX10_placeOf_36 : decode cX10_placeOf 36 = .ok (.ireturn, 1) := by decide +kernel
theorem dX10_joins_0 : decode cX10_joins 0 = .ok (.aload_n 0, 1) := by decide +kernel
theorem dX10_joins_1 : decode cX10_joins 1 = .ok (.getfield 81, 3) := by decide +kernel
theorem dX10_joins_4 : decode cX10_joins 4 = .ok (.bipush 8, 2) := by decide +kernel
theorem dX10_joins_6 : decode cX10_joins 6 = .ok (.iload_n 1, 1) := by decide +kernel
theorem dX10_joins_7 : decode cX10_joins 7 = .ok (.imul, 1) := by decide +kernel
theorem dX10_joins_8 : decode cX10_joins 8 = .ok (.aload_n 0, 1) := by decide +kernel
theorem dX10_joins_9 : decode cX10_joins 9 = .ok (.getfield 78, 3) := by decide +kernel
theorem dX10_joins_12 : decode cX10_joins 12 = .ok (.iload_n 1, 1) := by decide +kernel
theorem dX10_joins_13 : decode cX10_joins 13 = .ok (.iaload, 1) := by decide +kernel
theorem dX10_joins_14 : decode cX10_joins 14 = .ok (.iadd, 1) := by decide +kernel
theorem dX10_joins_15 : decode cX10_joins 15 = .ok (.iload_n 2, 1) := by decide +kernel
theorem dX10_joins_16 : decode cX10_joins 16 = .ok (.iastore, 1) := by decide +kernel
theorem dX10_joins_17 : decode cX10_joins 17 = .ok (.aload_n 0, 1) := by decide +kernel
theorem dX10_joins_18 : decode cX10_joins 18 = .ok (.getfield 78, 3) := by decide +kernel
theorem dX10_joins_21 : decode cX10_joins 21 = .ok (.iload_n 1, 1) := by decide +kernel
theorem dX10_joins_22 : decode cX10_joins 22 = .ok (.dup2, 1) := by decide +kernel
theorem dX10_joins_23 : decode cX10_joins 23 = .ok (.iaload, 1) := by decide +kernel
theorem dX10_joins_24 : decode cX10_joins 24 = .ok (.iconst 1, 1) := by decide +kernel
theorem dX10_joins_25 : decode cX10_joins 25 = .ok (.iadd, 1) := by decide +kernel
theorem dX10_joins_26 : decode cX10_joins 26 = .ok (.iastore, 1) := by decide +kernel
theorem dX10_joins_27 : decode cX10_joins 27 = .ok (.aload_n 0, 1) := by decide +kernel
theorem dX10_joins_28 : decode cX10_joins 28 = .ok (.getfield 84, 3) := by decide +kernel
theorem dX10_joins_31 : decode cX10_joins 31 = .ok (.bipush 8, 2) := by decide +kernel
theorem dX10_joins_33 : decode cX10_joins 33 = .ok (.iload_n 1, 1) := by decide +kernel
theorem dX10_joins_34 : decode cX10_joins 34 = .ok (.imul, 1) := by decide +kernel
theorem dX10_joins_35 : decode cX10_joins 35 = .ok (.iload_n 2, 1) := by decide +kernel
theorem dX10_joins_36 : decode cX10_joins 36 = .ok (.iadd, 1) := by decide +kernel
theorem dX10_joins_37 : decode cX10_joins 37 = .ok (.iconst 1, 1) := by decide +kernel
theorem dX10_joins_38 : decode cX10_joins 38 = .ok (.iastore, 1) := by decide +kernel
theorem dX10_joins_39 : decode cX10_joins 39 = .ok (.return_, 1) := by decide +kernel
theorem dX10_leaves_0 : decode cX10_leaves 0 = .ok (.aload_n 0, 1) := by decide +kernel
theorem dX10_leaves_1 : decode cX10_leaves 1 = .ok (.iload_n 1, 1) := by decide +kernel
theorem dX10_leaves_2 : decode cX10_leaves 2 = .ok (.iload_n 2, 1) := by decide +kernel
theorem dX10_leaves_3 : decode cX10_leaves 3 = .ok (.invokevirtual 328, 3) := by decide +kernel
theorem dX10_leaves_6 : decode cX10_leaves 6 = .ok (.istore 4, 2) := by decide +kernel
theorem dX10_leaves_8 : decode cX10_leaves 8 = .ok (.aload_n 0, 1) := by decide +kernel
theorem dX10_leaves_9 : decode cX10_leaves 9 = .ok (.getfield 84, 3) := by decide +kernel
theorem dX10_leaves_12 : decode cX10_leaves 12 = .ok (.bipush 8, 2) := by decide +kernel
theorem dX10_leaves_14 : decode cX10_leaves 14 = .ok (.iload_n 1, 1) := by decide +kernel
theorem dX10_leaves_15 : decode cX10_leaves 15 = .ok (.imul, 1) := by decide +kernel
theorem dX10_leaves_16 : decode cX10_leaves 16 = .ok (.iload_n 2, 1) := by decide +kernel
theorem dX10_leaves_17 : decode cX10_leaves 17 = .ok (.iadd, 1) := by decide +kernel
theorem dX10_leaves_18 : decode cX10_leaves 18 = .ok (.iload_n 3, 1) := by decide +kernel
theorem dX10_leaves_19 : decode cX10_leaves 19 = .ok (.iastore, 1) := by decide +kernel
theorem dX10_leaves_20 : decode cX10_leaves 20 = .ok (.iload 4, 2) := by decide +kernel
theorem dX10_leaves_22 : decode cX10_leaves 22 = .ok (.iconst (-1), 1) := by decide +kernel
theorem dX10_leaves_23 : decode cX10_leaves 23 = .ok (.if_icmp .ne 4, 3) := by decide +kernel
theorem dX10_leaves_26 : decode cX10_leaves 26 = .ok (.return_, 1) := by decide +kernel
theorem dX10_leaves_27 : decode cX10_leaves 27 = .ok (.aload_n 0, 1) := by decide +kernel
theorem dX10_leaves_28 : decode cX10_leaves 28 = .ok (.getfield 78, 3) := by decide +kernel
theorem dX10_leaves_31 : decode cX10_leaves 31 = .ok (.iload_n 1, 1) := by decide +kernel
theorem dX10_leaves_32 : decode cX10_leaves 32 = .ok (.dup2, 1) := by decide +kernel
theorem dX10_leaves_33 : decode cX10_leaves 33 = .ok (.iaload, 1) := by decide +kernel
theorem dX10_leaves_34 : decode cX10_leaves 34 = .ok (.iconst 1, 1) := by decide +kernel
theorem dX10_leaves_35 : decode cX10_leaves 35 = .ok (.isub, 1) := by decide +kernel
theorem dX10_leaves_36 : decode cX10_leaves 36 = .ok (.iastore, 1) := by decide +kernel
theorem dX10_leaves_37 : decode cX10_leaves 37 = .ok (.iload 4, 2) := by decide +kernel
theorem dX10_leaves_39 : decode cX10_leaves 39 = .ok (.istore 5, 2) := by decide +kernel
theorem dX10_leaves_41 : decode cX10_leaves 41 = .ok (.iload 5, 2) := by decide +kernel
theorem dX10_leaves_43 : decode cX10_leaves 43 = .ok (.aload_n 0, 1) := by decide +kernel
theorem dX10_leaves_44 : decode cX10_leaves 44 = .ok (.getfield 78, 3) := by decide +kernel
theorem dX10_leaves_47 : decode cX10_leaves 47 = .ok (.iload_n 1, 1) := by decide +kernel
theorem dX10_leaves_48 : decode cX10_leaves 48 = .ok (.iaload, 1) := by decide +kernel
theorem dX10_leaves_49 : decode cX10_leaves 49 = .ok (.if_icmp .ge 35, 3) := by decide +kernel
theorem dX10_leaves_52 : decode cX10_leaves 52 = .ok (.aload_n 0, 1) := by decide +kernel
theorem dX10_leaves_53 : decode cX10_leaves 53 = .ok (.getfield 81, 3) := by decide +kernel
theorem dX10_leaves_56 : decode cX10_leaves 56 = .ok (.bipush 8, 2) := by decide +kernel
theorem dX10_leaves_58 : decode cX10_leaves 58 = .ok (.iload_n 1, 1) := by decide +kernel
theorem dX10_leaves_59 : decode cX10_leaves 59 = .ok (.imul, 1) := by decide +kernel
theorem dX10_leaves_60 : decode cX10_leaves 60 = .ok (.iload 5, 2) := by decide +kernel
theorem dX10_leaves_62 : decode cX10_leaves 62 = .ok (.iadd, 1) := by decide +kernel
theorem dX10_leaves_63 : decode cX10_leaves 63 = .ok (.aload_n 0, 1) := by decide +kernel
theorem dX10_leaves_64 : decode cX10_leaves 64 = .ok (.getfield 81, 3) := by decide +kernel
theorem dX10_leaves_67 : decode cX10_leaves 67 = .ok (.bipush 8, 2) := by decide +kernel
theorem dX10_leaves_69 : decode cX10_leaves 69 = .ok (.iload_n 1, 1) := by decide +kernel
theorem dX10_leaves_70 : decode cX10_leaves 70 = .ok (.imul, 1) := by decide +kernel
theorem dX10_leaves_71 : decode cX10_leaves 71 = .ok (.iload 5, 2) := by decide +kernel
theorem dX10_leaves_73 : decode cX10_leaves 73 = .ok (.iadd, 1) := by decide +kernel
theorem dX10_leaves_74 : decode cX10_leaves 74 = .ok (.iconst 1, 1) := by decide +kernel
theorem dX10_leaves_75 : decode cX10_leaves 75 = .ok (.iadd, 1) := by decide +kernel
theorem dX10_leaves_76 : decode cX10_leaves 76 = .ok (.iaload, 1) := by decide +kernel
theorem dX10_leaves_77 : decode cX10_leaves 77 = .ok (.iastore, 1) := by decide +kernel
theorem dX10_leaves_78 : decode cX10_leaves 78 = .ok (.iinc 5 1, 3) := by decide +kernel
theorem dX10_leaves_81 : decode cX10_leaves 81 = .ok (.goto (-40), 3) := by decide +kernel
theorem dX10_leaves_84 : decode cX10_leaves 84 = .ok (.return_, 1) := by decide +kernel
theorem dX10_everyOf_0 : decode cX10_everyOf 0 = .ok (.iload_n 1, 1) := by decide +kernel
theorem dX10_everyOf_1 : decode cX10_everyOf 1 = .ok (.aload_n 0, 1) := by decide +kernel
theorem dX10_everyOf_2 : decode cX10_everyOf 2 = .ok (.getfield 102, 3) := by decide +kernel
theorem dX10_everyOf_5 : decode cX10_everyOf 5 = .ok (.if_icmp .ne 10, 3) := by decide +kernel
theorem dX10_everyOf_8 : decode cX10_everyOf 8 = .ok (.aload_n 0, 1) := by decide +kernel
theorem dX10_everyOf_9 : decode cX10_everyOf 9 = .ok (.getfield 331, 3) := by decide +kernel
theorem dX10_everyOf_12 : decode cX10_everyOf 12 = .ok (.goto 9, 3) := by decide +kernel
theorem dX10_everyOf_15 : decode cX10_everyOf 15 = .ok (.aload_n 0, 1) := by decide +kernel
theorem dX10_everyOf_16 : decode cX10_everyOf 16 = .ok (.getfield 34, 3) := by decide +kernel
theorem dX10_everyOf_19 : decode cX10_everyOf 19 = .ok (.iload_n 1, 1) := by decide +kernel
theorem dX10_everyOf_20 : decode cX10_everyOf 20 = .ok (.iaload, 1) := by decide +kernel
theorem dX10_everyOf_21 : decode cX10_everyOf 21 = .ok (.ireturn, 1) := by decide +kernel
theorem dX10_calls_0 : decode cX10_calls 0 = .ok (.aload_n 0, 1) := by decide +kernel
theorem dX10_calls_1 : decode cX10_calls 1 = .ok (.iload_n 1, 1) := by decide +kernel
theorem dX10_calls_2 : decode cX10_calls 2 = .ok (.iload_n 2, 1) := by decide +kernel
theorem dX10_calls_3 : decode cX10_calls 3 = .ok (.invokevirtual 328, 3) := by decide +kernel
theorem dX10_calls_6 : decode cX10_calls 6 = .ok (.istore 4, 2) := by decide +kernel
theorem dX10_calls_8 : decode cX10_calls 8 = .ok (.aload_n 0, 1) := by decide +kernel
theorem dX10_calls_9 : decode cX10_calls 9 = .ok (.getfield 65, 3) := by decide +kernel
theorem dX10_calls_12 : decode cX10_calls 12 = .ok (.iconst 0, 1) := by decide +kernel
theorem dX10_calls_13 : decode cX10_calls 13 = .ok (.aload_n 0, 1) := by decide +kernel
theorem dX10_calls_14 : decode cX10_calls 14 = .ok (.getfield 22, 3) := by decide +kernel
theorem dX10_calls_17 : decode cX10_calls 17 = .ok (.iload_n 2, 1) := by decide +kernel
theorem dX10_calls_18 : decode cX10_calls 18 = .ok (.iaload, 1) := by decide +kernel
theorem dX10_calls_19 : decode cX10_calls 19 = .ok (.i2l, 1) := by decide +kernel
theorem dX10_calls_20 : decode cX10_calls 20 = .ok (.lastore, 1) := by decide +kernel
theorem dX10_calls_21 : decode cX10_calls 21 = .ok (.aload_n 0, 1) := by decide +kernel
theorem dX10_calls_22 : decode cX10_calls 22 = .ok (.getfield 65, 3) := by decide +kernel
theorem dX10_calls_25 : decode cX10_calls 25 = .ok (.iconst 1, 1) := by decide +kernel
theorem dX10_calls_26 : decode cX10_calls 26 = .ok (.aload_n 0, 1) := by decide +kernel
theorem dX10_calls_27 : decode cX10_calls 27 = .ok (.getfield 87, 3) := by decide +kernel
theorem dX10_calls_30 : decode cX10_calls 30 = .ok (.bipush 8, 2) := by decide +kernel
theorem dX10_calls_32 : decode cX10_calls 32 = .ok (.iload_n 1, 1) := by decide +kernel
theorem dX10_calls_33 : decode cX10_calls 33 = .ok (.imul, 1) := by decide +kernel
theorem dX10_calls_34 : decode cX10_calls 34 = .ok (.iload_n 2, 1) := by decide +kernel
theorem dX10_calls_35 : decode cX10_calls 35 = .ok (.iadd, 1) := by decide +kernel
theorem dX10_calls_36 : decode cX10_calls 36 = .ok (.iaload, 1) := by decide +kernel
theorem dX10_calls_37 : decode cX10_calls 37 = .ok (.i2l, 1) := by decide +kernel
theorem dX10_calls_38 : decode cX10_calls 38 = .ok (.lastore, 1) := by decide +kernel
theorem dX10_calls_39 : decode cX10_calls 39 = .ok (.aload_n 0, 1) := by decide +kernel
theorem dX10_calls_40 : decode cX10_calls 40 = .ok (.getfield 65, 3) := by decide +kernel
theorem dX10_calls_43 : decode cX10_calls 43 = .ok (.iconst 2, 1) := by decide +kernel
theorem dX10_calls_44 : decode cX10_calls 44 = .ok (.aload_n 0, 1) := by decide +kernel
theorem dX10_calls_45 : decode cX10_calls 45 = .ok (.getfield 90, 3) := by decide +kernel
theorem dX10_calls_48 : decode cX10_calls 48 = .ok (.bipush 8, 2) := by decide +kernel
theorem dX10_calls_50 : decode cX10_calls 50 = .ok (.iload_n 1, 1) := by decide +kernel
theorem dX10_calls_51 : decode cX10_calls 51 = .ok (.imul, 1) := by decide +kernel
theorem dX10_calls_52 : decode cX10_calls 52 = .ok (.iload_n 2, 1) := by decide +kernel
theorem dX10_calls_53 : decode cX10_calls 53 = .ok (.iadd, 1) := by decide +kernel
theorem dX10_calls_54 : decode cX10_calls 54 = .ok (.iaload, 1) := by decide +kernel
theorem dX10_calls_55 : decode cX10_calls 55 = .ok (.i2l, 1) := by decide +kernel
theorem dX10_calls_56 : decode cX10_calls 56 = .ok (.lastore, 1) := by decide +kernel
theorem dX10_calls_57 : decode cX10_calls 57 = .ok (.aload_n 0, 1) := by decide +kernel
theorem dX10_calls_58 : decode cX10_calls 58 = .ok (.getfield 65, 3) := by decide +kernel
theorem dX10_calls_61 : decode cX10_calls 61 = .ok (.iconst 3, 1) := by decide +kernel
theorem dX10_calls_62 : decode cX10_calls 62 = .ok (.aload_n 0, 1) := by decide +kernel
theorem dX10_calls_63 : decode cX10_calls 63 = .ok (.getfield 72, 3) := by decide +kernel
theorem dX10_calls_66 : decode cX10_calls 66 = .ok (.iload_n 1, 1) := by decide +kernel
theorem dX10_calls_67 : decode cX10_calls 67 = .ok (.iaload, 1) := by decide +kernel
theorem dX10_calls_68 : decode cX10_calls 68 = .ok (.aload_n 0, 1) := by decide +kernel
theorem dX10_calls_69 : decode cX10_calls 69 = .ok (.getfield 19, 3) := by decide +kernel
theorem dX10_calls_72 : decode cX10_calls 72 = .ok (.iload_n 2, 1) := by decide +kernel
theorem dX10_calls_73 : decode cX10_calls 73 = .ok (.iaload, 1) := by decide +kernel
theorem dX10_calls_74 : decode cX10_calls 74 = .ok (.isub, 1) := by decide +kernel
theorem dX10_calls_75 : decode cX10_calls 75 = .ok (.i2l, 1) := by decide +kernel
theorem dX10_calls_76 : decode cX10_calls 76 = .ok (.lastore, 1) := by decide +kernel
theorem dX10_calls_77 : decode cX10_calls 77 = .ok (.aload_n 0, 1) := by decide +kernel
theorem dX10_calls_78 : decode cX10_calls 78 = .ok (.getfield 65, 3) := by decide +kernel
theorem dX10_calls_81 : decode cX10_calls 81 = .ok (.iconst 4, 1) := by decide +kernel
theorem dX10_calls_82 : decode cX10_calls 82 = .ok (.iload_n 3, 1) := by decide +kernel
theorem dX10_calls_83 : decode cX10_calls 83 = .ok (.i2l, 1) := by decide +kernel
theorem dX10_calls_84 : decode cX10_calls 84 = .ok (.lastore, 1) := by decide +kernel
theorem dX10_calls_85 : decode cX10_calls 85 = .ok (.aload_n 0, 1) := by decide +kernel
theorem dX10_calls_86 : decode cX10_calls 86 = .ok (.getfield 65, 3) := by decide +kernel
theorem dX10_calls_89 : decode cX10_calls 89 = .ok (.iconst 5, 1) := by decide +kernel
theorem dX10_calls_90 : decode cX10_calls 90 = .ok (.iload 4, 2) := by decide +kernel
theorem dX10_calls_92 : decode cX10_calls 92 = .ok (.iconst (-1), 1) := by decide +kernel
theorem dX10_calls_93 : decode cX10_calls 93 = .ok (.if_icmp .ne 9, 3) := by decide +kernel
theorem dX10_calls_96 : decode cX10_calls 96 = .ok (.ldc2_w 334, 3) := by decide +kernel
theorem dX10_calls_99 : decode cX10_calls 99 = .ok (.goto 6, 3) := by decide +kernel
theorem dX10_calls_102 : decode cX10_calls 102 = .ok (.iload 4, 2) := by decide +kernel
theorem dX10_calls_104 : decode cX10_calls 104 = .ok (.i2l, 1) := by decide +kernel
theorem dX10_calls_105 : decode cX10_calls 105 = .ok (.lastore, 1) := by decide +kernel
theorem dX10_calls_106 : decode cX10_calls 106 = .ok (.aload_n 0, 1) := by decide +kernel
theorem dX10_calls_107 : decode cX10_calls 107 = .ok (.getfield 65, 3) := by decide +kernel
theorem dX10_calls_110 : decode cX10_calls 110 = .ok (.bipush 6, 2) := by decide +kernel
theorem dX10_calls_112 : decode cX10_calls 112 = .ok (.aload_n 0, 1) := by decide +kernel
theorem dX10_calls_113 : decode cX10_calls 113 = .ok (.getfield 72, 3) := by decide +kernel
theorem dX10_calls_116 : decode cX10_calls 116 = .ok (.iload_n 1, 1) := by decide +kernel
theorem dX10_calls_117 : decode cX10_calls 117 = .ok (.iaload, 1) := by decide +kernel
theorem dX10_calls_118 : decode cX10_calls 118 = .ok (.i2l, 1) := by decide +kernel
theorem dX10_calls_119 : decode cX10_calls 119 = .ok (.lastore, 1) := by decide +kernel
theorem dX10_calls_120 : decode cX10_calls 120 = .ok (.return_, 1) := by decide +kernel
theorem dX10_within_0 : decode cX10_within 0 = .ok (.aload_n 0, 1) := by decide +kernel
theorem dX10_within_1 : decode cX10_within 1 = .ok (.iload_n 1, 1) := by decide +kernel
theorem dX10_within_2 : decode cX10_within 2 = .ok (.invokevirtual 336, 3) := by decide +kernel
theorem dX10_within_5 : decode cX10_within 5 = .ok (.ifCond .eq 11, 3) := by decide +kernel
theorem dX10_within_8 : decode cX10_within 8 = .ok (.aload_n 0, 1) := by decide +kernel
theorem dX10_within_9 : decode cX10_within 9 = .ok (.iload_n 1, 1) := by decide +kernel
theorem dX10_within_10 : decode cX10_within 10 = .ok (.invokevirtual 339, 3) := by decide +kernel
theorem dX10_within_13 : decode cX10_within 13 = .ok (.ifCond .ne 6, 3) := by decide +kernel
theorem dX10_within_16 : decode cX10_within 16 = .ok (.iload 4, 2) := by decide +kernel
theorem dX10_within_18 : decode cX10_within 18 = .ok (.ireturn, 1) := by decide +kernel
theorem dX10_within_19 : decode cX10_within 19 = .ok (.iload_n 2, 1) := by decide +kernel
theorem dX10_within_20 : decode cX10_within 20 = .ok (.i2l, 1) := by decide +kernel
theorem dX10_within_21 : decode cX10_within 21 = .ok (.iload_n 3, 1) := by decide +kernel
theorem dX10_within_22 : decode cX10_within 22 = .ok (.i2l, 1) := by decide +kernel
theorem dX10_within_23 : decode cX10_within 23 = .ok (.aload_n 0, 1) := by decide +kernel
theorem dX10_within_24 : decode cX10_within 24 = .ok (.getfield 69, 3) := by decide +kernel
theorem dX10_within_27 : decode cX10_within 27 = .ok (.iconst 0, 1) := by decide +kernel
theorem dX10_within_28 : decode cX10_within 28 = .ok (.laload, 1) := by decide +kernel
theorem dX10_within_29 : decode cX10_within 29 = .ok (.invokestatic 342, 3) := by decide +kernel
theorem dX10_within_32 : decode cX10_within 32 = .ok (.invokestatic 346, 3) := by decide +kernel
theorem dX10_within_35 : decode cX10_within 35 = .ok (.l2i, 1) := by decide +kernel
theorem dX10_within_36 : decode cX10_within 36 = .ok (.ireturn, 1) := by decide +kernel
theorem dX10_mayRide_0 : decode cX10_mayRide 0 = .ok (.aload_n 0, 1) := by decide +kernel
theorem dX10_mayRide_1 : decode cX10_mayRide 1 = .ok (.getfield 349, 3) := by decide +kernel
theorem dX10_mayRide_4 : decode cX10_mayRide 4 = .ok (.iconst 3, 1) := by decide +kernel
theorem dX10_mayRide_5 : decode cX10_mayRide 5 = .ok (.if_icmp .ne 5, 3) := by decide +kernel
theorem dX10_mayRide_8 : decode cX10_mayRide 8 = .ok (.iconst 1, 1) := by decide +kernel
theorem dX10_mayRide_9 : decode cX10_mayRide 9 = .ok (.ireturn, 1) := by decide +kernel
theorem dX10_mayRide_10 : decode cX10_mayRide 10 = .ok (.aload_n 0, 1) := by decide +kernel
theorem dX10_mayRide_11 : decode cX10_mayRide 11 = .ok (.iload_n 1, 1) := by decide +kernel
theorem dX10_mayRide_12 : decode cX10_mayRide 12 = .ok (.iload_n 2, 1) := by decide +kernel
theorem dX10_mayRide_13 : decode cX10_mayRide 13 = .ok (.aload_n 0, 1) := by decide +kernel
theorem dX10_mayRide_14 : decode cX10_mayRide 14 = .ok (.getfield 40, 3) := by decide +kernel
theorem dX10_mayRide_17 : decode cX10_mayRide 17 = .ok (.iload_n 3, 1) := by decide +kernel
theorem dX10_mayRide_18 : decode cX10_mayRide 18 = .ok (.iaload, 1) := by decide +kernel
theorem dX10_mayRide_19 : decode cX10_mayRide 19 = .ok (.invokevirtual 352, 3) := by decide +kernel
theorem dX10_mayRide_22 : decode cX10_mayRide 22 = .ok (.aload_n 0, 1) := by decide +kernel
theorem dX10_mayRide_23 : decode cX10_mayRide 23 = .ok (.iconst 0, 1) := by decide +kernel
theorem dX10_mayRide_24 : decode cX10_mayRide 24 = .ok (.invokevirtual 336, 3) := by decide +kernel
theorem dX10_mayRide_27 : decode cX10_mayRide 27 = .ok (.ifCond .eq 11, 3) := by decide +kernel
theorem dX10_mayRide_30 : decode cX10_mayRide 30 = .ok (.aload_n 0, 1) := by decide +kernel
theorem dX10_mayRide_31 : decode cX10_mayRide 31 = .ok (.iconst 0, 1) := by decide +kernel
theorem dX10_mayRide_32 : decode cX10_mayRide 32 = .ok (.invokevirtual 339, 3) := by decide +kernel
theorem dX10_mayRide_35 : decode cX10_mayRide 35 = .ok (.ifCond .ne 29, 3) := by decide +kernel
theorem dX10_mayRide_38 : decode cX10_mayRide 38 = .ok (.aload_n 0, 1) := by decide +kernel
theorem dX10_mayRide_39 : decode cX10_mayRide 39 = .ok (.getfield 87, 3) := by decide +kernel
theorem dX10_mayRide_42 : decode cX10_mayRide 42 = .ok (.bipush 8, 2) := by decide +kernel
theorem dX10_mayRide_44 : decode cX10_mayRide 44 = .ok (.iload_n 1, 1) := by decide +kernel
theorem dX10_mayRide_45 : decode cX10_mayRide 45 = .ok (.imul, 1) := by decide +kernel
theorem dX10_mayRide_46 : decode cX10_mayRide 46 = .ok (.iload_n 2, 1) := by decide +kernel
theorem dX10_mayRide_47 : decode cX10_mayRide 47 = .ok (.iadd, 1) := by decide +kernel
theorem dX10_mayRide_48 : decode cX10_mayRide 48 = .ok (.iaload, 1) := by decide +kernel
theorem dX10_mayRide_49 : decode cX10_mayRide 49 = .ok (.aload_n 0, 1) := by decide +kernel
theorem dX10_mayRide_50 : decode cX10_mayRide 50 = .ok (.getfield 40, 3) := by decide +kernel
theorem dX10_mayRide_53 : decode cX10_mayRide 53 = .ok (.iload_n 3, 1) := by decide +kernel
theorem dX10_mayRide_54 : decode cX10_mayRide 54 = .ok (.iaload, 1) := by decide +kernel
theorem dX10_mayRide_55 : decode cX10_mayRide 55 = .ok (.if_icmp .lt 7, 3) := by decide +kernel
theorem dX10_mayRide_58 : decode cX10_mayRide 58 = .ok (.iconst 1, 1) := by decide +kernel
theorem dX10_mayRide_59 : decode cX10_mayRide 59 = .ok (.goto 4, 3) := by decide +kernel
theorem dX10_mayRide_62 : decode cX10_mayRide 62 = .ok (.iconst 0, 1) := by decide +kernel
theorem dX10_mayRide_63 : decode cX10_mayRide 63 = .ok (.ireturn, 1) := by decide +kernel
theorem dX10_mayRide_64 : decode cX10_mayRide 64 = .ok (.aload_n 0, 1) := by decide +kernel
theorem dX10_mayRide_65 : decode cX10_mayRide 65 = .ok (.getfield 69, 3) := by decide +kernel
theorem dX10_mayRide_68 : decode cX10_mayRide 68 = .ok (.iconst 0, 1) := by decide +kernel
theorem dX10_mayRide_69 : decode cX10_mayRide 69 = .ok (.laload, 1) := by decide +kernel
theorem dX10_mayRide_70 : decode cX10_mayRide 70 = .ok (.lconst 0, 1) := by decide +kernel
theorem dX10_mayRide_71 : decode cX10_mayRide 71 = .ok (.lcmp, 1) := by decide +kernel
theorem dX10_mayRide_72 : decode cX10_mayRide 72 = .ok (.ifCond .eq 7, 3) := by decide +kernel
theorem dX10_mayRide_75 : decode cX10_mayRide 75 = .ok (.iconst 1, 1) := by decide +kernel
theorem dX10_mayRide_76 : decode cX10_mayRide 76 = .ok (.goto 4, 3) := by decide +kernel
theorem dX10_mayRide_79 : decode cX10_mayRide 79 = .ok (.iconst 0, 1) := by decide +kernel
theorem dX10_mayRide_80 : decode cX10_mayRide 80 = .ok (.ireturn, 1) := by decide +kernel
theorem dX10_doesLet_0 : decode cX10_doesLet 0 = .ok (.iconst 0, 1) := by decide +kernel
theorem dX10_doesLet_1 : decode cX10_doesLet 1 = .ok (.istore_n 2, 1) := by decide +kernel
theorem dX10_doesLet_2 : decode cX10_doesLet 2 = .ok (.iload_n 2, 1) := by decide +kernel
theorem dX10_doesLet_3 : decode cX10_doesLet 3 = .ok (.aload_n 0, 1) := by decide +kernel
theorem dX10_doesLet_4 : decode cX10_doesLet 4 = .ok (.getfield 13, 3) := by decide +kernel
theorem dX10_doesLet_7 : decode cX10_doesLet 7 = .ok (.iconst 2, 1) := by decide +kernel
theorem dX10_doesLet_8 : decode cX10_doesLet 8 = .ok (.iaload, 1) := by decide +kernel
theorem dX10_doesLet_9 : decode cX10_doesLet 9 = .ok (.if_icmp .ge 46, 3) := by decide +kernel
theorem dX10_doesLet_12 : decode cX10_doesLet 12 = .ok (.aload_n 0, 1) := by decide +kernel
theorem dX10_doesLet_13 : decode cX10_doesLet 13 = .ok (.getfield 349, 3) := by decide +kernel
theorem dX10_doesLet_16 : decode cX10_doesLet 16 = .ok (.iconst 1, 1) := by decide +kernel
theorem dX10_doesLet_17 : decode cX10_doesLet 17 = .ok (.if_icmp .eq 38, 3) := by decide +kernel
theorem dX10_doesLet_20 : decode cX10_doesLet 20 = .ok (.aload_n 0, 1) := by decide +kernel
theorem dX10_doesLet_21 : decode cX10_doesLet 21 = .ok (.getfield 43, 3) := by decide +kernel
theorem dX10_doesLet_24 : decode cX10_doesLet 24 = .ok (.iload_n 2, 1) := by decide +kernel
theorem dX10_doesLet_25 : decode cX10_doesLet 25 = .ok (.iaload, 1) := by decide +kernel
theorem dX10_doesLet_26 : decode cX10_doesLet 26 = .ok (.iload_n 1, 1) := by decide +kernel
theorem dX10_doesLet_27 : decode cX10_doesLet 27 = .ok (.if_icmp .ne 22, 3) := by decide +kernel
theorem dX10_doesLet_30 : decode cX10_doesLet 30 = .ok (.aload_n 0, 1) := by decide +kernel
theorem dX10_doesLet_31 : decode cX10_doesLet 31 = .ok (.getfield 356, 3) := by decide +kernel
theorem dX10_doesLet_34 : decode cX10_doesLet 34 = .ok (.aload_n 0, 1) := by decide +kernel
theorem dX10_doesLet_35 : decode cX10_doesLet 35 = .ok (.getfield 46, 3) := by decide +kernel
theorem dX10_doesLet_38 : decode cX10_doesLet 38 = .ok (.iload_n 2, 1) := by decide +kernel
theorem dX10_doesLet_39 : decode cX10_doesLet 39 = .ok (.iaload, 1) := by decide +kernel
theorem dX10_doesLet_40 : decode cX10_doesLet 40 = .ok (.ishr, 1) := by decide +kernel
theorem dX10_doesLet_41 : decode cX10_doesLet 41 = .ok (.iconst 1, 1) := by decide +kernel
theorem dX10_doesLet_42 : decode cX10_doesLet 42 = .ok (.iand, 1) := by decide +kernel
theorem dX10_doesLet_43 : decode cX10_doesLet 43 = .ok (.iconst 1, 1) := by decide +kernel
theorem dX10_doesLet_44 : decode cX10_doesLet 44 = .ok (.if_icmp .ne 5, 3) := by decide +kernel
theorem dX10_doesLet_47 : decode cX10_doesLet 47 = .ok (.iconst 1, 1) := by decide +kernel
theorem dX10_doesLet_48 : decode cX10_doesLet 48 = .ok (.ireturn, 1) := by decide +kernel
theorem dX10_doesLet_49 : decode cX10_doesLet 49 = .ok (.iinc 2 1, 3) := by decide +kernel
theorem dX10_doesLet_52 : decode cX10_doesLet 52 = .ok (.goto (-50), 3) := by decide +kernel
theorem dX10_doesLet_55 : decode cX10_doesLet 55 = .ok (.iconst 0, 1) := by decide +kernel
theorem dX10_doesLet_56 : decode cX10_doesLet 56 = .ok (.ireturn, 1) := by decide +kernel
theorem dX10_nextOn_0 : decode cX10_nextOn 0 = .ok (.iconst (-1), 1) := by decide +kernel
