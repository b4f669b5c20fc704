theorem dX10_init_0 : decode cX10_init 0 = .ok (.aload_n 0, 1) := by decide +kernel
theorem dX10_init_1 : decode cX10_init 1 = .ok (.invokespecial 1, 3) := by decide +kernel
theorem dX10_init_4 : decode cX10_init 4 = .ok (.aload_n 0, 1) := by decide +kernel
theorem dX10_init_5 : decode cX10_init 5 = .ok (.iconst 3, 1) := by decide +kernel
theorem dX10_init_6 : decode cX10_init 6 = .ok (.newarray .int, 2) := by decide +kernel
theorem dX10_init_8 : decode cX10_init 8 = .ok (.putfield 7, 3) := by decide +kernel
theorem dX10_init_11 : decode cX10_init 11 = .ok (.aload_n 0, 1) := by decide +kernel
theorem dX10_init_12 : decode cX10_init 12 = .ok (.iconst 3, 1) := by decide +kernel
theorem dX10_init_13 : decode cX10_init 13 = .ok (.newarray .int, 2) := by decide +kernel
theorem dX10_init_15 : decode cX10_init 15 = .ok (.putfield 13, 3) := by decide +kernel
theorem dX10_init_18 : decode cX10_init 18 = .ok (.aload_n 0, 1) := by decide +kernel
theorem dX10_init_19 : decode cX10_init 19 = .ok (.iconst 3, 1) := by decide +kernel
theorem dX10_init_20 : decode cX10_init 20 = .ok (.newarray .int, 2) := by decide +kernel
theorem dX10_init_22 : decode cX10_init 22 = .ok (.putfield 16, 3) := by decide +kernel
theorem dX10_init_25 : decode cX10_init 25 = .ok (.aload_n 0, 1) := by decide +kernel
theorem dX10_init_26 : decode cX10_init 26 = .ok (.iconst 3, 1) := by decide +kernel
theorem dX10_init_27 : decode cX10_init 27 = .ok (.newarray .int, 2) := by decide +kernel
theorem dX10_init_29 : decode cX10_init 29 = .ok (.putfield 19, 3) := by decide +kernel
theorem dX10_init_32 : decode cX10_init 32 = .ok (.aload_n 0, 1) := by decide +kernel
theorem dX10_init_33 : decode cX10_init 33 = .ok (.iconst 3, 1) := by decide +kernel
theorem dX10_init_34 : decode cX10_init 34 = .ok (.newarray .int, 2) := by decide +kernel
theorem dX10_init_36 : decode cX10_init 36 = .ok (.putfield 22, 3) := by decide +kernel
theorem dX10_init_39 : decode cX10_init 39 = .ok (.aload_n 0, 1) := by decide +kernel
theorem dX10_init_40 : decode cX10_init 40 = .ok (.iconst 3, 1) := by decide +kernel
theorem dX10_init_41 : decode cX10_init 41 = .ok (.newarray .int, 2) := by decide +kernel
theorem dX10_init_43 : decode cX10_init 43 = .ok (.putfield 25, 3) := by decide +kernel
theorem dX10_init_46 : decode cX10_init 46 = .ok (.aload_n 0, 1) := by decide +kernel
theorem dX10_init_47 : decode cX10_init 47 = .ok (.iconst 3, 1) := by decide +kernel
theorem dX10_init_48 : decode cX10_init 48 = .ok (.newarray .int, 2) := by decide +kernel
theorem dX10_init_50 : decode cX10_init 50 = .ok (.putfield 28, 3) := by decide +kernel
theorem dX10_init_53 : decode cX10_init 53 = .ok (.aload_n 0, 1) := by decide +kernel
theorem dX10_init_54 : decode cX10_init 54 = .ok (.bipush 30, 2) := by decide +kernel
theorem dX10_init_56 : decode cX10_init 56 = .ok (.newarray .int, 2) := by decide +kernel
theorem dX10_init_58 : decode cX10_init 58 = .ok (.putfield 31, 3) := by decide +kernel
theorem dX10_init_61 : decode cX10_init 61 = .ok (.aload_n 0, 1) := by decide +kernel
theorem dX10_init_62 : decode cX10_init 62 = .ok (.bipush 30, 2) := by decide +kernel
theorem dX10_init_64 : decode cX10_init 64 = .ok (.newarray .int, 2) := by decide +kernel
theorem dX10_init_66 : decode cX10_init 66 = .ok (.putfield 34, 3) := by decide +kernel
theorem dX10_init_69 : decode cX10_init 69 = .ok (.aload_n 0, 1) := by decide +kernel
theorem dX10_init_70 : decode cX10_init 70 = .ok (.bipush 30, 2) := by decide +kernel
theorem dX10_init_72 : decode cX10_init 72 = .ok (.newarray .int, 2) := by decide +kernel
theorem dX10_init_74 : decode cX10_init 74 = .ok (.putfield 37, 3) := by decide +kernel
theorem dX10_init_77 : decode cX10_init 77 = .ok (.aload_n 0, 1) := by decide +kernel
theorem dX10_init_78 : decode cX10_init 78 = .ok (.bipush 30, 2) := by decide +kernel
theorem dX10_init_80 : decode cX10_init 80 = .ok (.newarray .int, 2) := by decide +kernel
theorem dX10_init_82 : decode cX10_init 82 = .ok (.putfield 40, 3) := by decide +kernel
theorem dX10_init_85 : decode cX10_init 85 = .ok (.aload_n 0, 1) := by decide +kernel
theorem dX10_init_86 : decode cX10_init 86 = .ok (.bipush 30, 2) := by decide +kernel
theorem dX10_init_88 : decode cX10_init 88 = .ok (.newarray .int, 2) := by decide +kernel
theorem dX10_init_90 : decode cX10_init 90 = .ok (.putfield 43, 3) := by decide +kernel
theorem dX10_init_93 : decode cX10_init 93 = .ok (.aload_n 0, 1) := by decide +kernel
theorem dX10_init_94 : decode cX10_init 94 = .ok (.bipush 30, 2) := by decide +kernel
theorem dX10_init_96 : decode cX10_init 96 = .ok (.newarray .int, 2) := by decide +kernel
theorem dX10_init_98 : decode cX10_init 98 = .ok (.putfield 46, 3) := by decide +kernel
theorem dX10_init_101 : decode cX10_init 101 = .ok (.aload_n 0, 1) := by decide +kernel
theorem dX10_init_102 : decode cX10_init 102 = .ok (.bipush 30, 2) := by decide +kernel
theorem dX10_init_104 : decode cX10_init 104 = .ok (.newarray .int, 2) := by decide +kernel
theorem dX10_init_106 : decode cX10_init 106 = .ok (.putfield 49, 3) := by decide +kernel
theorem dX10_init_109 : decode cX10_init 109 = .ok (.aload_n 0, 1) := by decide +kernel
theorem dX10_init_110 : decode cX10_init 110 = .ok (.bipush 30, 2) := by decide +kernel
theorem dX10_init_112 : decode cX10_init 112 = .ok (.newarray .int, 2) := by decide +kernel
theorem dX10_init_114 : decode cX10_init 114 = .ok (.putfield 52, 3) := by decide +kernel
theorem dX10_init_117 : decode cX10_init 117 = .ok (.aload_n 0, 1) := by decide +kernel
theorem dX10_init_118 : decode cX10_init 118 = .ok (.sipush 6000, 3) := by decide +kernel
theorem dX10_init_121 : decode cX10_init 121 = .ok (.newarray .int, 2) := by decide +kernel
theorem dX10_init_123 : decode cX10_init 123 = .ok (.putfield 55, 3) := by decide +kernel
theorem dX10_init_126 : decode cX10_init 126 = .ok (.aload_n 0, 1) := by decide +kernel
theorem dX10_init_127 : decode cX10_init 127 = .ok (.sipush 6000, 3) := by decide +kernel
theorem dX10_init_130 : decode cX10_init 130 = .ok (.newarray .int, 2) := by decide +kernel
theorem dX10_init_132 : decode cX10_init 132 = .ok (.putfield 58, 3) := by decide +kernel
theorem dX10_init_135 : decode cX10_init 135 = .ok (.aload_n 0, 1) := by decide +kernel
theorem dX10_init_136 : decode cX10_init 136 = .ok (.sipush 6000, 3) := by decide +kernel
theorem dX10_init_139 : decode cX10_init 139 = .ok (.newarray .int, 2) := by decide +kernel
theorem dX10_init_141 : decode cX10_init 141 = .ok (.putfield 61, 3) := by decide +kernel
theorem dX10_init_144 : decode cX10_init 144 = .ok (.aload_n 0, 1) := by decide +kernel
theorem dX10_init_145 : decode cX10_init 145 = .ok (.sipush 6000, 3) := by decide +kernel
theorem dX10_init_148 : decode cX10_init 148 = .ok (.newarray .int, 2) := by decide +kernel
theorem dX10_init_150 : decode cX10_init 150 = .ok (.putfield 64, 3) := by decide +kernel
theorem dX10_init_153 : decode cX10_init 153 = .ok (.aload_n 0, 1) := by decide +kernel
theorem dX10_init_154 : decode cX10_init 154 = .ok (.sipush 6000, 3) := by decide +kernel
theorem dX10_init_157 : decode cX10_init 157 = .ok (.newarray .int, 2) := by decide +kernel
theorem dX10_init_159 : decode cX10_init 159 = .ok (.putfield 67, 3) := by decide +kernel
theorem dX10_init_162 : decode cX10_init 162 = .ok (.aload_n 0, 1) := by decide +kernel
theorem dX10_init_163 : decode cX10_init 163 = .ok (.sipush 6000, 3) := by decide +kernel
theorem dX10_init_166 : decode cX10_init 166 = .ok (.newarray .int, 2) := by decide +kernel
theorem dX10_init_168 : decode cX10_init 168 = .ok (.putfield 70, 3) := by decide +kernel
theorem dX10_init_171 : decode cX10_init 171 = .ok (.aload_n 0, 1) := by decide +kernel
theorem dX10_init_172 : decode cX10_init 172 = .ok (.sipush 6000, 3) := by decide +kernel
theorem dX10_init_175 : decode cX10_init 175 = .ok (.newarray .int, 2) := by decide +kernel
theorem dX10_init_177 : decode cX10_init 177 = .ok (.putfield 73, 3) := by decide +kernel
theorem dX10_init_180 : decode cX10_init 180 = .ok (.aload_n 0, 1) := by decide +kernel
theorem dX10_init_181 : decode cX10_init 181 = .ok (.sipush 6000, 3) := by decide +kernel
theorem dX10_init_184 : decode cX10_init 184 = .ok (.newarray .int, 2) := by decide +kernel
theorem dX10_init_186 : decode cX10_init 186 = .ok (.putfield 76, 3) := by decide +kernel
theorem dX10_init_189 : decode cX10_init 189 = .ok (.aload_n 0, 1) := by decide +kernel
theorem dX10_init_190 : decode cX10_init 190 = .ok (.sipush 400, 3) := by decide +kernel
theorem dX10_init_193 : decode cX10_init 193 = .ok (.newarray .int, 2) := by decide +kernel
theorem dX10_init_195 : decode cX10_init 195 = .ok (.putfield 79, 3) := by decide +kernel
theorem dX10_init_198 : decode cX10_init 198 = .ok (.aload_n 0, 1) := by decide +kernel
theorem dX10_init_199 : decode cX10_init 199 = .ok (.iconst (-1), 1) := by decide +kernel
theorem dX10_init_200 : decode cX10_init 200 = .ok (.putfield 82, 3) := by decide +kernel
theorem dX10_init_203 : decode cX10_init 203 = .ok (.aload_n 0, 1) := by decide +kernel
theorem dX10_init_204 : decode cX10_init 204 = .ok (.bipush 64, 2) := by decide +kernel
theorem dX10_init_206 : decode cX10_init 206 = .ok (.newarray .int, 2) := by decide +kernel
theorem dX10_init_208 : decode cX10_init 208 = .ok (.putfield 86, 3) := by decide +kernel
theorem dX10_init_211 : decode cX10_init 211 = .ok (.aload_n 0, 1) := by decide +kernel
theorem dX10_init_212 : decode cX10_init 212 = .ok (.bipush 64, 2) := by decide +kernel
theorem dX10_init_214 : decode cX10_init 214 = .ok (.newarray .int, 2) := by decide +kernel
theorem dX10_init_216 : decode cX10_init 216 = .ok (.putfield 89, 3) := by decide +kernel
theorem dX10_init_219 : decode cX10_init 219 = .ok (.aload_n 0, 1) := by decide +kernel
theorem dX10_init_220 : decode cX10_init 220 = .ok (.bipush 8, 2) := by decide +kernel
theorem dX10_init_222 : decode cX10_init 222 = .ok (.newarray .int, 2) := by decide +kernel
theorem dX10_init_224 : decode cX10_init 224 = .ok (.putfield 92, 3) := by decide +kernel
theorem dX10_init_227 : decode cX10_init 227 = .ok (.aload_n 0, 1) := by decide +kernel
theorem dX10_init_228 : decode cX10_init 228 = .ok (.bipush 8, 2) := by decide +kernel
theorem dX10_init_230 : decode cX10_init 230 = .ok (.newarray .int, 2) := by decide +kernel
theorem dX10_init_232 : decode cX10_init 232 = .ok (.putfield 95, 3) := by decide +kernel
theorem dX10_init_235 : decode cX10_init 235 = .ok (.aload_n 0, 1) := by decide +kernel
theorem dX10_init_236 : decode cX10_init 236 = .ok (.sipush 512, 3) := by decide +kernel
theorem dX10_init_239 : decode cX10_init 239 = .ok (.newarray .int, 2) := by decide +kernel
theorem dX10_init_241 : decode cX10_init 241 = .ok (.putfield 98, 3) := by decide +kernel
theorem dX10_init_244 : decode cX10_init 244 = .ok (.aload_n 0, 1) := by decide +kernel
theorem dX10_init_245 : decode cX10_init 245 = .ok (.bipush 8, 2) := by decide +kernel
theorem dX10_init_247 : decode cX10_init 247 = .ok (.newarray .int, 2) := by decide +kernel
theorem dX10_init_249 : decode cX10_init 249 = .ok (.putfield 101, 3) := by decide +kernel
theorem dX10_init_252 : decode cX10_init 252 = .ok (.aload_n 0, 1) := by decide +kernel
theorem dX10_init_253 : decode cX10_init 253 = .ok (.bipush 8, 2) := by decide +kernel
theorem dX10_init_255 : decode cX10_init 255 = .ok (.newarray .int, 2) := by decide +kernel
theorem dX10_init_257 : decode cX10_init 257 = .ok (.putfield 104, 3) := by decide +kernel
theorem dX10_init_260 : decode cX10_init 260 = .ok (.aload_n 0, 1) := by decide +kernel
theorem dX10_init_261 : decode cX10_init 261 = .ok (.sipush 512, 3) := by decide +kernel
theorem dX10_init_264 : decode cX10_init 264 = .ok (.newarray .int, 2) := by decide +kernel
theorem dX10_init_266 : decode cX10_init 266 = .ok (.putfield 107, 3) := by decide +kernel
theorem dX10_init_269 : decode cX10_init 269 = .ok (.aload_n 0, 1) := by decide +kernel
theorem dX10_init_270 : decode cX10_init 270 = .ok (.bipush 8, 2) := by decide +kernel
theorem dX10_init_272 : decode cX10_init 272 = .ok (.newarray .int, 2) := by decide +kernel
theorem dX10_init_274 : decode cX10_init 274 = .ok (.putfield 110, 3) := by decide +kernel
theorem dX10_init_277 : decode cX10_init 277 = .ok (.aload_n 0, 1) := by decide +kernel
theorem dX10_init_278 : decode cX10_init 278 = .ok (.bipush 8, 2) := by decide +kernel
theorem dX10_init_280 : decode cX10_init 280 = .ok (.newarray .int, 2) := by decide +kernel
theorem dX10_init_282 : decode cX10_init 282 = .ok (.putfield 113, 3) := by decide +kernel
theorem dX10_init_285 : decode cX10_init 285 = .ok (.aload_n 0, 1) := by decide +kernel
theorem dX10_init_286 : decode cX10_init 286 = .ok (.bipush 6, 2) := by decide +kernel
theorem dX10_init_288 : decode cX10_init 288 = .ok (.newarray .int, 2) := by decide +kernel
theorem dX10_init_290 : decode cX10_init 290 = .ok (.putfield 116, 3) := by decide +kernel
theorem dX10_init_293 : decode cX10_init 293 = .ok (.aload_n 0, 1) := by decide +kernel
theorem dX10_init_294 : decode cX10_init 294 = .ok (.bipush 6, 2) := by decide +kernel
theorem dX10_init_296 : decode cX10_init 296 = .ok (.newarray .int, 2) := by decide +kernel
theorem dX10_init_298 : decode cX10_init 298 = .ok (.putfield 119, 3) := by decide +kernel
theorem dX10_init_301 : decode cX10_init 301 = .ok (.aload_n 0, 1) := by decide +kernel
theorem dX10_init_302 : decode cX10_init 302 = .ok (.bipush 6, 2) := by decide +kernel
theorem dX10_init_304 : decode cX10_init 304 = .ok (.newarray .int, 2) := by decide +kernel
theorem dX10_init_306 : decode cX10_init 306 = .ok (.putfield 122, 3) := by decide +kernel
theorem dX10_init_309 : decode cX10_init 309 = .ok (.aload_n 0, 1) := by decide +kernel
theorem dX10_init_310 : decode cX10_init 310 = .ok (.bipush 8, 2) := by decide +kernel
theorem dX10_init_312 : decode cX10_init 312 = .ok (.newarray .int, 2) := by decide +kernel
theorem dX10_init_314 : decode cX10_init 314 = .ok (.putfield 125, 3) := by decide +kernel
theorem dX10_init_317 : decode cX10_init 317 = .ok (.aload_n 0, 1) := by decide +kernel
theorem dX10_init_318 : decode cX10_init 318 = .ok (.bipush 8, 2) := by decide +kernel
theorem dX10_init_320 : decode cX10_init 320 = .ok (.newarray .int, 2) := by decide +kernel
theorem dX10_init_322 : decode cX10_init 322 = .ok (.putfield 128, 3) := by decide +kernel
theorem dX10_init_325 : decode cX10_init 325 = .ok (.aload_n 0, 1) := by decide +kernel
theorem dX10_init_326 : decode cX10_init 326 = .ok (.sipush 512, 3) := by decide +kernel
theorem dX10_init_329 : decode cX10_init 329 = .ok (.newarray .int, 2) := by decide +kernel
theorem dX10_init_331 : decode cX10_init 331 = .ok (.putfield 131, 3) := by decide +kernel
theorem dX10_init_334 : decode cX10_init 334 = .ok (.aload_n 0, 1) := by decide +kernel
theorem dX10_init_335 : decode cX10_init 335 = .ok (.bipush 8, 2) := by decide +kernel
theorem dX10_init_337 : decode cX10_init 337 = .ok (.newarray .int, 2) := by decide +kernel
theorem dX10_init_339 : decode cX10_init 339 = .ok (.putfield 134, 3) := by decide +kernel
theorem dX10_init_342 : decode cX10_init 342 = .ok (.aload_n 0, 1) := by decide +kernel
theorem dX10_init_343 : decode cX10_init 343 = .ok (.bipush 8, 2) := by decide +kernel
theorem dX10_init_345 : decode cX10_init 345 = .ok (.newarray .int, 2) := by decide +kernel
theorem dX10_init_347 : decode cX10_init 347 = .ok (.putfield 137, 3) := by decide +kernel
theorem dX10_init_350 : decode cX10_init 350 = .ok (.aload_n 0, 1) := by decide +kernel
theorem dX10_init_351 : decode cX10_init 351 = .ok (.bipush 8, 2) := by decide +kernel
theorem dX10_init_353 : decode cX10_init 353 = .ok (.newarray .int, 2) := by decide +kernel
theorem dX10_init_355 : decode cX10_init 355 = .ok (.putfield 140, 3) := by decide +kernel
theorem dX10_init_358 : decode cX10_init 358 = .ok (.aload_n 0, 1) := by decide +kernel
theorem dX10_init_359 : decode cX10_init 359 = .ok (.bipush 8, 2) := by decide +kernel
theorem dX10_init_361 : decode cX10_init 361 = .ok (.newarray .int, 2) := by decide +kernel
theorem dX10_init_363 : decode cX10_init 363 = .ok (.dup, 1) := by decide +kernel
theorem dX10_init_364 : decode cX10_init 364 = .ok (.iconst 0, 1) := by decide +kernel
theorem dX10_init_365 : decode cX10_init 365 = .ok (.iconst (-1), 1) := by decide +kernel
theorem dX10_init_366 : decode cX10_init 366 = .ok (.iastore, 1) := by decide +kernel
theorem dX10_init_367 : decode cX10_init 367 = .ok (.dup, 1) := by decide +kernel
theorem dX10_init_368 : decode cX10_init 368 = .ok (.iconst 1, 1) := by decide +kernel
theorem dX10_init_369 : decode cX10_init 369 = .ok (.iconst (-1), 1) := by decide +kernel
theorem dX10_init_370 : decode cX10_init 370 = .ok (.iastore, 1) := by decide +kernel
theorem dX10_init_371 : decode cX10_init 371 = .ok (.dup, 1) := by decide +kernel
theorem dX10_init_372 : decode cX10_init 372 = .ok (.iconst 2, 1) := by decide +kernel
theorem dX10_init_373 : decode cX10_init 373 = .ok (.iconst (-1), 1) := by decide +kernel
theorem dX10_init_374 : decode cX10_init 374 = .ok (.iastore, 1) := by decide +kernel
theorem dX10_init_375 : decode cX10_init 375 = .ok (.dup, 1) := by decide +kernel
theorem dX10_init_376 : decode cX10_init 376 = .ok (.iconst 3, 1) := by decide +kernel
theorem dX10_init_377 : decode cX10_init 377 = .ok (.iconst (-1), 1) := by decide +kernel
theorem dX10_init_378 : decode cX10_init 378 = .ok (.iastore, 1) := by decide +kernel
theorem dX10_init_379 : decode cX10_init 379 = .ok (.dup, 1) := by decide +kernel
theorem dX10_init_380 : decode cX10_init 380 = .ok (.iconst 4, 1) := by decide +kernel
theorem dX10_init_381 : decode cX10_init 381 = .ok (.iconst (-1), 1) := by decide +kernel
theorem dX10_init_382 : decode cX10_init 382 = .ok (.iastore, 1) := by decide +kernel
theorem dX10_init_383 : decode cX10_init 383 = .ok (.dup, 1) := by decide +kernel
theorem dX10_init_384 : decode cX10_init 384 = .ok (.iconst 5, 1) := by decide +kernel
theorem dX10_init_385 : decode cX10_init 385 = .ok (.iconst (-1), 1) := by decide +kernel
theorem dX10_init_386 : decode cX10_init 386 = .ok (.iastore, 1) := by decide +kernel
theorem dX10_init_387 : decode cX10_init 387 = .ok (.dup, 1) := by decide +kernel
theorem dX10_init_388 : decode cX10_init 388 = .ok (.bipush 6, 2) := by decide +kernel
theorem dX10_init_390 : decode cX10_init 390 = .ok (.iconst (-1), 1) := by decide +kernel
theorem dX10_init_391 : decode cX10_init 391 = .ok (.iastore, 1) := by decide +kernel
theorem dX10_init_392 : decode cX10_init 392 = .ok (.dup, 1) := by decide +kernel
theorem dX10_init_393 : decode cX10_init 393 = .ok (.bipush 7, 2) := by decide +kernel
theorem dX10_init_395 : decode cX10_init 395 = .ok (.iconst (-1), 1) := by decide +kernel
theorem dX10_init_396 : decode cX10_init 396 = .ok (.iastore, 1) := by decide +kernel
theorem dX10_init_397 : decode cX10_init 397 = .ok (.putfield 143, 3) := by decide +kernel
theorem dX10_init_400 : decode cX10_init 400 = .ok (.aload_n 0, 1) := by decide +kernel
theorem dX10_init_401 : decode cX10_init 401 = .ok (.bipush 8, 2) := by decide +kernel
theorem dX10_init_403 : decode cX10_init 403 = .ok (.newarray .int, 2) := by decide +kernel
theorem dX10_init_405 : decode cX10_init 405 = .ok (.putfield 146, 3) := by decide +kernel
theorem dX10_init_408 : decode cX10_init 408 = .ok (.aload_n 0, 1) := by decide +kernel
theorem dX10_init_409 : decode cX10_init 409 = .ok (.bipush 8, 2) := by decide +kernel
theorem dX10_init_411 : decode cX10_init 411 = .ok (.newarray .int, 2) := by decide +kernel
theorem dX10_init_413 : decode cX10_init 413 = .ok (.putfield 149, 3) := by decide +kernel
theorem dX10_init_416 : decode cX10_init 416 = .ok (.aload_n 0, 1) := by decide +kernel
theorem dX10_init_417 : decode cX10_init 417 = .ok (.bipush 8, 2) := by decide +kernel
theorem dX10_init_419 : decode cX10_init 419 = .ok (.newarray .int, 2) := by decide +kernel
theorem dX10_init_421 : decode cX10_init 421 = .ok (.putfield 152, 3) := by decide +kernel
theorem dX10_init_424 : decode cX10_init 424 = .ok (.aload_n 0, 1) := by decide +kernel
theorem dX10_init_425 : decode cX10_init 425 = .ok (.bipush 10, 2) := by decide +kernel
theorem dX10_init_427 : decode cX10_init 427 = .ok (.newarray .int, 2) := by decide +kernel
theorem dX10_init_429 : decode cX10_init 429 = .ok (.putfield 155, 3) := by decide +kernel
theorem dX10_init_432 : decode cX10_init 432 = .ok (.aload_n 0, 1) := by decide +kernel
theorem dX10_init_433 : decode cX10_init 433 = .ok (.bipush 8, 2) := by decide +kernel
theorem dX10_init_435 : decode cX10_init 435 = .ok (.newarray .int, 2) := by decide +kernel
theorem dX10_init_437 : decode cX10_init 437 = .ok (.putfield 158, 3) := by decide +kernel
theorem dX10_init_440 : decode cX10_init 440 = .ok (.aload_n 0, 1) := by decide +kernel
theorem dX10_init_441 : decode cX10_init 441 = .ok (.iconst 3, 1) := by decide +kernel
theorem dX10_init_442 : decode cX10_init 442 = .ok (.newarray .int, 2) := by decide +kernel
theorem dX10_init_444 : decode cX10_init 444 = .ok (.putfield 161, 3) := by decide +kernel
theorem dX10_init_447 : decode cX10_init 447 = .ok (.aload_n 0, 1) := by decide +kernel
theorem dX10_init_448 : decode cX10_init 448 = .ok (.iconst 3, 1) := by decide +kernel
theorem dX10_init_449 : decode cX10_init 449 = .ok (.newarray .int, 2) := by decide +kernel
theorem dX10_init_451 : decode cX10_init 451 = .ok (.putfield 164, 3) := by decide +kernel
theorem dX10_init_454 : decode cX10_init 454 = .ok (.return_, 1) := by decide +kernel
theorem dX10_isIn_0 : decode cX10_isIn 0 = .ok (.iload_n 0, 1) := by decide +kernel
theorem dX10_isIn_1 : decode cX10_isIn 1 = .ok (.iload_n 1, 1) := by decide +kernel
theorem dX10_isIn_2 : decode cX10_isIn 2 = .ok (.if_icmp .lt 12, 3) := by decide +kernel
theorem dX10_isIn_5 : decode cX10_isIn 5 = .ok (.iload_n 0, 1) := by decide +kernel
theorem dX10_isIn_6 : decode cX10_isIn 6 = .ok (.iload_n 2, 1) := by decide +kernel
theorem dX10_isIn_7 : decode cX10_isIn 7 = .ok (.if_icmp .gt 7, 3) := by decide +kernel
theorem dX10_isIn_10 : decode cX10_isIn 10 = .ok (.iconst 1, 1) := by decide +kernel
theorem dX10_isIn_11 : decode cX10_isIn 11 = .ok (.goto 4, 3) := by decide +kernel
theorem dX10_isIn_14 : decode cX10_isIn 14 = .ok (.iconst 0, 1) := by decide +kernel
theorem dX10_isIn_15 : decode cX10_isIn 15 = .ok (.ireturn, 1) := by decide +kernel
theorem dX10_isLog_0 : decode cX10_isLog 0 = .ok (.iload_n 1, 1) := by decide +kernel
theorem dX10_isLog_1 : decode cX10_isLog 1 = .ok (.ifCond .lt 21, 3) := by decide +kernel
theorem dX10_isLog_4 : decode cX10_isLog 4 = .ok (.iload_n 1, 1) := by decide +kernel
theorem dX10_isLog_5 : decode cX10_isLog 5 = .ok (.iconst 3, 1) := by decide +kernel
theorem dX10_isLog_6 : decode cX10_isLog 6 = .ok (.if_icmp .ge 16, 3) := by decide +kernel
theorem dX10_isLog_9 : decode cX10_isLog 9 = .ok (.aload_n 0, 1) := by decide +kernel
theorem dX10_isLog_10 : decode cX10_isLog 10 = .ok (.getfield 7, 3) := by decide +kernel
theorem dX10_isLog_13 : decode cX10_isLog 13 = .ok (.iload_n 1, 1) := by decide +kernel
theorem dX10_isLog_14 : decode cX10_isLog 14 = .ok (.iaload, 1) := by decide +kernel
theorem dX10_isLog_15 : decode cX10_isLog 15 = .ok (.ifCond .le 7, 3) := by decide +kernel
theorem dX10_isLog_18 : decode cX10_isLog 18 = .ok (.iconst 1, 1) := by decide +kernel
theorem dX10_isLog_19 : decode cX10_isLog 19 = .ok (.goto 4, 3) := by decide +kernel
theorem dX10_isLog_22 : decode cX10_isLog 22 = .ok (.iconst 0, 1) := by decide +kernel
theorem dX10_isLog_23 : decode cX10_isLog 23 = .ok (.ireturn, 1) := by decide +kernel
theorem dX10_isLeaf_0 : decode cX10_isLeaf 0 = .ok (.aload_n 0, 1) := by decide +kernel
theorem dX10_isLeaf_1 : decode cX10_isLeaf 1 = .ok (.iload_n 1, 1) := by decide +kernel
theorem dX10_isLeaf_2 : decode cX10_isLeaf 2 = .ok (.invokevirtual 167, 3) := by decide +kernel
theorem dX10_isLeaf_5 : decode cX10_isLeaf 5 = .ok (.ifCond .eq 21, 3) := by decide +kernel
theorem dX10_isLeaf_8 : decode cX10_isLeaf 8 = .ok (.iload_n 2, 1) := by decide +kernel
theorem dX10_isLeaf_9 : decode cX10_isLeaf 9 = .ok (.ifCond .lt 17, 3) := by decide +kernel
theorem dX10_isLeaf_12 : decode cX10_isLeaf 12 = .ok (.iload_n 2, 1) := by decide +kernel
theorem dX10_isLeaf_13 : decode cX10_isLeaf 13 = .ok (.aload_n 0, 1) := by decide +kernel
theorem dX10_isLeaf_14 : decode cX10_isLeaf 14 = .ok (.getfield 7, 3) := by decide +kernel
theorem dX10_isLeaf_17 : decode cX10_isLeaf 17 = .ok (.iload_n 1, 1) := by decide +kernel
theorem dX10_isLeaf_18 : decode cX10_isLeaf 18 = .ok (.iaload, 1) := by decide +kernel
theorem dX10_isLeaf_19 : decode cX10_isLeaf 19 = .ok (.if_icmp .ge 7, 3) := by decide +kernel
theorem dX10_isLeaf_22 : decode cX10_isLeaf 22 = .ok (.iconst 1, 1) := by decide +kernel
theorem dX10_isLeaf_23 : decode cX10_isLeaf 23 = .ok (.goto 4, 3) := by decide +kernel
theorem dX10_isLeaf_26 : decode cX10_isLeaf 26 = .ok (.iconst 0, 1) := by decide +kernel
theorem dX10_isLeaf_27 : decode cX10_isLeaf 27 = .ok (.ireturn, 1) := by decide +kernel
theorem dX10_widthOf_0 : decode cX10_widthOf 0 = .ok (.aload_n 0, 1) := by decide +kernel
theorem dX10_widthOf_1 : decode cX10_widthOf 1 = .ok (.getfield 16, 3) := by decide +kernel
theorem dX10_widthOf_4 : decode cX10_widthOf 4 = .ok (.iload_n 1, 1) := by decide +kernel
theorem dX10_widthOf_5 : decode cX10_widthOf 5 = .ok (.iaload, 1) := by decide +kernel
theorem dX10_widthOf_6 : decode cX10_widthOf 6 = .ok (.iload_n 2, 1) := by decide +kernel
theorem dX10_widthOf_7 : decode cX10_widthOf 7 = .ok (.aload_n 0, 1) := by decide +kernel
theorem dX10_widthOf_8 : decode cX10_widthOf 8 = .ok (.getfield 19, 3) := by decide +kernel
theorem dX10_widthOf_11 : decode cX10_widthOf 11 = .ok (.iload_n 1, 1) := by decide +kernel
theorem dX10_widthOf_12 : decode cX10_widthOf 12 = .ok (.iaload, 1) := by decide +kernel
theorem dX10_widthOf_13 : decode cX10_widthOf 13 = .ok (.imul, 1) := by decide +kernel
theorem dX10_widthOf_14 : decode cX10_widthOf 14 = .ok (.iadd, 1) := by decide +kernel
theorem dX10_widthOf_15 : decode cX10_widthOf 15 = .ok (.istore_n 3, 1) := by decide +kernel
theorem dX10_widthOf_16 : decode cX10_widthOf 16 = .ok (.iload_n 3, 1) := by decide +kernel
theorem dX10_widthOf_17 : decode cX10_widthOf 17 = .ok (.iconst 1, 1) := by decide +kernel
theorem dX10_widthOf_18 : decode cX10_widthOf 18 = .ok (.if_icmp .ge 7, 3) := by decide +kernel
theorem dX10_widthOf_21 : decode cX10_widthOf 21 = .ok (.iconst 1, 1) := by decide +kernel
theorem dX10_widthOf_22 : decode cX10_widthOf 22 = .ok (.goto 4, 3) := by decide +kernel
theorem dX10_widthOf_25 : decode cX10_widthOf 25 = .ok (.iload_n 3, 1) := by decide +kernel
theorem dX10_widthOf_26 : decode cX10_widthOf 26 = .ok (.ireturn, 1) := by decide +kernel
theorem dX10_toneOf_0 : decode cX10_toneOf 0 = .ok (.aload_n 0, 1) := by decide +kernel
theorem dX10_toneOf_1 : decode cX10_toneOf 1 = .ok (.getfield 22, 3) := by decide +kernel
theorem dX10_toneOf_4 : decode cX10_toneOf 4 = .ok (.iload_n 1, 1) := by decide +kernel
theorem dX10_toneOf_5 : decode cX10_toneOf 5 = .ok (.iaload, 1) := by decide +kernel
theorem dX10_toneOf_6 : decode cX10_toneOf 6 = .ok (.iload_n 2, 1) := by decide +kernel
theorem dX10_toneOf_7 : decode cX10_toneOf 7 = .ok (.aload_n 0, 1) := by decide +kernel
theorem dX10_toneOf_8 : decode cX10_toneOf 8 = .ok (.getfield 25, 3) := by decide +kernel
theorem dX10_toneOf_11 : decode cX10_toneOf 11 = .ok (.iload_n 1, 1) := by decide +kernel
theorem dX10_toneOf_12 : decode cX10_toneOf 12 = .ok (.iaload, 1) := by decide +kernel
theorem dX10_toneOf_13 : decode cX10_toneOf 13 = .ok (.imul, 1) := by decide +kernel
theorem dX10_toneOf_14 : decode cX10_toneOf 14 = .ok (.iadd, 1) := by decide +kernel
theorem dX10_toneOf_15 : decode cX10_toneOf 15 = .ok (.ireturn, 1) := by decide +kernel
theorem dX10_goes_0 : decode cX10_goes 0 = .ok (.iconst 0, 1) := by decide +kernel
theorem dX10_goes_1 : decode cX10_goes 1 = .ok (.istore_n 3, 1) := by decide +kernel
theorem dX10_goes_2 : decode cX10_goes 2 = .ok (.iconst 0, 1) := by decide +kernel
theorem dX10_goes_3 : decode cX10_goes 3 = .ok (.istore 4, 2) := by decide +kernel
theorem dX10_goes_5 : decode cX10_goes 5 = .ok (.iload 4, 2) := by decide +kernel
theorem dX10_goes_7 : decode cX10_goes 7 = .ok (.aload_n 0, 1) := by decide +kernel
theorem dX10_goes_8 : decode cX10_goes 8 = .ok (.getfield 171, 3) := by decide +kernel
theorem dX10_goes_11 : decode cX10_goes 11 = .ok (.if_icmp .ge 146, 3) := by decide +kernel
theorem dX10_goes_14 : decode cX10_goes 14 = .ok (.aload_n 0, 1) := by decide +kernel
theorem dX10_goes_15 : decode cX10_goes 15 = .ok (.getfield 55, 3) := by decide +kernel
theorem dX10_goes_18 : decode cX10_goes 18 = .ok (.iload 4, 2) := by decide +kernel
theorem dX10_goes_20 : decode cX10_goes 20 = .ok (.iaload, 1) := by decide +kernel
theorem dX10_goes_21 : decode cX10_goes 21 = .ok (.iload_n 1, 1) := by decide +kernel
theorem dX10_goes_22 : decode cX10_goes 22 = .ok (.if_icmp .eq 129, 3) := by decide +kernel
theorem dX10_goes_25 : decode cX10_goes 25 = .ok (.iload_n 2, 1) := by decide +kernel
theorem dX10_goes_26 : decode cX10_goes 26 = .ok (.iconst (-1), 1) := by decide +kernel
theorem dX10_goes_27 : decode cX10_goes 27 = .ok (.if_icmp .eq 17, 3) := by decide +kernel
theorem dX10_goes_30 : decode cX10_goes 30 = .ok (.aload_n 0, 1) := by decide +kernel
theorem dX10_goes_31 : decode cX10_goes 31 = .ok (.getfield 76, 3) := by decide +kernel
theorem dX10_goes_34 : decode cX10_goes 34 = .ok (.iload 4, 2) := by decide +kernel
theorem dX10_goes_36 : decode cX10_goes 36 = .ok (.iaload, 1) := by decide +kernel
theorem dX10_goes_37 : decode cX10_goes 37 = .ok (.iload_n 2, 1) := by decide +kernel
theorem dX10_goes_38 : decode cX10_goes 38 = .ok (.if_icmp .ne 6, 3) := by decide +kernel
theorem dX10_goes_41 : decode cX10_goes 41 = .ok (.goto 110, 3) := by decide +kernel
theorem dX10_goes_44 : decode cX10_goes 44 = .ok (.aload_n 0, 1) := by decide +kernel
theorem dX10_goes_45 : decode cX10_goes 45 = .ok (.getfield 55, 3) := by decide +kernel
theorem dX10_goes_48 : decode cX10_goes 48 = .ok (.iload_n 3, 1) := by decide +kernel
theorem dX10_goes_49 : decode cX10_goes 49 = .ok (.aload_n 0, 1) := by decide +kernel
theorem dX10_goes_50 : decode cX10_goes 50 = .ok (.getfield 55, 3) := by decide +kernel
theorem dX10_goes_53 : decode cX10_goes 53 = .ok (.iload 4, 2) := by decide +kernel
theorem dX10_goes_55 : decode cX10_goes 55 = .ok (.iaload, 1) := by decide +kernel
theorem dX10_goes_56 : decode cX10_goes 56 = .ok (.iastore, 1) := by decide +kernel
theorem dX10_goes_57 : decode cX10_goes 57 = .ok (.aload_n 0, 1) := by decide +kernel
theorem dX10_goes_58 : decode cX10_goes 58 = .ok (.getfield 58, 3) := by decide +kernel
theorem dX10_goes_61 : decode cX10_goes 61 = .ok (.iload_n 3, 1) := by decide +kernel
theorem dX10_goes_62 : decode cX10_goes 62 = .ok (.aload_n 0, 1) := by decide +kernel
theorem dX10_goes_63 : decode cX10_goes 63 = .ok (.getfield 58, 3) := by decide +kernel
theorem dX10_goes_66 : decode cX10_goes 66 = .ok (.iload 4, 2) := by decide +kernel
theorem dX10_goes_68 : decode cX10_goes 68 = .ok (.iaload, 1) := by decide +kernel
theorem dX10_goes_69 : decode cX10_goes 69 = .ok (.iastore, 1) := by decide +kernel
theorem dX10_goes_70 : decode cX10_goes 70 = .ok (.aload_n 0, 1) := by decide +kernel
theorem dX10_goes_71 : decode cX10_goes 71 = .ok (.getfield 61, 3) := by decide +kernel
theorem dX10_goes_74 : decode cX10_goes 74 = .ok (.iload_n 3, 1) := by decide +kernel
theorem dX10_goes_75 : decode cX10_goes 75 = .ok (.aload_n 0, 1) := by decide +kernel
theorem dX10_goes_76 : decode cX10_goes 76 = .ok (.getfield 61, 3) := by decide +kernel
theorem dX10_goes_79 : decode cX10_goes 79 = .ok (.iload 4, 2) := by decide +kernel
theorem dX10_goes_81 : decode cX10_goes 81 = .ok (.iaload, 1) := by decide +kernel
theorem dX10_goes_82 : decode cX10_goes 82 = .ok (.iastore, 1) := by decide +kernel
theorem dX10_goes_83 : decode cX10_goes 83 = .ok (.aload_n 0, 1) := by decide +kernel
theorem dX10_goes_84 : decode cX10_goes 84 = .ok (.getfield 64, 3) := by decide +kernel
theorem dX10_goes_87 : decode cX10_goes 87 = .ok (.iload_n 3, 1) := by decide +kernel
theorem dX10_goes_88 : decode cX10_goes 88 = .ok (.aload_n 0, 1) := by decide +kernel
theorem dX10_goes_89 : decode cX10_goes 89 = .ok (.getfield 64, 3) := by decide +kernel
theorem dX10_goes_92 : decode cX10_goes 92 = .ok (.iload 4, 2) := by decide +kernel
theorem dX10_goes_94 : decode cX10_goes 94 = .ok (.iaload, 1) := by decide +kernel
theorem dX10_goes_95 : decode cX10_goes 95 = .ok (.iastore, 1) := by decide +kernel
theorem dX10_goes_96 : decode cX10_goes 96 = .ok (.aload_n 0, 1) := by decide +kernel
theorem dX10_goes_97 : decode cX10_goes 97 = .ok (.getfield 67, 3) := by decide +kernel
theorem dX10_goes_100 : decode cX10_goes 100 = .ok (.iload_n 3, 1) := by decide +kernel
theorem dX10_goes_101 : decode cX10_goes 101 = .ok (.aload_n 0, 1) := by decide +kernel
theorem dX10_goes_102 : decode cX10_goes 102 = .ok (.getfield 67, 3) := by decide +kernel
theorem dX10_goes_105 : decode cX10_goes 105 = .ok (.iload 4, 2) := by decide +kernel
theorem dX10_goes_107 : decode cX10_goes 107 = .ok (.iaload, 1) := by decide +kernel
theorem dX10_goes_108 : decode cX10_goes 108 = .ok (.iastore, 1) := by decide +kernel
theorem dX10_goes_109 : decode cX10_goes 109 = .ok (.aload_n 0, 1) := by decide +kernel
theorem dX10_goes_110 : decode cX10_goes 110 = .ok (.getfield 70, 3) := by decide +kernel
theorem dX10_goes_113 : decode cX10_goes 113 = .ok (.iload_n 3, 1) := by decide +kernel
theorem dX10_goes_114 : decode cX10_goes 114 = .ok (.aload_n 0, 1) := by decide +kernel
theorem dX10_goes_115 : decode cX10_goes 115 = .ok (.getfield 70, 3) := by decide +kernel
theorem dX10_goes_118 : decode cX10_goes 118 = .ok (.iload 4, 2) := by decide +kernel
theorem dX10_goes_120 : decode cX10_goes 120 = .ok (.iaload, 1) := by decide +kernel
theorem dX10_goes_121 : decode cX10_goes 121 = .ok (.iastore, 1) := by decide +kernel
theorem dX10_goes_122 : decode cX10_goes 122 = .ok (.aload_n 0, 1) := by decide +kernel
theorem dX10_goes_123 : decode cX10_goes 123 = .ok (.getfield 73, 3) := by decide +kernel
theorem dX10_goes_126 : decode cX10_goes 126 = .ok (.iload_n 3, 1) := by decide +kernel
theorem dX10_goes_127 : decode cX10_goes 127 = .ok (.aload_n 0, 1) := by decide +kernel
theorem dX10_goes_128 : decode cX10_goes 128 = .ok (.getfield 73, 3) := by decide +kernel
theorem dX10_goes_131 : decode cX10_goes 131 = .ok (.iload 4, 2) := by decide +kernel
theorem dX10_goes_133 : decode cX10_goes 133 = .ok (.iaload, 1) := by decide +kernel
theorem dX10_goes_134 : decode cX10_goes 134 = .ok (.iastore, 1) := by decide +kernel
theorem dX10_goes_135 : decode cX10_goes 135 = .ok (.aload_n 0, 1) := by decide +kernel
theorem dX10_goes_136 : decode cX10_goes 136 = .ok (.getfield 76, 3) := by decide +kernel
theorem dX10_goes_139 : decode cX10_goes 139 = .ok (.iload_n 3, 1) := by decide +kernel
theorem dX10_goes_140 : decode cX10_goes 140 = .ok (.aload_n 0, 1) := by decide +kernel
theorem dX10_goes_141 : decode cX10_goes 141 = .ok (.getfield 76, 3) := by decide +kernel
theorem dX10_goes_144 : decode cX10_goes 144 = .ok (.iload 4, 2) := by decide +kernel
theorem dX10_goes_146 : decode cX10_goes 146 = .ok (.iaload, 1) := by decide +kernel
theorem dX10_goes_147 : decode cX10_goes 147 = .ok (.iastore, 1) := by decide +kernel
theorem dX10_goes_148 : decode cX10_goes 148 = .ok (.iinc 3 1, 3) := by decide +kernel
theorem dX10_goes_151 : decode cX10_goes 151 = .ok (.iinc 4 1, 3) := by decide +kernel
theorem dX10_goes_154 : decode cX10_goes 154 = .ok (.goto (-149), 3) := by decide +kernel
theorem dX10_goes_157 : decode cX10_goes 157 = .ok (.aload_n 0, 1) := by decide +kernel
theorem dX10_goes_158 : decode cX10_goes 158 = .ok (.iload_n 3, 1) := by decide +kernel
theorem dX10_goes_159 : decode cX10_goes 159 = .ok (.putfield 171, 3) := by decide +kernel
theorem dX10_goes_162 : decode cX10_goes 162 = .ok (.return_, 1) := by decide +kernel
theorem dX10_log_0 : decode cX10_log 0 = .ok (.iload_n 1, 1) := by decide +kernel
theorem dX10_log_1 : decode cX10_log 1 = .ok (.iconst 0, 1) := by decide +kernel
theorem dX10_log_2 : decode cX10_log 2 = .ok (.iconst 2, 1) := by decide +kernel
theorem dX10_log_3 : decode cX10_log 3 = .ok (.invokestatic 174, 3) := by decide +kernel
theorem dX10_log_6 : decode cX10_log 6 = .ok (.ifCond .eq 47, 3) := by decide +kernel
theorem dX10_log_9 : decode cX10_log 9 = .ok (.iload_n 2, 1) := by decide +kernel
theorem dX10_log_10 : decode cX10_log 10 = .ok (.iconst 1, 1) := by decide +kernel
theorem dX10_log_11 : decode cX10_log 11 = .ok (.bipush 12, 2) := by decide +kernel
theorem dX10_log_13 : decode cX10_log 13 = .ok (.invokestatic 174, 3) := by decide +kernel
theorem dX10_log_16 : decode cX10_log 16 = .ok (.ifCond .eq 37, 3) := by decide +kernel
theorem dX10_log_19 : decode cX10_log 19 = .ok (.iload_n 3, 1) := by decide +kernel
theorem dX10_log_20 : decode cX10_log 20 = .ok (.bipush 10, 2) := by decide +kernel
theorem dX10_log_22 : decode cX10_log 22 = .ok (.bipush 60, 2) := by decide +kernel
theorem dX10_log_24 : decode cX10_log 24 = .ok (.invokestatic 174, 3) := by decide +kernel
theorem dX10_log_27 : decode cX10_log 27 = .ok (.ifCond .eq 26, 3) := by decide +kernel
theorem dX10_log_30 : decode cX10_log 30 = .ok (.iload 4, 2) := by decide +kernel
theorem dX10_log_32 : decode cX10_log 32 = .ok (.bipush 10, 2) := by decide +kernel
theorem dX10_log_34 : decode cX10_log 34 = .ok (.bipush 40, 2) := by decide +kernel
theorem dX10_log_36 : decode cX10_log 36 = .ok (.invokestatic 174, 3) := by decide +kernel
theorem dX10_log_39 : decode cX10_log 39 = .ok (.ifCond .eq 14, 3) := by decide +kernel
theorem dX10_log_42 : decode cX10_log 42 = .ok (.iload 5, 2) := by decide +kernel
theorem dX10_log_44 : decode cX10_log 44 = .ok (.bipush (-2), 2) := by decide +kernel
theorem dX10_log_46 : decode cX10_log 46 = .ok (.iconst 2, 1) := by decide +kernel
theorem dX10_log_47 : decode cX10_log 47 = .ok (.invokestatic 174, 3) := by decide +kernel
theorem dX10_log_50 : decode cX10_log 50 = .ok (.ifCond .ne 5, 3) := by decide +kernel
theorem dX10_log_53 : decode cX10_log 53 = .ok (.iconst 0, 1) := by decide +kernel
theorem dX10_log_54 : decode cX10_log 54 = .ok (.ireturn, 1) := by decide +kernel
theorem dX10_log_55 : decode cX10_log 55 = .ok (.aload_n 0, 1) := by decide +kernel
theorem dX10_log_56 : decode cX10_log 56 = .ok (.getfield 7, 3) := by decide +kernel
theorem dX10_log_59 : decode cX10_log 59 = .ok (.iload_n 1, 1) := by decide +kernel
theorem dX10_log_60 : decode cX10_log 60 = .ok (.iload_n 2, 1) := by decide +kernel
theorem dX10_log_61 : decode cX10_log 61 = .ok (.iastore, 1) := by decide +kernel
theorem dX10_log_62 : decode cX10_log 62 = .ok (.aload_n 0, 1) := by decide +kernel
theorem dX10_log_63 : decode cX10_log 63 = .ok (.getfield 13, 3) := by decide +kernel
theorem dX10_log_66 : decode cX10_log 66 = .ok (.iload_n 1, 1) := by decide +kernel
theorem dX10_log_67 : decode cX10_log 67 = .ok (.iload_n 3, 1) := by decide +kernel
theorem dX10_log_68 : decode cX10_log 68 = .ok (.iastore, 1) := by decide +kernel
theorem dX10_log_69 : decode cX10_log 69 = .ok (.aload_n 0, 1) := by decide +kernel
theorem dX10_log_70 : decode cX10_log 70 = .ok (.getfield 16, 3) := by decide +kernel
theorem dX10_log_73 : decode cX10_log 73 = .ok (.iload_n 1, 1) := by decide +kernel
theorem dX10_log_74 : decode cX10_log 74 = .ok (.iload 4, 2) := by decide +kernel
theorem dX10_log_76 : decode cX10_log 76 = .ok (.iastore, 1) := by decide +kernel
theorem dX10_log_77 : decode cX10_log 77 = .ok (.aload_n 0, 1) := by decide +kernel
theorem dX10_log_78 : decode cX10_log 78 = .ok (.getfield 19, 3) := by decide +kernel
theorem dX10_log_81 : decode cX10_log 81 = .ok (.iload_n 1, 1) := by decide +kernel
theorem dX10_log_82 : decode cX10_log 82 = .ok (.iload 5, 2) := by decide +kernel
theorem dX10_log_84 : decode cX10_log 84 = .ok (.iastore, 1) := by decide +kernel
theorem dX10_log_85 : decode cX10_log 85 = .ok (.aload_n 0, 1) := by decide +kernel
theorem dX10_log_86 : decode cX10_log 86 = .ok (.getfield 22, 3) := by decide +kernel
theorem dX10_log_89 : decode cX10_log 89 = .ok (.iload_n 1, 1) := by decide +kernel
theorem dX10_log_90 : decode cX10_log 90 = .ok (.iconst 0, 1) := by decide +kernel
theorem dX10_log_91 : decode cX10_log 91 = .ok (.iastore, 1) := by decide +kernel
theorem dX10_log_92 : decode cX10_log 92 = .ok (.aload_n 0, 1) := by decide +kernel
theorem dX10_log_93 : decode cX10_log 93 = .ok (.getfield 25, 3) := by decide +kernel
theorem dX10_log_96 : decode cX10_log 96 = .ok (.iload_n 1, 1) := by decide +kernel
theorem dX10_log_97 : decode cX10_log 97 = .ok (.iconst 0, 1) := by decide +kernel
theorem dX10_log_98 : decode cX10_log 98 = .ok (.iastore, 1) := by decide +kernel
theorem dX10_log_99 : decode cX10_log 99 = .ok (.aload_n 0, 1) := by decide +kernel
theorem dX10_log_100 : decode cX10_log 100 = .ok (.getfield 28, 3) := by decide +kernel
theorem dX10_log_103 : decode cX10_log 103 = .ok (.iload_n 1, 1) := by decide +kernel
theorem dX10_log_104 : decode cX10_log 104 = .ok (.iconst 0, 1) := by decide +kernel
theorem dX10_log_105 : decode cX10_log 105 = .ok (.iastore, 1) := by decide +kernel
theorem dX10_log_106 : decode cX10_log 106 = .ok (.aload_n 0, 1) := by decide +kernel
theorem dX10_log_107 : decode cX10_log 107 = .ok (.iload_n 1, 1) := by decide +kernel
theorem dX10_log_108 : decode cX10_log 108 = .ok (.iconst (-1), 1) := by decide +kernel
theorem dX10_log_109 : decode cX10_log 109 = .ok (.invokevirtual 178, 3) := by decide +kernel
theorem dX10_log_112 : decode cX10_log 112 = .ok (.iconst 0, 1) := by decide +kernel
theorem dX10_log_113 : decode cX10_log 113 = .ok (.istore 6, 2) := by decide +kernel
theorem dX10_log_115 : decode cX10_log 115 = .ok (.iload 6, 2) := by decide +kernel
theorem dX10_log_117 : decode cX10_log 117 = .ok (.bipush 8, 2) := by decide +kernel
theorem dX10_log_119 : decode cX10_log 119 = .ok (.if_icmp .ge 28, 3) := by decide +kernel
theorem dX10_log_122 : decode cX10_log 122 = .ok (.aload_n 0, 1) := by decide +kernel
theorem dX10_log_123 : decode cX10_log 123 = .ok (.getfield 143, 3) := by decide +kernel
theorem dX10_log_126 : decode cX10_log 126 = .ok (.iload 6, 2) := by decide +kernel
theorem dX10_log_128 : decode cX10_log 128 = .ok (.iaload, 1) := by decide +kernel
theorem dX10_log_129 : decode cX10_log 129 = .ok (.iload_n 1, 1) := by decide +kernel
theorem dX10_log_130 : decode cX10_log 130 = .ok (.if_icmp .ne 11, 3) := by decide +kernel
theorem dX10_log_133 : decode cX10_log 133 = .ok (.aload_n 0, 1) := by decide +kernel
theorem dX10_log_134 : decode cX10_log 134 = .ok (.getfield 143, 3) := by decide +kernel
theorem dX10_log_137 : decode cX10_log 137 = .ok (.iload 6, 2) := by decide +kernel
theorem dX10_log_139 : decode cX10_log 139 = .ok (.iconst (-1), 1) := by decide +kernel
theorem dX10_log_140 : decode cX10_log 140 = .ok (.iastore, 1) := by decide +kernel
theorem dX10_log_141 : decode cX10_log 141 = .ok (.iinc 6 1, 3) := by decide +kernel
theorem dX10_log_144 : decode cX10_log 144 = .ok (.goto (-29), 3) := by decide +kernel
theorem dX10_log_147 : decode cX10_log 147 = .ok (.iconst 1, 1) := by decide +kernel
theorem dX10_log_148 : decode cX10_log 148 = .ok (.ireturn, 1) := by decide +kernel
theorem dX10_tone_0 : decode cX10_tone 0 = .ok (.aload_n 0, 1) := by decide +kernel
theorem dX10_tone_1 : decode cX10_tone 1 = .ok (.iload_n 1, 1) := by decide +kernel
theorem dX10_tone_2 : decode cX10_tone 2 = .ok (.invokevirtual 167, 3) := by decide +kernel
theorem dX10_tone_5 : decode cX10_tone 5 = .ok (.ifCond .eq 23, 3) := by decide +kernel
theorem dX10_tone_8 : decode cX10_tone 8 = .ok (.iload_n 2, 1) := by decide +kernel
theorem dX10_tone_9 : decode cX10_tone 9 = .ok (.iconst 0, 1) := by decide +kernel
theorem dX10_tone_10 : decode cX10_tone 10 = .ok (.bipush 100, 2) := by decide +kernel
theorem dX10_tone_12 : decode cX10_tone 12 = .ok (.invokestatic 174, 3) := by decide +kernel
theorem dX10_tone_15 : decode cX10_tone 15 = .ok (.ifCond .eq 13, 3) := by decide +kernel
theorem dX10_tone_18 : decode cX10_tone 18 = .ok (.iload_n 3, 1) := by decide +kernel
theorem dX10_tone_19 : decode cX10_tone 19 = .ok (.bipush (-5), 2) := by decide +kernel
theorem dX10_tone_21 : decode cX10_tone 21 = .ok (.iconst 5, 1) := by decide +kernel
theorem dX10_tone_22 : decode cX10_tone 22 = .ok (.invokestatic 174, 3) := by decide +kernel
theorem dX10_tone_25 : decode cX10_tone 25 = .ok (.ifCond .ne 5, 3) := by decide +kernel
theorem dX10_tone_28 : decode cX10_tone 28 = .ok (.iconst 0, 1) := by decide +kernel
theorem dX10_tone_29 : decode cX10_tone 29 = .ok (.ireturn, 1) := by decide +kernel
theorem dX10_tone_30 : decode cX10_tone 30 = .ok (.aload_n 0, 1) := by decide +kernel
theorem dX10_tone_31 : decode cX10_tone 31 = .ok (.getfield 22, 3) := by decide +kernel
theorem dX10_tone_34 : decode cX10_tone 34 = .ok (.iload_n 1, 1) := by decide +kernel
theorem dX10_tone_35 : decode cX10_tone 35 = .ok (.iload_n 2, 1) := by decide +kernel
theorem dX10_tone_36 : decode cX10_tone 36 = .ok (.iastore, 1) := by decide +kernel
theorem dX10_tone_37 : decode cX10_tone 37 = .ok (.aload_n 0, 1) := by decide +kernel
theorem dX10_tone_38 : decode cX10_tone 38 = .ok (.getfield 25, 3) := by decide +kernel
theorem dX10_tone_41 : decode cX10_tone 41 = .ok (.iload_n 1, 1) := by decide +kernel
theorem dX10_tone_42 : decode cX10_tone 42 = .ok (.iload_n 3, 1) := by decide +kernel
theorem dX10_tone_43 : decode cX10_tone 43 = .ok (.iastore, 1) := by decide +kernel
theorem dX10_tone_44 : decode cX10_tone 44 = .ok (.iconst 1, 1) := by decide +kernel
theorem dX10_tone_45 : decode cX10_tone 45 = .ok (.ireturn, 1) := by decide +kernel
theorem dX10_flaw_0 : decode cX10_flaw 0 = .ok (.aload_n 0, 1) := by decide +kernel
theorem dX10_flaw_1 : decode cX10_flaw 1 = .ok (.iload_n 1, 1) := by decide +kernel
theorem dX10_flaw_2 : decode cX10_flaw 2 = .ok (.iload_n 2, 1) := by decide +kernel
theorem dX10_flaw_3 : decode cX10_flaw 3 = .ok (.invokevirtual 182, 3) := by decide +kernel
theorem dX10_flaw_6 : decode cX10_flaw 6 = .ok (.ifCond .eq 57, 3) := by decide +kernel
theorem dX10_flaw_9 : decode cX10_flaw 9 = .ok (.iload_n 3, 1) := by decide +kernel
theorem dX10_flaw_10 : decode cX10_flaw 10 = .ok (.iconst 0, 1) := by decide +kernel
theorem dX10_flaw_11 : decode cX10_flaw 11 = .ok (.bipush 100, 2) := by decide +kernel
theorem dX10_flaw_13 : decode cX10_flaw 13 = .ok (.invokestatic 174, 3) := by decide +kernel
theorem dX10_flaw_16 : decode cX10_flaw 16 = .ok (.ifCond .eq 47, 3) := by decide +kernel
theorem dX10_flaw_19 : decode cX10_flaw 19 = .ok (.iload 4, 2) := by decide +kernel
theorem dX10_flaw_21 : decode cX10_flaw 21 = .ok (.iconst 0, 1) := by decide +kernel
theorem dX10_flaw_22 : decode cX10_flaw 22 = .ok (.bipush 100, 2) := by decide +kernel
theorem dX10_flaw_24 : decode cX10_flaw 24 = .ok (.invokestatic 174, 3) := by decide +kernel
theorem dX10_flaw_27 : decode cX10_flaw 27 = .ok (.ifCond .eq 36, 3) := by decide +kernel
theorem dX10_flaw_30 : decode cX10_flaw 30 = .ok (.iload 5, 2) := by decide +kernel
theorem dX10_flaw_32 : decode cX10_flaw 32 = .ok (.iconst 1, 1) := by decide +kernel
theorem dX10_flaw_33 : decode cX10_flaw 33 = .ok (.bipush 100, 2) := by decide +kernel
theorem dX10_flaw_35 : decode cX10_flaw 35 = .ok (.invokestatic 174, 3) := by decide +kernel
theorem dX10_flaw_38 : decode cX10_flaw 38 = .ok (.ifCond .eq 25, 3) := by decide +kernel
theorem dX10_flaw_41 : decode cX10_flaw 41 = .ok (.iload 6, 2) := by decide +kernel
theorem dX10_flaw_43 : decode cX10_flaw 43 = .ok (.iconst 1, 1) := by decide +kernel
theorem dX10_flaw_44 : decode cX10_flaw 44 = .ok (.bipush 100, 2) := by decide +kernel
theorem dX10_flaw_46 : decode cX10_flaw 46 = .ok (.invokestatic 174, 3) := by decide +kernel
theorem dX10_flaw_49 : decode cX10_flaw 49 = .ok (.ifCond .eq 14, 3) := by decide +kernel
theorem dX10_flaw_52 : decode cX10_flaw 52 = .ok (.aload_n 0, 1) := by decide +kernel
theorem dX10_flaw_53 : decode cX10_flaw 53 = .ok (.getfield 28, 3) := by decide +kernel
theorem dX10_flaw_56 : decode cX10_flaw 56 = .ok (.iload_n 1, 1) := by decide +kernel
theorem dX10_flaw_57 : decode cX10_flaw 57 = .ok (.iaload, 1) := by decide +kernel
theorem dX10_flaw_58 : decode cX10_flaw 58 = .ok (.bipush 10, 2) := by decide +kernel
theorem dX10_flaw_60 : decode cX10_flaw 60 = .ok (.if_icmp .ne 5, 3) := by decide +kernel
theorem dX10_flaw_63 : decode cX10_flaw 63 = .ok (.iconst (-1), 1) := by decide +kernel
theorem dX10_flaw_64 : decode cX10_flaw 64 = .ok (.ireturn, 1) := by decide +kernel
theorem dX10_flaw_65 : decode cX10_flaw 65 = .ok (.bipush 10, 2) := by decide +kernel
theorem dX10_flaw_67 : decode cX10_flaw 67 = .ok (.iload_n 1, 1) := by decide +kernel
theorem dX10_flaw_68 : decode cX10_flaw 68 = .ok (.imul, 1) := by decide +kernel
theorem dX10_flaw_69 : decode cX10_flaw 69 = .ok (.aload_n 0, 1) := by decide +kernel
theorem dX10_flaw_70 : decode cX10_flaw 70 = .ok (.getfield 28, 3) := by decide +kernel
theorem dX10_flaw_73 : decode cX10_flaw 73 = .ok (.iload_n 1, 1) := by decide +kernel
theorem dX10_flaw_74 : decode cX10_flaw 74 = .ok (.iaload, 1) := by decide +kernel
theorem dX10_flaw_75 : decode cX10_flaw 75 = .ok (.iadd, 1) := by decide +kernel
theorem dX10_flaw_76 : decode cX10_flaw 76 = .ok (.istore 7, 2) := by decide +kernel
theorem dX10_flaw_78 : decode cX10_flaw 78 = .ok (.aload_n 0, 1) := by decide +kernel
theorem dX10_flaw_79 : decode cX10_flaw 79 = .ok (.getfield 31, 3) := by decide +kernel
theorem dX10_flaw_82 : decode cX10_flaw 82 = .ok (.iload 7, 2) := by decide +kernel
theorem dX10_flaw_84 : decode cX10_flaw 84 = .ok (.iload_n 2, 1) := by decide +kernel
theorem dX10_flaw_85 : decode cX10_flaw 85 = .ok (.iastore, 1) := by decide +kernel
theorem dX10_flaw_86 : decode cX10_flaw 86 = .ok (.aload_n 0, 1) := by decide +kernel
theorem dX10_flaw_87 : decode cX10_flaw 87 = .ok (.getfield 34, 3) := by decide +kernel
theorem dX10_flaw_90 : decode cX10_flaw 90 = .ok (.iload 7, 2) := by decide +kernel
theorem dX10_flaw_92 : decode cX10_flaw 92 = .ok (.iload_n 2, 1) := by decide +kernel
theorem dX10_flaw_93 : decode cX10_flaw 93 = .ok (.iastore, 1) := by decide +kernel
theorem dX10_flaw_94 : decode cX10_flaw 94 = .ok (.aload_n 0, 1) := by decide +kernel
theorem dX10_flaw_95 : decode cX10_flaw 95 = .ok (.getfield 37, 3) := by decide +kernel
theorem dX10_flaw_98 : decode cX10_flaw 98 = .ok (.iload 7, 2) := by decide +kernel
theorem dX10_flaw_100 : decode cX10_flaw 100 = .ok (.iload_n 3, 1) := by decide +kernel
theorem dX10_flaw_101 : decode cX10_flaw 101 = .ok (.iastore, 1) := by decide +kernel
theorem dX10_flaw_102 : decode cX10_flaw 102 = .ok (.aload_n 0, 1) := by decide +kernel
theorem dX10_flaw_103 : decode cX10_flaw 103 = .ok (.getfield 40, 3) := by decide +kernel
theorem dX10_flaw_106 : decode cX10_flaw 106 = .ok (.iload 7, 2) := by decide +kernel
theorem dX10_flaw_108 : decode cX10_flaw 108 = .ok (.iload 4, 2) := by decide +kernel
theorem dX10_flaw_110 : decode cX10_flaw 110 = .ok (.iastore, 1) := by decide +kernel
theorem dX10_flaw_111 : decode cX10_flaw 111 = .ok (.aload_n 0, 1) := by decide +kernel
theorem dX10_flaw_112 : decode cX10_flaw 112 = .ok (.getfield 43, 3) := by decide +kernel
theorem dX10_flaw_115 : decode cX10_flaw 115 = .ok (.iload 7, 2) := by decide +kernel
theorem dX10_flaw_117 : decode cX10_flaw 117 = .ok (.iconst 0, 1) := by decide +kernel
theorem dX10_flaw_118 : decode cX10_flaw 118 = .ok (.iastore, 1) := by decide +kernel
theorem dX10_flaw_119 : decode cX10_flaw 119 = .ok (.aload_n 0, 1) := by decide +kernel
theorem dX10_flaw_120 : decode cX10_flaw 120 = .ok (.getfield 46, 3) := by decide +kernel
theorem dX10_flaw_123 : decode cX10_flaw 123 = .ok (.iload 7, 2) := by decide +kernel
theorem dX10_flaw_125 : decode cX10_flaw 125 = .ok (.iconst 0, 1) := by decide +kernel
theorem dX10_flaw_126 : decode cX10_flaw 126 = .ok (.iastore, 1) := by decide +kernel
theorem dX10_flaw_127 : decode cX10_flaw 127 = .ok (.aload_n 0, 1) := by decide +kernel
theorem dX10_flaw_128 : decode cX10_flaw 128 = .ok (.getfield 49, 3) := by decide +kernel
theorem dX10_flaw_131 : decode cX10_flaw 131 = .ok (.iload 7, 2) := by decide +kernel
theorem dX10_flaw_133 : decode cX10_flaw 133 = .ok (.iload 5, 2) := by decide +kernel
theorem dX10_flaw_135 : decode cX10_flaw 135 = .ok (.iastore, 1) := by decide +kernel
theorem dX10_flaw_136 : decode cX10_flaw 136 = .ok (.aload_n 0, 1) := by decide +kernel
theorem dX10_flaw_137 : decode cX10_flaw 137 = .ok (.getfield 52, 3) := by decide +kernel
theorem dX10_flaw_140 : decode cX10_flaw 140 = .ok (.iload 7, 2) := by decide +kernel
theorem dX10_flaw_142 : decode cX10_flaw 142 = .ok (.iload 6, 2) := by decide +kernel
theorem dX10_flaw_144 : decode cX10_flaw 144 = .ok (.iastore, 1) := by decide +kernel
theorem dX10_flaw_145 : decode cX10_flaw 145 = .ok (.aload_n 0, 1) := by decide +kernel
theorem dX10_flaw_146 : decode cX10_flaw 146 = .ok (.getfield 28, 3) := by decide +kernel
theorem dX10_flaw_149 : decode cX10_flaw 149 = .ok (.iload_n 1, 1) := by decide +kernel
theorem dX10_flaw_150 : decode cX10_flaw 150 = .ok (.dup2, 1) := by decide +kernel
theorem dX10_flaw_151 : decode cX10_flaw 151 = .ok (.iaload, 1) := by decide +kernel
theorem dX10_flaw_152 : decode cX10_flaw 152 = .ok (.iconst 1, 1) := by decide +kernel
theorem dX10_flaw_153 : decode cX10_flaw 153 = .ok (.iadd, 1) := by decide +kernel
theorem dX10_flaw_154 : decode cX10_flaw 154 = .ok (.iastore, 1) := by decide +kernel
theorem dX10_flaw_155 : decode cX10_flaw 155 = .ok (.aload_n 0, 1) := by decide +kernel
theorem dX10_flaw_156 : decode cX10_flaw 156 = .ok (.getfield 28, 3) := by decide +kernel
theorem dX10_flaw_159 : decode cX10_flaw 159 = .ok (.iload_n 1, 1) := by decide +kernel
theorem dX10_flaw_160 : decode cX10_flaw 160 = .ok (.iaload, 1) := by decide +kernel
theorem dX10_flaw_161 : decode cX10_flaw 161 = .ok (.iconst 1, 1) := by decide +kernel
theorem dX10_flaw_162 : decode cX10_flaw 162 = .ok (.isub, 1) := by decide +kernel
theorem dX10_flaw_163 : decode cX10_flaw 163 = .ok (.ireturn, 1) := by decide +kernel
theorem dX10_drift_0 : decode cX10_drift 0 = .ok (.aload_n 0, 1) := by decide +kernel
theorem dX10_drift_1 : decode cX10_drift 1 = .ok (.iload_n 1, 1) := by decide +kernel
theorem dX10_drift_2 : decode cX10_drift 2 = .ok (.iload_n 2, 1) := by decide +kernel
theorem dX10_drift_3 : decode cX10_drift 3 = .ok (.invokevirtual 182, 3) := by decide +kernel
theorem dX10_drift_6 : decode cX10_drift 6 = .ok (.ifCond .eq 35, 3) := by decide +kernel
theorem dX10_drift_9 : decode cX10_drift 9 = .ok (.aload_n 0, 1) := by decide +kernel
theorem dX10_drift_10 : decode cX10_drift 10 = .ok (.getfield 28, 3) := by decide +kernel
theorem dX10_drift_13 : decode cX10_drift 13 = .ok (.iload_n 1, 1) := by decide +kernel
theorem dX10_drift_14 : decode cX10_drift 14 = .ok (.iaload, 1) := by decide +kernel
theorem dX10_drift_15 : decode cX10_drift 15 = .ok (.ifCond .eq 26, 3) := by decide +kernel
theorem dX10_drift_18 : decode cX10_drift 18 = .ok (.iload_n 3, 1) := by decide +kernel
theorem dX10_drift_19 : decode cX10_drift 19 = .ok (.bipush (-20), 2) := by decide +kernel
theorem dX10_drift_21 : decode cX10_drift 21 = .ok (.bipush 20, 2) := by decide +kernel
theorem dX10_drift_23 : decode cX10_drift 23 = .ok (.invokestatic 174, 3) := by decide +kernel
theorem dX10_drift_26 : decode cX10_drift 26 = .ok (.ifCond .eq 15, 3) := by decide +kernel
theorem dX10_drift_29 : decode cX10_drift 29 = .ok (.iload 4, 2) := by decide +kernel
theorem dX10_drift_31 : decode cX10_drift 31 = .ok (.bipush (-20), 2) := by decide +kernel
theorem dX10_drift_33 : decode cX10_drift 33 = .ok (.bipush 20, 2) := by decide +kernel
theorem dX10_drift_35 : decode cX10_drift 35 = .ok (.invokestatic 174, 3) := by decide +kernel
theorem dX10_drift_38 : decode cX10_drift 38 = .ok (.ifCond .ne 5, 3) := by decide +kernel
theorem dX10_drift_41 : decode cX10_drift 41 = .ok (.iconst 0, 1) := by decide +kernel
theorem dX10_drift_42 : decode cX10_drift 42 = .ok (.ireturn, 1) := by decide +kernel
theorem dX10_drift_43 : decode cX10_drift 43 = .ok (.bipush 10, 2) := by decide +kernel
theorem dX10_drift_45 : decode cX10_drift 45 = .ok (.iload_n 1, 1) := by decide +kernel
theorem dX10_drift_46 : decode cX10_drift 46 = .ok (.imul, 1) := by decide +kernel
theorem dX10_drift_47 : decode cX10_drift 47 = .ok (.aload_n 0, 1) := by decide +kernel
theorem dX10_drift_48 : decode cX10_drift 48 = .ok (.getfield 28, 3) := by decide +kernel
theorem dX10_drift_51 : decode cX10_drift 51 = .ok (.iload_n 1, 1) := by decide +kernel
theorem dX10_drift_52 : decode cX10_drift 52 = .ok (.iaload, 1) := by decide +kernel
theorem dX10_drift_53 : decode cX10_drift 53 = .ok (.iadd, 1) := by decide +kernel
theorem dX10_drift_54 : decode cX10_drift 54 = .ok (.iconst 1, 1) := by decide +kernel
theorem dX10_drift_55 : decode cX10_drift 55 = .ok (.isub, 1) := by decide +kernel
theorem dX10_drift_56 : decode cX10_drift 56 = .ok (.istore 5, 2) := by decide +kernel
theorem dX10_drift_58 : decode cX10_drift 58 = .ok (.iload_n 2, 1) := by decide +kernel
theorem dX10_drift_59 : decode cX10_drift 59 = .ok (.aload_n 0, 1) := by decide +kernel
theorem dX10_drift_60 : decode cX10_drift 60 = .ok (.getfield 31, 3) := by decide +kernel
theorem dX10_drift_63 : decode cX10_drift 63 = .ok (.iload 5, 2) := by decide +kernel
theorem dX10_drift_65 : decode cX10_drift 65 = .ok (.iaload, 1) := by decide +kernel
theorem dX10_drift_66 : decode cX10_drift 66 = .ok (.if_icmp .ge 5, 3) := by decide +kernel
theorem dX10_drift_69 : decode cX10_drift 69 = .ok (.iconst 0, 1) := by decide +kernel
theorem dX10_drift_70 : decode cX10_drift 70 = .ok (.ireturn, 1) := by decide +kernel
theorem dX10_drift_71 : decode cX10_drift 71 = .ok (.aload_n 0, 1) := by decide +kernel
theorem dX10_drift_72 : decode cX10_drift 72 = .ok (.getfield 34, 3) := by decide +kernel
theorem dX10_drift_75 : decode cX10_drift 75 = .ok (.iload 5, 2) := by decide +kernel
theorem dX10_drift_77 : decode cX10_drift 77 = .ok (.iload_n 2, 1) := by decide +kernel
theorem dX10_drift_78 : decode cX10_drift 78 = .ok (.iastore, 1) := by decide +kernel
theorem dX10_drift_79 : decode cX10_drift 79 = .ok (.aload_n 0, 1) := by decide +kernel
theorem dX10_drift_80 : decode cX10_drift 80 = .ok (.getfield 43, 3) := by decide +kernel
theorem dX10_drift_83 : decode cX10_drift 83 = .ok (.iload 5, 2) := by decide +kernel
theorem dX10_drift_85 : decode cX10_drift 85 = .ok (.iload_n 3, 1) := by decide +kernel
theorem dX10_drift_86 : decode cX10_drift 86 = .ok (.iastore, 1) := by decide +kernel
theorem dX10_drift_87 : decode cX10_drift 87 = .ok (.aload_n 0, 1) := by decide +kernel
theorem dX10_drift_88 : decode cX10_drift 88 = .ok (.getfield 46, 3) := by decide +kernel
theorem dX10_drift_91 : decode cX10_drift 91 = .ok (.iload 5, 2) := by decide +kernel
theorem dX10_drift_93 : decode cX10_drift 93 = .ok (.iload 4, 2) := by decide +kernel
theorem dX10_drift_95 : decode cX10_drift 95 = .ok (.iastore, 1) := by decide +kernel
theorem dX10_drift_96 : decode cX10_drift 96 = .ok (.iconst 1, 1) := by decide +kernel
theorem dX10_drift_97 : decode cX10_drift 97 = .ok (.ireturn, 1) := by decide +kernel
theorem dX10_laps_0 : decode cX10_laps 0 = .ok (.iload_n 0, 1) := by decide +kernel
theorem dX10_laps_1 : decode cX10_laps 1 = .ok (.iload 4, 2) := by decide +kernel
theorem dX10_laps_3 : decode cX10_laps 3 = .ok (.iload 6, 2) := by decide +kernel
theorem dX10_laps_5 : decode cX10_laps 5 = .ok (.iadd, 1) := by decide +kernel
theorem dX10_laps_6 : decode cX10_laps 6 = .ok (.if_icmp .ge 32, 3) := by decide +kernel
theorem dX10_laps_9 : decode cX10_laps 9 = .ok (.iload 4, 2) := by decide +kernel
theorem dX10_laps_11 : decode cX10_laps 11 = .ok (.iload_n 0, 1) := by decide +kernel
theorem dX10_laps_12 : decode cX10_laps 12 = .ok (.iload_n 2, 1) := by decide +kernel
theorem dX10_laps_13 : decode cX10_laps 13 = .ok (.iadd, 1) := by decide +kernel
theorem dX10_laps_14 : decode cX10_laps 14 = .ok (.if_icmp .ge 24, 3) := by decide +kernel
theorem dX10_laps_17 : decode cX10_laps 17 = .ok (.iload_n 1, 1) := by decide +kernel
theorem dX10_laps_18 : decode cX10_laps 18 = .ok (.iload 5, 2) := by decide +kernel
theorem dX10_laps_20 : decode cX10_laps 20 = .ok (.iload 7, 2) := by decide +kernel
theorem dX10_laps_22 : decode cX10_laps 22 = .ok (.iadd, 1) := by decide +kernel
theorem dX10_laps_23 : decode cX10_laps 23 = .ok (.if_icmp .ge 15, 3) := by decide +kernel
theorem dX10_laps_26 : decode cX10_laps 26 = .ok (.iload 5, 2) := by decide +kernel
theorem dX10_laps_28 : decode cX10_laps 28 = .ok (.iload_n 1, 1) := by decide +kernel
theorem dX10_laps_29 : decode cX10_laps 29 = .ok (.iload_n 3, 1) := by decide +kernel
theorem dX10_laps_30 : decode cX10_laps 30 = .ok (.iadd, 1) := by decide +kernel
theorem dX10_laps_31 : decode cX10_laps 31 = .ok (.if_icmp .ge 7, 3) := by decide +kernel
theorem dX10_laps_34 : decode cX10_laps 34 = .ok (.iconst 1, 1) := by decide +kernel
theorem dX10_laps_35 : decode cX10_laps 35 = .ok (.goto 4, 3) := by decide +kernel
theorem dX10_laps_38 : decode cX10_laps 38 = .ok (.iconst 0, 1) := by decide +kernel
theorem dX10_laps_39 : decode cX10_laps 39 = .ok (.ireturn, 1) := by decide +kernel
theorem dX10_isFlawed_0 : decode cX10_isFlawed 0 = .ok (.iload_n 2, 1) := by decide +kernel
theorem dX10_isFlawed_1 : decode cX10_isFlawed 1 = .ok (.aload_n 0, 1) := by decide +kernel
theorem dX10_isFlawed_2 : decode cX10_isFlawed 2 = .ok (.getfield 31, 3) := by decide +kernel
theorem dX10_isFlawed_5 : decode cX10_isFlawed 5 = .ok (.iload_n 1, 1) := by decide +kernel
theorem dX10_isFlawed_6 : decode cX10_isFlawed 6 = .ok (.iaload, 1) := by decide +kernel
theorem dX10_isFlawed_7 : decode cX10_isFlawed 7 = .ok (.if_icmp .lt 13, 3) := by decide +kernel
theorem dX10_isFlawed_10 : decode cX10_isFlawed 10 = .ok (.iload_n 2, 1) := by decide +kernel
theorem dX10_isFlawed_11 : decode cX10_isFlawed 11 = .ok (.aload_n 0, 1) := by decide +kernel
theorem dX10_isFlawed_12 : decode cX10_isFlawed 12 = .ok (.getfield 34, 3) := by decide +kernel
theorem dX10_isFlawed_15 : decode cX10_isFlawed 15 = .ok (.iload_n 1, 1) := by decide +kernel
theorem dX10_isFlawed_16 : decode cX10_isFlawed 16 = .ok (.iaload, 1) := by decide +kernel
theorem dX10_isFlawed_17 : decode cX10_isFlawed 17 = .ok (.if_icmp .le 5, 3) := by decide +kernel
theorem dX10_isFlawed_20 : decode cX10_isFlawed 20 = .ok (.iconst 0, 1) := by decide +kernel
theorem dX10_isFlawed_21 : decode cX10_isFlawed 21 = .ok (.ireturn, 1) := by decide +kernel
theorem dX10_isFlawed_22 : decode cX10_isFlawed 22 = .ok (.iload_n 2, 1) := by decide +kernel
theorem dX10_isFlawed_23 : decode cX10_isFlawed 23 = .ok (.aload_n 0, 1) := by decide +kernel
theorem dX10_isFlawed_24 : decode cX10_isFlawed 24 = .ok (.getfield 31, 3) := by decide +kernel
theorem dX10_isFlawed_27 : decode cX10_isFlawed 27 = .ok (.iload_n 1, 1) := by decide +kernel
theorem dX10_isFlawed_28 : decode cX10_isFlawed 28 = .ok (.iaload, 1) := by decide +kernel
theorem dX10_isFlawed_29 : decode cX10_isFlawed 29 = .ok (.isub, 1) := by decide +kernel
theorem dX10_isFlawed_30 : decode cX10_isFlawed 30 = .ok (.istore 7, 2) := by decide +kernel
theorem dX10_isFlawed_32 : decode cX10_isFlawed 32 = .ok (.aload_n 0, 1) := by decide +kernel
theorem dX10_isFlawed_33 : decode cX10_isFlawed 33 = .ok (.getfield 37, 3) := by decide +kernel
theorem dX10_isFlawed_36 : decode cX10_isFlawed 36 = .ok (.iload_n 1, 1) := by decide +kernel
theorem dX10_isFlawed_37 : decode cX10_isFlawed 37 = .ok (.iaload, 1) := by decide +kernel
theorem dX10_isFlawed_38 : decode cX10_isFlawed 38 = .ok (.iload 7, 2) := by decide +kernel
theorem dX10_isFlawed_40 : decode cX10_isFlawed 40 = .ok (.aload_n 0, 1) := by decide +kernel
theorem dX10_isFlawed_41 : decode cX10_isFlawed 41 = .ok (.getfield 43, 3) := by decide +kernel
theorem dX10_isFlawed_44 : decode cX10_isFlawed 44 = .ok (.iload_n 1, 1) := by decide +kernel
theorem dX10_isFlawed_45 : decode cX10_isFlawed 45 = .ok (.iaload, 1) := by decide +kernel
theorem dX10_isFlawed_46 : decode cX10_isFlawed 46 = .ok (.imul, 1) := by decide +kernel
theorem dX10_isFlawed_47 : decode cX10_isFlawed 47 = .ok (.iadd, 1) := by decide +kernel
theorem dX10_isFlawed_48 : decode cX10_isFlawed 48 = .ok (.aload_n 0, 1) := by decide +kernel
theorem dX10_isFlawed_49 : decode cX10_isFlawed 49 = .ok (.getfield 40, 3) := by decide +kernel
theorem dX10_isFlawed_52 : decode cX10_isFlawed 52 = .ok (.iload_n 1, 1) := by decide +kernel
theorem dX10_isFlawed_53 : decode cX10_isFlawed 53 = .ok (.iaload, 1) := by decide +kernel
theorem dX10_isFlawed_54 : decode cX10_isFlawed 54 = .ok (.iload 7, 2) := by decide +kernel
theorem dX10_isFlawed_56 : decode cX10_isFlawed 56 = .ok (.aload_n 0, 1) := by decide +kernel
theorem dX10_isFlawed_57 : decode cX10_isFlawed 57 = .ok (.getfield 46, 3) := by decide +kernel
theorem dX10_isFlawed_60 : decode cX10_isFlawed 60 = .ok (.iload_n 1, 1) := by decide +kernel
theorem dX10_isFlawed_61 : decode cX10_isFlawed 61 = .ok (.iaload, 1) := by decide +kernel
theorem dX10_isFlawed_62 : decode cX10_isFlawed 62 = .ok (.imul, 1) := by decide +kernel
theorem dX10_isFlawed_63 : decode cX10_isFlawed 63 = .ok (.iadd, 1) := by decide +kernel
theorem dX10_isFlawed_64 : decode cX10_isFlawed 64 = .ok (.aload_n 0, 1) := by decide +kernel
theorem dX10_isFlawed_65 : decode cX10_isFlawed 65 = .ok (.getfield 49, 3) := by decide +kernel
theorem dX10_isFlawed_68 : decode cX10_isFlawed 68 = .ok (.iload_n 1, 1) := by decide +kernel
theorem dX10_isFlawed_69 : decode cX10_isFlawed 69 = .ok (.iaload, 1) := by decide +kernel
theorem dX10_isFlawed_70 : decode cX10_isFlawed 70 = .ok (.aload_n 0, 1) := by decide +kernel
theorem dX10_isFlawed_71 : decode cX10_isFlawed 71 = .ok (.getfield 52, 3) := by decide +kernel
theorem dX10_isFlawed_74 : decode cX10_isFlawed 74 = .ok (.iload_n 1, 1) := by decide +kernel
theorem dX10_isFlawed_75 : decode cX10_isFlawed 75 = .ok (.iaload, 1) := by decide +kernel
theorem dX10_isFlawed_76 : decode cX10_isFlawed 76 = .ok (.iload_n 3, 1) := by decide +kernel
theorem dX10_isFlawed_77 : decode cX10_isFlawed 77 = .ok (.iload 4, 2) := by decide +kernel
theorem dX10_isFlawed_79 : decode cX10_isFlawed 79 = .ok (.iload 5, 2) := by decide +kernel
theorem dX10_isFlawed_81 : decode cX10_isFlawed 81 = .ok (.iload 6, 2) := by decide +kernel
theorem dX10_isFlawed_83 : decode cX10_isFlawed 83 = .ok (.invokestatic 186, 3) := by decide +kernel
theorem dX10_isFlawed_86 : decode cX10_isFlawed 86 = .ok (.ireturn, 1) := by decide +kernel
theorem dX10_leaf_0 : decode cX10_leaf 0 = .ok (.aload_n 0, 1) := by decide +kernel
theorem dX10_leaf_1 : decode cX10_leaf 1 = .ok (.iload_n 1, 1) := by decide +kernel
theorem dX10_leaf_2 : decode cX10_leaf 2 = .ok (.iload_n 2, 1) := by decide +kernel
theorem dX10_leaf_3 : decode cX10_leaf 3 = .ok (.invokevirtual 182, 3) := by decide +kernel
theorem dX10_leaf_6 : decode cX10_leaf 6 = .ok (.ifCond .ne 7, 3) := by decide +kernel
theorem dX10_leaf_9 : decode cX10_leaf 9 = .ok (.sipush (-1000), 3) := by decide +kernel
theorem dX10_leaf_12 : decode cX10_leaf 12 = .ok (.ireturn, 1) := by decide +kernel
theorem dX10_leaf_13 : decode cX10_leaf 13 = .ok (.iconst 0, 1) := by decide +kernel
theorem dX10_leaf_14 : decode cX10_leaf 14 = .ok (.istore 4, 2) := by decide +kernel
theorem dX10_leaf_16 : decode cX10_leaf 16 = .ok (.iload_n 3, 1) := by decide +kernel
theorem dX10_leaf_17 : decode cX10_leaf 17 = .ok (.tableswitch 197 0 5 #[39, 46, 53, 108, 163, 180], 39) := by decide +kernel
theorem dX10_leaf_56 : decode cX10_leaf 56 = .ok (.aload_n 0, 1) := by decide +kernel
theorem dX10_leaf_57 : decode cX10_leaf 57 = .ok (.iload_n 1, 1) := by decide +kernel
theorem dX10_leaf_58 : decode cX10_leaf 58 = .ok (.iload_n 2, 1) := by decide +kernel
theorem dX10_leaf_59 : decode cX10_leaf 59 = .ok (.invokevirtual 190, 3) := by decide +kernel
theorem dX10_leaf_62 : decode cX10_leaf 62 = .ok (.ireturn, 1) := by decide +kernel
theorem dX10_leaf_63 : decode cX10_leaf 63 = .ok (.aload_n 0, 1) := by decide +kernel
theorem dX10_leaf_64 : decode cX10_leaf 64 = .ok (.iload_n 1, 1) := by decide +kernel
theorem dX10_leaf_65 : decode cX10_leaf 65 = .ok (.iload_n 2, 1) := by decide +kernel
theorem dX10_leaf_66 : decode cX10_leaf 66 = .ok (.invokevirtual 194, 3) := by decide +kernel
theorem dX10_leaf_69 : decode cX10_leaf 69 = .ok (.ireturn, 1) := by decide +kernel
theorem dX10_leaf_70 : decode cX10_leaf 70 = .ok (.iconst 0, 1) := by decide +kernel
theorem dX10_leaf_71 : decode cX10_leaf 71 = .ok (.istore 5, 2) := by decide +kernel
theorem dX10_leaf_73 : decode cX10_leaf 73 = .ok (.iload 5, 2) := by decide +kernel
theorem dX10_leaf_75 : decode cX10_leaf 75 = .ok (.aload_n 0, 1) := by decide +kernel
theorem dX10_leaf_76 : decode cX10_leaf 76 = .ok (.getfield 28, 3) := by decide +kernel
theorem dX10_leaf_79 : decode cX10_leaf 79 = .ok (.iload_n 1, 1) := by decide +kernel
theorem dX10_leaf_80 : decode cX10_leaf 80 = .ok (.iaload, 1) := by decide +kernel
theorem dX10_leaf_81 : decode cX10_leaf 81 = .ok (.if_icmp .ge 41, 3) := by decide +kernel
theorem dX10_leaf_84 : decode cX10_leaf 84 = .ok (.aload_n 0, 1) := by decide +kernel
theorem dX10_leaf_85 : decode cX10_leaf 85 = .ok (.bipush 10, 2) := by decide +kernel
theorem dX10_leaf_87 : decode cX10_leaf 87 = .ok (.iload_n 1, 1) := by decide +kernel
theorem dX10_leaf_88 : decode cX10_leaf 88 = .ok (.imul, 1) := by decide +kernel
theorem dX10_leaf_89 : decode cX10_leaf 89 = .ok (.iload 5, 2) := by decide +kernel
theorem dX10_leaf_91 : decode cX10_leaf 91 = .ok (.iadd, 1) := by decide +kernel
theorem dX10_leaf_92 : decode cX10_leaf 92 = .ok (.iload_n 2, 1) := by decide +kernel
theorem dX10_leaf_93 : decode cX10_leaf 93 = .ok (.iconst 0, 1) := by decide +kernel
theorem dX10_leaf_94 : decode cX10_leaf 94 = .ok (.iconst 0, 1) := by decide +kernel
theorem dX10_leaf_95 : decode cX10_leaf 95 = .ok (.aload_n 0, 1) := by decide +kernel
theorem dX10_leaf_96 : decode cX10_leaf 96 = .ok (.iload_n 1, 1) := by decide +kernel
theorem dX10_leaf_97 : decode cX10_leaf 97 = .ok (.iload_n 2, 1) := by decide +kernel
theorem dX10_leaf_98 : decode cX10_leaf 98 = .ok (.invokevirtual 190, 3) := by decide +kernel
theorem dX10_leaf_101 : decode cX10_leaf 101 = .ok (.aload_n 0, 1) := by decide +kernel
theorem dX10_leaf_102 : decode cX10_leaf 102 = .ok (.getfield 13, 3) := by decide +kernel
theorem dX10_leaf_105 : decode cX10_leaf 105 = .ok (.iload_n 1, 1) := by decide +kernel
theorem dX10_leaf_106 : decode cX10_leaf 106 = .ok (.iaload, 1) := by decide +kernel
theorem dX10_leaf_107 : decode cX10_leaf 107 = .ok (.invokevirtual 197, 3) := by decide +kernel
theorem dX10_leaf_110 : decode cX10_leaf 110 = .ok (.ifCond .eq 6, 3) := by decide +kernel
theorem dX10_leaf_113 : decode cX10_leaf 113 = .ok (.iinc 4 1, 3) := by decide +kernel
theorem dX10_leaf_116 : decode cX10_leaf 116 = .ok (.iinc 5 1, 3) := by decide +kernel
theorem dX10_leaf_119 : decode cX10_leaf 119 = .ok (.goto (-46), 3) := by decide +kernel
theorem dX10_leaf_122 : decode cX10_leaf 122 = .ok (.iload 4, 2) := by decide +kernel
theorem dX10_leaf_124 : decode cX10_leaf 124 = .ok (.ireturn, 1) := by decide +kernel
theorem dX10_leaf_125 : decode cX10_leaf 125 = .ok (.iconst 0, 1) := by decide +kernel
theorem dX10_leaf_126 : decode cX10_leaf 126 = .ok (.istore 5, 2) := by decide +kernel
theorem dX10_leaf_128 : decode cX10_leaf 128 = .ok (.iload 5, 2) := by decide +kernel
theorem dX10_leaf_130 : decode cX10_leaf 130 = .ok (.aload_n 0, 1) := by decide +kernel
theorem dX10_leaf_131 : decode cX10_leaf 131 = .ok (.getfield 171, 3) := by decide +kernel
theorem dX10_leaf_134 : decode cX10_leaf 134 = .ok (.if_icmp .ge 43, 3) := by decide +kernel
theorem dX10_leaf_137 : decode cX10_leaf 137 = .ok (.aload_n 0, 1) := by decide +kernel
theorem dX10_leaf_138 : decode cX10_leaf 138 = .ok (.getfield 55, 3) := by decide +kernel
theorem dX10_leaf_141 : decode cX10_leaf 141 = .ok (.iload 5, 2) := by decide +kernel
theorem dX10_leaf_143 : decode cX10_leaf 143 = .ok (.iaload, 1) := by decide +kernel
theorem dX10_leaf_144 : decode cX10_leaf 144 = .ok (.iload_n 1, 1) := by decide +kernel
theorem dX10_leaf_145 : decode cX10_leaf 145 = .ok (.if_icmp .ne 26, 3) := by decide +kernel
theorem dX10_leaf_148 : decode cX10_leaf 148 = .ok (.aload_n 0, 1) := by decide +kernel
theorem dX10_leaf_149 : decode cX10_leaf 149 = .ok (.getfield 58, 3) := by decide +kernel
theorem dX10_leaf_152 : decode cX10_leaf 152 = .ok (.iload 5, 2) := by decide +kernel
theorem dX10_leaf_154 : decode cX10_leaf 154 = .ok (.iaload, 1) := by decide +kernel
theorem dX10_leaf_155 : decode cX10_leaf 155 = .ok (.iload_n 2, 1) := by decide +kernel
theorem dX10_leaf_156 : decode cX10_leaf 156 = .ok (.if_icmp .ne 15, 3) := by decide +kernel
theorem dX10_leaf_159 : decode cX10_leaf 159 = .ok (.iload 4, 2) := by decide +kernel
theorem dX10_leaf_161 : decode cX10_leaf 161 = .ok (.aload_n 0, 1) := by decide +kernel
theorem dX10_leaf_162 : decode cX10_leaf 162 = .ok (.getfield 73, 3) := by decide +kernel
theorem dX10_leaf_165 : decode cX10_leaf 165 = .ok (.iload 5, 2) := by decide +kernel
theorem dX10_leaf_167 : decode cX10_leaf 167 = .ok (.iaload, 1) := by decide +kernel
theorem dX10_leaf_168 : decode cX10_leaf 168 = .ok (.iadd, 1) := by decide +kernel
theorem dX10_leaf_169 : decode cX10_leaf 169 = .ok (.istore 4, 2) := by decide +kernel
theorem dX10_leaf_171 : decode cX10_leaf 171 = .ok (.iinc 5 1, 3) := by decide +kernel
theorem dX10_leaf_174 : decode cX10_leaf 174 = .ok (.goto (-46), 3) := by decide +kernel
theorem dX10_leaf_177 : decode cX10_leaf 177 = .ok (.iload 4, 2) := by decide +kernel
theorem dX10_leaf_179 : decode cX10_leaf 179 = .ok (.ireturn, 1) := by decide +kernel
theorem dX10_leaf_180 : decode cX10_leaf 180 = .ok (.iload_n 2, 1) := by decide +kernel
theorem dX10_leaf_181 : decode cX10_leaf 181 = .ok (.ifCond .ne 12, 3) := by decide +kernel
theorem dX10_leaf_184 : decode cX10_leaf 184 = .ok (.aload_n 0, 1) := by decide +kernel
theorem dX10_leaf_185 : decode cX10_leaf 185 = .ok (.getfield 7, 3) := by decide +kernel
theorem dX10_leaf_188 : decode cX10_leaf 188 = .ok (.iload_n 1, 1) := by decide +kernel
theorem dX10_leaf_189 : decode cX10_leaf 189 = .ok (.iaload, 1) := by decide +kernel
theorem dX10_leaf_190 : decode cX10_leaf 190 = .ok (.goto 6, 3) := by decide +kernel
theorem dX10_leaf_193 : decode cX10_leaf 193 = .ok (.sipush (-1000), 3) := by decide +kernel
theorem dX10_leaf_196 : decode cX10_leaf 196 = .ok (.ireturn, 1) := by decide +kernel
theorem dX10_leaf_197 : decode cX10_leaf 197 = .ok (.iload_n 2, 1) := by decide +kernel
theorem dX10_leaf_198 : decode cX10_leaf 198 = .ok (.ifCond .ne 12, 3) := by decide +kernel
theorem dX10_leaf_201 : decode cX10_leaf 201 = .ok (.aload_n 0, 1) := by decide +kernel
theorem dX10_leaf_202 : decode cX10_leaf 202 = .ok (.getfield 13, 3) := by decide +kernel
theorem dX10_leaf_205 : decode cX10_leaf 205 = .ok (.iload_n 1, 1) := by decide +kernel
theorem dX10_leaf_206 : decode cX10_leaf 206 = .ok (.iaload, 1) := by decide +kernel
theorem dX10_leaf_207 : decode cX10_leaf 207 = .ok (.goto 6, 3) := by decide +kernel
theorem dX10_leaf_210 : decode cX10_leaf 210 = .ok (.sipush (-1000), 3) := by decide +kernel
theorem dX10_leaf_213 : decode cX10_leaf 213 = .ok (.ireturn, 1) := by decide +kernel
theorem dX10_leaf_214 : decode cX10_leaf 214 = .ok (.sipush (-1000), 3) := by decide +kernel
theorem dX10_leaf_217 : decode cX10_leaf 217 = .ok (.ireturn, 1) := by decide +kernel
theorem dX10_flawIn_0 : decode cX10_flawIn 0 = .ok (.iconst 0, 1) := by decide +kernel
theorem dX10_flawIn_1 : decode cX10_flawIn 1 = .ok (.istore 7, 2) := by decide +kernel
theorem dX10_flawIn_3 : decode cX10_flawIn 3 = .ok (.iload 7, 2) := by decide +kernel
theorem dX10_flawIn_5 : decode cX10_flawIn 5 = .ok (.aload_n 0, 1) := by decide +kernel
theorem dX10_flawIn_6 : decode cX10_flawIn 6 = .ok (.getfield 28, 3) := by decide +kernel
theorem dX10_flawIn_9 : decode cX10_flawIn 9 = .ok (.iload_n 1, 1) := by decide +kernel
theorem dX10_flawIn_10 : decode cX10_flawIn 10 = .ok (.iaload, 1) := by decide +kernel
theorem dX10_flawIn_11 : decode cX10_flawIn 11 = .ok (.if_icmp .ge 34, 3) := by decide +kernel
theorem dX10_flawIn_14 : decode cX10_flawIn 14 = .ok (.aload_n 0, 1) := by decide +kernel
theorem dX10_flawIn_15 : decode cX10_flawIn 15 = .ok (.bipush 10, 2) := by decide +kernel
theorem dX10_flawIn_17 : decode cX10_flawIn 17 = .ok (.iload_n 1, 1) := by decide +kernel
theorem dX10_flawIn_18 : decode cX10_flawIn 18 = .ok (.imul, 1) := by decide +kernel
theorem dX10_flawIn_19 : decode cX10_flawIn 19 = .ok (.iload 7, 2) := by decide +kernel
theorem dX10_flawIn_21 : decode cX10_flawIn 21 = .ok (.iadd, 1) := by decide +kernel
theorem dX10_flawIn_22 : decode cX10_flawIn 22 = .ok (.iload_n 2, 1) := by decide +kernel
theorem dX10_flawIn_23 : decode cX10_flawIn 23 = .ok (.iload_n 3, 1) := by decide +kernel
theorem dX10_flawIn_24 : decode cX10_flawIn 24 = .ok (.iload 4, 2) := by decide +kernel
theorem dX10_flawIn_26 : decode cX10_flawIn 26 = .ok (.iload 5, 2) := by decide +kernel
theorem dX10_flawIn_28 : decode cX10_flawIn 28 = .ok (.iload 6, 2) := by decide +kernel
theorem dX10_flawIn_30 : decode cX10_flawIn 30 = .ok (.invokevirtual 197, 3) := by decide +kernel
theorem dX10_flawIn_33 : decode cX10_flawIn 33 = .ok (.ifCond .eq 6, 3) := by decide +kernel
theorem dX10_flawIn_36 : decode cX10_flawIn 36 = .ok (.iload 7, 2) := by decide +kernel
theorem dX10_flawIn_38 : decode cX10_flawIn 38 = .ok (.ireturn, 1) := by decide +kernel
theorem dX10_flawIn_39 : decode cX10_flawIn 39 = .ok (.iinc 7 1, 3) := by decide +kernel
theorem dX10_flawIn_42 : decode cX10_flawIn 42 = .ok (.goto (-39), 3) := by decide +kernel
theorem dX10_flawIn_45 : decode cX10_flawIn 45 = .ok (.iconst (-1), 1) := by decide +kernel
theorem dX10_flawIn_46 : decode cX10_flawIn 46 = .ok (.ireturn, 1) := by decide +kernel
theorem dX10_isCut_0 : decode cX10_isCut 0 = .ok (.iconst 0, 1) := by decide +kernel
theorem dX10_isCut_1 : decode cX10_isCut 1 = .ok (.istore 7, 2) := by decide +kernel
theorem dX10_isCut_3 : decode cX10_isCut 3 = .ok (.iload 7, 2) := by decide +kernel
theorem dX10_isCut_5 : decode cX10_isCut 5 = .ok (.aload_n 0, 1) := by decide +kernel
theorem dX10_isCut_6 : decode cX10_isCut 6 = .ok (.getfield 171, 3) := by decide +kernel
theorem dX10_isCut_9 : decode cX10_isCut 9 = .ok (.if_icmp .ge 74, 3) := by decide +kernel
theorem dX10_isCut_12 : decode cX10_isCut 12 = .ok (.aload_n 0, 1) := by decide +kernel
theorem dX10_isCut_13 : decode cX10_isCut 13 = .ok (.getfield 55, 3) := by decide +kernel
theorem dX10_isCut_16 : decode cX10_isCut 16 = .ok (.iload 7, 2) := by decide +kernel
theorem dX10_isCut_18 : decode cX10_isCut 18 = .ok (.iaload, 1) := by decide +kernel
theorem dX10_isCut_19 : decode cX10_isCut 19 = .ok (.iload_n 1, 1) := by decide +kernel
theorem dX10_isCut_20 : decode cX10_isCut 20 = .ok (.if_icmp .ne 57, 3) := by decide +kernel
theorem dX10_isCut_23 : decode cX10_isCut 23 = .ok (.aload_n 0, 1) := by decide +kernel
theorem dX10_isCut_24 : decode cX10_isCut 24 = .ok (.getfield 58, 3) := by decide +kernel
theorem dX10_isCut_27 : decode cX10_isCut 27 = .ok (.iload 7, 2) := by decide +kernel
theorem dX10_isCut_29 : decode cX10_isCut 29 = .ok (.iaload, 1) := by decide +kernel
theorem dX10_isCut_30 : decode cX10_isCut 30 = .ok (.iload_n 2, 1) := by decide +kernel
theorem dX10_isCut_31 : decode cX10_isCut 31 = .ok (.if_icmp .ne 46, 3) := by decide +kernel
theorem dX10_isCut_34 : decode cX10_isCut 34 = .ok (.aload_n 0, 1) := by decide +kernel
theorem dX10_isCut_35 : decode cX10_isCut 35 = .ok (.getfield 61, 3) := by decide +kernel
theorem dX10_isCut_38 : decode cX10_isCut 38 = .ok (.iload 7, 2) := by decide +kernel
theorem dX10_isCut_40 : decode cX10_isCut 40 = .ok (.iaload, 1) := by decide +kernel
theorem dX10_isCut_41 : decode cX10_isCut 41 = .ok (.aload_n 0, 1) := by decide +kernel
theorem dX10_isCut_42 : decode cX10_isCut 42 = .ok (.getfield 64, 3) := by decide +kernel
theorem dX10_isCut_45 : decode cX10_isCut 45 = .ok (.iload 7, 2) := by decide +kernel
theorem dX10_isCut_47 : decode cX10_isCut 47 = .ok (.iaload, 1) := by decide +kernel
theorem dX10_isCut_48 : decode cX10_isCut 48 = .ok (.aload_n 0, 1) := by decide +kernel
theorem dX10_isCut_49 : decode cX10_isCut 49 = .ok (.getfield 67, 3) := by decide +kernel
theorem dX10_isCut_52 : decode cX10_isCut 52 = .ok (.iload 7, 2) := by decide +kernel
theorem dX10_isCut_54 : decode cX10_isCut 54 = .ok (.iaload, 1) := by decide +kernel
theorem dX10_isCut_55 : decode cX10_isCut 55 = .ok (.aload_n 0, 1) := by decide +kernel
theorem dX10_isCut_56 : decode cX10_isCut 56 = .ok (.getfield 70, 3) := by decide +kernel
theorem dX10_isCut_59 : decode cX10_isCut 59 = .ok (.iload 7, 2) := by decide +kernel
theorem dX10_isCut_61 : decode cX10_isCut 61 = .ok (.iaload, 1) := by decide +kernel
theorem dX10_isCut_62 : decode cX10_isCut 62 = .ok (.iload_n 3, 1) := by decide +kernel
theorem dX10_isCut_63 : decode cX10_isCut 63 = .ok (.iload 4, 2) := by decide +kernel
theorem dX10_isCut_65 : decode cX10_isCut 65 = .ok (.iload 5, 2) := by decide +kernel
theorem dX10_isCut_67 : decode cX10_isCut 67 = .ok (.iload 6, 2) := by decide +kernel
theorem dX10_isCut_69 : decode cX10_isCut 69 = .ok (.invokestatic 186, 3) := by decide +kernel
theorem dX10_isCut_72 : decode cX10_isCut 72 = .ok (.ifCond .eq 5, 3) := by decide +kernel
theorem dX10_isCut_75 : decode cX10_isCut 75 = .ok (.iconst 1, 1) := by decide +kernel
theorem dX10_isCut_76 : decode cX10_isCut 76 = .ok (.ireturn, 1) := by decide +kernel
theorem dX10_isCut_77 : decode cX10_isCut 77 = .ok (.iinc 7 1, 3) := by decide +kernel
theorem dX10_isCut_80 : decode cX10_isCut 80 = .ok (.goto (-77), 3) := by decide +kernel
theorem dX10_isCut_83 : decode cX10_isCut 83 = .ok (.iconst 0, 1) := by decide +kernel
theorem dX10_isCut_84 : decode cX10_isCut 84 = .ok (.ireturn, 1) := by decide +kernel
theorem dX10_isWithin_0 : decode cX10_isWithin 0 = .ok (.lload_n 3, 1) := by decide +kernel
theorem dX10_isWithin_1 : decode cX10_isWithin 1 = .ok (.lconst 0, 1) := by decide +kernel
theorem dX10_isWithin_2 : decode cX10_isWithin 2 = .ok (.lcmp, 1) := by decide +kernel
theorem dX10_isWithin_3 : decode cX10_isWithin 3 = .ok (.ifCond .lt 47, 3) := by decide +kernel
theorem dX10_isWithin_6 : decode cX10_isWithin 6 = .ok (.lload 5, 2) := by decide +kernel
theorem dX10_isWithin_8 : decode cX10_isWithin 8 = .ok (.lconst 0, 1) := by decide +kernel
theorem dX10_isWithin_9 : decode cX10_isWithin 9 = .ok (.lcmp, 1) := by decide +kernel
theorem dX10_isWithin_10 : decode cX10_isWithin 10 = .ok (.ifCond .lt 40, 3) := by decide +kernel
theorem dX10_isWithin_13 : decode cX10_isWithin 13 = .ok (.lload_n 3, 1) := by decide +kernel
theorem dX10_isWithin_14 : decode cX10_isWithin 14 = .ok (.iload 7, 2) := by decide +kernel
theorem dX10_isWithin_16 : decode cX10_isWithin 16 = .ok (.i2l, 1) := by decide +kernel
theorem dX10_isWithin_17 : decode cX10_isWithin 17 = .ok (.ladd, 1) := by decide +kernel
theorem dX10_isWithin_18 : decode cX10_isWithin 18 = .ok (.aload_n 0, 1) := by decide +kernel
theorem dX10_isWithin_19 : decode cX10_isWithin 19 = .ok (.iload_n 1, 1) := by decide +kernel
theorem dX10_isWithin_20 : decode cX10_isWithin 20 = .ok (.iload_n 2, 1) := by decide +kernel
theorem dX10_isWithin_21 : decode cX10_isWithin 21 = .ok (.invokevirtual 190, 3) := by decide +kernel
theorem dX10_isWithin_24 : decode cX10_isWithin 24 = .ok (.i2l, 1) := by decide +kernel
theorem dX10_isWithin_25 : decode cX10_isWithin 25 = .ok (.lcmp, 1) := by decide +kernel
theorem dX10_isWithin_26 : decode cX10_isWithin 26 = .ok (.ifCond .gt 24, 3) := by decide +kernel
theorem dX10_isWithin_29 : decode cX10_isWithin 29 = .ok (.lload 5, 2) := by decide +kernel
theorem dX10_isWithin_31 : decode cX10_isWithin 31 = .ok (.iload 8, 2) := by decide +kernel
theorem dX10_isWithin_33 : decode cX10_isWithin 33 = .ok (.i2l, 1) := by decide +kernel
theorem dX10_isWithin_34 : decode cX10_isWithin 34 = .ok (.ladd, 1) := by decide +kernel
theorem dX10_isWithin_35 : decode cX10_isWithin 35 = .ok (.aload_n 0, 1) := by decide +kernel
theorem dX10_isWithin_36 : decode cX10_isWithin 36 = .ok (.getfield 13, 3) := by decide +kernel
theorem dX10_isWithin_39 : decode cX10_isWithin 39 = .ok (.iload_n 1, 1) := by decide +kernel
theorem dX10_isWithin_40 : decode cX10_isWithin 40 = .ok (.iaload, 1) := by decide +kernel
theorem dX10_isWithin_41 : decode cX10_isWithin 41 = .ok (.i2l, 1) := by decide +kernel
theorem dX10_isWithin_42 : decode cX10_isWithin 42 = .ok (.lcmp, 1) := by decide +kernel
theorem dX10_isWithin_43 : decode cX10_isWithin 43 = .ok (.ifCond .gt 7, 3) := by decide +kernel
theorem dX10_isWithin_46 : decode cX10_isWithin 46 = .ok (.iconst 1, 1) := by decide +kernel
theorem dX10_isWithin_47 : decode cX10_isWithin 47 = .ok (.goto 4, 3) := by decide +kernel
theorem dX10_isWithin_50 : decode cX10_isWithin 50 = .ok (.iconst 0, 1) := by decide +kernel
theorem dX10_isWithin_51 : decode cX10_isWithin 51 = .ok (.ireturn, 1) := by decide +kernel
theorem dX10_hit_0 : decode cX10_hit 0 = .ok (.aload_n 0, 1) := by decide +kernel
theorem dX10_hit_1 : decode cX10_hit 1 = .ok (.iload_n 1, 1) := by decide +kernel
theorem dX10_hit_2 : decode cX10_hit 2 = .ok (.iload_n 2, 1) := by decide +kernel
theorem dX10_hit_3 : decode cX10_hit 3 = .ok (.invokevirtual 182, 3) := by decide +kernel
theorem dX10_hit_6 : decode cX10_hit 6 = .ok (.ifCond .eq 25, 3) := by decide +kernel
theorem dX10_hit_9 : decode cX10_hit 9 = .ok (.iload 5, 2) := by decide +kernel
theorem dX10_hit_11 : decode cX10_hit 11 = .ok (.iconst 1, 1) := by decide +kernel
theorem dX10_hit_12 : decode cX10_hit 12 = .ok (.bipush 100, 2) := by decide +kernel
theorem dX10_hit_14 : decode cX10_hit 14 = .ok (.invokestatic 174, 3) := by decide +kernel
theorem dX10_hit_17 : decode cX10_hit 17 = .ok (.ifCond .eq 14, 3) := by decide +kernel
theorem dX10_hit_20 : decode cX10_hit 20 = .ok (.iload 6, 2) := by decide +kernel
theorem dX10_hit_22 : decode cX10_hit 22 = .ok (.iconst 1, 1) := by decide +kernel
theorem dX10_hit_23 : decode cX10_hit 23 = .ok (.bipush 100, 2) := by decide +kernel
theorem dX10_hit_25 : decode cX10_hit 25 = .ok (.invokestatic 174, 3) := by decide +kernel
theorem dX10_hit_28 : decode cX10_hit 28 = .ok (.ifCond .ne 6, 3) := by decide +kernel
theorem dX10_hit_31 : decode cX10_hit 31 = .ok (.bipush (-2), 2) := by decide +kernel
theorem dX10_hit_33 : decode cX10_hit 33 = .ok (.ireturn, 1) := by decide +kernel
theorem dX10_hit_34 : decode cX10_hit 34 = .ok (.aload_n 0, 1) := by decide +kernel
theorem dX10_hit_35 : decode cX10_hit 35 = .ok (.iload_n 1, 1) := by decide +kernel
theorem dX10_hit_36 : decode cX10_hit 36 = .ok (.iload_n 2, 1) := by decide +kernel
theorem dX10_hit_37 : decode cX10_hit 37 = .ok (.iload_n 3, 1) := by decide +kernel
theorem dX10_hit_38 : decode cX10_hit 38 = .ok (.i2l, 1) := by decide +kernel
theorem dX10_hit_39 : decode cX10_hit 39 = .ok (.iload 4, 2) := by decide +kernel
theorem dX10_hit_41 : decode cX10_hit 41 = .ok (.i2l, 1) := by decide +kernel
theorem dX10_hit_42 : decode cX10_hit 42 = .ok (.iload 5, 2) := by decide +kernel
theorem dX10_hit_44 : decode cX10_hit 44 = .ok (.iload 6, 2) := by decide +kernel
theorem dX10_hit_46 : decode cX10_hit 46 = .ok (.invokevirtual 201, 3) := by decide +kernel
theorem dX10_hit_49 : decode cX10_hit 49 = .ok (.ifCond .eq 19, 3) := by decide +kernel
theorem dX10_hit_52 : decode cX10_hit 52 = .ok (.aload_n 0, 1) := by decide +kernel
theorem dX10_hit_53 : decode cX10_hit 53 = .ok (.iload_n 1, 1) := by decide +kernel
theorem dX10_hit_54 : decode cX10_hit 54 = .ok (.iload_n 2, 1) := by decide +kernel
theorem dX10_hit_55 : decode cX10_hit 55 = .ok (.iload_n 3, 1) := by decide +kernel
theorem dX10_hit_56 : decode cX10_hit 56 = .ok (.iload 4, 2) := by decide +kernel
theorem dX10_hit_58 : decode cX10_hit 58 = .ok (.iload 5, 2) := by decide +kernel
theorem dX10_hit_60 : decode cX10_hit 60 = .ok (.iload 6, 2) := by decide +kernel
theorem dX10_hit_62 : decode cX10_hit 62 = .ok (.invokevirtual 205, 3) := by decide +kernel
theorem dX10_hit_65 : decode cX10_hit 65 = .ok (.goto 5, 3) := by decide +kernel
theorem dX10_hit_68 : decode cX10_hit 68 = .ok (.bipush (-3), 2) := by decide +kernel
theorem dX10_hit_70 : decode cX10_hit 70 = .ok (.ireturn, 1) := by decide +kernel
theorem dX10_feed_0 : decode cX10_feed 0 = .ok (.aload_n 0, 1) := by decide +kernel
theorem dX10_feed_1 : decode cX10_feed 1 = .ok (.getfield 209, 3) := by decide +kernel
theorem dX10_feed_4 : decode cX10_feed 4 = .ok (.bipush 20, 2) := by decide +kernel
theorem dX10_feed_6 : decode cX10_feed 6 = .ok (.iadd, 1) := by decide +kernel
theorem dX10_feed_7 : decode cX10_feed 7 = .ok (.sipush 400, 3) := by decide +kernel
theorem dX10_feed_10 : decode cX10_feed 10 = .ok (.if_icmp .le 5, 3) := by decide +kernel
theorem dX10_feed_13 : decode cX10_feed 13 = .ok (.iconst (-1), 1) := by decide +kernel
theorem dX10_feed_14 : decode cX10_feed 14 = .ok (.ireturn, 1) := by decide +kernel
theorem dX10_feed_15 : decode cX10_feed 15 = .ok (.iconst 0, 1) := by decide +kernel
theorem dX10_feed_16 : decode cX10_feed 16 = .ok (.istore 6, 2) := by decide +kernel
theorem dX10_feed_18 : decode cX10_feed 18 = .ok (.iload 6, 2) := by decide +kernel
theorem dX10_feed_20 : decode cX10_feed 20 = .ok (.bipush 20, 2) := by decide +kernel
theorem dX10_feed_22 : decode cX10_feed 22 = .ok (.if_icmp .ge 92, 3) := by decide +kernel
theorem dX10_feed_25 : decode cX10_feed 25 = .ok (.iload 6, 2) := by decide +kernel
theorem dX10_feed_27 : decode cX10_feed 27 = .ok (.iconst 4, 1) := by decide +kernel
theorem dX10_feed_28 : decode cX10_feed 28 = .ok (.if_icmp .ge 7, 3) := by decide +kernel
theorem dX10_feed_31 : decode cX10_feed 31 = .ok (.iload_n 1, 1) := by decide +kernel
theorem dX10_feed_32 : decode cX10_feed 32 = .ok (.goto 39, 3) := by decide +kernel
theorem dX10_feed_35 : decode cX10_feed 35 = .ok (.iload 6, 2) := by decide +kernel
theorem dX10_feed_37 : decode cX10_feed 37 = .ok (.bipush 8, 2) := by decide +kernel
theorem dX10_feed_39 : decode cX10_feed 39 = .ok (.if_icmp .ge 7, 3) := by decide +kernel
theorem dX10_feed_42 : decode cX10_feed 42 = .ok (.iload_n 2, 1) := by decide +kernel
theorem dX10_feed_43 : decode cX10_feed 43 = .ok (.goto 28, 3) := by decide +kernel
theorem dX10_feed_46 : decode cX10_feed 46 = .ok (.iload 6, 2) := by decide +kernel
theorem dX10_feed_48 : decode cX10_feed 48 = .ok (.bipush 12, 2) := by decide +kernel
theorem dX10_feed_50 : decode cX10_feed 50 = .ok (.if_icmp .ge 7, 3) := by decide +kernel
theorem dX10_feed_53 : decode cX10_feed 53 = .ok (.iload_n 3, 1) := by decide +kernel
theorem dX10_feed_54 : decode cX10_feed 54 = .ok (.goto 17, 3) := by decide +kernel
theorem dX10_feed_57 : decode cX10_feed 57 = .ok (.iload 6, 2) := by decide +kernel
theorem dX10_feed_59 : decode cX10_feed 59 = .ok (.bipush 16, 2) := by decide +kernel
theorem dX10_feed_61 : decode cX10_feed 61 = .ok (.if_icmp .ge 8, 3) := by decide +kernel
theorem dX10_feed_64 : decode cX10_feed 64 = .ok (.iload 4, 2) := by decide +kernel
theorem dX10_feed_66 : decode cX10_feed 66 = .ok (.goto 5, 3) := by decide +kernel
theorem dX10_feed_69 : decode cX10_feed 69 = .ok (.iload 5, 2) := by decide +kernel
theorem dX10_feed_71 : decode cX10_feed 71 = .ok (.istore 7, 2) := by decide +kernel
theorem dX10_feed_73 : decode cX10_feed 73 = .ok (.aload_n 0, 1) := by decide +kernel
theorem dX10_feed_74 : decode cX10_feed 74 = .ok (.getfield 79, 3) := by decide +kernel
theorem dX10_feed_77 : decode cX10_feed 77 = .ok (.aload_n 0, 1) := by decide +kernel
theorem dX10_feed_78 : decode cX10_feed 78 = .ok (.getfield 209, 3) := by decide +kernel
theorem dX10_feed_81 : decode cX10_feed 81 = .ok (.iload 7, 2) := by decide +kernel
theorem dX10_feed_83 : decode cX10_feed 83 = .ok (.bipush 8, 2) := by decide +kernel
theorem dX10_feed_85 : decode cX10_feed 85 = .ok (.iconst 3, 1) := by decide +kernel
theorem dX10_feed_86 : decode cX10_feed 86 = .ok (.iload 6, 2) := by decide +kernel
theorem dX10_feed_88 : decode cX10_feed 88 = .ok (.iconst 4, 1) := by decide +kernel
theorem dX10_feed_89 : decode cX10_feed 89 = .ok (.irem, 1) := by decide +kernel
theorem dX10_feed_90 : decode cX10_feed 90 = .ok (.isub, 1) := by decide +kernel
theorem dX10_feed_91 : decode cX10_feed 91 = .ok (.imul, 1) := by decide +kernel
theorem dX10_feed_92 : decode cX10_feed 92 = .ok (.ishr, 1) := by decide +kernel
theorem dX10_feed_93 : decode cX10_feed 93 = .ok (.sipush 255, 3) := by decide +kernel
theorem dX10_feed_96 : decode cX10_feed 96 = .ok (.iand, 1) := by decide +kernel
theorem dX10_feed_97 : decode cX10_feed 97 = .ok (.iastore, 1) := by decide +kernel
theorem dX10_feed_98 : decode cX10_feed 98 = .ok (.aload_n 0, 1) := by decide +kernel
theorem dX10_feed_99 : decode cX10_feed 99 = .ok (.dup, 1) := by decide +kernel
theorem dX10_feed_100 : decode cX10_feed 100 = .ok (.getfield 209, 3) := by decide +kernel
theorem dX10_feed_103 : decode cX10_feed 103 = .ok (.iconst 1, 1) := by decide +kernel
theorem dX10_feed_104 : decode cX10_feed 104 = .ok (.iadd, 1) := by decide +kernel
theorem dX10_feed_105 : decode cX10_feed 105 = .ok (.putfield 209, 3) := by decide +kernel
theorem dX10_feed_108 : decode cX10_feed 108 = .ok (.iinc 6 1, 3) := by decide +kernel
theorem dX10_feed_111 : decode cX10_feed 111 = .ok (.goto (-93), 3) := by decide +kernel
theorem dX10_feed_114 : decode cX10_feed 114 = .ok (.aload_n 0, 1) := by decide +kernel
theorem dX10_feed_115 : decode cX10_feed 115 = .ok (.getfield 209, 3) := by decide +kernel
theorem dX10_feed_118 : decode cX10_feed 118 = .ok (.ireturn, 1) := by decide +kernel
theorem dX10_end_0 : decode cX10_end 0 = .ok (.iload_n 1, 1) := by decide +kernel
theorem dX10_end_1 : decode cX10_end 1 = .ok (.ifCond .lt 11, 3) := by decide +kernel
theorem dX10_end_4 : decode cX10_end 4 = .ok (.iload_n 1, 1) := by decide +kernel
theorem dX10_end_5 : decode cX10_end 5 = .ok (.aload_n 0, 1) := by decide +kernel
theorem dX10_end_6 : decode cX10_end 6 = .ok (.getfield 209, 3) := by decide +kernel
theorem dX10_end_9 : decode cX10_end 9 = .ok (.if_icmp .le 5, 3) := by decide +kernel
theorem dX10_end_12 : decode cX10_end 12 = .ok (.iconst 0, 1) := by decide +kernel
theorem dX10_end_13 : decode cX10_end 13 = .ok (.ireturn, 1) := by decide +kernel
theorem dX10_end_14 : decode cX10_end 14 = .ok (.aload_n 0, 1) := by decide +kernel
theorem dX10_end_15 : decode cX10_end 15 = .ok (.iload_n 1, 1) := by decide +kernel
theorem dX10_end_16 : decode cX10_end 16 = .ok (.putfield 209, 3) := by decide +kernel
theorem dX10_end_19 : decode cX10_end 19 = .ok (.iconst 1, 1) := by decide +kernel
theorem dX10_end_20 : decode cX10_end 20 = .ok (.ireturn, 1) := by decide +kernel
theorem dX10_fail_0 : decode cX10_fail 0 = .ok (.aload_n 0, 1) := by decide +kernel
theorem dX10_fail_1 : decode cX10_fail 1 = .ok (.getfield 212, 3) := by decide +kernel
theorem dX10_fail_4 : decode cX10_fail 4 = .ok (.ifCond .eq 4, 3) := by decide +kernel
theorem dX10_fail_7 : decode cX10_fail 7 = .ok (.return_, 1) := by decide +kernel
theorem dX10_fail_8 : decode cX10_fail 8 = .ok (.aload_n 0, 1) := by decide +kernel
theorem dX10_fail_9 : decode cX10_fail 9 = .ok (.iload_n 1, 1) := by decide +kernel
theorem dX10_fail_10 : decode cX10_fail 10 = .ok (.putfield 212, 3) := by decide +kernel
theorem dX10_fail_13 : decode cX10_fail 13 = .ok (.aload_n 0, 1) := by decide +kernel
theorem dX10_fail_14 : decode cX10_fail 14 = .ok (.iload_n 2, 1) := by decide +kernel
theorem dX10_fail_15 : decode cX10_fail 15 = .ok (.putfield 215, 3) := by decide +kernel
theorem dX10_fail_18 : decode cX10_fail 18 = .ok (.return_, 1) := by decide +kernel
theorem dX10_next_0 : decode cX10_next 0 = .ok (.aload_n 0, 1) := by decide +kernel
theorem dX10_next_1 : decode cX10_next 1 = .ok (.getfield 218, 3) := by decide +kernel
theorem dX10_next_4 : decode cX10_next 4 = .ok (.aload_n 0, 1) := by decide +kernel
theorem dX10_next_5 : decode cX10_next 5 = .ok (.getfield 221, 3) := by decide +kernel
theorem dX10_next_8 : decode cX10_next 8 = .ok (.if_icmp .ge 44, 3) := by decide +kernel
theorem dX10_next_11 : decode cX10_next 11 = .ok (.aload_n 0, 1) := by decide +kernel
theorem dX10_next_12 : decode cX10_next 12 = .ok (.getfield 79, 3) := by decide +kernel
theorem dX10_next_15 : decode cX10_next 15 = .ok (.aload_n 0, 1) := by decide +kernel
theorem dX10_next_16 : decode cX10_next 16 = .ok (.getfield 218, 3) := by decide +kernel
theorem dX10_next_19 : decode cX10_next 19 = .ok (.iaload, 1) := by decide +kernel
theorem dX10_next_20 : decode cX10_next 20 = .ok (.bipush 10, 2) := by decide +kernel
theorem dX10_next_22 : decode cX10_next 22 = .ok (.if_icmp .eq 17, 3) := by decide +kernel
theorem dX10_next_25 : decode cX10_next 25 = .ok (.aload_n 0, 1) := by decide +kernel
theorem dX10_next_26 : decode cX10_next 26 = .ok (.getfield 79, 3) := by decide +kernel
theorem dX10_next_29 : decode cX10_next 29 = .ok (.aload_n 0, 1) := by decide +kernel
theorem dX10_next_30 : decode cX10_next 30 = .ok (.getfield 218, 3) := by decide +kernel
theorem dX10_next_33 : decode cX10_next 33 = .ok (.iaload, 1) := by decide +kernel
theorem dX10_next_34 : decode cX10_next 34 = .ok (.bipush 32, 2) := by decide +kernel
theorem dX10_next_36 : decode cX10_next 36 = .ok (.if_icmp .ne 16, 3) := by decide +kernel
theorem dX10_next_39 : decode cX10_next 39 = .ok (.aload_n 0, 1) := by decide +kernel
theorem dX10_next_40 : decode cX10_next 40 = .ok (.dup, 1) := by decide +kernel
theorem dX10_next_41 : decode cX10_next 41 = .ok (.getfield 218, 3) := by decide +kernel
theorem dX10_next_44 : decode cX10_next 44 = .ok (.iconst 1, 1) := by decide +kernel
theorem dX10_next_45 : decode cX10_next 45 = .ok (.iadd, 1) := by decide +kernel
theorem dX10_next_46 : decode cX10_next 46 = .ok (.putfield 218, 3) := by decide +kernel
theorem dX10_next_49 : decode cX10_next 49 = .ok (.goto (-49), 3) := by decide +kernel
theorem dX10_next_52 : decode cX10_next 52 = .ok (.aload_n 0, 1) := by decide +kernel
theorem dX10_next_53 : decode cX10_next 53 = .ok (.getfield 218, 3) := by decide +kernel
theorem dX10_next_56 : decode cX10_next 56 = .ok (.aload_n 0, 1) := by decide +kernel
theorem dX10_next_57 : decode cX10_next 57 = .ok (.getfield 221, 3) := by decide +kernel
theorem dX10_next_60 : decode cX10_next 60 = .ok (.if_icmp .ge 15, 3) := by decide +kernel
theorem dX10_next_63 : decode cX10_next 63 = .ok (.aload_n 0, 1) := by decide +kernel
theorem dX10_next_64 : decode cX10_next 64 = .ok (.getfield 79, 3) := by decide +kernel
theorem dX10_next_67 : decode cX10_next 67 = .ok (.aload_n 0, 1) := by decide +kernel
theorem dX10_next_68 : decode cX10_next 68 = .ok (.getfield 218, 3) := by decide +kernel
theorem dX10_next_71 : decode cX10_next 71 = .ok (.iaload, 1) := by decide +kernel
theorem dX10_next_72 : decode cX10_next 72 = .ok (.goto 4, 3) := by decide +kernel
theorem dX10_next_75 : decode cX10_next 75 = .ok (.iconst (-1), 1) := by decide +kernel
theorem dX10_next_76 : decode cX10_next 76 = .ok (.ireturn, 1) := by decide +kernel
theorem dX10_begins_0 : decode cX10_begins 0 = .ok (.aload_n 0, 1) := by decide +kernel
theorem dX10_begins_1 : decode cX10_begins 1 = .ok (.getfield 92, 3) := by decide +kernel
theorem dX10_begins_4 : decode cX10_begins 4 = .ok (.aload_n 0, 1) := by decide +kernel
theorem dX10_begins_5 : decode cX10_begins 5 = .ok (.getfield 224, 3) := by decide +kernel
theorem dX10_begins_8 : decode cX10_begins 8 = .ok (.iconst 0, 1) := by decide +kernel
theorem dX10_begins_9 : decode cX10_begins 9 = .ok (.iastore, 1) := by decide +kernel
theorem dX10_begins_10 : decode cX10_begins 10 = .ok (.aload_n 0, 1) := by decide +kernel
theorem dX10_begins_11 : decode cX10_begins 11 = .ok (.getfield 101, 3) := by decide +kernel
theorem dX10_begins_14 : decode cX10_begins 14 = .ok (.aload_n 0, 1) := by decide +kernel
theorem dX10_begins_15 : decode cX10_begins 15 = .ok (.getfield 224, 3) := by decide +kernel
theorem dX10_begins_18 : decode cX10_begins 18 = .ok (.iconst 0, 1) := by decide +kernel
theorem dX10_begins_19 : decode cX10_begins 19 = .ok (.iastore, 1) := by decide +kernel
theorem dX10_begins_20 : decode cX10_begins 20 = .ok (.aload_n 0, 1) := by decide +kernel
theorem dX10_begins_21 : decode cX10_begins 21 = .ok (.getfield 110, 3) := by decide +kernel
theorem dX10_begins_24 : decode cX10_begins 24 = .ok (.aload_n 0, 1) := by decide +kernel
theorem dX10_begins_25 : decode cX10_begins 25 = .ok (.getfield 224, 3) := by decide +kernel
theorem dX10_begins_28 : decode cX10_begins 28 = .ok (.iconst (-1), 1) := by decide +kernel
theorem dX10_begins_29 : decode cX10_begins 29 = .ok (.iastore, 1) := by decide +kernel
theorem dX10_begins_30 : decode cX10_begins 30 = .ok (.aload_n 0, 1) := by decide +kernel
theorem dX10_begins_31 : decode cX10_begins 31 = .ok (.getfield 113, 3) := by decide +kernel
theorem dX10_begins_34 : decode cX10_begins 34 = .ok (.aload_n 0, 1) := by decide +kernel
theorem dX10_begins_35 : decode cX10_begins 35 = .ok (.getfield 224, 3) := by decide +kernel
theorem dX10_begins_38 : decode cX10_begins 38 = .ok (.iconst (-1), 1) := by decide +kernel
theorem dX10_begins_39 : decode cX10_begins 39 = .ok (.iastore, 1) := by decide +kernel
theorem dX10_begins_40 : decode cX10_begins 40 = .ok (.return_, 1) := by decide +kernel
theorem dX10_opens_0 : decode cX10_opens 0 = .ok (.aload_n 0, 1) := by decide +kernel
theorem dX10_opens_1 : decode cX10_opens 1 = .ok (.getfield 227, 3) := by decide +kernel
theorem dX10_opens_4 : decode cX10_opens 4 = .ok (.bipush 6, 2) := by decide +kernel
theorem dX10_opens_6 : decode cX10_opens 6 = .ok (.if_icmp .ne 10, 3) := by decide +kernel
theorem dX10_opens_9 : decode cX10_opens 9 = .ok (.aload_n 0, 1) := by decide +kernel
theorem dX10_opens_10 : decode cX10_opens 10 = .ok (.iconst 1, 1) := by decide +kernel
theorem dX10_opens_11 : decode cX10_opens 11 = .ok (.iload_n 3, 1) := by decide +kernel
theorem dX10_opens_12 : decode cX10_opens 12 = .ok (.invokevirtual 230, 3) := by decide +kernel
theorem dX10_opens_15 : decode cX10_opens 15 = .ok (.return_, 1) := by decide +kernel
theorem dX10_opens_16 : decode cX10_opens 16 = .ok (.aload_n 0, 1) := by decide +kernel
theorem dX10_opens_17 : decode cX10_opens 17 = .ok (.getfield 116, 3) := by decide +kernel
theorem dX10_opens_20 : decode cX10_opens 20 = .ok (.aload_n 0, 1) := by decide +kernel
theorem dX10_opens_21 : decode cX10_opens 21 = .ok (.getfield 227, 3) := by decide +kernel
theorem dX10_opens_24 : decode cX10_opens 24 = .ok (.iload_n 1, 1) := by decide +kernel
theorem dX10_opens_25 : decode cX10_opens 25 = .ok (.iastore, 1) := by decide +kernel
theorem dX10_opens_26 : decode cX10_opens 26 = .ok (.aload_n 0, 1) := by decide +kernel
theorem dX10_opens_27 : decode cX10_opens 27 = .ok (.getfield 119, 3) := by decide +kernel
theorem dX10_opens_30 : decode cX10_opens 30 = .ok (.aload_n 0, 1) := by decide +kernel
theorem dX10_opens_31 : decode cX10_opens 31 = .ok (.getfield 227, 3) := by decide +kernel
theorem dX10_opens_34 : decode cX10_opens 34 = .ok (.iload_n 2, 1) := by decide +kernel
theorem dX10_opens_35 : decode cX10_opens 35 = .ok (.iastore, 1) := by decide +kernel
theorem dX10_opens_36 : decode cX10_opens 36 = .ok (.aload_n 0, 1) := by decide +kernel
theorem dX10_opens_37 : decode cX10_opens 37 = .ok (.getfield 122, 3) := by decide +kernel
theorem dX10_opens_40 : decode cX10_opens 40 = .ok (.aload_n 0, 1) := by decide +kernel
theorem dX10_opens_41 : decode cX10_opens 41 = .ok (.getfield 227, 3) := by decide +kernel
theorem dX10_opens_44 : decode cX10_opens 44 = .ok (.iload 4, 2) := by decide +kernel
theorem dX10_opens_46 : decode cX10_opens 46 = .ok (.iastore, 1) := by decide +kernel
theorem dX10_opens_47 : decode cX10_opens 47 = .ok (.aload_n 0, 1) := by decide +kernel
theorem dX10_opens_48 : decode cX10_opens 48 = .ok (.dup, 1) := by decide +kernel
theorem dX10_opens_49 : decode cX10_opens 49 = .ok (.getfield 227, 3) := by decide +kernel
theorem dX10_opens_52 : decode cX10_opens 52 = .ok (.iconst 1, 1) := by decide +kernel
theorem dX10_opens_53 : decode cX10_opens 53 = .ok (.iadd, 1) := by decide +kernel
theorem dX10_opens_54 : decode cX10_opens 54 = .ok (.putfield 227, 3) := by decide +kernel
theorem dX10_opens_57 : decode cX10_opens 57 = .ok (.return_, 1) := by decide +kernel
theorem dX10_turns_0 : decode cX10_turns 0 = .ok (.iconst 0, 1) := by decide +kernel
theorem dX10_turns_1 : decode cX10_turns 1 = .ok (.istore_n 3, 1) := by decide +kernel
theorem dX10_turns_2 : decode cX10_turns 2 = .ok (.iload_n 3, 1) := by decide +kernel
theorem dX10_turns_3 : decode cX10_turns 3 = .ok (.bipush 64, 2) := by decide +kernel
theorem dX10_turns_5 : decode cX10_turns 5 = .ok (.if_icmp .ge 21, 3) := by decide +kernel
theorem dX10_turns_8 : decode cX10_turns 8 = .ok (.aload_n 0, 1) := by decide +kernel
theorem dX10_turns_9 : decode cX10_turns 9 = .ok (.getfield 89, 3) := by decide +kernel
theorem dX10_turns_12 : decode cX10_turns 12 = .ok (.iload_n 3, 1) := by decide +kernel
theorem dX10_turns_13 : decode cX10_turns 13 = .ok (.aload_n 0, 1) := by decide +kernel
theorem dX10_turns_14 : decode cX10_turns 14 = .ok (.getfield 86, 3) := by decide +kernel
theorem dX10_turns_17 : decode cX10_turns 17 = .ok (.iload_n 3, 1) := by decide +kernel
theorem dX10_turns_18 : decode cX10_turns 18 = .ok (.iaload, 1) := by decide +kernel
theorem dX10_turns_19 : decode cX10_turns 19 = .ok (.iastore, 1) := by decide +kernel
theorem dX10_turns_20 : decode cX10_turns 20 = .ok (.iinc 3 1, 3) := by decide +kernel
theorem dX10_turns_23 : decode cX10_turns 23 = .ok (.goto (-21), 3) := by decide +kernel
theorem dX10_turns_26 : decode cX10_turns 26 = .ok (.iconst 0, 1) := by decide +kernel
theorem dX10_turns_27 : decode cX10_turns 27 = .ok (.istore_n 3, 1) := by decide +kernel
theorem dX10_turns_28 : decode cX10_turns 28 = .ok (.iload_n 3, 1) := by decide +kernel
theorem dX10_turns_29 : decode cX10_turns 29 = .ok (.aload_n 0, 1) := by decide +kernel
theorem dX10_turns_30 : decode cX10_turns 30 = .ok (.getfield 233, 3) := by decide +kernel
theorem dX10_turns_33 : decode cX10_turns 33 = .ok (.if_icmp .ge 108, 3) := by decide +kernel
theorem dX10_turns_36 : decode cX10_turns 36 = .ok (.iconst 0, 1) := by decide +kernel
theorem dX10_turns_37 : decode cX10_turns 37 = .ok (.istore 4, 2) := by decide +kernel
theorem dX10_turns_39 : decode cX10_turns 39 = .ok (.iload 4, 2) := by decide +kernel
theorem dX10_turns_41 : decode cX10_turns 41 = .ok (.aload_n 0, 1) := by decide +kernel
theorem dX10_turns_42 : decode cX10_turns 42 = .ok (.getfield 236, 3) := by decide +kernel
theorem dX10_turns_45 : decode cX10_turns 45 = .ok (.if_icmp .ge 90, 3) := by decide +kernel
theorem dX10_turns_48 : decode cX10_turns 48 = .ok (.aload_n 0, 1) := by decide +kernel
theorem dX10_turns_49 : decode cX10_turns 49 = .ok (.getfield 89, 3) := by decide +kernel
theorem dX10_turns_52 : decode cX10_turns 52 = .ok (.bipush 8, 2) := by decide +kernel
theorem dX10_turns_54 : decode cX10_turns 54 = .ok (.iload_n 2, 1) := by decide +kernel
theorem dX10_turns_55 : decode cX10_turns 55 = .ok (.ifCond .eq 14, 3) := by decide +kernel
theorem dX10_turns_58 : decode cX10_turns 58 = .ok (.aload_n 0, 1) := by decide +kernel
theorem dX10_turns_59 : decode cX10_turns 59 = .ok (.getfield 233, 3) := by decide +kernel
theorem dX10_turns_62 : decode cX10_turns 62 = .ok (.iconst 1, 1) := by decide +kernel
theorem dX10_turns_63 : decode cX10_turns 63 = .ok (.isub, 1) := by decide +kernel
theorem dX10_turns_64 : decode cX10_turns 64 = .ok (.iload_n 3, 1) := by decide +kernel
theorem dX10_turns_65 : decode cX10_turns 65 = .ok (.isub, 1) := by decide +kernel
theorem dX10_turns_66 : decode cX10_turns 66 = .ok (.goto 4, 3) := by decide +kernel
theorem dX10_turns_69 : decode cX10_turns 69 = .ok (.iload_n 3, 1) := by decide +kernel
theorem dX10_turns_70 : decode cX10_turns 70 = .ok (.imul, 1) := by decide +kernel
theorem dX10_turns_71 : decode cX10_turns 71 = .ok (.iload_n 1, 1) := by decide +kernel
theorem dX10_turns_72 : decode cX10_turns 72 = .ok (.ifCond .eq 15, 3) := by decide +kernel
theorem dX10_turns_75 : decode cX10_turns 75 = .ok (.aload_n 0, 1) := by decide +kernel
theorem dX10_turns_76 : decode cX10_turns 76 = .ok (.getfield 236, 3) := by decide +kernel
theorem dX10_turns_79 : decode cX10_turns 79 = .ok (.iconst 1, 1) := by decide +kernel
theorem dX10_turns_80 : decode cX10_turns 80 = .ok (.isub, 1) := by decide +kernel
theorem dX10_turns_81 : decode cX10_turns 81 = .ok (.iload 4, 2) := by decide +kernel
theorem dX10_turns_83 : decode cX10_turns 83 = .ok (.isub, 1) := by decide +kernel
theorem dX10_turns_84 : decode cX10_turns 84 = .ok (.goto 5, 3) := by decide +kernel
theorem dX10_turns_87 : decode cX10_turns 87 = .ok (.iload 4, 2) := by decide +kernel
theorem dX10_turns_89 : decode cX10_turns 89 = .ok (.iadd, 1) := by decide +kernel
theorem dX10_turns_90 : decode cX10_turns 90 = .ok (.iaload, 1) := by decide +kernel
theorem dX10_turns_91 : decode cX10_turns 91 = .ok (.istore 5, 2) := by decide +kernel
theorem dX10_turns_93 : decode cX10_turns 93 = .ok (.aload_n 0, 1) := by decide +kernel
theorem dX10_turns_94 : decode cX10_turns 94 = .ok (.getfield 86, 3) := by decide +kernel
theorem dX10_turns_97 : decode cX10_turns 97 = .ok (.bipush 8, 2) := by decide +kernel
theorem dX10_turns_99 : decode cX10_turns 99 = .ok (.iload_n 3, 1) := by decide +kernel
theorem dX10_turns_100 : decode cX10_turns 100 = .ok (.imul, 1) := by decide +kernel
theorem dX10_turns_101 : decode cX10_turns 101 = .ok (.iload 4, 2) := by decide +kernel
theorem dX10_turns_103 : decode cX10_turns 103 = .ok (.iadd, 1) := by decide +kernel
theorem dX10_turns_104 : decode cX10_turns 104 = .ok (.iload 5, 2) := by decide +kernel
theorem dX10_turns_106 : decode cX10_turns 106 = .ok (.iload_n 1, 1) := by decide +kernel
theorem dX10_turns_107 : decode cX10_turns 107 = .ok (.ifCond .eq 8, 3) := by decide +kernel
theorem dX10_turns_110 : decode cX10_turns 110 = .ok (.bipush 16, 2) := by decide +kernel
theorem dX10_turns_112 : decode cX10_turns 112 = .ok (.goto 4, 3) := by decide +kernel
theorem dX10_turns_115 : decode cX10_turns 115 = .ok (.iconst 0, 1) := by decide +kernel
theorem dX10_turns_116 : decode cX10_turns 116 = .ok (.ixor, 1) := by decide +kernel
theorem dX10_turns_117 : decode cX10_turns 117 = .ok (.iload_n 2, 1) := by decide +kernel
theorem dX10_turns_118 : decode cX10_turns 118 = .ok (.ifCond .eq 8, 3) := by decide +kernel
theorem dX10_turns_121 : decode cX10_turns 121 = .ok (.bipush 32, 2) := by decide +kernel
theorem dX10_turns_123 : decode cX10_turns 123 = .ok (.goto 4, 3) := by decide +kernel
theorem dX10_turns_126 : decode cX10_turns 126 = .ok (.iconst 0, 1) := by decide +kernel
theorem dX10_turns_127 : decode cX10_turns 127 = .ok (.ixor, 1) := by decide +kernel
theorem dX10_turns_128 : decode cX10_turns 128 = .ok (.iastore, 1) := by decide +kernel
theorem dX10_turns_129 : decode cX10_turns 129 = .ok (.iinc 4 1, 3) := by decide +kernel
theorem dX10_turns_132 : decode cX10_turns 132 = .ok (.goto (-93), 3) := by decide +kernel
theorem dX10_turns_135 : decode cX10_turns 135 = .ok (.iinc 3 1, 3) := by decide +kernel
theorem dX10_turns_138 : decode cX10_turns 138 = .ok (.goto (-110), 3) := by decide +kernel
theorem dX10_turns_141 : decode cX10_turns 141 = .ok (.return_, 1) := by decide +kernel
theorem dX10_repeats_0 : decode cX10_repeats 0 = .ok (.iload_n 1, 1) := by decide +kernel
theorem dX10_repeats_1 : decode cX10_repeats 1 = .ok (.aload_n 0, 1) := by decide +kernel
theorem dX10_repeats_2 : decode cX10_repeats 2 = .ok (.getfield 236, 3) := by decide +kernel
theorem dX10_repeats_5 : decode cX10_repeats 5 = .ok (.imul, 1) := by decide +kernel
theorem dX10_repeats_6 : decode cX10_repeats 6 = .ok (.bipush 8, 2) := by decide +kernel
theorem dX10_repeats_8 : decode cX10_repeats 8 = .ok (.if_icmp .le 10, 3) := by decide +kernel
theorem dX10_repeats_11 : decode cX10_repeats 11 = .ok (.aload_n 0, 1) := by decide +kernel
theorem dX10_repeats_12 : decode cX10_repeats 12 = .ok (.iconst 3, 1) := by decide +kernel
theorem dX10_repeats_13 : decode cX10_repeats 13 = .ok (.iload_n 2, 1) := by decide +kernel
theorem dX10_repeats_14 : decode cX10_repeats 14 = .ok (.invokevirtual 230, 3) := by decide +kernel
theorem dX10_repeats_17 : decode cX10_repeats 17 = .ok (.return_, 1) := by decide +kernel
theorem dX10_repeats_18 : decode cX10_repeats 18 = .ok (.iconst 0, 1) := by decide +kernel
theorem dX10_repeats_19 : decode cX10_repeats 19 = .ok (.istore_n 3, 1) := by decide +kernel
theorem dX10_repeats_20 : decode cX10_repeats 20 = .ok (.iload_n 3, 1) := by decide +kernel
theorem dX10_repeats_21 : decode cX10_repeats 21 = .ok (.aload_n 0, 1) := by decide +kernel
theorem dX10_repeats_22 : decode cX10_repeats 22 = .ok (.getfield 233, 3) := by decide +kernel
theorem dX10_repeats_25 : decode cX10_repeats 25 = .ok (.if_icmp .ge 61, 3) := by decide +kernel
theorem dX10_repeats_28 : decode cX10_repeats 28 = .ok (.aload_n 0, 1) := by decide +kernel
theorem dX10_repeats_29 : decode cX10_repeats 29 = .ok (.getfield 236, 3) := by decide +kernel
theorem dX10_repeats_32 : decode cX10_repeats 32 = .ok (.istore 4, 2) := by decide +kernel
theorem dX10_repeats_34 : decode cX10_repeats 34 = .ok (.iload 4, 2) := by decide +kernel
theorem dX10_repeats_36 : decode cX10_repeats 36 = .ok (.iload_n 1, 1) := by decide +kernel
theorem dX10_repeats_37 : decode cX10_repeats 37 = .ok (.aload_n 0, 1) := by decide +kernel
theorem dX10_repeats_38 : decode cX10_repeats 38 = .ok (.getfield 236, 3) := by decide +kernel
theorem dX10_repeats_41 : decode cX10_repeats 41 = .ok (.imul, 1) := by decide +kernel
theorem dX10_repeats_42 : decode cX10_repeats 42 = .ok (.if_icmp .ge 38, 3) := by decide +kernel
theorem dX10_repeats_45 : decode cX10_repeats 45 = .ok (.aload_n 0, 1) := by decide +kernel
theorem dX10_repeats_46 : decode cX10_repeats 46 = .ok (.getfield 86, 3) := by decide +kernel
theorem dX10_repeats_49 : decode cX10_repeats 49 = .ok (.bipush 8, 2) := by decide +kernel
theorem dX10_repeats_51 : decode cX10_repeats 51 = .ok (.iload_n 3, 1) := by decide +kernel
theorem dX10_repeats_52 : decode cX10_repeats 52 = .ok (.imul, 1) := by decide +kernel
theorem dX10_repeats_53 : decode cX10_repeats 53 = .ok (.iload 4, 2) := by decide +kernel
theorem dX10_repeats_55 : decode cX10_repeats 55 = .ok (.iadd, 1) := by decide +kernel
theorem dX10_repeats_56 : decode cX10_repeats 56 = .ok (.aload_n 0, 1) := by decide +kernel
theorem dX10_repeats_57 : decode cX10_repeats 57 = .ok (.getfield 86, 3) := by decide +kernel
theorem dX10_repeats_60 : decode cX10_repeats 60 = .ok (.bipush 8, 2) := by decide +kernel
theorem dX10_repeats_62 : decode cX10_repeats 62 = .ok (.iload_n 3, 1) := by decide +kernel
theorem dX10_repeats_63 : decode cX10_repeats 63 = .ok (.imul, 1) := by decide +kernel
theorem dX10_repeats_64 : decode cX10_repeats 64 = .ok (.iload 4, 2) := by decide +kernel
theorem dX10_repeats_66 : decode cX10_repeats 66 = .ok (.iadd, 1) := by decide +kernel
theorem dX10_repeats_67 : decode cX10_repeats 67 = .ok (.aload_n 0, 1) := by decide +kernel
theorem dX10_repeats_68 : decode cX10_repeats 68 = .ok (.getfield 236, 3) := by decide +kernel
theorem dX10_repeats_71 : decode cX10_repeats 71 = .ok (.isub, 1) := by decide +kernel
theorem dX10_repeats_72 : decode cX10_repeats 72 = .ok (.iaload, 1) := by decide +kernel
theorem dX10_repeats_73 : decode cX10_repeats 73 = .ok (.iastore, 1) := by decide +kernel
theorem dX10_repeats_74 : decode cX10_repeats 74 = .ok (.iinc 4 1, 3) := by decide +kernel
theorem dX10_repeats_77 : decode cX10_repeats 77 = .ok (.goto (-43), 3) := by decide +kernel
theorem dX10_repeats_80 : decode cX10_repeats 80 = .ok (.iinc 3 1, 3) := by decide +kernel
theorem dX10_repeats_83 : decode cX10_repeats 83 = .ok (.goto (-63), 3) := by decide +kernel
theorem dX10_repeats_86 : decode cX10_repeats 86 = .ok (.aload_n 0, 1) := by decide +kernel
theorem dX10_repeats_87 : decode cX10_repeats 87 = .ok (.dup, 1) := by decide +kernel
theorem dX10_repeats_88 : decode cX10_repeats 88 = .ok (.getfield 236, 3) := by decide +kernel
theorem dX10_repeats_91 : decode cX10_repeats 91 = .ok (.iload_n 1, 1) := by decide +kernel
theorem dX10_repeats_92 : decode cX10_repeats 92 = .ok (.imul, 1) := by decide +kernel
theorem dX10_repeats_93 : decode cX10_repeats 93 = .ok (.putfield 236, 3) := by decide +kernel
theorem dX10_repeats_96 : decode cX10_repeats 96 = .ok (.return_, 1) := by decide +kernel
theorem dX10_comes_0 : decode cX10_comes 0 = .ok (.aload_n 0, 1) := by decide +kernel
theorem dX10_comes_1 : decode cX10_comes 1 = .ok (.getfield 212, 3) := by decide +kernel
theorem dX10_comes_4 : decode cX10_comes 4 = .ok (.ifCond .ne 102, 3) := by decide +kernel
theorem dX10_comes_7 : decode cX10_comes 7 = .ok (.aload_n 0, 1) := by decide +kernel
theorem dX10_comes_8 : decode cX10_comes 8 = .ok (.getfield 227, 3) := by decide +kernel
theorem dX10_comes_11 : decode cX10_comes 11 = .ok (.ifCond .le 95, 3) := by decide +kernel
theorem dX10_comes_14 : decode cX10_comes 14 = .ok (.aload_n 0, 1) := by decide +kernel
theorem dX10_comes_15 : decode cX10_comes 15 = .ok (.getfield 116, 3) := by decide +kernel
theorem dX10_comes_18 : decode cX10_comes 18 = .ok (.aload_n 0, 1) := by decide +kernel
theorem dX10_comes_19 : decode cX10_comes 19 = .ok (.getfield 227, 3) := by decide +kernel
theorem dX10_comes_22 : decode cX10_comes 22 = .ok (.iconst 1, 1) := by decide +kernel
theorem dX10_comes_23 : decode cX10_comes 23 = .ok (.isub, 1) := by decide +kernel
theorem dX10_comes_24 : decode cX10_comes 24 = .ok (.iaload, 1) := by decide +kernel
theorem dX10_comes_25 : decode cX10_comes 25 = .ok (.bipush 40, 2) := by decide +kernel
theorem dX10_comes_27 : decode cX10_comes 27 = .ok (.if_icmp .eq 79, 3) := by decide +kernel
theorem dX10_comes_30 : decode cX10_comes 30 = .ok (.aload_n 0, 1) := by decide +kernel
theorem dX10_comes_31 : decode cX10_comes 31 = .ok (.dup, 1) := by decide +kernel
theorem dX10_comes_32 : decode cX10_comes 32 = .ok (.getfield 227, 3) := by decide +kernel
theorem dX10_comes_35 : decode cX10_comes 35 = .ok (.iconst 1, 1) := by decide +kernel
theorem dX10_comes_36 : decode cX10_comes 36 = .ok (.isub, 1) := by decide +kernel
theorem dX10_comes_37 : decode cX10_comes 37 = .ok (.putfield 227, 3) := by decide +kernel
theorem dX10_comes_40 : decode cX10_comes 40 = .ok (.aload_n 0, 1) := by decide +kernel
theorem dX10_comes_41 : decode cX10_comes 41 = .ok (.getfield 116, 3) := by decide +kernel
theorem dX10_comes_44 : decode cX10_comes 44 = .ok (.aload_n 0, 1) := by decide +kernel
theorem dX10_comes_45 : decode cX10_comes 45 = .ok (.getfield 227, 3) := by decide +kernel
theorem dX10_comes_48 : decode cX10_comes 48 = .ok (.iaload, 1) := by decide +kernel
theorem dX10_comes_49 : decode cX10_comes 49 = .ok (.bipush 120, 2) := by decide +kernel
theorem dX10_comes_51 : decode cX10_comes 51 = .ok (.if_icmp .ne 28, 3) := by decide +kernel
theorem dX10_comes_54 : decode cX10_comes 54 = .ok (.aload_n 0, 1) := by decide +kernel
theorem dX10_comes_55 : decode cX10_comes 55 = .ok (.aload_n 0, 1) := by decide +kernel
theorem dX10_comes_56 : decode cX10_comes 56 = .ok (.getfield 119, 3) := by decide +kernel
theorem dX10_comes_59 : decode cX10_comes 59 = .ok (.aload_n 0, 1) := by decide +kernel
theorem dX10_comes_60 : decode cX10_comes 60 = .ok (.getfield 227, 3) := by decide +kernel
theorem dX10_comes_63 : decode cX10_comes 63 = .ok (.iaload, 1) := by decide +kernel
theorem dX10_comes_64 : decode cX10_comes 64 = .ok (.aload_n 0, 1) := by decide +kernel
theorem dX10_comes_65 : decode cX10_comes 65 = .ok (.getfield 122, 3) := by decide +kernel
theorem dX10_comes_68 : decode cX10_comes 68 = .ok (.aload_n 0, 1) := by decide +kernel
theorem dX10_comes_69 : decode cX10_comes 69 = .ok (.getfield 227, 3) := by decide +kernel
theorem dX10_comes_72 : decode cX10_comes 72 = .ok (.iaload, 1) := by decide +kernel
theorem dX10_comes_73 : decode cX10_comes 73 = .ok (.invokevirtual 239, 3) := by decide +kernel
theorem dX10_comes_76 : decode cX10_comes 76 = .ok (.goto (-76), 3) := by decide +kernel
theorem dX10_comes_79 : decode cX10_comes 79 = .ok (.aload_n 0, 1) := by decide +kernel
theorem dX10_comes_80 : decode cX10_comes 80 = .ok (.iconst 1, 1) := by decide +kernel
theorem dX10_comes_81 : decode cX10_comes 81 = .ok (.aload_n 0, 1) := by decide +kernel
theorem dX10_comes_82 : decode cX10_comes 82 = .ok (.getfield 116, 3) := by decide +kernel
theorem dX10_comes_85 : decode cX10_comes 85 = .ok (.aload_n 0, 1) := by decide +kernel
theorem dX10_comes_86 : decode cX10_comes 86 = .ok (.getfield 227, 3) := by decide +kernel
theorem dX10_comes_89 : decode cX10_comes 89 = .ok (.iaload, 1) := by decide +kernel
theorem dX10_comes_90 : decode cX10_comes 90 = .ok (.bipush 126, 2) := by decide +kernel
theorem dX10_comes_92 : decode cX10_comes 92 = .ok (.if_icmp .ne 7, 3) := by decide +kernel
theorem dX10_comes_95 : decode cX10_comes 95 = .ok (.iconst 1, 1) := by decide +kernel
theorem dX10_comes_96 : decode cX10_comes 96 = .ok (.goto 4, 3) := by decide +kernel
theorem dX10_comes_99 : decode cX10_comes 99 = .ok (.iconst 0, 1) := by decide +kernel
theorem dX10_comes_100 : decode cX10_comes 100 = .ok (.invokevirtual 242, 3) := by decide +kernel
theorem dX10_comes_103 : decode cX10_comes 103 = .ok (.goto (-103), 3) := by decide +kernel
theorem dX10_comes_106 : decode cX10_comes 106 = .ok (.aload_n 0, 1) := by decide +kernel
theorem dX10_comes_107 : decode cX10_comes 107 = .ok (.getfield 212, 3) := by decide +kernel
theorem dX10_comes_110 : decode cX10_comes 110 = .ok (.ifCond .eq 4, 3) := by decide +kernel
theorem dX10_comes_113 : decode cX10_comes 113 = .ok (.return_, 1) := by decide +kernel
theorem dX10_comes_114 : decode cX10_comes 114 = .ok (.bipush 64, 2) := by decide +kernel
theorem dX10_comes_116 : decode cX10_comes 116 = .ok (.aload_n 0, 1) := by decide +kernel
theorem dX10_comes_117 : decode cX10_comes 117 = .ok (.getfield 224, 3) := by decide +kernel
theorem dX10_comes_120 : decode cX10_comes 120 = .ok (.imul, 1) := by decide +kernel
theorem dX10_comes_121 : decode cX10_comes 121 = .ok (.istore_n 1, 1) := by decide +kernel
theorem dX10_comes_122 : decode cX10_comes 122 = .ok (.aload_n 0, 1) := by decide +kernel
theorem dX10_comes_123 : decode cX10_comes 123 = .ok (.getfield 101, 3) := by decide +kernel
theorem dX10_comes_126 : decode cX10_comes 126 = .ok (.aload_n 0, 1) := by decide +kernel
theorem dX10_comes_127 : decode cX10_comes 127 = .ok (.getfield 224, 3) := by decide +kernel
theorem dX10_comes_130 : decode cX10_comes 130 = .ok (.iaload, 1) := by decide +kernel
theorem dX10_comes_131 : decode cX10_comes 131 = .ok (.ifCond .ne 7, 3) := by decide +kernel
theorem dX10_comes_134 : decode cX10_comes 134 = .ok (.iconst 0, 1) := by decide +kernel
theorem dX10_comes_135 : decode cX10_comes 135 = .ok (.goto 12, 3) := by decide +kernel
theorem dX10_comes_138 : decode cX10_comes 138 = .ok (.aload_n 0, 1) := by decide +kernel
theorem dX10_comes_139 : decode cX10_comes 139 = .ok (.getfield 104, 3) := by decide +kernel
theorem dX10_comes_142 : decode cX10_comes 142 = .ok (.aload_n 0, 1) := by decide +kernel
theorem dX10_comes_143 : decode cX10_comes 143 = .ok (.getfield 224, 3) := by decide +kernel
theorem dX10_comes_146 : decode cX10_comes 146 = .ok (.iaload, 1) := by decide +kernel
theorem dX10_comes_147 : decode cX10_comes 147 = .ok (.istore_n 2, 1) := by decide +kernel
theorem dX10_comes_148 : decode cX10_comes 148 = .ok (.iload_n 2, 1) := by decide +kernel
theorem dX10_comes_149 : decode cX10_comes 149 = .ok (.ifCond .le 36, 3) := by decide +kernel
theorem dX10_comes_152 : decode cX10_comes 152 = .ok (.aload_n 0, 1) := by decide +kernel
theorem dX10_comes_153 : decode cX10_comes 153 = .ok (.getfield 101, 3) := by decide +kernel
theorem dX10_comes_156 : decode cX10_comes 156 = .ok (.aload_n 0, 1) := by decide +kernel
theorem dX10_comes_157 : decode cX10_comes 157 = .ok (.getfield 224, 3) := by decide +kernel
theorem dX10_comes_160 : decode cX10_comes 160 = .ok (.iaload, 1) := by decide +kernel
theorem dX10_comes_161 : decode cX10_comes 161 = .ok (.aload_n 0, 1) := by decide +kernel
theorem dX10_comes_162 : decode cX10_comes 162 = .ok (.getfield 236, 3) := by decide +kernel
theorem dX10_comes_165 : decode cX10_comes 165 = .ok (.if_icmp .eq 20, 3) := by decide +kernel
theorem dX10_comes_168 : decode cX10_comes 168 = .ok (.aload_n 0, 1) := by decide +kernel
theorem dX10_comes_169 : decode cX10_comes 169 = .ok (.iconst 2, 1) := by decide +kernel
theorem dX10_comes_170 : decode cX10_comes 170 = .ok (.aload_n 0, 1) := by decide +kernel
theorem dX10_comes_171 : decode cX10_comes 171 = .ok (.getfield 113, 3) := by decide +kernel
theorem dX10_comes_174 : decode cX10_comes 174 = .ok (.aload_n 0, 1) := by decide +kernel
theorem dX10_comes_175 : decode cX10_comes 175 = .ok (.getfield 224, 3) := by decide +kernel
theorem dX10_comes_178 : decode cX10_comes 178 = .ok (.iaload, 1) := by decide +kernel
theorem dX10_comes_179 : decode cX10_comes 179 = .ok (.invokevirtual 230, 3) := by decide +kernel
theorem dX10_comes_182 : decode cX10_comes 182 = .ok (.goto 28, 3) := by decide +kernel
theorem dX10_comes_185 : decode cX10_comes 185 = .ok (.iload_n 2, 1) := by decide +kernel
theorem dX10_comes_186 : decode cX10_comes 186 = .ok (.aload_n 0, 1) := by decide +kernel
theorem dX10_comes_187 : decode cX10_comes 187 = .ok (.getfield 233, 3) := by decide +kernel
theorem dX10_comes_190 : decode cX10_comes 190 = .ok (.iadd, 1) := by decide +kernel
theorem dX10_comes_191 : decode cX10_comes 191 = .ok (.bipush 8, 2) := by decide +kernel
theorem dX10_comes_193 : decode cX10_comes 193 = .ok (.if_icmp .le 17, 3) := by decide +kernel
theorem dX10_comes_196 : decode cX10_comes 196 = .ok (.aload_n 0, 1) := by decide +kernel
theorem dX10_comes_197 : decode cX10_comes 197 = .ok (.iconst 3, 1) := by decide +kernel
theorem dX10_comes_198 : decode cX10_comes 198 = .ok (.aload_n 0, 1) := by decide +kernel
theorem dX10_comes_199 : decode cX10_comes 199 = .ok (.getfield 113, 3) := by decide +kernel
theorem dX10_comes_202 : decode cX10_comes 202 = .ok (.aload_n 0, 1) := by decide +kernel
theorem dX10_comes_203 : decode cX10_comes 203 = .ok (.getfield 224, 3) := by decide +kernel
theorem dX10_comes_206 : decode cX10_comes 206 = .ok (.iaload, 1) := by decide +kernel
theorem dX10_comes_207 : decode cX10_comes 207 = .ok (.invokevirtual 230, 3) := by decide +kernel
theorem dX10_comes_210 : decode cX10_comes 210 = .ok (.aload_n 0, 1) := by decide +kernel
theorem dX10_comes_211 : decode cX10_comes 211 = .ok (.getfield 212, 3) := by decide +kernel
theorem dX10_comes_214 : decode cX10_comes 214 = .ok (.ifCond .eq 4, 3) := by decide +kernel
theorem dX10_comes_217 : decode cX10_comes 217 = .ok (.return_, 1) := by decide +kernel
theorem dX10_comes_218 : decode cX10_comes 218 = .ok (.iconst 0, 1) := by decide +kernel
theorem dX10_comes_219 : decode cX10_comes 219 = .ok (.istore_n 3, 1) := by decide +kernel
theorem dX10_comes_220 : decode cX10_comes 220 = .ok (.iload_n 3, 1) := by decide +kernel
theorem dX10_comes_221 : decode cX10_comes 221 = .ok (.aload_n 0, 1) := by decide +kernel
theorem dX10_comes_222 : decode cX10_comes 222 = .ok (.getfield 233, 3) := by decide +kernel
theorem dX10_comes_225 : decode cX10_comes 225 = .ok (.if_icmp .ge 55, 3) := by decide +kernel
theorem dX10_comes_228 : decode cX10_comes 228 = .ok (.iconst 0, 1) := by decide +kernel
theorem dX10_comes_229 : decode cX10_comes 229 = .ok (.istore 4, 2) := by decide +kernel
theorem dX10_comes_231 : decode cX10_comes 231 = .ok (.iload 4, 2) := by decide +kernel
theorem dX10_comes_233 : decode cX10_comes 233 = .ok (.aload_n 0, 1) := by decide +kernel
theorem dX10_comes_234 : decode cX10_comes 234 = .ok (.getfield 236, 3) := by decide +kernel
theorem dX10_comes_237 : decode cX10_comes 237 = .ok (.if_icmp .ge 37, 3) := by decide +kernel
theorem dX10_comes_240 : decode cX10_comes 240 = .ok (.aload_n 0, 1) := by decide +kernel
theorem dX10_comes_241 : decode cX10_comes 241 = .ok (.getfield 107, 3) := by decide +kernel
theorem dX10_comes_244 : decode cX10_comes 244 = .ok (.iload_n 1, 1) := by decide +kernel
theorem dX10_comes_245 : decode cX10_comes 245 = .ok (.bipush 8, 2) := by decide +kernel
theorem dX10_comes_247 : decode cX10_comes 247 = .ok (.iload_n 2, 1) := by decide +kernel
theorem dX10_comes_248 : decode cX10_comes 248 = .ok (.iload_n 3, 1) := by decide +kernel
theorem dX10_comes_249 : decode cX10_comes 249 = .ok (.iadd, 1) := by decide +kernel
theorem dX10_comes_250 : decode cX10_comes 250 = .ok (.imul, 1) := by decide +kernel
theorem dX10_comes_251 : decode cX10_comes 251 = .ok (.iadd, 1) := by decide +kernel
theorem dX10_comes_252 : decode cX10_comes 252 = .ok (.iload 4, 2) := by decide +kernel
theorem dX10_comes_254 : decode cX10_comes 254 = .ok (.iadd, 1) := by decide +kernel
theorem dX10_comes_255 : decode cX10_comes 255 = .ok (.aload_n 0, 1) := by decide +kernel
theorem dX10_comes_256 : decode cX10_comes 256 = .ok (.getfield 86, 3) := by decide +kernel
theorem dX10_comes_259 : decode cX10_comes 259 = .ok (.bipush 8, 2) := by decide +kernel
theorem dX10_comes_261 : decode cX10_comes 261 = .ok (.iload_n 3, 1) := by decide +kernel
theorem dX10_comes_262 : decode cX10_comes 262 = .ok (.imul, 1) := by decide +kernel
theorem dX10_comes_263 : decode cX10_comes 263 = .ok (.iload 4, 2) := by decide +kernel
theorem dX10_comes_265 : decode cX10_comes 265 = .ok (.iadd, 1) := by decide +kernel
theorem dX10_comes_266 : decode cX10_comes 266 = .ok (.iaload, 1) := by decide +kernel
theorem dX10_comes_267 : decode cX10_comes 267 = .ok (.iastore, 1) := by decide +kernel
theorem dX10_comes_268 : decode cX10_comes 268 = .ok (.iinc 4 1, 3) := by decide +kernel
theorem dX10_comes_271 : decode cX10_comes 271 = .ok (.goto (-40), 3) := by decide +kernel
theorem dX10_comes_274 : decode cX10_comes 274 = .ok (.iinc 3 1, 3) := by decide +kernel
theorem dX10_comes_277 : decode cX10_comes 277 = .ok (.goto (-57), 3) := by decide +kernel
theorem dX10_comes_280 : decode cX10_comes 280 = .ok (.aload_n 0, 1) := by decide +kernel
theorem dX10_comes_281 : decode cX10_comes 281 = .ok (.getfield 101, 3) := by decide +kernel
theorem dX10_comes_284 : decode cX10_comes 284 = .ok (.aload_n 0, 1) := by decide +kernel
theorem dX10_comes_285 : decode cX10_comes 285 = .ok (.getfield 224, 3) := by decide +kernel
theorem dX10_comes_288 : decode cX10_comes 288 = .ok (.aload_n 0, 1) := by decide +kernel
theorem dX10_comes_289 : decode cX10_comes 289 = .ok (.getfield 236, 3) := by decide +kernel
theorem dX10_comes_292 : decode cX10_comes 292 = .ok (.iastore, 1) := by decide +kernel
theorem dX10_comes_293 : decode cX10_comes 293 = .ok (.aload_n 0, 1) := by decide +kernel
theorem dX10_comes_294 : decode cX10_comes 294 = .ok (.getfield 104, 3) := by decide +kernel
theorem dX10_comes_297 : decode cX10_comes 297 = .ok (.aload_n 0, 1) := by decide +kernel
theorem dX10_comes_298 : decode cX10_comes 298 = .ok (.getfield 224, 3) := by decide +kernel
theorem dX10_comes_301 : decode cX10_comes 301 = .ok (.iload_n 2, 1) := by decide +kernel
theorem dX10_comes_302 : decode cX10_comes 302 = .ok (.aload_n 0, 1) := by decide +kernel
theorem dX10_comes_303 : decode cX10_comes 303 = .ok (.getfield 233, 3) := by decide +kernel
theorem dX10_comes_306 : decode cX10_comes 306 = .ok (.iadd, 1) := by decide +kernel
theorem dX10_comes_307 : decode cX10_comes 307 = .ok (.iastore, 1) := by decide +kernel
theorem dX10_comes_308 : decode cX10_comes 308 = .ok (.return_, 1) := by decide +kernel
theorem dX10_ends_0 : decode cX10_ends 0 = .ok (.bipush 64, 2) := by decide +kernel
theorem dX10_ends_2 : decode cX10_ends 2 = .ok (.aload_n 0, 1) := by decide +kernel
theorem dX10_ends_3 : decode cX10_ends 3 = .ok (.getfield 224, 3) := by decide +kernel
theorem dX10_ends_6 : decode cX10_ends 6 = .ok (.imul, 1) := by decide +kernel
theorem dX10_ends_7 : decode cX10_ends 7 = .ok (.istore_n 1, 1) := by decide +kernel
theorem dX10_ends_8 : decode cX10_ends 8 = .ok (.aload_n 0, 1) := by decide +kernel
theorem dX10_ends_9 : decode cX10_ends 9 = .ok (.getfield 92, 3) := by decide +kernel
theorem dX10_ends_12 : decode cX10_ends 12 = .ok (.aload_n 0, 1) := by decide +kernel
theorem dX10_ends_13 : decode cX10_ends 13 = .ok (.getfield 224, 3) := by decide +kernel
theorem dX10_ends_16 : decode cX10_ends 16 = .ok (.iaload, 1) := by decide +kernel
theorem dX10_ends_17 : decode cX10_ends 17 = .ok (.istore_n 2, 1) := by decide +kernel
theorem dX10_ends_18 : decode cX10_ends 18 = .ok (.iload_n 2, 1) := by decide +kernel
theorem dX10_ends_19 : decode cX10_ends 19 = .ok (.ifCond .le 41, 3) := by decide +kernel
theorem dX10_ends_22 : decode cX10_ends 22 = .ok (.aload_n 0, 1) := by decide +kernel
theorem dX10_ends_23 : decode cX10_ends 23 = .ok (.getfield 95, 3) := by decide +kernel
theorem dX10_ends_26 : decode cX10_ends 26 = .ok (.aload_n 0, 1) := by decide +kernel
theorem dX10_ends_27 : decode cX10_ends 27 = .ok (.getfield 224, 3) := by decide +kernel
theorem dX10_ends_30 : decode cX10_ends 30 = .ok (.iaload, 1) := by decide +kernel
theorem dX10_ends_31 : decode cX10_ends 31 = .ok (.aload_n 0, 1) := by decide +kernel
theorem dX10_ends_32 : decode cX10_ends 32 = .ok (.getfield 104, 3) := by decide +kernel
theorem dX10_ends_35 : decode cX10_ends 35 = .ok (.aload_n 0, 1) := by decide +kernel
theorem dX10_ends_36 : decode cX10_ends 36 = .ok (.getfield 224, 3) := by decide +kernel
theorem dX10_ends_39 : decode cX10_ends 39 = .ok (.iaload, 1) := by decide +kernel
theorem dX10_ends_40 : decode cX10_ends 40 = .ok (.if_icmp .eq 20, 3) := by decide +kernel
theorem dX10_ends_43 : decode cX10_ends 43 = .ok (.aload_n 0, 1) := by decide +kernel
theorem dX10_ends_44 : decode cX10_ends 44 = .ok (.iconst 2, 1) := by decide +kernel
theorem dX10_ends_45 : decode cX10_ends 45 = .ok (.aload_n 0, 1) := by decide +kernel
theorem dX10_ends_46 : decode cX10_ends 46 = .ok (.getfield 110, 3) := by decide +kernel
theorem dX10_ends_49 : decode cX10_ends 49 = .ok (.aload_n 0, 1) := by decide +kernel
theorem dX10_ends_50 : decode cX10_ends 50 = .ok (.getfield 224, 3) := by decide +kernel
theorem dX10_ends_53 : decode cX10_ends 53 = .ok (.iaload, 1) := by decide +kernel
theorem dX10_ends_54 : decode cX10_ends 54 = .ok (.invokevirtual 230, 3) := by decide +kernel
theorem dX10_ends_57 : decode cX10_ends 57 = .ok (.goto 33, 3) := by decide +kernel
theorem dX10_ends_60 : decode cX10_ends 60 = .ok (.iload_n 2, 1) := by decide +kernel
theorem dX10_ends_61 : decode cX10_ends 61 = .ok (.aload_n 0, 1) := by decide +kernel
theorem dX10_ends_62 : decode cX10_ends 62 = .ok (.getfield 101, 3) := by decide +kernel
theorem dX10_ends_65 : decode cX10_ends 65 = .ok (.aload_n 0, 1) := by decide +kernel
theorem dX10_ends_66 : decode cX10_ends 66 = .ok (.getfield 224, 3) := by decide +kernel
theorem dX10_ends_69 : decode cX10_ends 69 = .ok (.iaload, 1) := by decide +kernel
theorem dX10_ends_70 : decode cX10_ends 70 = .ok (.iadd, 1) := by decide +kernel
theorem dX10_ends_71 : decode cX10_ends 71 = .ok (.bipush 8, 2) := by decide +kernel
theorem dX10_ends_73 : decode cX10_ends 73 = .ok (.if_icmp .le 17, 3) := by decide +kernel
theorem dX10_ends_76 : decode cX10_ends 76 = .ok (.aload_n 0, 1) := by decide +kernel
theorem dX10_ends_77 : decode cX10_ends 77 = .ok (.iconst 3, 1) := by decide +kernel
theorem dX10_ends_78 : decode cX10_ends 78 = .ok (.aload_n 0, 1) := by decide +kernel
theorem dX10_ends_79 : decode cX10_ends 79 = .ok (.getfield 110, 3) := by decide +kernel
theorem dX10_ends_82 : decode cX10_ends 82 = .ok (.aload_n 0, 1) := by decide +kernel
theorem dX10_ends_83 : decode cX10_ends 83 = .ok (.getfield 224, 3) := by decide +kernel
theorem dX10_ends_86 : decode cX10_ends 86 = .ok (.iaload, 1) := by decide +kernel
theorem dX10_ends_87 : decode cX10_ends 87 = .ok (.invokevirtual 230, 3) := by decide +kernel
theorem dX10_ends_90 : decode cX10_ends 90 = .ok (.aload_n 0, 1) := by decide +kernel
theorem dX10_ends_91 : decode cX10_ends 91 = .ok (.getfield 212, 3) := by decide +kernel
theorem dX10_ends_94 : decode cX10_ends 94 = .ok (.ifCond .eq 4, 3) := by decide +kernel
theorem dX10_ends_97 : decode cX10_ends 97 = .ok (.return_, 1) := by decide +kernel
theorem dX10_ends_98 : decode cX10_ends 98 = .ok (.iconst 0, 1) := by decide +kernel
theorem dX10_ends_99 : decode cX10_ends 99 = .ok (.istore_n 3, 1) := by decide +kernel
theorem dX10_ends_100 : decode cX10_ends 100 = .ok (.iload_n 3, 1) := by decide +kernel
theorem dX10_ends_101 : decode cX10_ends 101 = .ok (.aload_n 0, 1) := by decide +kernel
theorem dX10_ends_102 : decode cX10_ends 102 = .ok (.getfield 104, 3) := by decide +kernel
theorem dX10_ends_105 : decode cX10_ends 105 = .ok (.aload_n 0, 1) := by decide +kernel
theorem dX10_ends_106 : decode cX10_ends 106 = .ok (.getfield 224, 3) := by decide +kernel
theorem dX10_ends_109 : decode cX10_ends 109 = .ok (.iaload, 1) := by decide +kernel
theorem dX10_ends_110 : decode cX10_ends 110 = .ok (.if_icmp .ge 62, 3) := by decide +kernel
theorem dX10_ends_113 : decode cX10_ends 113 = .ok (.iconst 0, 1) := by decide +kernel
theorem dX10_ends_114 : decode cX10_ends 114 = .ok (.istore 4, 2) := by decide +kernel
theorem dX10_ends_116 : decode cX10_ends 116 = .ok (.iload 4, 2) := by decide +kernel
theorem dX10_ends_118 : decode cX10_ends 118 = .ok (.aload_n 0, 1) := by decide +kernel
theorem dX10_ends_119 : decode cX10_ends 119 = .ok (.getfield 101, 3) := by decide +kernel
theorem dX10_ends_122 : decode cX10_ends 122 = .ok (.aload_n 0, 1) := by decide +kernel
theorem dX10_ends_123 : decode cX10_ends 123 = .ok (.getfield 224, 3) := by decide +kernel
theorem dX10_ends_126 : decode cX10_ends 126 = .ok (.iaload, 1) := by decide +kernel
theorem dX10_ends_127 : decode cX10_ends 127 = .ok (.if_icmp .ge 39, 3) := by decide +kernel
theorem dX10_ends_130 : decode cX10_ends 130 = .ok (.aload_n 0, 1) := by decide +kernel
theorem dX10_ends_131 : decode cX10_ends 131 = .ok (.getfield 98, 3) := by decide +kernel
theorem dX10_ends_134 : decode cX10_ends 134 = .ok (.iload_n 1, 1) := by decide +kernel
theorem dX10_ends_135 : decode cX10_ends 135 = .ok (.bipush 8, 2) := by decide +kernel
theorem dX10_ends_137 : decode cX10_ends 137 = .ok (.iload_n 3, 1) := by decide +kernel
theorem dX10_ends_138 : decode cX10_ends 138 = .ok (.imul, 1) := by decide +kernel
theorem dX10_ends_139 : decode cX10_ends 139 = .ok (.iadd, 1) := by decide +kernel
theorem dX10_ends_140 : decode cX10_ends 140 = .ok (.iload_n 2, 1) := by decide +kernel
theorem dX10_ends_141 : decode cX10_ends 141 = .ok (.iadd, 1) := by decide +kernel
theorem dX10_ends_142 : decode cX10_ends 142 = .ok (.iload 4, 2) := by decide +kernel
theorem dX10_ends_144 : decode cX10_ends 144 = .ok (.iadd, 1) := by decide +kernel
theorem dX10_ends_145 : decode cX10_ends 145 = .ok (.aload_n 0, 1) := by decide +kernel
theorem dX10_ends_146 : decode cX10_ends 146 = .ok (.getfield 107, 3) := by decide +kernel
theorem dX10_ends_149 : decode cX10_ends 149 = .ok (.iload_n 1, 1) := by decide +kernel
theorem dX10_ends_150 : decode cX10_ends 150 = .ok (.bipush 8, 2) := by decide +kernel
theorem dX10_ends_152 : decode cX10_ends 152 = .ok (.iload_n 3, 1) := by decide +kernel
theorem dX10_ends_153 : decode cX10_ends 153 = .ok (.imul, 1) := by decide +kernel
theorem dX10_ends_154 : decode cX10_ends 154 = .ok (.iadd, 1) := by decide +kernel
theorem dX10_ends_155 : decode cX10_ends 155 = .ok (.iload 4, 2) := by decide +kernel
theorem dX10_ends_157 : decode cX10_ends 157 = .ok (.iadd, 1) := by decide +kernel
theorem dX10_ends_158 : decode cX10_ends 158 = .ok (.iaload, 1) := by decide +kernel
theorem dX10_ends_159 : decode cX10_ends 159 = .ok (.iastore, 1) := by decide +kernel
theorem dX10_ends_160 : decode cX10_ends 160 = .ok (.iinc 4 1, 3) := by decide +kernel
theorem dX10_ends_163 : decode cX10_ends 163 = .ok (.goto (-47), 3) := by decide +kernel
theorem dX10_ends_166 : decode cX10_ends 166 = .ok (.iinc 3 1, 3) := by decide +kernel
theorem dX10_ends_169 : decode cX10_ends 169 = .ok (.goto (-69), 3) := by decide +kernel
theorem dX10_ends_172 : decode cX10_ends 172 = .ok (.aload_n 0, 1) := by decide +kernel
theorem dX10_ends_173 : decode cX10_ends 173 = .ok (.getfield 92, 3) := by decide +kernel
theorem dX10_ends_176 : decode cX10_ends 176 = .ok (.aload_n 0, 1) := by decide +kernel
theorem dX10_ends_177 : decode cX10_ends 177 = .ok (.getfield 224, 3) := by decide +kernel
theorem dX10_ends_180 : decode cX10_ends 180 = .ok (.iload_n 2, 1) := by decide +kernel
theorem dX10_ends_181 : decode cX10_ends 181 = .ok (.aload_n 0, 1) := by decide +kernel
theorem dX10_ends_182 : decode cX10_ends 182 = .ok (.getfield 101, 3) := by decide +kernel
theorem dX10_ends_185 : decode cX10_ends 185 = .ok (.aload_n 0, 1) := by decide +kernel
theorem dX10_ends_186 : decode cX10_ends 186 = .ok (.getfield 224, 3) := by decide +kernel
theorem dX10_ends_189 : decode cX10_ends 189 = .ok (.iaload, 1) := by decide +kernel
theorem dX10_ends_190 : decode cX10_ends 190 = .ok (.iadd, 1) := by decide +kernel
theorem dX10_ends_191 : decode cX10_ends 191 = .ok (.iastore, 1) := by decide +kernel
theorem dX10_ends_192 : decode cX10_ends 192 = .ok (.aload_n 0, 1) := by decide +kernel
theorem dX10_ends_193 : decode cX10_ends 193 = .ok (.getfield 95, 3) := by decide +kernel
theorem dX10_ends_196 : decode cX10_ends 196 = .ok (.aload_n 0, 1) := by decide +kernel
theorem dX10_ends_197 : decode cX10_ends 197 = .ok (.getfield 224, 3) := by decide +kernel
theorem dX10_ends_200 : decode cX10_ends 200 = .ok (.aload_n 0, 1) := by decide +kernel
theorem dX10_ends_201 : decode cX10_ends 201 = .ok (.getfield 104, 3) := by decide +kernel
theorem dX10_ends_204 : decode cX10_ends 204 = .ok (.aload_n 0, 1) := by decide +kernel
theorem dX10_ends_205 : decode cX10_ends 205 = .ok (.getfield 224, 3) := by decide +kernel
theorem dX10_ends_208 : decode cX10_ends 208 = .ok (.iaload, 1) := by decide +kernel
theorem dX10_ends_209 : decode cX10_ends 209 = .ok (.iastore, 1) := by decide +kernel
theorem dX10_ends_210 : decode cX10_ends 210 = .ok (.aload_n 0, 1) := by decide +kernel
theorem dX10_ends_211 : decode cX10_ends 211 = .ok (.getfield 101, 3) := by decide +kernel
theorem dX10_ends_214 : decode cX10_ends 214 = .ok (.aload_n 0, 1) := by decide +kernel
theorem dX10_ends_215 : decode cX10_ends 215 = .ok (.getfield 224, 3) := by decide +kernel
theorem dX10_ends_218 : decode cX10_ends 218 = .ok (.iconst 0, 1) := by decide +kernel
theorem dX10_ends_219 : decode cX10_ends 219 = .ok (.iastore, 1) := by decide +kernel
theorem dX10_ends_220 : decode cX10_ends 220 = .ok (.return_, 1) := by decide +kernel
theorem dX10_rowIsPart_0 : decode cX10_rowIsPart 0 = .ok (.aload_n 0, 1) := by decide +kernel
theorem dX10_rowIsPart_1 : decode cX10_rowIsPart 1 = .ok (.aload_n 0, 1) := by decide +kernel
theorem dX10_rowIsPart_2 : decode cX10_rowIsPart 2 = .ok (.getfield 92, 3) := by decide +kernel
theorem dX10_rowIsPart_5 : decode cX10_rowIsPart 5 = .ok (.aload_n 0, 1) := by decide +kernel
theorem dX10_rowIsPart_6 : decode cX10_rowIsPart 6 = .ok (.getfield 224, 3) := by decide +kernel
theorem dX10_rowIsPart_9 : decode cX10_rowIsPart 9 = .ok (.iaload, 1) := by decide +kernel
theorem dX10_rowIsPart_10 : decode cX10_rowIsPart 10 = .ok (.putfield 236, 3) := by decide +kernel
theorem dX10_rowIsPart_13 : decode cX10_rowIsPart 13 = .ok (.aload_n 0, 1) := by decide +kernel
theorem dX10_rowIsPart_14 : decode cX10_rowIsPart 14 = .ok (.aload_n 0, 1) := by decide +kernel
theorem dX10_rowIsPart_15 : decode cX10_rowIsPart 15 = .ok (.getfield 95, 3) := by decide +kernel
theorem dX10_rowIsPart_18 : decode cX10_rowIsPart 18 = .ok (.aload_n 0, 1) := by decide +kernel
theorem dX10_rowIsPart_19 : decode cX10_rowIsPart 19 = .ok (.getfield 224, 3) := by decide +kernel
theorem dX10_rowIsPart_22 : decode cX10_rowIsPart 22 = .ok (.iaload, 1) := by decide +kernel
theorem dX10_rowIsPart_23 : decode cX10_rowIsPart 23 = .ok (.putfield 233, 3) := by decide +kernel
theorem dX10_rowIsPart_26 : decode cX10_rowIsPart 26 = .ok (.iconst 0, 1) := by decide +kernel
theorem dX10_rowIsPart_27 : decode cX10_rowIsPart 27 = .ok (.istore_n 1, 1) := by decide +kernel
theorem dX10_rowIsPart_28 : decode cX10_rowIsPart 28 = .ok (.iload_n 1, 1) := by decide +kernel
theorem dX10_rowIsPart_29 : decode cX10_rowIsPart 29 = .ok (.bipush 64, 2) := by decide +kernel
theorem dX10_rowIsPart_31 : decode cX10_rowIsPart 31 = .ok (.if_icmp .ge 29, 3) := by decide +kernel
theorem dX10_rowIsPart_34 : decode cX10_rowIsPart 34 = .ok (.aload_n 0, 1) := by decide +kernel
theorem dX10_rowIsPart_35 : decode cX10_rowIsPart 35 = .ok (.getfield 86, 3) := by decide +kernel
theorem dX10_rowIsPart_38 : decode cX10_rowIsPart 38 = .ok (.iload_n 1, 1) := by decide +kernel
theorem dX10_rowIsPart_39 : decode cX10_rowIsPart 39 = .ok (.aload_n 0, 1) := by decide +kernel
theorem dX10_rowIsPart_40 : decode cX10_rowIsPart 40 = .ok (.getfield 98, 3) := by decide +kernel
theorem dX10_rowIsPart_43 : decode cX10_rowIsPart 43 = .ok (.bipush 64, 2) := by decide +kernel
theorem dX10_rowIsPart_45 : decode cX10_rowIsPart 45 = .ok (.aload_n 0, 1) := by decide +kernel
theorem dX10_rowIsPart_46 : decode cX10_rowIsPart 46 = .ok (.getfield 224, 3) := by decide +kernel
theorem dX10_rowIsPart_49 : decode cX10_rowIsPart 49 = .ok (.imul, 1) := by decide +kernel
theorem dX10_rowIsPart_50 : decode cX10_rowIsPart 50 = .ok (.iload_n 1, 1) := by decide +kernel
theorem dX10_rowIsPart_51 : decode cX10_rowIsPart 51 = .ok (.iadd, 1) := by decide +kernel
theorem dX10_rowIsPart_52 : decode cX10_rowIsPart 52 = .ok (.iaload, 1) := by decide +kernel
theorem dX10_rowIsPart_53 : decode cX10_rowIsPart 53 = .ok (.iastore, 1) := by decide +kernel
theorem dX10_rowIsPart_54 : decode cX10_rowIsPart 54 = .ok (.iinc 1 1, 3) := by decide +kernel
theorem dX10_rowIsPart_57 : decode cX10_rowIsPart 57 = .ok (.goto (-29), 3) := by decide +kernel
theorem dX10_rowIsPart_60 : decode cX10_rowIsPart 60 = .ok (.return_, 1) := by decide +kernel
theorem dX10_parts_0 : decode cX10_parts 0 = .ok (.aload_n 0, 1) := by decide +kernel
theorem dX10_parts_1 : decode cX10_parts 1 = .ok (.invokevirtual 246, 3) := by decide +kernel
theorem dX10_parts_4 : decode cX10_parts 4 = .ok (.istore_n 1, 1) := by decide +kernel
theorem dX10_parts_5 : decode cX10_parts 5 = .ok (.aload_n 0, 1) := by decide +kernel
theorem dX10_parts_6 : decode cX10_parts 6 = .ok (.getfield 218, 3) := by decide +kernel
theorem dX10_parts_9 : decode cX10_parts 9 = .ok (.istore_n 2, 1) := by decide +kernel
theorem dX10_parts_10 : decode cX10_parts 10 = .ok (.iload_n 1, 1) := by decide +kernel
theorem dX10_parts_11 : decode cX10_parts 11 = .ok (.bipush 48, 2) := by decide +kernel
theorem dX10_parts_13 : decode cX10_parts 13 = .ok (.if_icmp .lt 83, 3) := by decide +kernel
theorem dX10_parts_16 : decode cX10_parts 16 = .ok (.iload_n 1, 1) := by decide +kernel
theorem dX10_parts_17 : decode cX10_parts 17 = .ok (.bipush 57, 2) := by decide +kernel
theorem dX10_parts_19 : decode cX10_parts 19 = .ok (.if_icmp .gt 77, 3) := by decide +kernel
theorem dX10_parts_22 : decode cX10_parts 22 = .ok (.aload_n 0, 1) := by decide +kernel
theorem dX10_parts_23 : decode cX10_parts 23 = .ok (.dup, 1) := by decide +kernel
theorem dX10_parts_24 : decode cX10_parts 24 = .ok (.getfield 218, 3) := by decide +kernel
theorem dX10_parts_27 : decode cX10_parts 27 = .ok (.iconst 1, 1) := by decide +kernel
theorem dX10_parts_28 : decode cX10_parts 28 = .ok (.iadd, 1) := by decide +kernel
theorem dX10_parts_29 : decode cX10_parts 29 = .ok (.putfield 218, 3) := by decide +kernel
theorem dX10_parts_32 : decode cX10_parts 32 = .ok (.iload_n 1, 1) := by decide +kernel
theorem dX10_parts_33 : decode cX10_parts 33 = .ok (.bipush 49, 2) := by decide +kernel
theorem dX10_parts_35 : decode cX10_parts 35 = .ok (.if_icmp .le 39, 3) := by decide +kernel
theorem dX10_parts_38 : decode cX10_parts 38 = .ok (.aload_n 0, 1) := by decide +kernel
theorem dX10_parts_39 : decode cX10_parts 39 = .ok (.invokevirtual 246, 3) := by decide +kernel
theorem dX10_parts_42 : decode cX10_parts 42 = .ok (.bipush 120, 2) := by decide +kernel
theorem dX10_parts_44 : decode cX10_parts 44 = .ok (.if_icmp .ne 30, 3) := by decide +kernel
theorem dX10_parts_47 : decode cX10_parts 47 = .ok (.aload_n 0, 1) := by decide +kernel
theorem dX10_parts_48 : decode cX10_parts 48 = .ok (.bipush 120, 2) := by decide +kernel
theorem dX10_parts_50 : decode cX10_parts 50 = .ok (.iload_n 1, 1) := by decide +kernel
theorem dX10_parts_51 : decode cX10_parts 51 = .ok (.bipush 48, 2) := by decide +kernel
theorem dX10_parts_53 : decode cX10_parts 53 = .ok (.isub, 1) := by decide +kernel
theorem dX10_parts_54 : decode cX10_parts 54 = .ok (.iload_n 2, 1) := by decide +kernel
theorem dX10_parts_55 : decode cX10_parts 55 = .ok (.aload_n 0, 1) := by decide +kernel
theorem dX10_parts_56 : decode cX10_parts 56 = .ok (.getfield 218, 3) := by decide +kernel
theorem dX10_parts_59 : decode cX10_parts 59 = .ok (.invokevirtual 250, 3) := by decide +kernel
theorem dX10_parts_62 : decode cX10_parts 62 = .ok (.aload_n 0, 1) := by decide +kernel
theorem dX10_parts_63 : decode cX10_parts 63 = .ok (.dup, 1) := by decide +kernel
theorem dX10_parts_64 : decode cX10_parts 64 = .ok (.getfield 218, 3) := by decide +kernel
theorem dX10_parts_67 : decode cX10_parts 67 = .ok (.iconst 1, 1) := by decide +kernel
theorem dX10_parts_68 : decode cX10_parts 68 = .ok (.iadd, 1) := by decide +kernel
theorem dX10_parts_69 : decode cX10_parts 69 = .ok (.putfield 218, 3) := by decide +kernel
theorem dX10_parts_72 : decode cX10_parts 72 = .ok (.iconst 0, 1) := by decide +kernel
theorem dX10_parts_73 : decode cX10_parts 73 = .ok (.ireturn, 1) := by decide +kernel
theorem dX10_parts_74 : decode cX10_parts 74 = .ok (.aload_n 0, 1) := by decide +kernel
theorem dX10_parts_75 : decode cX10_parts 75 = .ok (.iconst 1, 1) := by decide +kernel
