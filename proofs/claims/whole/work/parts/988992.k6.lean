/-! ===== constructors: CustomValleyModel ===== -/
abbrev kX13_init : MI := (yX13_init, cX13_init, 2, none, 4)
theorem moX13_init : MO kX13_init 0 := ⟨(tb_6 73 rfl rfl), (tb_1 16 rfl rfl), ⟨by decide, by decide, by decide +kernel⟩, by decide +kernel, by decide⟩
theorem dX13_init_0 : decode cX13_init 0 = .ok (.aload_n 0, 1) := by decide +kernel
theorem dX13_init_1 : decode cX13_init 1 = .ok (.invokespecial 208, 3) := by decide +kernel
theorem dX13_init_4 : decode cX13_init 4 = .ok (.aload_n 0, 1) := by decide +kernel
theorem dX13_init_5 : decode cX13_init 5 = .ok (.new 213, 3) := by decide +kernel
theorem dX13_init_8 : decode cX13_init 8 = .ok (.dup, 1) := by decide +kernel
theorem dX13_init_9 : decode cX13_init 9 = .ok (.invokespecial 215, 3) := by decide +kernel
theorem dX13_init_12 : decode cX13_init 12 = .ok (.putfield 13, 3) := by decide +kernel
theorem dX13_init_15 : decode cX13_init 15 = .ok (.aload_n 0, 1) := by decide +kernel
theorem dX13_init_16 : decode cX13_init 16 = .ok (.sipush 700, 3) := by decide +kernel
theorem dX13_init_19 : decode cX13_init 19 = .ok (.newarray .byte, 2) := by decide +kernel
theorem dX13_init_21 : decode cX13_init 21 = .ok (.putfield 20, 3) := by decide +kernel
theorem dX13_init_24 : decode cX13_init 24 = .ok (.aload_n 0, 1) := by decide +kernel
theorem dX13_init_25 : decode cX13_init 25 = .ok (.iconst (-1), 1) := by decide +kernel
theorem dX13_init_26 : decode cX13_init 26 = .ok (.putfield 10, 3) := by decide +kernel
theorem dX13_init_29 : decode cX13_init 29 = .ok (.aload_n 0, 1) := by decide +kernel
theorem dX13_init_30 : decode cX13_init 30 = .ok (.bipush 16, 2) := by decide +kernel
theorem dX13_init_32 : decode cX13_init 32 = .ok (.newarray .int, 2) := by decide +kernel
theorem dX13_init_34 : decode cX13_init 34 = .ok (.putfield 193, 3) := by decide +kernel
theorem dX13_init_37 : decode cX13_init 37 = .ok (.aload_n 0, 1) := by decide +kernel
theorem dX13_init_38 : decode cX13_init 38 = .ok (.bipush 16, 2) := by decide +kernel
theorem dX13_init_40 : decode cX13_init 40 = .ok (.newarray .int, 2) := by decide +kernel
theorem dX13_init_42 : decode cX13_init 42 = .ok (.putfield 104, 3) := by decide +kernel
theorem dX13_init_45 : decode cX13_init 45 = .ok (.aload_n 0, 1) := by decide +kernel
theorem dX13_init_46 : decode cX13_init 46 = .ok (.bipush 10, 2) := by decide +kernel
theorem dX13_init_48 : decode cX13_init 48 = .ok (.newarray .int, 2) := by decide +kernel
theorem dX13_init_50 : decode cX13_init 50 = .ok (.putfield 196, 3) := by decide +kernel
theorem dX13_init_53 : decode cX13_init 53 = .ok (.aload_n 0, 1) := by decide +kernel
theorem dX13_init_54 : decode cX13_init 54 = .ok (.bipush 10, 2) := by decide +kernel
theorem dX13_init_56 : decode cX13_init 56 = .ok (.newarray .int, 2) := by decide +kernel
theorem dX13_init_58 : decode cX13_init 58 = .ok (.putfield 118, 3) := by decide +kernel
theorem dX13_init_61 : decode cX13_init 61 = .ok (.aload_n 0, 1) := by decide +kernel
theorem dX13_init_62 : decode cX13_init 62 = .ok (.bipush 10, 2) := by decide +kernel
theorem dX13_init_64 : decode cX13_init 64 = .ok (.newarray .int, 2) := by decide +kernel
theorem dX13_init_66 : decode cX13_init 66 = .ok (.putfield 198, 3) := by decide +kernel
theorem dX13_init_69 : decode cX13_init 69 = .ok (.aload_n 0, 1) := by decide +kernel
theorem dX13_init_70 : decode cX13_init 70 = .ok (.bipush 10, 2) := by decide +kernel
theorem dX13_init_72 : decode cX13_init 72 = .ok (.newarray .int, 2) := by decide +kernel
theorem dX13_init_74 : decode cX13_init 74 = .ok (.putfield 121, 3) := by decide +kernel
theorem dX13_init_77 : decode cX13_init 77 = .ok (.aload_n 0, 1) := by decide +kernel
theorem dX13_init_78 : decode cX13_init 78 = .ok (.iconst 4, 1) := by decide +kernel
theorem dX13_init_79 : decode cX13_init 79 = .ok (.newarray .int, 2) := by decide +kernel
theorem dX13_init_81 : decode cX13_init 81 = .ok (.putfield 200, 3) := by decide +kernel
theorem dX13_init_84 : decode cX13_init 84 = .ok (.aload_n 0, 1) := by decide +kernel
theorem dX13_init_85 : decode cX13_init 85 = .ok (.iconst 4, 1) := by decide +kernel
theorem dX13_init_86 : decode cX13_init 86 = .ok (.newarray .int, 2) := by decide +kernel
theorem dX13_init_88 : decode cX13_init 88 = .ok (.putfield 112, 3) := by decide +kernel
theorem dX13_init_91 : decode cX13_init 91 = .ok (.aload_n 0, 1) := by decide +kernel
theorem dX13_init_92 : decode cX13_init 92 = .ok (.bipush 16, 2) := by decide +kernel
theorem dX13_init_94 : decode cX13_init 94 = .ok (.newarray .boolean, 2) := by decide +kernel
theorem dX13_init_96 : decode cX13_init 96 = .ok (.putfield 108, 3) := by decide +kernel
theorem dX13_init_99 : decode cX13_init 99 = .ok (.aload_n 0, 1) := by decide +kernel
theorem dX13_init_100 : decode cX13_init 100 = .ok (.iconst 4, 1) := by decide +kernel
theorem dX13_init_101 : decode cX13_init 101 = .ok (.newarray .boolean, 2) := by decide +kernel
theorem dX13_init_103 : decode cX13_init 103 = .ok (.putfield 115, 3) := by decide +kernel
theorem dX13_init_106 : decode cX13_init 106 = .ok (.aload_n 0, 1) := by decide +kernel
theorem dX13_init_107 : decode cX13_init 107 = .ok (.bipush 11, 2) := by decide +kernel
theorem dX13_init_109 : decode cX13_init 109 = .ok (.newarray .int, 2) := by decide +kernel
theorem dX13_init_111 : decode cX13_init 111 = .ok (.putfield 202, 3) := by decide +kernel
theorem dX13_init_114 : decode cX13_init 114 = .ok (.aload_n 0, 1) := by decide +kernel
theorem dX13_init_115 : decode cX13_init 115 = .ok (.iconst (-1), 1) := by decide +kernel
theorem dX13_init_116 : decode cX13_init 116 = .ok (.putfield 216, 3) := by decide +kernel
theorem dX13_init_119 : decode cX13_init 119 = .ok (.aload_n 0, 1) := by decide +kernel
theorem dX13_init_120 : decode cX13_init 120 = .ok (.sipush 10240, 3) := by decide +kernel
theorem dX13_init_123 : decode cX13_init 123 = .ok (.newarray .byte, 2) := by decide +kernel
theorem dX13_init_125 : decode cX13_init 125 = .ok (.putfield 219, 3) := by decide +kernel
theorem dX13_init_128 : decode cX13_init 128 = .ok (.aload_n 0, 1) := by decide +kernel
theorem dX13_init_129 : decode cX13_init 129 = .ok (.sipush 1024, 3) := by decide +kernel
theorem dX13_init_132 : decode cX13_init 132 = .ok (.newarray .int, 2) := by decide +kernel
theorem dX13_init_134 : decode cX13_init 134 = .ok (.putfield 222, 3) := by decide +kernel
theorem dX13_init_137 : decode cX13_init 137 = .ok (.aload_n 0, 1) := by decide +kernel
theorem dX13_init_138 : decode cX13_init 138 = .ok (.sipush 1024, 3) := by decide +kernel
theorem dX13_init_141 : decode cX13_init 141 = .ok (.newarray .int, 2) := by decide +kernel
theorem dX13_init_143 : decode cX13_init 143 = .ok (.putfield 225, 3) := by decide +kernel
theorem dX13_init_146 : decode cX13_init 146 = .ok (.aload_n 0, 1) := by decide +kernel
theorem dX13_init_147 : decode cX13_init 147 = .ok (.sipush 1024, 3) := by decide +kernel
theorem dX13_init_150 : decode cX13_init 150 = .ok (.newarray .int, 2) := by decide +kernel
theorem dX13_init_152 : decode cX13_init 152 = .ok (.putfield 228, 3) := by decide +kernel
theorem dX13_init_155 : decode cX13_init 155 = .ok (.aload_n 0, 1) := by decide +kernel
theorem dX13_init_156 : decode cX13_init 156 = .ok (.sipush 1024, 3) := by decide +kernel
theorem dX13_init_159 : decode cX13_init 159 = .ok (.newarray .int, 2) := by decide +kernel
theorem dX13_init_161 : decode cX13_init 161 = .ok (.putfield 231, 3) := by decide +kernel
theorem dX13_init_164 : decode cX13_init 164 = .ok (.aload_n 0, 1) := by decide +kernel
theorem dX13_init_165 : decode cX13_init 165 = .ok (.sipush 1024, 3) := by decide +kernel
theorem dX13_init_168 : decode cX13_init 168 = .ok (.newarray .int, 2) := by decide +kernel
theorem dX13_init_170 : decode cX13_init 170 = .ok (.putfield 234, 3) := by decide +kernel
theorem dX13_init_173 : decode cX13_init 173 = .ok (.aload_n 0, 1) := by decide +kernel
theorem dX13_init_174 : decode cX13_init 174 = .ok (.sipush 1024, 3) := by decide +kernel
theorem dX13_init_177 : decode cX13_init 177 = .ok (.newarray .int, 2) := by decide +kernel
theorem dX13_init_179 : decode cX13_init 179 = .ok (.putfield 237, 3) := by decide +kernel
theorem dX13_init_182 : decode cX13_init 182 = .ok (.aload_n 0, 1) := by decide +kernel
theorem dX13_init_183 : decode cX13_init 183 = .ok (.sipush 1024, 3) := by decide +kernel
theorem dX13_init_186 : decode cX13_init 186 = .ok (.newarray .int, 2) := by decide +kernel
theorem dX13_init_188 : decode cX13_init 188 = .ok (.putfield 240, 3) := by decide +kernel
theorem dX13_init_191 : decode cX13_init 191 = .ok (.aload_n 0, 1) := by decide +kernel
theorem dX13_init_192 : decode cX13_init 192 = .ok (.sipush 1024, 3) := by decide +kernel
theorem dX13_init_195 : decode cX13_init 195 = .ok (.newarray .int, 2) := by decide +kernel
theorem dX13_init_197 : decode cX13_init 197 = .ok (.putfield 243, 3) := by decide +kernel
theorem dX13_init_200 : decode cX13_init 200 = .ok (.aload_n 0, 1) := by decide +kernel
theorem dX13_init_201 : decode cX13_init 201 = .ok (.sipush 1024, 3) := by decide +kernel
theorem dX13_init_204 : decode cX13_init 204 = .ok (.newarray .int, 2) := by decide +kernel
theorem dX13_init_206 : decode cX13_init 206 = .ok (.putfield 246, 3) := by decide +kernel
theorem dX13_init_209 : decode cX13_init 209 = .ok (.aload_n 0, 1) := by decide +kernel
theorem dX13_init_210 : decode cX13_init 210 = .ok (.sipush 1024, 3) := by decide +kernel
theorem dX13_init_213 : decode cX13_init 213 = .ok (.newarray .boolean, 2) := by decide +kernel
theorem dX13_init_215 : decode cX13_init 215 = .ok (.putfield 249, 3) := by decide +kernel
theorem dX13_init_218 : decode cX13_init 218 = .ok (.aload_n 0, 1) := by decide +kernel
theorem dX13_init_219 : decode cX13_init 219 = .ok (.sipush 1024, 3) := by decide +kernel
theorem dX13_init_222 : decode cX13_init 222 = .ok (.newarray .boolean, 2) := by decide +kernel
theorem dX13_init_224 : decode cX13_init 224 = .ok (.putfield 252, 3) := by decide +kernel
theorem dX13_init_227 : decode cX13_init 227 = .ok (.aload_n 0, 1) := by decide +kernel
theorem dX13_init_228 : decode cX13_init 228 = .ok (.sipush 1024, 3) := by decide +kernel
theorem dX13_init_231 : decode cX13_init 231 = .ok (.newarray .int, 2) := by decide +kernel
theorem dX13_init_233 : decode cX13_init 233 = .ok (.putfield 255, 3) := by decide +kernel
theorem dX13_init_236 : decode cX13_init 236 = .ok (.aload_n 0, 1) := by decide +kernel
theorem dX13_init_237 : decode cX13_init 237 = .ok (.sipush 1025, 3) := by decide +kernel
theorem dX13_init_240 : decode cX13_init 240 = .ok (.newarray .int, 2) := by decide +kernel
theorem dX13_init_242 : decode cX13_init 242 = .ok (.putfield 258, 3) := by decide +kernel
theorem dX13_init_245 : decode cX13_init 245 = .ok (.aload_n 0, 1) := by decide +kernel
theorem dX13_init_246 : decode cX13_init 246 = .ok (.sipush 144, 3) := by decide +kernel
theorem dX13_init_249 : decode cX13_init 249 = .ok (.newarray .int, 2) := by decide +kernel
theorem dX13_init_251 : decode cX13_init 251 = .ok (.putfield 261, 3) := by decide +kernel
theorem dX13_init_254 : decode cX13_init 254 = .ok (.aload_n 0, 1) := by decide +kernel
theorem dX13_init_255 : decode cX13_init 255 = .ok (.sipush 144, 3) := by decide +kernel
theorem dX13_init_258 : decode cX13_init 258 = .ok (.newarray .int, 2) := by decide +kernel
theorem dX13_init_260 : decode cX13_init 260 = .ok (.putfield 264, 3) := by decide +kernel
theorem dX13_init_263 : decode cX13_init 263 = .ok (.aload_n 0, 1) := by decide +kernel
theorem dX13_init_264 : decode cX13_init 264 = .ok (.sipush 144, 3) := by decide +kernel
theorem dX13_init_267 : decode cX13_init 267 = .ok (.newarray .int, 2) := by decide +kernel
theorem dX13_init_269 : decode cX13_init 269 = .ok (.putfield 267, 3) := by decide +kernel
theorem dX13_init_272 : decode cX13_init 272 = .ok (.aload_n 0, 1) := by decide +kernel
theorem dX13_init_273 : decode cX13_init 273 = .ok (.bipush 12, 2) := by decide +kernel
theorem dX13_init_275 : decode cX13_init 275 = .ok (.newarray .int, 2) := by decide +kernel
theorem dX13_init_277 : decode cX13_init 277 = .ok (.putfield 270, 3) := by decide +kernel
theorem dX13_init_280 : decode cX13_init 280 = .ok (.aload_n 0, 1) := by decide +kernel
theorem dX13_init_281 : decode cX13_init 281 = .ok (.bipush 12, 2) := by decide +kernel
theorem dX13_init_283 : decode cX13_init 283 = .ok (.newarray .int, 2) := by decide +kernel
theorem dX13_init_285 : decode cX13_init 285 = .ok (.putfield 273, 3) := by decide +kernel
theorem dX13_init_288 : decode cX13_init 288 = .ok (.aload_n 0, 1) := by decide +kernel
theorem dX13_init_289 : decode cX13_init 289 = .ok (.bipush 12, 2) := by decide +kernel
theorem dX13_init_291 : decode cX13_init 291 = .ok (.newarray .int, 2) := by decide +kernel
theorem dX13_init_293 : decode cX13_init 293 = .ok (.putfield 276, 3) := by decide +kernel
theorem dX13_init_296 : decode cX13_init 296 = .ok (.aload_n 0, 1) := by decide +kernel
theorem dX13_init_297 : decode cX13_init 297 = .ok (.sipush 144, 3) := by decide +kernel
theorem dX13_init_300 : decode cX13_init 300 = .ok (.newarray .int, 2) := by decide +kernel
theorem dX13_init_302 : decode cX13_init 302 = .ok (.putfield 279, 3) := by decide +kernel
theorem dX13_init_305 : decode cX13_init 305 = .ok (.aload_n 0, 1) := by decide +kernel
theorem dX13_init_306 : decode cX13_init 306 = .ok (.bipush 12, 2) := by decide +kernel
theorem dX13_init_308 : decode cX13_init 308 = .ok (.newarray .int, 2) := by decide +kernel
theorem dX13_init_310 : decode cX13_init 310 = .ok (.putfield 282, 3) := by decide +kernel
theorem dX13_init_313 : decode cX13_init 313 = .ok (.aload_n 0, 1) := by decide +kernel
theorem dX13_init_314 : decode cX13_init 314 = .ok (.sipush 10240, 3) := by decide +kernel
theorem dX13_init_317 : decode cX13_init 317 = .ok (.newarray .byte, 2) := by decide +kernel
theorem dX13_init_319 : decode cX13_init 319 = .ok (.putfield 285, 3) := by decide +kernel
theorem dX13_init_322 : decode cX13_init 322 = .ok (.aload_n 0, 1) := by decide +kernel
theorem dX13_init_323 : decode cX13_init 323 = .ok (.sipush 1024, 3) := by decide +kernel
theorem dX13_init_326 : decode cX13_init 326 = .ok (.newarray .int, 2) := by decide +kernel
theorem dX13_init_328 : decode cX13_init 328 = .ok (.putfield 288, 3) := by decide +kernel
theorem dX13_init_331 : decode cX13_init 331 = .ok (.aload_n 0, 1) := by decide +kernel
theorem dX13_init_332 : decode cX13_init 332 = .ok (.sipush 1024, 3) := by decide +kernel
theorem dX13_init_335 : decode cX13_init 335 = .ok (.newarray .int, 2) := by decide +kernel
theorem dX13_init_337 : decode cX13_init 337 = .ok (.putfield 291, 3) := by decide +kernel
theorem dX13_init_340 : decode cX13_init 340 = .ok (.aload_n 0, 1) := by decide +kernel
theorem dX13_init_341 : decode cX13_init 341 = .ok (.bipush 10, 2) := by decide +kernel
theorem dX13_init_343 : decode cX13_init 343 = .ok (.newarray .int, 2) := by decide +kernel
theorem dX13_init_345 : decode cX13_init 345 = .ok (.putfield 294, 3) := by decide +kernel
theorem dX13_init_348 : decode cX13_init 348 = .ok (.aload_n 0, 1) := by decide +kernel
theorem dX13_init_349 : decode cX13_init 349 = .ok (.bipush 20, 2) := by decide +kernel
theorem dX13_init_351 : decode cX13_init 351 = .ok (.newarray .int, 2) := by decide +kernel
theorem dX13_init_353 : decode cX13_init 353 = .ok (.putfield 297, 3) := by decide +kernel
theorem dX13_init_356 : decode cX13_init 356 = .ok (.aload_n 0, 1) := by decide +kernel
theorem dX13_init_357 : decode cX13_init 357 = .ok (.bipush 20, 2) := by decide +kernel
theorem dX13_init_359 : decode cX13_init 359 = .ok (.newarray .int, 2) := by decide +kernel
theorem dX13_init_361 : decode cX13_init 361 = .ok (.putfield 300, 3) := by decide +kernel
theorem dX13_init_364 : decode cX13_init 364 = .ok (.aload_n 0, 1) := by decide +kernel
theorem dX13_init_365 : decode cX13_init 365 = .ok (.bipush 20, 2) := by decide +kernel
theorem dX13_init_367 : decode cX13_init 367 = .ok (.newarray .int, 2) := by decide +kernel
theorem dX13_init_369 : decode cX13_init 369 = .ok (.putfield 303, 3) := by decide +kernel
theorem dX13_init_372 : decode cX13_init 372 = .ok (.aload_n 0, 1) := by decide +kernel
theorem dX13_init_373 : decode cX13_init 373 = .ok (.bipush 20, 2) := by decide +kernel
theorem dX13_init_375 : decode cX13_init 375 = .ok (.newarray .int, 2) := by decide +kernel
theorem dX13_init_377 : decode cX13_init 377 = .ok (.putfield 306, 3) := by decide +kernel
theorem dX13_init_380 : decode cX13_init 380 = .ok (.aload_n 0, 1) := by decide +kernel
theorem dX13_init_381 : decode cX13_init 381 = .ok (.bipush 20, 2) := by decide +kernel
theorem dX13_init_383 : decode cX13_init 383 = .ok (.newarray .int, 2) := by decide +kernel
theorem dX13_init_385 : decode cX13_init 385 = .ok (.putfield 309, 3) := by decide +kernel
theorem dX13_init_388 : decode cX13_init 388 = .ok (.aload_n 0, 1) := by decide +kernel
theorem dX13_init_389 : decode cX13_init 389 = .ok (.bipush 20, 2) := by decide +kernel
theorem dX13_init_391 : decode cX13_init 391 = .ok (.newarray .int, 2) := by decide +kernel
theorem dX13_init_393 : decode cX13_init 393 = .ok (.putfield 312, 3) := by decide +kernel
theorem dX13_init_396 : decode cX13_init 396 = .ok (.aload_n 0, 1) := by decide +kernel
theorem dX13_init_397 : decode cX13_init 397 = .ok (.invokevirtual 176, 3) := by decide +kernel
theorem dX13_init_400 : decode cX13_init 400 = .ok (.iconst 0, 1) := by decide +kernel
theorem dX13_init_401 : decode cX13_init 401 = .ok (.istore_n 1, 1) := by decide +kernel
theorem dX13_init_402 : decode cX13_init 402 = .ok (.iload_n 1, 1) := by decide +kernel
theorem dX13_init_403 : decode cX13_init 403 = .ok (.aload_n 0, 1) := by decide +kernel
theorem dX13_init_404 : decode cX13_init 404 = .ok (.getfield 76, 3) := by decide +kernel
theorem dX13_init_407 : decode cX13_init 407 = .ok (.if_icmp .ge 29, 3) := by decide +kernel
theorem dX13_init_410 : decode cX13_init 410 = .ok (.aload_n 0, 1) := by decide +kernel
theorem dX13_init_411 : decode cX13_init 411 = .ok (.getfield 118, 3) := by decide +kernel
theorem dX13_init_414 : decode cX13_init 414 = .ok (.iload_n 1, 1) := by decide +kernel
theorem dX13_init_415 : decode cX13_init 415 = .ok (.iconst 1, 1) := by decide +kernel
theorem dX13_init_416 : decode cX13_init 416 = .ok (.aload_n 0, 1) := by decide +kernel
theorem dX13_init_417 : decode cX13_init 417 = .ok (.getfield 76, 3) := by decide +kernel
theorem dX13_init_420 : decode cX13_init 420 = .ok (.ishl, 1) := by decide +kernel
theorem dX13_init_421 : decode cX13_init 421 = .ok (.iconst 1, 1) := by decide +kernel
theorem dX13_init_422 : decode cX13_init 422 = .ok (.isub, 1) := by decide +kernel
theorem dX13_init_423 : decode cX13_init 423 = .ok (.iconst 1, 1) := by decide +kernel
theorem dX13_init_424 : decode cX13_init 424 = .ok (.iload_n 1, 1) := by decide +kernel
theorem dX13_init_425 : decode cX13_init 425 = .ok (.ishl, 1) := by decide +kernel
theorem dX13_init_426 : decode cX13_init 426 = .ok (.iconst (-1), 1) := by decide +kernel
theorem dX13_init_427 : decode cX13_init 427 = .ok (.ixor, 1) := by decide +kernel
theorem dX13_init_428 : decode cX13_init 428 = .ok (.iand, 1) := by decide +kernel
theorem dX13_init_429 : decode cX13_init 429 = .ok (.iastore, 1) := by decide +kernel
theorem dX13_init_430 : decode cX13_init 430 = .ok (.iinc 1 1, 3) := by decide +kernel
theorem dX13_init_433 : decode cX13_init 433 = .ok (.goto (-31), 3) := by decide +kernel
theorem dX13_init_436 : decode cX13_init 436 = .ok (.aload_n 0, 1) := by decide +kernel
theorem dX13_init_437 : decode cX13_init 437 = .ok (.iconst 0, 1) := by decide +kernel
theorem dX13_init_438 : decode cX13_init 438 = .ok (.invokevirtual 315, 3) := by decide +kernel
theorem dX13_init_441 : decode cX13_init 441 = .ok (.return_, 1) := by decide +kernel
theorem fbX13_13 : FPB RX13 13 13 0 (.object "CustomValleyModel$Stop") := ⟨RX13, TX13, 92, rfl, by decide, rfl, (tb_6 142 rfl rfl), by decide +kernel, fun _ => rfl⟩
theorem fbX13_20 : FPB RX13 20 13 1 (.array .byte) := ⟨RX13, TX13, 92, rfl, by decide, rfl, (tb_6 143 rfl rfl), by decide +kernel, fun _ => rfl⟩
theorem fbX13_10 : FPB RX13 10 13 9 (.int) := ⟨RX13, TX13, 92, rfl, by decide, rfl, (tb_6 151 rfl rfl), by decide +kernel, fun _ => rfl⟩
theorem fbX13_193 : FPB RX13 193 13 24 (.array .int) := ⟨RX13, TX13, 92, rfl, by decide, rfl, (tb_6 166 rfl rfl), by decide +kernel, fun _ => rfl⟩
theorem fbX13_104 : FPB RX13 104 13 25 (.array .int) := ⟨RX13, TX13, 92, rfl, by decide, rfl, (tb_6 167 rfl rfl), by decide +kernel, fun _ => rfl⟩
theorem fbX13_196 : FPB RX13 196 13 26 (.array .int) := ⟨RX13, TX13, 92, rfl, by decide, rfl, (tb_6 168 rfl rfl), by decide +kernel, fun _ => rfl⟩
theorem fbX13_118 : FPB RX13 118 13 27 (.array .int) := ⟨RX13, TX13, 92, rfl, by decide, rfl, (tb_6 169 rfl rfl), by decide +kernel, fun _ => rfl⟩
theorem fbX13_198 : FPB RX13 198 13 28 (.array .int) := ⟨RX13, TX13, 92, rfl, by decide, rfl, (tb_6 170 rfl rfl), by decide +kernel, fun _ => rfl⟩
theorem fbX13_121 : FPB RX13 121 13 29 (.array .int) := ⟨RX13, TX13, 92, rfl, by decide, rfl, (tb_6 171 rfl rfl), by decide +kernel, fun _ => rfl⟩
theorem fbX13_200 : FPB RX13 200 13 30 (.array .int) := ⟨RX13, TX13, 92, rfl, by decide, rfl, (tb_6 172 rfl rfl), by decide +kernel, fun _ => rfl⟩
theorem fbX13_112 : FPB RX13 112 13 31 (.array .int) := ⟨RX13, TX13, 92, rfl, by decide, rfl, (tb_6 173 rfl rfl), by decide +kernel, fun _ => rfl⟩
theorem fbX13_108 : FPB RX13 108 13 32 (.array .boolean) := ⟨RX13, TX13, 92, rfl, by decide, rfl, (tb_6 174 rfl rfl), by decide +kernel, fun _ => rfl⟩
theorem fbX13_115 : FPB RX13 115 13 33 (.array .boolean) := ⟨RX13, TX13, 92, rfl, by decide, rfl, (tb_6 175 rfl rfl), by decide +kernel, fun _ => rfl⟩
theorem fbX13_202 : FPB RX13 202 13 34 (.array .int) := ⟨RX13, TX13, 92, rfl, by decide, rfl, (tb_6 176 rfl rfl), by decide +kernel, fun _ => rfl⟩
theorem fbX13_216 : FPB RX13 216 13 35 (.int) := ⟨RX13, TX13, 92, rfl, by decide, rfl, (tb_6 177 rfl rfl), by decide +kernel, fun _ => rfl⟩
theorem fbX13_219 : FPB RX13 219 13 38 (.array .byte) := ⟨RX13, TX13, 92, rfl, by decide, rfl, (tb_6 180 rfl rfl), by decide +kernel, fun _ => rfl⟩
theorem fbX13_222 : FPB RX13 222 13 39 (.array .int) := ⟨RX13, TX13, 92, rfl, by decide, rfl, (tb_6 181 rfl rfl), by decide +kernel, fun _ => rfl⟩
theorem fbX13_225 : FPB RX13 225 13 40 (.array .int) := ⟨RX13, TX13, 92, rfl, by decide, rfl, (tb_6 182 rfl rfl), by decide +kernel, fun _ => rfl⟩
theorem fbX13_228 : FPB RX13 228 13 41 (.array .int) := ⟨RX13, TX13, 92, rfl, by decide, rfl, (tb_6 183 rfl rfl), by decide +kernel, fun _ => rfl⟩
theorem fbX13_231 : FPB RX13 231 13 42 (.array .int) := ⟨RX13, TX13, 92, rfl, by decide, rfl, (tb_6 184 rfl rfl), by decide +kernel, fun _ => rfl⟩
theorem fbX13_234 : FPB RX13 234 13 43 (.array .int) := ⟨RX13, TX13, 92, rfl, by decide, rfl, (tb_6 185 rfl rfl), by decide +kernel, fun _ => rfl⟩
theorem fbX13_237 : FPB RX13 237 13 44 (.array .int) := ⟨RX13, TX13, 92, rfl, by decide, rfl, (tb_6 186 rfl rfl), by decide +kernel, fun _ => rfl⟩
theorem fbX13_240 : FPB RX13 240 13 45 (.array .int) := ⟨RX13, TX13, 92, rfl, by decide, rfl, (tb_6 187 rfl rfl), by decide +kernel, fun _ => rfl⟩
theorem fbX13_243 : FPB RX13 243 13 46 (.array .int) := ⟨RX13, TX13, 92, rfl, by decide, rfl, (tb_6 188 rfl rfl), by decide +kernel, fun _ => rfl⟩
theorem fbX13_246 : FPB RX13 246 13 47 (.array .int) := ⟨RX13, TX13, 92, rfl, by decide, rfl, (tb_6 189 rfl rfl), by decide +kernel, fun _ => rfl⟩
theorem fbX13_249 : FPB RX13 249 13 48 (.array .boolean) := ⟨RX13, TX13, 92, rfl, by decide, rfl, (tb_6 190 rfl rfl), by decide +kernel, fun _ => rfl⟩
theorem fbX13_252 : FPB RX13 252 13 49 (.array .boolean) := ⟨RX13, TX13, 92, rfl, by decide, rfl, (tb_6 191 rfl rfl), by decide +kernel, fun _ => rfl⟩
theorem fbX13_255 : FPB RX13 255 13 52 (.array .int) := ⟨RX13, TX13, 92, rfl, by decide, rfl, (tb_6 194 rfl rfl), by decide +kernel, fun _ => rfl⟩
theorem fbX13_258 : FPB RX13 258 13 53 (.array .int) := ⟨RX13, TX13, 92, rfl, by decide, rfl, (tb_6 195 rfl rfl), by decide +kernel, fun _ => rfl⟩
theorem fbX13_261 : FPB RX13 261 13 56 (.array .int) := ⟨RX13, TX13, 92, rfl, by decide, rfl, (tb_6 198 rfl rfl), by decide +kernel, fun _ => rfl⟩
theorem fbX13_264 : FPB RX13 264 13 57 (.array .int) := ⟨RX13, TX13, 92, rfl, by decide, rfl, (tb_6 199 rfl rfl), by decide +kernel, fun _ => rfl⟩
theorem fbX13_267 : FPB RX13 267 13 58 (.array .int) := ⟨RX13, TX13, 92, rfl, by decide, rfl, (tb_6 200 rfl rfl), by decide +kernel, fun _ => rfl⟩
theorem fbX13_270 : FPB RX13 270 13 59 (.array .int) := ⟨RX13, TX13, 92, rfl, by decide, rfl, (tb_6 201 rfl rfl), by decide +kernel, fun _ => rfl⟩
theorem fbX13_273 : FPB RX13 273 13 60 (.array .int) := ⟨RX13, TX13, 92, rfl, by decide, rfl, (tb_6 202 rfl rfl), by decide +kernel, fun _ => rfl⟩
theorem fbX13_276 : FPB RX13 276 13 61 (.array .int) := ⟨RX13, TX13, 92, rfl, by decide, rfl, (tb_6 203 rfl rfl), by decide +kernel, fun _ => rfl⟩
theorem fbX13_279 : FPB RX13 279 13 66 (.array .int) := ⟨RX13, TX13, 92, rfl, by decide, rfl, (tb_6 208 rfl rfl), by decide +kernel, fun _ => rfl⟩
theorem fbX13_282 : FPB RX13 282 13 67 (.array .int) := ⟨RX13, TX13, 92, rfl, by decide, rfl, (tb_6 209 rfl rfl), by decide +kernel, fun _ => rfl⟩
theorem fbX13_285 : FPB RX13 285 13 68 (.array .byte) := ⟨RX13, TX13, 92, rfl, by decide, rfl, (tb_6 210 rfl rfl), by decide +kernel, fun _ => rfl⟩
theorem fbX13_288 : FPB RX13 288 13 69 (.array .int) := ⟨RX13, TX13, 92, rfl, by decide, rfl, (tb_6 211 rfl rfl), by decide +kernel, fun _ => rfl⟩
theorem fbX13_291 : FPB RX13 291 13 70 (.array .int) := ⟨RX13, TX13, 92, rfl, by decide, rfl, (tb_6 212 rfl rfl), by decide +kernel, fun _ => rfl⟩
theorem fbX13_294 : FPB RX13 294 13 77 (.array .int) := ⟨RX13, TX13, 92, rfl, by decide, rfl, (tb_6 219 rfl rfl), by decide +kernel, fun _ => rfl⟩
theorem fbX13_297 : FPB RX13 297 13 86 (.array .int) := ⟨RX13, TX13, 92, rfl, by decide, rfl, (tb_6 228 rfl rfl), by decide +kernel, fun _ => rfl⟩
theorem fbX13_300 : FPB RX13 300 13 87 (.array .int) := ⟨RX13, TX13, 92, rfl, by decide, rfl, (tb_6 229 rfl rfl), by decide +kernel, fun _ => rfl⟩
theorem fbX13_303 : FPB RX13 303 13 88 (.array .int) := ⟨RX13, TX13, 92, rfl, by decide, rfl, (tb_6 230 rfl rfl), by decide +kernel, fun _ => rfl⟩
theorem fbX13_306 : FPB RX13 306 13 89 (.array .int) := ⟨RX13, TX13, 92, rfl, by decide, rfl, (tb_6 231 rfl rfl), by decide +kernel, fun _ => rfl⟩
theorem fbX13_309 : FPB RX13 309 13 90 (.array .int) := ⟨RX13, TX13, 92, rfl, by decide, rfl, (tb_6 232 rfl rfl), by decide +kernel, fun _ => rfl⟩
theorem fbX13_312 : FPB RX13 312 13 91 (.array .int) := ⟨RX13, TX13, 92, rfl, by decide, rfl, (tb_6 233 rfl rfl), by decide +kernel, fun _ => rfl⟩
theorem dfX13 (i j : Nat) (h : j < 92) : defaultValue (tyX13 j) = dfl 14 i j := match j, h with
  | 0, _ => rfl
  | 1, _ => rfl
  | 2, _ => rfl
  | 3, _ => rfl
  | 4, _ => rfl
  | 5, _ => rfl
  | 6, _ => rfl
  | 7, _ => rfl
  | 8, _ => rfl
  | 9, _ => rfl
  | 10, _ => rfl
  | 11, _ => rfl
  | 12, _ => rfl
  | 13, _ => rfl
  | 14, _ => rfl
  | 15, _ => rfl
  | 16, _ => rfl
  | 17, _ => rfl
  | 18, _ => rfl
  | 19, _ => rfl
  | 20, _ => rfl
  | 21, _ => rfl
  | 22, _ => rfl
  | 23, _ => rfl
  | 24, _ => rfl
  | 25, _ => rfl
  | 26, _ => rfl
  | 27, _ => rfl
  | 28, _ => rfl
  | 29, _ => rfl
  | 30, _ => rfl
  | 31, _ => rfl
  | 32, _ => rfl
  | 33, _ => rfl
  | 34, _ => rfl
  | 35, _ => rfl
  | 36, _ => rfl
  | 37, _ => rfl
  | 38, _ => rfl
  | 39, _ => rfl
  | 40, _ => rfl
  | 41, _ => rfl
  | 42, _ => rfl
  | 43, _ => rfl
  | 44, _ => rfl
  | 45, _ => rfl
  | 46, _ => rfl
  | 47, _ => rfl
  | 48, _ => rfl
  | 49, _ => rfl
  | 50, _ => rfl
  | 51, _ => rfl
  | 52, _ => rfl
  | 53, _ => rfl
  | 54, _ => rfl
  | 55, _ => rfl
  | 56, _ => rfl
  | 57, _ => rfl
  | 58, _ => rfl
  | 59, _ => rfl
  | 60, _ => rfl
  | 61, _ => rfl
  | 62, _ => rfl
  | 63, _ => rfl
  | 64, _ => rfl
  | 65, _ => rfl
  | 66, _ => rfl
  | 67, _ => rfl
  | 68, _ => rfl
  | 69, _ => rfl
  | 70, _ => rfl
  | 71, _ => rfl
  | 72, _ => rfl
  | 73, _ => rfl
  | 74, _ => rfl
  | 75, _ => rfl
  | 76, _ => rfl
  | 77, _ => rfl
  | 78, _ => rfl
  | 79, _ => rfl
  | 80, _ => rfl
  | 81, _ => rfl
  | 82, _ => rfl
  | 83, _ => rfl
  | 84, _ => rfl
  | 85, _ => rfl
  | 86, _ => rfl
  | 87, _ => rfl
  | 88, _ => rfl
  | 89, _ => rfl
  | 90, _ => rfl
  | 91, _ => rfl
  | j + 92, h => absurd h (by omega)
theorem b_kX13_402 {x2 : Int} {σ : St} {Q : Res → St → Prop} (h : (((σ 14 0 14) ≤ x2) → (WP kX13_init 436 [vR 14 0, vI x2] [] σ Q)) ∧ ((x2 < (σ 14 0 14)) → ((in32 ((shl 1 (σ 14 0 14)) - 1)) ∧ ((0 ≤ x2 ∧ x2 < 10) ∧ ((in32 (x2 + 1)) ∧ (WP kX13_init 402 [vR 14 0, vI (x2 + 1)] [] (up σ 70 0 x2.toNat (band ((shl 1 (σ 14 0 14)) - 1) (bxor (shl 1 x2) (-1)))) Q)))))) : WP kX13_init 402 [vR 14 0, vI x2] [] σ Q := by
  refine wp_iload_n dX13_init_402 rfl rfl ?_
  refine wp_aload_n dX13_init_403 rfl rfl ?_
  refine wp_getI dX13_init_404 fl_CustomValleyModel_76 rfl rfl rfl ?_
  refine wp_icmp_ge (tgt := 436) dX13_init_407 (by decide) (fun hc => ?_) (fun hc => ?_)
  · exact h.1 hc
  · replace h := h.2 hc
    refine wp_aload_n dX13_init_410 rfl rfl ?_
    refine wp_getR dX13_init_411 fl_CustomValleyModel_118 rfl rfl ?_
    refine wp_iload_n dX13_init_414 rfl rfl ?_
    refine wp_iconst dX13_init_415 rfl ?_
    refine wp_aload_n dX13_init_416 rfl rfl ?_
    refine wp_getI dX13_init_417 fl_CustomValleyModel_76 rfl rfl rfl ?_
    refine wp_ishl dX13_init_420 ?_
    refine wp_iconst dX13_init_421 rfl ?_
    have s3 := h.1
    replace h := h.2
    refine wp_isub dX13_init_422 ?_ (h1 := s3.1) (h2 := s3.2)
    refine wp_iconst dX13_init_423 rfl ?_
    refine wp_iload_n dX13_init_424 rfl rfl ?_
    refine wp_ishl dX13_init_425 ?_
    refine wp_iconst dX13_init_426 rfl ?_
    refine wp_ixor dX13_init_427 ?_
    refine wp_iand dX13_init_428 ?_
    have s2 := h.1
    replace h := h.2
    refine wp_iastore dX13_init_429 rfl rfl s2.1 s2.2 ?_
    have s1 := h.1
    replace h := h.2
    refine wp_iinc dX13_init_430 rfl (by decide) rfl rfl ?_ (h1 := s1.1) (h2 := s1.2)
    refine wp_goto (tgt := 402) dX13_init_433 (by decide) ?_
    exact h
theorem d_initAll {σ : St} {Q : Res → St → Prop} (hR : DRm σ D0) (h : ∀ τ, FR (fun c i _ => c = 70 ∧ i = 0) σ τ → DRm τ (mV D0, D0.2) → WP kX13_init 436 [vR 14 0, vI 4] [] τ Q) : WP kX13_init 402 [vR 14 0, vI 0] [] σ Q := by
  obtain ⟨⟨a0, a1, a2, a3, a4, a5, a6, a7, a8⟩, b1, b2, b3, b4, b5, b6⟩ := hR
  have hs := shl1 (q := 4) (by omega) (by omega)
  have key : ∀ r p : Nat, r + p = 4 → ∀ τ, FR (fun c i _ => c = 70 ∧ i = 0) σ τ → (∀ q, q < 10 → τ 70 0 q = if q < p then mAll 4 q else me D0.1 q) → WP kX13_init 402 [vR 14 0, vI (p : Int)] [] τ Q := by
    intro r
    have e0 : ∀ τ, FR (fun c i _ => c = 70 ∧ i = 0) σ τ → τ 14 0 14 = 4 := fun τ f => by rw [f 14 0 14 (fun z => by omega), a0]; rfl
    induction r with
    | zero =>
      intro p hp' τ f hm
      have g : ∀ c i j, ¬ (c = 70 ∧ i = 0) → τ c i j = σ c i j := f
      have ep : p = 4 := by omega
      subst ep
      refine b_kX13_402 ⟨fun _ => h τ f ⟨⟨by rw [g 14 0 14 (by omega)]; exact a0, by rw [g 14 0 15 (by omega)]; exact a1, by rw [g 14 0 16 (by omega)]; exact a2, by rw [g 14 0 18 (by omega)]; exact a3, by rw [g 14 0 19 (by omega)]; exact a4, by rw [g 14 0 20 (by omega)]; exact a5, by rw [g 14 0 21 (by omega)]; exact a6, by rw [g 14 0 22 (by omega)]; exact a7, by rw [g 14 0 23 (by omega)]; exact a8⟩, fun j hj => by rw [g 68 0 j (by omega)]; exact b1 j hj, fun j hj => by rw [g 74 0 j (by omega)]; exact b2 j hj, fun j hj => ?_, fun j hj => by rw [g 72 0 j (by omega)]; exact b4 j hj, fun j hj => by rw [g 75 0 j (by omega)]; exact b5 j hj, fun j hj => by rw [g 76 0 j (by omega)]; exact b6 j hj⟩, fun z => by rw [e0 τ f] at z; omega⟩
      rw [hm j hj]
      show _ = if (0 : Int) = 1 then me D0.1 j else if (j : Int) < 4 then mAll 4 (j : Int) else me D0.1 j
      rw [if_neg (show ¬ (0 : Int) = 1 by decide)]
      by_cases q : j < 4
      · rw [if_pos q, if_pos (by omega)]
      · rw [if_neg q, if_neg (by omega)]
    | succ r ih =>
      intro p hp' τ f hm
      refine b_kX13_402 ?_
      rw [e0 τ f, Int.toNat_natCast]
      refine ⟨fun z => by omega, fun _ => ⟨by rw [hs]; unfold in32; decide, ⟨by omega, by omega⟩, by unfold in32; omega, ih (p + 1) (by omega) _ (f.u ⟨rfl, rfl⟩) (fun q hq => ?_)⟩⟩
      by_cases e : q = p
      · rw [e, up_s, if_pos (by omega)]; rfl
      · rw [up_j e, hm q hq]
        by_cases e3 : q < p
        · rw [if_pos e3, if_pos (by omega)]
        · rw [if_neg e3, if_neg (by omega)]
  exact key 4 0 (by omega) σ FR.rf (fun q hq => by rw [if_neg (by omega)]; exact b3 q hq)
def mdP (c i j : Nat) : Prop := i = 0 ∧ ((c = 14 ∧ ((10 ≤ j ∧ j ≤ 18) ∨ (18 ≤ j ∧ j ≤ 23) ∨ j = 37)) ∨ (67 ≤ c ∧ c ≤ 77))
theorem w_X13 {σ : St} {Q : Res → St → Prop} (h35 : σ 14 0 35 = -1) (h36 : σ 14 0 36 = 0) (h : ∀ τ, FR mdP σ τ → MT τ (mV D0) → τ 14 0 12 = an (mV D0) → τ 14 0 13 = 0 → τ 14 0 37 = 0 → Q (.inl none) τ) : WP kX13_init 396 [vR 14 0, vU] [] σ Q := by
  refine wp_aload_n dX13_init_396 rfl rfl ?_
  refine wp_invV (N := mX13_plain) [] dX13_init_397 ml_CustomValleyModel_176 mvX13_plain rfl rfl rfl rfl rfl (Nat.le_of_ble_eq_true rfl) (Nat.le_of_ble_eq_true rfl) (by decide) (by decide) (by decide) ?_
  refine d_plain (fun τ f1 hD1 => ?_)
  show WP kX13_init 400 [vR 14 0, vU] [] τ Q
  refine wp_iconst dX13_init_400 rfl ?_
  refine wp_istore_n dX13_init_401 rfl (by decide) rfl rfl ?_
  refine d_initAll hD1 (fun υ f2 hD2 => ?_)
  refine wp_aload_n dX13_init_436 rfl rfl ?_
  refine wp_iconst dX13_init_437 rfl ?_
  refine wp_invV (N := mX13_takeValley) [vI 0] dX13_init_438 ml_CustomValleyModel_315 mvX13_takeValley rfl rfl rfl rfl rfl (Nat.le_of_ble_eq_true rfl) (Nat.le_of_ble_eq_true rfl) (by decide) (by decide) (by decide) ?_
  refine d_take hD2 (vok_mV dok0) (fun j hj => dok0.2.2.2.2.2.1 j hj) ?_ ?_ (fun ω f3 hM m12 m13 m37 => ?_)
  · rw [f2 14 0 35 (by omega), f1 14 0 35 (by unfold plP; omega)]; exact h35
  · rw [f2 14 0 36 (by omega), f1 14 0 36 (by unfold plP; omega), h36]; omega
  · show WP kX13_init 441 [vR 14 0, vI 4] [] ω Q
    exact wp_ret dX13_init_441 rfl (h ω (((f1.wk (fun c i j z => by unfold plP at z; unfold mdP; omega)).tr (f2.wk (fun c i j z => by unfold mdP; omega))).tr (f3.wk (fun c i j z => by unfold tkP at z; unfold mdP; omega))) hM m12 m13 m37)
def PMD (τ : St) : Prop := MT τ (mV D0) ∧ τ 14 0 12 = an (mV D0) ∧ τ 14 0 13 = 0 ∧ τ 14 0 37 = 0 ∧ τ 14 0 35 = -1 ∧ τ 14 0 9 = -1 ∧ (∀ k ∈ [2, 8, 55, 62, 71, 76, 81, 83, 84, 85], τ 14 0 k = 0) ∧ ∀ j, τ 66 0 j = 0
def LnX13 : List (Nat × Nat) := [(13, 0), (66, 0), (67, 0), (68, 0), (69, 0), (70, 0), (71, 0), (72, 0), (73, 0), (74, 0), (75, 0), (76, 0), (77, 0), (78, 0), (79, 0), (80, 0), (81, 0), (82, 0), (83, 0), (84, 0), (85, 0), (86, 0), (87, 0), (88, 0), (89, 0), (90, 0), (91, 0), (92, 0), (93, 0), (94, 0), (95, 0), (96, 0), (97, 0), (98, 0), (99, 0), (100, 0), (101, 0), (102, 0), (103, 0), (104, 0), (105, 0), (106, 0), (107, 0), (108, 0), (109, 0)]
theorem cd_X13 {G : GG} : CD (gRe G ((14, 0) :: LnX13)) := cd_of (by decide +kernel)
theorem k_X13 {l : Launch} {G : GG} {σ : St} {sz : Nat} (hR : RO σ) (hz : ZL σ ((14, 0) :: LnX13)) (hg : HG G sz LnX13) (hS : ∀ k, G.2.2.2.2.1 k = dS k) : KM l kX13_init G σ 14 0 13 sz [] ((14, 0) :: LnX13) 45 37412 PMD := by
  refine met_B (by decide +kernel) rfl rfl hR (Nat.le_of_ble_eq_true rfl) ?_
  intro p e s mid below meth c Z hB hsz hend H locs ls hD hl
  subst hsz
  have hl : lv_has ls 2 [(0, .ref (G.2.2.1 14 0))] := hl
  refine wb_obj0 hB dX13_init_0 dX13_init_1 (tb_6 74 rfl rfl) (by decide) hl ?_
  refine wb_new (c1 := 13) (i1 := 0) (ci1 := 12) (ty0 := tyX12) (cl1 := 1) (sl1 := 6) (pc3 := 9) hB dX13_init_4 dX13_init_5 dX13_init_8 rfl (tb_6 75 rfl rfl) (tb_6 76 rfl rfl) (tb_1 19 rfl rfl) tyX12_ok rfl (dfX12 0) (hz (13, 0) (by decide +kernel)) rfl rfl rfl (Nat.le_of_ble_eq_true rfl) (Nat.le_of_ble_eq_true rfl) (hg 0 _ rfl) hD hl (fun H locs hD => ?_)
  refine wb_call (N := kX12_init) (vs := []) (nn := 0) (Lc := [(13, 0)]) (cl1 := 1) (sl1 := 6) (pc3 := 12) hB dX13_init_9 (Or.inl (tb_6 112 rfl rfl)) moX12_init (tb_6 113 rfl rfl) rfl rfl (by decide) (k_X12 hD.2.2.2.1 hS) rfl (by decide +kernel) (by decide +kernel) rfl rfl rfl (Nat.le_of_ble_eq_true rfl) (Nat.le_of_ble_eq_true rfl) hl.1 ⟨(13, 0), by decide +kernel, congrArg (fun x => x + 1) (hg 0 _ rfl)⟩ hD (fun τ1 H locs hf1 hp1 hD => ?_)
  rw [hp1] at hD
  refine wb_put (c0 := 14) (i0 := 0) (σ' := σ) (ds' := 0 :: []) hB dX13_init_12 fbX13_13 rfl rfl (fvB_k (c := 14) (i := 0) (k := 0) (q := (13, 0)) (by decide) rfl) (fun j hj => fvB_o hj) (fun _ _ _ => rfl) hD.2.2.2.1 hD (fun H locs hD => ?_)
  refine wb_arr (q := (66, 0)) (v := 700) (na := 700) (cl1 := 2) (sl1 := 706) (pc3 := 24) hB dX13_init_15 (fun H locs rest k => lv_sipush hB.1.1 hB.1.2.1 dX13_init_16 (by decide) k) dX13_init_19 dX13_init_21 fbX13_20 (by decide) rfl rfl rfl ac_byte rfl rfl rfl rfl rfl (by decide) (by decide) (Nat.le_of_ble_eq_true rfl) (Nat.le_of_ble_eq_true rfl) (Nat.le_of_ble_eq_true rfl) (hz (66, 0) (by decide +kernel)) (hg 1 _ rfl) (fun a => ⟨rfl, rfl⟩) hD hl (fun H locs hD => ?_)
  refine lv_aload_n hB.1.1 hB.1.2.1 dX13_init_24 rfl (lv_at hl 0 rfl) ?_
  refine lv_iconst (v := -1) hB.1.1 hB.1.2.1 dX13_init_25 (by decide) ?_
  refine wb_put (c0 := 14) (i0 := 0) (v := .int (-1)) (σ' := up σ 14 0 9 (-1)) (ds' := [1, 0]) hB dX13_init_26 fbX13_10 rfl rfl (fvB_i (c := 14) (i := 0) (k := 9) (x := -1) (by decide) rfl rfl) (fun j hj => fvB_j hj) (fun q hq j => up_ne (fun z => absurd (z ▸ hq) (by decide +kernel))) (RO.up hD.2.2.2.1 ⟨by decide, by decide⟩ (fun _ => ⟨by decide, by decide⟩)) hD (fun H locs hD => ?_)
  have hz2 : ZL (up σ 14 0 9 (-1)) [(67, 0), (68, 0), (69, 0), (70, 0), (71, 0), (72, 0), (73, 0), (74, 0), (75, 0), (76, 0), (77, 0), (78, 0), (79, 0), (80, 0), (81, 0), (82, 0), (83, 0), (84, 0), (85, 0), (86, 0), (87, 0), (88, 0), (89, 0), (90, 0), (91, 0), (92, 0), (93, 0), (94, 0), (95, 0), (96, 0), (97, 0), (98, 0), (99, 0), (100, 0), (101, 0), (102, 0), (103, 0), (104, 0), (105, 0), (106, 0), (107, 0), (108, 0), (109, 0)] := fun q hq j => (up_ne (fun z => absurd (z ▸ hq) (by decide +kernel))).trans ((hz.sub (K := [(67, 0), (68, 0), (69, 0), (70, 0), (71, 0), (72, 0), (73, 0), (74, 0), (75, 0), (76, 0), (77, 0), (78, 0), (79, 0), (80, 0), (81, 0), (82, 0), (83, 0), (84, 0), (85, 0), (86, 0), (87, 0), (88, 0), (89, 0), (90, 0), (91, 0), (92, 0), (93, 0), (94, 0), (95, 0), (96, 0), (97, 0), (98, 0), (99, 0), (100, 0), (101, 0), (102, 0), (103, 0), (104, 0), (105, 0), (106, 0), (107, 0), (108, 0), (109, 0)]) (by decide +kernel)) q hq j)
  refine wb_arr (q := (67, 0)) (v := 16) (na := 16) (cl1 := 3) (sl1 := 722) (pc3 := 37) hB dX13_init_29 (fun H locs rest k => lv_bipush hB.1.1 hB.1.2.1 dX13_init_30 (by decide) k) dX13_init_32 dX13_init_34 fbX13_193 (by decide) rfl rfl rfl ac_int rfl rfl rfl rfl rfl (by decide) (by decide) (Nat.le_of_ble_eq_true rfl) (Nat.le_of_ble_eq_true rfl) (Nat.le_of_ble_eq_true rfl) (hz2 (67, 0) (by decide +kernel)) (hg 2 _ rfl) (fun a => ⟨rfl, rfl⟩) hD hl (fun H locs hD => ?_)
  refine wb_arr (q := (68, 0)) (v := 16) (na := 16) (cl1 := 4) (sl1 := 738) (pc3 := 45) hB dX13_init_37 (fun H locs rest k => lv_bipush hB.1.1 hB.1.2.1 dX13_init_38 (by decide) k) dX13_init_40 dX13_init_42 fbX13_104 (by decide) rfl rfl rfl ac_int rfl rfl rfl rfl rfl (by decide) (by decide) (Nat.le_of_ble_eq_true rfl) (Nat.le_of_ble_eq_true rfl) (Nat.le_of_ble_eq_true rfl) (hz2 (68, 0) (by decide +kernel)) (hg 3 _ rfl) (fun a => ⟨rfl, rfl⟩) hD hl (fun H locs hD => ?_)
  refine wb_arr (q := (69, 0)) (v := 10) (na := 10) (cl1 := 5) (sl1 := 748) (pc3 := 53) hB dX13_init_45 (fun H locs rest k => lv_bipush hB.1.1 hB.1.2.1 dX13_init_46 (by decide) k) dX13_init_48 dX13_init_50 fbX13_196 (by decide) rfl rfl rfl ac_int rfl rfl rfl rfl rfl (by decide) (by decide) (Nat.le_of_ble_eq_true rfl) (Nat.le_of_ble_eq_true rfl) (Nat.le_of_ble_eq_true rfl) (hz2 (69, 0) (by decide +kernel)) (hg 4 _ rfl) (fun a => ⟨rfl, rfl⟩) hD hl (fun H locs hD => ?_)
  refine wb_arr (q := (70, 0)) (v := 10) (na := 10) (cl1 := 6) (sl1 := 758) (pc3 := 61) hB dX13_init_53 (fun H locs rest k => lv_bipush hB.1.1 hB.1.2.1 dX13_init_54 (by decide) k) dX13_init_56 dX13_init_58 fbX13_118 (by decide) rfl rfl rfl ac_int rfl rfl rfl rfl rfl (by decide) (by decide) (Nat.le_of_ble_eq_true rfl) (Nat.le_of_ble_eq_true rfl) (Nat.le_of_ble_eq_true rfl) (hz2 (70, 0) (by decide +kernel)) (hg 5 _ rfl) (fun a => ⟨rfl, rfl⟩) hD hl (fun H locs hD => ?_)
  refine wb_arr (q := (71, 0)) (v := 10) (na := 10) (cl1 := 7) (sl1 := 768) (pc3 := 69) hB dX13_init_61 (fun H locs rest k => lv_bipush hB.1.1 hB.1.2.1 dX13_init_62 (by decide) k) dX13_init_64 dX13_init_66 fbX13_198 (by decide) rfl rfl rfl ac_int rfl rfl rfl rfl rfl (by decide) (by decide) (Nat.le_of_ble_eq_true rfl) (Nat.le_of_ble_eq_true rfl) (Nat.le_of_ble_eq_true rfl) (hz2 (71, 0) (by decide +kernel)) (hg 6 _ rfl) (fun a => ⟨rfl, rfl⟩) hD hl (fun H locs hD => ?_)
  refine wb_arr (q := (72, 0)) (v := 10) (na := 10) (cl1 := 8) (sl1 := 778) (pc3 := 77) hB dX13_init_69 (fun H locs rest k => lv_bipush hB.1.1 hB.1.2.1 dX13_init_70 (by decide) k) dX13_init_72 dX13_init_74 fbX13_121 (by decide) rfl rfl rfl ac_int rfl rfl rfl rfl rfl (by decide) (by decide) (Nat.le_of_ble_eq_true rfl) (Nat.le_of_ble_eq_true rfl) (Nat.le_of_ble_eq_true rfl) (hz2 (72, 0) (by decide +kernel)) (hg 7 _ rfl) (fun a => ⟨rfl, rfl⟩) hD hl (fun H locs hD => ?_)
  refine wb_arr (q := (73, 0)) (v := 4) (na := 4) (cl1 := 9) (sl1 := 782) (pc3 := 84) hB dX13_init_77 (fun H locs rest k => lv_iconst hB.1.1 hB.1.2.1 dX13_init_78 (by decide) k) dX13_init_79 dX13_init_81 fbX13_200 (by decide) rfl rfl rfl ac_int rfl rfl rfl rfl rfl (by decide) (by decide) (Nat.le_of_ble_eq_true rfl) (Nat.le_of_ble_eq_true rfl) (Nat.le_of_ble_eq_true rfl) (hz2 (73, 0) (by decide +kernel)) (hg 8 _ rfl) (fun a => ⟨rfl, rfl⟩) hD hl (fun H locs hD => ?_)
  refine wb_arr (q := (74, 0)) (v := 4) (na := 4) (cl1 := 10) (sl1 := 786) (pc3 := 91) hB dX13_init_84 (fun H locs rest k => lv_iconst hB.1.1 hB.1.2.1 dX13_init_85 (by decide) k) dX13_init_86 dX13_init_88 fbX13_112 (by decide) rfl rfl rfl ac_int rfl rfl rfl rfl rfl (by decide) (by decide) (Nat.le_of_ble_eq_true rfl) (Nat.le_of_ble_eq_true rfl) (Nat.le_of_ble_eq_true rfl) (hz2 (74, 0) (by decide +kernel)) (hg 9 _ rfl) (fun a => ⟨rfl, rfl⟩) hD hl (fun H locs hD => ?_)
  refine wb_arr (q := (75, 0)) (v := 16) (na := 16) (cl1 := 11) (sl1 := 802) (pc3 := 99) hB dX13_init_91 (fun H locs rest k => lv_bipush hB.1.1 hB.1.2.1 dX13_init_92 (by decide) k) dX13_init_94 dX13_init_96 fbX13_108 (by decide) rfl rfl rfl ac_boolean rfl rfl rfl rfl rfl (by decide) (by decide) (Nat.le_of_ble_eq_true rfl) (Nat.le_of_ble_eq_true rfl) (Nat.le_of_ble_eq_true rfl) (hz2 (75, 0) (by decide +kernel)) (hg 10 _ rfl) (fun a => ⟨rfl, rfl⟩) hD hl (fun H locs hD => ?_)
  refine wb_arr (q := (76, 0)) (v := 4) (na := 4) (cl1 := 12) (sl1 := 806) (pc3 := 106) hB dX13_init_99 (fun H locs rest k => lv_iconst hB.1.1 hB.1.2.1 dX13_init_100 (by decide) k) dX13_init_101 dX13_init_103 fbX13_115 (by decide) rfl rfl rfl ac_boolean rfl rfl rfl rfl rfl (by decide) (by decide) (Nat.le_of_ble_eq_true rfl) (Nat.le_of_ble_eq_true rfl) (Nat.le_of_ble_eq_true rfl) (hz2 (76, 0) (by decide +kernel)) (hg 11 _ rfl) (fun a => ⟨rfl, rfl⟩) hD hl (fun H locs hD => ?_)
  refine wb_arr (q := (77, 0)) (v := 11) (na := 11) (cl1 := 13) (sl1 := 817) (pc3 := 114) hB dX13_init_106 (fun H locs rest k => lv_bipush hB.1.1 hB.1.2.1 dX13_init_107 (by decide) k) dX13_init_109 dX13_init_111 fbX13_202 (by decide) rfl rfl rfl ac_int rfl rfl rfl rfl rfl (by decide) (by decide) (Nat.le_of_ble_eq_true rfl) (Nat.le_of_ble_eq_true rfl) (Nat.le_of_ble_eq_true rfl) (hz2 (77, 0) (by decide +kernel)) (hg 12 _ rfl) (fun a => ⟨rfl, rfl⟩) hD hl (fun H locs hD => ?_)
  refine lv_aload_n hB.1.1 hB.1.2.1 dX13_init_114 rfl (lv_at hl 0 rfl) ?_
  refine lv_iconst (v := -1) hB.1.1 hB.1.2.1 dX13_init_115 (by decide) ?_
  refine wb_put (c0 := 14) (i0 := 0) (v := .int (-1)) (σ' := up (up σ 14 0 9 (-1)) 14 0 35 (-1)) (ds' := [34, 33, 32, 31, 30, 29, 28, 27, 26, 25, 24, 1, 0]) hB dX13_init_116 fbX13_216 rfl rfl (fvB_i (c := 14) (i := 0) (k := 35) (x := -1) (by decide) rfl rfl) (fun j hj => fvB_j hj) (fun q hq j => up_ne (fun z => absurd (z ▸ hq) (by decide +kernel))) (RO.up hD.2.2.2.1 ⟨by decide, by decide⟩ (fun _ => ⟨by decide, by decide⟩)) hD (fun H locs hD => ?_)
  have hz3 : ZL (up (up σ 14 0 9 (-1)) 14 0 35 (-1)) [(78, 0), (79, 0), (80, 0), (81, 0), (82, 0), (83, 0), (84, 0), (85, 0), (86, 0), (87, 0), (88, 0), (89, 0), (90, 0), (91, 0), (92, 0), (93, 0), (94, 0), (95, 0), (96, 0), (97, 0), (98, 0), (99, 0), (100, 0), (101, 0), (102, 0), (103, 0), (104, 0), (105, 0), (106, 0), (107, 0), (108, 0), (109, 0)] := fun q hq j => (up_ne (fun z => absurd (z ▸ hq) (by decide +kernel))).trans ((hz2.sub (K := [(78, 0), (79, 0), (80, 0), (81, 0), (82, 0), (83, 0), (84, 0), (85, 0), (86, 0), (87, 0), (88, 0), (89, 0), (90, 0), (91, 0), (92, 0), (93, 0), (94, 0), (95, 0), (96, 0), (97, 0), (98, 0), (99, 0), (100, 0), (101, 0), (102, 0), (103, 0), (104, 0), (105, 0), (106, 0), (107, 0), (108, 0), (109, 0)]) (by decide +kernel)) q hq j)
  refine wb_arr (q := (78, 0)) (v := 10240) (na := 10240) (cl1 := 14) (sl1 := 11057) (pc3 := 128) hB dX13_init_119 (fun H locs rest k => lv_sipush hB.1.1 hB.1.2.1 dX13_init_120 (by decide) k) dX13_init_123 dX13_init_125 fbX13_219 (by decide) rfl rfl rfl ac_byte rfl rfl rfl rfl rfl (by decide) (by decide) (Nat.le_of_ble_eq_true rfl) (Nat.le_of_ble_eq_true rfl) (Nat.le_of_ble_eq_true rfl) (hz3 (78, 0) (by decide +kernel)) (hg 13 _ rfl) (fun a => ⟨rfl, rfl⟩) hD hl (fun H locs hD => ?_)
  refine wb_arr (q := (79, 0)) (v := 1024) (na := 1024) (cl1 := 15) (sl1 := 12081) (pc3 := 137) hB dX13_init_128 (fun H locs rest k => lv_sipush hB.1.1 hB.1.2.1 dX13_init_129 (by decide) k) dX13_init_132 dX13_init_134 fbX13_222 (by decide) rfl rfl rfl ac_int rfl rfl rfl rfl rfl (by decide) (by decide) (Nat.le_of_ble_eq_true rfl) (Nat.le_of_ble_eq_true rfl) (Nat.le_of_ble_eq_true rfl) (hz3 (79, 0) (by decide +kernel)) (hg 14 _ rfl) (fun a => ⟨rfl, rfl⟩) hD hl (fun H locs hD => ?_)
  refine wb_arr (q := (80, 0)) (v := 1024) (na := 1024) (cl1 := 16) (sl1 := 13105) (pc3 := 146) hB dX13_init_137 (fun H locs rest k => lv_sipush hB.1.1 hB.1.2.1 dX13_init_138 (by decide) k) dX13_init_141 dX13_init_143 fbX13_225 (by decide) rfl rfl rfl ac_int rfl rfl rfl rfl rfl (by decide) (by decide) (Nat.le_of_ble_eq_true rfl) (Nat.le_of_ble_eq_true rfl) (Nat.le_of_ble_eq_true rfl) (hz3 (80, 0) (by decide +kernel)) (hg 15 _ rfl) (fun a => ⟨rfl, rfl⟩) hD hl (fun H locs hD => ?_)
  refine wb_arr (q := (81, 0)) (v := 1024) (na := 1024) (cl1 := 17) (sl1 := 14129) (pc3 := 155) hB dX13_init_146 (fun H locs rest k => lv_sipush hB.1.1 hB.1.2.1 dX13_init_147 (by decide) k) dX13_init_150 dX13_init_152 fbX13_228 (by decide) rfl rfl rfl ac_int rfl rfl rfl rfl rfl (by decide) (by decide) (Nat.le_of_ble_eq_true rfl) (Nat.le_of_ble_eq_true rfl) (Nat.le_of_ble_eq_true rfl) (hz3 (81, 0) (by decide +kernel)) (hg 16 _ rfl) (fun a => ⟨rfl, rfl⟩) hD hl (fun H locs hD => ?_)
  refine wb_arr (q := (82, 0)) (v := 1024) (na := 1024) (cl1 := 18) (sl1 := 15153) (pc3 := 164) hB dX13_init_155 (fun H locs rest k => lv_sipush hB.1.1 hB.1.2.1 dX13_init_156 (by decide) k) dX13_init_159 dX13_init_161 fbX13_231 (by decide) rfl rfl rfl ac_int rfl rfl rfl rfl rfl (by decide) (by decide) (Nat.le_of_ble_eq_true rfl) (Nat.le_of_ble_eq_true rfl) (Nat.le_of_ble_eq_true rfl) (hz3 (82, 0) (by decide +kernel)) (hg 17 _ rfl) (fun a => ⟨rfl, rfl⟩) hD hl (fun H locs hD => ?_)
  refine wb_arr (q := (83, 0)) (v := 1024) (na := 1024) (cl1 := 19) (sl1 := 16177) (pc3 := 173) hB dX13_init_164 (fun H locs rest k => lv_sipush hB.1.1 hB.1.2.1 dX13_init_165 (by decide) k) dX13_init_168 dX13_init_170 fbX13_234 (by decide) rfl rfl rfl ac_int rfl rfl rfl rfl rfl (by decide) (by decide) (Nat.le_of_ble_eq_true rfl) (Nat.le_of_ble_eq_true rfl) (Nat.le_of_ble_eq_true rfl) (hz3 (83, 0) (by decide +kernel)) (hg 18 _ rfl) (fun a => ⟨rfl, rfl⟩) hD hl (fun H locs hD => ?_)
  refine wb_arr (q := (84, 0)) (v := 1024) (na := 1024) (cl1 := 20) (sl1 := 17201) (pc3 := 182) hB dX13_init_173 (fun H locs rest k => lv_sipush hB.1.1 hB.1.2.1 dX13_init_174 (by decide) k) dX13_init_177 dX13_init_179 fbX13_237 (by decide) rfl rfl rfl ac_int rfl rfl rfl rfl rfl (by decide) (by decide) (Nat.le_of_ble_eq_true rfl) (Nat.le_of_ble_eq_true rfl) (Nat.le_of_ble_eq_true rfl) (hz3 (84, 0) (by decide +kernel)) (hg 19 _ rfl) (fun a => ⟨rfl, rfl⟩) hD hl (fun H locs hD => ?_)
  refine wb_arr (q := (85, 0)) (v := 1024) (na := 1024) (cl1 := 21) (sl1 := 18225) (pc3 := 191) hB dX13_init_182 (fun H locs rest k => lv_sipush hB.1.1 hB.1.2.1 dX13_init_183 (by decide) k) dX13_init_186 dX13_init_188 fbX13_240 (by decide) rfl rfl rfl ac_int rfl rfl rfl rfl rfl (by decide) (by decide) (Nat.le_of_ble_eq_true rfl) (Nat.le_of_ble_eq_true rfl) (Nat.le_of_ble_eq_true rfl) (hz3 (85, 0) (by decide +kernel)) (hg 20 _ rfl) (fun a => ⟨rfl, rfl⟩) hD hl (fun H locs hD => ?_)
  refine wb_arr (q := (86, 0)) (v := 1024) (na := 1024) (cl1 := 22) (sl1 := 19249) (pc3 := 200) hB dX13_init_191 (fun H locs rest k => lv_sipush hB.1.1 hB.1.2.1 dX13_init_192 (by decide) k) dX13_init_195 dX13_init_197 fbX13_243 (by decide) rfl rfl rfl ac_int rfl rfl rfl rfl rfl (by decide) (by decide) (Nat.le_of_ble_eq_true rfl) (Nat.le_of_ble_eq_true rfl) (Nat.le_of_ble_eq_true rfl) (hz3 (86, 0) (by decide +kernel)) (hg 21 _ rfl) (fun a => ⟨rfl, rfl⟩) hD hl (fun H locs hD => ?_)
  refine wb_arr (q := (87, 0)) (v := 1024) (na := 1024) (cl1 := 23) (sl1 := 20273) (pc3 := 209) hB dX13_init_200 (fun H locs rest k => lv_sipush hB.1.1 hB.1.2.1 dX13_init_201 (by decide) k) dX13_init_204 dX13_init_206 fbX13_246 (by decide) rfl rfl rfl ac_int rfl rfl rfl rfl rfl (by decide) (by decide) (Nat.le_of_ble_eq_true rfl) (Nat.le_of_ble_eq_true rfl) (Nat.le_of_ble_eq_true rfl) (hz3 (87, 0) (by decide +kernel)) (hg 22 _ rfl) (fun a => ⟨rfl, rfl⟩) hD hl (fun H locs hD => ?_)
  refine wb_arr (q := (88, 0)) (v := 1024) (na := 1024) (cl1 := 24) (sl1 := 21297) (pc3 := 218) hB dX13_init_209 (fun H locs rest k => lv_sipush hB.1.1 hB.1.2.1 dX13_init_210 (by decide) k) dX13_init_213 dX13_init_215 fbX13_249 (by decide) rfl rfl rfl ac_boolean rfl rfl rfl rfl rfl (by decide) (by decide) (Nat.le_of_ble_eq_true rfl) (Nat.le_of_ble_eq_true rfl) (Nat.le_of_ble_eq_true rfl) (hz3 (88, 0) (by decide +kernel)) (hg 23 _ rfl) (fun a => ⟨rfl, rfl⟩) hD hl (fun H locs hD => ?_)
  refine wb_arr (q := (89, 0)) (v := 1024) (na := 1024) (cl1 := 25) (sl1 := 22321) (pc3 := 227) hB dX13_init_218 (fun H locs rest k => lv_sipush hB.1.1 hB.1.2.1 dX13_init_219 (by decide) k) dX13_init_222 dX13_init_224 fbX13_252 (by decide) rfl rfl rfl ac_boolean rfl rfl rfl rfl rfl (by decide) (by decide) (Nat.le_of_ble_eq_true rfl) (Nat.le_of_ble_eq_true rfl) (Nat.le_of_ble_eq_true rfl) (hz3 (89, 0) (by decide +kernel)) (hg 24 _ rfl) (fun a => ⟨rfl, rfl⟩) hD hl (fun H locs hD => ?_)
  refine wb_arr (q := (90, 0)) (v := 1024) (na := 1024) (cl1 := 26) (sl1 := 23345) (pc3 := 236) hB dX13_init_227 (fun H locs rest k => lv_sipush hB.1.1 hB.1.2.1 dX13_init_228 (by decide) k) dX13_init_231 dX13_init_233 fbX13_255 (by decide) rfl rfl rfl ac_int rfl rfl rfl rfl rfl (by decide) (by decide) (Nat.le_of_ble_eq_true rfl) (Nat.le_of_ble_eq_true rfl) (Nat.le_of_ble_eq_true rfl) (hz3 (90, 0) (by decide +kernel)) (hg 25 _ rfl) (fun a => ⟨rfl, rfl⟩) hD hl (fun H locs hD => ?_)
  refine wb_arr (q := (91, 0)) (v := 1025) (na := 1025) (cl1 := 27) (sl1 := 24370) (pc3 := 245) hB dX13_init_236 (fun H locs rest k => lv_sipush hB.1.1 hB.1.2.1 dX13_init_237 (by decide) k) dX13_init_240 dX13_init_242 fbX13_258 (by decide) rfl rfl rfl ac_int rfl rfl rfl rfl rfl (by decide) (by decide) (Nat.le_of_ble_eq_true rfl) (Nat.le_of_ble_eq_true rfl) (Nat.le_of_ble_eq_true rfl) (hz3 (91, 0) (by decide +kernel)) (hg 26 _ rfl) (fun a => ⟨rfl, rfl⟩) hD hl (fun H locs hD => ?_)
  refine wb_arr (q := (92, 0)) (v := 144) (na := 144) (cl1 := 28) (sl1 := 24514) (pc3 := 254) hB dX13_init_245 (fun H locs rest k => lv_sipush hB.1.1 hB.1.2.1 dX13_init_246 (by decide) k) dX13_init_249 dX13_init_251 fbX13_261 (by decide) rfl rfl rfl ac_int rfl rfl rfl rfl rfl (by decide) (by decide) (Nat.le_of_ble_eq_true rfl) (Nat.le_of_ble_eq_true rfl) (Nat.le_of_ble_eq_true rfl) (hz3 (92, 0) (by decide +kernel)) (hg 27 _ rfl) (fun a => ⟨rfl, rfl⟩) hD hl (fun H locs hD => ?_)
  refine wb_arr (q := (93, 0)) (v := 144) (na := 144) (cl1 := 29) (sl1 := 24658) (pc3 := 263) hB dX13_init_254 (fun H locs rest k => lv_sipush hB.1.1 hB.1.2.1 dX13_init_255 (by decide) k) dX13_init_258 dX13_init_260 fbX13_264 (by decide) rfl rfl rfl ac_int rfl rfl rfl rfl rfl (by decide) (by decide) (Nat.le_of_ble_eq_true rfl) (Nat.le_of_ble_eq_true rfl) (Nat.le_of_ble_eq_true rfl) (hz3 (93, 0) (by decide +kernel)) (hg 28 _ rfl) (fun a => ⟨rfl, rfl⟩) hD hl (fun H locs hD => ?_)
  refine wb_arr (q := (94, 0)) (v := 144) (na := 144) (cl1 := 30) (sl1 := 24802) (pc3 := 272) hB dX13_init_263 (fun H locs rest k => lv_sipush hB.1.1 hB.1.2.1 dX13_init_264 (by decide) k) dX13_init_267 dX13_init_269 fbX13_267 (by decide) rfl rfl rfl ac_int rfl rfl rfl rfl rfl (by decide) (by decide) (Nat.le_of_ble_eq_true rfl) (Nat.le_of_ble_eq_true rfl) (Nat.le_of_ble_eq_true rfl) (hz3 (94, 0) (by decide +kernel)) (hg 29 _ rfl) (fun a => ⟨rfl, rfl⟩) hD hl (fun H locs hD => ?_)
  refine wb_arr (q := (95, 0)) (v := 12) (na := 12) (cl1 := 31) (sl1 := 24814) (pc3 := 280) hB dX13_init_272 (fun H locs rest k => lv_bipush hB.1.1 hB.1.2.1 dX13_init_273 (by decide) k) dX13_init_275 dX13_init_277 fbX13_270 (by decide) rfl rfl rfl ac_int rfl rfl rfl rfl rfl (by decide) (by decide) (Nat.le_of_ble_eq_true rfl) (Nat.le_of_ble_eq_true rfl) (Nat.le_of_ble_eq_true rfl) (hz3 (95, 0) (by decide +kernel)) (hg 30 _ rfl) (fun a => ⟨rfl, rfl⟩) hD hl (fun H locs hD => ?_)
  refine wb_arr (q := (96, 0)) (v := 12) (na := 12) (cl1 := 32) (sl1 := 24826) (pc3 := 288) hB dX13_init_280 (fun H locs rest k => lv_bipush hB.1.1 hB.1.2.1 dX13_init_281 (by decide) k) dX13_init_283 dX13_init_285 fbX13_273 (by decide) rfl rfl rfl ac_int rfl rfl rfl rfl rfl (by decide) (by decide) (Nat.le_of_ble_eq_true rfl) (Nat.le_of_ble_eq_true rfl) (Nat.le_of_ble_eq_true rfl) (hz3 (96, 0) (by decide +kernel)) (hg 31 _ rfl) (fun a => ⟨rfl, rfl⟩) hD hl (fun H locs hD => ?_)
  refine wb_arr (q := (97, 0)) (v := 12) (na := 12) (cl1 := 33) (sl1 := 24838) (pc3 := 296) hB dX13_init_288 (fun H locs rest k => lv_bipush hB.1.1 hB.1.2.1 dX13_init_289 (by decide) k) dX13_init_291 dX13_init_293 fbX13_276 (by decide) rfl rfl rfl ac_int rfl rfl rfl rfl rfl (by decide) (by decide) (Nat.le_of_ble_eq_true rfl) (Nat.le_of_ble_eq_true rfl) (Nat.le_of_ble_eq_true rfl) (hz3 (97, 0) (by decide +kernel)) (hg 32 _ rfl) (fun a => ⟨rfl, rfl⟩) hD hl (fun H locs hD => ?_)
  refine wb_arr (q := (98, 0)) (v := 144) (na := 144) (cl1 := 34) (sl1 := 24982) (pc3 := 305) hB dX13_init_296 (fun H locs rest k => lv_sipush hB.1.1 hB.1.2.1 dX13_init_297 (by decide) k) dX13_init_300 dX13_init_302 fbX13_279 (by decide) rfl rfl rfl ac_int rfl rfl rfl rfl rfl (by decide) (by decide) (Nat.le_of_ble_eq_true rfl) (Nat.le_of_ble_eq_true rfl) (Nat.le_of_ble_eq_true rfl) (hz3 (98, 0) (by decide +kernel)) (hg 33 _ rfl) (fun a => ⟨rfl, rfl⟩) hD hl (fun H locs hD => ?_)
  refine wb_arr (q := (99, 0)) (v := 12) (na := 12) (cl1 := 35) (sl1 := 24994) (pc3 := 313) hB dX13_init_305 (fun H locs rest k => lv_bipush hB.1.1 hB.1.2.1 dX13_init_306 (by decide) k) dX13_init_308 dX13_init_310 fbX13_282 (by decide) rfl rfl rfl ac_int rfl rfl rfl rfl rfl (by decide) (by decide) (Nat.le_of_ble_eq_true rfl) (Nat.le_of_ble_eq_true rfl) (Nat.le_of_ble_eq_true rfl) (hz3 (99, 0) (by decide +kernel)) (hg 34 _ rfl) (fun a => ⟨rfl, rfl⟩) hD hl (fun H locs hD => ?_)
  refine wb_arr (q := (100, 0)) (v := 10240) (na := 10240) (cl1 := 36) (sl1 := 35234) (pc3 := 322) hB dX13_init_313 (fun H locs rest k => lv_sipush hB.1.1 hB.1.2.1 dX13_init_314 (by decide) k) dX13_init_317 dX13_init_319 fbX13_285 (by decide) rfl rfl rfl ac_byte rfl rfl rfl rfl rfl (by decide) (by decide) (Nat.le_of_ble_eq_true rfl) (Nat.le_of_ble_eq_true rfl) (Nat.le_of_ble_eq_true rfl) (hz3 (100, 0) (by decide +kernel)) (hg 35 _ rfl) (fun a => ⟨rfl, rfl⟩) hD hl (fun H locs hD => ?_)
  refine wb_arr (q := (101, 0)) (v := 1024) (na := 1024) (cl1 := 37) (sl1 := 36258) (pc3 := 331) hB dX13_init_322 (fun H locs rest k => lv_sipush hB.1.1 hB.1.2.1 dX13_init_323 (by decide) k) dX13_init_326 dX13_init_328 fbX13_288 (by decide) rfl rfl rfl ac_int rfl rfl rfl rfl rfl (by decide) (by decide) (Nat.le_of_ble_eq_true rfl) (Nat.le_of_ble_eq_true rfl) (Nat.le_of_ble_eq_true rfl) (hz3 (101, 0) (by decide +kernel)) (hg 36 _ rfl) (fun a => ⟨rfl, rfl⟩) hD hl (fun H locs hD => ?_)
  refine wb_arr (q := (102, 0)) (v := 1024) (na := 1024) (cl1 := 38) (sl1 := 37282) (pc3 := 340) hB dX13_init_331 (fun H locs rest k => lv_sipush hB.1.1 hB.1.2.1 dX13_init_332 (by decide) k) dX13_init_335 dX13_init_337 fbX13_291 (by decide) rfl rfl rfl ac_int rfl rfl rfl rfl rfl (by decide) (by decide) (Nat.le_of_ble_eq_true rfl) (Nat.le_of_ble_eq_true rfl) (Nat.le_of_ble_eq_true rfl) (hz3 (102, 0) (by decide +kernel)) (hg 37 _ rfl) (fun a => ⟨rfl, rfl⟩) hD hl (fun H locs hD => ?_)
  refine wb_arr (q := (103, 0)) (v := 10) (na := 10) (cl1 := 39) (sl1 := 37292) (pc3 := 348) hB dX13_init_340 (fun H locs rest k => lv_bipush hB.1.1 hB.1.2.1 dX13_init_341 (by decide) k) dX13_init_343 dX13_init_345 fbX13_294 (by decide) rfl rfl rfl ac_int rfl rfl rfl rfl rfl (by decide) (by decide) (Nat.le_of_ble_eq_true rfl) (Nat.le_of_ble_eq_true rfl) (Nat.le_of_ble_eq_true rfl) (hz3 (103, 0) (by decide +kernel)) (hg 38 _ rfl) (fun a => ⟨rfl, rfl⟩) hD hl (fun H locs hD => ?_)
  refine wb_arr (q := (104, 0)) (v := 20) (na := 20) (cl1 := 40) (sl1 := 37312) (pc3 := 356) hB dX13_init_348 (fun H locs rest k => lv_bipush hB.1.1 hB.1.2.1 dX13_init_349 (by decide) k) dX13_init_351 dX13_init_353 fbX13_297 (by decide) rfl rfl rfl ac_int rfl rfl rfl rfl rfl (by decide) (by decide) (Nat.le_of_ble_eq_true rfl) (Nat.le_of_ble_eq_true rfl) (Nat.le_of_ble_eq_true rfl) (hz3 (104, 0) (by decide +kernel)) (hg 39 _ rfl) (fun a => ⟨rfl, rfl⟩) hD hl (fun H locs hD => ?_)
  refine wb_arr (q := (105, 0)) (v := 20) (na := 20) (cl1 := 41) (sl1 := 37332) (pc3 := 364) hB dX13_init_356 (fun H locs rest k => lv_bipush hB.1.1 hB.1.2.1 dX13_init_357 (by decide) k) dX13_init_359 dX13_init_361 fbX13_300 (by decide) rfl rfl rfl ac_int rfl rfl rfl rfl rfl (by decide) (by decide) (Nat.le_of_ble_eq_true rfl) (Nat.le_of_ble_eq_true rfl) (Nat.le_of_ble_eq_true rfl) (hz3 (105, 0) (by decide +kernel)) (hg 40 _ rfl) (fun a => ⟨rfl, rfl⟩) hD hl (fun H locs hD => ?_)
  refine wb_arr (q := (106, 0)) (v := 20) (na := 20) (cl1 := 42) (sl1 := 37352) (pc3 := 372) hB dX13_init_364 (fun H locs rest k => lv_bipush hB.1.1 hB.1.2.1 dX13_init_365 (by decide) k) dX13_init_367 dX13_init_369 fbX13_303 (by decide) rfl rfl rfl ac_int rfl rfl rfl rfl rfl (by decide) (by decide) (Nat.le_of_ble_eq_true rfl) (Nat.le_of_ble_eq_true rfl) (Nat.le_of_ble_eq_true rfl) (hz3 (106, 0) (by decide +kernel)) (hg 41 _ rfl) (fun a => ⟨rfl, rfl⟩) hD hl (fun H locs hD => ?_)
  refine wb_arr (q := (107, 0)) (v := 20) (na := 20) (cl1 := 43) (sl1 := 37372) (pc3 := 380) hB dX13_init_372 (fun H locs rest k => lv_bipush hB.1.1 hB.1.2.1 dX13_init_373 (by decide) k) dX13_init_375 dX13_init_377 fbX13_306 (by decide) rfl rfl rfl ac_int rfl rfl rfl rfl rfl (by decide) (by decide) (Nat.le_of_ble_eq_true rfl) (Nat.le_of_ble_eq_true rfl) (Nat.le_of_ble_eq_true rfl) (hz3 (107, 0) (by decide +kernel)) (hg 42 _ rfl) (fun a => ⟨rfl, rfl⟩) hD hl (fun H locs hD => ?_)
  refine wb_arr (q := (108, 0)) (v := 20) (na := 20) (cl1 := 44) (sl1 := 37392) (pc3 := 388) hB dX13_init_380 (fun H locs rest k => lv_bipush hB.1.1 hB.1.2.1 dX13_init_381 (by decide) k) dX13_init_383 dX13_init_385 fbX13_309 (by decide) rfl rfl rfl ac_int rfl rfl rfl rfl rfl (by decide) (by decide) (Nat.le_of_ble_eq_true rfl) (Nat.le_of_ble_eq_true rfl) (Nat.le_of_ble_eq_true rfl) (hz3 (108, 0) (by decide +kernel)) (hg 43 _ rfl) (fun a => ⟨rfl, rfl⟩) hD hl (fun H locs hD => ?_)
  refine wb_arr (q := (109, 0)) (v := 20) (na := 20) (cl1 := 45) (sl1 := 37412) (pc3 := 396) hB dX13_init_388 (fun H locs rest k => lv_bipush hB.1.1 hB.1.2.1 dX13_init_389 (by decide) k) dX13_init_391 dX13_init_393 fbX13_312 (by decide) rfl rfl rfl ac_int rfl rfl rfl rfl rfl (by decide) (by decide) (Nat.le_of_ble_eq_true rfl) (Nat.le_of_ble_eq_true rfl) (Nat.le_of_ble_eq_true rfl) (hz3 (109, 0) (by decide +kernel)) (hg 44 _ rfl) (fun a => ⟨rfl, rfl⟩) hD hl (fun H locs hD => ?_)
  have z14 : ∀ j, j ≠ 9 → j ≠ 35 → (up (up σ 14 0 9 (-1)) 14 0 35 (-1)) 14 0 j = 0 := fun j h1 h2 => by rw [up_j h2, up_j h1]; exact hz (14, 0) (by decide +kernel) j
  have z66 : ∀ j, (up (up σ 14 0 9 (-1)) 14 0 35 (-1)) 66 0 j = 0 := fun j => by rw [up_c (by decide), up_c (by decide)]; exact hz (66, 0) (by decide +kernel) j
  have y35 : (up (up σ 14 0 9 (-1)) 14 0 35 (-1)) 14 0 35 = -1 := up_s _ _ _ _ _
  have y9 : (up (up σ 14 0 9 (-1)) 14 0 35 (-1)) 14 0 9 = -1 := by rw [up_j (by decide)]; exact up_s _ _ _ _ _
  have F1 : FR (inL ((14, 0) :: LnX13)) σ (up (up σ 14 0 9 (-1)) 14 0 35 (-1)) := (FR.rf.u List.mem_cons_self).u List.mem_cons_self
  refine wb_wp (Qe := fun τ => FR (inL ((14, 0) :: LnX13)) σ τ ∧ PMD τ) (L := LnX13) (ds := [91, 90, 89, 88, 87, 86, 77, 70, 69, 68, 67, 66, 61, 60, 59, 58, 57, 56, 53, 52, 49, 48, 47, 46, 45, 44, 43, 42, 41, 40, 39, 38, 34, 33, 32, 31, 30, 29, 28, 27, 26, 25, 24, 1, 0]) 1 hB hD rfl (by decide) (by decide +kernel) cd_X13 (by decide) (Nat.le_refl _) (Nat.le_refl _) rfl hl (w_X13 y35 (z14 36 (by decide) (by decide)) (fun τ f g1 g2 g3 g4 => ⟨rfl, F1.tr (f.wk (fun c i j z => ?_)), ?_⟩)) (fun H locs ls pc τ h hW hd => hend H locs ls pc τ h.1 h.2 hW.2.2.2.1 hW.1 hW.2.1 hW.2.2.1 hd)
  · unfold mdP at z
    obtain ⟨rfl, z⟩ := z
    have : c = 14 ∨ c = 67 ∨ c = 68 ∨ c = 69 ∨ c = 70 ∨ c = 71 ∨ c = 72 ∨ c = 73 ∨ c = 74 ∨ c = 75 ∨ c = 76 ∨ c = 77 := by omega
    show (c, 0) ∈ (14, 0) :: LnX13
    rcases this with e | e | e | e | e | e | e | e | e | e | e | e <;> (subst e; decide +kernel)
  · refine ⟨g1, g2, g3, g4, (f 14 0 35 (by unfold mdP; omega)).trans y35, (f 14 0 9 (by unfold mdP; omega)).trans y9, fun k hk => ?_, fun j => (f 66 0 j (by unfold mdP; omega)).trans (z66 j)⟩
    simp only [List.mem_cons, List.not_mem_nil, or_false] at hk
    exact (f 14 0 k (by unfold mdP; omega)).trans (z14 k (by omega) (by omega))
