theorem dX12_init_0 : decode cX12_init 0 = .ok (.aload_n 0, 1) := by decide +kernel
theorem dX12_init_1 : decode cX12_init 1 = .ok (.invokespecial 3, 3) := by decide +kernel
theorem dX12_init_4 : decode cX12_init 4 = .ok (.aload_n 0, 1) := by decide +kernel
theorem dX12_init_5 : decode cX12_init 5 = .ok (.sipush 400, 3) := by decide +kernel
theorem dX12_init_8 : decode cX12_init 8 = .ok (.newarray .byte, 2) := by decide +kernel
theorem dX12_init_10 : decode cX12_init 10 = .ok (.putfield 9, 3) := by decide +kernel
theorem dX12_init_13 : decode cX12_init 13 = .ok (.aload_n 0, 1) := by decide +kernel
theorem dX12_init_14 : decode cX12_init 14 = .ok (.iconst (-1), 1) := by decide +kernel
theorem dX12_init_15 : decode cX12_init 15 = .ok (.putfield 13, 3) := by decide +kernel
theorem dX12_init_18 : decode cX12_init 18 = .ok (.aload_n 0, 1) := by decide +kernel
theorem dX12_init_19 : decode cX12_init 19 = .ok (.iconst 5, 1) := by decide +kernel
theorem dX12_init_20 : decode cX12_init 20 = .ok (.newarray .int, 2) := by decide +kernel
theorem dX12_init_22 : decode cX12_init 22 = .ok (.putfield 17, 3) := by decide +kernel
theorem dX12_init_25 : decode cX12_init 25 = .ok (.aload_n 0, 1) := by decide +kernel
theorem dX12_init_26 : decode cX12_init 26 = .ok (.bipush 13, 2) := by decide +kernel
theorem dX12_init_28 : decode cX12_init 28 = .ok (.newarray .int, 2) := by decide +kernel
theorem dX12_init_30 : decode cX12_init 30 = .ok (.putfield 21, 3) := by decide +kernel
theorem dX12_init_33 : decode cX12_init 33 = .ok (.aload_n 0, 1) := by decide +kernel
theorem dX12_init_34 : decode cX12_init 34 = .ok (.bipush 13, 2) := by decide +kernel
theorem dX12_init_36 : decode cX12_init 36 = .ok (.newarray .int, 2) := by decide +kernel
theorem dX12_init_38 : decode cX12_init 38 = .ok (.putfield 24, 3) := by decide +kernel
theorem dX12_init_41 : decode cX12_init 41 = .ok (.aload_n 0, 1) := by decide +kernel
theorem dX12_init_42 : decode cX12_init 42 = .ok (.sipush 208, 3) := by decide +kernel
theorem dX12_init_45 : decode cX12_init 45 = .ok (.newarray .int, 2) := by decide +kernel
theorem dX12_init_47 : decode cX12_init 47 = .ok (.putfield 27, 3) := by decide +kernel
theorem dX12_init_50 : decode cX12_init 50 = .ok (.aload_n 0, 1) := by decide +kernel
theorem dX12_init_51 : decode cX12_init 51 = .ok (.sipush 208, 3) := by decide +kernel
theorem dX12_init_54 : decode cX12_init 54 = .ok (.newarray .int, 2) := by decide +kernel
theorem dX12_init_56 : decode cX12_init 56 = .ok (.putfield 30, 3) := by decide +kernel
theorem dX12_init_59 : decode cX12_init 59 = .ok (.aload_n 0, 1) := by decide +kernel
theorem dX12_init_60 : decode cX12_init 60 = .ok (.sipush 208, 3) := by decide +kernel
theorem dX12_init_63 : decode cX12_init 63 = .ok (.newarray .int, 2) := by decide +kernel
theorem dX12_init_65 : decode cX12_init 65 = .ok (.putfield 33, 3) := by decide +kernel
theorem dX12_init_68 : decode cX12_init 68 = .ok (.aload_n 0, 1) := by decide +kernel
theorem dX12_init_69 : decode cX12_init 69 = .ok (.sipush 208, 3) := by decide +kernel
theorem dX12_init_72 : decode cX12_init 72 = .ok (.newarray .int, 2) := by decide +kernel
theorem dX12_init_74 : decode cX12_init 74 = .ok (.putfield 36, 3) := by decide +kernel
theorem dX12_init_77 : decode cX12_init 77 = .ok (.aload_n 0, 1) := by decide +kernel
theorem dX12_init_78 : decode cX12_init 78 = .ok (.sipush 5200, 3) := by decide +kernel
theorem dX12_init_81 : decode cX12_init 81 = .ok (.newarray .int, 2) := by decide +kernel
theorem dX12_init_83 : decode cX12_init 83 = .ok (.putfield 39, 3) := by decide +kernel
theorem dX12_init_86 : decode cX12_init 86 = .ok (.aload_n 0, 1) := by decide +kernel
theorem dX12_init_87 : decode cX12_init 87 = .ok (.sipush 5200, 3) := by decide +kernel
theorem dX12_init_90 : decode cX12_init 90 = .ok (.newarray .int, 2) := by decide +kernel
theorem dX12_init_92 : decode cX12_init 92 = .ok (.putfield 42, 3) := by decide +kernel
theorem dX12_init_95 : decode cX12_init 95 = .ok (.aload_n 0, 1) := by decide +kernel
theorem dX12_init_96 : decode cX12_init 96 = .ok (.sipush 5200, 3) := by decide +kernel
theorem dX12_init_99 : decode cX12_init 99 = .ok (.newarray .int, 2) := by decide +kernel
theorem dX12_init_101 : decode cX12_init 101 = .ok (.putfield 45, 3) := by decide +kernel
theorem dX12_init_104 : decode cX12_init 104 = .ok (.aload_n 0, 1) := by decide +kernel
theorem dX12_init_105 : decode cX12_init 105 = .ok (.bipush 9, 2) := by decide +kernel
theorem dX12_init_107 : decode cX12_init 107 = .ok (.newarray .int, 2) := by decide +kernel
theorem dX12_init_109 : decode cX12_init 109 = .ok (.putfield 48, 3) := by decide +kernel
theorem dX12_init_112 : decode cX12_init 112 = .ok (.aload_n 0, 1) := by decide +kernel
theorem dX12_init_113 : decode cX12_init 113 = .ok (.sipush 400, 3) := by decide +kernel
theorem dX12_init_116 : decode cX12_init 116 = .ok (.newarray .boolean, 2) := by decide +kernel
theorem dX12_init_118 : decode cX12_init 118 = .ok (.putfield 51, 3) := by decide +kernel
theorem dX12_init_121 : decode cX12_init 121 = .ok (.aload_n 0, 1) := by decide +kernel
theorem dX12_init_122 : decode cX12_init 122 = .ok (.bipush 80, 2) := by decide +kernel
theorem dX12_init_124 : decode cX12_init 124 = .ok (.newarray .int, 2) := by decide +kernel
theorem dX12_init_126 : decode cX12_init 126 = .ok (.putfield 55, 3) := by decide +kernel
theorem dX12_init_129 : decode cX12_init 129 = .ok (.aload_n 0, 1) := by decide +kernel
theorem dX12_init_130 : decode cX12_init 130 = .ok (.bipush 80, 2) := by decide +kernel
theorem dX12_init_132 : decode cX12_init 132 = .ok (.newarray .boolean, 2) := by decide +kernel
theorem dX12_init_134 : decode cX12_init 134 = .ok (.putfield 58, 3) := by decide +kernel
theorem dX12_init_137 : decode cX12_init 137 = .ok (.aload_n 0, 1) := by decide +kernel
theorem dX12_init_138 : decode cX12_init 138 = .ok (.sipush 400, 3) := by decide +kernel
theorem dX12_init_141 : decode cX12_init 141 = .ok (.newarray .int, 2) := by decide +kernel
theorem dX12_init_143 : decode cX12_init 143 = .ok (.putfield 61, 3) := by decide +kernel
theorem dX12_init_146 : decode cX12_init 146 = .ok (.aload_n 0, 1) := by decide +kernel
theorem dX12_init_147 : decode cX12_init 147 = .ok (.sipush 1920, 3) := by decide +kernel
theorem dX12_init_150 : decode cX12_init 150 = .ok (.newarray .int, 2) := by decide +kernel
theorem dX12_init_152 : decode cX12_init 152 = .ok (.putfield 64, 3) := by decide +kernel
theorem dX12_init_155 : decode cX12_init 155 = .ok (.aload_n 0, 1) := by decide +kernel
theorem dX12_init_156 : decode cX12_init 156 = .ok (.bipush 80, 2) := by decide +kernel
theorem dX12_init_158 : decode cX12_init 158 = .ok (.newarray .boolean, 2) := by decide +kernel
theorem dX12_init_160 : decode cX12_init 160 = .ok (.putfield 67, 3) := by decide +kernel
theorem dX12_init_163 : decode cX12_init 163 = .ok (.aload_n 0, 1) := by decide +kernel
theorem dX12_init_164 : decode cX12_init 164 = .ok (.sipush 6400, 3) := by decide +kernel
theorem dX12_init_167 : decode cX12_init 167 = .ok (.newarray .int, 2) := by decide +kernel
theorem dX12_init_169 : decode cX12_init 169 = .ok (.putfield 70, 3) := by decide +kernel
theorem dX12_init_172 : decode cX12_init 172 = .ok (.aload_n 0, 1) := by decide +kernel
theorem dX12_init_173 : decode cX12_init 173 = .ok (.bipush 48, 2) := by decide +kernel
theorem dX12_init_175 : decode cX12_init 175 = .ok (.newarray .int, 2) := by decide +kernel
theorem dX12_init_177 : decode cX12_init 177 = .ok (.putfield 73, 3) := by decide +kernel
theorem dX12_init_180 : decode cX12_init 180 = .ok (.aload_n 0, 1) := by decide +kernel
theorem dX12_init_181 : decode cX12_init 181 = .ok (.bipush 20, 2) := by decide +kernel
theorem dX12_init_183 : decode cX12_init 183 = .ok (.putfield 76, 3) := by decide +kernel
theorem dX12_init_186 : decode cX12_init 186 = .ok (.aload_n 0, 1) := by decide +kernel
theorem dX12_init_187 : decode cX12_init 187 = .ok (.bipush 30, 2) := by decide +kernel
theorem dX12_init_189 : decode cX12_init 189 = .ok (.putfield 79, 3) := by decide +kernel
theorem dX12_init_192 : decode cX12_init 192 = .ok (.aload_n 0, 1) := by decide +kernel
theorem dX12_init_193 : decode cX12_init 193 = .ok (.bipush 10, 2) := by decide +kernel
theorem dX12_init_195 : decode cX12_init 195 = .ok (.putfield 82, 3) := by decide +kernel
theorem dX12_init_198 : decode cX12_init 198 = .ok (.aload_n 0, 1) := by decide +kernel
theorem dX12_init_199 : decode cX12_init 199 = .ok (.iconst 2, 1) := by decide +kernel
theorem dX12_init_200 : decode cX12_init 200 = .ok (.putfield 85, 3) := by decide +kernel
theorem dX12_init_203 : decode cX12_init 203 = .ok (.aload_n 0, 1) := by decide +kernel
theorem dX12_init_204 : decode cX12_init 204 = .ok (.bipush 9, 2) := by decide +kernel
theorem dX12_init_206 : decode cX12_init 206 = .ok (.putfield 88, 3) := by decide +kernel
theorem dX12_init_209 : decode cX12_init 209 = .ok (.aload_n 0, 1) := by decide +kernel
theorem dX12_init_210 : decode cX12_init 210 = .ok (.iconst 1, 1) := by decide +kernel
theorem dX12_init_211 : decode cX12_init 211 = .ok (.putfield 91, 3) := by decide +kernel
theorem dX12_init_214 : decode cX12_init 214 = .ok (.aload_n 0, 1) := by decide +kernel
theorem dX12_init_215 : decode cX12_init 215 = .ok (.iconst 4, 1) := by decide +kernel
theorem dX12_init_216 : decode cX12_init 216 = .ok (.newarray .int, 2) := by decide +kernel
theorem dX12_init_218 : decode cX12_init 218 = .ok (.dup, 1) := by decide +kernel
theorem dX12_init_219 : decode cX12_init 219 = .ok (.iconst 0, 1) := by decide +kernel
theorem dX12_init_220 : decode cX12_init 220 = .ok (.iconst 1, 1) := by decide +kernel
theorem dX12_init_221 : decode cX12_init 221 = .ok (.iastore, 1) := by decide +kernel
theorem dX12_init_222 : decode cX12_init 222 = .ok (.dup, 1) := by decide +kernel
theorem dX12_init_223 : decode cX12_init 223 = .ok (.iconst 1, 1) := by decide +kernel
theorem dX12_init_224 : decode cX12_init 224 = .ok (.iconst 1, 1) := by decide +kernel
theorem dX12_init_225 : decode cX12_init 225 = .ok (.iastore, 1) := by decide +kernel
theorem dX12_init_226 : decode cX12_init 226 = .ok (.dup, 1) := by decide +kernel
theorem dX12_init_227 : decode cX12_init 227 = .ok (.iconst 2, 1) := by decide +kernel
theorem dX12_init_228 : decode cX12_init 228 = .ok (.iconst 1, 1) := by decide +kernel
theorem dX12_init_229 : decode cX12_init 229 = .ok (.iastore, 1) := by decide +kernel
theorem dX12_init_230 : decode cX12_init 230 = .ok (.dup, 1) := by decide +kernel
theorem dX12_init_231 : decode cX12_init 231 = .ok (.iconst 3, 1) := by decide +kernel
theorem dX12_init_232 : decode cX12_init 232 = .ok (.iconst 1, 1) := by decide +kernel
theorem dX12_init_233 : decode cX12_init 233 = .ok (.iastore, 1) := by decide +kernel
theorem dX12_init_234 : decode cX12_init 234 = .ok (.putfield 94, 3) := by decide +kernel
theorem dX12_init_237 : decode cX12_init 237 = .ok (.aload_n 0, 1) := by decide +kernel
theorem dX12_init_238 : decode cX12_init 238 = .ok (.bipush 20, 2) := by decide +kernel
theorem dX12_init_240 : decode cX12_init 240 = .ok (.newarray .int, 2) := by decide +kernel
theorem dX12_init_242 : decode cX12_init 242 = .ok (.putfield 97, 3) := by decide +kernel
theorem dX12_init_245 : decode cX12_init 245 = .ok (.aload_n 0, 1) := by decide +kernel
theorem dX12_init_246 : decode cX12_init 246 = .ok (.bipush 20, 2) := by decide +kernel
theorem dX12_init_248 : decode cX12_init 248 = .ok (.newarray .int, 2) := by decide +kernel
theorem dX12_init_250 : decode cX12_init 250 = .ok (.putfield 100, 3) := by decide +kernel
theorem dX12_init_253 : decode cX12_init 253 = .ok (.aload_n 0, 1) := by decide +kernel
theorem dX12_init_254 : decode cX12_init 254 = .ok (.bipush 20, 2) := by decide +kernel
theorem dX12_init_256 : decode cX12_init 256 = .ok (.newarray .int, 2) := by decide +kernel
theorem dX12_init_258 : decode cX12_init 258 = .ok (.putfield 103, 3) := by decide +kernel
theorem dX12_init_261 : decode cX12_init 261 = .ok (.aload_n 0, 1) := by decide +kernel
theorem dX12_init_262 : decode cX12_init 262 = .ok (.bipush 20, 2) := by decide +kernel
theorem dX12_init_264 : decode cX12_init 264 = .ok (.newarray .int, 2) := by decide +kernel
theorem dX12_init_266 : decode cX12_init 266 = .ok (.putfield 106, 3) := by decide +kernel
theorem dX12_init_269 : decode cX12_init 269 = .ok (.aload_n 0, 1) := by decide +kernel
theorem dX12_init_270 : decode cX12_init 270 = .ok (.bipush 20, 2) := by decide +kernel
theorem dX12_init_272 : decode cX12_init 272 = .ok (.newarray .int, 2) := by decide +kernel
theorem dX12_init_274 : decode cX12_init 274 = .ok (.putfield 109, 3) := by decide +kernel
theorem dX12_init_277 : decode cX12_init 277 = .ok (.aload_n 0, 1) := by decide +kernel
theorem dX12_init_278 : decode cX12_init 278 = .ok (.bipush 120, 2) := by decide +kernel
theorem dX12_init_280 : decode cX12_init 280 = .ok (.newarray .int, 2) := by decide +kernel
theorem dX12_init_282 : decode cX12_init 282 = .ok (.putfield 112, 3) := by decide +kernel
theorem dX12_init_285 : decode cX12_init 285 = .ok (.aload_n 0, 1) := by decide +kernel
theorem dX12_init_286 : decode cX12_init 286 = .ok (.bipush 120, 2) := by decide +kernel
theorem dX12_init_288 : decode cX12_init 288 = .ok (.newarray .int, 2) := by decide +kernel
theorem dX12_init_290 : decode cX12_init 290 = .ok (.putfield 115, 3) := by decide +kernel
theorem dX12_init_293 : decode cX12_init 293 = .ok (.aload_n 0, 1) := by decide +kernel
theorem dX12_init_294 : decode cX12_init 294 = .ok (.bipush 120, 2) := by decide +kernel
theorem dX12_init_296 : decode cX12_init 296 = .ok (.newarray .int, 2) := by decide +kernel
theorem dX12_init_298 : decode cX12_init 298 = .ok (.putfield 118, 3) := by decide +kernel
theorem dX12_init_301 : decode cX12_init 301 = .ok (.aload_n 0, 1) := by decide +kernel
theorem dX12_init_302 : decode cX12_init 302 = .ok (.bipush 120, 2) := by decide +kernel
theorem dX12_init_304 : decode cX12_init 304 = .ok (.newarray .int, 2) := by decide +kernel
theorem dX12_init_306 : decode cX12_init 306 = .ok (.putfield 121, 3) := by decide +kernel
theorem dX12_init_309 : decode cX12_init 309 = .ok (.aload_n 0, 1) := by decide +kernel
theorem dX12_init_310 : decode cX12_init 310 = .ok (.bipush 120, 2) := by decide +kernel
theorem dX12_init_312 : decode cX12_init 312 = .ok (.newarray .int, 2) := by decide +kernel
theorem dX12_init_314 : decode cX12_init 314 = .ok (.putfield 124, 3) := by decide +kernel
theorem dX12_init_317 : decode cX12_init 317 = .ok (.aload_n 0, 1) := by decide +kernel
theorem dX12_init_318 : decode cX12_init 318 = .ok (.bipush 120, 2) := by decide +kernel
theorem dX12_init_320 : decode cX12_init 320 = .ok (.newarray .boolean, 2) := by decide +kernel
theorem dX12_init_322 : decode cX12_init 322 = .ok (.putfield 127, 3) := by decide +kernel
theorem dX12_init_325 : decode cX12_init 325 = .ok (.aload_n 0, 1) := by decide +kernel
theorem dX12_init_326 : decode cX12_init 326 = .ok (.bipush 120, 2) := by decide +kernel
theorem dX12_init_328 : decode cX12_init 328 = .ok (.newarray .int, 2) := by decide +kernel
theorem dX12_init_330 : decode cX12_init 330 = .ok (.putfield 130, 3) := by decide +kernel
theorem dX12_init_333 : decode cX12_init 333 = .ok (.aload_n 0, 1) := by decide +kernel
theorem dX12_init_334 : decode cX12_init 334 = .ok (.bipush 120, 2) := by decide +kernel
theorem dX12_init_336 : decode cX12_init 336 = .ok (.newarray .int, 2) := by decide +kernel
theorem dX12_init_338 : decode cX12_init 338 = .ok (.putfield 133, 3) := by decide +kernel
theorem dX12_init_341 : decode cX12_init 341 = .ok (.aload_n 0, 1) := by decide +kernel
theorem dX12_init_342 : decode cX12_init 342 = .ok (.bipush 120, 2) := by decide +kernel
theorem dX12_init_344 : decode cX12_init 344 = .ok (.newarray .int, 2) := by decide +kernel
theorem dX12_init_346 : decode cX12_init 346 = .ok (.putfield 136, 3) := by decide +kernel
theorem dX12_init_349 : decode cX12_init 349 = .ok (.aload_n 0, 1) := by decide +kernel
theorem dX12_init_350 : decode cX12_init 350 = .ok (.bipush 120, 2) := by decide +kernel
theorem dX12_init_352 : decode cX12_init 352 = .ok (.newarray .int, 2) := by decide +kernel
theorem dX12_init_354 : decode cX12_init 354 = .ok (.putfield 139, 3) := by decide +kernel
theorem dX12_init_357 : decode cX12_init 357 = .ok (.aload_n 0, 1) := by decide +kernel
theorem dX12_init_358 : decode cX12_init 358 = .ok (.bipush 120, 2) := by decide +kernel
theorem dX12_init_360 : decode cX12_init 360 = .ok (.newarray .boolean, 2) := by decide +kernel
theorem dX12_init_362 : decode cX12_init 362 = .ok (.putfield 142, 3) := by decide +kernel
theorem dX12_init_365 : decode cX12_init 365 = .ok (.aload_n 0, 1) := by decide +kernel
theorem dX12_init_366 : decode cX12_init 366 = .ok (.bipush 120, 2) := by decide +kernel
theorem dX12_init_368 : decode cX12_init 368 = .ok (.newarray .int, 2) := by decide +kernel
theorem dX12_init_370 : decode cX12_init 370 = .ok (.putfield 145, 3) := by decide +kernel
theorem dX12_init_373 : decode cX12_init 373 = .ok (.aload_n 0, 1) := by decide +kernel
theorem dX12_init_374 : decode cX12_init 374 = .ok (.sipush 840, 3) := by decide +kernel
theorem dX12_init_377 : decode cX12_init 377 = .ok (.newarray .int, 2) := by decide +kernel
theorem dX12_init_379 : decode cX12_init 379 = .ok (.putfield 148, 3) := by decide +kernel
theorem dX12_init_382 : decode cX12_init 382 = .ok (.aload_n 0, 1) := by decide +kernel
theorem dX12_init_383 : decode cX12_init 383 = .ok (.sipush 150, 3) := by decide +kernel
theorem dX12_init_386 : decode cX12_init 386 = .ok (.newarray .int, 2) := by decide +kernel
theorem dX12_init_388 : decode cX12_init 388 = .ok (.putfield 151, 3) := by decide +kernel
theorem dX12_init_391 : decode cX12_init 391 = .ok (.aload_n 0, 1) := by decide +kernel
theorem dX12_init_392 : decode cX12_init 392 = .ok (.sipush 150, 3) := by decide +kernel
theorem dX12_init_395 : decode cX12_init 395 = .ok (.newarray .int, 2) := by decide +kernel
theorem dX12_init_397 : decode cX12_init 397 = .ok (.putfield 154, 3) := by decide +kernel
theorem dX12_init_400 : decode cX12_init 400 = .ok (.aload_n 0, 1) := by decide +kernel
theorem dX12_init_401 : decode cX12_init 401 = .ok (.sipush 150, 3) := by decide +kernel
theorem dX12_init_404 : decode cX12_init 404 = .ok (.newarray .int, 2) := by decide +kernel
theorem dX12_init_406 : decode cX12_init 406 = .ok (.putfield 157, 3) := by decide +kernel
theorem dX12_init_409 : decode cX12_init 409 = .ok (.aload_n 0, 1) := by decide +kernel
theorem dX12_init_410 : decode cX12_init 410 = .ok (.sipush 150, 3) := by decide +kernel
theorem dX12_init_413 : decode cX12_init 413 = .ok (.newarray .int, 2) := by decide +kernel
theorem dX12_init_415 : decode cX12_init 415 = .ok (.putfield 160, 3) := by decide +kernel
theorem dX12_init_418 : decode cX12_init 418 = .ok (.aload_n 0, 1) := by decide +kernel
theorem dX12_init_419 : decode cX12_init 419 = .ok (.bipush 120, 2) := by decide +kernel
theorem dX12_init_421 : decode cX12_init 421 = .ok (.newarray .int, 2) := by decide +kernel
theorem dX12_init_423 : decode cX12_init 423 = .ok (.putfield 163, 3) := by decide +kernel
theorem dX12_init_426 : decode cX12_init 426 = .ok (.aload_n 0, 1) := by decide +kernel
theorem dX12_init_427 : decode cX12_init 427 = .ok (.sipush 840, 3) := by decide +kernel
theorem dX12_init_430 : decode cX12_init 430 = .ok (.newarray .int, 2) := by decide +kernel
theorem dX12_init_432 : decode cX12_init 432 = .ok (.putfield 166, 3) := by decide +kernel
theorem dX12_init_435 : decode cX12_init 435 = .ok (.aload_n 0, 1) := by decide +kernel
theorem dX12_init_436 : decode cX12_init 436 = .ok (.sipush 150, 3) := by decide +kernel
theorem dX12_init_439 : decode cX12_init 439 = .ok (.newarray .int, 2) := by decide +kernel
theorem dX12_init_441 : decode cX12_init 441 = .ok (.putfield 169, 3) := by decide +kernel
theorem dX12_init_444 : decode cX12_init 444 = .ok (.aload_n 0, 1) := by decide +kernel
theorem dX12_init_445 : decode cX12_init 445 = .ok (.bipush 120, 2) := by decide +kernel
theorem dX12_init_447 : decode cX12_init 447 = .ok (.newarray .int, 2) := by decide +kernel
theorem dX12_init_449 : decode cX12_init 449 = .ok (.putfield 172, 3) := by decide +kernel
theorem dX12_init_452 : decode cX12_init 452 = .ok (.aload_n 0, 1) := by decide +kernel
theorem dX12_init_453 : decode cX12_init 453 = .ok (.bipush 120, 2) := by decide +kernel
theorem dX12_init_455 : decode cX12_init 455 = .ok (.newarray .int, 2) := by decide +kernel
theorem dX12_init_457 : decode cX12_init 457 = .ok (.putfield 175, 3) := by decide +kernel
theorem dX12_init_460 : decode cX12_init 460 = .ok (.return_, 1) := by decide +kernel
theorem dX12_thrown_0 : decode cX12_thrown 0 = .ok (.aload_n 0, 1) := by decide +kernel
theorem dX12_thrown_1 : decode cX12_thrown 1 = .ok (.getfield 178, 3) := by decide +kernel
theorem dX12_thrown_4 : decode cX12_thrown 4 = .ok (.ireturn, 1) := by decide +kernel
theorem dX12_throwsIf_0 : decode cX12_throwsIf 0 = .ok (.iload_n 1, 1) := by decide +kernel
theorem dX12_throwsIf_1 : decode cX12_throwsIf 1 = .ok (.ifCond .eq 8, 3) := by decide +kernel
theorem dX12_throwsIf_4 : decode cX12_throwsIf 4 = .ok (.aload_n 0, 1) := by decide +kernel
theorem dX12_throwsIf_5 : decode cX12_throwsIf 5 = .ok (.iload_n 2, 1) := by decide +kernel
theorem dX12_throwsIf_6 : decode cX12_throwsIf 6 = .ok (.putfield 178, 3) := by decide +kernel
theorem dX12_throwsIf_9 : decode cX12_throwsIf 9 = .ok (.iload_n 1, 1) := by decide +kernel
theorem dX12_throwsIf_10 : decode cX12_throwsIf 10 = .ok (.ireturn, 1) := by decide +kernel
theorem dX12_in_0 : decode cX12_in 0 = .ok (.iload_n 0, 1) := by decide +kernel
theorem dX12_in_1 : decode cX12_in 1 = .ok (.iload_n 1, 1) := by decide +kernel
theorem dX12_in_2 : decode cX12_in 2 = .ok (.if_icmp .lt 12, 3) := by decide +kernel
theorem dX12_in_5 : decode cX12_in 5 = .ok (.iload_n 0, 1) := by decide +kernel
theorem dX12_in_6 : decode cX12_in 6 = .ok (.iload_n 2, 1) := by decide +kernel
theorem dX12_in_7 : decode cX12_in 7 = .ok (.if_icmp .gt 7, 3) := by decide +kernel
theorem dX12_in_10 : decode cX12_in 10 = .ok (.iconst 1, 1) := by decide +kernel
theorem dX12_in_11 : decode cX12_in 11 = .ok (.goto 4, 3) := by decide +kernel
theorem dX12_in_14 : decode cX12_in 14 = .ok (.iconst 0, 1) := by decide +kernel
theorem dX12_in_15 : decode cX12_in 15 = .ok (.ireturn, 1) := by decide +kernel
theorem dX12_feed_0 : decode cX12_feed 0 = .ok (.aload_n 0, 1) := by decide +kernel
theorem dX12_feed_1 : decode cX12_feed 1 = .ok (.iconst 0, 1) := by decide +kernel
theorem dX12_feed_2 : decode cX12_feed 2 = .ok (.putfield 178, 3) := by decide +kernel
theorem dX12_feed_5 : decode cX12_feed 5 = .ok (.aload_n 0, 1) := by decide +kernel
theorem dX12_feed_6 : decode cX12_feed 6 = .ok (.getfield 181, 3) := by decide +kernel
theorem dX12_feed_9 : decode cX12_feed 9 = .ok (.bipush 20, 2) := by decide +kernel
theorem dX12_feed_11 : decode cX12_feed 11 = .ok (.iadd, 1) := by decide +kernel
theorem dX12_feed_12 : decode cX12_feed 12 = .ok (.sipush 400, 3) := by decide +kernel
theorem dX12_feed_15 : decode cX12_feed 15 = .ok (.if_icmp .le 5, 3) := by decide +kernel
theorem dX12_feed_18 : decode cX12_feed 18 = .ok (.iconst (-1), 1) := by decide +kernel
theorem dX12_feed_19 : decode cX12_feed 19 = .ok (.ireturn, 1) := by decide +kernel
theorem dX12_feed_20 : decode cX12_feed 20 = .ok (.aload_n 0, 1) := by decide +kernel
theorem dX12_feed_21 : decode cX12_feed 21 = .ok (.getfield 17, 3) := by decide +kernel
theorem dX12_feed_24 : decode cX12_feed 24 = .ok (.iconst 0, 1) := by decide +kernel
theorem dX12_feed_25 : decode cX12_feed 25 = .ok (.iload_n 1, 1) := by decide +kernel
theorem dX12_feed_26 : decode cX12_feed 26 = .ok (.iastore, 1) := by decide +kernel
theorem dX12_feed_27 : decode cX12_feed 27 = .ok (.aload_n 0, 1) := by decide +kernel
theorem dX12_feed_28 : decode cX12_feed 28 = .ok (.getfield 17, 3) := by decide +kernel
theorem dX12_feed_31 : decode cX12_feed 31 = .ok (.iconst 1, 1) := by decide +kernel
theorem dX12_feed_32 : decode cX12_feed 32 = .ok (.iload_n 2, 1) := by decide +kernel
theorem dX12_feed_33 : decode cX12_feed 33 = .ok (.iastore, 1) := by decide +kernel
theorem dX12_feed_34 : decode cX12_feed 34 = .ok (.aload_n 0, 1) := by decide +kernel
theorem dX12_feed_35 : decode cX12_feed 35 = .ok (.getfield 17, 3) := by decide +kernel
theorem dX12_feed_38 : decode cX12_feed 38 = .ok (.iconst 2, 1) := by decide +kernel
theorem dX12_feed_39 : decode cX12_feed 39 = .ok (.iload_n 3, 1) := by decide +kernel
theorem dX12_feed_40 : decode cX12_feed 40 = .ok (.iastore, 1) := by decide +kernel
theorem dX12_feed_41 : decode cX12_feed 41 = .ok (.aload_n 0, 1) := by decide +kernel
theorem dX12_feed_42 : decode cX12_feed 42 = .ok (.getfield 17, 3) := by decide +kernel
theorem dX12_feed_45 : decode cX12_feed 45 = .ok (.iconst 3, 1) := by decide +kernel
theorem dX12_feed_46 : decode cX12_feed 46 = .ok (.iload 4, 2) := by decide +kernel
theorem dX12_feed_48 : decode cX12_feed 48 = .ok (.iastore, 1) := by decide +kernel
theorem dX12_feed_49 : decode cX12_feed 49 = .ok (.aload_n 0, 1) := by decide +kernel
theorem dX12_feed_50 : decode cX12_feed 50 = .ok (.getfield 17, 3) := by decide +kernel
theorem dX12_feed_53 : decode cX12_feed 53 = .ok (.iconst 4, 1) := by decide +kernel
theorem dX12_feed_54 : decode cX12_feed 54 = .ok (.iload 5, 2) := by decide +kernel
theorem dX12_feed_56 : decode cX12_feed 56 = .ok (.iastore, 1) := by decide +kernel
theorem dX12_feed_57 : decode cX12_feed 57 = .ok (.iconst 0, 1) := by decide +kernel
theorem dX12_feed_58 : decode cX12_feed 58 = .ok (.istore 6, 2) := by decide +kernel
theorem dX12_feed_60 : decode cX12_feed 60 = .ok (.iload 6, 2) := by decide +kernel
theorem dX12_feed_62 : decode cX12_feed 62 = .ok (.bipush 20, 2) := by decide +kernel
theorem dX12_feed_64 : decode cX12_feed 64 = .ok (.if_icmp .ge 42, 3) := by decide +kernel
theorem dX12_feed_67 : decode cX12_feed 67 = .ok (.aload_n 0, 1) := by decide +kernel
theorem dX12_feed_68 : decode cX12_feed 68 = .ok (.getfield 9, 3) := by decide +kernel
theorem dX12_feed_71 : decode cX12_feed 71 = .ok (.aload_n 0, 1) := by decide +kernel
theorem dX12_feed_72 : decode cX12_feed 72 = .ok (.getfield 181, 3) := by decide +kernel
theorem dX12_feed_75 : decode cX12_feed 75 = .ok (.iload 6, 2) := by decide +kernel
theorem dX12_feed_77 : decode cX12_feed 77 = .ok (.iadd, 1) := by decide +kernel
theorem dX12_feed_78 : decode cX12_feed 78 = .ok (.aload_n 0, 1) := by decide +kernel
theorem dX12_feed_79 : decode cX12_feed 79 = .ok (.getfield 17, 3) := by decide +kernel
theorem dX12_feed_82 : decode cX12_feed 82 = .ok (.iload 6, 2) := by decide +kernel
theorem dX12_feed_84 : decode cX12_feed 84 = .ok (.iconst 4, 1) := by decide +kernel
theorem dX12_feed_85 : decode cX12_feed 85 = .ok (.idiv, 1) := by decide +kernel
theorem dX12_feed_86 : decode cX12_feed 86 = .ok (.iaload, 1) := by decide +kernel
theorem dX12_feed_87 : decode cX12_feed 87 = .ok (.bipush 24, 2) := by decide +kernel
theorem dX12_feed_89 : decode cX12_feed 89 = .ok (.bipush 8, 2) := by decide +kernel
theorem dX12_feed_91 : decode cX12_feed 91 = .ok (.iload 6, 2) := by decide +kernel
theorem dX12_feed_93 : decode cX12_feed 93 = .ok (.iconst 4, 1) := by decide +kernel
theorem dX12_feed_94 : decode cX12_feed 94 = .ok (.irem, 1) := by decide +kernel
theorem dX12_feed_95 : decode cX12_feed 95 = .ok (.imul, 1) := by decide +kernel
theorem dX12_feed_96 : decode cX12_feed 96 = .ok (.isub, 1) := by decide +kernel
theorem dX12_feed_97 : decode cX12_feed 97 = .ok (.ishr, 1) := by decide +kernel
theorem dX12_feed_98 : decode cX12_feed 98 = .ok (.i2b, 1) := by decide +kernel
theorem dX12_feed_99 : decode cX12_feed 99 = .ok (.bastore, 1) := by decide +kernel
theorem dX12_feed_100 : decode cX12_feed 100 = .ok (.iinc 6 1, 3) := by decide +kernel
theorem dX12_feed_103 : decode cX12_feed 103 = .ok (.goto (-43), 3) := by decide +kernel
theorem dX12_feed_106 : decode cX12_feed 106 = .ok (.aload_n 0, 1) := by decide +kernel
theorem dX12_feed_107 : decode cX12_feed 107 = .ok (.dup, 1) := by decide +kernel
theorem dX12_feed_108 : decode cX12_feed 108 = .ok (.getfield 181, 3) := by decide +kernel
theorem dX12_feed_111 : decode cX12_feed 111 = .ok (.bipush 20, 2) := by decide +kernel
theorem dX12_feed_113 : decode cX12_feed 113 = .ok (.iadd, 1) := by decide +kernel
theorem dX12_feed_114 : decode cX12_feed 114 = .ok (.putfield 181, 3) := by decide +kernel
theorem dX12_feed_117 : decode cX12_feed 117 = .ok (.aload_n 0, 1) := by decide +kernel
theorem dX12_feed_118 : decode cX12_feed 118 = .ok (.getfield 181, 3) := by decide +kernel
theorem dX12_feed_121 : decode cX12_feed 121 = .ok (.ireturn, 1) := by decide +kernel
theorem dX12_end_0 : decode cX12_end 0 = .ok (.aload_n 0, 1) := by decide +kernel
theorem dX12_end_1 : decode cX12_end 1 = .ok (.iconst 0, 1) := by decide +kernel
theorem dX12_end_2 : decode cX12_end 2 = .ok (.putfield 178, 3) := by decide +kernel
theorem dX12_end_5 : decode cX12_end 5 = .ok (.iload_n 1, 1) := by decide +kernel
theorem dX12_end_6 : decode cX12_end 6 = .ok (.ifCond .lt 11, 3) := by decide +kernel
theorem dX12_end_9 : decode cX12_end 9 = .ok (.iload_n 1, 1) := by decide +kernel
theorem dX12_end_10 : decode cX12_end 10 = .ok (.aload_n 0, 1) := by decide +kernel
theorem dX12_end_11 : decode cX12_end 11 = .ok (.getfield 181, 3) := by decide +kernel
theorem dX12_end_14 : decode cX12_end 14 = .ok (.if_icmp .le 5, 3) := by decide +kernel
theorem dX12_end_17 : decode cX12_end 17 = .ok (.iconst 0, 1) := by decide +kernel
theorem dX12_end_18 : decode cX12_end 18 = .ok (.ireturn, 1) := by decide +kernel
theorem dX12_end_19 : decode cX12_end 19 = .ok (.aload_n 0, 1) := by decide +kernel
theorem dX12_end_20 : decode cX12_end 20 = .ok (.iload_n 1, 1) := by decide +kernel
theorem dX12_end_21 : decode cX12_end 21 = .ok (.putfield 181, 3) := by decide +kernel
theorem dX12_end_24 : decode cX12_end 24 = .ok (.iconst 1, 1) := by decide +kernel
theorem dX12_end_25 : decode cX12_end 25 = .ok (.ireturn, 1) := by decide +kernel
theorem dX12_uses_0 : decode cX12_uses 0 = .ok (.aload_n 0, 1) := by decide +kernel
theorem dX12_uses_1 : decode cX12_uses 1 = .ok (.iconst 0, 1) := by decide +kernel
theorem dX12_uses_2 : decode cX12_uses 2 = .ok (.putfield 178, 3) := by decide +kernel
theorem dX12_uses_5 : decode cX12_uses 5 = .ok (.aload_n 0, 1) := by decide +kernel
theorem dX12_uses_6 : decode cX12_uses 6 = .ok (.aload_n 0, 1) := by decide +kernel
theorem dX12_uses_7 : decode cX12_uses 7 = .ok (.getfield 181, 3) := by decide +kernel
theorem dX12_uses_10 : decode cX12_uses 10 = .ok (.putfield 184, 3) := by decide +kernel
theorem dX12_uses_13 : decode cX12_uses 13 = .ok (.aload_n 0, 1) := by decide +kernel
theorem dX12_uses_14 : decode cX12_uses 14 = .ok (.iconst 0, 1) := by decide +kernel
theorem dX12_uses_15 : decode cX12_uses 15 = .ok (.putfield 181, 3) := by decide +kernel
theorem dX12_uses_18 : decode cX12_uses 18 = .ok (.aload_n 0, 1) := by decide +kernel
theorem dX12_uses_19 : decode cX12_uses 19 = .ok (.iconst 0, 1) := by decide +kernel
theorem dX12_uses_20 : decode cX12_uses 20 = .ok (.putfield 187, 3) := by decide +kernel
theorem dX12_uses_23 : decode cX12_uses 23 = .ok (.return_, 1) := by decide +kernel
theorem dX12_isAt_0 : decode cX12_isAt 0 = .ok (.aload_n 0, 1) := by decide +kernel
theorem dX12_isAt_1 : decode cX12_isAt 1 = .ok (.getfield 187, 3) := by decide +kernel
theorem dX12_isAt_4 : decode cX12_isAt 4 = .ok (.aload_n 0, 1) := by decide +kernel
theorem dX12_isAt_5 : decode cX12_isAt 5 = .ok (.getfield 184, 3) := by decide +kernel
theorem dX12_isAt_8 : decode cX12_isAt 8 = .ok (.if_icmp .ge 33, 3) := by decide +kernel
theorem dX12_isAt_11 : decode cX12_isAt 11 = .ok (.aload_n 0, 1) := by decide +kernel
theorem dX12_isAt_12 : decode cX12_isAt 12 = .ok (.getfield 9, 3) := by decide +kernel
theorem dX12_isAt_15 : decode cX12_isAt 15 = .ok (.aload_n 0, 1) := by decide +kernel
theorem dX12_isAt_16 : decode cX12_isAt 16 = .ok (.getfield 187, 3) := by decide +kernel
theorem dX12_isAt_19 : decode cX12_isAt 19 = .ok (.baload, 1) := by decide +kernel
theorem dX12_isAt_20 : decode cX12_isAt 20 = .ok (.iload_n 1, 1) := by decide +kernel
theorem dX12_isAt_21 : decode cX12_isAt 21 = .ok (.if_icmp .lt 20, 3) := by decide +kernel
theorem dX12_isAt_24 : decode cX12_isAt 24 = .ok (.aload_n 0, 1) := by decide +kernel
theorem dX12_isAt_25 : decode cX12_isAt 25 = .ok (.getfield 9, 3) := by decide +kernel
theorem dX12_isAt_28 : decode cX12_isAt 28 = .ok (.aload_n 0, 1) := by decide +kernel
theorem dX12_isAt_29 : decode cX12_isAt 29 = .ok (.getfield 187, 3) := by decide +kernel
theorem dX12_isAt_32 : decode cX12_isAt 32 = .ok (.baload, 1) := by decide +kernel
theorem dX12_isAt_33 : decode cX12_isAt 33 = .ok (.iload_n 2, 1) := by decide +kernel
theorem dX12_isAt_34 : decode cX12_isAt 34 = .ok (.if_icmp .gt 7, 3) := by decide +kernel
theorem dX12_isAt_37 : decode cX12_isAt 37 = .ok (.iconst 1, 1) := by decide +kernel
theorem dX12_isAt_38 : decode cX12_isAt 38 = .ok (.goto 4, 3) := by decide +kernel
theorem dX12_isAt_41 : decode cX12_isAt 41 = .ok (.iconst 0, 1) := by decide +kernel
theorem dX12_isAt_42 : decode cX12_isAt 42 = .ok (.ireturn, 1) := by decide +kernel
theorem dX12_blanksBetween_0 : decode cX12_blanksBetween 0 = .ok (.aload_n 0, 1) := by decide +kernel
theorem dX12_blanksBetween_1 : decode cX12_blanksBetween 1 = .ok (.bipush 32, 2) := by decide +kernel
theorem dX12_blanksBetween_3 : decode cX12_blanksBetween 3 = .ok (.bipush 32, 2) := by decide +kernel
theorem dX12_blanksBetween_5 : decode cX12_blanksBetween 5 = .ok (.invokevirtual 190, 3) := by decide +kernel
theorem dX12_blanksBetween_8 : decode cX12_blanksBetween 8 = .ok (.ifCond .eq 16, 3) := by decide +kernel
theorem dX12_blanksBetween_11 : decode cX12_blanksBetween 11 = .ok (.aload_n 0, 1) := by decide +kernel
theorem dX12_blanksBetween_12 : decode cX12_blanksBetween 12 = .ok (.dup, 1) := by decide +kernel
theorem dX12_blanksBetween_13 : decode cX12_blanksBetween 13 = .ok (.getfield 187, 3) := by decide +kernel
theorem dX12_blanksBetween_16 : decode cX12_blanksBetween 16 = .ok (.iconst 1, 1) := by decide +kernel
theorem dX12_blanksBetween_17 : decode cX12_blanksBetween 17 = .ok (.iadd, 1) := by decide +kernel
theorem dX12_blanksBetween_18 : decode cX12_blanksBetween 18 = .ok (.putfield 187, 3) := by decide +kernel
theorem dX12_blanksBetween_21 : decode cX12_blanksBetween 21 = .ok (.goto (-21), 3) := by decide +kernel
theorem dX12_blanksBetween_24 : decode cX12_blanksBetween 24 = .ok (.aload_n 0, 1) := by decide +kernel
theorem dX12_blanksBetween_25 : decode cX12_blanksBetween 25 = .ok (.aload_n 0, 1) := by decide +kernel
theorem dX12_blanksBetween_26 : decode cX12_blanksBetween 26 = .ok (.getfield 187, 3) := by decide +kernel
theorem dX12_blanksBetween_29 : decode cX12_blanksBetween 29 = .ok (.putfield 194, 3) := by decide +kernel
theorem dX12_blanksBetween_32 : decode cX12_blanksBetween 32 = .ok (.return_, 1) := by decide +kernel
theorem dX12_word_0 : decode cX12_word 0 = .ok (.aload_n 0, 1) := by decide +kernel
theorem dX12_word_1 : decode cX12_word 1 = .ok (.invokevirtual 197, 3) := by decide +kernel
theorem dX12_word_4 : decode cX12_word 4 = .ok (.aload_n 0, 1) := by decide +kernel
theorem dX12_word_5 : decode cX12_word 5 = .ok (.bipush 97, 2) := by decide +kernel
theorem dX12_word_7 : decode cX12_word 7 = .ok (.bipush 122, 2) := by decide +kernel
theorem dX12_word_9 : decode cX12_word 9 = .ok (.invokevirtual 190, 3) := by decide +kernel
theorem dX12_word_12 : decode cX12_word 12 = .ok (.ifCond .eq 16, 3) := by decide +kernel
theorem dX12_word_15 : decode cX12_word 15 = .ok (.aload_n 0, 1) := by decide +kernel
theorem dX12_word_16 : decode cX12_word 16 = .ok (.dup, 1) := by decide +kernel
theorem dX12_word_17 : decode cX12_word 17 = .ok (.getfield 187, 3) := by decide +kernel
theorem dX12_word_20 : decode cX12_word 20 = .ok (.iconst 1, 1) := by decide +kernel
theorem dX12_word_21 : decode cX12_word 21 = .ok (.iadd, 1) := by decide +kernel
theorem dX12_word_22 : decode cX12_word 22 = .ok (.putfield 187, 3) := by decide +kernel
theorem dX12_word_25 : decode cX12_word 25 = .ok (.goto (-21), 3) := by decide +kernel
theorem dX12_word_28 : decode cX12_word 28 = .ok (.return_, 1) := by decide +kernel
theorem dX12_isWord_0 : decode cX12_isWord 0 = .ok (.aload_n 0, 1) := by decide +kernel
theorem dX12_isWord_1 : decode cX12_isWord 1 = .ok (.getfield 187, 3) := by decide +kernel
theorem dX12_isWord_4 : decode cX12_isWord 4 = .ok (.aload_n 0, 1) := by decide +kernel
theorem dX12_isWord_5 : decode cX12_isWord 5 = .ok (.getfield 194, 3) := by decide +kernel
theorem dX12_isWord_8 : decode cX12_isWord 8 = .ok (.isub, 1) := by decide +kernel
theorem dX12_isWord_9 : decode cX12_isWord 9 = .ok (.aload_n 1, 1) := by decide +kernel
theorem dX12_isWord_10 : decode cX12_isWord 10 = .ok (.invokevirtual 200, 3) := by decide +kernel
theorem dX12_isWord_13 : decode cX12_isWord 13 = .ok (.if_icmp .ne 7, 3) := by decide +kernel
theorem dX12_isWord_16 : decode cX12_isWord 16 = .ok (.iconst 1, 1) := by decide +kernel
theorem dX12_isWord_17 : decode cX12_isWord 17 = .ok (.goto 4, 3) := by decide +kernel
theorem dX12_isWord_20 : decode cX12_isWord 20 = .ok (.iconst 0, 1) := by decide +kernel
theorem dX12_isWord_21 : decode cX12_isWord 21 = .ok (.istore_n 2, 1) := by decide +kernel
theorem dX12_isWord_22 : decode cX12_isWord 22 = .ok (.iconst 0, 1) := by decide +kernel
theorem dX12_isWord_23 : decode cX12_isWord 23 = .ok (.istore_n 3, 1) := by decide +kernel
theorem dX12_isWord_24 : decode cX12_isWord 24 = .ok (.iload_n 2, 1) := by decide +kernel
theorem dX12_isWord_25 : decode cX12_isWord 25 = .ok (.ifCond .eq 42, 3) := by decide +kernel
theorem dX12_isWord_28 : decode cX12_isWord 28 = .ok (.iload_n 3, 1) := by decide +kernel
theorem dX12_isWord_29 : decode cX12_isWord 29 = .ok (.aload_n 1, 1) := by decide +kernel
theorem dX12_isWord_30 : decode cX12_isWord 30 = .ok (.invokevirtual 200, 3) := by decide +kernel
theorem dX12_isWord_33 : decode cX12_isWord 33 = .ok (.if_icmp .ge 34, 3) := by decide +kernel
theorem dX12_isWord_36 : decode cX12_isWord 36 = .ok (.aload_n 0, 1) := by decide +kernel
theorem dX12_isWord_37 : decode cX12_isWord 37 = .ok (.getfield 9, 3) := by decide +kernel
theorem dX12_isWord_40 : decode cX12_isWord 40 = .ok (.aload_n 0, 1) := by decide +kernel
theorem dX12_isWord_41 : decode cX12_isWord 41 = .ok (.getfield 194, 3) := by decide +kernel
theorem dX12_isWord_44 : decode cX12_isWord 44 = .ok (.iload_n 3, 1) := by decide +kernel
theorem dX12_isWord_45 : decode cX12_isWord 45 = .ok (.iadd, 1) := by decide +kernel
theorem dX12_isWord_46 : decode cX12_isWord 46 = .ok (.baload, 1) := by decide +kernel
theorem dX12_isWord_47 : decode cX12_isWord 47 = .ok (.aload_n 1, 1) := by decide +kernel
theorem dX12_isWord_48 : decode cX12_isWord 48 = .ok (.iload_n 3, 1) := by decide +kernel
theorem dX12_isWord_49 : decode cX12_isWord 49 = .ok (.invokevirtual 206, 3) := by decide +kernel
theorem dX12_isWord_52 : decode cX12_isWord 52 = .ok (.if_icmp .ne 7, 3) := by decide +kernel
theorem dX12_isWord_55 : decode cX12_isWord 55 = .ok (.iconst 1, 1) := by decide +kernel
theorem dX12_isWord_56 : decode cX12_isWord 56 = .ok (.goto 4, 3) := by decide +kernel
theorem dX12_isWord_59 : decode cX12_isWord 59 = .ok (.iconst 0, 1) := by decide +kernel
theorem dX12_isWord_60 : decode cX12_isWord 60 = .ok (.istore_n 2, 1) := by decide +kernel
theorem dX12_isWord_61 : decode cX12_isWord 61 = .ok (.iinc 3 1, 3) := by decide +kernel
theorem dX12_isWord_64 : decode cX12_isWord 64 = .ok (.goto (-40), 3) := by decide +kernel
theorem dX12_isWord_67 : decode cX12_isWord 67 = .ok (.iload_n 2, 1) := by decide +kernel
theorem dX12_isWord_68 : decode cX12_isWord 68 = .ok (.ireturn, 1) := by decide +kernel
theorem dX12_passes_0 : decode cX12_passes 0 = .ok (.aload_n 0, 1) := by decide +kernel
theorem dX12_passes_1 : decode cX12_passes 1 = .ok (.invokevirtual 210, 3) := by decide +kernel
theorem dX12_passes_4 : decode cX12_passes 4 = .ok (.aload_n 0, 1) := by decide +kernel
theorem dX12_passes_5 : decode cX12_passes 5 = .ok (.aload_n 1, 1) := by decide +kernel
theorem dX12_passes_6 : decode cX12_passes 6 = .ok (.invokevirtual 213, 3) := by decide +kernel
theorem dX12_passes_9 : decode cX12_passes 9 = .ok (.ifCond .eq 5, 3) := by decide +kernel
theorem dX12_passes_12 : decode cX12_passes 12 = .ok (.iconst 1, 1) := by decide +kernel
theorem dX12_passes_13 : decode cX12_passes 13 = .ok (.ireturn, 1) := by decide +kernel
theorem dX12_passes_14 : decode cX12_passes 14 = .ok (.aload_n 0, 1) := by decide +kernel
theorem dX12_passes_15 : decode cX12_passes 15 = .ok (.aload_n 0, 1) := by decide +kernel
theorem dX12_passes_16 : decode cX12_passes 16 = .ok (.getfield 194, 3) := by decide +kernel
theorem dX12_passes_19 : decode cX12_passes 19 = .ok (.putfield 187, 3) := by decide +kernel
theorem dX12_passes_22 : decode cX12_passes 22 = .ok (.iconst 0, 1) := by decide +kernel
theorem dX12_passes_23 : decode cX12_passes 23 = .ok (.ireturn, 1) := by decide +kernel
theorem dX12_passesSign_0 : decode cX12_passesSign 0 = .ok (.aload_n 0, 1) := by decide +kernel
theorem dX12_passesSign_1 : decode cX12_passesSign 1 = .ok (.invokevirtual 197, 3) := by decide +kernel
theorem dX12_passesSign_4 : decode cX12_passesSign 4 = .ok (.aload_n 0, 1) := by decide +kernel
theorem dX12_passesSign_5 : decode cX12_passesSign 5 = .ok (.iload_n 1, 1) := by decide +kernel
theorem dX12_passesSign_6 : decode cX12_passesSign 6 = .ok (.iload_n 1, 1) := by decide +kernel
theorem dX12_passesSign_7 : decode cX12_passesSign 7 = .ok (.invokevirtual 190, 3) := by decide +kernel
theorem dX12_passesSign_10 : decode cX12_passesSign 10 = .ok (.ifCond .ne 5, 3) := by decide +kernel
theorem dX12_passesSign_13 : decode cX12_passesSign 13 = .ok (.iconst 0, 1) := by decide +kernel
theorem dX12_passesSign_14 : decode cX12_passesSign 14 = .ok (.ireturn, 1) := by decide +kernel
theorem dX12_passesSign_15 : decode cX12_passesSign 15 = .ok (.aload_n 0, 1) := by decide +kernel
theorem dX12_passesSign_16 : decode cX12_passesSign 16 = .ok (.dup, 1) := by decide +kernel
theorem dX12_passesSign_17 : decode cX12_passesSign 17 = .ok (.getfield 187, 3) := by decide +kernel
theorem dX12_passesSign_20 : decode cX12_passesSign 20 = .ok (.iconst 1, 1) := by decide +kernel
theorem dX12_passesSign_21 : decode cX12_passesSign 21 = .ok (.iadd, 1) := by decide +kernel
theorem dX12_passesSign_22 : decode cX12_passesSign 22 = .ok (.putfield 187, 3) := by decide +kernel
theorem dX12_passesSign_25 : decode cX12_passesSign 25 = .ok (.iconst 1, 1) := by decide +kernel
theorem dX12_passesSign_26 : decode cX12_passesSign 26 = .ok (.ireturn, 1) := by decide +kernel
theorem dX12_number_0 : decode cX12_number 0 = .ok (.aload_n 0, 1) := by decide +kernel
theorem dX12_number_1 : decode cX12_number 1 = .ok (.invokevirtual 197, 3) := by decide +kernel
theorem dX12_number_4 : decode cX12_number 4 = .ok (.iconst 0, 1) := by decide +kernel
theorem dX12_number_5 : decode cX12_number 5 = .ok (.istore_n 1, 1) := by decide +kernel
theorem dX12_number_6 : decode cX12_number 6 = .ok (.aload_n 0, 1) := by decide +kernel
theorem dX12_number_7 : decode cX12_number 7 = .ok (.bipush 48, 2) := by decide +kernel
theorem dX12_number_9 : decode cX12_number 9 = .ok (.bipush 57, 2) := by decide +kernel
theorem dX12_number_11 : decode cX12_number 11 = .ok (.invokevirtual 190, 3) := by decide +kernel
theorem dX12_number_14 : decode cX12_number 14 = .ok (.ifCond .eq 51, 3) := by decide +kernel
theorem dX12_number_17 : decode cX12_number 17 = .ok (.aload_n 0, 1) := by decide +kernel
theorem dX12_number_18 : decode cX12_number 18 = .ok (.getfield 187, 3) := by decide +kernel
theorem dX12_number_21 : decode cX12_number 21 = .ok (.aload_n 0, 1) := by decide +kernel
theorem dX12_number_22 : decode cX12_number 22 = .ok (.getfield 194, 3) := by decide +kernel
theorem dX12_number_25 : decode cX12_number 25 = .ok (.isub, 1) := by decide +kernel
theorem dX12_number_26 : decode cX12_number 26 = .ok (.iconst 4, 1) := by decide +kernel
theorem dX12_number_27 : decode cX12_number 27 = .ok (.if_icmp .ge 23, 3) := by decide +kernel
theorem dX12_number_30 : decode cX12_number 30 = .ok (.bipush 10, 2) := by decide +kernel
theorem dX12_number_32 : decode cX12_number 32 = .ok (.iload_n 1, 1) := by decide +kernel
theorem dX12_number_33 : decode cX12_number 33 = .ok (.imul, 1) := by decide +kernel
theorem dX12_number_34 : decode cX12_number 34 = .ok (.aload_n 0, 1) := by decide +kernel
theorem dX12_number_35 : decode cX12_number 35 = .ok (.getfield 9, 3) := by decide +kernel
theorem dX12_number_38 : decode cX12_number 38 = .ok (.aload_n 0, 1) := by decide +kernel
theorem dX12_number_39 : decode cX12_number 39 = .ok (.getfield 187, 3) := by decide +kernel
theorem dX12_number_42 : decode cX12_number 42 = .ok (.baload, 1) := by decide +kernel
theorem dX12_number_43 : decode cX12_number 43 = .ok (.iadd, 1) := by decide +kernel
theorem dX12_number_44 : decode cX12_number 44 = .ok (.bipush 48, 2) := by decide +kernel
theorem dX12_number_46 : decode cX12_number 46 = .ok (.isub, 1) := by decide +kernel
theorem dX12_number_47 : decode cX12_number 47 = .ok (.goto 4, 3) := by decide +kernel
theorem dX12_number_50 : decode cX12_number 50 = .ok (.iload_n 1, 1) := by decide +kernel
theorem dX12_number_51 : decode cX12_number 51 = .ok (.istore_n 1, 1) := by decide +kernel
theorem dX12_number_52 : decode cX12_number 52 = .ok (.aload_n 0, 1) := by decide +kernel
theorem dX12_number_53 : decode cX12_number 53 = .ok (.dup, 1) := by decide +kernel
theorem dX12_number_54 : decode cX12_number 54 = .ok (.getfield 187, 3) := by decide +kernel
theorem dX12_number_57 : decode cX12_number 57 = .ok (.iconst 1, 1) := by decide +kernel
theorem dX12_number_58 : decode cX12_number 58 = .ok (.iadd, 1) := by decide +kernel
theorem dX12_number_59 : decode cX12_number 59 = .ok (.putfield 187, 3) := by decide +kernel
theorem dX12_number_62 : decode cX12_number 62 = .ok (.goto (-56), 3) := by decide +kernel
theorem dX12_number_65 : decode cX12_number 65 = .ok (.aload_n 0, 1) := by decide +kernel
theorem dX12_number_66 : decode cX12_number 66 = .ok (.getfield 187, 3) := by decide +kernel
theorem dX12_number_69 : decode cX12_number 69 = .ok (.aload_n 0, 1) := by decide +kernel
theorem dX12_number_70 : decode cX12_number 70 = .ok (.getfield 194, 3) := by decide +kernel
theorem dX12_number_73 : decode cX12_number 73 = .ok (.if_icmp .eq 16, 3) := by decide +kernel
theorem dX12_number_76 : decode cX12_number 76 = .ok (.aload_n 0, 1) := by decide +kernel
theorem dX12_number_77 : decode cX12_number 77 = .ok (.getfield 187, 3) := by decide +kernel
theorem dX12_number_80 : decode cX12_number 80 = .ok (.aload_n 0, 1) := by decide +kernel
theorem dX12_number_81 : decode cX12_number 81 = .ok (.getfield 194, 3) := by decide +kernel
theorem dX12_number_84 : decode cX12_number 84 = .ok (.isub, 1) := by decide +kernel
theorem dX12_number_85 : decode cX12_number 85 = .ok (.iconst 4, 1) := by decide +kernel
theorem dX12_number_86 : decode cX12_number 86 = .ok (.if_icmp .le 7, 3) := by decide +kernel
theorem dX12_number_89 : decode cX12_number 89 = .ok (.iconst (-1), 1) := by decide +kernel
theorem dX12_number_90 : decode cX12_number 90 = .ok (.goto 4, 3) := by decide +kernel
theorem dX12_number_93 : decode cX12_number 93 = .ok (.iload_n 1, 1) := by decide +kernel
theorem dX12_number_94 : decode cX12_number 94 = .ok (.ireturn, 1) := by decide +kernel
theorem dX12_fault_0 : decode cX12_fault 0 = .ok (.aload_n 0, 1) := by decide +kernel
theorem dX12_fault_1 : decode cX12_fault 1 = .ok (.iconst 0, 1) := by decide +kernel
theorem dX12_fault_2 : decode cX12_fault 2 = .ok (.putfield 178, 3) := by decide +kernel
theorem dX12_fault_5 : decode cX12_fault 5 = .ok (.aload_n 0, 1) := by decide +kernel
theorem dX12_fault_6 : decode cX12_fault 6 = .ok (.getfield 13, 3) := by decide +kernel
theorem dX12_fault_9 : decode cX12_fault 9 = .ok (.ireturn, 1) := by decide +kernel
theorem dX12_adds_0 : decode cX12_adds 0 = .ok (.sipush 4800, 3) := by decide +kernel
theorem dX12_adds_3 : decode cX12_adds 3 = .ok (.aload_n 0, 1) := by decide +kernel
theorem dX12_adds_4 : decode cX12_adds 4 = .ok (.getfield 217, 3) := by decide +kernel
theorem dX12_adds_7 : decode cX12_adds 7 = .ok (.iadd, 1) := by decide +kernel
theorem dX12_adds_8 : decode cX12_adds 8 = .ok (.istore 4, 2) := by decide +kernel
theorem dX12_adds_10 : decode cX12_adds 10 = .ok (.aload_n 0, 1) := by decide +kernel
theorem dX12_adds_11 : decode cX12_adds 11 = .ok (.getfield 39, 3) := by decide +kernel
theorem dX12_adds_14 : decode cX12_adds 14 = .ok (.iload 4, 2) := by decide +kernel
theorem dX12_adds_16 : decode cX12_adds 16 = .ok (.iload_n 1, 1) := by decide +kernel
theorem dX12_adds_17 : decode cX12_adds 17 = .ok (.iastore, 1) := by decide +kernel
theorem dX12_adds_18 : decode cX12_adds 18 = .ok (.aload_n 0, 1) := by decide +kernel
theorem dX12_adds_19 : decode cX12_adds 19 = .ok (.getfield 42, 3) := by decide +kernel
theorem dX12_adds_22 : decode cX12_adds 22 = .ok (.iload 4, 2) := by decide +kernel
theorem dX12_adds_24 : decode cX12_adds 24 = .ok (.iload_n 2, 1) := by decide +kernel
theorem dX12_adds_25 : decode cX12_adds 25 = .ok (.iastore, 1) := by decide +kernel
theorem dX12_adds_26 : decode cX12_adds 26 = .ok (.aload_n 0, 1) := by decide +kernel
theorem dX12_adds_27 : decode cX12_adds 27 = .ok (.getfield 45, 3) := by decide +kernel
theorem dX12_adds_30 : decode cX12_adds 30 = .ok (.iload 4, 2) := by decide +kernel
theorem dX12_adds_32 : decode cX12_adds 32 = .ok (.iload_n 3, 1) := by decide +kernel
theorem dX12_adds_33 : decode cX12_adds 33 = .ok (.iastore, 1) := by decide +kernel
theorem dX12_adds_34 : decode cX12_adds 34 = .ok (.aload_n 0, 1) := by decide +kernel
theorem dX12_adds_35 : decode cX12_adds 35 = .ok (.dup, 1) := by decide +kernel
theorem dX12_adds_36 : decode cX12_adds 36 = .ok (.getfield 217, 3) := by decide +kernel
theorem dX12_adds_39 : decode cX12_adds 39 = .ok (.iconst 1, 1) := by decide +kernel
theorem dX12_adds_40 : decode cX12_adds 40 = .ok (.iadd, 1) := by decide +kernel
theorem dX12_adds_41 : decode cX12_adds 41 = .ok (.putfield 217, 3) := by decide +kernel
theorem dX12_adds_44 : decode cX12_adds 44 = .ok (.return_, 1) := by decide +kernel
theorem dX12_fact_0 : decode cX12_fact 0 = .ok (.iload_n 0, 1) := by decide +kernel
theorem dX12_fact_1 : decode cX12_fact 1 = .ok (.tableswitch 71 0 7 #[47, 50, 53, 56, 59, 62, 65, 68], 47) := by decide +kernel
theorem dX12_fact_48 : decode cX12_fact 48 = .ok (.ldc 220, 2) := by decide +kernel
theorem dX12_fact_50 : decode cX12_fact 50 = .ok (.areturn, 1) := by decide +kernel
theorem dX12_fact_51 : decode cX12_fact 51 = .ok (.ldc 222, 2) := by decide +kernel
theorem dX12_fact_53 : decode cX12_fact 53 = .ok (.areturn, 1) := by decide +kernel
theorem dX12_fact_54 : decode cX12_fact 54 = .ok (.ldc 224, 2) := by decide +kernel
theorem dX12_fact_56 : decode cX12_fact 56 = .ok (.areturn, 1) := by decide +kernel
theorem dX12_fact_57 : decode cX12_fact 57 = .ok (.ldc 226, 2) := by decide +kernel
theorem dX12_fact_59 : decode cX12_fact 59 = .ok (.areturn, 1) := by decide +kernel
theorem dX12_fact_60 : decode cX12_fact 60 = .ok (.ldc 228, 2) := by decide +kernel
theorem dX12_fact_62 : decode cX12_fact 62 = .ok (.areturn, 1) := by decide +kernel
theorem dX12_fact_63 : decode cX12_fact 63 = .ok (.ldc 230, 2) := by decide +kernel
theorem dX12_fact_65 : decode cX12_fact 65 = .ok (.areturn, 1) := by decide +kernel
theorem dX12_fact_66 : decode cX12_fact 66 = .ok (.ldc 232, 2) := by decide +kernel
theorem dX12_fact_68 : decode cX12_fact 68 = .ok (.areturn, 1) := by decide +kernel
theorem dX12_fact_69 : decode cX12_fact 69 = .ok (.ldc 234, 2) := by decide +kernel
theorem dX12_fact_71 : decode cX12_fact 71 = .ok (.areturn, 1) := by decide +kernel
theorem dX12_fact_72 : decode cX12_fact 72 = .ok (.ldc 236, 2) := by decide +kernel
theorem dX12_fact_74 : decode cX12_fact 74 = .ok (.areturn, 1) := by decide +kernel
theorem dX12_item_0 : decode cX12_item 0 = .ok (.iload_n 0, 1) := by decide +kernel
theorem dX12_item_1 : decode cX12_item 1 = .ok (.tableswitch 64 0 6 #[43, 46, 49, 52, 55, 58, 61], 43) := by decide +kernel
theorem dX12_item_44 : decode cX12_item 44 = .ok (.ldc 238, 2) := by decide +kernel
theorem dX12_item_46 : decode cX12_item 46 = .ok (.areturn, 1) := by decide +kernel
theorem dX12_item_47 : decode cX12_item 47 = .ok (.ldc 240, 2) := by decide +kernel
theorem dX12_item_49 : decode cX12_item 49 = .ok (.areturn, 1) := by decide +kernel
theorem dX12_item_50 : decode cX12_item 50 = .ok (.ldc 242, 2) := by decide +kernel
theorem dX12_item_52 : decode cX12_item 52 = .ok (.areturn, 1) := by decide +kernel
theorem dX12_item_53 : decode cX12_item 53 = .ok (.ldc 244, 2) := by decide +kernel
theorem dX12_item_55 : decode cX12_item 55 = .ok (.areturn, 1) := by decide +kernel
theorem dX12_item_56 : decode cX12_item 56 = .ok (.ldc 246, 2) := by decide +kernel
theorem dX12_item_58 : decode cX12_item 58 = .ok (.areturn, 1) := by decide +kernel
theorem dX12_item_59 : decode cX12_item 59 = .ok (.ldc 248, 2) := by decide +kernel
theorem dX12_item_61 : decode cX12_item 61 = .ok (.areturn, 1) := by decide +kernel
theorem dX12_item_62 : decode cX12_item 62 = .ok (.ldc 250, 2) := by decide +kernel
theorem dX12_item_64 : decode cX12_item 64 = .ok (.areturn, 1) := by decide +kernel
theorem dX12_item_65 : decode cX12_item 65 = .ok (.ldc 252, 2) := by decide +kernel
theorem dX12_item_67 : decode cX12_item 67 = .ok (.areturn, 1) := by decide +kernel
theorem dX12_readAtom_0 : decode cX12_readAtom 0 = .ok (.aload_n 0, 1) := by decide +kernel
theorem dX12_readAtom_1 : decode cX12_readAtom 1 = .ok (.bipush 40, 2) := by decide +kernel
theorem dX12_readAtom_3 : decode cX12_readAtom 3 = .ok (.invokevirtual 254, 3) := by decide +kernel
theorem dX12_readAtom_6 : decode cX12_readAtom 6 = .ok (.ifCond .eq 50, 3) := by decide +kernel
theorem dX12_readAtom_9 : decode cX12_readAtom 9 = .ok (.aload_n 0, 1) := by decide +kernel
theorem dX12_readAtom_10 : decode cX12_readAtom 10 = .ok (.getfield 258, 3) := by decide +kernel
theorem dX12_readAtom_13 : decode cX12_readAtom 13 = .ok (.bipush 8, 2) := by decide +kernel
theorem dX12_readAtom_15 : decode cX12_readAtom 15 = .ok (.if_icmp .ne 5, 3) := by decide +kernel
theorem dX12_readAtom_18 : decode cX12_readAtom 18 = .ok (.iconst 0, 1) := by decide +kernel
theorem dX12_readAtom_19 : decode cX12_readAtom 19 = .ok (.ireturn, 1) := by decide +kernel
theorem dX12_readAtom_20 : decode cX12_readAtom 20 = .ok (.aload_n 0, 1) := by decide +kernel
theorem dX12_readAtom_21 : decode cX12_readAtom 21 = .ok (.dup, 1) := by decide +kernel
theorem dX12_readAtom_22 : decode cX12_readAtom 22 = .ok (.getfield 258, 3) := by decide +kernel
theorem dX12_readAtom_25 : decode cX12_readAtom 25 = .ok (.iconst 1, 1) := by decide +kernel
theorem dX12_readAtom_26 : decode cX12_readAtom 26 = .ok (.iadd, 1) := by decide +kernel
theorem dX12_readAtom_27 : decode cX12_readAtom 27 = .ok (.putfield 258, 3) := by decide +kernel
theorem dX12_readAtom_30 : decode cX12_readAtom 30 = .ok (.aload_n 0, 1) := by decide +kernel
theorem dX12_readAtom_31 : decode cX12_readAtom 31 = .ok (.invokevirtual 261, 3) := by decide +kernel
theorem dX12_readAtom_34 : decode cX12_readAtom 34 = .ok (.ifCond .ne 5, 3) := by decide +kernel
theorem dX12_readAtom_37 : decode cX12_readAtom 37 = .ok (.iconst 0, 1) := by decide +kernel
theorem dX12_readAtom_38 : decode cX12_readAtom 38 = .ok (.ireturn, 1) := by decide +kernel
theorem dX12_readAtom_39 : decode cX12_readAtom 39 = .ok (.aload_n 0, 1) := by decide +kernel
theorem dX12_readAtom_40 : decode cX12_readAtom 40 = .ok (.dup, 1) := by decide +kernel
theorem dX12_readAtom_41 : decode cX12_readAtom 41 = .ok (.getfield 258, 3) := by decide +kernel
theorem dX12_readAtom_44 : decode cX12_readAtom 44 = .ok (.iconst 1, 1) := by decide +kernel
theorem dX12_readAtom_45 : decode cX12_readAtom 45 = .ok (.isub, 1) := by decide +kernel
theorem dX12_readAtom_46 : decode cX12_readAtom 46 = .ok (.putfield 258, 3) := by decide +kernel
theorem dX12_readAtom_49 : decode cX12_readAtom 49 = .ok (.aload_n 0, 1) := by decide +kernel
theorem dX12_readAtom_50 : decode cX12_readAtom 50 = .ok (.bipush 41, 2) := by decide +kernel
theorem dX12_readAtom_52 : decode cX12_readAtom 52 = .ok (.invokevirtual 254, 3) := by decide +kernel
theorem dX12_readAtom_55 : decode cX12_readAtom 55 = .ok (.ireturn, 1) := by decide +kernel
theorem dX12_readAtom_56 : decode cX12_readAtom 56 = .ok (.aload_n 0, 1) := by decide +kernel
theorem dX12_readAtom_57 : decode cX12_readAtom 57 = .ok (.ldc_w 265, 3) := by decide +kernel
theorem dX12_readAtom_60 : decode cX12_readAtom 60 = .ok (.invokevirtual 267, 3) := by decide +kernel
theorem dX12_readAtom_63 : decode cX12_readAtom 63 = .ok (.ifCond .eq 53, 3) := by decide +kernel
theorem dX12_readAtom_66 : decode cX12_readAtom 66 = .ok (.aload_n 0, 1) := by decide +kernel
theorem dX12_readAtom_67 : decode cX12_readAtom 67 = .ok (.getfield 258, 3) := by decide +kernel
theorem dX12_readAtom_70 : decode cX12_readAtom 70 = .ok (.bipush 8, 2) := by decide +kernel
theorem dX12_readAtom_72 : decode cX12_readAtom 72 = .ok (.if_icmp .ne 5, 3) := by decide +kernel
theorem dX12_readAtom_75 : decode cX12_readAtom 75 = .ok (.iconst 0, 1) := by decide +kernel
theorem dX12_readAtom_76 : decode cX12_readAtom 76 = .ok (.ireturn, 1) := by decide +kernel
theorem dX12_readAtom_77 : decode cX12_readAtom 77 = .ok (.aload_n 0, 1) := by decide +kernel
theorem dX12_readAtom_78 : decode cX12_readAtom 78 = .ok (.dup, 1) := by decide +kernel
theorem dX12_readAtom_79 : decode cX12_readAtom 79 = .ok (.getfield 258, 3) := by decide +kernel
theorem dX12_readAtom_82 : decode cX12_readAtom 82 = .ok (.iconst 1, 1) := by decide +kernel
theorem dX12_readAtom_83 : decode cX12_readAtom 83 = .ok (.iadd, 1) := by decide +kernel
theorem dX12_readAtom_84 : decode cX12_readAtom 84 = .ok (.putfield 258, 3) := by decide +kernel
theorem dX12_readAtom_87 : decode cX12_readAtom 87 = .ok (.aload_n 0, 1) := by decide +kernel
theorem dX12_readAtom_88 : decode cX12_readAtom 88 = .ok (.invokevirtual 270, 3) := by decide +kernel
theorem dX12_readAtom_91 : decode cX12_readAtom 91 = .ok (.ifCond .ne 5, 3) := by decide +kernel
theorem dX12_readAtom_94 : decode cX12_readAtom 94 = .ok (.iconst 0, 1) := by decide +kernel
theorem dX12_readAtom_95 : decode cX12_readAtom 95 = .ok (.ireturn, 1) := by decide +kernel
theorem dX12_readAtom_96 : decode cX12_readAtom 96 = .ok (.aload_n 0, 1) := by decide +kernel
theorem dX12_readAtom_97 : decode cX12_readAtom 97 = .ok (.dup, 1) := by decide +kernel
theorem dX12_readAtom_98 : decode cX12_readAtom 98 = .ok (.getfield 258, 3) := by decide +kernel
theorem dX12_readAtom_101 : decode cX12_readAtom 101 = .ok (.iconst 1, 1) := by decide +kernel
theorem dX12_readAtom_102 : decode cX12_readAtom 102 = .ok (.isub, 1) := by decide +kernel
theorem dX12_readAtom_103 : decode cX12_readAtom 103 = .ok (.putfield 258, 3) := by decide +kernel
theorem dX12_readAtom_106 : decode cX12_readAtom 106 = .ok (.aload_n 0, 1) := by decide +kernel
theorem dX12_readAtom_107 : decode cX12_readAtom 107 = .ok (.bipush 100, 2) := by decide +kernel
theorem dX12_readAtom_109 : decode cX12_readAtom 109 = .ok (.iconst 0, 1) := by decide +kernel
theorem dX12_readAtom_110 : decode cX12_readAtom 110 = .ok (.iconst 0, 1) := by decide +kernel
theorem dX12_readAtom_111 : decode cX12_readAtom 111 = .ok (.invokevirtual 273, 3) := by decide +kernel
theorem dX12_readAtom_114 : decode cX12_readAtom 114 = .ok (.iconst 1, 1) := by decide +kernel
theorem dX12_readAtom_115 : decode cX12_readAtom 115 = .ok (.ireturn, 1) := by decide +kernel
theorem dX12_readAtom_116 : decode cX12_readAtom 116 = .ok (.aload_n 0, 1) := by decide +kernel
theorem dX12_readAtom_117 : decode cX12_readAtom 117 = .ok (.invokevirtual 210, 3) := by decide +kernel
theorem dX12_readAtom_120 : decode cX12_readAtom 120 = .ok (.iconst 0, 1) := by decide +kernel
theorem dX12_readAtom_121 : decode cX12_readAtom 121 = .ok (.istore_n 1, 1) := by decide +kernel
theorem dX12_readAtom_122 : decode cX12_readAtom 122 = .ok (.iload_n 1, 1) := by decide +kernel
theorem dX12_readAtom_123 : decode cX12_readAtom 123 = .ok (.bipush 9, 2) := by decide +kernel
theorem dX12_readAtom_125 : decode cX12_readAtom 125 = .ok (.if_icmp .ge 20, 3) := by decide +kernel
theorem dX12_readAtom_128 : decode cX12_readAtom 128 = .ok (.aload_n 0, 1) := by decide +kernel
theorem dX12_readAtom_129 : decode cX12_readAtom 129 = .ok (.iload_n 1, 1) := by decide +kernel
theorem dX12_readAtom_130 : decode cX12_readAtom 130 = .ok (.invokestatic 277, 3) := by decide +kernel
theorem dX12_readAtom_133 : decode cX12_readAtom 133 = .ok (.invokevirtual 213, 3) := by decide +kernel
theorem dX12_readAtom_136 : decode cX12_readAtom 136 = .ok (.ifCond .ne 9, 3) := by decide +kernel
theorem dX12_readAtom_139 : decode cX12_readAtom 139 = .ok (.iinc 1 1, 3) := by decide +kernel
theorem dX12_readAtom_142 : decode cX12_readAtom 142 = .ok (.goto (-20), 3) := by decide +kernel
theorem dX12_readAtom_145 : decode cX12_readAtom 145 = .ok (.iload_n 1, 1) := by decide +kernel
theorem dX12_readAtom_146 : decode cX12_readAtom 146 = .ok (.bipush 9, 2) := by decide +kernel
theorem dX12_readAtom_148 : decode cX12_readAtom 148 = .ok (.if_icmp .ne 5, 3) := by decide +kernel
theorem dX12_readAtom_151 : decode cX12_readAtom 151 = .ok (.iconst 0, 1) := by decide +kernel
theorem dX12_readAtom_152 : decode cX12_readAtom 152 = .ok (.ireturn, 1) := by decide +kernel
theorem dX12_readAtom_153 : decode cX12_readAtom 153 = .ok (.aload_n 0, 1) := by decide +kernel
theorem dX12_readAtom_154 : decode cX12_readAtom 154 = .ok (.invokevirtual 197, 3) := by decide +kernel
theorem dX12_readAtom_157 : decode cX12_readAtom 157 = .ok (.aload_n 0, 1) := by decide +kernel
theorem dX12_readAtom_158 : decode cX12_readAtom 158 = .ok (.bipush 60, 2) := by decide +kernel
theorem dX12_readAtom_160 : decode cX12_readAtom 160 = .ok (.bipush 60, 2) := by decide +kernel
theorem dX12_readAtom_162 : decode cX12_readAtom 162 = .ok (.invokevirtual 190, 3) := by decide +kernel
theorem dX12_readAtom_165 : decode cX12_readAtom 165 = .ok (.ifCond .eq 7, 3) := by decide +kernel
theorem dX12_readAtom_168 : decode cX12_readAtom 168 = .ok (.iconst 1, 1) := by decide +kernel
theorem dX12_readAtom_169 : decode cX12_readAtom 169 = .ok (.goto 19, 3) := by decide +kernel
theorem dX12_readAtom_172 : decode cX12_readAtom 172 = .ok (.aload_n 0, 1) := by decide +kernel
theorem dX12_readAtom_173 : decode cX12_readAtom 173 = .ok (.bipush 62, 2) := by decide +kernel
theorem dX12_readAtom_175 : decode cX12_readAtom 175 = .ok (.bipush 62, 2) := by decide +kernel
theorem dX12_readAtom_177 : decode cX12_readAtom 177 = .ok (.invokevirtual 190, 3) := by decide +kernel
theorem dX12_readAtom_180 : decode cX12_readAtom 180 = .ok (.ifCond .eq 7, 3) := by decide +kernel
theorem dX12_readAtom_183 : decode cX12_readAtom 183 = .ok (.iconst 2, 1) := by decide +kernel
theorem dX12_readAtom_184 : decode cX12_readAtom 184 = .ok (.goto 4, 3) := by decide +kernel
theorem dX12_readAtom_187 : decode cX12_readAtom 187 = .ok (.iconst 0, 1) := by decide +kernel
theorem dX12_readAtom_188 : decode cX12_readAtom 188 = .ok (.istore_n 2, 1) := by decide +kernel
theorem dX12_readAtom_189 : decode cX12_readAtom 189 = .ok (.iload_n 2, 1) := by decide +kernel
theorem dX12_readAtom_190 : decode cX12_readAtom 190 = .ok (.ifCond .le 13, 3) := by decide +kernel
theorem dX12_readAtom_193 : decode cX12_readAtom 193 = .ok (.aload_n 0, 1) := by decide +kernel
theorem dX12_readAtom_194 : decode cX12_readAtom 194 = .ok (.dup, 1) := by decide +kernel
theorem dX12_readAtom_195 : decode cX12_readAtom 195 = .ok (.getfield 187, 3) := by decide +kernel
theorem dX12_readAtom_198 : decode cX12_readAtom 198 = .ok (.iconst 1, 1) := by decide +kernel
theorem dX12_readAtom_199 : decode cX12_readAtom 199 = .ok (.iadd, 1) := by decide +kernel
theorem dX12_readAtom_200 : decode cX12_readAtom 200 = .ok (.putfield 187, 3) := by decide +kernel
theorem dX12_readAtom_203 : decode cX12_readAtom 203 = .ok (.iload_n 2, 1) := by decide +kernel
theorem dX12_readAtom_204 : decode cX12_readAtom 204 = .ok (.ifCond .le 10, 3) := by decide +kernel
theorem dX12_readAtom_207 : decode cX12_readAtom 207 = .ok (.aload_n 0, 1) := by decide +kernel
theorem dX12_readAtom_208 : decode cX12_readAtom 208 = .ok (.invokevirtual 281, 3) := by decide +kernel
theorem dX12_readAtom_211 : decode cX12_readAtom 211 = .ok (.goto 4, 3) := by decide +kernel
theorem dX12_readAtom_214 : decode cX12_readAtom 214 = .ok (.iconst 0, 1) := by decide +kernel
theorem dX12_readAtom_215 : decode cX12_readAtom 215 = .ok (.istore_n 3, 1) := by decide +kernel
theorem dX12_readAtom_216 : decode cX12_readAtom 216 = .ok (.iload_n 3, 1) := by decide +kernel
theorem dX12_readAtom_217 : decode cX12_readAtom 217 = .ok (.ifCond .ge 5, 3) := by decide +kernel
theorem dX12_readAtom_220 : decode cX12_readAtom 220 = .ok (.iconst 0, 1) := by decide +kernel
theorem dX12_readAtom_221 : decode cX12_readAtom 221 = .ok (.ireturn, 1) := by decide +kernel
theorem dX12_readAtom_222 : decode cX12_readAtom 222 = .ok (.aload_n 0, 1) := by decide +kernel
theorem dX12_readAtom_223 : decode cX12_readAtom 223 = .ok (.iload_n 1, 1) := by decide +kernel
theorem dX12_readAtom_224 : decode cX12_readAtom 224 = .ok (.iload_n 2, 1) := by decide +kernel
theorem dX12_readAtom_225 : decode cX12_readAtom 225 = .ok (.iload_n 3, 1) := by decide +kernel
theorem dX12_readAtom_226 : decode cX12_readAtom 226 = .ok (.invokevirtual 273, 3) := by decide +kernel
theorem dX12_readAtom_229 : decode cX12_readAtom 229 = .ok (.iconst 1, 1) := by decide +kernel
theorem dX12_readAtom_230 : decode cX12_readAtom 230 = .ok (.ireturn, 1) := by decide +kernel
theorem dX12_readAllOf_0 : decode cX12_readAllOf 0 = .ok (.aload_n 0, 1) := by decide +kernel
theorem dX12_readAllOf_1 : decode cX12_readAllOf 1 = .ok (.invokevirtual 270, 3) := by decide +kernel
theorem dX12_readAllOf_4 : decode cX12_readAllOf 4 = .ok (.ifCond .ne 5, 3) := by decide +kernel
theorem dX12_readAllOf_7 : decode cX12_readAllOf 7 = .ok (.iconst 0, 1) := by decide +kernel
theorem dX12_readAllOf_8 : decode cX12_readAllOf 8 = .ok (.ireturn, 1) := by decide +kernel
theorem dX12_readAllOf_9 : decode cX12_readAllOf 9 = .ok (.aload_n 0, 1) := by decide +kernel
theorem dX12_readAllOf_10 : decode cX12_readAllOf 10 = .ok (.ldc_w 284, 3) := by decide +kernel
theorem dX12_readAllOf_13 : decode cX12_readAllOf 13 = .ok (.invokevirtual 267, 3) := by decide +kernel
theorem dX12_readAllOf_16 : decode cX12_readAllOf 16 = .ok (.ifCond .eq 23, 3) := by decide +kernel
theorem dX12_readAllOf_19 : decode cX12_readAllOf 19 = .ok (.aload_n 0, 1) := by decide +kernel
theorem dX12_readAllOf_20 : decode cX12_readAllOf 20 = .ok (.invokevirtual 270, 3) := by decide +kernel
theorem dX12_readAllOf_23 : decode cX12_readAllOf 23 = .ok (.ifCond .ne 5, 3) := by decide +kernel
theorem dX12_readAllOf_26 : decode cX12_readAllOf 26 = .ok (.iconst 0, 1) := by decide +kernel
theorem dX12_readAllOf_27 : decode cX12_readAllOf 27 = .ok (.ireturn, 1) := by decide +kernel
theorem dX12_readAllOf_28 : decode cX12_readAllOf 28 = .ok (.aload_n 0, 1) := by decide +kernel
theorem dX12_readAllOf_29 : decode cX12_readAllOf 29 = .ok (.bipush 101, 2) := by decide +kernel
theorem dX12_readAllOf_31 : decode cX12_readAllOf 31 = .ok (.iconst 0, 1) := by decide +kernel
theorem dX12_readAllOf_32 : decode cX12_readAllOf 32 = .ok (.iconst 0, 1) := by decide +kernel
theorem dX12_readAllOf_33 : decode cX12_readAllOf 33 = .ok (.invokevirtual 273, 3) := by decide +kernel
theorem dX12_readAllOf_36 : decode cX12_readAllOf 36 = .ok (.goto (-27), 3) := by decide +kernel
theorem dX12_readAllOf_39 : decode cX12_readAllOf 39 = .ok (.iconst 1, 1) := by decide +kernel
theorem dX12_readAllOf_40 : decode cX12_readAllOf 40 = .ok (.ireturn, 1) := by decide +kernel
theorem dX12_readCond_0 : decode cX12_readCond 0 = .ok (.aload_n 0, 1) := by decide +kernel
theorem dX12_readCond_1 : decode cX12_readCond 1 = .ok (.invokevirtual 286, 3) := by decide +kernel
theorem dX12_readCond_4 : decode cX12_readCond 4 = .ok (.ifCond .ne 5, 3) := by decide +kernel
theorem dX12_readCond_7 : decode cX12_readCond 7 = .ok (.iconst 0, 1) := by decide +kernel
theorem dX12_readCond_8 : decode cX12_readCond 8 = .ok (.ireturn, 1) := by decide +kernel
theorem dX12_readCond_9 : decode cX12_readCond 9 = .ok (.aload_n 0, 1) := by decide +kernel
theorem dX12_readCond_10 : decode cX12_readCond 10 = .ok (.ldc_w 289, 3) := by decide +kernel
theorem dX12_readCond_13 : decode cX12_readCond 13 = .ok (.invokevirtual 267, 3) := by decide +kernel
theorem dX12_readCond_16 : decode cX12_readCond 16 = .ok (.ifCond .eq 23, 3) := by decide +kernel
theorem dX12_readCond_19 : decode cX12_readCond 19 = .ok (.aload_n 0, 1) := by decide +kernel
theorem dX12_readCond_20 : decode cX12_readCond 20 = .ok (.invokevirtual 286, 3) := by decide +kernel
theorem dX12_readCond_23 : decode cX12_readCond 23 = .ok (.ifCond .ne 5, 3) := by decide +kernel
theorem dX12_readCond_26 : decode cX12_readCond 26 = .ok (.iconst 0, 1) := by decide +kernel
theorem dX12_readCond_27 : decode cX12_readCond 27 = .ok (.ireturn, 1) := by decide +kernel
theorem dX12_readCond_28 : decode cX12_readCond 28 = .ok (.aload_n 0, 1) := by decide +kernel
theorem dX12_readCond_29 : decode cX12_readCond 29 = .ok (.bipush 102, 2) := by decide +kernel
theorem dX12_readCond_31 : decode cX12_readCond 31 = .ok (.iconst 0, 1) := by decide +kernel
theorem dX12_readCond_32 : decode cX12_readCond 32 = .ok (.iconst 0, 1) := by decide +kernel
theorem dX12_readCond_33 : decode cX12_readCond 33 = .ok (.invokevirtual 273, 3) := by decide +kernel
theorem dX12_readCond_36 : decode cX12_readCond 36 = .ok (.goto (-27), 3) := by decide +kernel
theorem dX12_readCond_39 : decode cX12_readCond 39 = .ok (.iconst 1, 1) := by decide +kernel
theorem dX12_readCond_40 : decode cX12_readCond 40 = .ok (.ireturn, 1) := by decide +kernel
theorem dX12_readClause_0 : decode cX12_readClause 0 = .ok (.aload_n 0, 1) := by decide +kernel
theorem dX12_readClause_1 : decode cX12_readClause 1 = .ok (.invokevirtual 210, 3) := by decide +kernel
theorem dX12_readClause_4 : decode cX12_readClause 4 = .ok (.iload_n 1, 1) := by decide +kernel
theorem dX12_readClause_5 : decode cX12_readClause 5 = .ok (.bipush 16, 2) := by decide +kernel
theorem dX12_readClause_7 : decode cX12_readClause 7 = .ok (.if_icmp .ne 5, 3) := by decide +kernel
theorem dX12_readClause_10 : decode cX12_readClause 10 = .ok (.iconst 0, 1) := by decide +kernel
theorem dX12_readClause_11 : decode cX12_readClause 11 = .ok (.ireturn, 1) := by decide +kernel
theorem dX12_readClause_12 : decode cX12_readClause 12 = .ok (.sipush 192, 3) := by decide +kernel
theorem dX12_readClause_15 : decode cX12_readClause 15 = .ok (.iload_n 1, 1) := by decide +kernel
theorem dX12_readClause_16 : decode cX12_readClause 16 = .ok (.iadd, 1) := by decide +kernel
theorem dX12_readClause_17 : decode cX12_readClause 17 = .ok (.istore_n 2, 1) := by decide +kernel
theorem dX12_readClause_18 : decode cX12_readClause 18 = .ok (.aload_n 0, 1) := by decide +kernel
theorem dX12_readClause_19 : decode cX12_readClause 19 = .ok (.getfield 27, 3) := by decide +kernel
theorem dX12_readClause_22 : decode cX12_readClause 22 = .ok (.iload_n 2, 1) := by decide +kernel
theorem dX12_readClause_23 : decode cX12_readClause 23 = .ok (.aload_n 0, 1) := by decide +kernel
theorem dX12_readClause_24 : decode cX12_readClause 24 = .ok (.ldc_w 291, 3) := by decide +kernel
theorem dX12_readClause_27 : decode cX12_readClause 27 = .ok (.invokevirtual 213, 3) := by decide +kernel
theorem dX12_readClause_30 : decode cX12_readClause 30 = .ok (.ifCond .eq 7, 3) := by decide +kernel
theorem dX12_readClause_33 : decode cX12_readClause 33 = .ok (.iconst 0, 1) := by decide +kernel
theorem dX12_readClause_34 : decode cX12_readClause 34 = .ok (.goto 74, 3) := by decide +kernel
theorem dX12_readClause_37 : decode cX12_readClause 37 = .ok (.aload_n 0, 1) := by decide +kernel
theorem dX12_readClause_38 : decode cX12_readClause 38 = .ok (.ldc_w 293, 3) := by decide +kernel
theorem dX12_readClause_41 : decode cX12_readClause 41 = .ok (.invokevirtual 213, 3) := by decide +kernel
theorem dX12_readClause_44 : decode cX12_readClause 44 = .ok (.ifCond .eq 7, 3) := by decide +kernel
theorem dX12_readClause_47 : decode cX12_readClause 47 = .ok (.iconst 1, 1) := by decide +kernel
theorem dX12_readClause_48 : decode cX12_readClause 48 = .ok (.goto 60, 3) := by decide +kernel
theorem dX12_readClause_51 : decode cX12_readClause 51 = .ok (.aload_n 0, 1) := by decide +kernel
theorem dX12_readClause_52 : decode cX12_readClause 52 = .ok (.ldc_w 295, 3) := by decide +kernel
theorem dX12_readClause_55 : decode cX12_readClause 55 = .ok (.invokevirtual 213, 3) := by decide +kernel
theorem dX12_readClause_58 : decode cX12_readClause 58 = .ok (.ifCond .eq 7, 3) := by decide +kernel
theorem dX12_readClause_61 : decode cX12_readClause 61 = .ok (.iconst 2, 1) := by decide +kernel
theorem dX12_readClause_62 : decode cX12_readClause 62 = .ok (.goto 46, 3) := by decide +kernel
theorem dX12_readClause_65 : decode cX12_readClause 65 = .ok (.aload_n 0, 1) := by decide +kernel
theorem dX12_readClause_66 : decode cX12_readClause 66 = .ok (.ldc_w 297, 3) := by decide +kernel
theorem dX12_readClause_69 : decode cX12_readClause 69 = .ok (.invokevirtual 213, 3) := by decide +kernel
theorem dX12_readClause_72 : decode cX12_readClause 72 = .ok (.ifCond .eq 7, 3) := by decide +kernel
theorem dX12_readClause_75 : decode cX12_readClause 75 = .ok (.iconst 3, 1) := by decide +kernel
theorem dX12_readClause_76 : decode cX12_readClause 76 = .ok (.goto 32, 3) := by decide +kernel
theorem dX12_readClause_79 : decode cX12_readClause 79 = .ok (.aload_n 0, 1) := by decide +kernel
theorem dX12_readClause_80 : decode cX12_readClause 80 = .ok (.ldc_w 299, 3) := by decide +kernel
theorem dX12_readClause_83 : decode cX12_readClause 83 = .ok (.invokevirtual 213, 3) := by decide +kernel
theorem dX12_readClause_86 : decode cX12_readClause 86 = .ok (.ifCond .eq 7, 3) := by decide +kernel
theorem dX12_readClause_89 : decode cX12_readClause 89 = .ok (.iconst 4, 1) := by decide +kernel
theorem dX12_readClause_90 : decode cX12_readClause 90 = .ok (.goto 18, 3) := by decide +kernel
theorem dX12_readClause_93 : decode cX12_readClause 93 = .ok (.aload_n 0, 1) := by decide +kernel
theorem dX12_readClause_94 : decode cX12_readClause 94 = .ok (.ldc_w 301, 3) := by decide +kernel
theorem dX12_readClause_97 : decode cX12_readClause 97 = .ok (.invokevirtual 213, 3) := by decide +kernel
theorem dX12_readClause_100 : decode cX12_readClause 100 = .ok (.ifCond .eq 7, 3) := by decide +kernel
theorem dX12_readClause_103 : decode cX12_readClause 103 = .ok (.iconst 5, 1) := by decide +kernel
theorem dX12_readClause_104 : decode cX12_readClause 104 = .ok (.goto 4, 3) := by decide +kernel
theorem dX12_readClause_107 : decode cX12_readClause 107 = .ok (.iconst (-1), 1) := by decide +kernel
theorem dX12_readClause_108 : decode cX12_readClause 108 = .ok (.iastore, 1) := by decide +kernel
theorem dX12_readClause_109 : decode cX12_readClause 109 = .ok (.aload_n 0, 1) := by decide +kernel
theorem dX12_readClause_110 : decode cX12_readClause 110 = .ok (.getfield 27, 3) := by decide +kernel
theorem dX12_readClause_113 : decode cX12_readClause 113 = .ok (.iload_n 2, 1) := by decide +kernel
theorem dX12_readClause_114 : decode cX12_readClause 114 = .ok (.iaload, 1) := by decide +kernel
theorem dX12_readClause_115 : decode cX12_readClause 115 = .ok (.ifCond .ge 5, 3) := by decide +kernel
theorem dX12_readClause_118 : decode cX12_readClause 118 = .ok (.iconst 0, 1) := by decide +kernel
theorem dX12_readClause_119 : decode cX12_readClause 119 = .ok (.ireturn, 1) := by decide +kernel
theorem dX12_readClause_120 : decode cX12_readClause 120 = .ok (.aload_n 0, 1) := by decide +kernel
theorem dX12_readClause_121 : decode cX12_readClause 121 = .ok (.getfield 27, 3) := by decide +kernel
theorem dX12_readClause_124 : decode cX12_readClause 124 = .ok (.iload_n 2, 1) := by decide +kernel
theorem dX12_readClause_125 : decode cX12_readClause 125 = .ok (.iaload, 1) := by decide +kernel
theorem dX12_readClause_126 : decode cX12_readClause 126 = .ok (.ifCond .ne 52, 3) := by decide +kernel
theorem dX12_readClause_129 : decode cX12_readClause 129 = .ok (.aload_n 0, 1) := by decide +kernel
theorem dX12_readClause_130 : decode cX12_readClause 130 = .ok (.invokevirtual 210, 3) := by decide +kernel
theorem dX12_readClause_133 : decode cX12_readClause 133 = .ok (.iconst 0, 1) := by decide +kernel
theorem dX12_readClause_134 : decode cX12_readClause 134 = .ok (.istore_n 3, 1) := by decide +kernel
theorem dX12_readClause_135 : decode cX12_readClause 135 = .ok (.iload_n 3, 1) := by decide +kernel
theorem dX12_readClause_136 : decode cX12_readClause 136 = .ok (.bipush 8, 2) := by decide +kernel
theorem dX12_readClause_138 : decode cX12_readClause 138 = .ok (.if_icmp .ge 20, 3) := by decide +kernel
theorem dX12_readClause_141 : decode cX12_readClause 141 = .ok (.aload_n 0, 1) := by decide +kernel
theorem dX12_readClause_142 : decode cX12_readClause 142 = .ok (.iload_n 3, 1) := by decide +kernel
theorem dX12_readClause_143 : decode cX12_readClause 143 = .ok (.invokestatic 303, 3) := by decide +kernel
theorem dX12_readClause_146 : decode cX12_readClause 146 = .ok (.invokevirtual 213, 3) := by decide +kernel
theorem dX12_readClause_149 : decode cX12_readClause 149 = .ok (.ifCond .ne 9, 3) := by decide +kernel
theorem dX12_readClause_152 : decode cX12_readClause 152 = .ok (.iinc 3 1, 3) := by decide +kernel
theorem dX12_readClause_155 : decode cX12_readClause 155 = .ok (.goto (-20), 3) := by decide +kernel
theorem dX12_readClause_158 : decode cX12_readClause 158 = .ok (.iload_n 3, 1) := by decide +kernel
theorem dX12_readClause_159 : decode cX12_readClause 159 = .ok (.bipush 8, 2) := by decide +kernel
theorem dX12_readClause_161 : decode cX12_readClause 161 = .ok (.if_icmp .ne 5, 3) := by decide +kernel
theorem dX12_readClause_164 : decode cX12_readClause 164 = .ok (.iconst 0, 1) := by decide +kernel
theorem dX12_readClause_165 : decode cX12_readClause 165 = .ok (.ireturn, 1) := by decide +kernel
theorem dX12_readClause_166 : decode cX12_readClause 166 = .ok (.aload_n 0, 1) := by decide +kernel
theorem dX12_readClause_167 : decode cX12_readClause 167 = .ok (.getfield 30, 3) := by decide +kernel
theorem dX12_readClause_170 : decode cX12_readClause 170 = .ok (.iload_n 2, 1) := by decide +kernel
theorem dX12_readClause_171 : decode cX12_readClause 171 = .ok (.iconst 1, 1) := by decide +kernel
theorem dX12_readClause_172 : decode cX12_readClause 172 = .ok (.iload_n 3, 1) := by decide +kernel
theorem dX12_readClause_173 : decode cX12_readClause 173 = .ok (.ishl, 1) := by decide +kernel
theorem dX12_readClause_174 : decode cX12_readClause 174 = .ok (.iastore, 1) := by decide +kernel
theorem dX12_readClause_175 : decode cX12_readClause 175 = .ok (.goto 34, 3) := by decide +kernel
theorem dX12_readClause_178 : decode cX12_readClause 178 = .ok (.aload_n 0, 1) := by decide +kernel
theorem dX12_readClause_179 : decode cX12_readClause 179 = .ok (.getfield 27, 3) := by decide +kernel
theorem dX12_readClause_182 : decode cX12_readClause 182 = .ok (.iload_n 2, 1) := by decide +kernel
theorem dX12_readClause_183 : decode cX12_readClause 183 = .ok (.iaload, 1) := by decide +kernel
theorem dX12_readClause_184 : decode cX12_readClause 184 = .ok (.iconst 4, 1) := by decide +kernel
theorem dX12_readClause_185 : decode cX12_readClause 185 = .ok (.if_icmp .eq 24, 3) := by decide +kernel
theorem dX12_readClause_188 : decode cX12_readClause 188 = .ok (.aload_n 0, 1) := by decide +kernel
theorem dX12_readClause_189 : decode cX12_readClause 189 = .ok (.getfield 30, 3) := by decide +kernel
theorem dX12_readClause_192 : decode cX12_readClause 192 = .ok (.iload_n 2, 1) := by decide +kernel
theorem dX12_readClause_193 : decode cX12_readClause 193 = .ok (.aload_n 0, 1) := by decide +kernel
theorem dX12_readClause_194 : decode cX12_readClause 194 = .ok (.invokevirtual 281, 3) := by decide +kernel
theorem dX12_readClause_197 : decode cX12_readClause 197 = .ok (.iastore, 1) := by decide +kernel
theorem dX12_readClause_198 : decode cX12_readClause 198 = .ok (.aload_n 0, 1) := by decide +kernel
theorem dX12_readClause_199 : decode cX12_readClause 199 = .ok (.getfield 30, 3) := by decide +kernel
theorem dX12_readClause_202 : decode cX12_readClause 202 = .ok (.iload_n 2, 1) := by decide +kernel
theorem dX12_readClause_203 : decode cX12_readClause 203 = .ok (.iaload, 1) := by decide +kernel
theorem dX12_readClause_204 : decode cX12_readClause 204 = .ok (.ifCond .ge 5, 3) := by decide +kernel
theorem dX12_readClause_207 : decode cX12_readClause 207 = .ok (.iconst 0, 1) := by decide +kernel
theorem dX12_readClause_208 : decode cX12_readClause 208 = .ok (.ireturn, 1) := by decide +kernel
theorem dX12_readClause_209 : decode cX12_readClause 209 = .ok (.aload_n 0, 1) := by decide +kernel
theorem dX12_readClause_210 : decode cX12_readClause 210 = .ok (.getfield 33, 3) := by decide +kernel
theorem dX12_readClause_213 : decode cX12_readClause 213 = .ok (.iload_n 2, 1) := by decide +kernel
theorem dX12_readClause_214 : decode cX12_readClause 214 = .ok (.aload_n 0, 1) := by decide +kernel
theorem dX12_readClause_215 : decode cX12_readClause 215 = .ok (.getfield 217, 3) := by decide +kernel
theorem dX12_readClause_218 : decode cX12_readClause 218 = .ok (.iastore, 1) := by decide +kernel
theorem dX12_readClause_219 : decode cX12_readClause 219 = .ok (.aload_n 0, 1) := by decide +kernel
theorem dX12_readClause_220 : decode cX12_readClause 220 = .ok (.ldc_w 306, 3) := by decide +kernel
theorem dX12_readClause_223 : decode cX12_readClause 223 = .ok (.invokevirtual 267, 3) := by decide +kernel
theorem dX12_readClause_226 : decode cX12_readClause 226 = .ok (.ifCond .eq 17, 3) := by decide +kernel
theorem dX12_readClause_229 : decode cX12_readClause 229 = .ok (.aload_n 0, 1) := by decide +kernel
theorem dX12_readClause_230 : decode cX12_readClause 230 = .ok (.iconst 0, 1) := by decide +kernel
theorem dX12_readClause_231 : decode cX12_readClause 231 = .ok (.putfield 258, 3) := by decide +kernel
theorem dX12_readClause_234 : decode cX12_readClause 234 = .ok (.aload_n 0, 1) := by decide +kernel
theorem dX12_readClause_235 : decode cX12_readClause 235 = .ok (.invokevirtual 261, 3) := by decide +kernel
theorem dX12_readClause_238 : decode cX12_readClause 238 = .ok (.ifCond .ne 5, 3) := by decide +kernel
theorem dX12_readClause_241 : decode cX12_readClause 241 = .ok (.iconst 0, 1) := by decide +kernel
theorem dX12_readClause_242 : decode cX12_readClause 242 = .ok (.ireturn, 1) := by decide +kernel
theorem dX12_readClause_243 : decode cX12_readClause 243 = .ok (.aload_n 0, 1) := by decide +kernel
theorem dX12_readClause_244 : decode cX12_readClause 244 = .ok (.getfield 36, 3) := by decide +kernel
theorem dX12_readClause_247 : decode cX12_readClause 247 = .ok (.iload_n 2, 1) := by decide +kernel
theorem dX12_readClause_248 : decode cX12_readClause 248 = .ok (.aload_n 0, 1) := by decide +kernel
theorem dX12_readClause_249 : decode cX12_readClause 249 = .ok (.getfield 217, 3) := by decide +kernel
theorem dX12_readClause_252 : decode cX12_readClause 252 = .ok (.iastore, 1) := by decide +kernel
theorem dX12_readClause_253 : decode cX12_readClause 253 = .ok (.iconst 1, 1) := by decide +kernel
theorem dX12_readClause_254 : decode cX12_readClause 254 = .ok (.ireturn, 1) := by decide +kernel
theorem dX12_readLaw_0 : decode cX12_readLaw 0 = .ok (.aload_n 0, 1) := by decide +kernel
theorem dX12_readLaw_1 : decode cX12_readLaw 1 = .ok (.iconst 0, 1) := by decide +kernel
theorem dX12_readLaw_2 : decode cX12_readLaw 2 = .ok (.putfield 217, 3) := by decide +kernel
theorem dX12_readLaw_5 : decode cX12_readLaw 5 = .ok (.aload_n 0, 1) := by decide +kernel
theorem dX12_readLaw_6 : decode cX12_readLaw 6 = .ok (.invokevirtual 197, 3) := by decide +kernel
theorem dX12_readLaw_9 : decode cX12_readLaw 9 = .ok (.aload_n 0, 1) := by decide +kernel
theorem dX12_readLaw_10 : decode cX12_readLaw 10 = .ok (.getfield 187, 3) := by decide +kernel
theorem dX12_readLaw_13 : decode cX12_readLaw 13 = .ok (.aload_n 0, 1) := by decide +kernel
theorem dX12_readLaw_14 : decode cX12_readLaw 14 = .ok (.getfield 184, 3) := by decide +kernel
theorem dX12_readLaw_17 : decode cX12_readLaw 17 = .ok (.if_icmp .ne 5, 3) := by decide +kernel
theorem dX12_readLaw_20 : decode cX12_readLaw 20 = .ok (.iconst 0, 1) := by decide +kernel
theorem dX12_readLaw_21 : decode cX12_readLaw 21 = .ok (.ireturn, 1) := by decide +kernel
theorem dX12_readLaw_22 : decode cX12_readLaw 22 = .ok (.iconst 0, 1) := by decide +kernel
theorem dX12_readLaw_23 : decode cX12_readLaw 23 = .ok (.istore_n 1, 1) := by decide +kernel
theorem dX12_readLaw_24 : decode cX12_readLaw 24 = .ok (.aload_n 0, 1) := by decide +kernel
theorem dX12_readLaw_25 : decode cX12_readLaw 25 = .ok (.iload_n 1, 1) := by decide +kernel
theorem dX12_readLaw_26 : decode cX12_readLaw 26 = .ok (.invokevirtual 308, 3) := by decide +kernel
theorem dX12_readLaw_29 : decode cX12_readLaw 29 = .ok (.ifCond .ne 5, 3) := by decide +kernel
theorem dX12_readLaw_32 : decode cX12_readLaw 32 = .ok (.iconst (-1), 1) := by decide +kernel
theorem dX12_readLaw_33 : decode cX12_readLaw 33 = .ok (.ireturn, 1) := by decide +kernel
theorem dX12_readLaw_34 : decode cX12_readLaw 34 = .ok (.aload_n 0, 1) := by decide +kernel
theorem dX12_readLaw_35 : decode cX12_readLaw 35 = .ok (.invokevirtual 197, 3) := by decide +kernel
theorem dX12_readLaw_38 : decode cX12_readLaw 38 = .ok (.aload_n 0, 1) := by decide +kernel
theorem dX12_readLaw_39 : decode cX12_readLaw 39 = .ok (.getfield 187, 3) := by decide +kernel
theorem dX12_readLaw_42 : decode cX12_readLaw 42 = .ok (.aload_n 0, 1) := by decide +kernel
theorem dX12_readLaw_43 : decode cX12_readLaw 43 = .ok (.getfield 184, 3) := by decide +kernel
theorem dX12_readLaw_46 : decode cX12_readLaw 46 = .ok (.if_icmp .ne 7, 3) := by decide +kernel
theorem dX12_readLaw_49 : decode cX12_readLaw 49 = .ok (.iload_n 1, 1) := by decide +kernel
theorem dX12_readLaw_50 : decode cX12_readLaw 50 = .ok (.iconst 1, 1) := by decide +kernel
theorem dX12_readLaw_51 : decode cX12_readLaw 51 = .ok (.iadd, 1) := by decide +kernel
theorem dX12_readLaw_52 : decode cX12_readLaw 52 = .ok (.ireturn, 1) := by decide +kernel
theorem dX12_readLaw_53 : decode cX12_readLaw 53 = .ok (.aload_n 0, 1) := by decide +kernel
theorem dX12_readLaw_54 : decode cX12_readLaw 54 = .ok (.bipush 59, 2) := by decide +kernel
theorem dX12_readLaw_56 : decode cX12_readLaw 56 = .ok (.bipush 59, 2) := by decide +kernel
theorem dX12_readLaw_58 : decode cX12_readLaw 58 = .ok (.invokevirtual 190, 3) := by decide +kernel
theorem dX12_readLaw_61 : decode cX12_readLaw 61 = .ok (.ifCond .ne 5, 3) := by decide +kernel
theorem dX12_readLaw_64 : decode cX12_readLaw 64 = .ok (.iconst (-1), 1) := by decide +kernel
theorem dX12_readLaw_65 : decode cX12_readLaw 65 = .ok (.ireturn, 1) := by decide +kernel
theorem dX12_readLaw_66 : decode cX12_readLaw 66 = .ok (.aload_n 0, 1) := by decide +kernel
theorem dX12_readLaw_67 : decode cX12_readLaw 67 = .ok (.dup, 1) := by decide +kernel
theorem dX12_readLaw_68 : decode cX12_readLaw 68 = .ok (.getfield 187, 3) := by decide +kernel
theorem dX12_readLaw_71 : decode cX12_readLaw 71 = .ok (.iconst 1, 1) := by decide +kernel
theorem dX12_readLaw_72 : decode cX12_readLaw 72 = .ok (.iadd, 1) := by decide +kernel
theorem dX12_readLaw_73 : decode cX12_readLaw 73 = .ok (.putfield 187, 3) := by decide +kernel
theorem dX12_readLaw_76 : decode cX12_readLaw 76 = .ok (.iinc 1 1, 3) := by decide +kernel
theorem dX12_readLaw_79 : decode cX12_readLaw 79 = .ok (.goto (-55), 3) := by decide +kernel
theorem dX12_law_0 : decode cX12_law 0 = .ok (.aload_n 0, 1) := by decide +kernel
theorem dX12_law_1 : decode cX12_law 1 = .ok (.invokevirtual 311, 3) := by decide +kernel
theorem dX12_law_4 : decode cX12_law 4 = .ok (.aload_n 0, 1) := by decide +kernel
theorem dX12_law_5 : decode cX12_law 5 = .ok (.iload_n 1, 1) := by decide +kernel
theorem dX12_law_6 : decode cX12_law 6 = .ok (.aload_n 0, 1) := by decide +kernel
theorem dX12_law_7 : decode cX12_law 7 = .ok (.getfield 314, 3) := by decide +kernel
theorem dX12_law_10 : decode cX12_law 10 = .ok (.sipush 1000, 3) := by decide +kernel
theorem dX12_law_13 : decode cX12_law 13 = .ok (.invokestatic 317, 3) := by decide +kernel
theorem dX12_law_16 : decode cX12_law 16 = .ok (.ifCond .ne 7, 3) := by decide +kernel
theorem dX12_law_19 : decode cX12_law 19 = .ok (.iconst 1, 1) := by decide +kernel
theorem dX12_law_20 : decode cX12_law 20 = .ok (.goto 4, 3) := by decide +kernel
theorem dX12_law_23 : decode cX12_law 23 = .ok (.iconst 0, 1) := by decide +kernel
theorem dX12_law_24 : decode cX12_law 24 = .ok (.iconst 1, 1) := by decide +kernel
theorem dX12_law_25 : decode cX12_law 25 = .ok (.invokevirtual 321, 3) := by decide +kernel
theorem dX12_law_28 : decode cX12_law 28 = .ok (.ifCond .eq 5, 3) := by decide +kernel
theorem dX12_law_31 : decode cX12_law 31 = .ok (.iconst 0, 1) := by decide +kernel
theorem dX12_law_32 : decode cX12_law 32 = .ok (.ireturn, 1) := by decide +kernel
theorem dX12_law_33 : decode cX12_law 33 = .ok (.aload_n 0, 1) := by decide +kernel
theorem dX12_law_34 : decode cX12_law 34 = .ok (.invokevirtual 325, 3) := by decide +kernel
theorem dX12_law_37 : decode cX12_law 37 = .ok (.istore_n 2, 1) := by decide +kernel
theorem dX12_law_38 : decode cX12_law 38 = .ok (.aload_n 0, 1) := by decide +kernel
theorem dX12_law_39 : decode cX12_law 39 = .ok (.iload_n 2, 1) := by decide +kernel
theorem dX12_law_40 : decode cX12_law 40 = .ok (.ifCond .ge 10, 3) := by decide +kernel
theorem dX12_law_43 : decode cX12_law 43 = .ok (.aload_n 0, 1) := by decide +kernel
theorem dX12_law_44 : decode cX12_law 44 = .ok (.getfield 194, 3) := by decide +kernel
theorem dX12_law_47 : decode cX12_law 47 = .ok (.goto 4, 3) := by decide +kernel
theorem dX12_law_50 : decode cX12_law 50 = .ok (.iconst (-1), 1) := by decide +kernel
theorem dX12_law_51 : decode cX12_law 51 = .ok (.putfield 13, 3) := by decide +kernel
theorem dX12_law_54 : decode cX12_law 54 = .ok (.aload_n 0, 1) := by decide +kernel
theorem dX12_law_55 : decode cX12_law 55 = .ok (.iload_n 2, 1) := by decide +kernel
theorem dX12_law_56 : decode cX12_law 56 = .ok (.ifCond .ge 7, 3) := by decide +kernel
theorem dX12_law_59 : decode cX12_law 59 = .ok (.iconst 1, 1) := by decide +kernel
theorem dX12_law_60 : decode cX12_law 60 = .ok (.goto 4, 3) := by decide +kernel
theorem dX12_law_63 : decode cX12_law 63 = .ok (.iconst 0, 1) := by decide +kernel
theorem dX12_law_64 : decode cX12_law 64 = .ok (.iconst 1, 1) := by decide +kernel
theorem dX12_law_65 : decode cX12_law 65 = .ok (.invokevirtual 321, 3) := by decide +kernel
theorem dX12_law_68 : decode cX12_law 68 = .ok (.ifCond .ne 25, 3) := by decide +kernel
theorem dX12_law_71 : decode cX12_law 71 = .ok (.aload_n 0, 1) := by decide +kernel
theorem dX12_law_72 : decode cX12_law 72 = .ok (.aload_n 0, 1) := by decide +kernel
theorem dX12_law_73 : decode cX12_law 73 = .ok (.getfield 328, 3) := by decide +kernel
theorem dX12_law_76 : decode cX12_law 76 = .ok (.bipush 12, 2) := by decide +kernel
theorem dX12_law_78 : decode cX12_law 78 = .ok (.if_icmp .ne 7, 3) := by decide +kernel
theorem dX12_law_81 : decode cX12_law 81 = .ok (.iconst 1, 1) := by decide +kernel
theorem dX12_law_82 : decode cX12_law 82 = .ok (.goto 4, 3) := by decide +kernel
theorem dX12_law_85 : decode cX12_law 85 = .ok (.iconst 0, 1) := by decide +kernel
theorem dX12_law_86 : decode cX12_law 86 = .ok (.iconst 2, 1) := by decide +kernel
theorem dX12_law_87 : decode cX12_law 87 = .ok (.invokevirtual 321, 3) := by decide +kernel
theorem dX12_law_90 : decode cX12_law 90 = .ok (.ifCond .eq 5, 3) := by decide +kernel
theorem dX12_law_93 : decode cX12_law 93 = .ok (.iconst 0, 1) := by decide +kernel
theorem dX12_law_94 : decode cX12_law 94 = .ok (.ireturn, 1) := by decide +kernel
theorem dX12_law_95 : decode cX12_law 95 = .ok (.aload_n 0, 1) := by decide +kernel
theorem dX12_law_96 : decode cX12_law 96 = .ok (.getfield 21, 3) := by decide +kernel
theorem dX12_law_99 : decode cX12_law 99 = .ok (.aload_n 0, 1) := by decide +kernel
theorem dX12_law_100 : decode cX12_law 100 = .ok (.getfield 328, 3) := by decide +kernel
theorem dX12_law_103 : decode cX12_law 103 = .ok (.iload_n 1, 1) := by decide +kernel
theorem dX12_law_104 : decode cX12_law 104 = .ok (.iastore, 1) := by decide +kernel
theorem dX12_law_105 : decode cX12_law 105 = .ok (.aload_n 0, 1) := by decide +kernel
theorem dX12_law_106 : decode cX12_law 106 = .ok (.getfield 24, 3) := by decide +kernel
theorem dX12_law_109 : decode cX12_law 109 = .ok (.aload_n 0, 1) := by decide +kernel
theorem dX12_law_110 : decode cX12_law 110 = .ok (.getfield 328, 3) := by decide +kernel
theorem dX12_law_113 : decode cX12_law 113 = .ok (.iload_n 2, 1) := by decide +kernel
theorem dX12_law_114 : decode cX12_law 114 = .ok (.iastore, 1) := by decide +kernel
theorem dX12_law_115 : decode cX12_law 115 = .ok (.iconst 0, 1) := by decide +kernel
theorem dX12_law_116 : decode cX12_law 116 = .ok (.istore_n 3, 1) := by decide +kernel
theorem dX12_law_117 : decode cX12_law 117 = .ok (.iload_n 3, 1) := by decide +kernel
theorem dX12_law_118 : decode cX12_law 118 = .ok (.iload_n 2, 1) := by decide +kernel
theorem dX12_law_119 : decode cX12_law 119 = .ok (.if_icmp .ge 105, 3) := by decide +kernel
theorem dX12_law_122 : decode cX12_law 122 = .ok (.aload_n 0, 1) := by decide +kernel
theorem dX12_law_123 : decode cX12_law 123 = .ok (.getfield 27, 3) := by decide +kernel
theorem dX12_law_126 : decode cX12_law 126 = .ok (.bipush 16, 2) := by decide +kernel
theorem dX12_law_128 : decode cX12_law 128 = .ok (.aload_n 0, 1) := by decide +kernel
theorem dX12_law_129 : decode cX12_law 129 = .ok (.getfield 328, 3) := by decide +kernel
theorem dX12_law_132 : decode cX12_law 132 = .ok (.imul, 1) := by decide +kernel
theorem dX12_law_133 : decode cX12_law 133 = .ok (.iload_n 3, 1) := by decide +kernel
theorem dX12_law_134 : decode cX12_law 134 = .ok (.iadd, 1) := by decide +kernel
theorem dX12_law_135 : decode cX12_law 135 = .ok (.aload_n 0, 1) := by decide +kernel
theorem dX12_law_136 : decode cX12_law 136 = .ok (.getfield 27, 3) := by decide +kernel
theorem dX12_law_139 : decode cX12_law 139 = .ok (.sipush 192, 3) := by decide +kernel
theorem dX12_law_142 : decode cX12_law 142 = .ok (.iload_n 3, 1) := by decide +kernel
theorem dX12_law_143 : decode cX12_law 143 = .ok (.iadd, 1) := by decide +kernel
theorem dX12_law_144 : decode cX12_law 144 = .ok (.iaload, 1) := by decide +kernel
theorem dX12_law_145 : decode cX12_law 145 = .ok (.iastore, 1) := by decide +kernel
theorem dX12_law_146 : decode cX12_law 146 = .ok (.aload_n 0, 1) := by decide +kernel
theorem dX12_law_147 : decode cX12_law 147 = .ok (.getfield 30, 3) := by decide +kernel
theorem dX12_law_150 : decode cX12_law 150 = .ok (.bipush 16, 2) := by decide +kernel
theorem dX12_law_152 : decode cX12_law 152 = .ok (.aload_n 0, 1) := by decide +kernel
theorem dX12_law_153 : decode cX12_law 153 = .ok (.getfield 328, 3) := by decide +kernel
theorem dX12_law_156 : decode cX12_law 156 = .ok (.imul, 1) := by decide +kernel
theorem dX12_law_157 : decode cX12_law 157 = .ok (.iload_n 3, 1) := by decide +kernel
theorem dX12_law_158 : decode cX12_law 158 = .ok (.iadd, 1) := by decide +kernel
theorem dX12_law_159 : decode cX12_law 159 = .ok (.aload_n 0, 1) := by decide +kernel
theorem dX12_law_160 : decode cX12_law 160 = .ok (.getfield 30, 3) := by decide +kernel
theorem dX12_law_163 : decode cX12_law 163 = .ok (.sipush 192, 3) := by decide +kernel
theorem dX12_law_166 : decode cX12_law 166 = .ok (.iload_n 3, 1) := by decide +kernel
theorem dX12_law_167 : decode cX12_law 167 = .ok (.iadd, 1) := by decide +kernel
theorem dX12_law_168 : decode cX12_law 168 = .ok (.iaload, 1) := by decide +kernel
theorem dX12_law_169 : decode cX12_law 169 = .ok (.iastore, 1) := by decide +kernel
theorem dX12_law_170 : decode cX12_law 170 = .ok (.aload_n 0, 1) := by decide +kernel
theorem dX12_law_171 : decode cX12_law 171 = .ok (.getfield 33, 3) := by decide +kernel
theorem dX12_law_174 : decode cX12_law 174 = .ok (.bipush 16, 2) := by decide +kernel
theorem dX12_law_176 : decode cX12_law 176 = .ok (.aload_n 0, 1) := by decide +kernel
theorem dX12_law_177 : decode cX12_law 177 = .ok (.getfield 328, 3) := by decide +kernel
theorem dX12_law_180 : decode cX12_law 180 = .ok (.imul, 1) := by decide +kernel
theorem dX12_law_181 : decode cX12_law 181 = .ok (.iload_n 3, 1) := by decide +kernel
theorem dX12_law_182 : decode cX12_law 182 = .ok (.iadd, 1) := by decide +kernel
theorem dX12_law_183 : decode cX12_law 183 = .ok (.aload_n 0, 1) := by decide +kernel
theorem dX12_law_184 : decode cX12_law 184 = .ok (.getfield 33, 3) := by decide +kernel
theorem dX12_law_187 : decode cX12_law 187 = .ok (.sipush 192, 3) := by decide +kernel
theorem dX12_law_190 : decode cX12_law 190 = .ok (.iload_n 3, 1) := by decide +kernel
theorem dX12_law_191 : decode cX12_law 191 = .ok (.iadd, 1) := by decide +kernel
theorem dX12_law_192 : decode cX12_law 192 = .ok (.iaload, 1) := by decide +kernel
theorem dX12_law_193 : decode cX12_law 193 = .ok (.iastore, 1) := by decide +kernel
theorem dX12_law_194 : decode cX12_law 194 = .ok (.aload_n 0, 1) := by decide +kernel
theorem dX12_law_195 : decode cX12_law 195 = .ok (.getfield 36, 3) := by decide +kernel
theorem dX12_law_198 : decode cX12_law 198 = .ok (.bipush 16, 2) := by decide +kernel
theorem dX12_law_200 : decode cX12_law 200 = .ok (.aload_n 0, 1) := by decide +kernel
theorem dX12_law_201 : decode cX12_law 201 = .ok (.getfield 328, 3) := by decide +kernel
theorem dX12_law_204 : decode cX12_law 204 = .ok (.imul, 1) := by decide +kernel
theorem dX12_law_205 : decode cX12_law 205 = .ok (.iload_n 3, 1) := by decide +kernel
theorem dX12_law_206 : decode cX12_law 206 = .ok (.iadd, 1) := by decide +kernel
theorem dX12_law_207 : decode cX12_law 207 = .ok (.aload_n 0, 1) := by decide +kernel
theorem dX12_law_208 : decode cX12_law 208 = .ok (.getfield 36, 3) := by decide +kernel
theorem dX12_law_211 : decode cX12_law 211 = .ok (.sipush 192, 3) := by decide +kernel
theorem dX12_law_214 : decode cX12_law 214 = .ok (.iload_n 3, 1) := by decide +kernel
theorem dX12_law_215 : decode cX12_law 215 = .ok (.iadd, 1) := by decide +kernel
theorem dX12_law_216 : decode cX12_law 216 = .ok (.iaload, 1) := by decide +kernel
theorem dX12_law_217 : decode cX12_law 217 = .ok (.iastore, 1) := by decide +kernel
theorem dX12_law_218 : decode cX12_law 218 = .ok (.iinc 3 1, 3) := by decide +kernel
theorem dX12_law_221 : decode cX12_law 221 = .ok (.goto (-104), 3) := by decide +kernel
theorem dX12_law_224 : decode cX12_law 224 = .ok (.iconst 0, 1) := by decide +kernel
theorem dX12_law_225 : decode cX12_law 225 = .ok (.istore_n 3, 1) := by decide +kernel
theorem dX12_law_226 : decode cX12_law 226 = .ok (.iload_n 3, 1) := by decide +kernel
theorem dX12_law_227 : decode cX12_law 227 = .ok (.aload_n 0, 1) := by decide +kernel
theorem dX12_law_228 : decode cX12_law 228 = .ok (.getfield 217, 3) := by decide +kernel
theorem dX12_law_231 : decode cX12_law 231 = .ok (.if_icmp .ge 84, 3) := by decide +kernel
theorem dX12_law_234 : decode cX12_law 234 = .ok (.aload_n 0, 1) := by decide +kernel
theorem dX12_law_235 : decode cX12_law 235 = .ok (.getfield 39, 3) := by decide +kernel
theorem dX12_law_238 : decode cX12_law 238 = .ok (.sipush 400, 3) := by decide +kernel
theorem dX12_law_241 : decode cX12_law 241 = .ok (.aload_n 0, 1) := by decide +kernel
theorem dX12_law_242 : decode cX12_law 242 = .ok (.getfield 328, 3) := by decide +kernel
theorem dX12_law_245 : decode cX12_law 245 = .ok (.imul, 1) := by decide +kernel
theorem dX12_law_246 : decode cX12_law 246 = .ok (.iload_n 3, 1) := by decide +kernel
theorem dX12_law_247 : decode cX12_law 247 = .ok (.iadd, 1) := by decide +kernel
theorem dX12_law_248 : decode cX12_law 248 = .ok (.aload_n 0, 1) := by decide +kernel
theorem dX12_law_249 : decode cX12_law 249 = .ok (.getfield 39, 3) := by decide +kernel
theorem dX12_law_252 : decode cX12_law 252 = .ok (.sipush 4800, 3) := by decide +kernel
theorem dX12_law_255 : decode cX12_law 255 = .ok (.iload_n 3, 1) := by decide +kernel
theorem dX12_law_256 : decode cX12_law 256 = .ok (.iadd, 1) := by decide +kernel
theorem dX12_law_257 : decode cX12_law 257 = .ok (.iaload, 1) := by decide +kernel
theorem dX12_law_258 : decode cX12_law 258 = .ok (.iastore, 1) := by decide +kernel
theorem dX12_law_259 : decode cX12_law 259 = .ok (.aload_n 0, 1) := by decide +kernel
theorem dX12_law_260 : decode cX12_law 260 = .ok (.getfield 42, 3) := by decide +kernel
theorem dX12_law_263 : decode cX12_law 263 = .ok (.sipush 400, 3) := by decide +kernel
theorem dX12_law_266 : decode cX12_law 266 = .ok (.aload_n 0, 1) := by decide +kernel
theorem dX12_law_267 : decode cX12_law 267 = .ok (.getfield 328, 3) := by decide +kernel
theorem dX12_law_270 : decode cX12_law 270 = .ok (.imul, 1) := by decide +kernel
theorem dX12_law_271 : decode cX12_law 271 = .ok (.iload_n 3, 1) := by decide +kernel
theorem dX12_law_272 : decode cX12_law 272 = .ok (.iadd, 1) := by decide +kernel
theorem dX12_law_273 : decode cX12_law 273 = .ok (.aload_n 0, 1) := by decide +kernel
theorem dX12_law_274 : decode cX12_law 274 = .ok (.getfield 42, 3) := by decide +kernel
theorem dX12_law_277 : decode cX12_law 277 = .ok (.sipush 4800, 3) := by decide +kernel
theorem dX12_law_280 : decode cX12_law 280 = .ok (.iload_n 3, 1) := by decide +kernel
theorem dX12_law_281 : decode cX12_law 281 = .ok (.iadd, 1) := by decide +kernel
theorem dX12_law_282 : decode cX12_law 282 = .ok (.iaload, 1) := by decide +kernel
theorem dX12_law_283 : decode cX12_law 283 = .ok (.iastore, 1) := by decide +kernel
theorem dX12_law_284 : decode cX12_law 284 = .ok (.aload_n 0, 1) := by decide +kernel
theorem dX12_law_285 : decode cX12_law 285 = .ok (.getfield 45, 3) := by decide +kernel
theorem dX12_law_288 : decode cX12_law 288 = .ok (.sipush 400, 3) := by decide +kernel
theorem dX12_law_291 : decode cX12_law 291 = .ok (.aload_n 0, 1) := by decide +kernel
theorem dX12_law_292 : decode cX12_law 292 = .ok (.getfield 328, 3) := by decide +kernel
theorem dX12_law_295 : decode cX12_law 295 = .ok (.imul, 1) := by decide +kernel
theorem dX12_law_296 : decode cX12_law 296 = .ok (.iload_n 3, 1) := by decide +kernel
theorem dX12_law_297 : decode cX12_law 297 = .ok (.iadd, 1) := by decide +kernel
theorem dX12_law_298 : decode cX12_law 298 = .ok (.aload_n 0, 1) := by decide +kernel
theorem dX12_law_299 : decode cX12_law 299 = .ok (.getfield 45, 3) := by decide +kernel
theorem dX12_law_302 : decode cX12_law 302 = .ok (.sipush 4800, 3) := by decide +kernel
theorem dX12_law_305 : decode cX12_law 305 = .ok (.iload_n 3, 1) := by decide +kernel
theorem dX12_law_306 : decode cX12_law 306 = .ok (.iadd, 1) := by decide +kernel
theorem dX12_law_307 : decode cX12_law 307 = .ok (.iaload, 1) := by decide +kernel
theorem dX12_law_308 : decode cX12_law 308 = .ok (.iastore, 1) := by decide +kernel
theorem dX12_law_309 : decode cX12_law 309 = .ok (.iinc 3 1, 3) := by decide +kernel
theorem dX12_law_312 : decode cX12_law 312 = .ok (.goto (-86), 3) := by decide +kernel
theorem dX12_law_315 : decode cX12_law 315 = .ok (.aload_n 0, 1) := by decide +kernel
theorem dX12_law_316 : decode cX12_law 316 = .ok (.dup, 1) := by decide +kernel
theorem dX12_law_317 : decode cX12_law 317 = .ok (.getfield 328, 3) := by decide +kernel
theorem dX12_law_320 : decode cX12_law 320 = .ok (.iconst 1, 1) := by decide +kernel
theorem dX12_law_321 : decode cX12_law 321 = .ok (.iadd, 1) := by decide +kernel
theorem dX12_law_322 : decode cX12_law 322 = .ok (.putfield 328, 3) := by decide +kernel
theorem dX12_law_325 : decode cX12_law 325 = .ok (.iload_n 2, 1) := by decide +kernel
theorem dX12_law_326 : decode cX12_law 326 = .ok (.ireturn, 1) := by decide +kernel
theorem dX12_lawOf_0 : decode cX12_lawOf 0 = .ok (.iconst (-1), 1) := by decide +kernel
theorem dX12_lawOf_1 : decode cX12_lawOf 1 = .ok (.istore_n 2, 1) := by decide +kernel
theorem dX12_lawOf_2 : decode cX12_lawOf 2 = .ok (.iconst 0, 1) := by decide +kernel
theorem dX12_lawOf_3 : decode cX12_lawOf 3 = .ok (.istore_n 3, 1) := by decide +kernel
theorem dX12_lawOf_4 : decode cX12_lawOf 4 = .ok (.iload_n 3, 1) := by decide +kernel
theorem dX12_lawOf_5 : decode cX12_lawOf 5 = .ok (.aload_n 0, 1) := by decide +kernel
theorem dX12_lawOf_6 : decode cX12_lawOf 6 = .ok (.getfield 328, 3) := by decide +kernel
theorem dX12_lawOf_9 : decode cX12_lawOf 9 = .ok (.if_icmp .ge 40, 3) := by decide +kernel
theorem dX12_lawOf_12 : decode cX12_lawOf 12 = .ok (.aload_n 0, 1) := by decide +kernel
theorem dX12_lawOf_13 : decode cX12_lawOf 13 = .ok (.getfield 21, 3) := by decide +kernel
theorem dX12_lawOf_16 : decode cX12_lawOf 16 = .ok (.iload_n 3, 1) := by decide +kernel
theorem dX12_lawOf_17 : decode cX12_lawOf 17 = .ok (.iaload, 1) := by decide +kernel
theorem dX12_lawOf_18 : decode cX12_lawOf 18 = .ok (.iload_n 1, 1) := by decide +kernel
theorem dX12_lawOf_19 : decode cX12_lawOf 19 = .ok (.if_icmp .gt 24, 3) := by decide +kernel
theorem dX12_lawOf_22 : decode cX12_lawOf 22 = .ok (.iload_n 2, 1) := by decide +kernel
theorem dX12_lawOf_23 : decode cX12_lawOf 23 = .ok (.ifCond .lt 18, 3) := by decide +kernel
theorem dX12_lawOf_26 : decode cX12_lawOf 26 = .ok (.aload_n 0, 1) := by decide +kernel
theorem dX12_lawOf_27 : decode cX12_lawOf 27 = .ok (.getfield 21, 3) := by decide +kernel
theorem dX12_lawOf_30 : decode cX12_lawOf 30 = .ok (.iload_n 3, 1) := by decide +kernel
theorem dX12_lawOf_31 : decode cX12_lawOf 31 = .ok (.iaload, 1) := by decide +kernel
theorem dX12_lawOf_32 : decode cX12_lawOf 32 = .ok (.aload_n 0, 1) := by decide +kernel
theorem dX12_lawOf_33 : decode cX12_lawOf 33 = .ok (.getfield 21, 3) := by decide +kernel
theorem dX12_lawOf_36 : decode cX12_lawOf 36 = .ok (.iload_n 2, 1) := by decide +kernel
theorem dX12_lawOf_37 : decode cX12_lawOf 37 = .ok (.iaload, 1) := by decide +kernel
theorem dX12_lawOf_38 : decode cX12_lawOf 38 = .ok (.if_icmp .lt 5, 3) := by decide +kernel
theorem dX12_lawOf_41 : decode cX12_lawOf 41 = .ok (.iload_n 3, 1) := by decide +kernel
theorem dX12_lawOf_42 : decode cX12_lawOf 42 = .ok (.istore_n 2, 1) := by decide +kernel
theorem dX12_lawOf_43 : decode cX12_lawOf 43 = .ok (.iinc 3 1, 3) := by decide +kernel
theorem dX12_lawOf_46 : decode cX12_lawOf 46 = .ok (.goto (-42), 3) := by decide +kernel
theorem dX12_lawOf_49 : decode cX12_lawOf 49 = .ok (.iload_n 2, 1) := by decide +kernel
theorem dX12_lawOf_50 : decode cX12_lawOf 50 = .ok (.ireturn, 1) := by decide +kernel
theorem dX12_holds_0 : decode cX12_holds 0 = .ok (.iconst 0, 1) := by decide +kernel
theorem dX12_holds_1 : decode cX12_holds 1 = .ok (.istore 4, 2) := by decide +kernel
theorem dX12_holds_3 : decode cX12_holds 3 = .ok (.sipush 400, 3) := by decide +kernel
theorem dX12_holds_6 : decode cX12_holds 6 = .ok (.iload_n 1, 1) := by decide +kernel
theorem dX12_holds_7 : decode cX12_holds 7 = .ok (.imul, 1) := by decide +kernel
theorem dX12_holds_8 : decode cX12_holds 8 = .ok (.iload_n 2, 1) := by decide +kernel
theorem dX12_holds_9 : decode cX12_holds 9 = .ok (.iadd, 1) := by decide +kernel
theorem dX12_holds_10 : decode cX12_holds 10 = .ok (.istore 5, 2) := by decide +kernel
theorem dX12_holds_12 : decode cX12_holds 12 = .ok (.iload 5, 2) := by decide +kernel
theorem dX12_holds_14 : decode cX12_holds 14 = .ok (.sipush 400, 3) := by decide +kernel
theorem dX12_holds_17 : decode cX12_holds 17 = .ok (.iload_n 1, 1) := by decide +kernel
theorem dX12_holds_18 : decode cX12_holds 18 = .ok (.imul, 1) := by decide +kernel
theorem dX12_holds_19 : decode cX12_holds 19 = .ok (.iload_n 3, 1) := by decide +kernel
theorem dX12_holds_20 : decode cX12_holds 20 = .ok (.iadd, 1) := by decide +kernel
theorem dX12_holds_21 : decode cX12_holds 21 = .ok (.if_icmp .ge 241, 3) := by decide +kernel
theorem dX12_holds_24 : decode cX12_holds 24 = .ok (.aload_n 0, 1) := by decide +kernel
theorem dX12_holds_25 : decode cX12_holds 25 = .ok (.getfield 39, 3) := by decide +kernel
theorem dX12_holds_28 : decode cX12_holds 28 = .ok (.iload 5, 2) := by decide +kernel
theorem dX12_holds_30 : decode cX12_holds 30 = .ok (.iaload, 1) := by decide +kernel
theorem dX12_holds_31 : decode cX12_holds 31 = .ok (.bipush 100, 2) := by decide +kernel
theorem dX12_holds_33 : decode cX12_holds 33 = .ok (.if_icmp .ne 32, 3) := by decide +kernel
theorem dX12_holds_36 : decode cX12_holds 36 = .ok (.aload_n 0, 1) := by decide +kernel
theorem dX12_holds_37 : decode cX12_holds 37 = .ok (.getfield 51, 3) := by decide +kernel
theorem dX12_holds_40 : decode cX12_holds 40 = .ok (.iload 4, 2) := by decide +kernel
theorem dX12_holds_42 : decode cX12_holds 42 = .ok (.iconst 1, 1) := by decide +kernel
theorem dX12_holds_43 : decode cX12_holds 43 = .ok (.isub, 1) := by decide +kernel
theorem dX12_holds_44 : decode cX12_holds 44 = .ok (.aload_n 0, 1) := by decide +kernel
theorem dX12_holds_45 : decode cX12_holds 45 = .ok (.getfield 51, 3) := by decide +kernel
theorem dX12_holds_48 : decode cX12_holds 48 = .ok (.iload 4, 2) := by decide +kernel
theorem dX12_holds_50 : decode cX12_holds 50 = .ok (.iconst 1, 1) := by decide +kernel
theorem dX12_holds_51 : decode cX12_holds 51 = .ok (.isub, 1) := by decide +kernel
theorem dX12_holds_52 : decode cX12_holds 52 = .ok (.baload, 1) := by decide +kernel
theorem dX12_holds_53 : decode cX12_holds 53 = .ok (.ifCond .ne 7, 3) := by decide +kernel
theorem dX12_holds_56 : decode cX12_holds 56 = .ok (.iconst 1, 1) := by decide +kernel
theorem dX12_holds_57 : decode cX12_holds 57 = .ok (.goto 4, 3) := by decide +kernel
theorem dX12_holds_60 : decode cX12_holds 60 = .ok (.iconst 0, 1) := by decide +kernel
theorem dX12_holds_61 : decode cX12_holds 61 = .ok (.bastore, 1) := by decide +kernel
theorem dX12_holds_62 : decode cX12_holds 62 = .ok (.goto 194, 3) := by decide +kernel
theorem dX12_holds_65 : decode cX12_holds 65 = .ok (.aload_n 0, 1) := by decide +kernel
theorem dX12_holds_66 : decode cX12_holds 66 = .ok (.getfield 39, 3) := by decide +kernel
theorem dX12_holds_69 : decode cX12_holds 69 = .ok (.iload 5, 2) := by decide +kernel
theorem dX12_holds_71 : decode cX12_holds 71 = .ok (.iaload, 1) := by decide +kernel
theorem dX12_holds_72 : decode cX12_holds 72 = .ok (.bipush 101, 2) := by decide +kernel
theorem dX12_holds_74 : decode cX12_holds 74 = .ok (.if_icmp .lt 87, 3) := by decide +kernel
theorem dX12_holds_77 : decode cX12_holds 77 = .ok (.iinc 4 (-1), 3) := by decide +kernel
theorem dX12_holds_80 : decode cX12_holds 80 = .ok (.aload_n 0, 1) := by decide +kernel
theorem dX12_holds_81 : decode cX12_holds 81 = .ok (.getfield 51, 3) := by decide +kernel
theorem dX12_holds_84 : decode cX12_holds 84 = .ok (.iload 4, 2) := by decide +kernel
theorem dX12_holds_86 : decode cX12_holds 86 = .ok (.iconst 1, 1) := by decide +kernel
theorem dX12_holds_87 : decode cX12_holds 87 = .ok (.isub, 1) := by decide +kernel
theorem dX12_holds_88 : decode cX12_holds 88 = .ok (.aload_n 0, 1) := by decide +kernel
theorem dX12_holds_89 : decode cX12_holds 89 = .ok (.getfield 39, 3) := by decide +kernel
theorem dX12_holds_92 : decode cX12_holds 92 = .ok (.iload 5, 2) := by decide +kernel
theorem dX12_holds_94 : decode cX12_holds 94 = .ok (.iaload, 1) := by decide +kernel
theorem dX12_holds_95 : decode cX12_holds 95 = .ok (.bipush 101, 2) := by decide +kernel
theorem dX12_holds_97 : decode cX12_holds 97 = .ok (.if_icmp .ne 33, 3) := by decide +kernel
theorem dX12_holds_100 : decode cX12_holds 100 = .ok (.aload_n 0, 1) := by decide +kernel
theorem dX12_holds_101 : decode cX12_holds 101 = .ok (.getfield 51, 3) := by decide +kernel
theorem dX12_holds_104 : decode cX12_holds 104 = .ok (.iload 4, 2) := by decide +kernel
theorem dX12_holds_106 : decode cX12_holds 106 = .ok (.iconst 1, 1) := by decide +kernel
theorem dX12_holds_107 : decode cX12_holds 107 = .ok (.isub, 1) := by decide +kernel
theorem dX12_holds_108 : decode cX12_holds 108 = .ok (.baload, 1) := by decide +kernel
theorem dX12_holds_109 : decode cX12_holds 109 = .ok (.ifCond .eq 17, 3) := by decide +kernel
theorem dX12_holds_112 : decode cX12_holds 112 = .ok (.aload_n 0, 1) := by decide +kernel
theorem dX12_holds_113 : decode cX12_holds 113 = .ok (.getfield 51, 3) := by decide +kernel
theorem dX12_holds_116 : decode cX12_holds 116 = .ok (.iload 4, 2) := by decide +kernel
theorem dX12_holds_118 : decode cX12_holds 118 = .ok (.baload, 1) := by decide +kernel
theorem dX12_holds_119 : decode cX12_holds 119 = .ok (.ifCond .eq 7, 3) := by decide +kernel
theorem dX12_holds_122 : decode cX12_holds 122 = .ok (.iconst 1, 1) := by decide +kernel
theorem dX12_holds_123 : decode cX12_holds 123 = .ok (.goto 34, 3) := by decide +kernel
theorem dX12_holds_126 : decode cX12_holds 126 = .ok (.iconst 0, 1) := by decide +kernel
theorem dX12_holds_127 : decode cX12_holds 127 = .ok (.goto 30, 3) := by decide +kernel
theorem dX12_holds_130 : decode cX12_holds 130 = .ok (.aload_n 0, 1) := by decide +kernel
theorem dX12_holds_131 : decode cX12_holds 131 = .ok (.getfield 51, 3) := by decide +kernel
theorem dX12_holds_134 : decode cX12_holds 134 = .ok (.iload 4, 2) := by decide +kernel
theorem dX12_holds_136 : decode cX12_holds 136 = .ok (.iconst 1, 1) := by decide +kernel
theorem dX12_holds_137 : decode cX12_holds 137 = .ok (.isub, 1) := by decide +kernel
theorem dX12_holds_138 : decode cX12_holds 138 = .ok (.baload, 1) := by decide +kernel
theorem dX12_holds_139 : decode cX12_holds 139 = .ok (.ifCond .ne 13, 3) := by decide +kernel
theorem dX12_holds_142 : decode cX12_holds 142 = .ok (.aload_n 0, 1) := by decide +kernel
theorem dX12_holds_143 : decode cX12_holds 143 = .ok (.getfield 51, 3) := by decide +kernel
theorem dX12_holds_146 : decode cX12_holds 146 = .ok (.iload 4, 2) := by decide +kernel
theorem dX12_holds_148 : decode cX12_holds 148 = .ok (.baload, 1) := by decide +kernel
theorem dX12_holds_149 : decode cX12_holds 149 = .ok (.ifCond .eq 7, 3) := by decide +kernel
theorem dX12_holds_152 : decode cX12_holds 152 = .ok (.iconst 1, 1) := by decide +kernel
theorem dX12_holds_153 : decode cX12_holds 153 = .ok (.goto 4, 3) := by decide +kernel
theorem dX12_holds_156 : decode cX12_holds 156 = .ok (.iconst 0, 1) := by decide +kernel
theorem dX12_holds_157 : decode cX12_holds 157 = .ok (.bastore, 1) := by decide +kernel
theorem dX12_holds_158 : decode cX12_holds 158 = .ok (.goto 98, 3) := by decide +kernel
theorem dX12_holds_161 : decode cX12_holds 161 = .ok (.aload_n 0, 1) := by decide +kernel
theorem dX12_holds_162 : decode cX12_holds 162 = .ok (.getfield 48, 3) := by decide +kernel
theorem dX12_holds_165 : decode cX12_holds 165 = .ok (.aload_n 0, 1) := by decide +kernel
theorem dX12_holds_166 : decode cX12_holds 166 = .ok (.getfield 39, 3) := by decide +kernel
theorem dX12_holds_169 : decode cX12_holds 169 = .ok (.iload 5, 2) := by decide +kernel
theorem dX12_holds_171 : decode cX12_holds 171 = .ok (.iaload, 1) := by decide +kernel
theorem dX12_holds_172 : decode cX12_holds 172 = .ok (.iaload, 1) := by decide +kernel
theorem dX12_holds_173 : decode cX12_holds 173 = .ok (.istore 6, 2) := by decide +kernel
theorem dX12_holds_175 : decode cX12_holds 175 = .ok (.aload_n 0, 1) := by decide +kernel
theorem dX12_holds_176 : decode cX12_holds 176 = .ok (.getfield 51, 3) := by decide +kernel
theorem dX12_holds_179 : decode cX12_holds 179 = .ok (.iload 4, 2) := by decide +kernel
theorem dX12_holds_181 : decode cX12_holds 181 = .ok (.aload_n 0, 1) := by decide +kernel
theorem dX12_holds_182 : decode cX12_holds 182 = .ok (.getfield 42, 3) := by decide +kernel
theorem dX12_holds_185 : decode cX12_holds 185 = .ok (.iload 5, 2) := by decide +kernel
theorem dX12_holds_187 : decode cX12_holds 187 = .ok (.iaload, 1) := by decide +kernel
theorem dX12_holds_188 : decode cX12_holds 188 = .ok (.ifCond .ne 16, 3) := by decide +kernel
theorem dX12_holds_191 : decode cX12_holds 191 = .ok (.iload 6, 2) := by decide +kernel
theorem dX12_holds_193 : decode cX12_holds 193 = .ok (.ifCond .eq 7, 3) := by decide +kernel
theorem dX12_holds_196 : decode cX12_holds 196 = .ok (.iconst 1, 1) := by decide +kernel
theorem dX12_holds_197 : decode cX12_holds 197 = .ok (.goto 55, 3) := by decide +kernel
theorem dX12_holds_200 : decode cX12_holds 200 = .ok (.iconst 0, 1) := by decide +kernel
theorem dX12_holds_201 : decode cX12_holds 201 = .ok (.goto 51, 3) := by decide +kernel
theorem dX12_holds_204 : decode cX12_holds 204 = .ok (.aload_n 0, 1) := by decide +kernel
theorem dX12_holds_205 : decode cX12_holds 205 = .ok (.getfield 42, 3) := by decide +kernel
theorem dX12_holds_208 : decode cX12_holds 208 = .ok (.iload 5, 2) := by decide +kernel
theorem dX12_holds_210 : decode cX12_holds 210 = .ok (.iaload, 1) := by decide +kernel
theorem dX12_holds_211 : decode cX12_holds 211 = .ok (.iconst 1, 1) := by decide +kernel
theorem dX12_holds_212 : decode cX12_holds 212 = .ok (.if_icmp .ne 23, 3) := by decide +kernel
theorem dX12_holds_215 : decode cX12_holds 215 = .ok (.iload 6, 2) := by decide +kernel
theorem dX12_holds_217 : decode cX12_holds 217 = .ok (.aload_n 0, 1) := by decide +kernel
theorem dX12_holds_218 : decode cX12_holds 218 = .ok (.getfield 45, 3) := by decide +kernel
theorem dX12_holds_221 : decode cX12_holds 221 = .ok (.iload 5, 2) := by decide +kernel
theorem dX12_holds_223 : decode cX12_holds 223 = .ok (.iaload, 1) := by decide +kernel
theorem dX12_holds_224 : decode cX12_holds 224 = .ok (.if_icmp .ge 7, 3) := by decide +kernel
theorem dX12_holds_227 : decode cX12_holds 227 = .ok (.iconst 1, 1) := by decide +kernel
theorem dX12_holds_228 : decode cX12_holds 228 = .ok (.goto 24, 3) := by decide +kernel
theorem dX12_holds_231 : decode cX12_holds 231 = .ok (.iconst 0, 1) := by decide +kernel
theorem dX12_holds_232 : decode cX12_holds 232 = .ok (.goto 20, 3) := by decide +kernel
theorem dX12_holds_235 : decode cX12_holds 235 = .ok (.iload 6, 2) := by decide +kernel
theorem dX12_holds_237 : decode cX12_holds 237 = .ok (.aload_n 0, 1) := by decide +kernel
theorem dX12_holds_238 : decode cX12_holds 238 = .ok (.getfield 45, 3) := by decide +kernel
theorem dX12_holds_241 : decode cX12_holds 241 = .ok (.iload 5, 2) := by decide +kernel
theorem dX12_holds_243 : decode cX12_holds 243 = .ok (.iaload, 1) := by decide +kernel
theorem dX12_holds_244 : decode cX12_holds 244 = .ok (.if_icmp .le 7, 3) := by decide +kernel
theorem dX12_holds_247 : decode cX12_holds 247 = .ok (.iconst 1, 1) := by decide +kernel
theorem dX12_holds_248 : decode cX12_holds 248 = .ok (.goto 4, 3) := by decide +kernel
theorem dX12_holds_251 : decode cX12_holds 251 = .ok (.iconst 0, 1) := by decide +kernel
theorem dX12_holds_252 : decode cX12_holds 252 = .ok (.bastore, 1) := by decide +kernel
theorem dX12_holds_253 : decode cX12_holds 253 = .ok (.iinc 4 1, 3) := by decide +kernel
theorem dX12_holds_256 : decode cX12_holds 256 = .ok (.iinc 5 1, 3) := by decide +kernel
theorem dX12_holds_259 : decode cX12_holds 259 = .ok (.goto (-247), 3) := by decide +kernel
theorem dX12_holds_262 : decode cX12_holds 262 = .ok (.iload 4, 2) := by decide +kernel
theorem dX12_holds_264 : decode cX12_holds 264 = .ok (.ifCond .eq 12, 3) := by decide +kernel
theorem dX12_holds_267 : decode cX12_holds 267 = .ok (.aload_n 0, 1) := by decide +kernel
theorem dX12_holds_268 : decode cX12_holds 268 = .ok (.getfield 51, 3) := by decide +kernel
theorem dX12_holds_271 : decode cX12_holds 271 = .ok (.iconst 0, 1) := by decide +kernel
theorem dX12_holds_272 : decode cX12_holds 272 = .ok (.baload, 1) := by decide +kernel
theorem dX12_holds_273 : decode cX12_holds 273 = .ok (.ifCond .eq 7, 3) := by decide +kernel
theorem dX12_holds_276 : decode cX12_holds 276 = .ok (.iconst 1, 1) := by decide +kernel
theorem dX12_holds_277 : decode cX12_holds 277 = .ok (.goto 4, 3) := by decide +kernel
theorem dX12_holds_280 : decode cX12_holds 280 = .ok (.iconst 0, 1) := by decide +kernel
theorem dX12_holds_281 : decode cX12_holds 281 = .ok (.ireturn, 1) := by decide +kernel
theorem dX12_judges_0 : decode cX12_judges 0 = .ok (.aload_n 0, 1) := by decide +kernel
theorem dX12_judges_1 : decode cX12_judges 1 = .ok (.getfield 48, 3) := by decide +kernel
theorem dX12_judges_4 : decode cX12_judges 4 = .ok (.iconst 0, 1) := by decide +kernel
theorem dX12_judges_5 : decode cX12_judges 5 = .ok (.aload_n 0, 1) := by decide +kernel
theorem dX12_judges_6 : decode cX12_judges 6 = .ok (.getfield 314, 3) := by decide +kernel
theorem dX12_judges_9 : decode cX12_judges 9 = .ok (.aload_n 0, 1) := by decide +kernel
theorem dX12_judges_10 : decode cX12_judges 10 = .ok (.getfield 55, 3) := by decide +kernel
theorem dX12_judges_13 : decode cX12_judges 13 = .ok (.iload_n 1, 1) := by decide +kernel
theorem dX12_judges_14 : decode cX12_judges 14 = .ok (.iaload, 1) := by decide +kernel
theorem dX12_judges_15 : decode cX12_judges 15 = .ok (.isub, 1) := by decide +kernel
theorem dX12_judges_16 : decode cX12_judges 16 = .ok (.sipush 365, 3) := by decide +kernel
theorem dX12_judges_19 : decode cX12_judges 19 = .ok (.invokestatic 331, 3) := by decide +kernel
theorem dX12_judges_22 : decode cX12_judges 22 = .ok (.iastore, 1) := by decide +kernel
theorem dX12_judges_23 : decode cX12_judges 23 = .ok (.aload_n 0, 1) := by decide +kernel
theorem dX12_judges_24 : decode cX12_judges 24 = .ok (.getfield 48, 3) := by decide +kernel
theorem dX12_judges_27 : decode cX12_judges 27 = .ok (.iconst 1, 1) := by decide +kernel
theorem dX12_judges_28 : decode cX12_judges 28 = .ok (.iload_n 3, 1) := by decide +kernel
theorem dX12_judges_29 : decode cX12_judges 29 = .ok (.aload_n 0, 1) := by decide +kernel
theorem dX12_judges_30 : decode cX12_judges 30 = .ok (.getfield 314, 3) := by decide +kernel
theorem dX12_judges_33 : decode cX12_judges 33 = .ok (.isub, 1) := by decide +kernel
theorem dX12_judges_34 : decode cX12_judges 34 = .ok (.iastore, 1) := by decide +kernel
theorem dX12_judges_35 : decode cX12_judges 35 = .ok (.aload_n 0, 1) := by decide +kernel
theorem dX12_judges_36 : decode cX12_judges 36 = .ok (.getfield 48, 3) := by decide +kernel
theorem dX12_judges_39 : decode cX12_judges 39 = .ok (.iconst 2, 1) := by decide +kernel
theorem dX12_judges_40 : decode cX12_judges 40 = .ok (.aload_n 0, 1) := by decide +kernel
theorem dX12_judges_41 : decode cX12_judges 41 = .ok (.iload_n 1, 1) := by decide +kernel
theorem dX12_judges_42 : decode cX12_judges 42 = .ok (.aload_n 0, 1) := by decide +kernel
theorem dX12_judges_43 : decode cX12_judges 43 = .ok (.getfield 314, 3) := by decide +kernel
theorem dX12_judges_46 : decode cX12_judges 46 = .ok (.invokevirtual 337, 3) := by decide +kernel
theorem dX12_judges_49 : decode cX12_judges 49 = .ok (.iastore, 1) := by decide +kernel
theorem dX12_judges_50 : decode cX12_judges 50 = .ok (.aload_n 0, 1) := by decide +kernel
theorem dX12_judges_51 : decode cX12_judges 51 = .ok (.getfield 48, 3) := by decide +kernel
theorem dX12_judges_54 : decode cX12_judges 54 = .ok (.iconst 3, 1) := by decide +kernel
theorem dX12_judges_55 : decode cX12_judges 55 = .ok (.aload_n 0, 1) := by decide +kernel
theorem dX12_judges_56 : decode cX12_judges 56 = .ok (.getfield 58, 3) := by decide +kernel
theorem dX12_judges_59 : decode cX12_judges 59 = .ok (.iload_n 1, 1) := by decide +kernel
theorem dX12_judges_60 : decode cX12_judges 60 = .ok (.baload, 1) := by decide +kernel
theorem dX12_judges_61 : decode cX12_judges 61 = .ok (.ifCond .eq 7, 3) := by decide +kernel
theorem dX12_judges_64 : decode cX12_judges 64 = .ok (.iconst 1, 1) := by decide +kernel
theorem dX12_judges_65 : decode cX12_judges 65 = .ok (.goto 4, 3) := by decide +kernel
theorem dX12_judges_68 : decode cX12_judges 68 = .ok (.iconst 0, 1) := by decide +kernel
theorem dX12_judges_69 : decode cX12_judges 69 = .ok (.iastore, 1) := by decide +kernel
theorem dX12_judges_70 : decode cX12_judges 70 = .ok (.iconst 0, 1) := by decide +kernel
theorem dX12_judges_71 : decode cX12_judges 71 = .ok (.istore 5, 2) := by decide +kernel
theorem dX12_judges_73 : decode cX12_judges 73 = .ok (.iload 5, 2) := by decide +kernel
theorem dX12_judges_75 : decode cX12_judges 75 = .ok (.iconst 4, 1) := by decide +kernel
theorem dX12_judges_76 : decode cX12_judges 76 = .ok (.if_icmp .ge 29, 3) := by decide +kernel
theorem dX12_judges_79 : decode cX12_judges 79 = .ok (.aload_n 0, 1) := by decide +kernel
theorem dX12_judges_80 : decode cX12_judges 80 = .ok (.getfield 48, 3) := by decide +kernel
theorem dX12_judges_83 : decode cX12_judges 83 = .ok (.iconst 4, 1) := by decide +kernel
theorem dX12_judges_84 : decode cX12_judges 84 = .ok (.iload 5, 2) := by decide +kernel
theorem dX12_judges_86 : decode cX12_judges 86 = .ok (.iadd, 1) := by decide +kernel
theorem dX12_judges_87 : decode cX12_judges 87 = .ok (.iload_n 2, 1) := by decide +kernel
theorem dX12_judges_88 : decode cX12_judges 88 = .ok (.iload 5, 2) := by decide +kernel
theorem dX12_judges_90 : decode cX12_judges 90 = .ok (.if_icmp .ne 7, 3) := by decide +kernel
theorem dX12_judges_93 : decode cX12_judges 93 = .ok (.iconst 1, 1) := by decide +kernel
theorem dX12_judges_94 : decode cX12_judges 94 = .ok (.goto 4, 3) := by decide +kernel
theorem dX12_judges_97 : decode cX12_judges 97 = .ok (.iconst 0, 1) := by decide +kernel
theorem dX12_judges_98 : decode cX12_judges 98 = .ok (.iastore, 1) := by decide +kernel
theorem dX12_judges_99 : decode cX12_judges 99 = .ok (.iinc 5 1, 3) := by decide +kernel
theorem dX12_judges_102 : decode cX12_judges 102 = .ok (.goto (-29), 3) := by decide +kernel
theorem dX12_judges_105 : decode cX12_judges 105 = .ok (.aload_n 0, 1) := by decide +kernel
theorem dX12_judges_106 : decode cX12_judges 106 = .ok (.getfield 48, 3) := by decide +kernel
theorem dX12_judges_109 : decode cX12_judges 109 = .ok (.bipush 8, 2) := by decide +kernel
theorem dX12_judges_111 : decode cX12_judges 111 = .ok (.iload 4, 2) := by decide +kernel
theorem dX12_judges_113 : decode cX12_judges 113 = .ok (.ifCond .eq 7, 3) := by decide +kernel
theorem dX12_judges_116 : decode cX12_judges 116 = .ok (.iconst 1, 1) := by decide +kernel
theorem dX12_judges_117 : decode cX12_judges 117 = .ok (.goto 4, 3) := by decide +kernel
theorem dX12_judges_120 : decode cX12_judges 120 = .ok (.iconst 0, 1) := by decide +kernel
theorem dX12_judges_121 : decode cX12_judges 121 = .ok (.iastore, 1) := by decide +kernel
theorem dX12_judges_122 : decode cX12_judges 122 = .ok (.aload_n 0, 1) := by decide +kernel
theorem dX12_judges_123 : decode cX12_judges 123 = .ok (.iconst 0, 1) := by decide +kernel
theorem dX12_judges_124 : decode cX12_judges 124 = .ok (.putfield 340, 3) := by decide +kernel
theorem dX12_judges_127 : decode cX12_judges 127 = .ok (.aload_n 0, 1) := by decide +kernel
theorem dX12_judges_128 : decode cX12_judges 128 = .ok (.iconst 0, 1) := by decide +kernel
theorem dX12_judges_129 : decode cX12_judges 129 = .ok (.putfield 343, 3) := by decide +kernel
theorem dX12_judges_132 : decode cX12_judges 132 = .ok (.aload_n 0, 1) := by decide +kernel
theorem dX12_judges_133 : decode cX12_judges 133 = .ok (.iconst (-1), 1) := by decide +kernel
theorem dX12_judges_134 : decode cX12_judges 134 = .ok (.putfield 346, 3) := by decide +kernel
theorem dX12_judges_137 : decode cX12_judges 137 = .ok (.aload_n 0, 1) := by decide +kernel
theorem dX12_judges_138 : decode cX12_judges 138 = .ok (.iconst 0, 1) := by decide +kernel
theorem dX12_judges_139 : decode cX12_judges 139 = .ok (.putfield 349, 3) := by decide +kernel
theorem dX12_judges_142 : decode cX12_judges 142 = .ok (.aload_n 0, 1) := by decide +kernel
theorem dX12_judges_143 : decode cX12_judges 143 = .ok (.iconst (-1), 1) := by decide +kernel
theorem dX12_judges_144 : decode cX12_judges 144 = .ok (.putfield 352, 3) := by decide +kernel
theorem dX12_judges_147 : decode cX12_judges 147 = .ok (.aload_n 0, 1) := by decide +kernel
theorem dX12_judges_148 : decode cX12_judges 148 = .ok (.iconst 0, 1) := by decide +kernel
theorem dX12_judges_149 : decode cX12_judges 149 = .ok (.putfield 355, 3) := by decide +kernel
theorem dX12_judges_152 : decode cX12_judges 152 = .ok (.aload_n 0, 1) := by decide +kernel
theorem dX12_judges_153 : decode cX12_judges 153 = .ok (.aload_n 0, 1) := by decide +kernel
theorem dX12_judges_154 : decode cX12_judges 154 = .ok (.getfield 314, 3) := by decide +kernel
theorem dX12_judges_157 : decode cX12_judges 157 = .ok (.invokevirtual 359, 3) := by decide +kernel
theorem dX12_judges_160 : decode cX12_judges 160 = .ok (.istore 5, 2) := by decide +kernel
theorem dX12_judges_162 : decode cX12_judges 162 = .ok (.iconst 0, 1) := by decide +kernel
theorem dX12_judges_163 : decode cX12_judges 163 = .ok (.istore 6, 2) := by decide +kernel
theorem dX12_judges_165 : decode cX12_judges 165 = .ok (.iload 5, 2) := by decide +kernel
theorem dX12_judges_167 : decode cX12_judges 167 = .ok (.ifCond .lt 220, 3) := by decide +kernel
theorem dX12_judges_170 : decode cX12_judges 170 = .ok (.iload 6, 2) := by decide +kernel
theorem dX12_judges_172 : decode cX12_judges 172 = .ok (.aload_n 0, 1) := by decide +kernel
theorem dX12_judges_173 : decode cX12_judges 173 = .ok (.getfield 24, 3) := by decide +kernel
theorem dX12_judges_176 : decode cX12_judges 176 = .ok (.iload 5, 2) := by decide +kernel
theorem dX12_judges_178 : decode cX12_judges 178 = .ok (.iaload, 1) := by decide +kernel
theorem dX12_judges_179 : decode cX12_judges 179 = .ok (.if_icmp .ge 208, 3) := by decide +kernel
theorem dX12_judges_182 : decode cX12_judges 182 = .ok (.bipush 16, 2) := by decide +kernel
theorem dX12_judges_184 : decode cX12_judges 184 = .ok (.iload 5, 2) := by decide +kernel
theorem dX12_judges_186 : decode cX12_judges 186 = .ok (.imul, 1) := by decide +kernel
theorem dX12_judges_187 : decode cX12_judges 187 = .ok (.iload 6, 2) := by decide +kernel
theorem dX12_judges_189 : decode cX12_judges 189 = .ok (.iadd, 1) := by decide +kernel
theorem dX12_judges_190 : decode cX12_judges 190 = .ok (.istore 7, 2) := by decide +kernel
theorem dX12_judges_192 : decode cX12_judges 192 = .ok (.aload_n 0, 1) := by decide +kernel
theorem dX12_judges_193 : decode cX12_judges 193 = .ok (.iload 5, 2) := by decide +kernel
theorem dX12_judges_195 : decode cX12_judges 195 = .ok (.aload_n 0, 1) := by decide +kernel
theorem dX12_judges_196 : decode cX12_judges 196 = .ok (.getfield 33, 3) := by decide +kernel
theorem dX12_judges_199 : decode cX12_judges 199 = .ok (.iload 7, 2) := by decide +kernel
theorem dX12_judges_201 : decode cX12_judges 201 = .ok (.iaload, 1) := by decide +kernel
theorem dX12_judges_202 : decode cX12_judges 202 = .ok (.aload_n 0, 1) := by decide +kernel
theorem dX12_judges_203 : decode cX12_judges 203 = .ok (.getfield 36, 3) := by decide +kernel
theorem dX12_judges_206 : decode cX12_judges 206 = .ok (.iload 7, 2) := by decide +kernel
theorem dX12_judges_208 : decode cX12_judges 208 = .ok (.iaload, 1) := by decide +kernel
theorem dX12_judges_209 : decode cX12_judges 209 = .ok (.invokevirtual 363, 3) := by decide +kernel
theorem dX12_judges_212 : decode cX12_judges 212 = .ok (.ifCond .ne 6, 3) := by decide +kernel
theorem dX12_judges_215 : decode cX12_judges 215 = .ok (.goto 166, 3) := by decide +kernel
theorem dX12_judges_218 : decode cX12_judges 218 = .ok (.aload_n 0, 1) := by decide +kernel
theorem dX12_judges_219 : decode cX12_judges 219 = .ok (.getfield 27, 3) := by decide +kernel
theorem dX12_judges_222 : decode cX12_judges 222 = .ok (.iload 7, 2) := by decide +kernel
theorem dX12_judges_224 : decode cX12_judges 224 = .ok (.iaload, 1) := by decide +kernel
theorem dX12_judges_225 : decode cX12_judges 225 = .ok (.tableswitch 121 0 4 #[35, 54, 73, 94, 113], 35) := by decide +kernel
theorem dX12_judges_260 : decode cX12_judges 260 = .ok (.aload_n 0, 1) := by decide +kernel
theorem dX12_judges_261 : decode cX12_judges 261 = .ok (.dup, 1) := by decide +kernel
theorem dX12_judges_262 : decode cX12_judges 262 = .ok (.getfield 340, 3) := by decide +kernel
theorem dX12_judges_265 : decode cX12_judges 265 = .ok (.aload_n 0, 1) := by decide +kernel
theorem dX12_judges_266 : decode cX12_judges 266 = .ok (.getfield 30, 3) := by decide +kernel
theorem dX12_judges_269 : decode cX12_judges 269 = .ok (.iload 7, 2) := by decide +kernel
theorem dX12_judges_271 : decode cX12_judges 271 = .ok (.iaload, 1) := by decide +kernel
theorem dX12_judges_272 : decode cX12_judges 272 = .ok (.ior, 1) := by decide +kernel
theorem dX12_judges_273 : decode cX12_judges 273 = .ok (.putfield 340, 3) := by decide +kernel
theorem dX12_judges_276 : decode cX12_judges 276 = .ok (.goto 105, 3) := by decide +kernel
theorem dX12_judges_279 : decode cX12_judges 279 = .ok (.aload_n 0, 1) := by decide +kernel
theorem dX12_judges_280 : decode cX12_judges 280 = .ok (.dup, 1) := by decide +kernel
theorem dX12_judges_281 : decode cX12_judges 281 = .ok (.getfield 343, 3) := by decide +kernel
theorem dX12_judges_284 : decode cX12_judges 284 = .ok (.aload_n 0, 1) := by decide +kernel
theorem dX12_judges_285 : decode cX12_judges 285 = .ok (.getfield 30, 3) := by decide +kernel
theorem dX12_judges_288 : decode cX12_judges 288 = .ok (.iload 7, 2) := by decide +kernel
theorem dX12_judges_290 : decode cX12_judges 290 = .ok (.iaload, 1) := by decide +kernel
theorem dX12_judges_291 : decode cX12_judges 291 = .ok (.iadd, 1) := by decide +kernel
theorem dX12_judges_292 : decode cX12_judges 292 = .ok (.putfield 343, 3) := by decide +kernel
theorem dX12_judges_295 : decode cX12_judges 295 = .ok (.goto 86, 3) := by decide +kernel
theorem dX12_judges_298 : decode cX12_judges 298 = .ok (.aload_n 0, 1) := by decide +kernel
theorem dX12_judges_299 : decode cX12_judges 299 = .ok (.aload_n 0, 1) := by decide +kernel
theorem dX12_judges_300 : decode cX12_judges 300 = .ok (.getfield 346, 3) := by decide +kernel
theorem dX12_judges_303 : decode cX12_judges 303 = .ok (.aload_n 0, 1) := by decide +kernel
theorem dX12_judges_304 : decode cX12_judges 304 = .ok (.getfield 30, 3) := by decide +kernel
theorem dX12_judges_307 : decode cX12_judges 307 = .ok (.iload 7, 2) := by decide +kernel
theorem dX12_judges_309 : decode cX12_judges 309 = .ok (.iaload, 1) := by decide +kernel
theorem dX12_judges_310 : decode cX12_judges 310 = .ok (.invokestatic 366, 3) := by decide +kernel
theorem dX12_judges_313 : decode cX12_judges 313 = .ok (.putfield 346, 3) := by decide +kernel
theorem dX12_judges_316 : decode cX12_judges 316 = .ok (.goto 65, 3) := by decide +kernel
theorem dX12_judges_319 : decode cX12_judges 319 = .ok (.aload_n 0, 1) := by decide +kernel
theorem dX12_judges_320 : decode cX12_judges 320 = .ok (.dup, 1) := by decide +kernel
theorem dX12_judges_321 : decode cX12_judges 321 = .ok (.getfield 349, 3) := by decide +kernel
theorem dX12_judges_324 : decode cX12_judges 324 = .ok (.aload_n 0, 1) := by decide +kernel
theorem dX12_judges_325 : decode cX12_judges 325 = .ok (.getfield 30, 3) := by decide +kernel
theorem dX12_judges_328 : decode cX12_judges 328 = .ok (.iload 7, 2) := by decide +kernel
theorem dX12_judges_330 : decode cX12_judges 330 = .ok (.iaload, 1) := by decide +kernel
theorem dX12_judges_331 : decode cX12_judges 331 = .ok (.iadd, 1) := by decide +kernel
theorem dX12_judges_332 : decode cX12_judges 332 = .ok (.putfield 349, 3) := by decide +kernel
theorem dX12_judges_335 : decode cX12_judges 335 = .ok (.goto 46, 3) := by decide +kernel
theorem dX12_judges_338 : decode cX12_judges 338 = .ok (.aload_n 0, 1) := by decide +kernel
theorem dX12_judges_339 : decode cX12_judges 339 = .ok (.iconst 1, 1) := by decide +kernel
theorem dX12_judges_340 : decode cX12_judges 340 = .ok (.putfield 355, 3) := by decide +kernel
theorem dX12_judges_343 : decode cX12_judges 343 = .ok (.goto 38, 3) := by decide +kernel
theorem dX12_judges_346 : decode cX12_judges 346 = .ok (.aload_n 0, 1) := by decide +kernel
theorem dX12_judges_347 : decode cX12_judges 347 = .ok (.aload_n 0, 1) := by decide +kernel
theorem dX12_judges_348 : decode cX12_judges 348 = .ok (.getfield 352, 3) := by decide +kernel
theorem dX12_judges_351 : decode cX12_judges 351 = .ok (.ifCond .ge 13, 3) := by decide +kernel
theorem dX12_judges_354 : decode cX12_judges 354 = .ok (.aload_n 0, 1) := by decide +kernel
theorem dX12_judges_355 : decode cX12_judges 355 = .ok (.getfield 30, 3) := by decide +kernel
theorem dX12_judges_358 : decode cX12_judges 358 = .ok (.iload 7, 2) := by decide +kernel
theorem dX12_judges_360 : decode cX12_judges 360 = .ok (.iaload, 1) := by decide +kernel
theorem dX12_judges_361 : decode cX12_judges 361 = .ok (.goto 17, 3) := by decide +kernel
theorem dX12_judges_364 : decode cX12_judges 364 = .ok (.aload_n 0, 1) := by decide +kernel
theorem dX12_judges_365 : decode cX12_judges 365 = .ok (.getfield 352, 3) := by decide +kernel
theorem dX12_judges_368 : decode cX12_judges 368 = .ok (.aload_n 0, 1) := by decide +kernel
theorem dX12_judges_369 : decode cX12_judges 369 = .ok (.getfield 30, 3) := by decide +kernel
theorem dX12_judges_372 : decode cX12_judges 372 = .ok (.iload 7, 2) := by decide +kernel
theorem dX12_judges_374 : decode cX12_judges 374 = .ok (.iaload, 1) := by decide +kernel
theorem dX12_judges_375 : decode cX12_judges 375 = .ok (.invokestatic 369, 3) := by decide +kernel
theorem dX12_judges_378 : decode cX12_judges 378 = .ok (.putfield 352, 3) := by decide +kernel
theorem dX12_judges_381 : decode cX12_judges 381 = .ok (.iinc 6 1, 3) := by decide +kernel
theorem dX12_judges_384 : decode cX12_judges 384 = .ok (.goto (-219), 3) := by decide +kernel
theorem dX12_judges_387 : decode cX12_judges 387 = .ok (.aload_n 0, 1) := by decide +kernel
theorem dX12_judges_388 : decode cX12_judges 388 = .ok (.getfield 346, 3) := by decide +kernel
theorem dX12_judges_391 : decode cX12_judges 391 = .ok (.ifCond .ge 9, 3) := by decide +kernel
theorem dX12_judges_394 : decode cX12_judges 394 = .ok (.aload_n 0, 1) := by decide +kernel
theorem dX12_judges_395 : decode cX12_judges 395 = .ok (.bipush 10, 2) := by decide +kernel
theorem dX12_judges_397 : decode cX12_judges 397 = .ok (.putfield 346, 3) := by decide +kernel
theorem dX12_judges_400 : decode cX12_judges 400 = .ok (.return_, 1) := by decide +kernel
theorem dX12_nobody_0 : decode cX12_nobody 0 = .ok (.iload_n 1, 1) := by decide +kernel
theorem dX12_nobody_1 : decode cX12_nobody 1 = .ok (.iconst 0, 1) := by decide +kernel
theorem dX12_nobody_2 : decode cX12_nobody 2 = .ok (.aload_n 0, 1) := by decide +kernel
theorem dX12_nobody_3 : decode cX12_nobody 3 = .ok (.getfield 372, 3) := by decide +kernel
theorem dX12_nobody_6 : decode cX12_nobody 6 = .ok (.iconst 1, 1) := by decide +kernel
theorem dX12_nobody_7 : decode cX12_nobody 7 = .ok (.isub, 1) := by decide +kernel
theorem dX12_nobody_8 : decode cX12_nobody 8 = .ok (.invokestatic 317, 3) := by decide +kernel
theorem dX12_nobody_11 : decode cX12_nobody 11 = .ok (.ifCond .ne 7, 3) := by decide +kernel
theorem dX12_nobody_14 : decode cX12_nobody 14 = .ok (.iconst 1, 1) := by decide +kernel
theorem dX12_nobody_15 : decode cX12_nobody 15 = .ok (.goto 4, 3) := by decide +kernel
theorem dX12_nobody_18 : decode cX12_nobody 18 = .ok (.iconst 0, 1) := by decide +kernel
theorem dX12_nobody_19 : decode cX12_nobody 19 = .ok (.ireturn, 1) := by decide +kernel
theorem dX12_noFace_0 : decode cX12_noFace 0 = .ok (.iload_n 0, 1) := by decide +kernel
theorem dX12_noFace_1 : decode cX12_noFace 1 = .ok (.iconst 0, 1) := by decide +kernel
theorem dX12_noFace_2 : decode cX12_noFace 2 = .ok (.bipush 99, 2) := by decide +kernel
theorem dX12_noFace_4 : decode cX12_noFace 4 = .ok (.invokestatic 317, 3) := by decide +kernel
theorem dX12_noFace_7 : decode cX12_noFace 7 = .ok (.ifCond .ne 7, 3) := by decide +kernel
theorem dX12_noFace_10 : decode cX12_noFace 10 = .ok (.iconst 1, 1) := by decide +kernel
theorem dX12_noFace_11 : decode cX12_noFace 11 = .ok (.goto 4, 3) := by decide +kernel
theorem dX12_noFace_14 : decode cX12_noFace 14 = .ok (.iconst 0, 1) := by decide +kernel
theorem dX12_noFace_15 : decode cX12_noFace 15 = .ok (.ireturn, 1) := by decide +kernel
theorem dX12_person_0 : decode cX12_person 0 = .ok (.aload_n 0, 1) := by decide +kernel
theorem dX12_person_1 : decode cX12_person 1 = .ok (.iconst 0, 1) := by decide +kernel
theorem dX12_person_2 : decode cX12_person 2 = .ok (.putfield 178, 3) := by decide +kernel
theorem dX12_person_5 : decode cX12_person 5 = .ok (.aload_n 0, 1) := by decide +kernel
theorem dX12_person_6 : decode cX12_person 6 = .ok (.iload_n 1, 1) := by decide +kernel
theorem dX12_person_7 : decode cX12_person 7 = .ok (.ldc_w 375, 3) := by decide +kernel
theorem dX12_person_10 : decode cX12_person 10 = .ok (.aload_n 0, 1) := by decide +kernel
theorem dX12_person_11 : decode cX12_person 11 = .ok (.getfield 314, 3) := by decide +kernel
theorem dX12_person_14 : decode cX12_person 14 = .ok (.invokestatic 317, 3) := by decide +kernel
theorem dX12_person_17 : decode cX12_person 17 = .ok (.ifCond .eq 42, 3) := by decide +kernel
theorem dX12_person_20 : decode cX12_person 20 = .ok (.iload_n 3, 1) := by decide +kernel
theorem dX12_person_21 : decode cX12_person 21 = .ok (.invokestatic 376, 3) := by decide +kernel
theorem dX12_person_24 : decode cX12_person 24 = .ok (.ifCond .ne 35, 3) := by decide +kernel
theorem dX12_person_27 : decode cX12_person 27 = .ok (.iload 4, 2) := by decide +kernel
theorem dX12_person_29 : decode cX12_person 29 = .ok (.invokestatic 376, 3) := by decide +kernel
theorem dX12_person_32 : decode cX12_person 32 = .ok (.ifCond .ne 27, 3) := by decide +kernel
theorem dX12_person_35 : decode cX12_person 35 = .ok (.iload 5, 2) := by decide +kernel
theorem dX12_person_37 : decode cX12_person 37 = .ok (.invokestatic 376, 3) := by decide +kernel
theorem dX12_person_40 : decode cX12_person 40 = .ok (.ifCond .ne 19, 3) := by decide +kernel
theorem dX12_person_43 : decode cX12_person 43 = .ok (.iload 6, 2) := by decide +kernel
theorem dX12_person_45 : decode cX12_person 45 = .ok (.invokestatic 376, 3) := by decide +kernel
theorem dX12_person_48 : decode cX12_person 48 = .ok (.ifCond .ne 11, 3) := by decide +kernel
theorem dX12_person_51 : decode cX12_person 51 = .ok (.iload 7, 2) := by decide +kernel
theorem dX12_person_53 : decode cX12_person 53 = .ok (.invokestatic 376, 3) := by decide +kernel
theorem dX12_person_56 : decode cX12_person 56 = .ok (.ifCond .eq 7, 3) := by decide +kernel
theorem dX12_person_59 : decode cX12_person 59 = .ok (.iconst 1, 1) := by decide +kernel
theorem dX12_person_60 : decode cX12_person 60 = .ok (.goto 4, 3) := by decide +kernel
theorem dX12_person_63 : decode cX12_person 63 = .ok (.iconst 0, 1) := by decide +kernel
theorem dX12_person_64 : decode cX12_person 64 = .ok (.iconst 1, 1) := by decide +kernel
theorem dX12_person_65 : decode cX12_person 65 = .ok (.invokevirtual 321, 3) := by decide +kernel
theorem dX12_person_68 : decode cX12_person 68 = .ok (.ifCond .ne 25, 3) := by decide +kernel
theorem dX12_person_71 : decode cX12_person 71 = .ok (.aload_n 0, 1) := by decide +kernel
theorem dX12_person_72 : decode cX12_person 72 = .ok (.aload_n 0, 1) := by decide +kernel
theorem dX12_person_73 : decode cX12_person 73 = .ok (.getfield 372, 3) := by decide +kernel
theorem dX12_person_76 : decode cX12_person 76 = .ok (.bipush 80, 2) := by decide +kernel
theorem dX12_person_78 : decode cX12_person 78 = .ok (.if_icmp .ne 7, 3) := by decide +kernel
theorem dX12_person_81 : decode cX12_person 81 = .ok (.iconst 1, 1) := by decide +kernel
theorem dX12_person_82 : decode cX12_person 82 = .ok (.goto 4, 3) := by decide +kernel
theorem dX12_person_85 : decode cX12_person 85 = .ok (.iconst 0, 1) := by decide +kernel
theorem dX12_person_86 : decode cX12_person 86 = .ok (.iconst 2, 1) := by decide +kernel
theorem dX12_person_87 : decode cX12_person 87 = .ok (.invokevirtual 321, 3) := by decide +kernel
theorem dX12_person_90 : decode cX12_person 90 = .ok (.ifCond .eq 5, 3) := by decide +kernel
theorem dX12_person_93 : decode cX12_person 93 = .ok (.iconst 0, 1) := by decide +kernel
theorem dX12_person_94 : decode cX12_person 94 = .ok (.ireturn, 1) := by decide +kernel
theorem dX12_person_95 : decode cX12_person 95 = .ok (.aload_n 0, 1) := by decide +kernel
theorem dX12_person_96 : decode cX12_person 96 = .ok (.getfield 55, 3) := by decide +kernel
theorem dX12_person_99 : decode cX12_person 99 = .ok (.aload_n 0, 1) := by decide +kernel
theorem dX12_person_100 : decode cX12_person 100 = .ok (.getfield 372, 3) := by decide +kernel
theorem dX12_person_103 : decode cX12_person 103 = .ok (.iload_n 1, 1) := by decide +kernel
theorem dX12_person_104 : decode cX12_person 104 = .ok (.iastore, 1) := by decide +kernel
theorem dX12_person_105 : decode cX12_person 105 = .ok (.aload_n 0, 1) := by decide +kernel
theorem dX12_person_106 : decode cX12_person 106 = .ok (.getfield 58, 3) := by decide +kernel
theorem dX12_person_109 : decode cX12_person 109 = .ok (.aload_n 0, 1) := by decide +kernel
theorem dX12_person_110 : decode cX12_person 110 = .ok (.getfield 372, 3) := by decide +kernel
theorem dX12_person_113 : decode cX12_person 113 = .ok (.iload_n 2, 1) := by decide +kernel
theorem dX12_person_114 : decode cX12_person 114 = .ok (.bastore, 1) := by decide +kernel
theorem dX12_person_115 : decode cX12_person 115 = .ok (.aload_n 0, 1) := by decide +kernel
theorem dX12_person_116 : decode cX12_person 116 = .ok (.getfield 61, 3) := by decide +kernel
theorem dX12_person_119 : decode cX12_person 119 = .ok (.iconst 5, 1) := by decide +kernel
theorem dX12_person_120 : decode cX12_person 120 = .ok (.aload_n 0, 1) := by decide +kernel
theorem dX12_person_121 : decode cX12_person 121 = .ok (.getfield 372, 3) := by decide +kernel
theorem dX12_person_124 : decode cX12_person 124 = .ok (.imul, 1) := by decide +kernel
theorem dX12_person_125 : decode cX12_person 125 = .ok (.iload_n 3, 1) := by decide +kernel
theorem dX12_person_126 : decode cX12_person 126 = .ok (.iastore, 1) := by decide +kernel
theorem dX12_person_127 : decode cX12_person 127 = .ok (.aload_n 0, 1) := by decide +kernel
theorem dX12_person_128 : decode cX12_person 128 = .ok (.getfield 61, 3) := by decide +kernel
theorem dX12_person_131 : decode cX12_person 131 = .ok (.iconst 5, 1) := by decide +kernel
theorem dX12_person_132 : decode cX12_person 132 = .ok (.aload_n 0, 1) := by decide +kernel
theorem dX12_person_133 : decode cX12_person 133 = .ok (.getfield 372, 3) := by decide +kernel
theorem dX12_person_136 : decode cX12_person 136 = .ok (.imul, 1) := by decide +kernel
theorem dX12_person_137 : decode cX12_person 137 = .ok (.iconst 1, 1) := by decide +kernel
theorem dX12_person_138 : decode cX12_person 138 = .ok (.iadd, 1) := by decide +kernel
theorem dX12_person_139 : decode cX12_person 139 = .ok (.iload 4, 2) := by decide +kernel
theorem dX12_person_141 : decode cX12_person 141 = .ok (.iastore, 1) := by decide +kernel
theorem dX12_person_142 : decode cX12_person 142 = .ok (.aload_n 0, 1) := by decide +kernel
theorem dX12_person_143 : decode cX12_person 143 = .ok (.getfield 61, 3) := by decide +kernel
theorem dX12_person_146 : decode cX12_person 146 = .ok (.iconst 5, 1) := by decide +kernel
theorem dX12_person_147 : decode cX12_person 147 = .ok (.aload_n 0, 1) := by decide +kernel
theorem dX12_person_148 : decode cX12_person 148 = .ok (.getfield 372, 3) := by decide +kernel
theorem dX12_person_151 : decode cX12_person 151 = .ok (.imul, 1) := by decide +kernel
theorem dX12_person_152 : decode cX12_person 152 = .ok (.iconst 2, 1) := by decide +kernel
theorem dX12_person_153 : decode cX12_person 153 = .ok (.iadd, 1) := by decide +kernel
theorem dX12_person_154 : decode cX12_person 154 = .ok (.iload 5, 2) := by decide +kernel
theorem dX12_person_156 : decode cX12_person 156 = .ok (.iastore, 1) := by decide +kernel
theorem dX12_person_157 : decode cX12_person 157 = .ok (.aload_n 0, 1) := by decide +kernel
theorem dX12_person_158 : decode cX12_person 158 = .ok (.getfield 61, 3) := by decide +kernel
theorem dX12_person_161 : decode cX12_person 161 = .ok (.iconst 5, 1) := by decide +kernel
theorem dX12_person_162 : decode cX12_person 162 = .ok (.aload_n 0, 1) := by decide +kernel
theorem dX12_person_163 : decode cX12_person 163 = .ok (.getfield 372, 3) := by decide +kernel
theorem dX12_person_166 : decode cX12_person 166 = .ok (.imul, 1) := by decide +kernel
theorem dX12_person_167 : decode cX12_person 167 = .ok (.iconst 3, 1) := by decide +kernel
theorem dX12_person_168 : decode cX12_person 168 = .ok (.iadd, 1) := by decide +kernel
theorem dX12_person_169 : decode cX12_person 169 = .ok (.iload 6, 2) := by decide +kernel
theorem dX12_person_171 : decode cX12_person 171 = .ok (.iastore, 1) := by decide +kernel
theorem dX12_person_172 : decode cX12_person 172 = .ok (.aload_n 0, 1) := by decide +kernel
theorem dX12_person_173 : decode cX12_person 173 = .ok (.getfield 61, 3) := by decide +kernel
theorem dX12_person_176 : decode cX12_person 176 = .ok (.iconst 5, 1) := by decide +kernel
theorem dX12_person_177 : decode cX12_person 177 = .ok (.aload_n 0, 1) := by decide +kernel
theorem dX12_person_178 : decode cX12_person 178 = .ok (.getfield 372, 3) := by decide +kernel
theorem dX12_person_181 : decode cX12_person 181 = .ok (.imul, 1) := by decide +kernel
theorem dX12_person_182 : decode cX12_person 182 = .ok (.iconst 4, 1) := by decide +kernel
theorem dX12_person_183 : decode cX12_person 183 = .ok (.iadd, 1) := by decide +kernel
theorem dX12_person_184 : decode cX12_person 184 = .ok (.iload 7, 2) := by decide +kernel
theorem dX12_person_186 : decode cX12_person 186 = .ok (.iastore, 1) := by decide +kernel
theorem dX12_person_187 : decode cX12_person 187 = .ok (.aload_n 0, 1) := by decide +kernel
theorem dX12_person_188 : decode cX12_person 188 = .ok (.dup, 1) := by decide +kernel
theorem dX12_person_189 : decode cX12_person 189 = .ok (.getfield 372, 3) := by decide +kernel
theorem dX12_person_192 : decode cX12_person 192 = .ok (.iconst 1, 1) := by decide +kernel
theorem dX12_person_193 : decode cX12_person 193 = .ok (.iadd, 1) := by decide +kernel
theorem dX12_person_194 : decode cX12_person 194 = .ok (.putfield 372, 3) := by decide +kernel
theorem dX12_person_197 : decode cX12_person 197 = .ok (.aload_n 0, 1) := by decide +kernel
theorem dX12_person_198 : decode cX12_person 198 = .ok (.getfield 372, 3) := by decide +kernel
theorem dX12_person_201 : decode cX12_person 201 = .ok (.iconst 1, 1) := by decide +kernel
theorem dX12_person_202 : decode cX12_person 202 = .ok (.isub, 1) := by decide +kernel
theorem dX12_person_203 : decode cX12_person 203 = .ok (.ireturn, 1) := by decide +kernel
theorem dX12_isGap_0 : decode cX12_isGap 0 = .ok (.iload_n 0, 1) := by decide +kernel
theorem dX12_isGap_1 : decode cX12_isGap 1 = .ok (.bipush 32, 2) := by decide +kernel
theorem dX12_isGap_3 : decode cX12_isGap 3 = .ok (.if_icmp .eq 9, 3) := by decide +kernel
theorem dX12_isGap_6 : decode cX12_isGap 6 = .ok (.iload_n 0, 1) := by decide +kernel
theorem dX12_isGap_7 : decode cX12_isGap 7 = .ok (.bipush 45, 2) := by decide +kernel
theorem dX12_isGap_9 : decode cX12_isGap 9 = .ok (.if_icmp .ne 7, 3) := by decide +kernel
theorem dX12_isGap_12 : decode cX12_isGap 12 = .ok (.iconst 1, 1) := by decide +kernel
theorem dX12_isGap_13 : decode cX12_isGap 13 = .ok (.goto 4, 3) := by decide +kernel
theorem dX12_isGap_16 : decode cX12_isGap 16 = .ok (.iconst 0, 1) := by decide +kernel
theorem dX12_isGap_17 : decode cX12_isGap 17 = .ok (.ireturn, 1) := by decide +kernel
theorem dX12_turnOf_0 : decode cX12_turnOf 0 = .ok (.iload_n 0, 1) := by decide +kernel
theorem dX12_turnOf_1 : decode cX12_turnOf 1 = .ok (.bipush 65, 2) := by decide +kernel
theorem dX12_turnOf_3 : decode cX12_turnOf 3 = .ok (.bipush 90, 2) := by decide +kernel
theorem dX12_turnOf_5 : decode cX12_turnOf 5 = .ok (.invokestatic 317, 3) := by decide +kernel
theorem dX12_turnOf_8 : decode cX12_turnOf 8 = .ok (.ifCond .eq 5, 3) := by decide +kernel
theorem dX12_turnOf_11 : decode cX12_turnOf 11 = .ok (.iload_n 0, 1) := by decide +kernel
theorem dX12_turnOf_12 : decode cX12_turnOf 12 = .ok (.ireturn, 1) := by decide +kernel
theorem dX12_turnOf_13 : decode cX12_turnOf 13 = .ok (.iload_n 0, 1) := by decide +kernel
theorem dX12_turnOf_14 : decode cX12_turnOf 14 = .ok (.bipush 97, 2) := by decide +kernel
theorem dX12_turnOf_16 : decode cX12_turnOf 16 = .ok (.bipush 122, 2) := by decide +kernel
theorem dX12_turnOf_18 : decode cX12_turnOf 18 = .ok (.invokestatic 317, 3) := by decide +kernel
theorem dX12_turnOf_21 : decode cX12_turnOf 21 = .ok (.ifCond .eq 8, 3) := by decide +kernel
theorem dX12_turnOf_24 : decode cX12_turnOf 24 = .ok (.iload_n 0, 1) := by decide +kernel
theorem dX12_turnOf_25 : decode cX12_turnOf 25 = .ok (.bipush 32, 2) := by decide +kernel
theorem dX12_turnOf_27 : decode cX12_turnOf 27 = .ok (.isub, 1) := by decide +kernel
theorem dX12_turnOf_28 : decode cX12_turnOf 28 = .ok (.ireturn, 1) := by decide +kernel
theorem dX12_turnOf_29 : decode cX12_turnOf 29 = .ok (.iload_n 0, 1) := by decide +kernel
theorem dX12_turnOf_30 : decode cX12_turnOf 30 = .ok (.lookupswitch 226 #[(32, 194), (45, 194), (196, 197), (197, 213), (198, 197), (199, 223), (200, 220), (201, 220), (209, 217), (214, 201), (216, 201), (220, 205), (223, 209), (228, 197), (229, 213), (230, 197), (231, 223), (232, 220), (233, 220), (241, 217), (246, 201), (248, 201), (252, 205)], 194) := by decide +kernel
theorem dX12_turnOf_224 : decode cX12_turnOf 224 = .ok (.bipush 60, 2) := by decide +kernel
theorem dX12_turnOf_226 : decode cX12_turnOf 226 = .ok (.ireturn, 1) := by decide +kernel
theorem dX12_turnOf_227 : decode cX12_turnOf 227 = .ok (.sipush 17729, 3) := by decide +kernel
theorem dX12_turnOf_230 : decode cX12_turnOf 230 = .ok (.ireturn, 1) := by decide +kernel
theorem dX12_turnOf_231 : decode cX12_turnOf 231 = .ok (.sipush 17743, 3) := by decide +kernel
theorem dX12_turnOf_234 : decode cX12_turnOf 234 = .ok (.ireturn, 1) := by decide +kernel
theorem dX12_turnOf_235 : decode cX12_turnOf 235 = .ok (.sipush 17749, 3) := by decide +kernel
theorem dX12_turnOf_238 : decode cX12_turnOf 238 = .ok (.ireturn, 1) := by decide +kernel
theorem dX12_turnOf_239 : decode cX12_turnOf 239 = .ok (.sipush 21331, 3) := by decide +kernel
theorem dX12_turnOf_242 : decode cX12_turnOf 242 = .ok (.ireturn, 1) := by decide +kernel
theorem dX12_turnOf_243 : decode cX12_turnOf 243 = .ok (.sipush 16705, 3) := by decide +kernel
theorem dX12_turnOf_246 : decode cX12_turnOf 246 = .ok (.ireturn, 1) := by decide +kernel
theorem dX12_turnOf_247 : decode cX12_turnOf 247 = .ok (.bipush 78, 2) := by decide +kernel
theorem dX12_turnOf_249 : decode cX12_turnOf 249 = .ok (.ireturn, 1) := by decide +kernel
theorem dX12_turnOf_250 : decode cX12_turnOf 250 = .ok (.bipush 69, 2) := by decide +kernel
theorem dX12_turnOf_252 : decode cX12_turnOf 252 = .ok (.ireturn, 1) := by decide +kernel
theorem dX12_turnOf_253 : decode cX12_turnOf 253 = .ok (.bipush 67, 2) := by decide +kernel
theorem dX12_turnOf_255 : decode cX12_turnOf 255 = .ok (.ireturn, 1) := by decide +kernel
theorem dX12_turnOf_256 : decode cX12_turnOf 256 = .ok (.iconst 0, 1) := by decide +kernel
theorem dX12_turnOf_257 : decode cX12_turnOf 257 = .ok (.ireturn, 1) := by decide +kernel
theorem dX12_readName_0 : decode cX12_readName 0 = .ok (.iconst 0, 1) := by decide +kernel
theorem dX12_readName_1 : decode cX12_readName 1 = .ok (.istore_n 1, 1) := by decide +kernel
theorem dX12_readName_2 : decode cX12_readName 2 = .ok (.bipush 32, 2) := by decide +kernel
theorem dX12_readName_4 : decode cX12_readName 4 = .ok (.istore_n 2, 1) := by decide +kernel
theorem dX12_readName_5 : decode cX12_readName 5 = .ok (.aload_n 0, 1) := by decide +kernel
theorem dX12_readName_6 : decode cX12_readName 6 = .ok (.iconst 0, 1) := by decide +kernel
theorem dX12_readName_7 : decode cX12_readName 7 = .ok (.putfield 187, 3) := by decide +kernel
theorem dX12_readName_10 : decode cX12_readName 10 = .ok (.aload_n 0, 1) := by decide +kernel
theorem dX12_readName_11 : decode cX12_readName 11 = .ok (.getfield 187, 3) := by decide +kernel
theorem dX12_readName_14 : decode cX12_readName 14 = .ok (.aload_n 0, 1) := by decide +kernel
theorem dX12_readName_15 : decode cX12_readName 15 = .ok (.getfield 184, 3) := by decide +kernel
theorem dX12_readName_18 : decode cX12_readName 18 = .ok (.if_icmp .ge 114, 3) := by decide +kernel
theorem dX12_readName_21 : decode cX12_readName 21 = .ok (.aload_n 0, 1) := by decide +kernel
theorem dX12_readName_22 : decode cX12_readName 22 = .ok (.getfield 9, 3) := by decide +kernel
theorem dX12_readName_25 : decode cX12_readName 25 = .ok (.aload_n 0, 1) := by decide +kernel
theorem dX12_readName_26 : decode cX12_readName 26 = .ok (.getfield 187, 3) := by decide +kernel
theorem dX12_readName_29 : decode cX12_readName 29 = .ok (.baload, 1) := by decide +kernel
theorem dX12_readName_30 : decode cX12_readName 30 = .ok (.sipush 255, 3) := by decide +kernel
theorem dX12_readName_33 : decode cX12_readName 33 = .ok (.iand, 1) := by decide +kernel
theorem dX12_readName_34 : decode cX12_readName 34 = .ok (.istore_n 3, 1) := by decide +kernel
theorem dX12_readName_35 : decode cX12_readName 35 = .ok (.iload_n 3, 1) := by decide +kernel
theorem dX12_readName_36 : decode cX12_readName 36 = .ok (.invokestatic 379, 3) := by decide +kernel
theorem dX12_readName_39 : decode cX12_readName 39 = .ok (.istore 4, 2) := by decide +kernel
theorem dX12_readName_41 : decode cX12_readName 41 = .ok (.aload_n 0, 1) := by decide +kernel
theorem dX12_readName_42 : decode cX12_readName 42 = .ok (.aload_n 0, 1) := by decide +kernel
theorem dX12_readName_43 : decode cX12_readName 43 = .ok (.getfield 187, 3) := by decide +kernel
theorem dX12_readName_46 : decode cX12_readName 46 = .ok (.putfield 194, 3) := by decide +kernel
theorem dX12_readName_49 : decode cX12_readName 49 = .ok (.aload_n 0, 1) := by decide +kernel
theorem dX12_readName_50 : decode cX12_readName 50 = .ok (.getfield 187, 3) := by decide +kernel
theorem dX12_readName_53 : decode cX12_readName 53 = .ok (.bipush 24, 2) := by decide +kernel
theorem dX12_readName_55 : decode cX12_readName 55 = .ok (.if_icmp .eq 22, 3) := by decide +kernel
theorem dX12_readName_58 : decode cX12_readName 58 = .ok (.iload 4, 2) := by decide +kernel
theorem dX12_readName_60 : decode cX12_readName 60 = .ok (.ifCond .eq 17, 3) := by decide +kernel
theorem dX12_readName_63 : decode cX12_readName 63 = .ok (.iload_n 3, 1) := by decide +kernel
theorem dX12_readName_64 : decode cX12_readName 64 = .ok (.invokestatic 382, 3) := by decide +kernel
theorem dX12_readName_67 : decode cX12_readName 67 = .ok (.ifCond .eq 12, 3) := by decide +kernel
theorem dX12_readName_70 : decode cX12_readName 70 = .ok (.iload_n 2, 1) := by decide +kernel
theorem dX12_readName_71 : decode cX12_readName 71 = .ok (.invokestatic 382, 3) := by decide +kernel
theorem dX12_readName_74 : decode cX12_readName 74 = .ok (.ifCond .eq 5, 3) := by decide +kernel
theorem dX12_readName_77 : decode cX12_readName 77 = .ok (.iconst (-1), 1) := by decide +kernel
theorem dX12_readName_78 : decode cX12_readName 78 = .ok (.ireturn, 1) := by decide +kernel
theorem dX12_readName_79 : decode cX12_readName 79 = .ok (.aload_n 0, 1) := by decide +kernel
theorem dX12_readName_80 : decode cX12_readName 80 = .ok (.getfield 73, 3) := by decide +kernel
theorem dX12_readName_83 : decode cX12_readName 83 = .ok (.iload_n 1, 1) := by decide +kernel
theorem dX12_readName_84 : decode cX12_readName 84 = .ok (.iload 4, 2) := by decide +kernel
theorem dX12_readName_86 : decode cX12_readName 86 = .ok (.sipush 256, 3) := by decide +kernel
theorem dX12_readName_89 : decode cX12_readName 89 = .ok (.irem, 1) := by decide +kernel
theorem dX12_readName_90 : decode cX12_readName 90 = .ok (.iastore, 1) := by decide +kernel
theorem dX12_readName_91 : decode cX12_readName 91 = .ok (.iinc 1 1, 3) := by decide +kernel
theorem dX12_readName_94 : decode cX12_readName 94 = .ok (.iload 4, 2) := by decide +kernel
theorem dX12_readName_96 : decode cX12_readName 96 = .ok (.sipush 256, 3) := by decide +kernel
theorem dX12_readName_99 : decode cX12_readName 99 = .ok (.if_icmp .lt 18, 3) := by decide +kernel
theorem dX12_readName_102 : decode cX12_readName 102 = .ok (.aload_n 0, 1) := by decide +kernel
theorem dX12_readName_103 : decode cX12_readName 103 = .ok (.getfield 73, 3) := by decide +kernel
theorem dX12_readName_106 : decode cX12_readName 106 = .ok (.iload_n 1, 1) := by decide +kernel
theorem dX12_readName_107 : decode cX12_readName 107 = .ok (.iload 4, 2) := by decide +kernel
theorem dX12_readName_109 : decode cX12_readName 109 = .ok (.sipush 256, 3) := by decide +kernel
theorem dX12_readName_112 : decode cX12_readName 112 = .ok (.idiv, 1) := by decide +kernel
theorem dX12_readName_113 : decode cX12_readName 113 = .ok (.iastore, 1) := by decide +kernel
theorem dX12_readName_114 : decode cX12_readName 114 = .ok (.iinc 1 1, 3) := by decide +kernel
theorem dX12_readName_117 : decode cX12_readName 117 = .ok (.iload_n 3, 1) := by decide +kernel
theorem dX12_readName_118 : decode cX12_readName 118 = .ok (.istore_n 2, 1) := by decide +kernel
theorem dX12_readName_119 : decode cX12_readName 119 = .ok (.aload_n 0, 1) := by decide +kernel
theorem dX12_readName_120 : decode cX12_readName 120 = .ok (.dup, 1) := by decide +kernel
theorem dX12_readName_121 : decode cX12_readName 121 = .ok (.getfield 187, 3) := by decide +kernel
theorem dX12_readName_124 : decode cX12_readName 124 = .ok (.iconst 1, 1) := by decide +kernel
theorem dX12_readName_125 : decode cX12_readName 125 = .ok (.iadd, 1) := by decide +kernel
theorem dX12_readName_126 : decode cX12_readName 126 = .ok (.putfield 187, 3) := by decide +kernel
theorem dX12_readName_129 : decode cX12_readName 129 = .ok (.goto (-119), 3) := by decide +kernel
theorem dX12_readName_132 : decode cX12_readName 132 = .ok (.aload_n 0, 1) := by decide +kernel
theorem dX12_readName_133 : decode cX12_readName 133 = .ok (.aload_n 0, 1) := by decide +kernel
theorem dX12_readName_134 : decode cX12_readName 134 = .ok (.getfield 184, 3) := by decide +kernel
theorem dX12_readName_137 : decode cX12_readName 137 = .ok (.putfield 194, 3) := by decide +kernel
theorem dX12_readName_140 : decode cX12_readName 140 = .ok (.iload_n 2, 1) := by decide +kernel
theorem dX12_readName_141 : decode cX12_readName 141 = .ok (.invokestatic 382, 3) := by decide +kernel
theorem dX12_readName_144 : decode cX12_readName 144 = .ok (.ifCond .eq 7, 3) := by decide +kernel
theorem dX12_readName_147 : decode cX12_readName 147 = .ok (.iconst (-1), 1) := by decide +kernel
theorem dX12_readName_148 : decode cX12_readName 148 = .ok (.goto 4, 3) := by decide +kernel
theorem dX12_readName_151 : decode cX12_readName 151 = .ok (.iload_n 1, 1) := by decide +kernel
theorem dX12_readName_152 : decode cX12_readName 152 = .ok (.ireturn, 1) := by decide +kernel
theorem dX12_name_0 : decode cX12_name 0 = .ok (.aload_n 0, 1) := by decide +kernel
theorem dX12_name_1 : decode cX12_name 1 = .ok (.invokevirtual 311, 3) := by decide +kernel
theorem dX12_name_4 : decode cX12_name 4 = .ok (.aload_n 0, 1) := by decide +kernel
theorem dX12_name_5 : decode cX12_name 5 = .ok (.aload_n 0, 1) := by decide +kernel
theorem dX12_name_6 : decode cX12_name 6 = .ok (.iload_n 1, 1) := by decide +kernel
theorem dX12_name_7 : decode cX12_name 7 = .ok (.invokevirtual 385, 3) := by decide +kernel
theorem dX12_name_10 : decode cX12_name 10 = .ok (.iconst 1, 1) := by decide +kernel
theorem dX12_name_11 : decode cX12_name 11 = .ok (.invokevirtual 321, 3) := by decide +kernel
theorem dX12_name_14 : decode cX12_name 14 = .ok (.ifCond .eq 5, 3) := by decide +kernel
theorem dX12_name_17 : decode cX12_name 17 = .ok (.iconst 0, 1) := by decide +kernel
theorem dX12_name_18 : decode cX12_name 18 = .ok (.ireturn, 1) := by decide +kernel
theorem dX12_name_19 : decode cX12_name 19 = .ok (.aload_n 0, 1) := by decide +kernel
theorem dX12_name_20 : decode cX12_name 20 = .ok (.invokevirtual 388, 3) := by decide +kernel
theorem dX12_name_23 : decode cX12_name 23 = .ok (.istore_n 2, 1) := by decide +kernel
theorem dX12_name_24 : decode cX12_name 24 = .ok (.aload_n 0, 1) := by decide +kernel
theorem dX12_name_25 : decode cX12_name 25 = .ok (.iload_n 2, 1) := by decide +kernel
theorem dX12_name_26 : decode cX12_name 26 = .ok (.ifCond .ge 10, 3) := by decide +kernel
theorem dX12_name_29 : decode cX12_name 29 = .ok (.aload_n 0, 1) := by decide +kernel
theorem dX12_name_30 : decode cX12_name 30 = .ok (.getfield 194, 3) := by decide +kernel
theorem dX12_name_33 : decode cX12_name 33 = .ok (.goto 4, 3) := by decide +kernel
theorem dX12_name_36 : decode cX12_name 36 = .ok (.iconst (-1), 1) := by decide +kernel
theorem dX12_name_37 : decode cX12_name 37 = .ok (.putfield 13, 3) := by decide +kernel
theorem dX12_name_40 : decode cX12_name 40 = .ok (.aload_n 0, 1) := by decide +kernel
theorem dX12_name_41 : decode cX12_name 41 = .ok (.iload_n 2, 1) := by decide +kernel
theorem dX12_name_42 : decode cX12_name 42 = .ok (.ifCond .ge 7, 3) := by decide +kernel
theorem dX12_name_45 : decode cX12_name 45 = .ok (.iconst 1, 1) := by decide +kernel
theorem dX12_name_46 : decode cX12_name 46 = .ok (.goto 4, 3) := by decide +kernel
theorem dX12_name_49 : decode cX12_name 49 = .ok (.iconst 0, 1) := by decide +kernel
theorem dX12_name_50 : decode cX12_name 50 = .ok (.iconst 2, 1) := by decide +kernel
theorem dX12_name_51 : decode cX12_name 51 = .ok (.invokevirtual 321, 3) := by decide +kernel
theorem dX12_name_54 : decode cX12_name 54 = .ok (.ifCond .eq 5, 3) := by decide +kernel
theorem dX12_name_57 : decode cX12_name 57 = .ok (.iconst 0, 1) := by decide +kernel
theorem dX12_name_58 : decode cX12_name 58 = .ok (.ireturn, 1) := by decide +kernel
theorem dX12_name_59 : decode cX12_name 59 = .ok (.aload_n 0, 1) := by decide +kernel
theorem dX12_name_60 : decode cX12_name 60 = .ok (.getfield 67, 3) := by decide +kernel
theorem dX12_name_63 : decode cX12_name 63 = .ok (.iload_n 1, 1) := by decide +kernel
theorem dX12_name_64 : decode cX12_name 64 = .ok (.iconst 1, 1) := by decide +kernel
theorem dX12_name_65 : decode cX12_name 65 = .ok (.bastore, 1) := by decide +kernel
theorem dX12_name_66 : decode cX12_name 66 = .ok (.iconst 0, 1) := by decide +kernel
theorem dX12_name_67 : decode cX12_name 67 = .ok (.istore_n 3, 1) := by decide +kernel
theorem dX12_name_68 : decode cX12_name 68 = .ok (.iload_n 3, 1) := by decide +kernel
theorem dX12_name_69 : decode cX12_name 69 = .ok (.bipush 24, 2) := by decide +kernel
theorem dX12_name_71 : decode cX12_name 71 = .ok (.if_icmp .ge 36, 3) := by decide +kernel
theorem dX12_name_74 : decode cX12_name 74 = .ok (.aload_n 0, 1) := by decide +kernel
theorem dX12_name_75 : decode cX12_name 75 = .ok (.getfield 64, 3) := by decide +kernel
theorem dX12_name_78 : decode cX12_name 78 = .ok (.bipush 24, 2) := by decide +kernel
theorem dX12_name_80 : decode cX12_name 80 = .ok (.iload_n 1, 1) := by decide +kernel
theorem dX12_name_81 : decode cX12_name 81 = .ok (.imul, 1) := by decide +kernel
theorem dX12_name_82 : decode cX12_name 82 = .ok (.iload_n 3, 1) := by decide +kernel
theorem dX12_name_83 : decode cX12_name 83 = .ok (.iadd, 1) := by decide +kernel
theorem dX12_name_84 : decode cX12_name 84 = .ok (.iload_n 3, 1) := by decide +kernel
theorem dX12_name_85 : decode cX12_name 85 = .ok (.iload_n 2, 1) := by decide +kernel
theorem dX12_name_86 : decode cX12_name 86 = .ok (.if_icmp .ge 12, 3) := by decide +kernel
theorem dX12_name_89 : decode cX12_name 89 = .ok (.aload_n 0, 1) := by decide +kernel
theorem dX12_name_90 : decode cX12_name 90 = .ok (.getfield 73, 3) := by decide +kernel
theorem dX12_name_93 : decode cX12_name 93 = .ok (.iload_n 3, 1) := by decide +kernel
theorem dX12_name_94 : decode cX12_name 94 = .ok (.iaload, 1) := by decide +kernel
theorem dX12_name_95 : decode cX12_name 95 = .ok (.goto 5, 3) := by decide +kernel
theorem dX12_name_98 : decode cX12_name 98 = .ok (.bipush 60, 2) := by decide +kernel
theorem dX12_name_100 : decode cX12_name 100 = .ok (.iastore, 1) := by decide +kernel
theorem dX12_name_101 : decode cX12_name 101 = .ok (.iinc 3 1, 3) := by decide +kernel
theorem dX12_name_104 : decode cX12_name 104 = .ok (.goto (-36), 3) := by decide +kernel
theorem dX12_name_107 : decode cX12_name 107 = .ok (.iload_n 2, 1) := by decide +kernel
theorem dX12_name_108 : decode cX12_name 108 = .ok (.ireturn, 1) := by decide +kernel
theorem dX12_sign_0 : decode cX12_sign 0 = .ok (.aload_n 0, 1) := by decide +kernel
theorem dX12_sign_1 : decode cX12_sign 1 = .ok (.iconst 0, 1) := by decide +kernel
theorem dX12_sign_2 : decode cX12_sign 2 = .ok (.putfield 178, 3) := by decide +kernel
theorem dX12_sign_5 : decode cX12_sign 5 = .ok (.aload_n 0, 1) := by decide +kernel
theorem dX12_sign_6 : decode cX12_sign 6 = .ok (.aload_n 0, 1) := by decide +kernel
theorem dX12_sign_7 : decode cX12_sign 7 = .ok (.iload_n 1, 1) := by decide +kernel
theorem dX12_sign_8 : decode cX12_sign 8 = .ok (.invokevirtual 385, 3) := by decide +kernel
theorem dX12_sign_11 : decode cX12_sign 11 = .ok (.iconst 1, 1) := by decide +kernel
theorem dX12_sign_12 : decode cX12_sign 12 = .ok (.invokevirtual 321, 3) := by decide +kernel
theorem dX12_sign_15 : decode cX12_sign 15 = .ok (.ifCond .eq 7, 3) := by decide +kernel
theorem dX12_sign_18 : decode cX12_sign 18 = .ok (.iconst 0, 1) := by decide +kernel
theorem dX12_sign_19 : decode cX12_sign 19 = .ok (.goto 37, 3) := by decide +kernel
theorem dX12_sign_22 : decode cX12_sign 22 = .ok (.aload_n 0, 1) := by decide +kernel
theorem dX12_sign_23 : decode cX12_sign 23 = .ok (.getfield 67, 3) := by decide +kernel
theorem dX12_sign_26 : decode cX12_sign 26 = .ok (.iload_n 1, 1) := by decide +kernel
theorem dX12_sign_27 : decode cX12_sign 27 = .ok (.baload, 1) := by decide +kernel
theorem dX12_sign_28 : decode cX12_sign 28 = .ok (.ifCond .eq 27, 3) := by decide +kernel
theorem dX12_sign_31 : decode cX12_sign 31 = .ok (.iload_n 2, 1) := by decide +kernel
theorem dX12_sign_32 : decode cX12_sign 32 = .ok (.iconst 0, 1) := by decide +kernel
theorem dX12_sign_33 : decode cX12_sign 33 = .ok (.bipush 23, 2) := by decide +kernel
theorem dX12_sign_35 : decode cX12_sign 35 = .ok (.invokestatic 317, 3) := by decide +kernel
theorem dX12_sign_38 : decode cX12_sign 38 = .ok (.ifCond .eq 17, 3) := by decide +kernel
theorem dX12_sign_41 : decode cX12_sign 41 = .ok (.aload_n 0, 1) := by decide +kernel
theorem dX12_sign_42 : decode cX12_sign 42 = .ok (.getfield 64, 3) := by decide +kernel
theorem dX12_sign_45 : decode cX12_sign 45 = .ok (.bipush 24, 2) := by decide +kernel
theorem dX12_sign_47 : decode cX12_sign 47 = .ok (.iload_n 1, 1) := by decide +kernel
theorem dX12_sign_48 : decode cX12_sign 48 = .ok (.imul, 1) := by decide +kernel
theorem dX12_sign_49 : decode cX12_sign 49 = .ok (.iload_n 2, 1) := by decide +kernel
theorem dX12_sign_50 : decode cX12_sign 50 = .ok (.iadd, 1) := by decide +kernel
theorem dX12_sign_51 : decode cX12_sign 51 = .ok (.iaload, 1) := by decide +kernel
theorem dX12_sign_52 : decode cX12_sign 52 = .ok (.goto 4, 3) := by decide +kernel
theorem dX12_sign_55 : decode cX12_sign 55 = .ok (.iconst (-1), 1) := by decide +kernel
theorem dX12_sign_56 : decode cX12_sign 56 = .ok (.ireturn, 1) := by decide +kernel
theorem dX12_figure_0 : decode cX12_figure 0 = .ok (.aload_n 0, 1) := by decide +kernel
theorem dX12_figure_1 : decode cX12_figure 1 = .ok (.iconst 0, 1) := by decide +kernel
theorem dX12_figure_2 : decode cX12_figure 2 = .ok (.putfield 178, 3) := by decide +kernel
theorem dX12_figure_5 : decode cX12_figure 5 = .ok (.aload_n 0, 1) := by decide +kernel
theorem dX12_figure_6 : decode cX12_figure 6 = .ok (.aload_n 0, 1) := by decide +kernel
theorem dX12_figure_7 : decode cX12_figure 7 = .ok (.iload_n 1, 1) := by decide +kernel
theorem dX12_figure_8 : decode cX12_figure 8 = .ok (.invokevirtual 385, 3) := by decide +kernel
theorem dX12_figure_11 : decode cX12_figure 11 = .ok (.iconst 1, 1) := by decide +kernel
theorem dX12_figure_12 : decode cX12_figure 12 = .ok (.invokevirtual 321, 3) := by decide +kernel
theorem dX12_figure_15 : decode cX12_figure 15 = .ok (.ifCond .eq 5, 3) := by decide +kernel
theorem dX12_figure_18 : decode cX12_figure 18 = .ok (.iconst 0, 1) := by decide +kernel
theorem dX12_figure_19 : decode cX12_figure 19 = .ok (.ireturn, 1) := by decide +kernel
theorem dX12_figure_20 : decode cX12_figure 20 = .ok (.aload_n 0, 1) := by decide +kernel
theorem dX12_figure_21 : decode cX12_figure 21 = .ok (.getfield 67, 3) := by decide +kernel
theorem dX12_figure_24 : decode cX12_figure 24 = .ok (.iload_n 1, 1) := by decide +kernel
theorem dX12_figure_25 : decode cX12_figure 25 = .ok (.baload, 1) := by decide +kernel
theorem dX12_figure_26 : decode cX12_figure 26 = .ok (.ifCond .ne 5, 3) := by decide +kernel
theorem dX12_figure_29 : decode cX12_figure 29 = .ok (.iconst (-1), 1) := by decide +kernel
theorem dX12_figure_30 : decode cX12_figure 30 = .ok (.ireturn, 1) := by decide +kernel
theorem dX12_figure_31 : decode cX12_figure 31 = .ok (.iconst 0, 1) := by decide +kernel
theorem dX12_figure_32 : decode cX12_figure 32 = .ok (.istore_n 2, 1) := by decide +kernel
theorem dX12_figure_33 : decode cX12_figure 33 = .ok (.iconst 0, 1) := by decide +kernel
theorem dX12_figure_34 : decode cX12_figure 34 = .ok (.istore_n 3, 1) := by decide +kernel
theorem dX12_figure_35 : decode cX12_figure 35 = .ok (.iload_n 3, 1) := by decide +kernel
theorem dX12_figure_36 : decode cX12_figure 36 = .ok (.bipush 24, 2) := by decide +kernel
theorem dX12_figure_38 : decode cX12_figure 38 = .ok (.if_icmp .ge 68, 3) := by decide +kernel
theorem dX12_figure_41 : decode cX12_figure 41 = .ok (.aload_n 0, 1) := by decide +kernel
theorem dX12_figure_42 : decode cX12_figure 42 = .ok (.getfield 64, 3) := by decide +kernel
theorem dX12_figure_45 : decode cX12_figure 45 = .ok (.bipush 24, 2) := by decide +kernel
theorem dX12_figure_47 : decode cX12_figure 47 = .ok (.iload_n 1, 1) := by decide +kernel
theorem dX12_figure_48 : decode cX12_figure 48 = .ok (.imul, 1) := by decide +kernel
theorem dX12_figure_49 : decode cX12_figure 49 = .ok (.iload_n 3, 1) := by decide +kernel
theorem dX12_figure_50 : decode cX12_figure 50 = .ok (.iadd, 1) := by decide +kernel
theorem dX12_figure_51 : decode cX12_figure 51 = .ok (.iaload, 1) := by decide +kernel
theorem dX12_figure_52 : decode cX12_figure 52 = .ok (.istore 4, 2) := by decide +kernel
theorem dX12_figure_54 : decode cX12_figure 54 = .ok (.iload_n 2, 1) := by decide +kernel
theorem dX12_figure_55 : decode cX12_figure 55 = .ok (.iload 4, 2) := by decide +kernel
theorem dX12_figure_57 : decode cX12_figure 57 = .ok (.bipush 60, 2) := by decide +kernel
theorem dX12_figure_59 : decode cX12_figure 59 = .ok (.if_icmp .ne 7, 3) := by decide +kernel
theorem dX12_figure_62 : decode cX12_figure 62 = .ok (.iconst 0, 1) := by decide +kernel
theorem dX12_figure_63 : decode cX12_figure 63 = .ok (.goto 11, 3) := by decide +kernel
theorem dX12_figure_66 : decode cX12_figure 66 = .ok (.iload 4, 2) := by decide +kernel
theorem dX12_figure_68 : decode cX12_figure 68 = .ok (.bipush 65, 2) := by decide +kernel
theorem dX12_figure_70 : decode cX12_figure 70 = .ok (.isub, 1) := by decide +kernel
theorem dX12_figure_71 : decode cX12_figure 71 = .ok (.bipush 10, 2) := by decide +kernel
theorem dX12_figure_73 : decode cX12_figure 73 = .ok (.iadd, 1) := by decide +kernel
theorem dX12_figure_74 : decode cX12_figure 74 = .ok (.iload_n 3, 1) := by decide +kernel
theorem dX12_figure_75 : decode cX12_figure 75 = .ok (.iconst 3, 1) := by decide +kernel
theorem dX12_figure_76 : decode cX12_figure 76 = .ok (.irem, 1) := by decide +kernel
theorem dX12_figure_77 : decode cX12_figure 77 = .ok (.ifCond .ne 8, 3) := by decide +kernel
theorem dX12_figure_80 : decode cX12_figure 80 = .ok (.bipush 7, 2) := by decide +kernel
theorem dX12_figure_82 : decode cX12_figure 82 = .ok (.goto 15, 3) := by decide +kernel
theorem dX12_figure_85 : decode cX12_figure 85 = .ok (.iload_n 3, 1) := by decide +kernel
theorem dX12_figure_86 : decode cX12_figure 86 = .ok (.iconst 3, 1) := by decide +kernel
theorem dX12_figure_87 : decode cX12_figure 87 = .ok (.irem, 1) := by decide +kernel
theorem dX12_figure_88 : decode cX12_figure 88 = .ok (.iconst 1, 1) := by decide +kernel
theorem dX12_figure_89 : decode cX12_figure 89 = .ok (.if_icmp .ne 7, 3) := by decide +kernel
theorem dX12_figure_92 : decode cX12_figure 92 = .ok (.iconst 3, 1) := by decide +kernel
theorem dX12_figure_93 : decode cX12_figure 93 = .ok (.goto 4, 3) := by decide +kernel
theorem dX12_figure_96 : decode cX12_figure 96 = .ok (.iconst 1, 1) := by decide +kernel
theorem dX12_figure_97 : decode cX12_figure 97 = .ok (.imul, 1) := by decide +kernel
theorem dX12_figure_98 : decode cX12_figure 98 = .ok (.iadd, 1) := by decide +kernel
theorem dX12_figure_99 : decode cX12_figure 99 = .ok (.istore_n 2, 1) := by decide +kernel
theorem dX12_figure_100 : decode cX12_figure 100 = .ok (.iinc 3 1, 3) := by decide +kernel
theorem dX12_figure_103 : decode cX12_figure 103 = .ok (.goto (-68), 3) := by decide +kernel
theorem dX12_figure_106 : decode cX12_figure 106 = .ok (.iload_n 2, 1) := by decide +kernel
theorem dX12_figure_107 : decode cX12_figure 107 = .ok (.bipush 10, 2) := by decide +kernel
theorem dX12_figure_109 : decode cX12_figure 109 = .ok (.irem, 1) := by decide +kernel
theorem dX12_figure_110 : decode cX12_figure 110 = .ok (.ireturn, 1) := by decide +kernel
theorem dX12_farOf_0 : decode cX12_farOf 0 = .ok (.iconst 0, 1) := by decide +kernel
theorem dX12_farOf_1 : decode cX12_farOf 1 = .ok (.istore_n 3, 1) := by decide +kernel
theorem dX12_farOf_2 : decode cX12_farOf 2 = .ok (.iconst 0, 1) := by decide +kernel
theorem dX12_farOf_3 : decode cX12_farOf 3 = .ok (.istore 4, 2) := by decide +kernel
theorem dX12_farOf_5 : decode cX12_farOf 5 = .ok (.iload 4, 2) := by decide +kernel
theorem dX12_farOf_7 : decode cX12_farOf 7 = .ok (.iconst 5, 1) := by decide +kernel
theorem dX12_farOf_8 : decode cX12_farOf 8 = .ok (.if_icmp .ge 42, 3) := by decide +kernel
theorem dX12_farOf_11 : decode cX12_farOf 11 = .ok (.aload_n 0, 1) := by decide +kernel
theorem dX12_farOf_12 : decode cX12_farOf 12 = .ok (.getfield 61, 3) := by decide +kernel
theorem dX12_farOf_15 : decode cX12_farOf 15 = .ok (.iconst 5, 1) := by decide +kernel
theorem dX12_farOf_16 : decode cX12_farOf 16 = .ok (.iload_n 1, 1) := by decide +kernel
theorem dX12_farOf_17 : decode cX12_farOf 17 = .ok (.imul, 1) := by decide +kernel
theorem dX12_farOf_18 : decode cX12_farOf 18 = .ok (.iload 4, 2) := by decide +kernel
theorem dX12_farOf_20 : decode cX12_farOf 20 = .ok (.iadd, 1) := by decide +kernel
theorem dX12_farOf_21 : decode cX12_farOf 21 = .ok (.iaload, 1) := by decide +kernel
theorem dX12_farOf_22 : decode cX12_farOf 22 = .ok (.aload_n 0, 1) := by decide +kernel
theorem dX12_farOf_23 : decode cX12_farOf 23 = .ok (.getfield 61, 3) := by decide +kernel
theorem dX12_farOf_26 : decode cX12_farOf 26 = .ok (.iconst 5, 1) := by decide +kernel
theorem dX12_farOf_27 : decode cX12_farOf 27 = .ok (.iload_n 2, 1) := by decide +kernel
theorem dX12_farOf_28 : decode cX12_farOf 28 = .ok (.imul, 1) := by decide +kernel
theorem dX12_farOf_29 : decode cX12_farOf 29 = .ok (.iload 4, 2) := by decide +kernel
theorem dX12_farOf_31 : decode cX12_farOf 31 = .ok (.iadd, 1) := by decide +kernel
theorem dX12_farOf_32 : decode cX12_farOf 32 = .ok (.iaload, 1) := by decide +kernel
theorem dX12_farOf_33 : decode cX12_farOf 33 = .ok (.isub, 1) := by decide +kernel
theorem dX12_farOf_34 : decode cX12_farOf 34 = .ok (.istore 5, 2) := by decide +kernel
theorem dX12_farOf_36 : decode cX12_farOf 36 = .ok (.iload_n 3, 1) := by decide +kernel
theorem dX12_farOf_37 : decode cX12_farOf 37 = .ok (.iload 5, 2) := by decide +kernel
theorem dX12_farOf_39 : decode cX12_farOf 39 = .ok (.iload 5, 2) := by decide +kernel
theorem dX12_farOf_41 : decode cX12_farOf 41 = .ok (.imul, 1) := by decide +kernel
theorem dX12_farOf_42 : decode cX12_farOf 42 = .ok (.iadd, 1) := by decide +kernel
theorem dX12_farOf_43 : decode cX12_farOf 43 = .ok (.istore_n 3, 1) := by decide +kernel
theorem dX12_farOf_44 : decode cX12_farOf 44 = .ok (.iinc 4 1, 3) := by decide +kernel
theorem dX12_farOf_47 : decode cX12_farOf 47 = .ok (.goto (-42), 3) := by decide +kernel
theorem dX12_farOf_50 : decode cX12_farOf 50 = .ok (.iload_n 3, 1) := by decide +kernel
theorem dX12_farOf_51 : decode cX12_farOf 51 = .ok (.ireturn, 1) := by decide +kernel
theorem dX12_far_0 : decode cX12_far 0 = .ok (.aload_n 0, 1) := by decide +kernel
theorem dX12_far_1 : decode cX12_far 1 = .ok (.iconst 0, 1) := by decide +kernel
theorem dX12_far_2 : decode cX12_far 2 = .ok (.putfield 178, 3) := by decide +kernel
theorem dX12_far_5 : decode cX12_far 5 = .ok (.aload_n 0, 1) := by decide +kernel
theorem dX12_far_6 : decode cX12_far 6 = .ok (.aload_n 0, 1) := by decide +kernel
theorem dX12_far_7 : decode cX12_far 7 = .ok (.iload_n 1, 1) := by decide +kernel
theorem dX12_far_8 : decode cX12_far 8 = .ok (.invokevirtual 385, 3) := by decide +kernel
theorem dX12_far_11 : decode cX12_far 11 = .ok (.ifCond .ne 11, 3) := by decide +kernel
theorem dX12_far_14 : decode cX12_far 14 = .ok (.aload_n 0, 1) := by decide +kernel
theorem dX12_far_15 : decode cX12_far 15 = .ok (.iload_n 2, 1) := by decide +kernel
theorem dX12_far_16 : decode cX12_far 16 = .ok (.invokevirtual 385, 3) := by decide +kernel
theorem dX12_far_19 : decode cX12_far 19 = .ok (.ifCond .eq 7, 3) := by decide +kernel
theorem dX12_far_22 : decode cX12_far 22 = .ok (.iconst 1, 1) := by decide +kernel
theorem dX12_far_23 : decode cX12_far 23 = .ok (.goto 4, 3) := by decide +kernel
theorem dX12_far_26 : decode cX12_far 26 = .ok (.iconst 0, 1) := by decide +kernel
theorem dX12_far_27 : decode cX12_far 27 = .ok (.iconst 1, 1) := by decide +kernel
theorem dX12_far_28 : decode cX12_far 28 = .ok (.invokevirtual 321, 3) := by decide +kernel
theorem dX12_far_31 : decode cX12_far 31 = .ok (.ifCond .eq 7, 3) := by decide +kernel
theorem dX12_far_34 : decode cX12_far 34 = .ok (.iconst 0, 1) := by decide +kernel
theorem dX12_far_35 : decode cX12_far 35 = .ok (.goto 9, 3) := by decide +kernel
theorem dX12_far_38 : decode cX12_far 38 = .ok (.aload_n 0, 1) := by decide +kernel
theorem dX12_far_39 : decode cX12_far 39 = .ok (.iload_n 1, 1) := by decide +kernel
theorem dX12_far_40 : decode cX12_far 40 = .ok (.iload_n 2, 1) := by decide +kernel
theorem dX12_far_41 : decode cX12_far 41 = .ok (.invokevirtual 391, 3) := by decide +kernel
theorem dX12_far_44 : decode cX12_far 44 = .ok (.ireturn, 1) := by decide +kernel
theorem dX12_noDesk_0 : decode cX12_noDesk 0 = .ok (.iload_n 0, 1) := by decide +kernel
theorem dX12_noDesk_1 : decode cX12_noDesk 1 = .ok (.iconst 0, 1) := by decide +kernel
theorem dX12_noDesk_2 : decode cX12_noDesk 2 = .ok (.iconst 3, 1) := by decide +kernel
theorem dX12_noDesk_3 : decode cX12_noDesk 3 = .ok (.invokestatic 317, 3) := by decide +kernel
theorem dX12_noDesk_6 : decode cX12_noDesk 6 = .ok (.ifCond .ne 7, 3) := by decide +kernel
theorem dX12_noDesk_9 : decode cX12_noDesk 9 = .ok (.iconst 1, 1) := by decide +kernel
theorem dX12_noDesk_10 : decode cX12_noDesk 10 = .ok (.goto 4, 3) := by decide +kernel
theorem dX12_noDesk_13 : decode cX12_noDesk 13 = .ok (.iconst 0, 1) := by decide +kernel
theorem dX12_noDesk_14 : decode cX12_noDesk 14 = .ok (.ireturn, 1) := by decide +kernel
theorem dX12_hands_0 : decode cX12_hands 0 = .ok (.aload_n 0, 1) := by decide +kernel
theorem dX12_hands_1 : decode cX12_hands 1 = .ok (.iconst 0, 1) := by decide +kernel
theorem dX12_hands_2 : decode cX12_hands 2 = .ok (.putfield 178, 3) := by decide +kernel
theorem dX12_hands_5 : decode cX12_hands 5 = .ok (.aload_n 0, 1) := by decide +kernel
theorem dX12_hands_6 : decode cX12_hands 6 = .ok (.iload_n 1, 1) := by decide +kernel
theorem dX12_hands_7 : decode cX12_hands 7 = .ok (.invokestatic 394, 3) := by decide +kernel
theorem dX12_hands_10 : decode cX12_hands 10 = .ok (.iconst 1, 1) := by decide +kernel
theorem dX12_hands_11 : decode cX12_hands 11 = .ok (.invokevirtual 321, 3) := by decide +kernel
theorem dX12_hands_14 : decode cX12_hands 14 = .ok (.ifCond .ne 26, 3) := by decide +kernel
theorem dX12_hands_17 : decode cX12_hands 17 = .ok (.aload_n 0, 1) := by decide +kernel
theorem dX12_hands_18 : decode cX12_hands 18 = .ok (.iload_n 2, 1) := by decide +kernel
theorem dX12_hands_19 : decode cX12_hands 19 = .ok (.iconst 0, 1) := by decide +kernel
theorem dX12_hands_20 : decode cX12_hands 20 = .ok (.bipush 30, 2) := by decide +kernel
theorem dX12_hands_22 : decode cX12_hands 22 = .ok (.invokestatic 317, 3) := by decide +kernel
theorem dX12_hands_25 : decode cX12_hands 25 = .ok (.ifCond .ne 7, 3) := by decide +kernel
theorem dX12_hands_28 : decode cX12_hands 28 = .ok (.iconst 1, 1) := by decide +kernel
theorem dX12_hands_29 : decode cX12_hands 29 = .ok (.goto 4, 3) := by decide +kernel
theorem dX12_hands_32 : decode cX12_hands 32 = .ok (.iconst 0, 1) := by decide +kernel
theorem dX12_hands_33 : decode cX12_hands 33 = .ok (.iconst 2, 1) := by decide +kernel
theorem dX12_hands_34 : decode cX12_hands 34 = .ok (.invokevirtual 321, 3) := by decide +kernel
theorem dX12_hands_37 : decode cX12_hands 37 = .ok (.ifCond .eq 4, 3) := by decide +kernel
theorem dX12_hands_40 : decode cX12_hands 40 = .ok (.return_, 1) := by decide +kernel
theorem dX12_hands_41 : decode cX12_hands 41 = .ok (.aload_n 0, 1) := by decide +kernel
theorem dX12_hands_42 : decode cX12_hands 42 = .ok (.getfield 94, 3) := by decide +kernel
theorem dX12_hands_45 : decode cX12_hands 45 = .ok (.iload_n 1, 1) := by decide +kernel
theorem dX12_hands_46 : decode cX12_hands 46 = .ok (.iload_n 2, 1) := by decide +kernel
theorem dX12_hands_47 : decode cX12_hands 47 = .ok (.iastore, 1) := by decide +kernel
theorem dX12_hands_48 : decode cX12_hands 48 = .ok (.return_, 1) := by decide +kernel
theorem dX12_lend_0 : decode cX12_lend 0 = .ok (.aload_n 0, 1) := by decide +kernel
theorem dX12_lend_1 : decode cX12_lend 1 = .ok (.iconst 0, 1) := by decide +kernel
theorem dX12_lend_2 : decode cX12_lend 2 = .ok (.putfield 178, 3) := by decide +kernel
theorem dX12_lend_5 : decode cX12_lend 5 = .ok (.aload_n 0, 1) := by decide +kernel
theorem dX12_lend_6 : decode cX12_lend 6 = .ok (.iload_n 1, 1) := by decide +kernel
theorem dX12_lend_7 : decode cX12_lend 7 = .ok (.invokestatic 394, 3) := by decide +kernel
theorem dX12_lend_10 : decode cX12_lend 10 = .ok (.iconst 1, 1) := by decide +kernel
theorem dX12_lend_11 : decode cX12_lend 11 = .ok (.invokevirtual 321, 3) := by decide +kernel
theorem dX12_lend_14 : decode cX12_lend 14 = .ok (.ifCond .ne 59, 3) := by decide +kernel
theorem dX12_lend_17 : decode cX12_lend 17 = .ok (.aload_n 0, 1) := by decide +kernel
theorem dX12_lend_18 : decode cX12_lend 18 = .ok (.iload_n 2, 1) := by decide +kernel
theorem dX12_lend_19 : decode cX12_lend 19 = .ok (.iconst 1, 1) := by decide +kernel
theorem dX12_lend_20 : decode cX12_lend 20 = .ok (.bipush 30, 2) := by decide +kernel
theorem dX12_lend_22 : decode cX12_lend 22 = .ok (.invokestatic 317, 3) := by decide +kernel
theorem dX12_lend_25 : decode cX12_lend 25 = .ok (.ifCond .eq 36, 3) := by decide +kernel
theorem dX12_lend_28 : decode cX12_lend 28 = .ok (.iload_n 3, 1) := by decide +kernel
theorem dX12_lend_29 : decode cX12_lend 29 = .ok (.aload_n 0, 1) := by decide +kernel
theorem dX12_lend_30 : decode cX12_lend 30 = .ok (.getfield 314, 3) := by decide +kernel
theorem dX12_lend_33 : decode cX12_lend 33 = .ok (.if_icmp .lt 28, 3) := by decide +kernel
theorem dX12_lend_36 : decode cX12_lend 36 = .ok (.iload 4, 2) := by decide +kernel
theorem dX12_lend_38 : decode cX12_lend 38 = .ok (.iload_n 3, 1) := by decide +kernel
theorem dX12_lend_39 : decode cX12_lend 39 = .ok (.if_icmp .lt 22, 3) := by decide +kernel
theorem dX12_lend_42 : decode cX12_lend 42 = .ok (.iload 4, 2) := by decide +kernel
theorem dX12_lend_44 : decode cX12_lend 44 = .ok (.sipush 1000, 3) := by decide +kernel
theorem dX12_lend_47 : decode cX12_lend 47 = .ok (.if_icmp .gt 14, 3) := by decide +kernel
theorem dX12_lend_50 : decode cX12_lend 50 = .ok (.iload 5, 2) := by decide +kernel
theorem dX12_lend_52 : decode cX12_lend 52 = .ok (.iconst 0, 1) := by decide +kernel
theorem dX12_lend_53 : decode cX12_lend 53 = .ok (.bipush 30, 2) := by decide +kernel
theorem dX12_lend_55 : decode cX12_lend 55 = .ok (.invokestatic 317, 3) := by decide +kernel
theorem dX12_lend_58 : decode cX12_lend 58 = .ok (.ifCond .ne 7, 3) := by decide +kernel
theorem dX12_lend_61 : decode cX12_lend 61 = .ok (.iconst 1, 1) := by decide +kernel
theorem dX12_lend_62 : decode cX12_lend 62 = .ok (.goto 4, 3) := by decide +kernel
theorem dX12_lend_65 : decode cX12_lend 65 = .ok (.iconst 0, 1) := by decide +kernel
theorem dX12_lend_66 : decode cX12_lend 66 = .ok (.iconst 2, 1) := by decide +kernel
theorem dX12_lend_67 : decode cX12_lend 67 = .ok (.invokevirtual 321, 3) := by decide +kernel
theorem dX12_lend_70 : decode cX12_lend 70 = .ok (.ifCond .eq 5, 3) := by decide +kernel
theorem dX12_lend_73 : decode cX12_lend 73 = .ok (.iconst 0, 1) := by decide +kernel
theorem dX12_lend_74 : decode cX12_lend 74 = .ok (.ireturn, 1) := by decide +kernel
theorem dX12_lend_75 : decode cX12_lend 75 = .ok (.aload_n 0, 1) := by decide +kernel
theorem dX12_lend_76 : decode cX12_lend 76 = .ok (.getfield 397, 3) := by decide +kernel
theorem dX12_lend_79 : decode cX12_lend 79 = .ok (.bipush 20, 2) := by decide +kernel
theorem dX12_lend_81 : decode cX12_lend 81 = .ok (.if_icmp .ne 5, 3) := by decide +kernel
theorem dX12_lend_84 : decode cX12_lend 84 = .ok (.iconst (-1), 1) := by decide +kernel
theorem dX12_lend_85 : decode cX12_lend 85 = .ok (.ireturn, 1) := by decide +kernel
theorem dX12_lend_86 : decode cX12_lend 86 = .ok (.aload_n 0, 1) := by decide +kernel
theorem dX12_lend_87 : decode cX12_lend 87 = .ok (.getfield 97, 3) := by decide +kernel
theorem dX12_lend_90 : decode cX12_lend 90 = .ok (.aload_n 0, 1) := by decide +kernel
theorem dX12_lend_91 : decode cX12_lend 91 = .ok (.getfield 397, 3) := by decide +kernel
theorem dX12_lend_94 : decode cX12_lend 94 = .ok (.iload_n 1, 1) := by decide +kernel
theorem dX12_lend_95 : decode cX12_lend 95 = .ok (.iastore, 1) := by decide +kernel
theorem dX12_lend_96 : decode cX12_lend 96 = .ok (.aload_n 0, 1) := by decide +kernel
theorem dX12_lend_97 : decode cX12_lend 97 = .ok (.getfield 100, 3) := by decide +kernel
theorem dX12_lend_100 : decode cX12_lend 100 = .ok (.aload_n 0, 1) := by decide +kernel
theorem dX12_lend_101 : decode cX12_lend 101 = .ok (.getfield 397, 3) := by decide +kernel
theorem dX12_lend_104 : decode cX12_lend 104 = .ok (.iload_n 2, 1) := by decide +kernel
theorem dX12_lend_105 : decode cX12_lend 105 = .ok (.iastore, 1) := by decide +kernel
theorem dX12_lend_106 : decode cX12_lend 106 = .ok (.aload_n 0, 1) := by decide +kernel
theorem dX12_lend_107 : decode cX12_lend 107 = .ok (.getfield 103, 3) := by decide +kernel
theorem dX12_lend_110 : decode cX12_lend 110 = .ok (.aload_n 0, 1) := by decide +kernel
theorem dX12_lend_111 : decode cX12_lend 111 = .ok (.getfield 397, 3) := by decide +kernel
theorem dX12_lend_114 : decode cX12_lend 114 = .ok (.iload_n 3, 1) := by decide +kernel
theorem dX12_lend_115 : decode cX12_lend 115 = .ok (.iastore, 1) := by decide +kernel
theorem dX12_lend_116 : decode cX12_lend 116 = .ok (.aload_n 0, 1) := by decide +kernel
theorem dX12_lend_117 : decode cX12_lend 117 = .ok (.getfield 106, 3) := by decide +kernel
theorem dX12_lend_120 : decode cX12_lend 120 = .ok (.aload_n 0, 1) := by decide +kernel
theorem dX12_lend_121 : decode cX12_lend 121 = .ok (.getfield 397, 3) := by decide +kernel
theorem dX12_lend_124 : decode cX12_lend 124 = .ok (.iload 4, 2) := by decide +kernel
theorem dX12_lend_126 : decode cX12_lend 126 = .ok (.iastore, 1) := by decide +kernel
theorem dX12_lend_127 : decode cX12_lend 127 = .ok (.aload_n 0, 1) := by decide +kernel
theorem dX12_lend_128 : decode cX12_lend 128 = .ok (.getfield 109, 3) := by decide +kernel
theorem dX12_lend_131 : decode cX12_lend 131 = .ok (.aload_n 0, 1) := by decide +kernel
theorem dX12_lend_132 : decode cX12_lend 132 = .ok (.getfield 397, 3) := by decide +kernel
theorem dX12_lend_135 : decode cX12_lend 135 = .ok (.iload 5, 2) := by decide +kernel
theorem dX12_lend_137 : decode cX12_lend 137 = .ok (.iastore, 1) := by decide +kernel
theorem dX12_lend_138 : decode cX12_lend 138 = .ok (.aload_n 0, 1) := by decide +kernel
theorem dX12_lend_139 : decode cX12_lend 139 = .ok (.dup, 1) := by decide +kernel
theorem dX12_lend_140 : decode cX12_lend 140 = .ok (.getfield 397, 3) := by decide +kernel
theorem dX12_lend_143 : decode cX12_lend 143 = .ok (.iconst 1, 1) := by decide +kernel
theorem dX12_lend_144 : decode cX12_lend 144 = .ok (.iadd, 1) := by decide +kernel
theorem dX12_lend_145 : decode cX12_lend 145 = .ok (.putfield 397, 3) := by decide +kernel
theorem dX12_lend_148 : decode cX12_lend 148 = .ok (.aload_n 0, 1) := by decide +kernel
theorem dX12_lend_149 : decode cX12_lend 149 = .ok (.getfield 397, 3) := by decide +kernel
theorem dX12_lend_152 : decode cX12_lend 152 = .ok (.ireturn, 1) := by decide +kernel
theorem dX12_unitsOf_0 : decode cX12_unitsOf 0 = .ok (.bipush 8, 2) := by decide +kernel
theorem dX12_unitsOf_2 : decode cX12_unitsOf 2 = .ok (.aload_n 0, 1) := by decide +kernel
theorem dX12_unitsOf_3 : decode cX12_unitsOf 3 = .ok (.getfield 94, 3) := by decide +kernel
theorem dX12_unitsOf_6 : decode cX12_unitsOf 6 = .ok (.iload_n 1, 1) := by decide +kernel
theorem dX12_unitsOf_7 : decode cX12_unitsOf 7 = .ok (.iaload, 1) := by decide +kernel
theorem dX12_unitsOf_8 : decode cX12_unitsOf 8 = .ok (.imul, 1) := by decide +kernel
theorem dX12_unitsOf_9 : decode cX12_unitsOf 9 = .ok (.istore_n 3, 1) := by decide +kernel
theorem dX12_unitsOf_10 : decode cX12_unitsOf 10 = .ok (.iconst 0, 1) := by decide +kernel
theorem dX12_unitsOf_11 : decode cX12_unitsOf 11 = .ok (.istore 4, 2) := by decide +kernel
theorem dX12_unitsOf_13 : decode cX12_unitsOf 13 = .ok (.iload 4, 2) := by decide +kernel
theorem dX12_unitsOf_15 : decode cX12_unitsOf 15 = .ok (.aload_n 0, 1) := by decide +kernel
theorem dX12_unitsOf_16 : decode cX12_unitsOf 16 = .ok (.getfield 397, 3) := by decide +kernel
theorem dX12_unitsOf_19 : decode cX12_unitsOf 19 = .ok (.if_icmp .ge 86, 3) := by decide +kernel
theorem dX12_unitsOf_22 : decode cX12_unitsOf 22 = .ok (.aload_n 0, 1) := by decide +kernel
theorem dX12_unitsOf_23 : decode cX12_unitsOf 23 = .ok (.getfield 97, 3) := by decide +kernel
theorem dX12_unitsOf_26 : decode cX12_unitsOf 26 = .ok (.iload 4, 2) := by decide +kernel
theorem dX12_unitsOf_28 : decode cX12_unitsOf 28 = .ok (.iaload, 1) := by decide +kernel
theorem dX12_unitsOf_29 : decode cX12_unitsOf 29 = .ok (.iload_n 1, 1) := by decide +kernel
theorem dX12_unitsOf_30 : decode cX12_unitsOf 30 = .ok (.if_icmp .ne 69, 3) := by decide +kernel
theorem dX12_unitsOf_33 : decode cX12_unitsOf 33 = .ok (.iload_n 2, 1) := by decide +kernel
theorem dX12_unitsOf_34 : decode cX12_unitsOf 34 = .ok (.aload_n 0, 1) := by decide +kernel
theorem dX12_unitsOf_35 : decode cX12_unitsOf 35 = .ok (.getfield 103, 3) := by decide +kernel
theorem dX12_unitsOf_38 : decode cX12_unitsOf 38 = .ok (.iload 4, 2) := by decide +kernel
theorem dX12_unitsOf_40 : decode cX12_unitsOf 40 = .ok (.iaload, 1) := by decide +kernel
theorem dX12_unitsOf_41 : decode cX12_unitsOf 41 = .ok (.aload_n 0, 1) := by decide +kernel
theorem dX12_unitsOf_42 : decode cX12_unitsOf 42 = .ok (.getfield 106, 3) := by decide +kernel
theorem dX12_unitsOf_45 : decode cX12_unitsOf 45 = .ok (.iload 4, 2) := by decide +kernel
theorem dX12_unitsOf_47 : decode cX12_unitsOf 47 = .ok (.iaload, 1) := by decide +kernel
theorem dX12_unitsOf_48 : decode cX12_unitsOf 48 = .ok (.invokestatic 317, 3) := by decide +kernel
theorem dX12_unitsOf_51 : decode cX12_unitsOf 51 = .ok (.ifCond .eq 48, 3) := by decide +kernel
theorem dX12_unitsOf_54 : decode cX12_unitsOf 54 = .ok (.iload_n 3, 1) := by decide +kernel
theorem dX12_unitsOf_55 : decode cX12_unitsOf 55 = .ok (.iload_n 2, 1) := by decide +kernel
theorem dX12_unitsOf_56 : decode cX12_unitsOf 56 = .ok (.aload_n 0, 1) := by decide +kernel
theorem dX12_unitsOf_57 : decode cX12_unitsOf 57 = .ok (.getfield 103, 3) := by decide +kernel
theorem dX12_unitsOf_60 : decode cX12_unitsOf 60 = .ok (.iload 4, 2) := by decide +kernel
theorem dX12_unitsOf_62 : decode cX12_unitsOf 62 = .ok (.iaload, 1) := by decide +kernel
theorem dX12_unitsOf_63 : decode cX12_unitsOf 63 = .ok (.isub, 1) := by decide +kernel
theorem dX12_unitsOf_64 : decode cX12_unitsOf 64 = .ok (.aload_n 0, 1) := by decide +kernel
theorem dX12_unitsOf_65 : decode cX12_unitsOf 65 = .ok (.getfield 109, 3) := by decide +kernel
theorem dX12_unitsOf_68 : decode cX12_unitsOf 68 = .ok (.iload 4, 2) := by decide +kernel
theorem dX12_unitsOf_70 : decode cX12_unitsOf 70 = .ok (.iaload, 1) := by decide +kernel
theorem dX12_unitsOf_71 : decode cX12_unitsOf 71 = .ok (.if_icmp .ge 16, 3) := by decide +kernel
theorem dX12_unitsOf_74 : decode cX12_unitsOf 74 = .ok (.bipush (-2), 2) := by decide +kernel
theorem dX12_unitsOf_76 : decode cX12_unitsOf 76 = .ok (.aload_n 0, 1) := by decide +kernel
theorem dX12_unitsOf_77 : decode cX12_unitsOf 77 = .ok (.getfield 100, 3) := by decide +kernel
theorem dX12_unitsOf_80 : decode cX12_unitsOf 80 = .ok (.iload 4, 2) := by decide +kernel
theorem dX12_unitsOf_82 : decode cX12_unitsOf 82 = .ok (.iaload, 1) := by decide +kernel
theorem dX12_unitsOf_83 : decode cX12_unitsOf 83 = .ok (.imul, 1) := by decide +kernel
theorem dX12_unitsOf_84 : decode cX12_unitsOf 84 = .ok (.goto 13, 3) := by decide +kernel
theorem dX12_unitsOf_87 : decode cX12_unitsOf 87 = .ok (.bipush 8, 2) := by decide +kernel
theorem dX12_unitsOf_89 : decode cX12_unitsOf 89 = .ok (.aload_n 0, 1) := by decide +kernel
theorem dX12_unitsOf_90 : decode cX12_unitsOf 90 = .ok (.getfield 100, 3) := by decide +kernel
theorem dX12_unitsOf_93 : decode cX12_unitsOf 93 = .ok (.iload 4, 2) := by decide +kernel
theorem dX12_unitsOf_95 : decode cX12_unitsOf 95 = .ok (.iaload, 1) := by decide +kernel
theorem dX12_unitsOf_96 : decode cX12_unitsOf 96 = .ok (.imul, 1) := by decide +kernel
theorem dX12_unitsOf_97 : decode cX12_unitsOf 97 = .ok (.iadd, 1) := by decide +kernel
theorem dX12_unitsOf_98 : decode cX12_unitsOf 98 = .ok (.istore_n 3, 1) := by decide +kernel
theorem dX12_unitsOf_99 : decode cX12_unitsOf 99 = .ok (.iinc 4 1, 3) := by decide +kernel
theorem dX12_unitsOf_102 : decode cX12_unitsOf 102 = .ok (.goto (-89), 3) := by decide +kernel
theorem dX12_unitsOf_105 : decode cX12_unitsOf 105 = .ok (.iconst 0, 1) := by decide +kernel
theorem dX12_unitsOf_106 : decode cX12_unitsOf 106 = .ok (.iload_n 3, 1) := by decide +kernel
theorem dX12_unitsOf_107 : decode cX12_unitsOf 107 = .ok (.invokestatic 366, 3) := by decide +kernel
theorem dX12_unitsOf_110 : decode cX12_unitsOf 110 = .ok (.ireturn, 1) := by decide +kernel
theorem dX12_units_0 : decode cX12_units 0 = .ok (.aload_n 0, 1) := by decide +kernel
theorem dX12_units_1 : decode cX12_units 1 = .ok (.iconst 0, 1) := by decide +kernel
theorem dX12_units_2 : decode cX12_units 2 = .ok (.putfield 178, 3) := by decide +kernel
theorem dX12_units_5 : decode cX12_units 5 = .ok (.aload_n 0, 1) := by decide +kernel
theorem dX12_units_6 : decode cX12_units 6 = .ok (.iload_n 1, 1) := by decide +kernel
theorem dX12_units_7 : decode cX12_units 7 = .ok (.invokestatic 394, 3) := by decide +kernel
theorem dX12_units_10 : decode cX12_units 10 = .ok (.iconst 1, 1) := by decide +kernel
theorem dX12_units_11 : decode cX12_units 11 = .ok (.invokevirtual 321, 3) := by decide +kernel
theorem dX12_units_14 : decode cX12_units 14 = .ok (.ifCond .eq 7, 3) := by decide +kernel
theorem dX12_units_17 : decode cX12_units 17 = .ok (.iconst 0, 1) := by decide +kernel
theorem dX12_units_18 : decode cX12_units 18 = .ok (.goto 9, 3) := by decide +kernel
theorem dX12_units_21 : decode cX12_units 21 = .ok (.aload_n 0, 1) := by decide +kernel
theorem dX12_units_22 : decode cX12_units 22 = .ok (.iload_n 1, 1) := by decide +kernel
theorem dX12_units_23 : decode cX12_units 23 = .ok (.iload_n 2, 1) := by decide +kernel
theorem dX12_units_24 : decode cX12_units 24 = .ok (.invokevirtual 400, 3) := by decide +kernel
theorem dX12_units_27 : decode cX12_units 27 = .ok (.ireturn, 1) := by decide +kernel
theorem dX12_rules_0 : decode cX12_rules 0 = .ok (.aload_n 0, 1) := by decide +kernel
theorem dX12_rules_1 : decode cX12_rules 1 = .ok (.iconst 0, 1) := by decide +kernel
theorem dX12_rules_2 : decode cX12_rules 2 = .ok (.putfield 178, 3) := by decide +kernel
theorem dX12_rules_5 : decode cX12_rules 5 = .ok (.aload_n 0, 1) := by decide +kernel
theorem dX12_rules_6 : decode cX12_rules 6 = .ok (.iload_n 1, 1) := by decide +kernel
theorem dX12_rules_7 : decode cX12_rules 7 = .ok (.iconst 1, 1) := by decide +kernel
theorem dX12_rules_8 : decode cX12_rules 8 = .ok (.sipush 200, 3) := by decide +kernel
theorem dX12_rules_11 : decode cX12_rules 11 = .ok (.invokestatic 317, 3) := by decide +kernel
theorem dX12_rules_14 : decode cX12_rules 14 = .ok (.ifCond .eq 47, 3) := by decide +kernel
theorem dX12_rules_17 : decode cX12_rules 17 = .ok (.iload_n 2, 1) := by decide +kernel
theorem dX12_rules_18 : decode cX12_rules 18 = .ok (.iconst 0, 1) := by decide +kernel
theorem dX12_rules_19 : decode cX12_rules 19 = .ok (.sipush 10000, 3) := by decide +kernel
theorem dX12_rules_22 : decode cX12_rules 22 = .ok (.invokestatic 317, 3) := by decide +kernel
theorem dX12_rules_25 : decode cX12_rules 25 = .ok (.ifCond .eq 36, 3) := by decide +kernel
theorem dX12_rules_28 : decode cX12_rules 28 = .ok (.iload_n 3, 1) := by decide +kernel
theorem dX12_rules_29 : decode cX12_rules 29 = .ok (.iconst 0, 1) := by decide +kernel
theorem dX12_rules_30 : decode cX12_rules 30 = .ok (.sipush 1000, 3) := by decide +kernel
theorem dX12_rules_33 : decode cX12_rules 33 = .ok (.invokestatic 317, 3) := by decide +kernel
theorem dX12_rules_36 : decode cX12_rules 36 = .ok (.ifCond .eq 25, 3) := by decide +kernel
theorem dX12_rules_39 : decode cX12_rules 39 = .ok (.iload 4, 2) := by decide +kernel
theorem dX12_rules_41 : decode cX12_rules 41 = .ok (.iconst 0, 1) := by decide +kernel
theorem dX12_rules_42 : decode cX12_rules 42 = .ok (.bipush 60, 2) := by decide +kernel
theorem dX12_rules_44 : decode cX12_rules 44 = .ok (.invokestatic 317, 3) := by decide +kernel
theorem dX12_rules_47 : decode cX12_rules 47 = .ok (.ifCond .eq 14, 3) := by decide +kernel
theorem dX12_rules_50 : decode cX12_rules 50 = .ok (.iload 5, 2) := by decide +kernel
theorem dX12_rules_52 : decode cX12_rules 52 = .ok (.iconst 0, 1) := by decide +kernel
theorem dX12_rules_53 : decode cX12_rules 53 = .ok (.bipush 60, 2) := by decide +kernel
theorem dX12_rules_55 : decode cX12_rules 55 = .ok (.invokestatic 317, 3) := by decide +kernel
theorem dX12_rules_58 : decode cX12_rules 58 = .ok (.ifCond .ne 7, 3) := by decide +kernel
theorem dX12_rules_61 : decode cX12_rules 61 = .ok (.iconst 1, 1) := by decide +kernel
theorem dX12_rules_62 : decode cX12_rules 62 = .ok (.goto 4, 3) := by decide +kernel
theorem dX12_rules_65 : decode cX12_rules 65 = .ok (.iconst 0, 1) := by decide +kernel
theorem dX12_rules_66 : decode cX12_rules 66 = .ok (.iconst 1, 1) := by decide +kernel
theorem dX12_rules_67 : decode cX12_rules 67 = .ok (.invokevirtual 321, 3) := by decide +kernel
theorem dX12_rules_70 : decode cX12_rules 70 = .ok (.ifCond .eq 4, 3) := by decide +kernel
theorem dX12_rules_73 : decode cX12_rules 73 = .ok (.return_, 1) := by decide +kernel
theorem dX12_rules_74 : decode cX12_rules 74 = .ok (.aload_n 0, 1) := by decide +kernel
theorem dX12_rules_75 : decode cX12_rules 75 = .ok (.iload_n 1, 1) := by decide +kernel
theorem dX12_rules_76 : decode cX12_rules 76 = .ok (.putfield 76, 3) := by decide +kernel
theorem dX12_rules_79 : decode cX12_rules 79 = .ok (.aload_n 0, 1) := by decide +kernel
theorem dX12_rules_80 : decode cX12_rules 80 = .ok (.iload_n 2, 1) := by decide +kernel
theorem dX12_rules_81 : decode cX12_rules 81 = .ok (.putfield 79, 3) := by decide +kernel
theorem dX12_rules_84 : decode cX12_rules 84 = .ok (.aload_n 0, 1) := by decide +kernel
theorem dX12_rules_85 : decode cX12_rules 85 = .ok (.iload_n 3, 1) := by decide +kernel
theorem dX12_rules_86 : decode cX12_rules 86 = .ok (.putfield 82, 3) := by decide +kernel
theorem dX12_rules_89 : decode cX12_rules 89 = .ok (.aload_n 0, 1) := by decide +kernel
theorem dX12_rules_90 : decode cX12_rules 90 = .ok (.iload 4, 2) := by decide +kernel
theorem dX12_rules_92 : decode cX12_rules 92 = .ok (.putfield 85, 3) := by decide +kernel
theorem dX12_rules_95 : decode cX12_rules 95 = .ok (.aload_n 0, 1) := by decide +kernel
theorem dX12_rules_96 : decode cX12_rules 96 = .ok (.iload 5, 2) := by decide +kernel
theorem dX12_rules_98 : decode cX12_rules 98 = .ok (.putfield 88, 3) := by decide +kernel
theorem dX12_rules_101 : decode cX12_rules 101 = .ok (.return_, 1) := by decide +kernel
theorem dX12_order_0 : decode cX12_order 0 = .ok (.aload_n 0, 1) := by decide +kernel
theorem dX12_order_1 : decode cX12_order 1 = .ok (.iconst 0, 1) := by decide +kernel
theorem dX12_order_2 : decode cX12_order 2 = .ok (.putfield 178, 3) := by decide +kernel
theorem dX12_order_5 : decode cX12_order 5 = .ok (.aload_n 0, 1) := by decide +kernel
theorem dX12_order_6 : decode cX12_order 6 = .ok (.iload_n 1, 1) := by decide +kernel
theorem dX12_order_7 : decode cX12_order 7 = .ok (.iconst 0, 1) := by decide +kernel
theorem dX12_order_8 : decode cX12_order 8 = .ok (.iconst 2, 1) := by decide +kernel
theorem dX12_order_9 : decode cX12_order 9 = .ok (.invokestatic 317, 3) := by decide +kernel
theorem dX12_order_12 : decode cX12_order 12 = .ok (.ifCond .ne 7, 3) := by decide +kernel
theorem dX12_order_15 : decode cX12_order 15 = .ok (.iconst 1, 1) := by decide +kernel
theorem dX12_order_16 : decode cX12_order 16 = .ok (.goto 4, 3) := by decide +kernel
theorem dX12_order_19 : decode cX12_order 19 = .ok (.iconst 0, 1) := by decide +kernel
theorem dX12_order_20 : decode cX12_order 20 = .ok (.iconst 1, 1) := by decide +kernel
theorem dX12_order_21 : decode cX12_order 21 = .ok (.invokevirtual 321, 3) := by decide +kernel
theorem dX12_order_24 : decode cX12_order 24 = .ok (.ifCond .eq 4, 3) := by decide +kernel
theorem dX12_order_27 : decode cX12_order 27 = .ok (.return_, 1) := by decide +kernel
theorem dX12_order_28 : decode cX12_order 28 = .ok (.aload_n 0, 1) := by decide +kernel
theorem dX12_order_29 : decode cX12_order 29 = .ok (.iload_n 1, 1) := by decide +kernel
theorem dX12_order_30 : decode cX12_order 30 = .ok (.putfield 403, 3) := by decide +kernel
theorem dX12_order_33 : decode cX12_order 33 = .ok (.return_, 1) := by decide +kernel
theorem dX12_blanks_0 : decode cX12_blanks 0 = .ok (.aload_n 0, 1) := by decide +kernel
theorem dX12_blanks_1 : decode cX12_blanks 1 = .ok (.iconst 0, 1) := by decide +kernel
theorem dX12_blanks_2 : decode cX12_blanks 2 = .ok (.putfield 178, 3) := by decide +kernel
theorem dX12_blanks_5 : decode cX12_blanks 5 = .ok (.aload_n 0, 1) := by decide +kernel
theorem dX12_blanks_6 : decode cX12_blanks 6 = .ok (.iload_n 1, 1) := by decide +kernel
theorem dX12_blanks_7 : decode cX12_blanks 7 = .ok (.iconst 0, 1) := by decide +kernel
theorem dX12_blanks_8 : decode cX12_blanks 8 = .ok (.sipush 1000, 3) := by decide +kernel
theorem dX12_blanks_11 : decode cX12_blanks 11 = .ok (.invokestatic 317, 3) := by decide +kernel
theorem dX12_blanks_14 : decode cX12_blanks 14 = .ok (.ifCond .eq 15, 3) := by decide +kernel
theorem dX12_blanks_17 : decode cX12_blanks 17 = .ok (.aload_n 0, 1) := by decide +kernel
theorem dX12_blanks_18 : decode cX12_blanks 18 = .ok (.getfield 406, 3) := by decide +kernel
theorem dX12_blanks_21 : decode cX12_blanks 21 = .ok (.iload_n 1, 1) := by decide +kernel
theorem dX12_blanks_22 : decode cX12_blanks 22 = .ok (.iadd, 1) := by decide +kernel
theorem dX12_blanks_23 : decode cX12_blanks 23 = .ok (.sipush 10000, 3) := by decide +kernel
theorem dX12_blanks_26 : decode cX12_blanks 26 = .ok (.if_icmp .le 7, 3) := by decide +kernel
theorem dX12_blanks_29 : decode cX12_blanks 29 = .ok (.iconst 1, 1) := by decide +kernel
theorem dX12_blanks_30 : decode cX12_blanks 30 = .ok (.goto 4, 3) := by decide +kernel
theorem dX12_blanks_33 : decode cX12_blanks 33 = .ok (.iconst 0, 1) := by decide +kernel
theorem dX12_blanks_34 : decode cX12_blanks 34 = .ok (.iconst 1, 1) := by decide +kernel
theorem dX12_blanks_35 : decode cX12_blanks 35 = .ok (.invokevirtual 321, 3) := by decide +kernel
theorem dX12_blanks_38 : decode cX12_blanks 38 = .ok (.ifCond .eq 5, 3) := by decide +kernel
theorem dX12_blanks_41 : decode cX12_blanks 41 = .ok (.iconst 0, 1) := by decide +kernel
theorem dX12_blanks_42 : decode cX12_blanks 42 = .ok (.ireturn, 1) := by decide +kernel
theorem dX12_blanks_43 : decode cX12_blanks 43 = .ok (.aload_n 0, 1) := by decide +kernel
theorem dX12_blanks_44 : decode cX12_blanks 44 = .ok (.dup, 1) := by decide +kernel
theorem dX12_blanks_45 : decode cX12_blanks 45 = .ok (.getfield 406, 3) := by decide +kernel
theorem dX12_blanks_48 : decode cX12_blanks 48 = .ok (.iload_n 1, 1) := by decide +kernel
theorem dX12_blanks_49 : decode cX12_blanks 49 = .ok (.iadd, 1) := by decide +kernel
theorem dX12_blanks_50 : decode cX12_blanks 50 = .ok (.putfield 406, 3) := by decide +kernel
theorem dX12_blanks_53 : decode cX12_blanks 53 = .ok (.aload_n 0, 1) := by decide +kernel
theorem dX12_blanks_54 : decode cX12_blanks 54 = .ok (.getfield 406, 3) := by decide +kernel
theorem dX12_blanks_57 : decode cX12_blanks 57 = .ok (.ireturn, 1) := by decide +kernel
theorem dX12_broken_0 : decode cX12_broken 0 = .ok (.aload_n 0, 1) := by decide +kernel
theorem dX12_broken_1 : decode cX12_broken 1 = .ok (.iconst 0, 1) := by decide +kernel
theorem dX12_broken_2 : decode cX12_broken 2 = .ok (.putfield 178, 3) := by decide +kernel
theorem dX12_broken_5 : decode cX12_broken 5 = .ok (.aload_n 0, 1) := by decide +kernel
theorem dX12_broken_6 : decode cX12_broken 6 = .ok (.iload_n 1, 1) := by decide +kernel
theorem dX12_broken_7 : decode cX12_broken 7 = .ok (.iload_n 2, 1) := by decide +kernel
theorem dX12_broken_8 : decode cX12_broken 8 = .ok (.if_icmp .le 7, 3) := by decide +kernel
theorem dX12_broken_11 : decode cX12_broken 11 = .ok (.iconst 1, 1) := by decide +kernel
theorem dX12_broken_12 : decode cX12_broken 12 = .ok (.goto 4, 3) := by decide +kernel
theorem dX12_broken_15 : decode cX12_broken 15 = .ok (.iconst 0, 1) := by decide +kernel
theorem dX12_broken_16 : decode cX12_broken 16 = .ok (.iconst 1, 1) := by decide +kernel
theorem dX12_broken_17 : decode cX12_broken 17 = .ok (.invokevirtual 321, 3) := by decide +kernel
theorem dX12_broken_20 : decode cX12_broken 20 = .ok (.ifCond .eq 4, 3) := by decide +kernel
theorem dX12_broken_23 : decode cX12_broken 23 = .ok (.return_, 1) := by decide +kernel
theorem dX12_broken_24 : decode cX12_broken 24 = .ok (.aload_n 0, 1) := by decide +kernel
theorem dX12_broken_25 : decode cX12_broken 25 = .ok (.iload_n 1, 1) := by decide +kernel
theorem dX12_broken_26 : decode cX12_broken 26 = .ok (.putfield 91, 3) := by decide +kernel
theorem dX12_broken_29 : decode cX12_broken 29 = .ok (.aload_n 0, 1) := by decide +kernel
theorem dX12_broken_30 : decode cX12_broken 30 = .ok (.iload_n 2, 1) := by decide +kernel
theorem dX12_broken_31 : decode cX12_broken 31 = .ok (.putfield 409, 3) := by decide +kernel
theorem dX12_broken_34 : decode cX12_broken 34 = .ok (.return_, 1) := by decide +kernel
theorem dX12_noAsking_0 : decode cX12_noAsking 0 = .ok (.iload_n 1, 1) := by decide +kernel
theorem dX12_noAsking_1 : decode cX12_noAsking 1 = .ok (.iconst 0, 1) := by decide +kernel
theorem dX12_noAsking_2 : decode cX12_noAsking 2 = .ok (.aload_n 0, 1) := by decide +kernel
theorem dX12_noAsking_3 : decode cX12_noAsking 3 = .ok (.getfield 412, 3) := by decide +kernel
theorem dX12_noAsking_6 : decode cX12_noAsking 6 = .ok (.iconst 1, 1) := by decide +kernel
theorem dX12_noAsking_7 : decode cX12_noAsking 7 = .ok (.isub, 1) := by decide +kernel
theorem dX12_noAsking_8 : decode cX12_noAsking 8 = .ok (.invokestatic 317, 3) := by decide +kernel
theorem dX12_noAsking_11 : decode cX12_noAsking 11 = .ok (.ifCond .ne 7, 3) := by decide +kernel
theorem dX12_noAsking_14 : decode cX12_noAsking 14 = .ok (.iconst 1, 1) := by decide +kernel
theorem dX12_noAsking_15 : decode cX12_noAsking 15 = .ok (.goto 4, 3) := by decide +kernel
theorem dX12_noAsking_18 : decode cX12_noAsking 18 = .ok (.iconst 0, 1) := by decide +kernel
theorem dX12_noAsking_19 : decode cX12_noAsking 19 = .ok (.ireturn, 1) := by decide +kernel
theorem dX12_now_0 : decode cX12_now 0 = .ok (.aload_n 0, 1) := by decide +kernel
theorem dX12_now_1 : decode cX12_now 1 = .ok (.getfield 148, 3) := by decide +kernel
theorem dX12_now_4 : decode cX12_now 4 = .ok (.bipush 7, 2) := by decide +kernel
theorem dX12_now_6 : decode cX12_now 6 = .ok (.iload_n 1, 1) := by decide +kernel
theorem dX12_now_7 : decode cX12_now 7 = .ok (.imul, 1) := by decide +kernel
theorem dX12_now_8 : decode cX12_now 8 = .ok (.iload_n 2, 1) := by decide +kernel
theorem dX12_now_9 : decode cX12_now 9 = .ok (.iadd, 1) := by decide +kernel
theorem dX12_now_10 : decode cX12_now 10 = .ok (.iaload, 1) := by decide +kernel
theorem dX12_now_11 : decode cX12_now 11 = .ok (.ireturn, 1) := by decide +kernel
theorem dX12_sets_0 : decode cX12_sets 0 = .ok (.aload_n 0, 1) := by decide +kernel
theorem dX12_sets_1 : decode cX12_sets 1 = .ok (.getfield 148, 3) := by decide +kernel
theorem dX12_sets_4 : decode cX12_sets 4 = .ok (.bipush 7, 2) := by decide +kernel
theorem dX12_sets_6 : decode cX12_sets 6 = .ok (.iload_n 1, 1) := by decide +kernel
theorem dX12_sets_7 : decode cX12_sets 7 = .ok (.imul, 1) := by decide +kernel
theorem dX12_sets_8 : decode cX12_sets 8 = .ok (.iload_n 2, 1) := by decide +kernel
theorem dX12_sets_9 : decode cX12_sets 9 = .ok (.iadd, 1) := by decide +kernel
theorem dX12_sets_10 : decode cX12_sets 10 = .ok (.iload_n 3, 1) := by decide +kernel
theorem dX12_sets_11 : decode cX12_sets 11 = .ok (.iastore, 1) := by decide +kernel
theorem dX12_sets_12 : decode cX12_sets 12 = .ok (.return_, 1) := by decide +kernel
theorem dX12_lacksOf_0 : decode cX12_lacksOf 0 = .ok (.aload_n 0, 1) := by decide +kernel
theorem dX12_lacksOf_1 : decode cX12_lacksOf 1 = .ok (.getfield 130, 3) := by decide +kernel
theorem dX12_lacksOf_4 : decode cX12_lacksOf 4 = .ok (.iload_n 1, 1) := by decide +kernel
theorem dX12_lacksOf_5 : decode cX12_lacksOf 5 = .ok (.iaload, 1) := by decide +kernel
theorem dX12_lacksOf_6 : decode cX12_lacksOf 6 = .ok (.aload_n 0, 1) := by decide +kernel
theorem dX12_lacksOf_7 : decode cX12_lacksOf 7 = .ok (.getfield 124, 3) := by decide +kernel
theorem dX12_lacksOf_10 : decode cX12_lacksOf 10 = .ok (.iload_n 1, 1) := by decide +kernel
theorem dX12_lacksOf_11 : decode cX12_lacksOf 11 = .ok (.iaload, 1) := by decide +kernel
theorem dX12_lacksOf_12 : decode cX12_lacksOf 12 = .ok (.iconst (-1), 1) := by decide +kernel
theorem dX12_lacksOf_13 : decode cX12_lacksOf 13 = .ok (.ixor, 1) := by decide +kernel
theorem dX12_lacksOf_14 : decode cX12_lacksOf 14 = .ok (.iand, 1) := by decide +kernel
theorem dX12_lacksOf_15 : decode cX12_lacksOf 15 = .ok (.ireturn, 1) := by decide +kernel
theorem dX12_validOf_0 : decode cX12_validOf 0 = .ok (.iconst 0, 1) := by decide +kernel
theorem dX12_validOf_1 : decode cX12_validOf 1 = .ok (.istore_n 3, 1) := by decide +kernel
theorem dX12_validOf_2 : decode cX12_validOf 2 = .ok (.iconst 0, 1) := by decide +kernel
theorem dX12_validOf_3 : decode cX12_validOf 3 = .ok (.istore 4, 2) := by decide +kernel
theorem dX12_validOf_5 : decode cX12_validOf 5 = .ok (.iload 4, 2) := by decide +kernel
theorem dX12_validOf_7 : decode cX12_validOf 7 = .ok (.aload_n 0, 1) := by decide +kernel
theorem dX12_validOf_8 : decode cX12_validOf 8 = .ok (.getfield 415, 3) := by decide +kernel
theorem dX12_validOf_11 : decode cX12_validOf 11 = .ok (.if_icmp .ge 50, 3) := by decide +kernel
theorem dX12_validOf_14 : decode cX12_validOf 14 = .ok (.iload_n 3, 1) := by decide +kernel
theorem dX12_validOf_15 : decode cX12_validOf 15 = .ok (.aload_n 0, 1) := by decide +kernel
theorem dX12_validOf_16 : decode cX12_validOf 16 = .ok (.getfield 151, 3) := by decide +kernel
theorem dX12_validOf_19 : decode cX12_validOf 19 = .ok (.iload 4, 2) := by decide +kernel
theorem dX12_validOf_21 : decode cX12_validOf 21 = .ok (.iaload, 1) := by decide +kernel
theorem dX12_validOf_22 : decode cX12_validOf 22 = .ok (.iload_n 1, 1) := by decide +kernel
theorem dX12_validOf_23 : decode cX12_validOf 23 = .ok (.if_icmp .ne 29, 3) := by decide +kernel
theorem dX12_validOf_26 : decode cX12_validOf 26 = .ok (.aload_n 0, 1) := by decide +kernel
theorem dX12_validOf_27 : decode cX12_validOf 27 = .ok (.getfield 154, 3) := by decide +kernel
theorem dX12_validOf_30 : decode cX12_validOf 30 = .ok (.iload 4, 2) := by decide +kernel
theorem dX12_validOf_32 : decode cX12_validOf 32 = .ok (.iaload, 1) := by decide +kernel
theorem dX12_validOf_33 : decode cX12_validOf 33 = .ok (.iload_n 2, 1) := by decide +kernel
theorem dX12_validOf_34 : decode cX12_validOf 34 = .ok (.if_icmp .gt 18, 3) := by decide +kernel
theorem dX12_validOf_37 : decode cX12_validOf 37 = .ok (.iload_n 2, 1) := by decide +kernel
theorem dX12_validOf_38 : decode cX12_validOf 38 = .ok (.aload_n 0, 1) := by decide +kernel
theorem dX12_validOf_39 : decode cX12_validOf 39 = .ok (.getfield 157, 3) := by decide +kernel
theorem dX12_validOf_42 : decode cX12_validOf 42 = .ok (.iload 4, 2) := by decide +kernel
theorem dX12_validOf_44 : decode cX12_validOf 44 = .ok (.iaload, 1) := by decide +kernel
theorem dX12_validOf_45 : decode cX12_validOf 45 = .ok (.if_icmp .ge 7, 3) := by decide +kernel
theorem dX12_validOf_48 : decode cX12_validOf 48 = .ok (.iconst 1, 1) := by decide +kernel
theorem dX12_validOf_49 : decode cX12_validOf 49 = .ok (.goto 4, 3) := by decide +kernel
theorem dX12_validOf_52 : decode cX12_validOf 52 = .ok (.iconst 0, 1) := by decide +kernel
theorem dX12_validOf_53 : decode cX12_validOf 53 = .ok (.iadd, 1) := by decide +kernel
theorem dX12_validOf_54 : decode cX12_validOf 54 = .ok (.istore_n 3, 1) := by decide +kernel
theorem dX12_validOf_55 : decode cX12_validOf 55 = .ok (.iinc 4 1, 3) := by decide +kernel
theorem dX12_validOf_58 : decode cX12_validOf 58 = .ok (.goto (-53), 3) := by decide +kernel
theorem dX12_validOf_61 : decode cX12_validOf 61 = .ok (.iload_n 3, 1) := by decide +kernel
theorem dX12_validOf_62 : decode cX12_validOf 62 = .ok (.ireturn, 1) := by decide +kernel
theorem dX12_noAsk_0 : decode cX12_noAsk 0 = .ok (.iload_n 1, 1) := by decide +kernel
theorem dX12_noAsk_1 : decode cX12_noAsk 1 = .ok (.iconst 0, 1) := by decide +kernel
theorem dX12_noAsk_2 : decode cX12_noAsk 2 = .ok (.iconst 3, 1) := by decide +kernel
theorem dX12_noAsk_3 : decode cX12_noAsk 3 = .ok (.invokestatic 317, 3) := by decide +kernel
theorem dX12_noAsk_6 : decode cX12_noAsk 6 = .ok (.ifCond .eq 17, 3) := by decide +kernel
theorem dX12_noAsk_9 : decode cX12_noAsk 9 = .ok (.iload_n 2, 1) := by decide +kernel
theorem dX12_noAsk_10 : decode cX12_noAsk 10 = .ok (.aload_n 0, 1) := by decide +kernel
theorem dX12_noAsk_11 : decode cX12_noAsk 11 = .ok (.getfield 314, 3) := by decide +kernel
theorem dX12_noAsk_14 : decode cX12_noAsk 14 = .ok (.sipush 1000, 3) := by decide +kernel
theorem dX12_noAsk_17 : decode cX12_noAsk 17 = .ok (.invokestatic 317, 3) := by decide +kernel
theorem dX12_noAsk_20 : decode cX12_noAsk 20 = .ok (.ifCond .ne 7, 3) := by decide +kernel
theorem dX12_noAsk_23 : decode cX12_noAsk 23 = .ok (.iconst 1, 1) := by decide +kernel
theorem dX12_noAsk_24 : decode cX12_noAsk 24 = .ok (.goto 4, 3) := by decide +kernel
theorem dX12_noAsk_27 : decode cX12_noAsk 27 = .ok (.iconst 0, 1) := by decide +kernel
theorem dX12_noAsk_28 : decode cX12_noAsk 28 = .ok (.ireturn, 1) := by decide +kernel
theorem dX12_judge_0 : decode cX12_judge 0 = .ok (.aload_n 0, 1) := by decide +kernel
theorem dX12_judge_1 : decode cX12_judge 1 = .ok (.iconst 0, 1) := by decide +kernel
theorem dX12_judge_2 : decode cX12_judge 2 = .ok (.putfield 178, 3) := by decide +kernel
theorem dX12_judge_5 : decode cX12_judge 5 = .ok (.aload_n 0, 1) := by decide +kernel
theorem dX12_judge_6 : decode cX12_judge 6 = .ok (.aload_n 0, 1) := by decide +kernel
theorem dX12_judge_7 : decode cX12_judge 7 = .ok (.iload_n 1, 1) := by decide +kernel
theorem dX12_judge_8 : decode cX12_judge 8 = .ok (.invokevirtual 385, 3) := by decide +kernel
theorem dX12_judge_11 : decode cX12_judge 11 = .ok (.iconst 1, 1) := by decide +kernel
theorem dX12_judge_12 : decode cX12_judge 12 = .ok (.invokevirtual 321, 3) := by decide +kernel
theorem dX12_judge_15 : decode cX12_judge 15 = .ok (.ifCond .ne 40, 3) := by decide +kernel
theorem dX12_judge_18 : decode cX12_judge 18 = .ok (.aload_n 0, 1) := by decide +kernel
theorem dX12_judge_19 : decode cX12_judge 19 = .ok (.aload_n 0, 1) := by decide +kernel
theorem dX12_judge_20 : decode cX12_judge 20 = .ok (.iload_n 2, 1) := by decide +kernel
theorem dX12_judge_21 : decode cX12_judge 21 = .ok (.iload_n 3, 1) := by decide +kernel
theorem dX12_judge_22 : decode cX12_judge 22 = .ok (.invokevirtual 418, 3) := by decide +kernel
theorem dX12_judge_25 : decode cX12_judge 25 = .ok (.iconst 2, 1) := by decide +kernel
theorem dX12_judge_26 : decode cX12_judge 26 = .ok (.invokevirtual 321, 3) := by decide +kernel
theorem dX12_judge_29 : decode cX12_judge 29 = .ok (.ifCond .ne 26, 3) := by decide +kernel
theorem dX12_judge_32 : decode cX12_judge 32 = .ok (.aload_n 0, 1) := by decide +kernel
theorem dX12_judge_33 : decode cX12_judge 33 = .ok (.iload 5, 2) := by decide +kernel
theorem dX12_judge_35 : decode cX12_judge 35 = .ok (.iconst 0, 1) := by decide +kernel
theorem dX12_judge_36 : decode cX12_judge 36 = .ok (.iconst 5, 1) := by decide +kernel
theorem dX12_judge_37 : decode cX12_judge 37 = .ok (.invokestatic 317, 3) := by decide +kernel
theorem dX12_judge_40 : decode cX12_judge 40 = .ok (.ifCond .ne 7, 3) := by decide +kernel
theorem dX12_judge_43 : decode cX12_judge 43 = .ok (.iconst 1, 1) := by decide +kernel
theorem dX12_judge_44 : decode cX12_judge 44 = .ok (.goto 4, 3) := by decide +kernel
theorem dX12_judge_47 : decode cX12_judge 47 = .ok (.iconst 0, 1) := by decide +kernel
theorem dX12_judge_48 : decode cX12_judge 48 = .ok (.iconst 3, 1) := by decide +kernel
theorem dX12_judge_49 : decode cX12_judge 49 = .ok (.invokevirtual 321, 3) := by decide +kernel
theorem dX12_judge_52 : decode cX12_judge 52 = .ok (.ifCond .eq 5, 3) := by decide +kernel
theorem dX12_judge_55 : decode cX12_judge 55 = .ok (.iconst 0, 1) := by decide +kernel
theorem dX12_judge_56 : decode cX12_judge 56 = .ok (.ireturn, 1) := by decide +kernel
theorem dX12_judge_57 : decode cX12_judge 57 = .ok (.aload_n 0, 1) := by decide +kernel
theorem dX12_judge_58 : decode cX12_judge 58 = .ok (.iload_n 1, 1) := by decide +kernel
theorem dX12_judge_59 : decode cX12_judge 59 = .ok (.iload_n 2, 1) := by decide +kernel
theorem dX12_judge_60 : decode cX12_judge 60 = .ok (.iload_n 3, 1) := by decide +kernel
theorem dX12_judge_61 : decode cX12_judge 61 = .ok (.iload 4, 2) := by decide +kernel
theorem dX12_judge_63 : decode cX12_judge 63 = .ok (.invokevirtual 421, 3) := by decide +kernel
theorem dX12_judge_66 : decode cX12_judge 66 = .ok (.iload 5, 2) := by decide +kernel
theorem dX12_judge_68 : decode cX12_judge 68 = .ok (.tableswitch 69 0 4 #[36, 41, 46, 51, 56], 36) := by decide +kernel
theorem dX12_judge_104 : decode cX12_judge 104 = .ok (.aload_n 0, 1) := by decide +kernel
theorem dX12_judge_105 : decode cX12_judge 105 = .ok (.getfield 340, 3) := by decide +kernel
theorem dX12_judge_108 : decode cX12_judge 108 = .ok (.ireturn, 1) := by decide +kernel
theorem dX12_judge_109 : decode cX12_judge 109 = .ok (.aload_n 0, 1) := by decide +kernel
theorem dX12_judge_110 : decode cX12_judge 110 = .ok (.getfield 343, 3) := by decide +kernel
theorem dX12_judge_113 : decode cX12_judge 113 = .ok (.ireturn, 1) := by decide +kernel
theorem dX12_judge_114 : decode cX12_judge 114 = .ok (.aload_n 0, 1) := by decide +kernel
theorem dX12_judge_115 : decode cX12_judge 115 = .ok (.getfield 346, 3) := by decide +kernel
theorem dX12_judge_118 : decode cX12_judge 118 = .ok (.ireturn, 1) := by decide +kernel
theorem dX12_judge_119 : decode cX12_judge 119 = .ok (.aload_n 0, 1) := by decide +kernel
theorem dX12_judge_120 : decode cX12_judge 120 = .ok (.getfield 349, 3) := by decide +kernel
theorem dX12_judge_123 : decode cX12_judge 123 = .ok (.ireturn, 1) := by decide +kernel
theorem dX12_judge_124 : decode cX12_judge 124 = .ok (.aload_n 0, 1) := by decide +kernel
theorem dX12_judge_125 : decode cX12_judge 125 = .ok (.getfield 355, 3) := by decide +kernel
theorem dX12_judge_128 : decode cX12_judge 128 = .ok (.ifCond .eq 7, 3) := by decide +kernel
theorem dX12_judge_131 : decode cX12_judge 131 = .ok (.iconst 1, 1) := by decide +kernel
theorem dX12_judge_132 : decode cX12_judge 132 = .ok (.goto 4, 3) := by decide +kernel
theorem dX12_judge_135 : decode cX12_judge 135 = .ok (.iconst 0, 1) := by decide +kernel
theorem dX12_judge_136 : decode cX12_judge 136 = .ok (.ireturn, 1) := by decide +kernel
theorem dX12_judge_137 : decode cX12_judge 137 = .ok (.aload_n 0, 1) := by decide +kernel
theorem dX12_judge_138 : decode cX12_judge 138 = .ok (.getfield 352, 3) := by decide +kernel
theorem dX12_judge_141 : decode cX12_judge 141 = .ok (.ireturn, 1) := by decide +kernel
theorem dX12_ask_0 : decode cX12_ask 0 = .ok (.aload_n 0, 1) := by decide +kernel
theorem dX12_ask_1 : decode cX12_ask 1 = .ok (.iconst 0, 1) := by decide +kernel
