theorem dX12_init_0 : decode cX12_init 0 = .ok (.aload_n 0, 1) := by decide +kernel
theorem dX12_init_1 : decode cX12_init 1 = .ok (.invokespecial 1, 3) := by decide +kernel
theorem dX12_init_4 : decode cX12_init 4 = .ok (.aload_n 0, 1) := by decide +kernel
theorem dX12_init_5 : decode cX12_init 5 = .ok (.sipush 1800, 3) := by decide +kernel
theorem dX12_init_8 : decode cX12_init 8 = .ok (.newarray .int, 2) := by decide +kernel
theorem dX12_init_10 : decode cX12_init 10 = .ok (.putfield 7, 3) := by decide +kernel
theorem dX12_init_13 : decode cX12_init 13 = .ok (.aload_n 0, 1) := by decide +kernel
theorem dX12_init_14 : decode cX12_init 14 = .ok (.iconst 0, 1) := by decide +kernel
theorem dX12_init_15 : decode cX12_init 15 = .ok (.putfield 13, 3) := by decide +kernel
theorem dX12_init_18 : decode cX12_init 18 = .ok (.aload_n 0, 1) := by decide +kernel
theorem dX12_init_19 : decode cX12_init 19 = .ok (.iconst 0, 1) := by decide +kernel
theorem dX12_init_20 : decode cX12_init 20 = .ok (.putfield 17, 3) := by decide +kernel
theorem dX12_init_23 : decode cX12_init 23 = .ok (.aload_n 0, 1) := by decide +kernel
theorem dX12_init_24 : decode cX12_init 24 = .ok (.iconst 0, 1) := by decide +kernel
theorem dX12_init_25 : decode cX12_init 25 = .ok (.putfield 20, 3) := by decide +kernel
theorem dX12_init_28 : decode cX12_init 28 = .ok (.aload_n 0, 1) := by decide +kernel
theorem dX12_init_29 : decode cX12_init 29 = .ok (.iconst 0, 1) := by decide +kernel
theorem dX12_init_30 : decode cX12_init 30 = .ok (.putfield 23, 3) := by decide +kernel
theorem dX12_init_33 : decode cX12_init 33 = .ok (.aload_n 0, 1) := by decide +kernel
theorem dX12_init_34 : decode cX12_init 34 = .ok (.iconst 0, 1) := by decide +kernel
theorem dX12_init_35 : decode cX12_init 35 = .ok (.putfield 26, 3) := by decide +kernel
theorem dX12_init_38 : decode cX12_init 38 = .ok (.aload_n 0, 1) := by decide +kernel
theorem dX12_init_39 : decode cX12_init 39 = .ok (.iconst 0, 1) := by decide +kernel
theorem dX12_init_40 : decode cX12_init 40 = .ok (.putfield 29, 3) := by decide +kernel
theorem dX12_init_43 : decode cX12_init 43 = .ok (.aload_n 0, 1) := by decide +kernel
theorem dX12_init_44 : decode cX12_init 44 = .ok (.lconst 0, 1) := by decide +kernel
theorem dX12_init_45 : decode cX12_init 45 = .ok (.putfield 32, 3) := by decide +kernel
theorem dX12_init_48 : decode cX12_init 48 = .ok (.aload_n 0, 1) := by decide +kernel
theorem dX12_init_49 : decode cX12_init 49 = .ok (.iconst 0, 1) := by decide +kernel
theorem dX12_init_50 : decode cX12_init 50 = .ok (.putfield 36, 3) := by decide +kernel
theorem dX12_init_53 : decode cX12_init 53 = .ok (.aload_n 0, 1) := by decide +kernel
theorem dX12_init_54 : decode cX12_init 54 = .ok (.iconst (-1), 1) := by decide +kernel
theorem dX12_init_55 : decode cX12_init 55 = .ok (.putfield 39, 3) := by decide +kernel
theorem dX12_init_58 : decode cX12_init 58 = .ok (.aload_n 0, 1) := by decide +kernel
theorem dX12_init_59 : decode cX12_init 59 = .ok (.iconst 0, 1) := by decide +kernel
theorem dX12_init_60 : decode cX12_init 60 = .ok (.putfield 42, 3) := by decide +kernel
theorem dX12_init_63 : decode cX12_init 63 = .ok (.aload_n 0, 1) := by decide +kernel
theorem dX12_init_64 : decode cX12_init 64 = .ok (.iconst (-1), 1) := by decide +kernel
theorem dX12_init_65 : decode cX12_init 65 = .ok (.putfield 45, 3) := by decide +kernel
theorem dX12_init_68 : decode cX12_init 68 = .ok (.aload_n 0, 1) := by decide +kernel
theorem dX12_init_69 : decode cX12_init 69 = .ok (.iconst (-1), 1) := by decide +kernel
theorem dX12_init_70 : decode cX12_init 70 = .ok (.putfield 48, 3) := by decide +kernel
theorem dX12_init_73 : decode cX12_init 73 = .ok (.aload_n 0, 1) := by decide +kernel
theorem dX12_init_74 : decode cX12_init 74 = .ok (.iconst 0, 1) := by decide +kernel
theorem dX12_init_75 : decode cX12_init 75 = .ok (.putfield 51, 3) := by decide +kernel
theorem dX12_init_78 : decode cX12_init 78 = .ok (.aload_n 0, 1) := by decide +kernel
theorem dX12_init_79 : decode cX12_init 79 = .ok (.iconst 2, 1) := by decide +kernel
theorem dX12_init_80 : decode cX12_init 80 = .ok (.newarray .int, 2) := by decide +kernel
theorem dX12_init_82 : decode cX12_init 82 = .ok (.putfield 54, 3) := by decide +kernel
theorem dX12_init_85 : decode cX12_init 85 = .ok (.aload_n 0, 1) := by decide +kernel
theorem dX12_init_86 : decode cX12_init 86 = .ok (.iconst 2, 1) := by decide +kernel
theorem dX12_init_87 : decode cX12_init 87 = .ok (.newarray .int, 2) := by decide +kernel
theorem dX12_init_89 : decode cX12_init 89 = .ok (.putfield 57, 3) := by decide +kernel
theorem dX12_init_92 : decode cX12_init 92 = .ok (.aload_n 0, 1) := by decide +kernel
theorem dX12_init_93 : decode cX12_init 93 = .ok (.sipush 128, 3) := by decide +kernel
theorem dX12_init_96 : decode cX12_init 96 = .ok (.newarray .int, 2) := by decide +kernel
theorem dX12_init_98 : decode cX12_init 98 = .ok (.putfield 60, 3) := by decide +kernel
theorem dX12_init_101 : decode cX12_init 101 = .ok (.aload_n 0, 1) := by decide +kernel
theorem dX12_init_102 : decode cX12_init 102 = .ok (.iconst 2, 1) := by decide +kernel
theorem dX12_init_103 : decode cX12_init 103 = .ok (.newarray .int, 2) := by decide +kernel
theorem dX12_init_105 : decode cX12_init 105 = .ok (.putfield 63, 3) := by decide +kernel
theorem dX12_init_108 : decode cX12_init 108 = .ok (.aload_n 0, 1) := by decide +kernel
theorem dX12_init_109 : decode cX12_init 109 = .ok (.bipush 12, 2) := by decide +kernel
theorem dX12_init_111 : decode cX12_init 111 = .ok (.newarray .int, 2) := by decide +kernel
theorem dX12_init_113 : decode cX12_init 113 = .ok (.putfield 66, 3) := by decide +kernel
theorem dX12_init_116 : decode cX12_init 116 = .ok (.aload_n 0, 1) := by decide +kernel
theorem dX12_init_117 : decode cX12_init 117 = .ok (.bipush 12, 2) := by decide +kernel
theorem dX12_init_119 : decode cX12_init 119 = .ok (.newarray .int, 2) := by decide +kernel
theorem dX12_init_121 : decode cX12_init 121 = .ok (.putfield 69, 3) := by decide +kernel
theorem dX12_init_124 : decode cX12_init 124 = .ok (.aload_n 0, 1) := by decide +kernel
theorem dX12_init_125 : decode cX12_init 125 = .ok (.bipush 12, 2) := by decide +kernel
theorem dX12_init_127 : decode cX12_init 127 = .ok (.newarray .int, 2) := by decide +kernel
theorem dX12_init_129 : decode cX12_init 129 = .ok (.putfield 72, 3) := by decide +kernel
theorem dX12_init_132 : decode cX12_init 132 = .ok (.aload_n 0, 1) := by decide +kernel
theorem dX12_init_133 : decode cX12_init 133 = .ok (.bipush 12, 2) := by decide +kernel
theorem dX12_init_135 : decode cX12_init 135 = .ok (.newarray .int, 2) := by decide +kernel
theorem dX12_init_137 : decode cX12_init 137 = .ok (.putfield 75, 3) := by decide +kernel
theorem dX12_init_140 : decode cX12_init 140 = .ok (.aload_n 0, 1) := by decide +kernel
theorem dX12_init_141 : decode cX12_init 141 = .ok (.iconst 2, 1) := by decide +kernel
theorem dX12_init_142 : decode cX12_init 142 = .ok (.newarray .int, 2) := by decide +kernel
theorem dX12_init_144 : decode cX12_init 144 = .ok (.putfield 78, 3) := by decide +kernel
theorem dX12_init_147 : decode cX12_init 147 = .ok (.aload_n 0, 1) := by decide +kernel
theorem dX12_init_148 : decode cX12_init 148 = .ok (.bipush 6, 2) := by decide +kernel
theorem dX12_init_150 : decode cX12_init 150 = .ok (.newarray .int, 2) := by decide +kernel
theorem dX12_init_152 : decode cX12_init 152 = .ok (.putfield 81, 3) := by decide +kernel
theorem dX12_init_155 : decode cX12_init 155 = .ok (.aload_n 0, 1) := by decide +kernel
theorem dX12_init_156 : decode cX12_init 156 = .ok (.bipush 6, 2) := by decide +kernel
theorem dX12_init_158 : decode cX12_init 158 = .ok (.newarray .int, 2) := by decide +kernel
theorem dX12_init_160 : decode cX12_init 160 = .ok (.putfield 84, 3) := by decide +kernel
theorem dX12_init_163 : decode cX12_init 163 = .ok (.aload_n 0, 1) := by decide +kernel
theorem dX12_init_164 : decode cX12_init 164 = .ok (.sipush 3200, 3) := by decide +kernel
theorem dX12_init_167 : decode cX12_init 167 = .ok (.newarray .int, 2) := by decide +kernel
theorem dX12_init_169 : decode cX12_init 169 = .ok (.putfield 87, 3) := by decide +kernel
theorem dX12_init_172 : decode cX12_init 172 = .ok (.aload_n 0, 1) := by decide +kernel
theorem dX12_init_173 : decode cX12_init 173 = .ok (.sipush 3200, 3) := by decide +kernel
theorem dX12_init_176 : decode cX12_init 176 = .ok (.newarray .int, 2) := by decide +kernel
theorem dX12_init_178 : decode cX12_init 178 = .ok (.putfield 90, 3) := by decide +kernel
theorem dX12_init_181 : decode cX12_init 181 = .ok (.aload_n 0, 1) := by decide +kernel
theorem dX12_init_182 : decode cX12_init 182 = .ok (.bipush 12, 2) := by decide +kernel
theorem dX12_init_184 : decode cX12_init 184 = .ok (.newarray .long, 2) := by decide +kernel
theorem dX12_init_186 : decode cX12_init 186 = .ok (.putfield 93, 3) := by decide +kernel
theorem dX12_init_189 : decode cX12_init 189 = .ok (.aload_n 0, 1) := by decide +kernel
theorem dX12_init_190 : decode cX12_init 190 = .ok (.iconst 0, 1) := by decide +kernel
theorem dX12_init_191 : decode cX12_init 191 = .ok (.putfield 97, 3) := by decide +kernel
theorem dX12_init_194 : decode cX12_init 194 = .ok (.aload_n 0, 1) := by decide +kernel
theorem dX12_init_195 : decode cX12_init 195 = .ok (.iconst 1, 1) := by decide +kernel
theorem dX12_init_196 : decode cX12_init 196 = .ok (.putfield 100, 3) := by decide +kernel
theorem dX12_init_199 : decode cX12_init 199 = .ok (.aload_n 0, 1) := by decide +kernel
theorem dX12_init_200 : decode cX12_init 200 = .ok (.iconst 0, 1) := by decide +kernel
theorem dX12_init_201 : decode cX12_init 201 = .ok (.putfield 103, 3) := by decide +kernel
theorem dX12_init_204 : decode cX12_init 204 = .ok (.aload_n 0, 1) := by decide +kernel
theorem dX12_init_205 : decode cX12_init 205 = .ok (.bipush 20, 2) := by decide +kernel
theorem dX12_init_207 : decode cX12_init 207 = .ok (.newarray .int, 2) := by decide +kernel
theorem dX12_init_209 : decode cX12_init 209 = .ok (.putfield 106, 3) := by decide +kernel
theorem dX12_init_212 : decode cX12_init 212 = .ok (.aload_n 0, 1) := by decide +kernel
theorem dX12_init_213 : decode cX12_init 213 = .ok (.bipush 20, 2) := by decide +kernel
theorem dX12_init_215 : decode cX12_init 215 = .ok (.newarray .int, 2) := by decide +kernel
theorem dX12_init_217 : decode cX12_init 217 = .ok (.putfield 109, 3) := by decide +kernel
theorem dX12_init_220 : decode cX12_init 220 = .ok (.aload_n 0, 1) := by decide +kernel
theorem dX12_init_221 : decode cX12_init 221 = .ok (.bipush 20, 2) := by decide +kernel
theorem dX12_init_223 : decode cX12_init 223 = .ok (.newarray .boolean, 2) := by decide +kernel
theorem dX12_init_225 : decode cX12_init 225 = .ok (.putfield 112, 3) := by decide +kernel
theorem dX12_init_228 : decode cX12_init 228 = .ok (.aload_n 0, 1) := by decide +kernel
theorem dX12_init_229 : decode cX12_init 229 = .ok (.bipush 20, 2) := by decide +kernel
theorem dX12_init_231 : decode cX12_init 231 = .ok (.newarray .int, 2) := by decide +kernel
theorem dX12_init_233 : decode cX12_init 233 = .ok (.putfield 116, 3) := by decide +kernel
theorem dX12_init_236 : decode cX12_init 236 = .ok (.aload_n 0, 1) := by decide +kernel
theorem dX12_init_237 : decode cX12_init 237 = .ok (.bipush 20, 2) := by decide +kernel
theorem dX12_init_239 : decode cX12_init 239 = .ok (.newarray .int, 2) := by decide +kernel
theorem dX12_init_241 : decode cX12_init 241 = .ok (.putfield 119, 3) := by decide +kernel
theorem dX12_init_244 : decode cX12_init 244 = .ok (.aload_n 0, 1) := by decide +kernel
theorem dX12_init_245 : decode cX12_init 245 = .ok (.iconst 0, 1) := by decide +kernel
theorem dX12_init_246 : decode cX12_init 246 = .ok (.putfield 122, 3) := by decide +kernel
theorem dX12_init_249 : decode cX12_init 249 = .ok (.aload_n 0, 1) := by decide +kernel
theorem dX12_init_250 : decode cX12_init 250 = .ok (.iconst 0, 1) := by decide +kernel
theorem dX12_init_251 : decode cX12_init 251 = .ok (.putfield 125, 3) := by decide +kernel
theorem dX12_init_254 : decode cX12_init 254 = .ok (.aload_n 0, 1) := by decide +kernel
theorem dX12_init_255 : decode cX12_init 255 = .ok (.sipush 500, 3) := by decide +kernel
theorem dX12_init_258 : decode cX12_init 258 = .ok (.newarray .int, 2) := by decide +kernel
theorem dX12_init_260 : decode cX12_init 260 = .ok (.putfield 128, 3) := by decide +kernel
theorem dX12_init_263 : decode cX12_init 263 = .ok (.aload_n 0, 1) := by decide +kernel
theorem dX12_init_264 : decode cX12_init 264 = .ok (.iconst 0, 1) := by decide +kernel
theorem dX12_init_265 : decode cX12_init 265 = .ok (.putfield 131, 3) := by decide +kernel
theorem dX12_init_268 : decode cX12_init 268 = .ok (.aload_n 0, 1) := by decide +kernel
theorem dX12_init_269 : decode cX12_init 269 = .ok (.iconst 0, 1) := by decide +kernel
theorem dX12_init_270 : decode cX12_init 270 = .ok (.putfield 134, 3) := by decide +kernel
theorem dX12_init_273 : decode cX12_init 273 = .ok (.aload_n 0, 1) := by decide +kernel
theorem dX12_init_274 : decode cX12_init 274 = .ok (.iconst 0, 1) := by decide +kernel
theorem dX12_init_275 : decode cX12_init 275 = .ok (.putfield 138, 3) := by decide +kernel
theorem dX12_init_278 : decode cX12_init 278 = .ok (.aload_n 0, 1) := by decide +kernel
theorem dX12_init_279 : decode cX12_init 279 = .ok (.bipush 6, 2) := by decide +kernel
theorem dX12_init_281 : decode cX12_init 281 = .ok (.newarray .int, 2) := by decide +kernel
theorem dX12_init_283 : decode cX12_init 283 = .ok (.putfield 141, 3) := by decide +kernel
theorem dX12_init_286 : decode cX12_init 286 = .ok (.aload_n 0, 1) := by decide +kernel
theorem dX12_init_287 : decode cX12_init 287 = .ok (.bipush 22, 2) := by decide +kernel
theorem dX12_init_289 : decode cX12_init 289 = .ok (.newarray .int, 2) := by decide +kernel
theorem dX12_init_291 : decode cX12_init 291 = .ok (.putfield 144, 3) := by decide +kernel
theorem dX12_init_294 : decode cX12_init 294 = .ok (.aload_n 0, 1) := by decide +kernel
theorem dX12_init_295 : decode cX12_init 295 = .ok (.sipush 1408, 3) := by decide +kernel
theorem dX12_init_298 : decode cX12_init 298 = .ok (.newarray .int, 2) := by decide +kernel
theorem dX12_init_300 : decode cX12_init 300 = .ok (.putfield 147, 3) := by decide +kernel
theorem dX12_init_303 : decode cX12_init 303 = .ok (.aload_n 0, 1) := by decide +kernel
theorem dX12_init_304 : decode cX12_init 304 = .ok (.sipush 132, 3) := by decide +kernel
theorem dX12_init_307 : decode cX12_init 307 = .ok (.newarray .int, 2) := by decide +kernel
theorem dX12_init_309 : decode cX12_init 309 = .ok (.putfield 150, 3) := by decide +kernel
theorem dX12_init_312 : decode cX12_init 312 = .ok (.aload_n 0, 1) := by decide +kernel
theorem dX12_init_313 : decode cX12_init 313 = .ok (.sipush 132, 3) := by decide +kernel
theorem dX12_init_316 : decode cX12_init 316 = .ok (.newarray .int, 2) := by decide +kernel
theorem dX12_init_318 : decode cX12_init 318 = .ok (.putfield 153, 3) := by decide +kernel
theorem dX12_init_321 : decode cX12_init 321 = .ok (.aload_n 0, 1) := by decide +kernel
theorem dX12_init_322 : decode cX12_init 322 = .ok (.sipush 132, 3) := by decide +kernel
theorem dX12_init_325 : decode cX12_init 325 = .ok (.newarray .int, 2) := by decide +kernel
theorem dX12_init_327 : decode cX12_init 327 = .ok (.putfield 156, 3) := by decide +kernel
theorem dX12_init_330 : decode cX12_init 330 = .ok (.aload_n 0, 1) := by decide +kernel
theorem dX12_init_331 : decode cX12_init 331 = .ok (.sipush 132, 3) := by decide +kernel
theorem dX12_init_334 : decode cX12_init 334 = .ok (.newarray .int, 2) := by decide +kernel
theorem dX12_init_336 : decode cX12_init 336 = .ok (.putfield 159, 3) := by decide +kernel
theorem dX12_init_339 : decode cX12_init 339 = .ok (.aload_n 0, 1) := by decide +kernel
theorem dX12_init_340 : decode cX12_init 340 = .ok (.bipush 22, 2) := by decide +kernel
theorem dX12_init_342 : decode cX12_init 342 = .ok (.newarray .int, 2) := by decide +kernel
theorem dX12_init_344 : decode cX12_init 344 = .ok (.putfield 162, 3) := by decide +kernel
theorem dX12_init_347 : decode cX12_init 347 = .ok (.aload_n 0, 1) := by decide +kernel
theorem dX12_init_348 : decode cX12_init 348 = .ok (.sipush 2640, 3) := by decide +kernel
theorem dX12_init_351 : decode cX12_init 351 = .ok (.newarray .int, 2) := by decide +kernel
theorem dX12_init_353 : decode cX12_init 353 = .ok (.putfield 165, 3) := by decide +kernel
theorem dX12_init_356 : decode cX12_init 356 = .ok (.aload_n 0, 1) := by decide +kernel
theorem dX12_init_357 : decode cX12_init 357 = .ok (.iconst 0, 1) := by decide +kernel
theorem dX12_init_358 : decode cX12_init 358 = .ok (.putfield 168, 3) := by decide +kernel
theorem dX12_init_361 : decode cX12_init 361 = .ok (.aload_n 0, 1) := by decide +kernel
theorem dX12_init_362 : decode cX12_init 362 = .ok (.iconst 0, 1) := by decide +kernel
theorem dX12_init_363 : decode cX12_init 363 = .ok (.putfield 171, 3) := by decide +kernel
theorem dX12_init_366 : decode cX12_init 366 = .ok (.aload_n 0, 1) := by decide +kernel
theorem dX12_init_367 : decode cX12_init 367 = .ok (.lconst 1, 1) := by decide +kernel
theorem dX12_init_368 : decode cX12_init 368 = .ok (.putfield 174, 3) := by decide +kernel
theorem dX12_init_371 : decode cX12_init 371 = .ok (.aload_n 0, 1) := by decide +kernel
theorem dX12_init_372 : decode cX12_init 372 = .ok (.sipush 500, 3) := by decide +kernel
theorem dX12_init_375 : decode cX12_init 375 = .ok (.newarray .long, 2) := by decide +kernel
theorem dX12_init_377 : decode cX12_init 377 = .ok (.putfield 177, 3) := by decide +kernel
theorem dX12_init_380 : decode cX12_init 380 = .ok (.aload_n 0, 1) := by decide +kernel
theorem dX12_init_381 : decode cX12_init 381 = .ok (.bipush 10, 2) := by decide +kernel
theorem dX12_init_383 : decode cX12_init 383 = .ok (.newarray .int, 2) := by decide +kernel
theorem dX12_init_385 : decode cX12_init 385 = .ok (.putfield 180, 3) := by decide +kernel
theorem dX12_init_388 : decode cX12_init 388 = .ok (.aload_n 0, 1) := by decide +kernel
theorem dX12_init_389 : decode cX12_init 389 = .ok (.bipush 64, 2) := by decide +kernel
theorem dX12_init_391 : decode cX12_init 391 = .ok (.newarray .int, 2) := by decide +kernel
theorem dX12_init_393 : decode cX12_init 393 = .ok (.putfield 183, 3) := by decide +kernel
theorem dX12_init_396 : decode cX12_init 396 = .ok (.aload_n 0, 1) := by decide +kernel
theorem dX12_init_397 : decode cX12_init 397 = .ok (.bipush 6, 2) := by decide +kernel
theorem dX12_init_399 : decode cX12_init 399 = .ok (.newarray .int, 2) := by decide +kernel
theorem dX12_init_401 : decode cX12_init 401 = .ok (.putfield 186, 3) := by decide +kernel
theorem dX12_init_404 : decode cX12_init 404 = .ok (.aload_n 0, 1) := by decide +kernel
theorem dX12_init_405 : decode cX12_init 405 = .ok (.bipush 6, 2) := by decide +kernel
theorem dX12_init_407 : decode cX12_init 407 = .ok (.newarray .int, 2) := by decide +kernel
theorem dX12_init_409 : decode cX12_init 409 = .ok (.putfield 189, 3) := by decide +kernel
theorem dX12_init_412 : decode cX12_init 412 = .ok (.aload_n 0, 1) := by decide +kernel
theorem dX12_init_413 : decode cX12_init 413 = .ok (.sipush 640, 3) := by decide +kernel
theorem dX12_init_416 : decode cX12_init 416 = .ok (.newarray .int, 2) := by decide +kernel
theorem dX12_init_418 : decode cX12_init 418 = .ok (.putfield 192, 3) := by decide +kernel
theorem dX12_init_421 : decode cX12_init 421 = .ok (.aload_n 0, 1) := by decide +kernel
theorem dX12_init_422 : decode cX12_init 422 = .ok (.bipush 54, 2) := by decide +kernel
theorem dX12_init_424 : decode cX12_init 424 = .ok (.newarray .int, 2) := by decide +kernel
theorem dX12_init_426 : decode cX12_init 426 = .ok (.putfield 195, 3) := by decide +kernel
theorem dX12_init_429 : decode cX12_init 429 = .ok (.aload_n 0, 1) := by decide +kernel
theorem dX12_init_430 : decode cX12_init 430 = .ok (.bipush 54, 2) := by decide +kernel
theorem dX12_init_432 : decode cX12_init 432 = .ok (.newarray .int, 2) := by decide +kernel
theorem dX12_init_434 : decode cX12_init 434 = .ok (.putfield 198, 3) := by decide +kernel
theorem dX12_init_437 : decode cX12_init 437 = .ok (.aload_n 0, 1) := by decide +kernel
theorem dX12_init_438 : decode cX12_init 438 = .ok (.iconst (-1), 1) := by decide +kernel
theorem dX12_init_439 : decode cX12_init 439 = .ok (.putfield 201, 3) := by decide +kernel
theorem dX12_init_442 : decode cX12_init 442 = .ok (.aload_n 0, 1) := by decide +kernel
theorem dX12_init_443 : decode cX12_init 443 = .ok (.iconst 0, 1) := by decide +kernel
theorem dX12_init_444 : decode cX12_init 444 = .ok (.putfield 204, 3) := by decide +kernel
theorem dX12_init_447 : decode cX12_init 447 = .ok (.aload_n 0, 1) := by decide +kernel
theorem dX12_init_448 : decode cX12_init 448 = .ok (.iconst 0, 1) := by decide +kernel
theorem dX12_init_449 : decode cX12_init 449 = .ok (.putfield 207, 3) := by decide +kernel
theorem dX12_init_452 : decode cX12_init 452 = .ok (.aload_n 0, 1) := by decide +kernel
theorem dX12_init_453 : decode cX12_init 453 = .ok (.iconst 5, 1) := by decide +kernel
theorem dX12_init_454 : decode cX12_init 454 = .ok (.newarray .int, 2) := by decide +kernel
theorem dX12_init_456 : decode cX12_init 456 = .ok (.putfield 210, 3) := by decide +kernel
theorem dX12_init_459 : decode cX12_init 459 = .ok (.aload_n 0, 1) := by decide +kernel
theorem dX12_init_460 : decode cX12_init 460 = .ok (.iconst 0, 1) := by decide +kernel
theorem dX12_init_461 : decode cX12_init 461 = .ok (.putfield 213, 3) := by decide +kernel
theorem dX12_init_464 : decode cX12_init 464 = .ok (.aload_n 0, 1) := by decide +kernel
theorem dX12_init_465 : decode cX12_init 465 = .ok (.iconst 5, 1) := by decide +kernel
theorem dX12_init_466 : decode cX12_init 466 = .ok (.newarray .int, 2) := by decide +kernel
theorem dX12_init_468 : decode cX12_init 468 = .ok (.putfield 216, 3) := by decide +kernel
theorem dX12_init_471 : decode cX12_init 471 = .ok (.aload_n 0, 1) := by decide +kernel
theorem dX12_init_472 : decode cX12_init 472 = .ok (.iconst 0, 1) := by decide +kernel
theorem dX12_init_473 : decode cX12_init 473 = .ok (.putfield 219, 3) := by decide +kernel
theorem dX12_init_476 : decode cX12_init 476 = .ok (.aload_n 0, 1) := by decide +kernel
theorem dX12_init_477 : decode cX12_init 477 = .ok (.bipush 16, 2) := by decide +kernel
theorem dX12_init_479 : decode cX12_init 479 = .ok (.newarray .int, 2) := by decide +kernel
theorem dX12_init_481 : decode cX12_init 481 = .ok (.putfield 222, 3) := by decide +kernel
theorem dX12_init_484 : decode cX12_init 484 = .ok (.aload_n 0, 1) := by decide +kernel
theorem dX12_init_485 : decode cX12_init 485 = .ok (.bipush 16, 2) := by decide +kernel
theorem dX12_init_487 : decode cX12_init 487 = .ok (.newarray .int, 2) := by decide +kernel
theorem dX12_init_489 : decode cX12_init 489 = .ok (.putfield 225, 3) := by decide +kernel
theorem dX12_init_492 : decode cX12_init 492 = .ok (.aload_n 0, 1) := by decide +kernel
theorem dX12_init_493 : decode cX12_init 493 = .ok (.bipush 16, 2) := by decide +kernel
theorem dX12_init_495 : decode cX12_init 495 = .ok (.newarray .int, 2) := by decide +kernel
theorem dX12_init_497 : decode cX12_init 497 = .ok (.putfield 228, 3) := by decide +kernel
theorem dX12_init_500 : decode cX12_init 500 = .ok (.aload_n 0, 1) := by decide +kernel
theorem dX12_init_501 : decode cX12_init 501 = .ok (.ldc 231, 2) := by decide +kernel
theorem dX12_init_503 : decode cX12_init 503 = .ok (.newarray .int, 2) := by decide +kernel
theorem dX12_init_505 : decode cX12_init 505 = .ok (.putfield 232, 3) := by decide +kernel
theorem dX12_init_508 : decode cX12_init 508 = .ok (.aload_n 0, 1) := by decide +kernel
theorem dX12_init_509 : decode cX12_init 509 = .ok (.bipush 64, 2) := by decide +kernel
theorem dX12_init_511 : decode cX12_init 511 = .ok (.newarray .int, 2) := by decide +kernel
theorem dX12_init_513 : decode cX12_init 513 = .ok (.putfield 235, 3) := by decide +kernel
theorem dX12_init_516 : decode cX12_init 516 = .ok (.aload_n 0, 1) := by decide +kernel
theorem dX12_init_517 : decode cX12_init 517 = .ok (.bipush 100, 2) := by decide +kernel
theorem dX12_init_519 : decode cX12_init 519 = .ok (.newarray .int, 2) := by decide +kernel
theorem dX12_init_521 : decode cX12_init 521 = .ok (.putfield 238, 3) := by decide +kernel
theorem dX12_init_524 : decode cX12_init 524 = .ok (.aload_n 0, 1) := by decide +kernel
theorem dX12_init_525 : decode cX12_init 525 = .ok (.bipush 110, 2) := by decide +kernel
theorem dX12_init_527 : decode cX12_init 527 = .ok (.newarray .int, 2) := by decide +kernel
theorem dX12_init_529 : decode cX12_init 529 = .ok (.putfield 241, 3) := by decide +kernel
theorem dX12_init_532 : decode cX12_init 532 = .ok (.aload_n 0, 1) := by decide +kernel
theorem dX12_init_533 : decode cX12_init 533 = .ok (.iconst 0, 1) := by decide +kernel
theorem dX12_init_534 : decode cX12_init 534 = .ok (.putfield 244, 3) := by decide +kernel
theorem dX12_init_537 : decode cX12_init 537 = .ok (.iconst 0, 1) := by decide +kernel
theorem dX12_init_538 : decode cX12_init 538 = .ok (.istore_n 1, 1) := by decide +kernel
theorem dX12_init_539 : decode cX12_init 539 = .ok (.iload_n 1, 1) := by decide +kernel
theorem dX12_init_540 : decode cX12_init 540 = .ok (.bipush 6, 2) := by decide +kernel
theorem dX12_init_542 : decode cX12_init 542 = .ok (.if_icmp .ge 16, 3) := by decide +kernel
theorem dX12_init_545 : decode cX12_init 545 = .ok (.aload_n 0, 1) := by decide +kernel
theorem dX12_init_546 : decode cX12_init 546 = .ok (.getfield 81, 3) := by decide +kernel
theorem dX12_init_549 : decode cX12_init 549 = .ok (.iload_n 1, 1) := by decide +kernel
theorem dX12_init_550 : decode cX12_init 550 = .ok (.iconst (-1), 1) := by decide +kernel
theorem dX12_init_551 : decode cX12_init 551 = .ok (.iastore, 1) := by decide +kernel
theorem dX12_init_552 : decode cX12_init 552 = .ok (.iinc 1 1, 3) := by decide +kernel
theorem dX12_init_555 : decode cX12_init 555 = .ok (.goto (-16), 3) := by decide +kernel
theorem dX12_init_558 : decode cX12_init 558 = .ok (.return_, 1) := by decide +kernel
theorem dX12_is_0 : decode cX12_is 0 = .ok (.iload_n 0, 1) := by decide +kernel
theorem dX12_is_1 : decode cX12_is 1 = .ok (.iload_n 1, 1) := by decide +kernel
theorem dX12_is_2 : decode cX12_is 2 = .ok (.if_icmp .lt 12, 3) := by decide +kernel
theorem dX12_is_5 : decode cX12_is 5 = .ok (.iload_n 0, 1) := by decide +kernel
theorem dX12_is_6 : decode cX12_is 6 = .ok (.iload_n 2, 1) := by decide +kernel
theorem dX12_is_7 : decode cX12_is 7 = .ok (.if_icmp .gt 7, 3) := by decide +kernel
theorem dX12_is_10 : decode cX12_is 10 = .ok (.iconst 1, 1) := by decide +kernel
theorem dX12_is_11 : decode cX12_is 11 = .ok (.goto 4, 3) := by decide +kernel
theorem dX12_is_14 : decode cX12_is 14 = .ok (.iconst 0, 1) := by decide +kernel
theorem dX12_is_15 : decode cX12_is 15 = .ok (.ireturn, 1) := by decide +kernel
theorem dX12_put_0 : decode cX12_put 0 = .ok (.bipush 24, 2) := by decide +kernel
theorem dX12_put_2 : decode cX12_put 2 = .ok (.istore_n 2, 1) := by decide +kernel
theorem dX12_put_3 : decode cX12_put 3 = .ok (.iload_n 2, 1) := by decide +kernel
theorem dX12_put_4 : decode cX12_put 4 = .ok (.ifCond .lt 35, 3) := by decide +kernel
theorem dX12_put_7 : decode cX12_put 7 = .ok (.aload_n 0, 1) := by decide +kernel
theorem dX12_put_8 : decode cX12_put 8 = .ok (.getfield 7, 3) := by decide +kernel
theorem dX12_put_11 : decode cX12_put 11 = .ok (.aload_n 0, 1) := by decide +kernel
theorem dX12_put_12 : decode cX12_put 12 = .ok (.getfield 13, 3) := by decide +kernel
theorem dX12_put_15 : decode cX12_put 15 = .ok (.iload_n 1, 1) := by decide +kernel
theorem dX12_put_16 : decode cX12_put 16 = .ok (.iload_n 2, 1) := by decide +kernel
theorem dX12_put_17 : decode cX12_put 17 = .ok (.ishr, 1) := by decide +kernel
theorem dX12_put_18 : decode cX12_put 18 = .ok (.sipush 255, 3) := by decide +kernel
theorem dX12_put_21 : decode cX12_put 21 = .ok (.iand, 1) := by decide +kernel
theorem dX12_put_22 : decode cX12_put 22 = .ok (.iastore, 1) := by decide +kernel
theorem dX12_put_23 : decode cX12_put 23 = .ok (.aload_n 0, 1) := by decide +kernel
theorem dX12_put_24 : decode cX12_put 24 = .ok (.dup, 1) := by decide +kernel
theorem dX12_put_25 : decode cX12_put 25 = .ok (.getfield 13, 3) := by decide +kernel
theorem dX12_put_28 : decode cX12_put 28 = .ok (.iconst 1, 1) := by decide +kernel
theorem dX12_put_29 : decode cX12_put 29 = .ok (.iadd, 1) := by decide +kernel
theorem dX12_put_30 : decode cX12_put 30 = .ok (.putfield 13, 3) := by decide +kernel
theorem dX12_put_33 : decode cX12_put 33 = .ok (.iinc 2 (-8), 3) := by decide +kernel
theorem dX12_put_36 : decode cX12_put 36 = .ok (.goto (-33), 3) := by decide +kernel
theorem dX12_put_39 : decode cX12_put 39 = .ok (.return_, 1) := by decide +kernel
theorem dX12_feed_0 : decode cX12_feed 0 = .ok (.aload_n 0, 1) := by decide +kernel
theorem dX12_feed_1 : decode cX12_feed 1 = .ok (.getfield 13, 3) := by decide +kernel
theorem dX12_feed_4 : decode cX12_feed 4 = .ok (.bipush 20, 2) := by decide +kernel
theorem dX12_feed_6 : decode cX12_feed 6 = .ok (.iadd, 1) := by decide +kernel
theorem dX12_feed_7 : decode cX12_feed 7 = .ok (.sipush 1600, 3) := by decide +kernel
theorem dX12_feed_10 : decode cX12_feed 10 = .ok (.if_icmp .le 9, 3) := by decide +kernel
theorem dX12_feed_13 : decode cX12_feed 13 = .ok (.aload_n 0, 1) := by decide +kernel
theorem dX12_feed_14 : decode cX12_feed 14 = .ok (.iconst 0, 1) := by decide +kernel
theorem dX12_feed_15 : decode cX12_feed 15 = .ok (.invokevirtual 247, 3) := by decide +kernel
theorem dX12_feed_18 : decode cX12_feed 18 = .ok (.ireturn, 1) := by decide +kernel
theorem dX12_feed_19 : decode cX12_feed 19 = .ok (.aload_n 0, 1) := by decide +kernel
theorem dX12_feed_20 : decode cX12_feed 20 = .ok (.iload_n 1, 1) := by decide +kernel
theorem dX12_feed_21 : decode cX12_feed 21 = .ok (.invokevirtual 251, 3) := by decide +kernel
theorem dX12_feed_24 : decode cX12_feed 24 = .ok (.aload_n 0, 1) := by decide +kernel
theorem dX12_feed_25 : decode cX12_feed 25 = .ok (.iload_n 2, 1) := by decide +kernel
theorem dX12_feed_26 : decode cX12_feed 26 = .ok (.invokevirtual 251, 3) := by decide +kernel
theorem dX12_feed_29 : decode cX12_feed 29 = .ok (.aload_n 0, 1) := by decide +kernel
theorem dX12_feed_30 : decode cX12_feed 30 = .ok (.iload_n 3, 1) := by decide +kernel
theorem dX12_feed_31 : decode cX12_feed 31 = .ok (.invokevirtual 251, 3) := by decide +kernel
theorem dX12_feed_34 : decode cX12_feed 34 = .ok (.aload_n 0, 1) := by decide +kernel
theorem dX12_feed_35 : decode cX12_feed 35 = .ok (.iload 4, 2) := by decide +kernel
theorem dX12_feed_37 : decode cX12_feed 37 = .ok (.invokevirtual 251, 3) := by decide +kernel
theorem dX12_feed_40 : decode cX12_feed 40 = .ok (.aload_n 0, 1) := by decide +kernel
theorem dX12_feed_41 : decode cX12_feed 41 = .ok (.iload 5, 2) := by decide +kernel
theorem dX12_feed_43 : decode cX12_feed 43 = .ok (.invokevirtual 251, 3) := by decide +kernel
theorem dX12_feed_46 : decode cX12_feed 46 = .ok (.aload_n 0, 1) := by decide +kernel
theorem dX12_feed_47 : decode cX12_feed 47 = .ok (.getfield 13, 3) := by decide +kernel
theorem dX12_feed_50 : decode cX12_feed 50 = .ok (.ireturn, 1) := by decide +kernel
theorem dX12_end_0 : decode cX12_end 0 = .ok (.iload_n 1, 1) := by decide +kernel
theorem dX12_end_1 : decode cX12_end 1 = .ok (.ifCond .lt 11, 3) := by decide +kernel
theorem dX12_end_4 : decode cX12_end 4 = .ok (.iload_n 1, 1) := by decide +kernel
theorem dX12_end_5 : decode cX12_end 5 = .ok (.aload_n 0, 1) := by decide +kernel
theorem dX12_end_6 : decode cX12_end 6 = .ok (.getfield 13, 3) := by decide +kernel
theorem dX12_end_9 : decode cX12_end 9 = .ok (.if_icmp .le 17, 3) := by decide +kernel
theorem dX12_end_12 : decode cX12_end 12 = .ok (.aload_n 0, 1) := by decide +kernel
theorem dX12_end_13 : decode cX12_end 13 = .ok (.iconst 0, 1) := by decide +kernel
theorem dX12_end_14 : decode cX12_end 14 = .ok (.invokevirtual 247, 3) := by decide +kernel
theorem dX12_end_17 : decode cX12_end 17 = .ok (.ifCond .lt 7, 3) := by decide +kernel
theorem dX12_end_20 : decode cX12_end 20 = .ok (.iconst 1, 1) := by decide +kernel
theorem dX12_end_21 : decode cX12_end 21 = .ok (.goto 4, 3) := by decide +kernel
theorem dX12_end_24 : decode cX12_end 24 = .ok (.iconst 0, 1) := by decide +kernel
theorem dX12_end_25 : decode cX12_end 25 = .ok (.ireturn, 1) := by decide +kernel
theorem dX12_end_26 : decode cX12_end 26 = .ok (.aload_n 0, 1) := by decide +kernel
theorem dX12_end_27 : decode cX12_end 27 = .ok (.iload_n 1, 1) := by decide +kernel
theorem dX12_end_28 : decode cX12_end 28 = .ok (.putfield 13, 3) := by decide +kernel
theorem dX12_end_31 : decode cX12_end 31 = .ok (.iconst 1, 1) := by decide +kernel
theorem dX12_end_32 : decode cX12_end 32 = .ok (.ireturn, 1) := by decide +kernel
theorem dX12_blame_0 : decode cX12_blame 0 = .ok (.aload_n 0, 1) := by decide +kernel
theorem dX12_blame_1 : decode cX12_blame 1 = .ok (.getfield 36, 3) := by decide +kernel
theorem dX12_blame_4 : decode cX12_blame 4 = .ok (.ifCond .le 4, 3) := by decide +kernel
theorem dX12_blame_7 : decode cX12_blame 7 = .ok (.return_, 1) := by decide +kernel
theorem dX12_blame_8 : decode cX12_blame 8 = .ok (.aload_n 0, 1) := by decide +kernel
theorem dX12_blame_9 : decode cX12_blame 9 = .ok (.iload_n 1, 1) := by decide +kernel
theorem dX12_blame_10 : decode cX12_blame 10 = .ok (.putfield 36, 3) := by decide +kernel
theorem dX12_blame_13 : decode cX12_blame 13 = .ok (.aload_n 0, 1) := by decide +kernel
theorem dX12_blame_14 : decode cX12_blame 14 = .ok (.iload_n 2, 1) := by decide +kernel
theorem dX12_blame_15 : decode cX12_blame 15 = .ok (.putfield 39, 3) := by decide +kernel
theorem dX12_blame_18 : decode cX12_blame 18 = .ok (.return_, 1) := by decide +kernel
theorem dX12_isLetter_0 : decode cX12_isLetter 0 = .ok (.iload_n 0, 1) := by decide +kernel
theorem dX12_isLetter_1 : decode cX12_isLetter 1 = .ok (.bipush 97, 2) := by decide +kernel
theorem dX12_isLetter_3 : decode cX12_isLetter 3 = .ok (.if_icmp .lt 13, 3) := by decide +kernel
theorem dX12_isLetter_6 : decode cX12_isLetter 6 = .ok (.iload_n 0, 1) := by decide +kernel
theorem dX12_isLetter_7 : decode cX12_isLetter 7 = .ok (.bipush 122, 2) := by decide +kernel
theorem dX12_isLetter_9 : decode cX12_isLetter 9 = .ok (.if_icmp .gt 7, 3) := by decide +kernel
theorem dX12_isLetter_12 : decode cX12_isLetter 12 = .ok (.iconst 1, 1) := by decide +kernel
theorem dX12_isLetter_13 : decode cX12_isLetter 13 = .ok (.goto 4, 3) := by decide +kernel
theorem dX12_isLetter_16 : decode cX12_isLetter 16 = .ok (.iconst 0, 1) := by decide +kernel
theorem dX12_isLetter_17 : decode cX12_isLetter 17 = .ok (.ireturn, 1) := by decide +kernel
theorem dX12_isDigit_0 : decode cX12_isDigit 0 = .ok (.iload_n 0, 1) := by decide +kernel
theorem dX12_isDigit_1 : decode cX12_isDigit 1 = .ok (.bipush 48, 2) := by decide +kernel
theorem dX12_isDigit_3 : decode cX12_isDigit 3 = .ok (.if_icmp .lt 13, 3) := by decide +kernel
theorem dX12_isDigit_6 : decode cX12_isDigit 6 = .ok (.iload_n 0, 1) := by decide +kernel
theorem dX12_isDigit_7 : decode cX12_isDigit 7 = .ok (.bipush 57, 2) := by decide +kernel
theorem dX12_isDigit_9 : decode cX12_isDigit 9 = .ok (.if_icmp .gt 7, 3) := by decide +kernel
theorem dX12_isDigit_12 : decode cX12_isDigit 12 = .ok (.iconst 1, 1) := by decide +kernel
theorem dX12_isDigit_13 : decode cX12_isDigit 13 = .ok (.goto 4, 3) := by decide +kernel
theorem dX12_isDigit_16 : decode cX12_isDigit 16 = .ok (.iconst 0, 1) := by decide +kernel
theorem dX12_isDigit_17 : decode cX12_isDigit 17 = .ok (.ireturn, 1) := by decide +kernel
theorem dX12_lex_0 : decode cX12_lex 0 = .ok (.aload_n 0, 1) := by decide +kernel
theorem dX12_lex_1 : decode cX12_lex 1 = .ok (.getfield 48, 3) := by decide +kernel
theorem dX12_lex_4 : decode cX12_lex 4 = .ok (.iconst (-1), 1) := by decide +kernel
theorem dX12_lex_5 : decode cX12_lex 5 = .ok (.if_icmp .eq 12, 3) := by decide +kernel
theorem dX12_lex_8 : decode cX12_lex 8 = .ok (.aload_n 0, 1) := by decide +kernel
theorem dX12_lex_9 : decode cX12_lex 9 = .ok (.iconst 1, 1) := by decide +kernel
theorem dX12_lex_10 : decode cX12_lex 10 = .ok (.aload_n 0, 1) := by decide +kernel
theorem dX12_lex_11 : decode cX12_lex 11 = .ok (.getfield 48, 3) := by decide +kernel
theorem dX12_lex_14 : decode cX12_lex 14 = .ok (.invokevirtual 255, 3) := by decide +kernel
theorem dX12_lex_17 : decode cX12_lex 17 = .ok (.return_, 1) := by decide +kernel
theorem dX12_ahead_0 : decode cX12_ahead 0 = .ok (.aload_n 0, 1) := by decide +kernel
theorem dX12_ahead_1 : decode cX12_ahead 1 = .ok (.getfield 26, 3) := by decide +kernel
theorem dX12_ahead_4 : decode cX12_ahead 4 = .ok (.istore_n 1, 1) := by decide +kernel
theorem dX12_ahead_5 : decode cX12_ahead 5 = .ok (.iload_n 1, 1) := by decide +kernel
theorem dX12_ahead_6 : decode cX12_ahead 6 = .ok (.aload_n 0, 1) := by decide +kernel
theorem dX12_ahead_7 : decode cX12_ahead 7 = .ok (.getfield 17, 3) := by decide +kernel
theorem dX12_ahead_10 : decode cX12_ahead 10 = .ok (.if_icmp .ge 31, 3) := by decide +kernel
theorem dX12_ahead_13 : decode cX12_ahead 13 = .ok (.aload_n 0, 1) := by decide +kernel
theorem dX12_ahead_14 : decode cX12_ahead 14 = .ok (.getfield 7, 3) := by decide +kernel
theorem dX12_ahead_17 : decode cX12_ahead 17 = .ok (.iload_n 1, 1) := by decide +kernel
theorem dX12_ahead_18 : decode cX12_ahead 18 = .ok (.iaload, 1) := by decide +kernel
theorem dX12_ahead_19 : decode cX12_ahead 19 = .ok (.bipush 32, 2) := by decide +kernel
theorem dX12_ahead_21 : decode cX12_ahead 21 = .ok (.if_icmp .eq 14, 3) := by decide +kernel
theorem dX12_ahead_24 : decode cX12_ahead 24 = .ok (.aload_n 0, 1) := by decide +kernel
theorem dX12_ahead_25 : decode cX12_ahead 25 = .ok (.getfield 7, 3) := by decide +kernel
theorem dX12_ahead_28 : decode cX12_ahead 28 = .ok (.iload_n 1, 1) := by decide +kernel
theorem dX12_ahead_29 : decode cX12_ahead 29 = .ok (.iaload, 1) := by decide +kernel
theorem dX12_ahead_30 : decode cX12_ahead 30 = .ok (.bipush 10, 2) := by decide +kernel
theorem dX12_ahead_32 : decode cX12_ahead 32 = .ok (.if_icmp .ne 9, 3) := by decide +kernel
theorem dX12_ahead_35 : decode cX12_ahead 35 = .ok (.iinc 1 1, 3) := by decide +kernel
theorem dX12_ahead_38 : decode cX12_ahead 38 = .ok (.goto (-33), 3) := by decide +kernel
theorem dX12_ahead_41 : decode cX12_ahead 41 = .ok (.aload_n 0, 1) := by decide +kernel
theorem dX12_ahead_42 : decode cX12_ahead 42 = .ok (.iload_n 1, 1) := by decide +kernel
theorem dX12_ahead_43 : decode cX12_ahead 43 = .ok (.putfield 23, 3) := by decide +kernel
theorem dX12_ahead_46 : decode cX12_ahead 46 = .ok (.aload_n 0, 1) := by decide +kernel
theorem dX12_ahead_47 : decode cX12_ahead 47 = .ok (.iload_n 1, 1) := by decide +kernel
theorem dX12_ahead_48 : decode cX12_ahead 48 = .ok (.putfield 26, 3) := by decide +kernel
theorem dX12_ahead_51 : decode cX12_ahead 51 = .ok (.aload_n 0, 1) := by decide +kernel
theorem dX12_ahead_52 : decode cX12_ahead 52 = .ok (.iconst 0, 1) := by decide +kernel
theorem dX12_ahead_53 : decode cX12_ahead 53 = .ok (.putfield 20, 3) := by decide +kernel
theorem dX12_ahead_56 : decode cX12_ahead 56 = .ok (.aload_n 0, 1) := by decide +kernel
theorem dX12_ahead_57 : decode cX12_ahead 57 = .ok (.iconst (-1), 1) := by decide +kernel
theorem dX12_ahead_58 : decode cX12_ahead 58 = .ok (.putfield 48, 3) := by decide +kernel
theorem dX12_ahead_61 : decode cX12_ahead 61 = .ok (.iload_n 1, 1) := by decide +kernel
theorem dX12_ahead_62 : decode cX12_ahead 62 = .ok (.aload_n 0, 1) := by decide +kernel
theorem dX12_ahead_63 : decode cX12_ahead 63 = .ok (.getfield 17, 3) := by decide +kernel
theorem dX12_ahead_66 : decode cX12_ahead 66 = .ok (.if_icmp .lt 4, 3) := by decide +kernel
theorem dX12_ahead_69 : decode cX12_ahead 69 = .ok (.return_, 1) := by decide +kernel
theorem dX12_ahead_70 : decode cX12_ahead 70 = .ok (.aload_n 0, 1) := by decide +kernel
theorem dX12_ahead_71 : decode cX12_ahead 71 = .ok (.getfield 7, 3) := by decide +kernel
theorem dX12_ahead_74 : decode cX12_ahead 74 = .ok (.iload_n 1, 1) := by decide +kernel
theorem dX12_ahead_75 : decode cX12_ahead 75 = .ok (.iaload, 1) := by decide +kernel
theorem dX12_ahead_76 : decode cX12_ahead 76 = .ok (.invokestatic 259, 3) := by decide +kernel
theorem dX12_ahead_79 : decode cX12_ahead 79 = .ok (.istore_n 2, 1) := by decide +kernel
theorem dX12_ahead_80 : decode cX12_ahead 80 = .ok (.aload_n 0, 1) := by decide +kernel
theorem dX12_ahead_81 : decode cX12_ahead 81 = .ok (.getfield 7, 3) := by decide +kernel
theorem dX12_ahead_84 : decode cX12_ahead 84 = .ok (.iload_n 1, 1) := by decide +kernel
theorem dX12_ahead_85 : decode cX12_ahead 85 = .ok (.iaload, 1) := by decide +kernel
theorem dX12_ahead_86 : decode cX12_ahead 86 = .ok (.invokestatic 263, 3) := by decide +kernel
theorem dX12_ahead_89 : decode cX12_ahead 89 = .ok (.istore_n 3, 1) := by decide +kernel
theorem dX12_ahead_90 : decode cX12_ahead 90 = .ok (.iload_n 2, 1) := by decide +kernel
theorem dX12_ahead_91 : decode cX12_ahead 91 = .ok (.ifCond .ne 7, 3) := by decide +kernel
theorem dX12_ahead_94 : decode cX12_ahead 94 = .ok (.iload_n 3, 1) := by decide +kernel
theorem dX12_ahead_95 : decode cX12_ahead 95 = .ok (.ifCond .eq 40, 3) := by decide +kernel
theorem dX12_ahead_98 : decode cX12_ahead 98 = .ok (.iload_n 1, 1) := by decide +kernel
theorem dX12_ahead_99 : decode cX12_ahead 99 = .ok (.ifCond .le 36, 3) := by decide +kernel
theorem dX12_ahead_102 : decode cX12_ahead 102 = .ok (.aload_n 0, 1) := by decide +kernel
theorem dX12_ahead_103 : decode cX12_ahead 103 = .ok (.getfield 7, 3) := by decide +kernel
theorem dX12_ahead_106 : decode cX12_ahead 106 = .ok (.iload_n 1, 1) := by decide +kernel
theorem dX12_ahead_107 : decode cX12_ahead 107 = .ok (.iconst 1, 1) := by decide +kernel
theorem dX12_ahead_108 : decode cX12_ahead 108 = .ok (.isub, 1) := by decide +kernel
theorem dX12_ahead_109 : decode cX12_ahead 109 = .ok (.iaload, 1) := by decide +kernel
theorem dX12_ahead_110 : decode cX12_ahead 110 = .ok (.invokestatic 259, 3) := by decide +kernel
theorem dX12_ahead_113 : decode cX12_ahead 113 = .ok (.ifCond .ne 17, 3) := by decide +kernel
theorem dX12_ahead_116 : decode cX12_ahead 116 = .ok (.aload_n 0, 1) := by decide +kernel
theorem dX12_ahead_117 : decode cX12_ahead 117 = .ok (.getfield 7, 3) := by decide +kernel
theorem dX12_ahead_120 : decode cX12_ahead 120 = .ok (.iload_n 1, 1) := by decide +kernel
theorem dX12_ahead_121 : decode cX12_ahead 121 = .ok (.iconst 1, 1) := by decide +kernel
theorem dX12_ahead_122 : decode cX12_ahead 122 = .ok (.isub, 1) := by decide +kernel
theorem dX12_ahead_123 : decode cX12_ahead 123 = .ok (.iaload, 1) := by decide +kernel
theorem dX12_ahead_124 : decode cX12_ahead 124 = .ok (.invokestatic 263, 3) := by decide +kernel
theorem dX12_ahead_127 : decode cX12_ahead 127 = .ok (.ifCond .eq 8, 3) := by decide +kernel
theorem dX12_ahead_130 : decode cX12_ahead 130 = .ok (.aload_n 0, 1) := by decide +kernel
theorem dX12_ahead_131 : decode cX12_ahead 131 = .ok (.iload_n 1, 1) := by decide +kernel
theorem dX12_ahead_132 : decode cX12_ahead 132 = .ok (.putfield 48, 3) := by decide +kernel
theorem dX12_ahead_135 : decode cX12_ahead 135 = .ok (.aload_n 0, 1) := by decide +kernel
theorem dX12_ahead_136 : decode cX12_ahead 136 = .ok (.iconst 0, 1) := by decide +kernel
theorem dX12_ahead_137 : decode cX12_ahead 137 = .ok (.putfield 29, 3) := by decide +kernel
theorem dX12_ahead_140 : decode cX12_ahead 140 = .ok (.aload_n 0, 1) := by decide +kernel
theorem dX12_ahead_141 : decode cX12_ahead 141 = .ok (.lconst 0, 1) := by decide +kernel
theorem dX12_ahead_142 : decode cX12_ahead 142 = .ok (.putfield 32, 3) := by decide +kernel
theorem dX12_ahead_145 : decode cX12_ahead 145 = .ok (.aload_n 0, 1) := by decide +kernel
theorem dX12_ahead_146 : decode cX12_ahead 146 = .ok (.iconst 3, 1) := by decide +kernel
theorem dX12_ahead_147 : decode cX12_ahead 147 = .ok (.putfield 20, 3) := by decide +kernel
theorem dX12_ahead_150 : decode cX12_ahead 150 = .ok (.aload_n 0, 1) := by decide +kernel
theorem dX12_ahead_151 : decode cX12_ahead 151 = .ok (.iload_n 1, 1) := by decide +kernel
theorem dX12_ahead_152 : decode cX12_ahead 152 = .ok (.iconst 1, 1) := by decide +kernel
theorem dX12_ahead_153 : decode cX12_ahead 153 = .ok (.iadd, 1) := by decide +kernel
theorem dX12_ahead_154 : decode cX12_ahead 154 = .ok (.putfield 26, 3) := by decide +kernel
theorem dX12_ahead_157 : decode cX12_ahead 157 = .ok (.iload_n 2, 1) := by decide +kernel
theorem dX12_ahead_158 : decode cX12_ahead 158 = .ok (.ifCond .ne 18, 3) := by decide +kernel
theorem dX12_ahead_161 : decode cX12_ahead 161 = .ok (.iload_n 3, 1) := by decide +kernel
theorem dX12_ahead_162 : decode cX12_ahead 162 = .ok (.ifCond .ne 14, 3) := by decide +kernel
theorem dX12_ahead_165 : decode cX12_ahead 165 = .ok (.aload_n 0, 1) := by decide +kernel
theorem dX12_ahead_166 : decode cX12_ahead 166 = .ok (.aload_n 0, 1) := by decide +kernel
theorem dX12_ahead_167 : decode cX12_ahead 167 = .ok (.getfield 7, 3) := by decide +kernel
theorem dX12_ahead_170 : decode cX12_ahead 170 = .ok (.iload_n 1, 1) := by decide +kernel
theorem dX12_ahead_171 : decode cX12_ahead 171 = .ok (.iaload, 1) := by decide +kernel
theorem dX12_ahead_172 : decode cX12_ahead 172 = .ok (.putfield 29, 3) := by decide +kernel
theorem dX12_ahead_175 : decode cX12_ahead 175 = .ok (.return_, 1) := by decide +kernel
theorem dX12_ahead_176 : decode cX12_ahead 176 = .ok (.aload_n 0, 1) := by decide +kernel
theorem dX12_ahead_177 : decode cX12_ahead 177 = .ok (.iload_n 2, 1) := by decide +kernel
theorem dX12_ahead_178 : decode cX12_ahead 178 = .ok (.ifCond .eq 7, 3) := by decide +kernel
theorem dX12_ahead_181 : decode cX12_ahead 181 = .ok (.iconst 1, 1) := by decide +kernel
theorem dX12_ahead_182 : decode cX12_ahead 182 = .ok (.goto 4, 3) := by decide +kernel
theorem dX12_ahead_185 : decode cX12_ahead 185 = .ok (.iconst 2, 1) := by decide +kernel
theorem dX12_ahead_186 : decode cX12_ahead 186 = .ok (.putfield 20, 3) := by decide +kernel
theorem dX12_ahead_189 : decode cX12_ahead 189 = .ok (.iload_n 2, 1) := by decide +kernel
theorem dX12_ahead_190 : decode cX12_ahead 190 = .ok (.ifCond .eq 8, 3) := by decide +kernel
theorem dX12_ahead_193 : decode cX12_ahead 193 = .ok (.bipush 6, 2) := by decide +kernel
theorem dX12_ahead_195 : decode cX12_ahead 195 = .ok (.goto 4, 3) := by decide +kernel
theorem dX12_ahead_198 : decode cX12_ahead 198 = .ok (.iconst 4, 1) := by decide +kernel
theorem dX12_ahead_199 : decode cX12_ahead 199 = .ok (.istore 4, 2) := by decide +kernel
theorem dX12_ahead_201 : decode cX12_ahead 201 = .ok (.iconst 0, 1) := by decide +kernel
theorem dX12_ahead_202 : decode cX12_ahead 202 = .ok (.istore 5, 2) := by decide +kernel
theorem dX12_ahead_204 : decode cX12_ahead 204 = .ok (.iload_n 1, 1) := by decide +kernel
theorem dX12_ahead_205 : decode cX12_ahead 205 = .ok (.aload_n 0, 1) := by decide +kernel
theorem dX12_ahead_206 : decode cX12_ahead 206 = .ok (.getfield 17, 3) := by decide +kernel
theorem dX12_ahead_209 : decode cX12_ahead 209 = .ok (.if_icmp .ge 125, 3) := by decide +kernel
theorem dX12_ahead_212 : decode cX12_ahead 212 = .ok (.iload_n 2, 1) := by decide +kernel
theorem dX12_ahead_213 : decode cX12_ahead 213 = .ok (.ifCond .eq 18, 3) := by decide +kernel
theorem dX12_ahead_216 : decode cX12_ahead 216 = .ok (.aload_n 0, 1) := by decide +kernel
theorem dX12_ahead_217 : decode cX12_ahead 217 = .ok (.getfield 7, 3) := by decide +kernel
theorem dX12_ahead_220 : decode cX12_ahead 220 = .ok (.iload_n 1, 1) := by decide +kernel
theorem dX12_ahead_221 : decode cX12_ahead 221 = .ok (.iaload, 1) := by decide +kernel
theorem dX12_ahead_222 : decode cX12_ahead 222 = .ok (.invokestatic 259, 3) := by decide +kernel
theorem dX12_ahead_225 : decode cX12_ahead 225 = .ok (.ifCond .eq 109, 3) := by decide +kernel
theorem dX12_ahead_228 : decode cX12_ahead 228 = .ok (.goto 15, 3) := by decide +kernel
theorem dX12_ahead_231 : decode cX12_ahead 231 = .ok (.aload_n 0, 1) := by decide +kernel
theorem dX12_ahead_232 : decode cX12_ahead 232 = .ok (.getfield 7, 3) := by decide +kernel
theorem dX12_ahead_235 : decode cX12_ahead 235 = .ok (.iload_n 1, 1) := by decide +kernel
theorem dX12_ahead_236 : decode cX12_ahead 236 = .ok (.iaload, 1) := by decide +kernel
theorem dX12_ahead_237 : decode cX12_ahead 237 = .ok (.invokestatic 263, 3) := by decide +kernel
theorem dX12_ahead_240 : decode cX12_ahead 240 = .ok (.ifCond .eq 94, 3) := by decide +kernel
theorem dX12_ahead_243 : decode cX12_ahead 243 = .ok (.iload 5, 2) := by decide +kernel
theorem dX12_ahead_245 : decode cX12_ahead 245 = .ok (.iload 4, 2) := by decide +kernel
theorem dX12_ahead_247 : decode cX12_ahead 247 = .ok (.if_icmp .ne 16, 3) := by decide +kernel
theorem dX12_ahead_250 : decode cX12_ahead 250 = .ok (.aload_n 0, 1) := by decide +kernel
theorem dX12_ahead_251 : decode cX12_ahead 251 = .ok (.getfield 48, 3) := by decide +kernel
theorem dX12_ahead_254 : decode cX12_ahead 254 = .ok (.iconst (-1), 1) := by decide +kernel
theorem dX12_ahead_255 : decode cX12_ahead 255 = .ok (.if_icmp .ne 8, 3) := by decide +kernel
theorem dX12_ahead_258 : decode cX12_ahead 258 = .ok (.aload_n 0, 1) := by decide +kernel
theorem dX12_ahead_259 : decode cX12_ahead 259 = .ok (.iload_n 1, 1) := by decide +kernel
theorem dX12_ahead_260 : decode cX12_ahead 260 = .ok (.putfield 48, 3) := by decide +kernel
theorem dX12_ahead_263 : decode cX12_ahead 263 = .ok (.iload 5, 2) := by decide +kernel
theorem dX12_ahead_265 : decode cX12_ahead 265 = .ok (.iload 4, 2) := by decide +kernel
theorem dX12_ahead_267 : decode cX12_ahead 267 = .ok (.if_icmp .ge 26, 3) := by decide +kernel
theorem dX12_ahead_270 : decode cX12_ahead 270 = .ok (.iload_n 2, 1) := by decide +kernel
theorem dX12_ahead_271 : decode cX12_ahead 271 = .ok (.ifCond .eq 22, 3) := by decide +kernel
theorem dX12_ahead_274 : decode cX12_ahead 274 = .ok (.aload_n 0, 1) := by decide +kernel
theorem dX12_ahead_275 : decode cX12_ahead 275 = .ok (.aload_n 0, 1) := by decide +kernel
theorem dX12_ahead_276 : decode cX12_ahead 276 = .ok (.getfield 32, 3) := by decide +kernel
theorem dX12_ahead_279 : decode cX12_ahead 279 = .ok (.bipush 8, 2) := by decide +kernel
theorem dX12_ahead_281 : decode cX12_ahead 281 = .ok (.lshl, 1) := by decide +kernel
theorem dX12_ahead_282 : decode cX12_ahead 282 = .ok (.aload_n 0, 1) := by decide +kernel
theorem dX12_ahead_283 : decode cX12_ahead 283 = .ok (.getfield 7, 3) := by decide +kernel
theorem dX12_ahead_286 : decode cX12_ahead 286 = .ok (.iload_n 1, 1) := by decide +kernel
theorem dX12_ahead_287 : decode cX12_ahead 287 = .ok (.iaload, 1) := by decide +kernel
theorem dX12_ahead_288 : decode cX12_ahead 288 = .ok (.i2l, 1) := by decide +kernel
theorem dX12_ahead_289 : decode cX12_ahead 289 = .ok (.lor, 1) := by decide +kernel
theorem dX12_ahead_290 : decode cX12_ahead 290 = .ok (.putfield 32, 3) := by decide +kernel
theorem dX12_ahead_293 : decode cX12_ahead 293 = .ok (.iload 5, 2) := by decide +kernel
theorem dX12_ahead_295 : decode cX12_ahead 295 = .ok (.iload 4, 2) := by decide +kernel
theorem dX12_ahead_297 : decode cX12_ahead 297 = .ok (.if_icmp .ge 28, 3) := by decide +kernel
theorem dX12_ahead_300 : decode cX12_ahead 300 = .ok (.iload_n 3, 1) := by decide +kernel
theorem dX12_ahead_301 : decode cX12_ahead 301 = .ok (.ifCond .eq 24, 3) := by decide +kernel
theorem dX12_ahead_304 : decode cX12_ahead 304 = .ok (.aload_n 0, 1) := by decide +kernel
theorem dX12_ahead_305 : decode cX12_ahead 305 = .ok (.bipush 10, 2) := by decide +kernel
theorem dX12_ahead_307 : decode cX12_ahead 307 = .ok (.aload_n 0, 1) := by decide +kernel
theorem dX12_ahead_308 : decode cX12_ahead 308 = .ok (.getfield 29, 3) := by decide +kernel
theorem dX12_ahead_311 : decode cX12_ahead 311 = .ok (.imul, 1) := by decide +kernel
theorem dX12_ahead_312 : decode cX12_ahead 312 = .ok (.aload_n 0, 1) := by decide +kernel
theorem dX12_ahead_313 : decode cX12_ahead 313 = .ok (.getfield 7, 3) := by decide +kernel
theorem dX12_ahead_316 : decode cX12_ahead 316 = .ok (.iload_n 1, 1) := by decide +kernel
theorem dX12_ahead_317 : decode cX12_ahead 317 = .ok (.iaload, 1) := by decide +kernel
theorem dX12_ahead_318 : decode cX12_ahead 318 = .ok (.iadd, 1) := by decide +kernel
theorem dX12_ahead_319 : decode cX12_ahead 319 = .ok (.bipush 48, 2) := by decide +kernel
theorem dX12_ahead_321 : decode cX12_ahead 321 = .ok (.isub, 1) := by decide +kernel
theorem dX12_ahead_322 : decode cX12_ahead 322 = .ok (.putfield 29, 3) := by decide +kernel
theorem dX12_ahead_325 : decode cX12_ahead 325 = .ok (.iinc 5 1, 3) := by decide +kernel
theorem dX12_ahead_328 : decode cX12_ahead 328 = .ok (.iinc 1 1, 3) := by decide +kernel
theorem dX12_ahead_331 : decode cX12_ahead 331 = .ok (.goto (-127), 3) := by decide +kernel
theorem dX12_ahead_334 : decode cX12_ahead 334 = .ok (.aload_n 0, 1) := by decide +kernel
theorem dX12_ahead_335 : decode cX12_ahead 335 = .ok (.iload_n 1, 1) := by decide +kernel
theorem dX12_ahead_336 : decode cX12_ahead 336 = .ok (.putfield 26, 3) := by decide +kernel
theorem dX12_ahead_339 : decode cX12_ahead 339 = .ok (.return_, 1) := by decide +kernel
theorem dX12_isSign_0 : decode cX12_isSign 0 = .ok (.aload_n 0, 1) := by decide +kernel
theorem dX12_isSign_1 : decode cX12_isSign 1 = .ok (.getfield 20, 3) := by decide +kernel
theorem dX12_isSign_4 : decode cX12_isSign 4 = .ok (.iconst 3, 1) := by decide +kernel
theorem dX12_isSign_5 : decode cX12_isSign 5 = .ok (.if_icmp .ne 15, 3) := by decide +kernel
theorem dX12_isSign_8 : decode cX12_isSign 8 = .ok (.aload_n 0, 1) := by decide +kernel
theorem dX12_isSign_9 : decode cX12_isSign 9 = .ok (.getfield 29, 3) := by decide +kernel
theorem dX12_isSign_12 : decode cX12_isSign 12 = .ok (.iload_n 1, 1) := by decide +kernel
theorem dX12_isSign_13 : decode cX12_isSign 13 = .ok (.if_icmp .ne 7, 3) := by decide +kernel
theorem dX12_isSign_16 : decode cX12_isSign 16 = .ok (.iconst 1, 1) := by decide +kernel
theorem dX12_isSign_17 : decode cX12_isSign 17 = .ok (.goto 4, 3) := by decide +kernel
theorem dX12_isSign_20 : decode cX12_isSign 20 = .ok (.iconst 0, 1) := by decide +kernel
theorem dX12_isSign_21 : decode cX12_isSign 21 = .ok (.ireturn, 1) := by decide +kernel
theorem dX12_isWord_0 : decode cX12_isWord 0 = .ok (.aload_n 0, 1) := by decide +kernel
theorem dX12_isWord_1 : decode cX12_isWord 1 = .ok (.getfield 20, 3) := by decide +kernel
theorem dX12_isWord_4 : decode cX12_isWord 4 = .ok (.iconst 1, 1) := by decide +kernel
theorem dX12_isWord_5 : decode cX12_isWord 5 = .ok (.if_icmp .ne 16, 3) := by decide +kernel
theorem dX12_isWord_8 : decode cX12_isWord 8 = .ok (.aload_n 0, 1) := by decide +kernel
theorem dX12_isWord_9 : decode cX12_isWord 9 = .ok (.getfield 32, 3) := by decide +kernel
theorem dX12_isWord_12 : decode cX12_isWord 12 = .ok (.lload_n 1, 1) := by decide +kernel
theorem dX12_isWord_13 : decode cX12_isWord 13 = .ok (.lcmp, 1) := by decide +kernel
theorem dX12_isWord_14 : decode cX12_isWord 14 = .ok (.ifCond .ne 7, 3) := by decide +kernel
theorem dX12_isWord_17 : decode cX12_isWord 17 = .ok (.iconst 1, 1) := by decide +kernel
theorem dX12_isWord_18 : decode cX12_isWord 18 = .ok (.goto 4, 3) := by decide +kernel
theorem dX12_isWord_21 : decode cX12_isWord 21 = .ok (.iconst 0, 1) := by decide +kernel
theorem dX12_isWord_22 : decode cX12_isWord 22 = .ok (.ireturn, 1) := by decide +kernel
theorem dX12_must_0 : decode cX12_must 0 = .ok (.aload_n 0, 1) := by decide +kernel
theorem dX12_must_1 : decode cX12_must 1 = .ok (.invokevirtual 266, 3) := by decide +kernel
theorem dX12_must_4 : decode cX12_must 4 = .ok (.aload_n 0, 1) := by decide +kernel
theorem dX12_must_5 : decode cX12_must 5 = .ok (.iload_n 1, 1) := by decide +kernel
theorem dX12_must_6 : decode cX12_must 6 = .ok (.invokevirtual 269, 3) := by decide +kernel
theorem dX12_must_9 : decode cX12_must 9 = .ok (.ifCond .ne 12, 3) := by decide +kernel
theorem dX12_must_12 : decode cX12_must 12 = .ok (.aload_n 0, 1) := by decide +kernel
theorem dX12_must_13 : decode cX12_must 13 = .ok (.iconst 1, 1) := by decide +kernel
theorem dX12_must_14 : decode cX12_must 14 = .ok (.aload_n 0, 1) := by decide +kernel
theorem dX12_must_15 : decode cX12_must 15 = .ok (.getfield 23, 3) := by decide +kernel
theorem dX12_must_18 : decode cX12_must 18 = .ok (.invokevirtual 255, 3) := by decide +kernel
theorem dX12_must_21 : decode cX12_must 21 = .ok (.aload_n 0, 1) := by decide +kernel
theorem dX12_must_22 : decode cX12_must 22 = .ok (.getfield 36, 3) := by decide +kernel
theorem dX12_must_25 : decode cX12_must 25 = .ok (.ifCond .ne 7, 3) := by decide +kernel
theorem dX12_must_28 : decode cX12_must 28 = .ok (.aload_n 0, 1) := by decide +kernel
theorem dX12_must_29 : decode cX12_must 29 = .ok (.invokevirtual 272, 3) := by decide +kernel
theorem dX12_must_32 : decode cX12_must 32 = .ok (.return_, 1) := by decide +kernel
theorem dX12_isOwn_0 : decode cX12_isOwn 0 = .ok (.lload_n 1, 1) := by decide +kernel
theorem dX12_isOwn_1 : decode cX12_isOwn 1 = .ok (.ldc2_w 275, 3) := by decide +kernel
theorem dX12_isOwn_4 : decode cX12_isOwn 4 = .ok (.lcmp, 1) := by decide +kernel
theorem dX12_isOwn_5 : decode cX12_isOwn 5 = .ok (.ifCond .eq 35, 3) := by decide +kernel
theorem dX12_isOwn_8 : decode cX12_isOwn 8 = .ok (.lload_n 1, 1) := by decide +kernel
theorem dX12_isOwn_9 : decode cX12_isOwn 9 = .ok (.ldc2_w 277, 3) := by decide +kernel
theorem dX12_isOwn_12 : decode cX12_isOwn 12 = .ok (.lcmp, 1) := by decide +kernel
theorem dX12_isOwn_13 : decode cX12_isOwn 13 = .ok (.ifCond .eq 27, 3) := by decide +kernel
theorem dX12_isOwn_16 : decode cX12_isOwn 16 = .ok (.lload_n 1, 1) := by decide +kernel
theorem dX12_isOwn_17 : decode cX12_isOwn 17 = .ok (.ldc2_w 279, 3) := by decide +kernel
theorem dX12_isOwn_20 : decode cX12_isOwn 20 = .ok (.lcmp, 1) := by decide +kernel
theorem dX12_isOwn_21 : decode cX12_isOwn 21 = .ok (.ifCond .eq 19, 3) := by decide +kernel
theorem dX12_isOwn_24 : decode cX12_isOwn 24 = .ok (.lload_n 1, 1) := by decide +kernel
theorem dX12_isOwn_25 : decode cX12_isOwn 25 = .ok (.ldc2_w 281, 3) := by decide +kernel
theorem dX12_isOwn_28 : decode cX12_isOwn 28 = .ok (.lcmp, 1) := by decide +kernel
theorem dX12_isOwn_29 : decode cX12_isOwn 29 = .ok (.ifCond .eq 11, 3) := by decide +kernel
theorem dX12_isOwn_32 : decode cX12_isOwn 32 = .ok (.lload_n 1, 1) := by decide +kernel
theorem dX12_isOwn_33 : decode cX12_isOwn 33 = .ok (.ldc2_w 283, 3) := by decide +kernel
theorem dX12_isOwn_36 : decode cX12_isOwn 36 = .ok (.lcmp, 1) := by decide +kernel
theorem dX12_isOwn_37 : decode cX12_isOwn 37 = .ok (.ifCond .ne 5, 3) := by decide +kernel
theorem dX12_isOwn_40 : decode cX12_isOwn 40 = .ok (.iconst 1, 1) := by decide +kernel
theorem dX12_isOwn_41 : decode cX12_isOwn 41 = .ok (.ireturn, 1) := by decide +kernel
theorem dX12_isOwn_42 : decode cX12_isOwn 42 = .ok (.lload_n 1, 1) := by decide +kernel
theorem dX12_isOwn_43 : decode cX12_isOwn 43 = .ok (.ldc2_w 285, 3) := by decide +kernel
theorem dX12_isOwn_46 : decode cX12_isOwn 46 = .ok (.lcmp, 1) := by decide +kernel
theorem dX12_isOwn_47 : decode cX12_isOwn 47 = .ok (.ifCond .eq 35, 3) := by decide +kernel
theorem dX12_isOwn_50 : decode cX12_isOwn 50 = .ok (.lload_n 1, 1) := by decide +kernel
theorem dX12_isOwn_51 : decode cX12_isOwn 51 = .ok (.ldc2_w 287, 3) := by decide +kernel
theorem dX12_isOwn_54 : decode cX12_isOwn 54 = .ok (.lcmp, 1) := by decide +kernel
theorem dX12_isOwn_55 : decode cX12_isOwn 55 = .ok (.ifCond .eq 27, 3) := by decide +kernel
theorem dX12_isOwn_58 : decode cX12_isOwn 58 = .ok (.lload_n 1, 1) := by decide +kernel
theorem dX12_isOwn_59 : decode cX12_isOwn 59 = .ok (.ldc2_w 289, 3) := by decide +kernel
theorem dX12_isOwn_62 : decode cX12_isOwn 62 = .ok (.lcmp, 1) := by decide +kernel
theorem dX12_isOwn_63 : decode cX12_isOwn 63 = .ok (.ifCond .eq 19, 3) := by decide +kernel
theorem dX12_isOwn_66 : decode cX12_isOwn 66 = .ok (.lload_n 1, 1) := by decide +kernel
theorem dX12_isOwn_67 : decode cX12_isOwn 67 = .ok (.ldc2_w 291, 3) := by decide +kernel
theorem dX12_isOwn_70 : decode cX12_isOwn 70 = .ok (.lcmp, 1) := by decide +kernel
theorem dX12_isOwn_71 : decode cX12_isOwn 71 = .ok (.ifCond .eq 11, 3) := by decide +kernel
theorem dX12_isOwn_74 : decode cX12_isOwn 74 = .ok (.lload_n 1, 1) := by decide +kernel
theorem dX12_isOwn_75 : decode cX12_isOwn 75 = .ok (.ldc2_w 293, 3) := by decide +kernel
theorem dX12_isOwn_78 : decode cX12_isOwn 78 = .ok (.lcmp, 1) := by decide +kernel
theorem dX12_isOwn_79 : decode cX12_isOwn 79 = .ok (.ifCond .ne 5, 3) := by decide +kernel
theorem dX12_isOwn_82 : decode cX12_isOwn 82 = .ok (.iconst 1, 1) := by decide +kernel
theorem dX12_isOwn_83 : decode cX12_isOwn 83 = .ok (.ireturn, 1) := by decide +kernel
theorem dX12_isOwn_84 : decode cX12_isOwn 84 = .ok (.lload_n 1, 1) := by decide +kernel
theorem dX12_isOwn_85 : decode cX12_isOwn 85 = .ok (.ldc2_w 295, 3) := by decide +kernel
theorem dX12_isOwn_88 : decode cX12_isOwn 88 = .ok (.lcmp, 1) := by decide +kernel
theorem dX12_isOwn_89 : decode cX12_isOwn 89 = .ok (.ifCond .eq 35, 3) := by decide +kernel
theorem dX12_isOwn_92 : decode cX12_isOwn 92 = .ok (.lload_n 1, 1) := by decide +kernel
theorem dX12_isOwn_93 : decode cX12_isOwn 93 = .ok (.ldc2_w 297, 3) := by decide +kernel
theorem dX12_isOwn_96 : decode cX12_isOwn 96 = .ok (.lcmp, 1) := by decide +kernel
theorem dX12_isOwn_97 : decode cX12_isOwn 97 = .ok (.ifCond .eq 27, 3) := by decide +kernel
theorem dX12_isOwn_100 : decode cX12_isOwn 100 = .ok (.lload_n 1, 1) := by decide +kernel
theorem dX12_isOwn_101 : decode cX12_isOwn 101 = .ok (.ldc2_w 299, 3) := by decide +kernel
theorem dX12_isOwn_104 : decode cX12_isOwn 104 = .ok (.lcmp, 1) := by decide +kernel
theorem dX12_isOwn_105 : decode cX12_isOwn 105 = .ok (.ifCond .eq 19, 3) := by decide +kernel
theorem dX12_isOwn_108 : decode cX12_isOwn 108 = .ok (.lload_n 1, 1) := by decide +kernel
theorem dX12_isOwn_109 : decode cX12_isOwn 109 = .ok (.ldc2_w 301, 3) := by decide +kernel
theorem dX12_isOwn_112 : decode cX12_isOwn 112 = .ok (.lcmp, 1) := by decide +kernel
theorem dX12_isOwn_113 : decode cX12_isOwn 113 = .ok (.ifCond .eq 11, 3) := by decide +kernel
theorem dX12_isOwn_116 : decode cX12_isOwn 116 = .ok (.lload_n 1, 1) := by decide +kernel
theorem dX12_isOwn_117 : decode cX12_isOwn 117 = .ok (.ldc2_w 303, 3) := by decide +kernel
theorem dX12_isOwn_120 : decode cX12_isOwn 120 = .ok (.lcmp, 1) := by decide +kernel
theorem dX12_isOwn_121 : decode cX12_isOwn 121 = .ok (.ifCond .ne 5, 3) := by decide +kernel
theorem dX12_isOwn_124 : decode cX12_isOwn 124 = .ok (.iconst 1, 1) := by decide +kernel
theorem dX12_isOwn_125 : decode cX12_isOwn 125 = .ok (.ireturn, 1) := by decide +kernel
theorem dX12_isOwn_126 : decode cX12_isOwn 126 = .ok (.lload_n 1, 1) := by decide +kernel
theorem dX12_isOwn_127 : decode cX12_isOwn 127 = .ok (.ldc2_w 305, 3) := by decide +kernel
theorem dX12_isOwn_130 : decode cX12_isOwn 130 = .ok (.lcmp, 1) := by decide +kernel
theorem dX12_isOwn_131 : decode cX12_isOwn 131 = .ok (.ifCond .eq 35, 3) := by decide +kernel
theorem dX12_isOwn_134 : decode cX12_isOwn 134 = .ok (.lload_n 1, 1) := by decide +kernel
theorem dX12_isOwn_135 : decode cX12_isOwn 135 = .ok (.ldc2_w 307, 3) := by decide +kernel
theorem dX12_isOwn_138 : decode cX12_isOwn 138 = .ok (.lcmp, 1) := by decide +kernel
theorem dX12_isOwn_139 : decode cX12_isOwn 139 = .ok (.ifCond .eq 27, 3) := by decide +kernel
theorem dX12_isOwn_142 : decode cX12_isOwn 142 = .ok (.lload_n 1, 1) := by decide +kernel
theorem dX12_isOwn_143 : decode cX12_isOwn 143 = .ok (.ldc2_w 309, 3) := by decide +kernel
theorem dX12_isOwn_146 : decode cX12_isOwn 146 = .ok (.lcmp, 1) := by decide +kernel
theorem dX12_isOwn_147 : decode cX12_isOwn 147 = .ok (.ifCond .eq 19, 3) := by decide +kernel
theorem dX12_isOwn_150 : decode cX12_isOwn 150 = .ok (.lload_n 1, 1) := by decide +kernel
theorem dX12_isOwn_151 : decode cX12_isOwn 151 = .ok (.ldc2_w 311, 3) := by decide +kernel
theorem dX12_isOwn_154 : decode cX12_isOwn 154 = .ok (.lcmp, 1) := by decide +kernel
theorem dX12_isOwn_155 : decode cX12_isOwn 155 = .ok (.ifCond .eq 11, 3) := by decide +kernel
theorem dX12_isOwn_158 : decode cX12_isOwn 158 = .ok (.lload_n 1, 1) := by decide +kernel
theorem dX12_isOwn_159 : decode cX12_isOwn 159 = .ok (.ldc2_w 313, 3) := by decide +kernel
theorem dX12_isOwn_162 : decode cX12_isOwn 162 = .ok (.lcmp, 1) := by decide +kernel
theorem dX12_isOwn_163 : decode cX12_isOwn 163 = .ok (.ifCond .ne 5, 3) := by decide +kernel
theorem dX12_isOwn_166 : decode cX12_isOwn 166 = .ok (.iconst 1, 1) := by decide +kernel
theorem dX12_isOwn_167 : decode cX12_isOwn 167 = .ok (.ireturn, 1) := by decide +kernel
theorem dX12_isOwn_168 : decode cX12_isOwn 168 = .ok (.lload_n 1, 1) := by decide +kernel
theorem dX12_isOwn_169 : decode cX12_isOwn 169 = .ok (.ldc2_w 315, 3) := by decide +kernel
theorem dX12_isOwn_172 : decode cX12_isOwn 172 = .ok (.lcmp, 1) := by decide +kernel
theorem dX12_isOwn_173 : decode cX12_isOwn 173 = .ok (.ifCond .eq 27, 3) := by decide +kernel
theorem dX12_isOwn_176 : decode cX12_isOwn 176 = .ok (.lload_n 1, 1) := by decide +kernel
theorem dX12_isOwn_177 : decode cX12_isOwn 177 = .ok (.ldc2_w 317, 3) := by decide +kernel
theorem dX12_isOwn_180 : decode cX12_isOwn 180 = .ok (.lcmp, 1) := by decide +kernel
theorem dX12_isOwn_181 : decode cX12_isOwn 181 = .ok (.ifCond .eq 19, 3) := by decide +kernel
theorem dX12_isOwn_184 : decode cX12_isOwn 184 = .ok (.lload_n 1, 1) := by decide +kernel
theorem dX12_isOwn_185 : decode cX12_isOwn 185 = .ok (.ldc2_w 319, 3) := by decide +kernel
theorem dX12_isOwn_188 : decode cX12_isOwn 188 = .ok (.lcmp, 1) := by decide +kernel
theorem dX12_isOwn_189 : decode cX12_isOwn 189 = .ok (.ifCond .eq 11, 3) := by decide +kernel
theorem dX12_isOwn_192 : decode cX12_isOwn 192 = .ok (.lload_n 1, 1) := by decide +kernel
theorem dX12_isOwn_193 : decode cX12_isOwn 193 = .ok (.ldc2_w 321, 3) := by decide +kernel
theorem dX12_isOwn_196 : decode cX12_isOwn 196 = .ok (.lcmp, 1) := by decide +kernel
theorem dX12_isOwn_197 : decode cX12_isOwn 197 = .ok (.ifCond .ne 5, 3) := by decide +kernel
theorem dX12_isOwn_200 : decode cX12_isOwn 200 = .ok (.iconst 1, 1) := by decide +kernel
theorem dX12_isOwn_201 : decode cX12_isOwn 201 = .ok (.ireturn, 1) := by decide +kernel
theorem dX12_isOwn_202 : decode cX12_isOwn 202 = .ok (.iconst 0, 1) := by decide +kernel
theorem dX12_isOwn_203 : decode cX12_isOwn 203 = .ok (.ireturn, 1) := by decide +kernel
theorem dX12_named_0 : decode cX12_named 0 = .ok (.iconst 0, 1) := by decide +kernel
theorem dX12_named_1 : decode cX12_named 1 = .ok (.istore_n 3, 1) := by decide +kernel
theorem dX12_named_2 : decode cX12_named 2 = .ok (.iload_n 3, 1) := by decide +kernel
theorem dX12_named_3 : decode cX12_named 3 = .ok (.aload_n 0, 1) := by decide +kernel
theorem dX12_named_4 : decode cX12_named 4 = .ok (.getfield 63, 3) := by decide +kernel
theorem dX12_named_7 : decode cX12_named 7 = .ok (.aload_n 0, 1) := by decide +kernel
theorem dX12_named_8 : decode cX12_named 8 = .ok (.getfield 100, 3) := by decide +kernel
theorem dX12_named_11 : decode cX12_named 11 = .ok (.iaload, 1) := by decide +kernel
theorem dX12_named_12 : decode cX12_named 12 = .ok (.if_icmp .ge 30, 3) := by decide +kernel
theorem dX12_named_15 : decode cX12_named 15 = .ok (.aload_n 0, 1) := by decide +kernel
theorem dX12_named_16 : decode cX12_named 16 = .ok (.getfield 93, 3) := by decide +kernel
theorem dX12_named_19 : decode cX12_named 19 = .ok (.bipush 6, 2) := by decide +kernel
theorem dX12_named_21 : decode cX12_named 21 = .ok (.aload_n 0, 1) := by decide +kernel
theorem dX12_named_22 : decode cX12_named 22 = .ok (.getfield 100, 3) := by decide +kernel
theorem dX12_named_25 : decode cX12_named 25 = .ok (.imul, 1) := by decide +kernel
theorem dX12_named_26 : decode cX12_named 26 = .ok (.iload_n 3, 1) := by decide +kernel
theorem dX12_named_27 : decode cX12_named 27 = .ok (.iadd, 1) := by decide +kernel
theorem dX12_named_28 : decode cX12_named 28 = .ok (.laload, 1) := by decide +kernel
theorem dX12_named_29 : decode cX12_named 29 = .ok (.lload_n 1, 1) := by decide +kernel
theorem dX12_named_30 : decode cX12_named 30 = .ok (.lcmp, 1) := by decide +kernel
theorem dX12_named_31 : decode cX12_named 31 = .ok (.ifCond .ne 5, 3) := by decide +kernel
theorem dX12_named_34 : decode cX12_named 34 = .ok (.iload_n 3, 1) := by decide +kernel
theorem dX12_named_35 : decode cX12_named 35 = .ok (.ireturn, 1) := by decide +kernel
theorem dX12_named_36 : decode cX12_named 36 = .ok (.iinc 3 1, 3) := by decide +kernel
theorem dX12_named_39 : decode cX12_named 39 = .ok (.goto (-37), 3) := by decide +kernel
theorem dX12_named_42 : decode cX12_named 42 = .ok (.iconst (-1), 1) := by decide +kernel
theorem dX12_named_43 : decode cX12_named 43 = .ok (.ireturn, 1) := by decide +kernel
theorem dX12_number_0 : decode cX12_number 0 = .ok (.aload_n 0, 1) := by decide +kernel
theorem dX12_number_1 : decode cX12_number 1 = .ok (.invokevirtual 266, 3) := by decide +kernel
theorem dX12_number_4 : decode cX12_number 4 = .ok (.aload_n 0, 1) := by decide +kernel
theorem dX12_number_5 : decode cX12_number 5 = .ok (.getfield 36, 3) := by decide +kernel
theorem dX12_number_8 : decode cX12_number 8 = .ok (.ifCond .le 5, 3) := by decide +kernel
theorem dX12_number_11 : decode cX12_number 11 = .ok (.iconst 0, 1) := by decide +kernel
theorem dX12_number_12 : decode cX12_number 12 = .ok (.ireturn, 1) := by decide +kernel
theorem dX12_number_13 : decode cX12_number 13 = .ok (.aload_n 0, 1) := by decide +kernel
theorem dX12_number_14 : decode cX12_number 14 = .ok (.getfield 20, 3) := by decide +kernel
theorem dX12_number_17 : decode cX12_number 17 = .ok (.iconst 2, 1) := by decide +kernel
theorem dX12_number_18 : decode cX12_number 18 = .ok (.if_icmp .eq 12, 3) := by decide +kernel
theorem dX12_number_21 : decode cX12_number 21 = .ok (.aload_n 0, 1) := by decide +kernel
theorem dX12_number_22 : decode cX12_number 22 = .ok (.iconst 1, 1) := by decide +kernel
theorem dX12_number_23 : decode cX12_number 23 = .ok (.aload_n 0, 1) := by decide +kernel
theorem dX12_number_24 : decode cX12_number 24 = .ok (.getfield 23, 3) := by decide +kernel
theorem dX12_number_27 : decode cX12_number 27 = .ok (.invokevirtual 255, 3) := by decide +kernel
theorem dX12_number_30 : decode cX12_number 30 = .ok (.aload_n 0, 1) := by decide +kernel
theorem dX12_number_31 : decode cX12_number 31 = .ok (.getfield 36, 3) := by decide +kernel
theorem dX12_number_34 : decode cX12_number 34 = .ok (.ifCond .ne 24, 3) := by decide +kernel
theorem dX12_number_37 : decode cX12_number 37 = .ok (.aload_n 0, 1) := by decide +kernel
theorem dX12_number_38 : decode cX12_number 38 = .ok (.getfield 29, 3) := by decide +kernel
theorem dX12_number_41 : decode cX12_number 41 = .ok (.iload_n 1, 1) := by decide +kernel
theorem dX12_number_42 : decode cX12_number 42 = .ok (.iload_n 2, 1) := by decide +kernel
theorem dX12_number_43 : decode cX12_number 43 = .ok (.invokestatic 323, 3) := by decide +kernel
theorem dX12_number_46 : decode cX12_number 46 = .ok (.ifCond .ne 12, 3) := by decide +kernel
theorem dX12_number_49 : decode cX12_number 49 = .ok (.aload_n 0, 1) := by decide +kernel
theorem dX12_number_50 : decode cX12_number 50 = .ok (.iconst 4, 1) := by decide +kernel
theorem dX12_number_51 : decode cX12_number 51 = .ok (.aload_n 0, 1) := by decide +kernel
theorem dX12_number_52 : decode cX12_number 52 = .ok (.getfield 23, 3) := by decide +kernel
theorem dX12_number_55 : decode cX12_number 55 = .ok (.invokevirtual 255, 3) := by decide +kernel
theorem dX12_number_58 : decode cX12_number 58 = .ok (.aload_n 0, 1) := by decide +kernel
theorem dX12_number_59 : decode cX12_number 59 = .ok (.getfield 29, 3) := by decide +kernel
theorem dX12_number_62 : decode cX12_number 62 = .ok (.istore_n 3, 1) := by decide +kernel
theorem dX12_number_63 : decode cX12_number 63 = .ok (.aload_n 0, 1) := by decide +kernel
theorem dX12_number_64 : decode cX12_number 64 = .ok (.getfield 36, 3) := by decide +kernel
theorem dX12_number_67 : decode cX12_number 67 = .ok (.ifCond .ne 7, 3) := by decide +kernel
theorem dX12_number_70 : decode cX12_number 70 = .ok (.aload_n 0, 1) := by decide +kernel
theorem dX12_number_71 : decode cX12_number 71 = .ok (.invokevirtual 272, 3) := by decide +kernel
theorem dX12_number_74 : decode cX12_number 74 = .ok (.iload_n 3, 1) := by decide +kernel
theorem dX12_number_75 : decode cX12_number 75 = .ok (.ireturn, 1) := by decide +kernel
theorem dX12_add_0 : decode cX12_add 0 = .ok (.aload_n 0, 1) := by decide +kernel
theorem dX12_add_1 : decode cX12_add 1 = .ok (.getfield 87, 3) := by decide +kernel
theorem dX12_add_4 : decode cX12_add 4 = .ok (.sipush 1600, 3) := by decide +kernel
theorem dX12_add_7 : decode cX12_add 7 = .ok (.aload_n 0, 1) := by decide +kernel
theorem dX12_add_8 : decode cX12_add 8 = .ok (.getfield 100, 3) := by decide +kernel
theorem dX12_add_11 : decode cX12_add 11 = .ok (.imul, 1) := by decide +kernel
theorem dX12_add_12 : decode cX12_add 12 = .ok (.aload_n 0, 1) := by decide +kernel
theorem dX12_add_13 : decode cX12_add 13 = .ok (.getfield 97, 3) := by decide +kernel
theorem dX12_add_16 : decode cX12_add 16 = .ok (.iadd, 1) := by decide +kernel
theorem dX12_add_17 : decode cX12_add 17 = .ok (.iload_n 1, 1) := by decide +kernel
theorem dX12_add_18 : decode cX12_add 18 = .ok (.iastore, 1) := by decide +kernel
theorem dX12_add_19 : decode cX12_add 19 = .ok (.aload_n 0, 1) := by decide +kernel
theorem dX12_add_20 : decode cX12_add 20 = .ok (.getfield 90, 3) := by decide +kernel
theorem dX12_add_23 : decode cX12_add 23 = .ok (.sipush 1600, 3) := by decide +kernel
theorem dX12_add_26 : decode cX12_add 26 = .ok (.aload_n 0, 1) := by decide +kernel
theorem dX12_add_27 : decode cX12_add 27 = .ok (.getfield 100, 3) := by decide +kernel
theorem dX12_add_30 : decode cX12_add 30 = .ok (.imul, 1) := by decide +kernel
theorem dX12_add_31 : decode cX12_add 31 = .ok (.aload_n 0, 1) := by decide +kernel
theorem dX12_add_32 : decode cX12_add 32 = .ok (.getfield 97, 3) := by decide +kernel
theorem dX12_add_35 : decode cX12_add 35 = .ok (.iadd, 1) := by decide +kernel
theorem dX12_add_36 : decode cX12_add 36 = .ok (.iload_n 2, 1) := by decide +kernel
theorem dX12_add_37 : decode cX12_add 37 = .ok (.iastore, 1) := by decide +kernel
theorem dX12_add_38 : decode cX12_add 38 = .ok (.aload_n 0, 1) := by decide +kernel
theorem dX12_add_39 : decode cX12_add 39 = .ok (.dup, 1) := by decide +kernel
theorem dX12_add_40 : decode cX12_add 40 = .ok (.getfield 97, 3) := by decide +kernel
theorem dX12_add_43 : decode cX12_add 43 = .ok (.iconst 1, 1) := by decide +kernel
theorem dX12_add_44 : decode cX12_add 44 = .ok (.iadd, 1) := by decide +kernel
theorem dX12_add_45 : decode cX12_add 45 = .ok (.putfield 97, 3) := by decide +kernel
theorem dX12_add_48 : decode cX12_add 48 = .ok (.return_, 1) := by decide +kernel
theorem dX12_rank_0 : decode cX12_rank 0 = .ok (.iload_n 0, 1) := by decide +kernel
theorem dX12_rank_1 : decode cX12_rank 1 = .ok (.bipush 42, 2) := by decide +kernel
theorem dX12_rank_3 : decode cX12_rank 3 = .ok (.if_icmp .ne 7, 3) := by decide +kernel
theorem dX12_rank_6 : decode cX12_rank 6 = .ok (.iconst 1, 1) := by decide +kernel
theorem dX12_rank_7 : decode cX12_rank 7 = .ok (.goto 63, 3) := by decide +kernel
theorem dX12_rank_10 : decode cX12_rank 10 = .ok (.iload_n 0, 1) := by decide +kernel
theorem dX12_rank_11 : decode cX12_rank 11 = .ok (.bipush 41, 2) := by decide +kernel
theorem dX12_rank_13 : decode cX12_rank 13 = .ok (.if_icmp .ne 7, 3) := by decide +kernel
theorem dX12_rank_16 : decode cX12_rank 16 = .ok (.iconst 2, 1) := by decide +kernel
theorem dX12_rank_17 : decode cX12_rank 17 = .ok (.goto 53, 3) := by decide +kernel
theorem dX12_rank_20 : decode cX12_rank 20 = .ok (.iload_n 0, 1) := by decide +kernel
theorem dX12_rank_21 : decode cX12_rank 21 = .ok (.bipush 43, 2) := by decide +kernel
theorem dX12_rank_23 : decode cX12_rank 23 = .ok (.if_icmp .ne 7, 3) := by decide +kernel
theorem dX12_rank_26 : decode cX12_rank 26 = .ok (.iconst 3, 1) := by decide +kernel
theorem dX12_rank_27 : decode cX12_rank 27 = .ok (.goto 43, 3) := by decide +kernel
theorem dX12_rank_30 : decode cX12_rank 30 = .ok (.iload_n 0, 1) := by decide +kernel
theorem dX12_rank_31 : decode cX12_rank 31 = .ok (.bipush 38, 2) := by decide +kernel
theorem dX12_rank_33 : decode cX12_rank 33 = .ok (.if_icmp .eq 15, 3) := by decide +kernel
theorem dX12_rank_36 : decode cX12_rank 36 = .ok (.iload_n 0, 1) := by decide +kernel
theorem dX12_rank_37 : decode cX12_rank 37 = .ok (.bipush 39, 2) := by decide +kernel
theorem dX12_rank_39 : decode cX12_rank 39 = .ok (.if_icmp .eq 9, 3) := by decide +kernel
theorem dX12_rank_42 : decode cX12_rank 42 = .ok (.iload_n 0, 1) := by decide +kernel
theorem dX12_rank_43 : decode cX12_rank 43 = .ok (.bipush 40, 2) := by decide +kernel
theorem dX12_rank_45 : decode cX12_rank 45 = .ok (.if_icmp .ne 7, 3) := by decide +kernel
theorem dX12_rank_48 : decode cX12_rank 48 = .ok (.iconst 4, 1) := by decide +kernel
theorem dX12_rank_49 : decode cX12_rank 49 = .ok (.goto 21, 3) := by decide +kernel
theorem dX12_rank_52 : decode cX12_rank 52 = .ok (.iload_n 0, 1) := by decide +kernel
theorem dX12_rank_53 : decode cX12_rank 53 = .ok (.bipush 31, 2) := by decide +kernel
theorem dX12_rank_55 : decode cX12_rank 55 = .ok (.if_icmp .eq 9, 3) := by decide +kernel
theorem dX12_rank_58 : decode cX12_rank 58 = .ok (.iload_n 0, 1) := by decide +kernel
theorem dX12_rank_59 : decode cX12_rank 59 = .ok (.bipush 32, 2) := by decide +kernel
theorem dX12_rank_61 : decode cX12_rank 61 = .ok (.if_icmp .ne 7, 3) := by decide +kernel
theorem dX12_rank_64 : decode cX12_rank 64 = .ok (.iconst 5, 1) := by decide +kernel
theorem dX12_rank_65 : decode cX12_rank 65 = .ok (.goto 5, 3) := by decide +kernel
theorem dX12_rank_68 : decode cX12_rank 68 = .ok (.bipush 6, 2) := by decide +kernel
theorem dX12_rank_70 : decode cX12_rank 70 = .ok (.ireturn, 1) := by decide +kernel
theorem dX12_joins_0 : decode cX12_joins 0 = .ok (.aload_n 0, 1) := by decide +kernel
theorem dX12_joins_1 : decode cX12_joins 1 = .ok (.getfield 131, 3) := by decide +kernel
theorem dX12_joins_4 : decode cX12_joins 4 = .ok (.aload_n 0, 1) := by decide +kernel
theorem dX12_joins_5 : decode cX12_joins 5 = .ok (.getfield 119, 3) := by decide +kernel
theorem dX12_joins_8 : decode cX12_joins 8 = .ok (.aload_n 0, 1) := by decide +kernel
theorem dX12_joins_9 : decode cX12_joins 9 = .ok (.getfield 122, 3) := by decide +kernel
theorem dX12_joins_12 : decode cX12_joins 12 = .ok (.iconst 1, 1) := by decide +kernel
theorem dX12_joins_13 : decode cX12_joins 13 = .ok (.isub, 1) := by decide +kernel
theorem dX12_joins_14 : decode cX12_joins 14 = .ok (.iaload, 1) := by decide +kernel
theorem dX12_joins_15 : decode cX12_joins 15 = .ok (.if_icmp .le 72, 3) := by decide +kernel
theorem dX12_joins_18 : decode cX12_joins 18 = .ok (.aload_n 0, 1) := by decide +kernel
theorem dX12_joins_19 : decode cX12_joins 19 = .ok (.getfield 128, 3) := by decide +kernel
theorem dX12_joins_22 : decode cX12_joins 22 = .ok (.aload_n 0, 1) := by decide +kernel
theorem dX12_joins_23 : decode cX12_joins 23 = .ok (.getfield 131, 3) := by decide +kernel
theorem dX12_joins_26 : decode cX12_joins 26 = .ok (.iconst 1, 1) := by decide +kernel
theorem dX12_joins_27 : decode cX12_joins 27 = .ok (.isub, 1) := by decide +kernel
theorem dX12_joins_28 : decode cX12_joins 28 = .ok (.iaload, 1) := by decide +kernel
theorem dX12_joins_29 : decode cX12_joins 29 = .ok (.invokestatic 327, 3) := by decide +kernel
theorem dX12_joins_32 : decode cX12_joins 32 = .ok (.iload_n 1, 1) := by decide +kernel
theorem dX12_joins_33 : decode cX12_joins 33 = .ok (.if_icmp .lt 54, 3) := by decide +kernel
theorem dX12_joins_36 : decode cX12_joins 36 = .ok (.aload_n 0, 1) := by decide +kernel
theorem dX12_joins_37 : decode cX12_joins 37 = .ok (.dup, 1) := by decide +kernel
theorem dX12_joins_38 : decode cX12_joins 38 = .ok (.getfield 131, 3) := by decide +kernel
theorem dX12_joins_41 : decode cX12_joins 41 = .ok (.iconst 1, 1) := by decide +kernel
theorem dX12_joins_42 : decode cX12_joins 42 = .ok (.isub, 1) := by decide +kernel
theorem dX12_joins_43 : decode cX12_joins 43 = .ok (.putfield 131, 3) := by decide +kernel
theorem dX12_joins_46 : decode cX12_joins 46 = .ok (.aload_n 0, 1) := by decide +kernel
theorem dX12_joins_47 : decode cX12_joins 47 = .ok (.aload_n 0, 1) := by decide +kernel
theorem dX12_joins_48 : decode cX12_joins 48 = .ok (.getfield 128, 3) := by decide +kernel
theorem dX12_joins_51 : decode cX12_joins 51 = .ok (.aload_n 0, 1) := by decide +kernel
theorem dX12_joins_52 : decode cX12_joins 52 = .ok (.getfield 131, 3) := by decide +kernel
theorem dX12_joins_55 : decode cX12_joins 55 = .ok (.iaload, 1) := by decide +kernel
theorem dX12_joins_56 : decode cX12_joins 56 = .ok (.iconst 0, 1) := by decide +kernel
theorem dX12_joins_57 : decode cX12_joins 57 = .ok (.invokevirtual 330, 3) := by decide +kernel
theorem dX12_joins_60 : decode cX12_joins 60 = .ok (.aload_n 0, 1) := by decide +kernel
theorem dX12_joins_61 : decode cX12_joins 61 = .ok (.getfield 128, 3) := by decide +kernel
theorem dX12_joins_64 : decode cX12_joins 64 = .ok (.aload_n 0, 1) := by decide +kernel
theorem dX12_joins_65 : decode cX12_joins 65 = .ok (.getfield 131, 3) := by decide +kernel
theorem dX12_joins_68 : decode cX12_joins 68 = .ok (.iaload, 1) := by decide +kernel
theorem dX12_joins_69 : decode cX12_joins 69 = .ok (.bipush 43, 2) := by decide +kernel
theorem dX12_joins_71 : decode cX12_joins 71 = .ok (.if_icmp .ne (-71), 3) := by decide +kernel
theorem dX12_joins_74 : decode cX12_joins 74 = .ok (.aload_n 0, 1) := by decide +kernel
theorem dX12_joins_75 : decode cX12_joins 75 = .ok (.dup, 1) := by decide +kernel
theorem dX12_joins_76 : decode cX12_joins 76 = .ok (.getfield 125, 3) := by decide +kernel
theorem dX12_joins_79 : decode cX12_joins 79 = .ok (.iconst 1, 1) := by decide +kernel
theorem dX12_joins_80 : decode cX12_joins 80 = .ok (.isub, 1) := by decide +kernel
theorem dX12_joins_81 : decode cX12_joins 81 = .ok (.putfield 125, 3) := by decide +kernel
theorem dX12_joins_84 : decode cX12_joins 84 = .ok (.goto (-84), 3) := by decide +kernel
theorem dX12_joins_87 : decode cX12_joins 87 = .ok (.return_, 1) := by decide +kernel
theorem dX12_holdsBack_0 : decode cX12_holdsBack 0 = .ok (.aload_n 0, 1) := by decide +kernel
theorem dX12_holdsBack_1 : decode cX12_holdsBack 1 = .ok (.getfield 128, 3) := by decide +kernel
theorem dX12_holdsBack_4 : decode cX12_holdsBack 4 = .ok (.aload_n 0, 1) := by decide +kernel
theorem dX12_holdsBack_5 : decode cX12_holdsBack 5 = .ok (.getfield 131, 3) := by decide +kernel
theorem dX12_holdsBack_8 : decode cX12_holdsBack 8 = .ok (.iload_n 1, 1) := by decide +kernel
theorem dX12_holdsBack_9 : decode cX12_holdsBack 9 = .ok (.iastore, 1) := by decide +kernel
theorem dX12_holdsBack_10 : decode cX12_holdsBack 10 = .ok (.aload_n 0, 1) := by decide +kernel
theorem dX12_holdsBack_11 : decode cX12_holdsBack 11 = .ok (.dup, 1) := by decide +kernel
theorem dX12_holdsBack_12 : decode cX12_holdsBack 12 = .ok (.getfield 131, 3) := by decide +kernel
theorem dX12_holdsBack_15 : decode cX12_holdsBack 15 = .ok (.iconst 1, 1) := by decide +kernel
theorem dX12_holdsBack_16 : decode cX12_holdsBack 16 = .ok (.iadd, 1) := by decide +kernel
theorem dX12_holdsBack_17 : decode cX12_holdsBack 17 = .ok (.putfield 131, 3) := by decide +kernel
theorem dX12_holdsBack_20 : decode cX12_holdsBack 20 = .ok (.return_, 1) := by decide +kernel
theorem dX12_pushes_0 : decode cX12_pushes 0 = .ok (.aload_n 0, 1) := by decide +kernel
theorem dX12_pushes_1 : decode cX12_pushes 1 = .ok (.getfield 106, 3) := by decide +kernel
theorem dX12_pushes_4 : decode cX12_pushes 4 = .ok (.aload_n 0, 1) := by decide +kernel
theorem dX12_pushes_5 : decode cX12_pushes 5 = .ok (.getfield 122, 3) := by decide +kernel
theorem dX12_pushes_8 : decode cX12_pushes 8 = .ok (.iload_n 1, 1) := by decide +kernel
theorem dX12_pushes_9 : decode cX12_pushes 9 = .ok (.iastore, 1) := by decide +kernel
theorem dX12_pushes_10 : decode cX12_pushes 10 = .ok (.aload_n 0, 1) := by decide +kernel
theorem dX12_pushes_11 : decode cX12_pushes 11 = .ok (.getfield 109, 3) := by decide +kernel
theorem dX12_pushes_14 : decode cX12_pushes 14 = .ok (.aload_n 0, 1) := by decide +kernel
theorem dX12_pushes_15 : decode cX12_pushes 15 = .ok (.getfield 122, 3) := by decide +kernel
theorem dX12_pushes_18 : decode cX12_pushes 18 = .ok (.iconst 0, 1) := by decide +kernel
theorem dX12_pushes_19 : decode cX12_pushes 19 = .ok (.iastore, 1) := by decide +kernel
theorem dX12_pushes_20 : decode cX12_pushes 20 = .ok (.aload_n 0, 1) := by decide +kernel
theorem dX12_pushes_21 : decode cX12_pushes 21 = .ok (.getfield 112, 3) := by decide +kernel
theorem dX12_pushes_24 : decode cX12_pushes 24 = .ok (.aload_n 0, 1) := by decide +kernel
theorem dX12_pushes_25 : decode cX12_pushes 25 = .ok (.getfield 122, 3) := by decide +kernel
theorem dX12_pushes_28 : decode cX12_pushes 28 = .ok (.iconst 1, 1) := by decide +kernel
theorem dX12_pushes_29 : decode cX12_pushes 29 = .ok (.bastore, 1) := by decide +kernel
theorem dX12_pushes_30 : decode cX12_pushes 30 = .ok (.aload_n 0, 1) := by decide +kernel
theorem dX12_pushes_31 : decode cX12_pushes 31 = .ok (.getfield 119, 3) := by decide +kernel
theorem dX12_pushes_34 : decode cX12_pushes 34 = .ok (.aload_n 0, 1) := by decide +kernel
theorem dX12_pushes_35 : decode cX12_pushes 35 = .ok (.getfield 122, 3) := by decide +kernel
theorem dX12_pushes_38 : decode cX12_pushes 38 = .ok (.aload_n 0, 1) := by decide +kernel
theorem dX12_pushes_39 : decode cX12_pushes 39 = .ok (.getfield 131, 3) := by decide +kernel
theorem dX12_pushes_42 : decode cX12_pushes 42 = .ok (.iastore, 1) := by decide +kernel
theorem dX12_pushes_43 : decode cX12_pushes 43 = .ok (.aload_n 0, 1) := by decide +kernel
theorem dX12_pushes_44 : decode cX12_pushes 44 = .ok (.dup, 1) := by decide +kernel
theorem dX12_pushes_45 : decode cX12_pushes 45 = .ok (.getfield 122, 3) := by decide +kernel
theorem dX12_pushes_48 : decode cX12_pushes 48 = .ok (.iconst 1, 1) := by decide +kernel
theorem dX12_pushes_49 : decode cX12_pushes 49 = .ok (.iadd, 1) := by decide +kernel
theorem dX12_pushes_50 : decode cX12_pushes 50 = .ok (.putfield 122, 3) := by decide +kernel
theorem dX12_pushes_53 : decode cX12_pushes 53 = .ok (.return_, 1) := by decide +kernel
theorem dX12_opens_0 : decode cX12_opens 0 = .ok (.aload_n 0, 1) := by decide +kernel
theorem dX12_opens_1 : decode cX12_opens 1 = .ok (.getfield 125, 3) := by decide +kernel
theorem dX12_opens_4 : decode cX12_opens 4 = .ok (.bipush 7, 2) := by decide +kernel
theorem dX12_opens_6 : decode cX12_opens 6 = .ok (.if_icmp .ne 12, 3) := by decide +kernel
theorem dX12_opens_9 : decode cX12_opens 9 = .ok (.aload_n 0, 1) := by decide +kernel
theorem dX12_opens_10 : decode cX12_opens 10 = .ok (.iconst 5, 1) := by decide +kernel
theorem dX12_opens_11 : decode cX12_opens 11 = .ok (.aload_n 0, 1) := by decide +kernel
theorem dX12_opens_12 : decode cX12_opens 12 = .ok (.getfield 23, 3) := by decide +kernel
theorem dX12_opens_15 : decode cX12_opens 15 = .ok (.invokevirtual 255, 3) := by decide +kernel
theorem dX12_opens_18 : decode cX12_opens 18 = .ok (.aload_n 0, 1) := by decide +kernel
theorem dX12_opens_19 : decode cX12_opens 19 = .ok (.getfield 36, 3) := by decide +kernel
theorem dX12_opens_22 : decode cX12_opens 22 = .ok (.ifCond .le 4, 3) := by decide +kernel
theorem dX12_opens_25 : decode cX12_opens 25 = .ok (.return_, 1) := by decide +kernel
theorem dX12_opens_26 : decode cX12_opens 26 = .ok (.aload_n 0, 1) := by decide +kernel
theorem dX12_opens_27 : decode cX12_opens 27 = .ok (.dup, 1) := by decide +kernel
theorem dX12_opens_28 : decode cX12_opens 28 = .ok (.getfield 125, 3) := by decide +kernel
theorem dX12_opens_31 : decode cX12_opens 31 = .ok (.iconst 1, 1) := by decide +kernel
theorem dX12_opens_32 : decode cX12_opens 32 = .ok (.iadd, 1) := by decide +kernel
theorem dX12_opens_33 : decode cX12_opens 33 = .ok (.putfield 125, 3) := by decide +kernel
theorem dX12_opens_36 : decode cX12_opens 36 = .ok (.aload_n 0, 1) := by decide +kernel
theorem dX12_opens_37 : decode cX12_opens 37 = .ok (.invokevirtual 272, 3) := by decide +kernel
theorem dX12_opens_40 : decode cX12_opens 40 = .ok (.aload_n 0, 1) := by decide +kernel
theorem dX12_opens_41 : decode cX12_opens 41 = .ok (.iload_n 1, 1) := by decide +kernel
theorem dX12_opens_42 : decode cX12_opens 42 = .ok (.invokevirtual 333, 3) := by decide +kernel
theorem dX12_opens_45 : decode cX12_opens 45 = .ok (.return_, 1) := by decide +kernel
theorem dX12_isTest_0 : decode cX12_isTest 0 = .ok (.iload_n 0, 1) := by decide +kernel
theorem dX12_isTest_1 : decode cX12_isTest 1 = .ok (.iconst 1, 1) := by decide +kernel
theorem dX12_isTest_2 : decode cX12_isTest 2 = .ok (.if_icmp .eq 14, 3) := by decide +kernel
theorem dX12_isTest_5 : decode cX12_isTest 5 = .ok (.iload_n 0, 1) := by decide +kernel
theorem dX12_isTest_6 : decode cX12_isTest 6 = .ok (.iconst 5, 1) := by decide +kernel
theorem dX12_isTest_7 : decode cX12_isTest 7 = .ok (.if_icmp .eq 9, 3) := by decide +kernel
theorem dX12_isTest_10 : decode cX12_isTest 10 = .ok (.iload_n 0, 1) := by decide +kernel
theorem dX12_isTest_11 : decode cX12_isTest 11 = .ok (.bipush 6, 2) := by decide +kernel
theorem dX12_isTest_13 : decode cX12_isTest 13 = .ok (.if_icmp .ne 7, 3) := by decide +kernel
theorem dX12_isTest_16 : decode cX12_isTest 16 = .ok (.iconst 1, 1) := by decide +kernel
theorem dX12_isTest_17 : decode cX12_isTest 17 = .ok (.goto 4, 3) := by decide +kernel
theorem dX12_isTest_20 : decode cX12_isTest 20 = .ok (.iconst 0, 1) := by decide +kernel
theorem dX12_isTest_21 : decode cX12_isTest 21 = .ok (.ireturn, 1) := by decide +kernel
theorem dX12_operand_0 : decode cX12_operand 0 = .ok (.aload_n 0, 1) := by decide +kernel
theorem dX12_operand_1 : decode cX12_operand 1 = .ok (.invokevirtual 266, 3) := by decide +kernel
theorem dX12_operand_4 : decode cX12_operand 4 = .ok (.aload_n 0, 1) := by decide +kernel
theorem dX12_operand_5 : decode cX12_operand 5 = .ok (.getfield 36, 3) := by decide +kernel
theorem dX12_operand_8 : decode cX12_operand 8 = .ok (.ifCond .le 5, 3) := by decide +kernel
theorem dX12_operand_11 : decode cX12_operand 11 = .ok (.iconst 1, 1) := by decide +kernel
theorem dX12_operand_12 : decode cX12_operand 12 = .ok (.ireturn, 1) := by decide +kernel
theorem dX12_operand_13 : decode cX12_operand 13 = .ok (.aload_n 0, 1) := by decide +kernel
theorem dX12_operand_14 : decode cX12_operand 14 = .ok (.getfield 122, 3) := by decide +kernel
theorem dX12_operand_17 : decode cX12_operand 17 = .ok (.iconst 1, 1) := by decide +kernel
theorem dX12_operand_18 : decode cX12_operand 18 = .ok (.isub, 1) := by decide +kernel
theorem dX12_operand_19 : decode cX12_operand 19 = .ok (.istore_n 1, 1) := by decide +kernel
theorem dX12_operand_20 : decode cX12_operand 20 = .ok (.aload_n 0, 1) := by decide +kernel
theorem dX12_operand_21 : decode cX12_operand 21 = .ok (.getfield 106, 3) := by decide +kernel
theorem dX12_operand_24 : decode cX12_operand 24 = .ok (.iload_n 1, 1) := by decide +kernel
theorem dX12_operand_25 : decode cX12_operand 25 = .ok (.iaload, 1) := by decide +kernel
theorem dX12_operand_26 : decode cX12_operand 26 = .ok (.invokestatic 336, 3) := by decide +kernel
theorem dX12_operand_29 : decode cX12_operand 29 = .ok (.ifCond .eq 16, 3) := by decide +kernel
theorem dX12_operand_32 : decode cX12_operand 32 = .ok (.aload_n 0, 1) := by decide +kernel
theorem dX12_operand_33 : decode cX12_operand 33 = .ok (.getfield 112, 3) := by decide +kernel
theorem dX12_operand_36 : decode cX12_operand 36 = .ok (.iload_n 1, 1) := by decide +kernel
theorem dX12_operand_37 : decode cX12_operand 37 = .ok (.baload, 1) := by decide +kernel
theorem dX12_operand_38 : decode cX12_operand 38 = .ok (.ifCond .eq 7, 3) := by decide +kernel
theorem dX12_operand_41 : decode cX12_operand 41 = .ok (.iconst 1, 1) := by decide +kernel
theorem dX12_operand_42 : decode cX12_operand 42 = .ok (.goto 4, 3) := by decide +kernel
theorem dX12_operand_45 : decode cX12_operand 45 = .ok (.iconst 0, 1) := by decide +kernel
theorem dX12_operand_46 : decode cX12_operand 46 = .ok (.istore_n 2, 1) := by decide +kernel
theorem dX12_operand_47 : decode cX12_operand 47 = .ok (.iload_n 2, 1) := by decide +kernel
theorem dX12_operand_48 : decode cX12_operand 48 = .ok (.ifCond .eq 62, 3) := by decide +kernel
theorem dX12_operand_51 : decode cX12_operand 51 = .ok (.aload_n 0, 1) := by decide +kernel
theorem dX12_operand_52 : decode cX12_operand 52 = .ok (.ldc2_w 315, 3) := by decide +kernel
theorem dX12_operand_55 : decode cX12_operand 55 = .ok (.invokevirtual 339, 3) := by decide +kernel
theorem dX12_operand_58 : decode cX12_operand 58 = .ok (.ifCond .eq 52, 3) := by decide +kernel
theorem dX12_operand_61 : decode cX12_operand 61 = .ok (.aload_n 0, 1) := by decide +kernel
theorem dX12_operand_62 : decode cX12_operand 62 = .ok (.getfield 125, 3) := by decide +kernel
theorem dX12_operand_65 : decode cX12_operand 65 = .ok (.bipush 7, 2) := by decide +kernel
theorem dX12_operand_67 : decode cX12_operand 67 = .ok (.if_icmp .ne 12, 3) := by decide +kernel
theorem dX12_operand_70 : decode cX12_operand 70 = .ok (.aload_n 0, 1) := by decide +kernel
theorem dX12_operand_71 : decode cX12_operand 71 = .ok (.iconst 5, 1) := by decide +kernel
theorem dX12_operand_72 : decode cX12_operand 72 = .ok (.aload_n 0, 1) := by decide +kernel
theorem dX12_operand_73 : decode cX12_operand 73 = .ok (.getfield 23, 3) := by decide +kernel
theorem dX12_operand_76 : decode cX12_operand 76 = .ok (.invokevirtual 255, 3) := by decide +kernel
theorem dX12_operand_79 : decode cX12_operand 79 = .ok (.aload_n 0, 1) := by decide +kernel
theorem dX12_operand_80 : decode cX12_operand 80 = .ok (.getfield 36, 3) := by decide +kernel
theorem dX12_operand_83 : decode cX12_operand 83 = .ok (.ifCond .le 5, 3) := by decide +kernel
theorem dX12_operand_86 : decode cX12_operand 86 = .ok (.iconst 1, 1) := by decide +kernel
theorem dX12_operand_87 : decode cX12_operand 87 = .ok (.ireturn, 1) := by decide +kernel
theorem dX12_operand_88 : decode cX12_operand 88 = .ok (.aload_n 0, 1) := by decide +kernel
theorem dX12_operand_89 : decode cX12_operand 89 = .ok (.dup, 1) := by decide +kernel
theorem dX12_operand_90 : decode cX12_operand 90 = .ok (.getfield 125, 3) := by decide +kernel
theorem dX12_operand_93 : decode cX12_operand 93 = .ok (.iconst 1, 1) := by decide +kernel
theorem dX12_operand_94 : decode cX12_operand 94 = .ok (.iadd, 1) := by decide +kernel
theorem dX12_operand_95 : decode cX12_operand 95 = .ok (.putfield 125, 3) := by decide +kernel
theorem dX12_operand_98 : decode cX12_operand 98 = .ok (.aload_n 0, 1) := by decide +kernel
theorem dX12_operand_99 : decode cX12_operand 99 = .ok (.bipush 43, 2) := by decide +kernel
theorem dX12_operand_101 : decode cX12_operand 101 = .ok (.invokevirtual 343, 3) := by decide +kernel
theorem dX12_operand_104 : decode cX12_operand 104 = .ok (.aload_n 0, 1) := by decide +kernel
theorem dX12_operand_105 : decode cX12_operand 105 = .ok (.invokevirtual 272, 3) := by decide +kernel
theorem dX12_operand_108 : decode cX12_operand 108 = .ok (.iconst 0, 1) := by decide +kernel
theorem dX12_operand_109 : decode cX12_operand 109 = .ok (.ireturn, 1) := by decide +kernel
theorem dX12_operand_110 : decode cX12_operand 110 = .ok (.aload_n 0, 1) := by decide +kernel
theorem dX12_operand_111 : decode cX12_operand 111 = .ok (.getfield 112, 3) := by decide +kernel
theorem dX12_operand_114 : decode cX12_operand 114 = .ok (.iload_n 1, 1) := by decide +kernel
theorem dX12_operand_115 : decode cX12_operand 115 = .ok (.iconst 0, 1) := by decide +kernel
theorem dX12_operand_116 : decode cX12_operand 116 = .ok (.bastore, 1) := by decide +kernel
theorem dX12_operand_117 : decode cX12_operand 117 = .ok (.iload_n 2, 1) := by decide +kernel
theorem dX12_operand_118 : decode cX12_operand 118 = .ok (.ifCond .eq 19, 3) := by decide +kernel
theorem dX12_operand_121 : decode cX12_operand 121 = .ok (.aload_n 0, 1) := by decide +kernel
theorem dX12_operand_122 : decode cX12_operand 122 = .ok (.bipush 91, 2) := by decide +kernel
theorem dX12_operand_124 : decode cX12_operand 124 = .ok (.invokevirtual 269, 3) := by decide +kernel
theorem dX12_operand_127 : decode cX12_operand 127 = .ok (.ifCond .eq 10, 3) := by decide +kernel
theorem dX12_operand_130 : decode cX12_operand 130 = .ok (.aload_n 0, 1) := by decide +kernel
theorem dX12_operand_131 : decode cX12_operand 131 = .ok (.iconst 5, 1) := by decide +kernel
theorem dX12_operand_132 : decode cX12_operand 132 = .ok (.invokevirtual 346, 3) := by decide +kernel
theorem dX12_operand_135 : decode cX12_operand 135 = .ok (.iconst 0, 1) := by decide +kernel
theorem dX12_operand_136 : decode cX12_operand 136 = .ok (.ireturn, 1) := by decide +kernel
theorem dX12_operand_137 : decode cX12_operand 137 = .ok (.iload_n 2, 1) := by decide +kernel
theorem dX12_operand_138 : decode cX12_operand 138 = .ok (.ifCond .eq 33, 3) := by decide +kernel
theorem dX12_operand_141 : decode cX12_operand 141 = .ok (.aload_n 0, 1) := by decide +kernel
theorem dX12_operand_142 : decode cX12_operand 142 = .ok (.ldc2_w 317, 3) := by decide +kernel
theorem dX12_operand_145 : decode cX12_operand 145 = .ok (.invokevirtual 339, 3) := by decide +kernel
theorem dX12_operand_148 : decode cX12_operand 148 = .ok (.ifCond .eq 23, 3) := by decide +kernel
theorem dX12_operand_151 : decode cX12_operand 151 = .ok (.aload_n 0, 1) := by decide +kernel
theorem dX12_operand_152 : decode cX12_operand 152 = .ok (.bipush 30, 2) := by decide +kernel
theorem dX12_operand_154 : decode cX12_operand 154 = .ok (.iconst 0, 1) := by decide +kernel
theorem dX12_operand_155 : decode cX12_operand 155 = .ok (.invokevirtual 330, 3) := by decide +kernel
theorem dX12_operand_158 : decode cX12_operand 158 = .ok (.aload_n 0, 1) := by decide +kernel
theorem dX12_operand_159 : decode cX12_operand 159 = .ok (.getfield 109, 3) := by decide +kernel
theorem dX12_operand_162 : decode cX12_operand 162 = .ok (.iload_n 1, 1) := by decide +kernel
theorem dX12_operand_163 : decode cX12_operand 163 = .ok (.iconst 2, 1) := by decide +kernel
theorem dX12_operand_164 : decode cX12_operand 164 = .ok (.iastore, 1) := by decide +kernel
theorem dX12_operand_165 : decode cX12_operand 165 = .ok (.aload_n 0, 1) := by decide +kernel
theorem dX12_operand_166 : decode cX12_operand 166 = .ok (.invokevirtual 272, 3) := by decide +kernel
theorem dX12_operand_169 : decode cX12_operand 169 = .ok (.iconst 1, 1) := by decide +kernel
theorem dX12_operand_170 : decode cX12_operand 170 = .ok (.ireturn, 1) := by decide +kernel
theorem dX12_operand_171 : decode cX12_operand 171 = .ok (.aload_n 0, 1) := by decide +kernel
theorem dX12_operand_172 : decode cX12_operand 172 = .ok (.bipush 40, 2) := by decide +kernel
theorem dX12_operand_174 : decode cX12_operand 174 = .ok (.invokevirtual 269, 3) := by decide +kernel
theorem dX12_operand_177 : decode cX12_operand 177 = .ok (.ifCond .eq 10, 3) := by decide +kernel
theorem dX12_operand_180 : decode cX12_operand 180 = .ok (.aload_n 0, 1) := by decide +kernel
theorem dX12_operand_181 : decode cX12_operand 181 = .ok (.iconst 2, 1) := by decide +kernel
theorem dX12_operand_182 : decode cX12_operand 182 = .ok (.invokevirtual 346, 3) := by decide +kernel
theorem dX12_operand_185 : decode cX12_operand 185 = .ok (.iconst 0, 1) := by decide +kernel
theorem dX12_operand_186 : decode cX12_operand 186 = .ok (.ireturn, 1) := by decide +kernel
theorem dX12_operand_187 : decode cX12_operand 187 = .ok (.aload_n 0, 1) := by decide +kernel
theorem dX12_operand_188 : decode cX12_operand 188 = .ok (.ldc2_w 319, 3) := by decide +kernel
theorem dX12_operand_191 : decode cX12_operand 191 = .ok (.invokevirtual 339, 3) := by decide +kernel
theorem dX12_operand_194 : decode cX12_operand 194 = .ok (.ifCond .ne 23, 3) := by decide +kernel
theorem dX12_operand_197 : decode cX12_operand 197 = .ok (.aload_n 0, 1) := by decide +kernel
theorem dX12_operand_198 : decode cX12_operand 198 = .ok (.ldc2_w 321, 3) := by decide +kernel
theorem dX12_operand_201 : decode cX12_operand 201 = .ok (.invokevirtual 339, 3) := by decide +kernel
theorem dX12_operand_204 : decode cX12_operand 204 = .ok (.ifCond .ne 13, 3) := by decide +kernel
theorem dX12_operand_207 : decode cX12_operand 207 = .ok (.aload_n 0, 1) := by decide +kernel
theorem dX12_operand_208 : decode cX12_operand 208 = .ok (.ldc2_w 309, 3) := by decide +kernel
theorem dX12_operand_211 : decode cX12_operand 211 = .ok (.invokevirtual 339, 3) := by decide +kernel
theorem dX12_operand_214 : decode cX12_operand 214 = .ok (.ifCond .eq 99, 3) := by decide +kernel
theorem dX12_operand_217 : decode cX12_operand 217 = .ok (.aload_n 0, 1) := by decide +kernel
theorem dX12_operand_218 : decode cX12_operand 218 = .ok (.ldc2_w 319, 3) := by decide +kernel
theorem dX12_operand_221 : decode cX12_operand 221 = .ok (.invokevirtual 339, 3) := by decide +kernel
theorem dX12_operand_224 : decode cX12_operand 224 = .ok (.ifCond .eq 8, 3) := by decide +kernel
theorem dX12_operand_227 : decode cX12_operand 227 = .ok (.bipush 36, 2) := by decide +kernel
theorem dX12_operand_229 : decode cX12_operand 229 = .ok (.goto 20, 3) := by decide +kernel
theorem dX12_operand_232 : decode cX12_operand 232 = .ok (.aload_n 0, 1) := by decide +kernel
theorem dX12_operand_233 : decode cX12_operand 233 = .ok (.ldc2_w 321, 3) := by decide +kernel
theorem dX12_operand_236 : decode cX12_operand 236 = .ok (.invokevirtual 339, 3) := by decide +kernel
theorem dX12_operand_239 : decode cX12_operand 239 = .ok (.ifCond .eq 8, 3) := by decide +kernel
theorem dX12_operand_242 : decode cX12_operand 242 = .ok (.bipush 37, 2) := by decide +kernel
theorem dX12_operand_244 : decode cX12_operand 244 = .ok (.goto 5, 3) := by decide +kernel
theorem dX12_operand_247 : decode cX12_operand 247 = .ok (.bipush 44, 2) := by decide +kernel
theorem dX12_operand_249 : decode cX12_operand 249 = .ok (.istore_n 3, 1) := by decide +kernel
theorem dX12_operand_250 : decode cX12_operand 250 = .ok (.aload_n 0, 1) := by decide +kernel
theorem dX12_operand_251 : decode cX12_operand 251 = .ok (.invokevirtual 272, 3) := by decide +kernel
theorem dX12_operand_254 : decode cX12_operand 254 = .ok (.aload_n 0, 1) := by decide +kernel
theorem dX12_operand_255 : decode cX12_operand 255 = .ok (.invokevirtual 266, 3) := by decide +kernel
theorem dX12_operand_258 : decode cX12_operand 258 = .ok (.aload_n 0, 1) := by decide +kernel
theorem dX12_operand_259 : decode cX12_operand 259 = .ok (.bipush 40, 2) := by decide +kernel
theorem dX12_operand_261 : decode cX12_operand 261 = .ok (.invokevirtual 269, 3) := by decide +kernel
theorem dX12_operand_264 : decode cX12_operand 264 = .ok (.ifCond .ne 12, 3) := by decide +kernel
theorem dX12_operand_267 : decode cX12_operand 267 = .ok (.aload_n 0, 1) := by decide +kernel
theorem dX12_operand_268 : decode cX12_operand 268 = .ok (.iconst 1, 1) := by decide +kernel
theorem dX12_operand_269 : decode cX12_operand 269 = .ok (.aload_n 0, 1) := by decide +kernel
theorem dX12_operand_270 : decode cX12_operand 270 = .ok (.getfield 23, 3) := by decide +kernel
theorem dX12_operand_273 : decode cX12_operand 273 = .ok (.invokevirtual 255, 3) := by decide +kernel
theorem dX12_operand_276 : decode cX12_operand 276 = .ok (.aload_n 0, 1) := by decide +kernel
theorem dX12_operand_277 : decode cX12_operand 277 = .ok (.iload_n 3, 1) := by decide +kernel
theorem dX12_operand_278 : decode cX12_operand 278 = .ok (.bipush 44, 2) := by decide +kernel
theorem dX12_operand_280 : decode cX12_operand 280 = .ok (.if_icmp .ne 8, 3) := by decide +kernel
theorem dX12_operand_283 : decode cX12_operand 283 = .ok (.bipush 6, 2) := by decide +kernel
theorem dX12_operand_285 : decode cX12_operand 285 = .ok (.goto 4, 3) := by decide +kernel
theorem dX12_operand_288 : decode cX12_operand 288 = .ok (.iconst 3, 1) := by decide +kernel
theorem dX12_operand_289 : decode cX12_operand 289 = .ok (.invokevirtual 346, 3) := by decide +kernel
theorem dX12_operand_292 : decode cX12_operand 292 = .ok (.aload_n 0, 1) := by decide +kernel
theorem dX12_operand_293 : decode cX12_operand 293 = .ok (.getfield 36, 3) := by decide +kernel
theorem dX12_operand_296 : decode cX12_operand 296 = .ok (.ifCond .ne 15, 3) := by decide +kernel
theorem dX12_operand_299 : decode cX12_operand 299 = .ok (.aload_n 0, 1) := by decide +kernel
theorem dX12_operand_300 : decode cX12_operand 300 = .ok (.getfield 116, 3) := by decide +kernel
theorem dX12_operand_303 : decode cX12_operand 303 = .ok (.aload_n 0, 1) := by decide +kernel
theorem dX12_operand_304 : decode cX12_operand 304 = .ok (.getfield 122, 3) := by decide +kernel
theorem dX12_operand_307 : decode cX12_operand 307 = .ok (.iconst 1, 1) := by decide +kernel
theorem dX12_operand_308 : decode cX12_operand 308 = .ok (.isub, 1) := by decide +kernel
theorem dX12_operand_309 : decode cX12_operand 309 = .ok (.iload_n 3, 1) := by decide +kernel
theorem dX12_operand_310 : decode cX12_operand 310 = .ok (.iastore, 1) := by decide +kernel
theorem dX12_operand_311 : decode cX12_operand 311 = .ok (.iconst 0, 1) := by decide +kernel
theorem dX12_operand_312 : decode cX12_operand 312 = .ok (.ireturn, 1) := by decide +kernel
theorem dX12_operand_313 : decode cX12_operand 313 = .ok (.aload_n 0, 1) := by decide +kernel
theorem dX12_operand_314 : decode cX12_operand 314 = .ok (.getfield 20, 3) := by decide +kernel
theorem dX12_operand_317 : decode cX12_operand 317 = .ok (.iconst 2, 1) := by decide +kernel
theorem dX12_operand_318 : decode cX12_operand 318 = .ok (.if_icmp .ne 7, 3) := by decide +kernel
theorem dX12_operand_321 : decode cX12_operand 321 = .ok (.iconst 0, 1) := by decide +kernel
theorem dX12_operand_322 : decode cX12_operand 322 = .ok (.goto 104, 3) := by decide +kernel
theorem dX12_operand_325 : decode cX12_operand 325 = .ok (.aload_n 0, 1) := by decide +kernel
theorem dX12_operand_326 : decode cX12_operand 326 = .ok (.ldc2_w 299, 3) := by decide +kernel
theorem dX12_operand_329 : decode cX12_operand 329 = .ok (.invokevirtual 339, 3) := by decide +kernel
theorem dX12_operand_332 : decode cX12_operand 332 = .ok (.ifCond .eq 7, 3) := by decide +kernel
theorem dX12_operand_335 : decode cX12_operand 335 = .ok (.iconst 1, 1) := by decide +kernel
theorem dX12_operand_336 : decode cX12_operand 336 = .ok (.goto 90, 3) := by decide +kernel
theorem dX12_operand_339 : decode cX12_operand 339 = .ok (.aload_n 0, 1) := by decide +kernel
theorem dX12_operand_340 : decode cX12_operand 340 = .ok (.ldc2_w 301, 3) := by decide +kernel
theorem dX12_operand_343 : decode cX12_operand 343 = .ok (.invokevirtual 339, 3) := by decide +kernel
theorem dX12_operand_346 : decode cX12_operand 346 = .ok (.ifCond .eq 7, 3) := by decide +kernel
theorem dX12_operand_349 : decode cX12_operand 349 = .ok (.iconst 2, 1) := by decide +kernel
theorem dX12_operand_350 : decode cX12_operand 350 = .ok (.goto 76, 3) := by decide +kernel
theorem dX12_operand_353 : decode cX12_operand 353 = .ok (.aload_n 0, 1) := by decide +kernel
theorem dX12_operand_354 : decode cX12_operand 354 = .ok (.ldc2_w 279, 3) := by decide +kernel
theorem dX12_operand_357 : decode cX12_operand 357 = .ok (.invokevirtual 339, 3) := by decide +kernel
theorem dX12_operand_360 : decode cX12_operand 360 = .ok (.ifCond .eq 7, 3) := by decide +kernel
theorem dX12_operand_363 : decode cX12_operand 363 = .ok (.iconst 3, 1) := by decide +kernel
theorem dX12_operand_364 : decode cX12_operand 364 = .ok (.goto 62, 3) := by decide +kernel
theorem dX12_operand_367 : decode cX12_operand 367 = .ok (.aload_n 0, 1) := by decide +kernel
theorem dX12_operand_368 : decode cX12_operand 368 = .ok (.ldc2_w 303, 3) := by decide +kernel
theorem dX12_operand_371 : decode cX12_operand 371 = .ok (.invokevirtual 339, 3) := by decide +kernel
theorem dX12_operand_374 : decode cX12_operand 374 = .ok (.ifCond .eq 7, 3) := by decide +kernel
theorem dX12_operand_377 : decode cX12_operand 377 = .ok (.iconst 4, 1) := by decide +kernel
theorem dX12_operand_378 : decode cX12_operand 378 = .ok (.goto 48, 3) := by decide +kernel
theorem dX12_operand_381 : decode cX12_operand 381 = .ok (.aload_n 0, 1) := by decide +kernel
theorem dX12_operand_382 : decode cX12_operand 382 = .ok (.ldc2_w 305, 3) := by decide +kernel
theorem dX12_operand_385 : decode cX12_operand 385 = .ok (.invokevirtual 339, 3) := by decide +kernel
theorem dX12_operand_388 : decode cX12_operand 388 = .ok (.ifCond .eq 7, 3) := by decide +kernel
theorem dX12_operand_391 : decode cX12_operand 391 = .ok (.iconst 5, 1) := by decide +kernel
theorem dX12_operand_392 : decode cX12_operand 392 = .ok (.goto 34, 3) := by decide +kernel
theorem dX12_operand_395 : decode cX12_operand 395 = .ok (.aload_n 0, 1) := by decide +kernel
theorem dX12_operand_396 : decode cX12_operand 396 = .ok (.ldc2_w 307, 3) := by decide +kernel
theorem dX12_operand_399 : decode cX12_operand 399 = .ok (.invokevirtual 339, 3) := by decide +kernel
theorem dX12_operand_402 : decode cX12_operand 402 = .ok (.ifCond .eq 8, 3) := by decide +kernel
theorem dX12_operand_405 : decode cX12_operand 405 = .ok (.bipush 6, 2) := by decide +kernel
theorem dX12_operand_407 : decode cX12_operand 407 = .ok (.goto 19, 3) := by decide +kernel
theorem dX12_operand_410 : decode cX12_operand 410 = .ok (.aload_n 0, 1) := by decide +kernel
theorem dX12_operand_411 : decode cX12_operand 411 = .ok (.ldc2_w 287, 3) := by decide +kernel
theorem dX12_operand_414 : decode cX12_operand 414 = .ok (.invokevirtual 339, 3) := by decide +kernel
theorem dX12_operand_417 : decode cX12_operand 417 = .ok (.ifCond .eq 8, 3) := by decide +kernel
theorem dX12_operand_420 : decode cX12_operand 420 = .ok (.bipush 7, 2) := by decide +kernel
theorem dX12_operand_422 : decode cX12_operand 422 = .ok (.goto 4, 3) := by decide +kernel
theorem dX12_operand_425 : decode cX12_operand 425 = .ok (.iconst (-1), 1) := by decide +kernel
theorem dX12_operand_426 : decode cX12_operand 426 = .ok (.istore_n 3, 1) := by decide +kernel
theorem dX12_operand_427 : decode cX12_operand 427 = .ok (.iload_n 3, 1) := by decide +kernel
theorem dX12_operand_428 : decode cX12_operand 428 = .ok (.iconst 5, 1) := by decide +kernel
theorem dX12_operand_429 : decode cX12_operand 429 = .ok (.if_icmp .lt 10, 3) := by decide +kernel
theorem dX12_operand_432 : decode cX12_operand 432 = .ok (.aload_n 0, 1) := by decide +kernel
theorem dX12_operand_433 : decode cX12_operand 433 = .ok (.getfield 103, 3) := by decide +kernel
theorem dX12_operand_436 : decode cX12_operand 436 = .ok (.ifCond .eq 16, 3) := by decide +kernel
theorem dX12_operand_439 : decode cX12_operand 439 = .ok (.iload_n 3, 1) := by decide +kernel
theorem dX12_operand_440 : decode cX12_operand 440 = .ok (.iconst 5, 1) := by decide +kernel
theorem dX12_operand_441 : decode cX12_operand 441 = .ok (.if_icmp .le 13, 3) := by decide +kernel
theorem dX12_operand_444 : decode cX12_operand 444 = .ok (.aload_n 0, 1) := by decide +kernel
theorem dX12_operand_445 : decode cX12_operand 445 = .ok (.getfield 103, 3) := by decide +kernel
theorem dX12_operand_448 : decode cX12_operand 448 = .ok (.iconst 1, 1) := by decide +kernel
theorem dX12_operand_449 : decode cX12_operand 449 = .ok (.if_icmp .ne 5, 3) := by decide +kernel
theorem dX12_operand_452 : decode cX12_operand 452 = .ok (.iconst (-1), 1) := by decide +kernel
theorem dX12_operand_453 : decode cX12_operand 453 = .ok (.istore_n 3, 1) := by decide +kernel
theorem dX12_operand_454 : decode cX12_operand 454 = .ok (.iload_n 3, 1) := by decide +kernel
theorem dX12_operand_455 : decode cX12_operand 455 = .ok (.iconst (-1), 1) := by decide +kernel
theorem dX12_operand_456 : decode cX12_operand 456 = .ok (.if_icmp .ne 12, 3) := by decide +kernel
theorem dX12_operand_459 : decode cX12_operand 459 = .ok (.aload_n 0, 1) := by decide +kernel
theorem dX12_operand_460 : decode cX12_operand 460 = .ok (.iconst 1, 1) := by decide +kernel
theorem dX12_operand_461 : decode cX12_operand 461 = .ok (.aload_n 0, 1) := by decide +kernel
theorem dX12_operand_462 : decode cX12_operand 462 = .ok (.getfield 23, 3) := by decide +kernel
theorem dX12_operand_465 : decode cX12_operand 465 = .ok (.invokevirtual 255, 3) := by decide +kernel
theorem dX12_operand_468 : decode cX12_operand 468 = .ok (.aload_n 0, 1) := by decide +kernel
theorem dX12_operand_469 : decode cX12_operand 469 = .ok (.getfield 36, 3) := by decide +kernel
theorem dX12_operand_472 : decode cX12_operand 472 = .ok (.ifCond .le 5, 3) := by decide +kernel
theorem dX12_operand_475 : decode cX12_operand 475 = .ok (.iconst 1, 1) := by decide +kernel
theorem dX12_operand_476 : decode cX12_operand 476 = .ok (.ireturn, 1) := by decide +kernel
theorem dX12_operand_477 : decode cX12_operand 477 = .ok (.aload_n 0, 1) := by decide +kernel
theorem dX12_operand_478 : decode cX12_operand 478 = .ok (.iload_n 3, 1) := by decide +kernel
theorem dX12_operand_479 : decode cX12_operand 479 = .ok (.aload_n 0, 1) := by decide +kernel
theorem dX12_operand_480 : decode cX12_operand 480 = .ok (.getfield 29, 3) := by decide +kernel
theorem dX12_operand_483 : decode cX12_operand 483 = .ok (.invokevirtual 330, 3) := by decide +kernel
theorem dX12_operand_486 : decode cX12_operand 486 = .ok (.aload_n 0, 1) := by decide +kernel
theorem dX12_operand_487 : decode cX12_operand 487 = .ok (.invokevirtual 272, 3) := by decide +kernel
theorem dX12_operand_490 : decode cX12_operand 490 = .ok (.iconst 1, 1) := by decide +kernel
theorem dX12_operand_491 : decode cX12_operand 491 = .ok (.ireturn, 1) := by decide +kernel
theorem dX12_goesOn_0 : decode cX12_goesOn 0 = .ok (.aload_n 0, 1) := by decide +kernel
theorem dX12_goesOn_1 : decode cX12_goesOn 1 = .ok (.invokevirtual 266, 3) := by decide +kernel
theorem dX12_goesOn_4 : decode cX12_goesOn 4 = .ok (.aload_n 0, 1) := by decide +kernel
theorem dX12_goesOn_5 : decode cX12_goesOn 5 = .ok (.getfield 36, 3) := by decide +kernel
theorem dX12_goesOn_8 : decode cX12_goesOn 8 = .ok (.ifCond .le 5, 3) := by decide +kernel
theorem dX12_goesOn_11 : decode cX12_goesOn 11 = .ok (.iconst 0, 1) := by decide +kernel
theorem dX12_goesOn_12 : decode cX12_goesOn 12 = .ok (.ireturn, 1) := by decide +kernel
theorem dX12_goesOn_13 : decode cX12_goesOn 13 = .ok (.aload_n 0, 1) := by decide +kernel
theorem dX12_goesOn_14 : decode cX12_goesOn 14 = .ok (.getfield 122, 3) := by decide +kernel
theorem dX12_goesOn_17 : decode cX12_goesOn 17 = .ok (.iconst 1, 1) := by decide +kernel
theorem dX12_goesOn_18 : decode cX12_goesOn 18 = .ok (.isub, 1) := by decide +kernel
theorem dX12_goesOn_19 : decode cX12_goesOn 19 = .ok (.istore_n 1, 1) := by decide +kernel
theorem dX12_goesOn_20 : decode cX12_goesOn 20 = .ok (.aload_n 0, 1) := by decide +kernel
theorem dX12_goesOn_21 : decode cX12_goesOn 21 = .ok (.getfield 106, 3) := by decide +kernel
theorem dX12_goesOn_24 : decode cX12_goesOn 24 = .ok (.iload_n 1, 1) := by decide +kernel
theorem dX12_goesOn_25 : decode cX12_goesOn 25 = .ok (.iaload, 1) := by decide +kernel
theorem dX12_goesOn_26 : decode cX12_goesOn 26 = .ok (.istore_n 2, 1) := by decide +kernel
theorem dX12_goesOn_27 : decode cX12_goesOn 27 = .ok (.iload_n 2, 1) := by decide +kernel
theorem dX12_goesOn_28 : decode cX12_goesOn 28 = .ok (.invokestatic 336, 3) := by decide +kernel
theorem dX12_goesOn_31 : decode cX12_goesOn 31 = .ok (.istore_n 3, 1) := by decide +kernel
theorem dX12_goesOn_32 : decode cX12_goesOn 32 = .ok (.aload_n 0, 1) := by decide +kernel
theorem dX12_goesOn_33 : decode cX12_goesOn 33 = .ok (.getfield 109, 3) := by decide +kernel
theorem dX12_goesOn_36 : decode cX12_goesOn 36 = .ok (.iload_n 1, 1) := by decide +kernel
theorem dX12_goesOn_37 : decode cX12_goesOn 37 = .ok (.iaload, 1) := by decide +kernel
theorem dX12_goesOn_38 : decode cX12_goesOn 38 = .ok (.iconst 2, 1) := by decide +kernel
theorem dX12_goesOn_39 : decode cX12_goesOn 39 = .ok (.if_icmp .ge 149, 3) := by decide +kernel
theorem dX12_goesOn_42 : decode cX12_goesOn 42 = .ok (.aload_n 0, 1) := by decide +kernel
theorem dX12_goesOn_43 : decode cX12_goesOn 43 = .ok (.bipush 43, 2) := by decide +kernel
theorem dX12_goesOn_45 : decode cX12_goesOn 45 = .ok (.invokevirtual 269, 3) := by decide +kernel
theorem dX12_goesOn_48 : decode cX12_goesOn 48 = .ok (.ifCond .ne 39, 3) := by decide +kernel
theorem dX12_goesOn_51 : decode cX12_goesOn 51 = .ok (.aload_n 0, 1) := by decide +kernel
theorem dX12_goesOn_52 : decode cX12_goesOn 52 = .ok (.bipush 45, 2) := by decide +kernel
theorem dX12_goesOn_54 : decode cX12_goesOn 54 = .ok (.invokevirtual 269, 3) := by decide +kernel
theorem dX12_goesOn_57 : decode cX12_goesOn 57 = .ok (.ifCond .ne 30, 3) := by decide +kernel
theorem dX12_goesOn_60 : decode cX12_goesOn 60 = .ok (.aload_n 0, 1) := by decide +kernel
theorem dX12_goesOn_61 : decode cX12_goesOn 61 = .ok (.bipush 42, 2) := by decide +kernel
theorem dX12_goesOn_63 : decode cX12_goesOn 63 = .ok (.invokevirtual 269, 3) := by decide +kernel
theorem dX12_goesOn_66 : decode cX12_goesOn 66 = .ok (.ifCond .ne 21, 3) := by decide +kernel
theorem dX12_goesOn_69 : decode cX12_goesOn 69 = .ok (.aload_n 0, 1) := by decide +kernel
theorem dX12_goesOn_70 : decode cX12_goesOn 70 = .ok (.bipush 47, 2) := by decide +kernel
theorem dX12_goesOn_72 : decode cX12_goesOn 72 = .ok (.invokevirtual 269, 3) := by decide +kernel
theorem dX12_goesOn_75 : decode cX12_goesOn 75 = .ok (.ifCond .ne 12, 3) := by decide +kernel
theorem dX12_goesOn_78 : decode cX12_goesOn 78 = .ok (.aload_n 0, 1) := by decide +kernel
theorem dX12_goesOn_79 : decode cX12_goesOn 79 = .ok (.bipush 37, 2) := by decide +kernel
theorem dX12_goesOn_81 : decode cX12_goesOn 81 = .ok (.invokevirtual 269, 3) := by decide +kernel
theorem dX12_goesOn_84 : decode cX12_goesOn 84 = .ok (.ifCond .eq 104, 3) := by decide +kernel
theorem dX12_goesOn_87 : decode cX12_goesOn 87 = .ok (.aload_n 0, 1) := by decide +kernel
theorem dX12_goesOn_88 : decode cX12_goesOn 88 = .ok (.aload_n 0, 1) := by decide +kernel
theorem dX12_goesOn_89 : decode cX12_goesOn 89 = .ok (.bipush 43, 2) := by decide +kernel
theorem dX12_goesOn_91 : decode cX12_goesOn 91 = .ok (.invokevirtual 269, 3) := by decide +kernel
theorem dX12_goesOn_94 : decode cX12_goesOn 94 = .ok (.ifCond .ne 12, 3) := by decide +kernel
theorem dX12_goesOn_97 : decode cX12_goesOn 97 = .ok (.aload_n 0, 1) := by decide +kernel
theorem dX12_goesOn_98 : decode cX12_goesOn 98 = .ok (.bipush 45, 2) := by decide +kernel
theorem dX12_goesOn_100 : decode cX12_goesOn 100 = .ok (.invokevirtual 269, 3) := by decide +kernel
theorem dX12_goesOn_103 : decode cX12_goesOn 103 = .ok (.ifCond .eq 7, 3) := by decide +kernel
theorem dX12_goesOn_106 : decode cX12_goesOn 106 = .ok (.iconst 5, 1) := by decide +kernel
theorem dX12_goesOn_107 : decode cX12_goesOn 107 = .ok (.goto 5, 3) := by decide +kernel
theorem dX12_goesOn_110 : decode cX12_goesOn 110 = .ok (.bipush 6, 2) := by decide +kernel
theorem dX12_goesOn_112 : decode cX12_goesOn 112 = .ok (.invokevirtual 349, 3) := by decide +kernel
theorem dX12_goesOn_115 : decode cX12_goesOn 115 = .ok (.aload_n 0, 1) := by decide +kernel
theorem dX12_goesOn_116 : decode cX12_goesOn 116 = .ok (.aload_n 0, 1) := by decide +kernel
theorem dX12_goesOn_117 : decode cX12_goesOn 117 = .ok (.bipush 43, 2) := by decide +kernel
theorem dX12_goesOn_119 : decode cX12_goesOn 119 = .ok (.invokevirtual 269, 3) := by decide +kernel
theorem dX12_goesOn_122 : decode cX12_goesOn 122 = .ok (.ifCond .eq 8, 3) := by decide +kernel
theorem dX12_goesOn_125 : decode cX12_goesOn 125 = .ok (.bipush 31, 2) := by decide +kernel
theorem dX12_goesOn_127 : decode cX12_goesOn 127 = .ok (.goto 47, 3) := by decide +kernel
theorem dX12_goesOn_130 : decode cX12_goesOn 130 = .ok (.aload_n 0, 1) := by decide +kernel
theorem dX12_goesOn_131 : decode cX12_goesOn 131 = .ok (.bipush 45, 2) := by decide +kernel
theorem dX12_goesOn_133 : decode cX12_goesOn 133 = .ok (.invokevirtual 269, 3) := by decide +kernel
theorem dX12_goesOn_136 : decode cX12_goesOn 136 = .ok (.ifCond .eq 8, 3) := by decide +kernel
theorem dX12_goesOn_139 : decode cX12_goesOn 139 = .ok (.bipush 32, 2) := by decide +kernel
theorem dX12_goesOn_141 : decode cX12_goesOn 141 = .ok (.goto 33, 3) := by decide +kernel
theorem dX12_goesOn_144 : decode cX12_goesOn 144 = .ok (.aload_n 0, 1) := by decide +kernel
theorem dX12_goesOn_145 : decode cX12_goesOn 145 = .ok (.bipush 42, 2) := by decide +kernel
theorem dX12_goesOn_147 : decode cX12_goesOn 147 = .ok (.invokevirtual 269, 3) := by decide +kernel
theorem dX12_goesOn_150 : decode cX12_goesOn 150 = .ok (.ifCond .eq 8, 3) := by decide +kernel
theorem dX12_goesOn_153 : decode cX12_goesOn 153 = .ok (.bipush 33, 2) := by decide +kernel
theorem dX12_goesOn_155 : decode cX12_goesOn 155 = .ok (.goto 19, 3) := by decide +kernel
theorem dX12_goesOn_158 : decode cX12_goesOn 158 = .ok (.aload_n 0, 1) := by decide +kernel
theorem dX12_goesOn_159 : decode cX12_goesOn 159 = .ok (.bipush 47, 2) := by decide +kernel
theorem dX12_goesOn_161 : decode cX12_goesOn 161 = .ok (.invokevirtual 269, 3) := by decide +kernel
theorem dX12_goesOn_164 : decode cX12_goesOn 164 = .ok (.ifCond .eq 8, 3) := by decide +kernel
theorem dX12_goesOn_167 : decode cX12_goesOn 167 = .ok (.bipush 34, 2) := by decide +kernel
theorem dX12_goesOn_169 : decode cX12_goesOn 169 = .ok (.goto 5, 3) := by decide +kernel
theorem dX12_goesOn_172 : decode cX12_goesOn 172 = .ok (.bipush 35, 2) := by decide +kernel
theorem dX12_goesOn_174 : decode cX12_goesOn 174 = .ok (.invokevirtual 343, 3) := by decide +kernel
theorem dX12_goesOn_177 : decode cX12_goesOn 177 = .ok (.aload_n 0, 1) := by decide +kernel
theorem dX12_goesOn_178 : decode cX12_goesOn 178 = .ok (.invokevirtual 272, 3) := by decide +kernel
theorem dX12_goesOn_181 : decode cX12_goesOn 181 = .ok (.aload_n 0, 1) := by decide +kernel
theorem dX12_goesOn_182 : decode cX12_goesOn 182 = .ok (.iconst 0, 1) := by decide +kernel
theorem dX12_goesOn_183 : decode cX12_goesOn 183 = .ok (.putfield 134, 3) := by decide +kernel
theorem dX12_goesOn_186 : decode cX12_goesOn 186 = .ok (.iconst 1, 1) := by decide +kernel
theorem dX12_goesOn_187 : decode cX12_goesOn 187 = .ok (.ireturn, 1) := by decide +kernel
theorem dX12_goesOn_188 : decode cX12_goesOn 188 = .ok (.iload_n 3, 1) := by decide +kernel
theorem dX12_goesOn_189 : decode cX12_goesOn 189 = .ok (.ifCond .eq 96, 3) := by decide +kernel
theorem dX12_goesOn_192 : decode cX12_goesOn 192 = .ok (.aload_n 0, 1) := by decide +kernel
theorem dX12_goesOn_193 : decode cX12_goesOn 193 = .ok (.getfield 109, 3) := by decide +kernel
theorem dX12_goesOn_196 : decode cX12_goesOn 196 = .ok (.iload_n 1, 1) := by decide +kernel
theorem dX12_goesOn_197 : decode cX12_goesOn 197 = .ok (.iaload, 1) := by decide +kernel
theorem dX12_goesOn_198 : decode cX12_goesOn 198 = .ok (.ifCond .ne 87, 3) := by decide +kernel
theorem dX12_goesOn_201 : decode cX12_goesOn 201 = .ok (.aload_n 0, 1) := by decide +kernel
theorem dX12_goesOn_202 : decode cX12_goesOn 202 = .ok (.bipush 60, 2) := by decide +kernel
theorem dX12_goesOn_204 : decode cX12_goesOn 204 = .ok (.invokevirtual 269, 3) := by decide +kernel
theorem dX12_goesOn_207 : decode cX12_goesOn 207 = .ok (.ifCond .ne 21, 3) := by decide +kernel
theorem dX12_goesOn_210 : decode cX12_goesOn 210 = .ok (.aload_n 0, 1) := by decide +kernel
theorem dX12_goesOn_211 : decode cX12_goesOn 211 = .ok (.bipush 62, 2) := by decide +kernel
theorem dX12_goesOn_213 : decode cX12_goesOn 213 = .ok (.invokevirtual 269, 3) := by decide +kernel
theorem dX12_goesOn_216 : decode cX12_goesOn 216 = .ok (.ifCond .ne 12, 3) := by decide +kernel
theorem dX12_goesOn_219 : decode cX12_goesOn 219 = .ok (.aload_n 0, 1) := by decide +kernel
theorem dX12_goesOn_220 : decode cX12_goesOn 220 = .ok (.bipush 61, 2) := by decide +kernel
theorem dX12_goesOn_222 : decode cX12_goesOn 222 = .ok (.invokevirtual 269, 3) := by decide +kernel
theorem dX12_goesOn_225 : decode cX12_goesOn 225 = .ok (.ifCond .eq 60, 3) := by decide +kernel
theorem dX12_goesOn_228 : decode cX12_goesOn 228 = .ok (.aload_n 0, 1) := by decide +kernel
theorem dX12_goesOn_229 : decode cX12_goesOn 229 = .ok (.iconst 5, 1) := by decide +kernel
theorem dX12_goesOn_230 : decode cX12_goesOn 230 = .ok (.invokevirtual 349, 3) := by decide +kernel
theorem dX12_goesOn_233 : decode cX12_goesOn 233 = .ok (.aload_n 0, 1) := by decide +kernel
theorem dX12_goesOn_234 : decode cX12_goesOn 234 = .ok (.aload_n 0, 1) := by decide +kernel
theorem dX12_goesOn_235 : decode cX12_goesOn 235 = .ok (.bipush 60, 2) := by decide +kernel
theorem dX12_goesOn_237 : decode cX12_goesOn 237 = .ok (.invokevirtual 269, 3) := by decide +kernel
theorem dX12_goesOn_240 : decode cX12_goesOn 240 = .ok (.ifCond .eq 8, 3) := by decide +kernel
theorem dX12_goesOn_243 : decode cX12_goesOn 243 = .ok (.bipush 38, 2) := by decide +kernel
theorem dX12_goesOn_245 : decode cX12_goesOn 245 = .ok (.goto 19, 3) := by decide +kernel
theorem dX12_goesOn_248 : decode cX12_goesOn 248 = .ok (.aload_n 0, 1) := by decide +kernel
theorem dX12_goesOn_249 : decode cX12_goesOn 249 = .ok (.bipush 62, 2) := by decide +kernel
theorem dX12_goesOn_251 : decode cX12_goesOn 251 = .ok (.invokevirtual 269, 3) := by decide +kernel
theorem dX12_goesOn_254 : decode cX12_goesOn 254 = .ok (.ifCond .eq 8, 3) := by decide +kernel
theorem dX12_goesOn_257 : decode cX12_goesOn 257 = .ok (.bipush 39, 2) := by decide +kernel
theorem dX12_goesOn_259 : decode cX12_goesOn 259 = .ok (.goto 5, 3) := by decide +kernel
theorem dX12_goesOn_262 : decode cX12_goesOn 262 = .ok (.bipush 40, 2) := by decide +kernel
theorem dX12_goesOn_264 : decode cX12_goesOn 264 = .ok (.invokevirtual 343, 3) := by decide +kernel
theorem dX12_goesOn_267 : decode cX12_goesOn 267 = .ok (.aload_n 0, 1) := by decide +kernel
theorem dX12_goesOn_268 : decode cX12_goesOn 268 = .ok (.getfield 109, 3) := by decide +kernel
theorem dX12_goesOn_271 : decode cX12_goesOn 271 = .ok (.iload_n 1, 1) := by decide +kernel
theorem dX12_goesOn_272 : decode cX12_goesOn 272 = .ok (.iconst 1, 1) := by decide +kernel
theorem dX12_goesOn_273 : decode cX12_goesOn 273 = .ok (.iastore, 1) := by decide +kernel
theorem dX12_goesOn_274 : decode cX12_goesOn 274 = .ok (.aload_n 0, 1) := by decide +kernel
theorem dX12_goesOn_275 : decode cX12_goesOn 275 = .ok (.invokevirtual 272, 3) := by decide +kernel
theorem dX12_goesOn_278 : decode cX12_goesOn 278 = .ok (.aload_n 0, 1) := by decide +kernel
theorem dX12_goesOn_279 : decode cX12_goesOn 279 = .ok (.iconst 0, 1) := by decide +kernel
theorem dX12_goesOn_280 : decode cX12_goesOn 280 = .ok (.putfield 134, 3) := by decide +kernel
theorem dX12_goesOn_283 : decode cX12_goesOn 283 = .ok (.iconst 1, 1) := by decide +kernel
theorem dX12_goesOn_284 : decode cX12_goesOn 284 = .ok (.ireturn, 1) := by decide +kernel
theorem dX12_goesOn_285 : decode cX12_goesOn 285 = .ok (.iload_n 3, 1) := by decide +kernel
theorem dX12_goesOn_286 : decode cX12_goesOn 286 = .ok (.ifCond .eq 114, 3) := by decide +kernel
theorem dX12_goesOn_289 : decode cX12_goesOn 289 = .ok (.aload_n 0, 1) := by decide +kernel
theorem dX12_goesOn_290 : decode cX12_goesOn 290 = .ok (.ldc2_w 313, 3) := by decide +kernel
theorem dX12_goesOn_293 : decode cX12_goesOn 293 = .ok (.invokevirtual 339, 3) := by decide +kernel
theorem dX12_goesOn_296 : decode cX12_goesOn 296 = .ok (.ifCond .ne 13, 3) := by decide +kernel
theorem dX12_goesOn_299 : decode cX12_goesOn 299 = .ok (.aload_n 0, 1) := by decide +kernel
theorem dX12_goesOn_300 : decode cX12_goesOn 300 = .ok (.ldc2_w 311, 3) := by decide +kernel
theorem dX12_goesOn_303 : decode cX12_goesOn 303 = .ok (.invokevirtual 339, 3) := by decide +kernel
theorem dX12_goesOn_306 : decode cX12_goesOn 306 = .ok (.ifCond .eq 94, 3) := by decide +kernel
theorem dX12_goesOn_309 : decode cX12_goesOn 309 = .ok (.aload_n 0, 1) := by decide +kernel
theorem dX12_goesOn_310 : decode cX12_goesOn 310 = .ok (.getfield 109, 3) := by decide +kernel
theorem dX12_goesOn_313 : decode cX12_goesOn 313 = .ok (.iload_n 1, 1) := by decide +kernel
theorem dX12_goesOn_314 : decode cX12_goesOn 314 = .ok (.iaload, 1) := by decide +kernel
theorem dX12_goesOn_315 : decode cX12_goesOn 315 = .ok (.ifCond .ne 12, 3) := by decide +kernel
theorem dX12_goesOn_318 : decode cX12_goesOn 318 = .ok (.aload_n 0, 1) := by decide +kernel
theorem dX12_goesOn_319 : decode cX12_goesOn 319 = .ok (.iconst 1, 1) := by decide +kernel
theorem dX12_goesOn_320 : decode cX12_goesOn 320 = .ok (.aload_n 0, 1) := by decide +kernel
theorem dX12_goesOn_321 : decode cX12_goesOn 321 = .ok (.getfield 23, 3) := by decide +kernel
theorem dX12_goesOn_324 : decode cX12_goesOn 324 = .ok (.invokevirtual 255, 3) := by decide +kernel
theorem dX12_goesOn_327 : decode cX12_goesOn 327 = .ok (.aload_n 0, 1) := by decide +kernel
theorem dX12_goesOn_328 : decode cX12_goesOn 328 = .ok (.getfield 36, 3) := by decide +kernel
theorem dX12_goesOn_331 : decode cX12_goesOn 331 = .ok (.ifCond .le 5, 3) := by decide +kernel
theorem dX12_goesOn_334 : decode cX12_goesOn 334 = .ok (.iconst 0, 1) := by decide +kernel
theorem dX12_goesOn_335 : decode cX12_goesOn 335 = .ok (.ireturn, 1) := by decide +kernel
theorem dX12_goesOn_336 : decode cX12_goesOn 336 = .ok (.aload_n 0, 1) := by decide +kernel
theorem dX12_goesOn_337 : decode cX12_goesOn 337 = .ok (.ldc2_w 313, 3) := by decide +kernel
theorem dX12_goesOn_340 : decode cX12_goesOn 340 = .ok (.invokevirtual 339, 3) := by decide +kernel
theorem dX12_goesOn_343 : decode cX12_goesOn 343 = .ok (.istore 4, 2) := by decide +kernel
theorem dX12_goesOn_345 : decode cX12_goesOn 345 = .ok (.aload_n 0, 1) := by decide +kernel
theorem dX12_goesOn_346 : decode cX12_goesOn 346 = .ok (.iload 4, 2) := by decide +kernel
theorem dX12_goesOn_348 : decode cX12_goesOn 348 = .ok (.ifCond .eq 7, 3) := by decide +kernel
theorem dX12_goesOn_351 : decode cX12_goesOn 351 = .ok (.iconst 2, 1) := by decide +kernel
theorem dX12_goesOn_352 : decode cX12_goesOn 352 = .ok (.goto 4, 3) := by decide +kernel
theorem dX12_goesOn_355 : decode cX12_goesOn 355 = .ok (.iconst 1, 1) := by decide +kernel
theorem dX12_goesOn_356 : decode cX12_goesOn 356 = .ok (.invokevirtual 349, 3) := by decide +kernel
theorem dX12_goesOn_359 : decode cX12_goesOn 359 = .ok (.aload_n 0, 1) := by decide +kernel
theorem dX12_goesOn_360 : decode cX12_goesOn 360 = .ok (.iload 4, 2) := by decide +kernel
theorem dX12_goesOn_362 : decode cX12_goesOn 362 = .ok (.ifCond .eq 8, 3) := by decide +kernel
theorem dX12_goesOn_365 : decode cX12_goesOn 365 = .ok (.bipush 41, 2) := by decide +kernel
theorem dX12_goesOn_367 : decode cX12_goesOn 367 = .ok (.goto 5, 3) := by decide +kernel
theorem dX12_goesOn_370 : decode cX12_goesOn 370 = .ok (.bipush 42, 2) := by decide +kernel
theorem dX12_goesOn_372 : decode cX12_goesOn 372 = .ok (.invokevirtual 343, 3) := by decide +kernel
theorem dX12_goesOn_375 : decode cX12_goesOn 375 = .ok (.aload_n 0, 1) := by decide +kernel
theorem dX12_goesOn_376 : decode cX12_goesOn 376 = .ok (.getfield 109, 3) := by decide +kernel
theorem dX12_goesOn_379 : decode cX12_goesOn 379 = .ok (.iload_n 1, 1) := by decide +kernel
theorem dX12_goesOn_380 : decode cX12_goesOn 380 = .ok (.iconst 0, 1) := by decide +kernel
theorem dX12_goesOn_381 : decode cX12_goesOn 381 = .ok (.iastore, 1) := by decide +kernel
theorem dX12_goesOn_382 : decode cX12_goesOn 382 = .ok (.aload_n 0, 1) := by decide +kernel
theorem dX12_goesOn_383 : decode cX12_goesOn 383 = .ok (.getfield 112, 3) := by decide +kernel
theorem dX12_goesOn_386 : decode cX12_goesOn 386 = .ok (.iload_n 1, 1) := by decide +kernel
theorem dX12_goesOn_387 : decode cX12_goesOn 387 = .ok (.iconst 1, 1) := by decide +kernel
theorem dX12_goesOn_388 : decode cX12_goesOn 388 = .ok (.bastore, 1) := by decide +kernel
theorem dX12_goesOn_389 : decode cX12_goesOn 389 = .ok (.aload_n 0, 1) := by decide +kernel
theorem dX12_goesOn_390 : decode cX12_goesOn 390 = .ok (.invokevirtual 272, 3) := by decide +kernel
theorem dX12_goesOn_393 : decode cX12_goesOn 393 = .ok (.aload_n 0, 1) := by decide +kernel
theorem dX12_goesOn_394 : decode cX12_goesOn 394 = .ok (.iconst 0, 1) := by decide +kernel
theorem dX12_goesOn_395 : decode cX12_goesOn 395 = .ok (.putfield 134, 3) := by decide +kernel
theorem dX12_goesOn_398 : decode cX12_goesOn 398 = .ok (.iconst 1, 1) := by decide +kernel
theorem dX12_goesOn_399 : decode cX12_goesOn 399 = .ok (.ireturn, 1) := by decide +kernel
theorem dX12_goesOn_400 : decode cX12_goesOn 400 = .ok (.iload_n 3, 1) := by decide +kernel
theorem dX12_goesOn_401 : decode cX12_goesOn 401 = .ok (.ifCond .eq 21, 3) := by decide +kernel
theorem dX12_goesOn_404 : decode cX12_goesOn 404 = .ok (.aload_n 0, 1) := by decide +kernel
theorem dX12_goesOn_405 : decode cX12_goesOn 405 = .ok (.getfield 109, 3) := by decide +kernel
theorem dX12_goesOn_408 : decode cX12_goesOn 408 = .ok (.iload_n 1, 1) := by decide +kernel
theorem dX12_goesOn_409 : decode cX12_goesOn 409 = .ok (.iaload, 1) := by decide +kernel
theorem dX12_goesOn_410 : decode cX12_goesOn 410 = .ok (.ifCond .ne 12, 3) := by decide +kernel
theorem dX12_goesOn_413 : decode cX12_goesOn 413 = .ok (.aload_n 0, 1) := by decide +kernel
theorem dX12_goesOn_414 : decode cX12_goesOn 414 = .ok (.iconst 1, 1) := by decide +kernel
theorem dX12_goesOn_415 : decode cX12_goesOn 415 = .ok (.aload_n 0, 1) := by decide +kernel
theorem dX12_goesOn_416 : decode cX12_goesOn 416 = .ok (.getfield 23, 3) := by decide +kernel
theorem dX12_goesOn_419 : decode cX12_goesOn 419 = .ok (.invokevirtual 255, 3) := by decide +kernel
theorem dX12_goesOn_422 : decode cX12_goesOn 422 = .ok (.iload_n 2, 1) := by decide +kernel
theorem dX12_goesOn_423 : decode cX12_goesOn 423 = .ok (.iconst 2, 1) := by decide +kernel
theorem dX12_goesOn_424 : decode cX12_goesOn 424 = .ok (.if_icmp .ge 17, 3) := by decide +kernel
theorem dX12_goesOn_427 : decode cX12_goesOn 427 = .ok (.aload_n 0, 1) := by decide +kernel
theorem dX12_goesOn_428 : decode cX12_goesOn 428 = .ok (.getfield 36, 3) := by decide +kernel
theorem dX12_goesOn_431 : decode cX12_goesOn 431 = .ok (.ifCond .ne 8, 3) := by decide +kernel
theorem dX12_goesOn_434 : decode cX12_goesOn 434 = .ok (.aload_n 0, 1) := by decide +kernel
theorem dX12_goesOn_435 : decode cX12_goesOn 435 = .ok (.iconst 1, 1) := by decide +kernel
theorem dX12_goesOn_436 : decode cX12_goesOn 436 = .ok (.invokevirtual 349, 3) := by decide +kernel
theorem dX12_goesOn_439 : decode cX12_goesOn 439 = .ok (.iconst 0, 1) := by decide +kernel
theorem dX12_goesOn_440 : decode cX12_goesOn 440 = .ok (.ireturn, 1) := by decide +kernel
theorem dX12_goesOn_441 : decode cX12_goesOn 441 = .ok (.iload_n 2, 1) := by decide +kernel
theorem dX12_goesOn_442 : decode cX12_goesOn 442 = .ok (.iconst 3, 1) := by decide +kernel
theorem dX12_goesOn_443 : decode cX12_goesOn 443 = .ok (.if_icmp .eq 9, 3) := by decide +kernel
theorem dX12_goesOn_446 : decode cX12_goesOn 446 = .ok (.iload_n 2, 1) := by decide +kernel
theorem dX12_goesOn_447 : decode cX12_goesOn 447 = .ok (.bipush 6, 2) := by decide +kernel
theorem dX12_goesOn_449 : decode cX12_goesOn 449 = .ok (.if_icmp .ne 69, 3) := by decide +kernel
theorem dX12_goesOn_452 : decode cX12_goesOn 452 = .ok (.aload_n 0, 1) := by decide +kernel
theorem dX12_goesOn_453 : decode cX12_goesOn 453 = .ok (.bipush 44, 2) := by decide +kernel
theorem dX12_goesOn_455 : decode cX12_goesOn 455 = .ok (.invokevirtual 269, 3) := by decide +kernel
theorem dX12_goesOn_458 : decode cX12_goesOn 458 = .ok (.ifCond .ne 12, 3) := by decide +kernel
theorem dX12_goesOn_461 : decode cX12_goesOn 461 = .ok (.aload_n 0, 1) := by decide +kernel
theorem dX12_goesOn_462 : decode cX12_goesOn 462 = .ok (.iconst 1, 1) := by decide +kernel
theorem dX12_goesOn_463 : decode cX12_goesOn 463 = .ok (.aload_n 0, 1) := by decide +kernel
theorem dX12_goesOn_464 : decode cX12_goesOn 464 = .ok (.getfield 23, 3) := by decide +kernel
theorem dX12_goesOn_467 : decode cX12_goesOn 467 = .ok (.invokevirtual 255, 3) := by decide +kernel
theorem dX12_goesOn_470 : decode cX12_goesOn 470 = .ok (.aload_n 0, 1) := by decide +kernel
theorem dX12_goesOn_471 : decode cX12_goesOn 471 = .ok (.getfield 36, 3) := by decide +kernel
theorem dX12_goesOn_474 : decode cX12_goesOn 474 = .ok (.ifCond .le 5, 3) := by decide +kernel
theorem dX12_goesOn_477 : decode cX12_goesOn 477 = .ok (.iconst 0, 1) := by decide +kernel
theorem dX12_goesOn_478 : decode cX12_goesOn 478 = .ok (.ireturn, 1) := by decide +kernel
theorem dX12_goesOn_479 : decode cX12_goesOn 479 = .ok (.aload_n 0, 1) := by decide +kernel
theorem dX12_goesOn_480 : decode cX12_goesOn 480 = .ok (.iconst 1, 1) := by decide +kernel
theorem dX12_goesOn_481 : decode cX12_goesOn 481 = .ok (.invokevirtual 349, 3) := by decide +kernel
theorem dX12_goesOn_484 : decode cX12_goesOn 484 = .ok (.aload_n 0, 1) := by decide +kernel
theorem dX12_goesOn_485 : decode cX12_goesOn 485 = .ok (.getfield 106, 3) := by decide +kernel
theorem dX12_goesOn_488 : decode cX12_goesOn 488 = .ok (.iload_n 1, 1) := by decide +kernel
theorem dX12_goesOn_489 : decode cX12_goesOn 489 = .ok (.iload_n 2, 1) := by decide +kernel
theorem dX12_goesOn_490 : decode cX12_goesOn 490 = .ok (.iconst 3, 1) := by decide +kernel
theorem dX12_goesOn_491 : decode cX12_goesOn 491 = .ok (.if_icmp .ne 7, 3) := by decide +kernel
theorem dX12_goesOn_494 : decode cX12_goesOn 494 = .ok (.iconst 4, 1) := by decide +kernel
theorem dX12_goesOn_495 : decode cX12_goesOn 495 = .ok (.goto 4, 3) := by decide +kernel
theorem dX12_goesOn_498 : decode cX12_goesOn 498 = .ok (.iconst 3, 1) := by decide +kernel
theorem dX12_goesOn_499 : decode cX12_goesOn 499 = .ok (.iastore, 1) := by decide +kernel
theorem dX12_goesOn_500 : decode cX12_goesOn 500 = .ok (.aload_n 0, 1) := by decide +kernel
theorem dX12_goesOn_501 : decode cX12_goesOn 501 = .ok (.getfield 109, 3) := by decide +kernel
theorem dX12_goesOn_504 : decode cX12_goesOn 504 = .ok (.iload_n 1, 1) := by decide +kernel
theorem dX12_goesOn_505 : decode cX12_goesOn 505 = .ok (.iconst 0, 1) := by decide +kernel
theorem dX12_goesOn_506 : decode cX12_goesOn 506 = .ok (.iastore, 1) := by decide +kernel
theorem dX12_goesOn_507 : decode cX12_goesOn 507 = .ok (.aload_n 0, 1) := by decide +kernel
theorem dX12_goesOn_508 : decode cX12_goesOn 508 = .ok (.invokevirtual 272, 3) := by decide +kernel
theorem dX12_goesOn_511 : decode cX12_goesOn 511 = .ok (.aload_n 0, 1) := by decide +kernel
theorem dX12_goesOn_512 : decode cX12_goesOn 512 = .ok (.iconst 0, 1) := by decide +kernel
theorem dX12_goesOn_513 : decode cX12_goesOn 513 = .ok (.putfield 134, 3) := by decide +kernel
theorem dX12_goesOn_516 : decode cX12_goesOn 516 = .ok (.iconst 1, 1) := by decide +kernel
theorem dX12_goesOn_517 : decode cX12_goesOn 517 = .ok (.ireturn, 1) := by decide +kernel
theorem dX12_goesOn_518 : decode cX12_goesOn 518 = .ok (.aload_n 0, 1) := by decide +kernel
theorem dX12_goesOn_519 : decode cX12_goesOn 519 = .ok (.iload_n 2, 1) := by decide +kernel
theorem dX12_goesOn_520 : decode cX12_goesOn 520 = .ok (.iconst 5, 1) := by decide +kernel
theorem dX12_goesOn_521 : decode cX12_goesOn 521 = .ok (.if_icmp .ne 8, 3) := by decide +kernel
theorem dX12_goesOn_524 : decode cX12_goesOn 524 = .ok (.bipush 93, 2) := by decide +kernel
theorem dX12_goesOn_526 : decode cX12_goesOn 526 = .ok (.goto 5, 3) := by decide +kernel
theorem dX12_goesOn_529 : decode cX12_goesOn 529 = .ok (.bipush 41, 2) := by decide +kernel
theorem dX12_goesOn_531 : decode cX12_goesOn 531 = .ok (.invokevirtual 269, 3) := by decide +kernel
theorem dX12_goesOn_534 : decode cX12_goesOn 534 = .ok (.ifCond .ne 12, 3) := by decide +kernel
theorem dX12_goesOn_537 : decode cX12_goesOn 537 = .ok (.aload_n 0, 1) := by decide +kernel
theorem dX12_goesOn_538 : decode cX12_goesOn 538 = .ok (.iconst 1, 1) := by decide +kernel
theorem dX12_goesOn_539 : decode cX12_goesOn 539 = .ok (.aload_n 0, 1) := by decide +kernel
theorem dX12_goesOn_540 : decode cX12_goesOn 540 = .ok (.getfield 23, 3) := by decide +kernel
theorem dX12_goesOn_543 : decode cX12_goesOn 543 = .ok (.invokevirtual 255, 3) := by decide +kernel
theorem dX12_goesOn_546 : decode cX12_goesOn 546 = .ok (.aload_n 0, 1) := by decide +kernel
theorem dX12_goesOn_547 : decode cX12_goesOn 547 = .ok (.getfield 36, 3) := by decide +kernel
theorem dX12_goesOn_550 : decode cX12_goesOn 550 = .ok (.ifCond .le 5, 3) := by decide +kernel
theorem dX12_goesOn_553 : decode cX12_goesOn 553 = .ok (.iconst 0, 1) := by decide +kernel
theorem dX12_goesOn_554 : decode cX12_goesOn 554 = .ok (.ireturn, 1) := by decide +kernel
theorem dX12_goesOn_555 : decode cX12_goesOn 555 = .ok (.aload_n 0, 1) := by decide +kernel
theorem dX12_goesOn_556 : decode cX12_goesOn 556 = .ok (.iconst 1, 1) := by decide +kernel
theorem dX12_goesOn_557 : decode cX12_goesOn 557 = .ok (.invokevirtual 349, 3) := by decide +kernel
theorem dX12_goesOn_560 : decode cX12_goesOn 560 = .ok (.aload_n 0, 1) := by decide +kernel
theorem dX12_goesOn_561 : decode cX12_goesOn 561 = .ok (.dup, 1) := by decide +kernel
theorem dX12_goesOn_562 : decode cX12_goesOn 562 = .ok (.getfield 122, 3) := by decide +kernel
theorem dX12_goesOn_565 : decode cX12_goesOn 565 = .ok (.iconst 1, 1) := by decide +kernel
theorem dX12_goesOn_566 : decode cX12_goesOn 566 = .ok (.isub, 1) := by decide +kernel
theorem dX12_goesOn_567 : decode cX12_goesOn 567 = .ok (.putfield 122, 3) := by decide +kernel
theorem dX12_goesOn_570 : decode cX12_goesOn 570 = .ok (.aload_n 0, 1) := by decide +kernel
theorem dX12_goesOn_571 : decode cX12_goesOn 571 = .ok (.dup, 1) := by decide +kernel
theorem dX12_goesOn_572 : decode cX12_goesOn 572 = .ok (.getfield 125, 3) := by decide +kernel
theorem dX12_goesOn_575 : decode cX12_goesOn 575 = .ok (.iconst 1, 1) := by decide +kernel
theorem dX12_goesOn_576 : decode cX12_goesOn 576 = .ok (.isub, 1) := by decide +kernel
theorem dX12_goesOn_577 : decode cX12_goesOn 577 = .ok (.putfield 125, 3) := by decide +kernel
theorem dX12_goesOn_580 : decode cX12_goesOn 580 = .ok (.iload_n 2, 1) := by decide +kernel
theorem dX12_goesOn_581 : decode cX12_goesOn 581 = .ok (.iconst 4, 1) := by decide +kernel
theorem dX12_goesOn_582 : decode cX12_goesOn 582 = .ok (.if_icmp .ne 14, 3) := by decide +kernel
theorem dX12_goesOn_585 : decode cX12_goesOn 585 = .ok (.aload_n 0, 1) := by decide +kernel
theorem dX12_goesOn_586 : decode cX12_goesOn 586 = .ok (.aload_n 0, 1) := by decide +kernel
theorem dX12_goesOn_587 : decode cX12_goesOn 587 = .ok (.getfield 116, 3) := by decide +kernel
theorem dX12_goesOn_590 : decode cX12_goesOn 590 = .ok (.iload_n 1, 1) := by decide +kernel
theorem dX12_goesOn_591 : decode cX12_goesOn 591 = .ok (.iaload, 1) := by decide +kernel
theorem dX12_goesOn_592 : decode cX12_goesOn 592 = .ok (.iconst 0, 1) := by decide +kernel
theorem dX12_goesOn_593 : decode cX12_goesOn 593 = .ok (.invokevirtual 330, 3) := by decide +kernel
theorem dX12_goesOn_596 : decode cX12_goesOn 596 = .ok (.iload_n 2, 1) := by decide +kernel
theorem dX12_goesOn_597 : decode cX12_goesOn 597 = .ok (.iconst 5, 1) := by decide +kernel
theorem dX12_goesOn_598 : decode cX12_goesOn 598 = .ok (.if_icmp .ne 15, 3) := by decide +kernel
theorem dX12_goesOn_601 : decode cX12_goesOn 601 = .ok (.aload_n 0, 1) := by decide +kernel
theorem dX12_goesOn_602 : decode cX12_goesOn 602 = .ok (.getfield 109, 3) := by decide +kernel
theorem dX12_goesOn_605 : decode cX12_goesOn 605 = .ok (.aload_n 0, 1) := by decide +kernel
theorem dX12_goesOn_606 : decode cX12_goesOn 606 = .ok (.getfield 122, 3) := by decide +kernel
theorem dX12_goesOn_609 : decode cX12_goesOn 609 = .ok (.iconst 1, 1) := by decide +kernel
theorem dX12_goesOn_610 : decode cX12_goesOn 610 = .ok (.isub, 1) := by decide +kernel
theorem dX12_goesOn_611 : decode cX12_goesOn 611 = .ok (.iconst 2, 1) := by decide +kernel
theorem dX12_goesOn_612 : decode cX12_goesOn 612 = .ok (.iastore, 1) := by decide +kernel
theorem dX12_goesOn_613 : decode cX12_goesOn 613 = .ok (.aload_n 0, 1) := by decide +kernel
theorem dX12_goesOn_614 : decode cX12_goesOn 614 = .ok (.invokevirtual 272, 3) := by decide +kernel
theorem dX12_goesOn_617 : decode cX12_goesOn 617 = .ok (.iconst 1, 1) := by decide +kernel
theorem dX12_goesOn_618 : decode cX12_goesOn 618 = .ok (.ireturn, 1) := by decide +kernel
theorem dX12_reads_0 : decode cX12_reads 0 = .ok (.aload_n 0, 1) := by decide +kernel
theorem dX12_reads_1 : decode cX12_reads 1 = .ok (.getfield 36, 3) := by decide +kernel
theorem dX12_reads_4 : decode cX12_reads 4 = .ok (.ifCond .le 4, 3) := by decide +kernel
theorem dX12_reads_7 : decode cX12_reads 7 = .ok (.return_, 1) := by decide +kernel
theorem dX12_reads_8 : decode cX12_reads 8 = .ok (.aload_n 0, 1) := by decide +kernel
theorem dX12_reads_9 : decode cX12_reads 9 = .ok (.iconst 0, 1) := by decide +kernel
theorem dX12_reads_10 : decode cX12_reads 10 = .ok (.putfield 122, 3) := by decide +kernel
theorem dX12_reads_13 : decode cX12_reads 13 = .ok (.aload_n 0, 1) := by decide +kernel
theorem dX12_reads_14 : decode cX12_reads 14 = .ok (.iconst 0, 1) := by decide +kernel
theorem dX12_reads_15 : decode cX12_reads 15 = .ok (.putfield 125, 3) := by decide +kernel
theorem dX12_reads_18 : decode cX12_reads 18 = .ok (.aload_n 0, 1) := by decide +kernel
theorem dX12_reads_19 : decode cX12_reads 19 = .ok (.iconst 0, 1) := by decide +kernel
theorem dX12_reads_20 : decode cX12_reads 20 = .ok (.putfield 131, 3) := by decide +kernel
theorem dX12_reads_23 : decode cX12_reads 23 = .ok (.aload_n 0, 1) := by decide +kernel
theorem dX12_reads_24 : decode cX12_reads 24 = .ok (.iconst 0, 1) := by decide +kernel
theorem dX12_reads_25 : decode cX12_reads 25 = .ok (.putfield 134, 3) := by decide +kernel
theorem dX12_reads_28 : decode cX12_reads 28 = .ok (.aload_n 0, 1) := by decide +kernel
theorem dX12_reads_29 : decode cX12_reads 29 = .ok (.iload_n 1, 1) := by decide +kernel
theorem dX12_reads_30 : decode cX12_reads 30 = .ok (.ifCond .eq 7, 3) := by decide +kernel
theorem dX12_reads_33 : decode cX12_reads 33 = .ok (.iconst 1, 1) := by decide +kernel
theorem dX12_reads_34 : decode cX12_reads 34 = .ok (.goto 4, 3) := by decide +kernel
theorem dX12_reads_37 : decode cX12_reads 37 = .ok (.iconst 0, 1) := by decide +kernel
theorem dX12_reads_38 : decode cX12_reads 38 = .ok (.invokevirtual 333, 3) := by decide +kernel
theorem dX12_reads_41 : decode cX12_reads 41 = .ok (.iconst 1, 1) := by decide +kernel
theorem dX12_reads_42 : decode cX12_reads 42 = .ok (.istore_n 2, 1) := by decide +kernel
theorem dX12_reads_43 : decode cX12_reads 43 = .ok (.iload_n 2, 1) := by decide +kernel
theorem dX12_reads_44 : decode cX12_reads 44 = .ok (.ifCond .eq 46, 3) := by decide +kernel
theorem dX12_reads_47 : decode cX12_reads 47 = .ok (.aload_n 0, 1) := by decide +kernel
theorem dX12_reads_48 : decode cX12_reads 48 = .ok (.getfield 134, 3) := by decide +kernel
theorem dX12_reads_51 : decode cX12_reads 51 = .ok (.ifCond .ne 14, 3) := by decide +kernel
theorem dX12_reads_54 : decode cX12_reads 54 = .ok (.aload_n 0, 1) := by decide +kernel
theorem dX12_reads_55 : decode cX12_reads 55 = .ok (.aload_n 0, 1) := by decide +kernel
theorem dX12_reads_56 : decode cX12_reads 56 = .ok (.invokevirtual 352, 3) := by decide +kernel
theorem dX12_reads_59 : decode cX12_reads 59 = .ok (.putfield 134, 3) := by decide +kernel
theorem dX12_reads_62 : decode cX12_reads 62 = .ok (.goto 8, 3) := by decide +kernel
theorem dX12_reads_65 : decode cX12_reads 65 = .ok (.aload_n 0, 1) := by decide +kernel
theorem dX12_reads_66 : decode cX12_reads 66 = .ok (.invokevirtual 355, 3) := by decide +kernel
theorem dX12_reads_69 : decode cX12_reads 69 = .ok (.istore_n 2, 1) := by decide +kernel
theorem dX12_reads_70 : decode cX12_reads 70 = .ok (.iload_n 2, 1) := by decide +kernel
theorem dX12_reads_71 : decode cX12_reads 71 = .ok (.ifCond .eq 14, 3) := by decide +kernel
theorem dX12_reads_74 : decode cX12_reads 74 = .ok (.aload_n 0, 1) := by decide +kernel
theorem dX12_reads_75 : decode cX12_reads 75 = .ok (.getfield 36, 3) := by decide +kernel
theorem dX12_reads_78 : decode cX12_reads 78 = .ok (.ifCond .ne 7, 3) := by decide +kernel
theorem dX12_reads_81 : decode cX12_reads 81 = .ok (.iconst 1, 1) := by decide +kernel
theorem dX12_reads_82 : decode cX12_reads 82 = .ok (.goto 4, 3) := by decide +kernel
theorem dX12_reads_85 : decode cX12_reads 85 = .ok (.iconst 0, 1) := by decide +kernel
theorem dX12_reads_86 : decode cX12_reads 86 = .ok (.istore_n 2, 1) := by decide +kernel
theorem dX12_reads_87 : decode cX12_reads 87 = .ok (.goto (-44), 3) := by decide +kernel
theorem dX12_reads_90 : decode cX12_reads 90 = .ok (.return_, 1) := by decide +kernel
theorem dX12_counts_0 : decode cX12_counts 0 = .ok (.aload_n 0, 1) := by decide +kernel
theorem dX12_counts_1 : decode cX12_counts 1 = .ok (.getfield 36, 3) := by decide +kernel
theorem dX12_counts_4 : decode cX12_counts 4 = .ok (.ifCond .ne 17, 3) := by decide +kernel
theorem dX12_counts_7 : decode cX12_counts 7 = .ok (.iload_n 1, 1) := by decide +kernel
theorem dX12_counts_8 : decode cX12_counts 8 = .ok (.ifCond .eq 13, 3) := by decide +kernel
theorem dX12_counts_11 : decode cX12_counts 11 = .ok (.aload_n 0, 1) := by decide +kernel
theorem dX12_counts_12 : decode cX12_counts 12 = .ok (.bipush 6, 2) := by decide +kernel
theorem dX12_counts_14 : decode cX12_counts 14 = .ok (.aload_n 0, 1) := by decide +kernel
theorem dX12_counts_15 : decode cX12_counts 15 = .ok (.getfield 23, 3) := by decide +kernel
theorem dX12_counts_18 : decode cX12_counts 18 = .ok (.invokevirtual 255, 3) := by decide +kernel
theorem dX12_counts_21 : decode cX12_counts 21 = .ok (.aload_n 0, 1) := by decide +kernel
theorem dX12_counts_22 : decode cX12_counts 22 = .ok (.getfield 36, 3) := by decide +kernel
theorem dX12_counts_25 : decode cX12_counts 25 = .ok (.ifCond .ne 7, 3) := by decide +kernel
theorem dX12_counts_28 : decode cX12_counts 28 = .ok (.aload_n 0, 1) := by decide +kernel
theorem dX12_counts_29 : decode cX12_counts 29 = .ok (.invokevirtual 272, 3) := by decide +kernel
theorem dX12_counts_32 : decode cX12_counts 32 = .ok (.aload_n 0, 1) := by decide +kernel
theorem dX12_counts_33 : decode cX12_counts 33 = .ok (.getfield 36, 3) := by decide +kernel
theorem dX12_counts_36 : decode cX12_counts 36 = .ok (.ifCond .ne 7, 3) := by decide +kernel
theorem dX12_counts_39 : decode cX12_counts 39 = .ok (.iconst 1, 1) := by decide +kernel
theorem dX12_counts_40 : decode cX12_counts 40 = .ok (.goto 4, 3) := by decide +kernel
theorem dX12_counts_43 : decode cX12_counts 43 = .ok (.iconst 0, 1) := by decide +kernel
theorem dX12_counts_44 : decode cX12_counts 44 = .ok (.ireturn, 1) := by decide +kernel
theorem dX12_must__0 : decode cX12_must_ 0 = .ok (.aload_n 0, 1) := by decide +kernel
theorem dX12_must__1 : decode cX12_must_ 1 = .ok (.invokevirtual 266, 3) := by decide +kernel
theorem dX12_must__4 : decode cX12_must_ 4 = .ok (.aload_n 0, 1) := by decide +kernel
theorem dX12_must__5 : decode cX12_must_ 5 = .ok (.getfield 36, 3) := by decide +kernel
theorem dX12_must__8 : decode cX12_must_ 8 = .ok (.ifCond .le 4, 3) := by decide +kernel
theorem dX12_must__11 : decode cX12_must_ 11 = .ok (.return_, 1) := by decide +kernel
theorem dX12_must__12 : decode cX12_must_ 12 = .ok (.aload_n 0, 1) := by decide +kernel
theorem dX12_must__13 : decode cX12_must_ 13 = .ok (.lload_n 1, 1) := by decide +kernel
theorem dX12_must__14 : decode cX12_must_ 14 = .ok (.invokevirtual 339, 3) := by decide +kernel
theorem dX12_must__17 : decode cX12_must_ 17 = .ok (.ifCond .ne 12, 3) := by decide +kernel
theorem dX12_must__20 : decode cX12_must_ 20 = .ok (.aload_n 0, 1) := by decide +kernel
theorem dX12_must__21 : decode cX12_must_ 21 = .ok (.iconst 1, 1) := by decide +kernel
theorem dX12_must__22 : decode cX12_must_ 22 = .ok (.aload_n 0, 1) := by decide +kernel
theorem dX12_must__23 : decode cX12_must_ 23 = .ok (.getfield 23, 3) := by decide +kernel
theorem dX12_must__26 : decode cX12_must_ 26 = .ok (.invokevirtual 255, 3) := by decide +kernel
theorem dX12_must__29 : decode cX12_must_ 29 = .ok (.aload_n 0, 1) := by decide +kernel
theorem dX12_must__30 : decode cX12_must_ 30 = .ok (.getfield 36, 3) := by decide +kernel
theorem dX12_must__33 : decode cX12_must_ 33 = .ok (.ifCond .ne 7, 3) := by decide +kernel
theorem dX12_must__36 : decode cX12_must_ 36 = .ok (.aload_n 0, 1) := by decide +kernel
theorem dX12_must__37 : decode cX12_must_ 37 = .ok (.invokevirtual 272, 3) := by decide +kernel
theorem dX12_must__40 : decode cX12_must_ 40 = .ok (.return_, 1) := by decide +kernel
theorem dX12_cellTold_0 : decode cX12_cellTold 0 = .ok (.aload_n 0, 1) := by decide +kernel
theorem dX12_cellTold_1 : decode cX12_cellTold 1 = .ok (.iconst 0, 1) := by decide +kernel
theorem dX12_cellTold_2 : decode cX12_cellTold 2 = .ok (.aload_n 0, 1) := by decide +kernel
theorem dX12_cellTold_3 : decode cX12_cellTold 3 = .ok (.getfield 54, 3) := by decide +kernel
theorem dX12_cellTold_6 : decode cX12_cellTold 6 = .ok (.aload_n 0, 1) := by decide +kernel
theorem dX12_cellTold_7 : decode cX12_cellTold 7 = .ok (.getfield 100, 3) := by decide +kernel
theorem dX12_cellTold_10 : decode cX12_cellTold 10 = .ok (.iaload, 1) := by decide +kernel
theorem dX12_cellTold_11 : decode cX12_cellTold 11 = .ok (.iconst 1, 1) := by decide +kernel
theorem dX12_cellTold_12 : decode cX12_cellTold 12 = .ok (.isub, 1) := by decide +kernel
theorem dX12_cellTold_13 : decode cX12_cellTold 13 = .ok (.invokevirtual 358, 3) := by decide +kernel
theorem dX12_cellTold_16 : decode cX12_cellTold 16 = .ok (.istore_n 1, 1) := by decide +kernel
theorem dX12_cellTold_17 : decode cX12_cellTold 17 = .ok (.bipush 8, 2) := by decide +kernel
theorem dX12_cellTold_19 : decode cX12_cellTold 19 = .ok (.aload_n 0, 1) := by decide +kernel
theorem dX12_cellTold_20 : decode cX12_cellTold 20 = .ok (.iconst 0, 1) := by decide +kernel
theorem dX12_cellTold_21 : decode cX12_cellTold 21 = .ok (.aload_n 0, 1) := by decide +kernel
theorem dX12_cellTold_22 : decode cX12_cellTold 22 = .ok (.getfield 57, 3) := by decide +kernel
theorem dX12_cellTold_25 : decode cX12_cellTold 25 = .ok (.aload_n 0, 1) := by decide +kernel
theorem dX12_cellTold_26 : decode cX12_cellTold 26 = .ok (.getfield 100, 3) := by decide +kernel
theorem dX12_cellTold_29 : decode cX12_cellTold 29 = .ok (.iaload, 1) := by decide +kernel
theorem dX12_cellTold_30 : decode cX12_cellTold 30 = .ok (.iconst 1, 1) := by decide +kernel
theorem dX12_cellTold_31 : decode cX12_cellTold 31 = .ok (.isub, 1) := by decide +kernel
theorem dX12_cellTold_32 : decode cX12_cellTold 32 = .ok (.invokevirtual 358, 3) := by decide +kernel
theorem dX12_cellTold_35 : decode cX12_cellTold 35 = .ok (.imul, 1) := by decide +kernel
theorem dX12_cellTold_36 : decode cX12_cellTold 36 = .ok (.iload_n 1, 1) := by decide +kernel
theorem dX12_cellTold_37 : decode cX12_cellTold 37 = .ok (.iadd, 1) := by decide +kernel
theorem dX12_cellTold_38 : decode cX12_cellTold 38 = .ok (.ireturn, 1) := by decide +kernel
theorem dX12_fielding_0 : decode cX12_fielding 0 = .ok (.aload_n 0, 1) := by decide +kernel
theorem dX12_fielding_1 : decode cX12_fielding 1 = .ok (.ldc2_w 275, 3) := by decide +kernel
theorem dX12_fielding_4 : decode cX12_fielding 4 = .ok (.invokevirtual 362, 3) := by decide +kernel
theorem dX12_fielding_7 : decode cX12_fielding 7 = .ok (.aload_n 0, 1) := by decide +kernel
theorem dX12_fielding_8 : decode cX12_fielding 8 = .ok (.getfield 54, 3) := by decide +kernel
theorem dX12_fielding_11 : decode cX12_fielding 11 = .ok (.aload_n 0, 1) := by decide +kernel
theorem dX12_fielding_12 : decode cX12_fielding 12 = .ok (.getfield 100, 3) := by decide +kernel
theorem dX12_fielding_15 : decode cX12_fielding 15 = .ok (.aload_n 0, 1) := by decide +kernel
theorem dX12_fielding_16 : decode cX12_fielding 16 = .ok (.iconst 2, 1) := by decide +kernel
theorem dX12_fielding_17 : decode cX12_fielding 17 = .ok (.bipush 8, 2) := by decide +kernel
theorem dX12_fielding_19 : decode cX12_fielding 19 = .ok (.invokevirtual 358, 3) := by decide +kernel
theorem dX12_fielding_22 : decode cX12_fielding 22 = .ok (.iastore, 1) := by decide +kernel
theorem dX12_fielding_23 : decode cX12_fielding 23 = .ok (.aload_n 0, 1) := by decide +kernel
theorem dX12_fielding_24 : decode cX12_fielding 24 = .ok (.ldc2_w 277, 3) := by decide +kernel
theorem dX12_fielding_27 : decode cX12_fielding 27 = .ok (.invokevirtual 362, 3) := by decide +kernel
theorem dX12_fielding_30 : decode cX12_fielding 30 = .ok (.aload_n 0, 1) := by decide +kernel
theorem dX12_fielding_31 : decode cX12_fielding 31 = .ok (.getfield 57, 3) := by decide +kernel
theorem dX12_fielding_34 : decode cX12_fielding 34 = .ok (.aload_n 0, 1) := by decide +kernel
theorem dX12_fielding_35 : decode cX12_fielding 35 = .ok (.getfield 100, 3) := by decide +kernel
theorem dX12_fielding_38 : decode cX12_fielding 38 = .ok (.aload_n 0, 1) := by decide +kernel
theorem dX12_fielding_39 : decode cX12_fielding 39 = .ok (.iconst 2, 1) := by decide +kernel
theorem dX12_fielding_40 : decode cX12_fielding 40 = .ok (.bipush 8, 2) := by decide +kernel
theorem dX12_fielding_42 : decode cX12_fielding 42 = .ok (.invokevirtual 358, 3) := by decide +kernel
theorem dX12_fielding_45 : decode cX12_fielding 45 = .ok (.iastore, 1) := by decide +kernel
theorem dX12_fielding_46 : decode cX12_fielding 46 = .ok (.return_, 1) := by decide +kernel
theorem dX12_dewing_0 : decode cX12_dewing 0 = .ok (.aload_n 0, 1) := by decide +kernel
theorem dX12_dewing_1 : decode cX12_dewing 1 = .ok (.iconst 0, 1) := by decide +kernel
theorem dX12_dewing_2 : decode cX12_dewing 2 = .ok (.invokevirtual 366, 3) := by decide +kernel
theorem dX12_dewing_5 : decode cX12_dewing 5 = .ok (.ifCond .ne 4, 3) := by decide +kernel
theorem dX12_dewing_8 : decode cX12_dewing 8 = .ok (.return_, 1) := by decide +kernel
theorem dX12_dewing_9 : decode cX12_dewing 9 = .ok (.aload_n 0, 1) := by decide +kernel
theorem dX12_dewing_10 : decode cX12_dewing 10 = .ok (.invokevirtual 370, 3) := by decide +kernel
theorem dX12_dewing_13 : decode cX12_dewing 13 = .ok (.istore_n 1, 1) := by decide +kernel
theorem dX12_dewing_14 : decode cX12_dewing 14 = .ok (.aload_n 0, 1) := by decide +kernel
theorem dX12_dewing_15 : decode cX12_dewing 15 = .ok (.iconst 0, 1) := by decide +kernel
theorem dX12_dewing_16 : decode cX12_dewing 16 = .ok (.bipush 99, 2) := by decide +kernel
theorem dX12_dewing_18 : decode cX12_dewing 18 = .ok (.invokevirtual 358, 3) := by decide +kernel
theorem dX12_dewing_21 : decode cX12_dewing 21 = .ok (.istore_n 2, 1) := by decide +kernel
theorem dX12_dewing_22 : decode cX12_dewing 22 = .ok (.aload_n 0, 1) := by decide +kernel
theorem dX12_dewing_23 : decode cX12_dewing 23 = .ok (.getfield 36, 3) := by decide +kernel
theorem dX12_dewing_26 : decode cX12_dewing 26 = .ok (.ifCond .ne 18, 3) := by decide +kernel
theorem dX12_dewing_29 : decode cX12_dewing 29 = .ok (.aload_n 0, 1) := by decide +kernel
theorem dX12_dewing_30 : decode cX12_dewing 30 = .ok (.getfield 60, 3) := by decide +kernel
theorem dX12_dewing_33 : decode cX12_dewing 33 = .ok (.bipush 64, 2) := by decide +kernel
theorem dX12_dewing_35 : decode cX12_dewing 35 = .ok (.aload_n 0, 1) := by decide +kernel
theorem dX12_dewing_36 : decode cX12_dewing 36 = .ok (.getfield 100, 3) := by decide +kernel
theorem dX12_dewing_39 : decode cX12_dewing 39 = .ok (.imul, 1) := by decide +kernel
theorem dX12_dewing_40 : decode cX12_dewing 40 = .ok (.iload_n 1, 1) := by decide +kernel
theorem dX12_dewing_41 : decode cX12_dewing 41 = .ok (.iadd, 1) := by decide +kernel
theorem dX12_dewing_42 : decode cX12_dewing 42 = .ok (.iload_n 2, 1) := by decide +kernel
theorem dX12_dewing_43 : decode cX12_dewing 43 = .ok (.iastore, 1) := by decide +kernel
theorem dX12_dewing_44 : decode cX12_dewing 44 = .ok (.return_, 1) := by decide +kernel
theorem dX12_personing_0 : decode cX12_personing 0 = .ok (.aload_n 0, 1) := by decide +kernel
theorem dX12_personing_1 : decode cX12_personing 1 = .ok (.aload_n 0, 1) := by decide +kernel
theorem dX12_personing_2 : decode cX12_personing 2 = .ok (.getfield 63, 3) := by decide +kernel
theorem dX12_personing_5 : decode cX12_personing 5 = .ok (.aload_n 0, 1) := by decide +kernel
theorem dX12_personing_6 : decode cX12_personing 6 = .ok (.getfield 100, 3) := by decide +kernel
theorem dX12_personing_9 : decode cX12_personing 9 = .ok (.iaload, 1) := by decide +kernel
theorem dX12_personing_10 : decode cX12_personing 10 = .ok (.bipush 6, 2) := by decide +kernel
theorem dX12_personing_12 : decode cX12_personing 12 = .ok (.if_icmp .ne 7, 3) := by decide +kernel
theorem dX12_personing_15 : decode cX12_personing 15 = .ok (.iconst 1, 1) := by decide +kernel
theorem dX12_personing_16 : decode cX12_personing 16 = .ok (.goto 4, 3) := by decide +kernel
theorem dX12_personing_19 : decode cX12_personing 19 = .ok (.iconst 0, 1) := by decide +kernel
theorem dX12_personing_20 : decode cX12_personing 20 = .ok (.invokevirtual 366, 3) := by decide +kernel
theorem dX12_personing_23 : decode cX12_personing 23 = .ok (.ifCond .ne 4, 3) := by decide +kernel
theorem dX12_personing_26 : decode cX12_personing 26 = .ok (.return_, 1) := by decide +kernel
theorem dX12_personing_27 : decode cX12_personing 27 = .ok (.aload_n 0, 1) := by decide +kernel
theorem dX12_personing_28 : decode cX12_personing 28 = .ok (.invokevirtual 266, 3) := by decide +kernel
theorem dX12_personing_31 : decode cX12_personing 31 = .ok (.aload_n 0, 1) := by decide +kernel
theorem dX12_personing_32 : decode cX12_personing 32 = .ok (.getfield 36, 3) := by decide +kernel
theorem dX12_personing_35 : decode cX12_personing 35 = .ok (.ifCond .le 4, 3) := by decide +kernel
theorem dX12_personing_38 : decode cX12_personing 38 = .ok (.return_, 1) := by decide +kernel
theorem dX12_personing_39 : decode cX12_personing 39 = .ok (.aload_n 0, 1) := by decide +kernel
theorem dX12_personing_40 : decode cX12_personing 40 = .ok (.getfield 20, 3) := by decide +kernel
theorem dX12_personing_43 : decode cX12_personing 43 = .ok (.iconst 1, 1) := by decide +kernel
theorem dX12_personing_44 : decode cX12_personing 44 = .ok (.if_icmp .ne 14, 3) := by decide +kernel
theorem dX12_personing_47 : decode cX12_personing 47 = .ok (.aload_n 0, 1) := by decide +kernel
theorem dX12_personing_48 : decode cX12_personing 48 = .ok (.aload_n 0, 1) := by decide +kernel
theorem dX12_personing_49 : decode cX12_personing 49 = .ok (.getfield 32, 3) := by decide +kernel
theorem dX12_personing_52 : decode cX12_personing 52 = .ok (.invokevirtual 374, 3) := by decide +kernel
theorem dX12_personing_55 : decode cX12_personing 55 = .ok (.ifCond .eq 12, 3) := by decide +kernel
theorem dX12_personing_58 : decode cX12_personing 58 = .ok (.aload_n 0, 1) := by decide +kernel
theorem dX12_personing_59 : decode cX12_personing 59 = .ok (.iconst 1, 1) := by decide +kernel
theorem dX12_personing_60 : decode cX12_personing 60 = .ok (.aload_n 0, 1) := by decide +kernel
theorem dX12_personing_61 : decode cX12_personing 61 = .ok (.getfield 23, 3) := by decide +kernel
theorem dX12_personing_64 : decode cX12_personing 64 = .ok (.invokevirtual 255, 3) := by decide +kernel
theorem dX12_personing_67 : decode cX12_personing 67 = .ok (.aload_n 0, 1) := by decide +kernel
theorem dX12_personing_68 : decode cX12_personing 68 = .ok (.getfield 36, 3) := by decide +kernel
theorem dX12_personing_71 : decode cX12_personing 71 = .ok (.ifCond .ne 24, 3) := by decide +kernel
theorem dX12_personing_74 : decode cX12_personing 74 = .ok (.aload_n 0, 1) := by decide +kernel
theorem dX12_personing_75 : decode cX12_personing 75 = .ok (.aload_n 0, 1) := by decide +kernel
theorem dX12_personing_76 : decode cX12_personing 76 = .ok (.getfield 32, 3) := by decide +kernel
theorem dX12_personing_79 : decode cX12_personing 79 = .ok (.invokevirtual 377, 3) := by decide +kernel
theorem dX12_personing_82 : decode cX12_personing 82 = .ok (.iconst (-1), 1) := by decide +kernel
theorem dX12_personing_83 : decode cX12_personing 83 = .ok (.if_icmp .eq 12, 3) := by decide +kernel
theorem dX12_personing_86 : decode cX12_personing 86 = .ok (.aload_n 0, 1) := by decide +kernel
theorem dX12_personing_87 : decode cX12_personing 87 = .ok (.iconst 2, 1) := by decide +kernel
theorem dX12_personing_88 : decode cX12_personing 88 = .ok (.aload_n 0, 1) := by decide +kernel
theorem dX12_personing_89 : decode cX12_personing 89 = .ok (.getfield 23, 3) := by decide +kernel
theorem dX12_personing_92 : decode cX12_personing 92 = .ok (.invokevirtual 255, 3) := by decide +kernel
theorem dX12_personing_95 : decode cX12_personing 95 = .ok (.aload_n 0, 1) := by decide +kernel
theorem dX12_personing_96 : decode cX12_personing 96 = .ok (.getfield 36, 3) := by decide +kernel
theorem dX12_personing_99 : decode cX12_personing 99 = .ok (.ifCond .le 4, 3) := by decide +kernel
theorem dX12_personing_102 : decode cX12_personing 102 = .ok (.return_, 1) := by decide +kernel
theorem dX12_personing_103 : decode cX12_personing 103 = .ok (.bipush 6, 2) := by decide +kernel
theorem dX12_personing_105 : decode cX12_personing 105 = .ok (.aload_n 0, 1) := by decide +kernel
theorem dX12_personing_106 : decode cX12_personing 106 = .ok (.getfield 100, 3) := by decide +kernel
theorem dX12_personing_109 : decode cX12_personing 109 = .ok (.imul, 1) := by decide +kernel
theorem dX12_personing_110 : decode cX12_personing 110 = .ok (.aload_n 0, 1) := by decide +kernel
theorem dX12_personing_111 : decode cX12_personing 111 = .ok (.getfield 63, 3) := by decide +kernel
theorem dX12_personing_114 : decode cX12_personing 114 = .ok (.aload_n 0, 1) := by decide +kernel
theorem dX12_personing_115 : decode cX12_personing 115 = .ok (.getfield 100, 3) := by decide +kernel
theorem dX12_personing_118 : decode cX12_personing 118 = .ok (.iaload, 1) := by decide +kernel
theorem dX12_personing_119 : decode cX12_personing 119 = .ok (.iadd, 1) := by decide +kernel
theorem dX12_personing_120 : decode cX12_personing 120 = .ok (.istore_n 1, 1) := by decide +kernel
theorem dX12_personing_121 : decode cX12_personing 121 = .ok (.aload_n 0, 1) := by decide +kernel
theorem dX12_personing_122 : decode cX12_personing 122 = .ok (.getfield 93, 3) := by decide +kernel
theorem dX12_personing_125 : decode cX12_personing 125 = .ok (.iload_n 1, 1) := by decide +kernel
theorem dX12_personing_126 : decode cX12_personing 126 = .ok (.aload_n 0, 1) := by decide +kernel
theorem dX12_personing_127 : decode cX12_personing 127 = .ok (.getfield 32, 3) := by decide +kernel
theorem dX12_personing_130 : decode cX12_personing 130 = .ok (.lastore, 1) := by decide +kernel
theorem dX12_personing_131 : decode cX12_personing 131 = .ok (.aload_n 0, 1) := by decide +kernel
theorem dX12_personing_132 : decode cX12_personing 132 = .ok (.invokevirtual 272, 3) := by decide +kernel
theorem dX12_personing_135 : decode cX12_personing 135 = .ok (.aload_n 0, 1) := by decide +kernel
theorem dX12_personing_136 : decode cX12_personing 136 = .ok (.ldc2_w 283, 3) := by decide +kernel
theorem dX12_personing_139 : decode cX12_personing 139 = .ok (.invokevirtual 362, 3) := by decide +kernel
theorem dX12_personing_142 : decode cX12_personing 142 = .ok (.aload_n 0, 1) := by decide +kernel
theorem dX12_personing_143 : decode cX12_personing 143 = .ok (.getfield 66, 3) := by decide +kernel
theorem dX12_personing_146 : decode cX12_personing 146 = .ok (.iload_n 1, 1) := by decide +kernel
theorem dX12_personing_147 : decode cX12_personing 147 = .ok (.aload_n 0, 1) := by decide +kernel
theorem dX12_personing_148 : decode cX12_personing 148 = .ok (.invokevirtual 370, 3) := by decide +kernel
theorem dX12_personing_151 : decode cX12_personing 151 = .ok (.iastore, 1) := by decide +kernel
theorem dX12_personing_152 : decode cX12_personing 152 = .ok (.aload_n 0, 1) := by decide +kernel
theorem dX12_personing_153 : decode cX12_personing 153 = .ok (.ldc2_w 285, 3) := by decide +kernel
theorem dX12_personing_156 : decode cX12_personing 156 = .ok (.invokevirtual 362, 3) := by decide +kernel
theorem dX12_personing_159 : decode cX12_personing 159 = .ok (.aload_n 0, 1) := by decide +kernel
theorem dX12_personing_160 : decode cX12_personing 160 = .ok (.getfield 69, 3) := by decide +kernel
theorem dX12_personing_163 : decode cX12_personing 163 = .ok (.iload_n 1, 1) := by decide +kernel
theorem dX12_personing_164 : decode cX12_personing 164 = .ok (.aload_n 0, 1) := by decide +kernel
theorem dX12_personing_165 : decode cX12_personing 165 = .ok (.iconst 0, 1) := by decide +kernel
theorem dX12_personing_166 : decode cX12_personing 166 = .ok (.bipush 8, 2) := by decide +kernel
theorem dX12_personing_168 : decode cX12_personing 168 = .ok (.invokevirtual 358, 3) := by decide +kernel
theorem dX12_personing_171 : decode cX12_personing 171 = .ok (.iastore, 1) := by decide +kernel
theorem dX12_personing_172 : decode cX12_personing 172 = .ok (.aload_n 0, 1) := by decide +kernel
theorem dX12_personing_173 : decode cX12_personing 173 = .ok (.ldc2_w 287, 3) := by decide +kernel
theorem dX12_personing_176 : decode cX12_personing 176 = .ok (.invokevirtual 362, 3) := by decide +kernel
theorem dX12_personing_179 : decode cX12_personing 179 = .ok (.aload_n 0, 1) := by decide +kernel
theorem dX12_personing_180 : decode cX12_personing 180 = .ok (.getfield 72, 3) := by decide +kernel
theorem dX12_personing_183 : decode cX12_personing 183 = .ok (.iload_n 1, 1) := by decide +kernel
theorem dX12_personing_184 : decode cX12_personing 184 = .ok (.aload_n 0, 1) := by decide +kernel
theorem dX12_personing_185 : decode cX12_personing 185 = .ok (.iconst 1, 1) := by decide +kernel
theorem dX12_personing_186 : decode cX12_personing 186 = .ok (.bipush 99, 2) := by decide +kernel
theorem dX12_personing_188 : decode cX12_personing 188 = .ok (.invokevirtual 358, 3) := by decide +kernel
theorem dX12_personing_191 : decode cX12_personing 191 = .ok (.iastore, 1) := by decide +kernel
theorem dX12_personing_192 : decode cX12_personing 192 = .ok (.aload_n 0, 1) := by decide +kernel
theorem dX12_personing_193 : decode cX12_personing 193 = .ok (.ldc2_w 289, 3) := by decide +kernel
theorem dX12_personing_196 : decode cX12_personing 196 = .ok (.invokevirtual 362, 3) := by decide +kernel
theorem dX12_personing_199 : decode cX12_personing 199 = .ok (.aload_n 0, 1) := by decide +kernel
theorem dX12_personing_200 : decode cX12_personing 200 = .ok (.getfield 75, 3) := by decide +kernel
theorem dX12_personing_203 : decode cX12_personing 203 = .ok (.iload_n 1, 1) := by decide +kernel
theorem dX12_personing_204 : decode cX12_personing 204 = .ok (.aload_n 0, 1) := by decide +kernel
theorem dX12_personing_205 : decode cX12_personing 205 = .ok (.iconst 0, 1) := by decide +kernel
theorem dX12_personing_206 : decode cX12_personing 206 = .ok (.bipush 99, 2) := by decide +kernel
theorem dX12_personing_208 : decode cX12_personing 208 = .ok (.invokevirtual 358, 3) := by decide +kernel
theorem dX12_personing_211 : decode cX12_personing 211 = .ok (.iastore, 1) := by decide +kernel
theorem dX12_personing_212 : decode cX12_personing 212 = .ok (.aload_n 0, 1) := by decide +kernel
theorem dX12_personing_213 : decode cX12_personing 213 = .ok (.getfield 36, 3) := by decide +kernel
theorem dX12_personing_216 : decode cX12_personing 216 = .ok (.ifCond .ne 16, 3) := by decide +kernel
theorem dX12_personing_219 : decode cX12_personing 219 = .ok (.aload_n 0, 1) := by decide +kernel
theorem dX12_personing_220 : decode cX12_personing 220 = .ok (.getfield 63, 3) := by decide +kernel
theorem dX12_personing_223 : decode cX12_personing 223 = .ok (.aload_n 0, 1) := by decide +kernel
theorem dX12_personing_224 : decode cX12_personing 224 = .ok (.getfield 100, 3) := by decide +kernel
theorem dX12_personing_227 : decode cX12_personing 227 = .ok (.dup2, 1) := by decide +kernel
theorem dX12_personing_228 : decode cX12_personing 228 = .ok (.iaload, 1) := by decide +kernel
theorem dX12_personing_229 : decode cX12_personing 229 = .ok (.iconst 1, 1) := by decide +kernel
theorem dX12_personing_230 : decode cX12_personing 230 = .ok (.iadd, 1) := by decide +kernel
theorem dX12_personing_231 : decode cX12_personing 231 = .ok (.iastore, 1) := by decide +kernel
theorem dX12_personing_232 : decode cX12_personing 232 = .ok (.return_, 1) := by decide +kernel
theorem dX12_reading_0 : decode cX12_reading 0 = .ok (.iconst 3, 1) := by decide +kernel
theorem dX12_reading_1 : decode cX12_reading 1 = .ok (.aload_n 0, 1) := by decide +kernel
theorem dX12_reading_2 : decode cX12_reading 2 = .ok (.getfield 100, 3) := by decide +kernel
theorem dX12_reading_5 : decode cX12_reading 5 = .ok (.imul, 1) := by decide +kernel
theorem dX12_reading_6 : decode cX12_reading 6 = .ok (.iload_n 1, 1) := by decide +kernel
theorem dX12_reading_7 : decode cX12_reading 7 = .ok (.iadd, 1) := by decide +kernel
theorem dX12_reading_8 : decode cX12_reading 8 = .ok (.istore_n 2, 1) := by decide +kernel
theorem dX12_reading_9 : decode cX12_reading 9 = .ok (.aload_n 0, 1) := by decide +kernel
theorem dX12_reading_10 : decode cX12_reading 10 = .ok (.aload_n 0, 1) := by decide +kernel
theorem dX12_reading_11 : decode cX12_reading 11 = .ok (.getfield 81, 3) := by decide +kernel
theorem dX12_reading_14 : decode cX12_reading 14 = .ok (.iload_n 2, 1) := by decide +kernel
theorem dX12_reading_15 : decode cX12_reading 15 = .ok (.iaload, 1) := by decide +kernel
theorem dX12_reading_16 : decode cX12_reading 16 = .ok (.iconst (-1), 1) := by decide +kernel
theorem dX12_reading_17 : decode cX12_reading 17 = .ok (.if_icmp .eq 7, 3) := by decide +kernel
theorem dX12_reading_20 : decode cX12_reading 20 = .ok (.iconst 1, 1) := by decide +kernel
theorem dX12_reading_21 : decode cX12_reading 21 = .ok (.goto 4, 3) := by decide +kernel
theorem dX12_reading_24 : decode cX12_reading 24 = .ok (.iconst 0, 1) := by decide +kernel
theorem dX12_reading_25 : decode cX12_reading 25 = .ok (.invokevirtual 366, 3) := by decide +kernel
theorem dX12_reading_28 : decode cX12_reading 28 = .ok (.ifCond .ne 4, 3) := by decide +kernel
theorem dX12_reading_31 : decode cX12_reading 31 = .ok (.return_, 1) := by decide +kernel
theorem dX12_reading_32 : decode cX12_reading 32 = .ok (.aload_n 0, 1) := by decide +kernel
theorem dX12_reading_33 : decode cX12_reading 33 = .ok (.iload_n 1, 1) := by decide +kernel
theorem dX12_reading_34 : decode cX12_reading 34 = .ok (.putfield 103, 3) := by decide +kernel
theorem dX12_reading_37 : decode cX12_reading 37 = .ok (.aload_n 0, 1) := by decide +kernel
theorem dX12_reading_38 : decode cX12_reading 38 = .ok (.getfield 81, 3) := by decide +kernel
theorem dX12_reading_41 : decode cX12_reading 41 = .ok (.iload_n 2, 1) := by decide +kernel
theorem dX12_reading_42 : decode cX12_reading 42 = .ok (.aload_n 0, 1) := by decide +kernel
theorem dX12_reading_43 : decode cX12_reading 43 = .ok (.getfield 97, 3) := by decide +kernel
theorem dX12_reading_46 : decode cX12_reading 46 = .ok (.iastore, 1) := by decide +kernel
theorem dX12_reading_47 : decode cX12_reading 47 = .ok (.aload_n 0, 1) := by decide +kernel
theorem dX12_reading_48 : decode cX12_reading 48 = .ok (.iconst 0, 1) := by decide +kernel
theorem dX12_reading_49 : decode cX12_reading 49 = .ok (.invokevirtual 381, 3) := by decide +kernel
theorem dX12_reading_52 : decode cX12_reading 52 = .ok (.aload_n 0, 1) := by decide +kernel
theorem dX12_reading_53 : decode cX12_reading 53 = .ok (.getfield 84, 3) := by decide +kernel
theorem dX12_reading_56 : decode cX12_reading 56 = .ok (.iload_n 2, 1) := by decide +kernel
theorem dX12_reading_57 : decode cX12_reading 57 = .ok (.aload_n 0, 1) := by decide +kernel
theorem dX12_reading_58 : decode cX12_reading 58 = .ok (.getfield 97, 3) := by decide +kernel
theorem dX12_reading_61 : decode cX12_reading 61 = .ok (.iastore, 1) := by decide +kernel
theorem dX12_reading_62 : decode cX12_reading 62 = .ok (.return_, 1) := by decide +kernel
theorem dX12_misting_0 : decode cX12_misting 0 = .ok (.aload_n 0, 1) := by decide +kernel
theorem dX12_misting_1 : decode cX12_misting 1 = .ok (.iconst 0, 1) := by decide +kernel
theorem dX12_misting_2 : decode cX12_misting 2 = .ok (.invokevirtual 366, 3) := by decide +kernel
theorem dX12_misting_5 : decode cX12_misting 5 = .ok (.ifCond .ne 4, 3) := by decide +kernel
theorem dX12_misting_8 : decode cX12_misting 8 = .ok (.return_, 1) := by decide +kernel
theorem dX12_misting_9 : decode cX12_misting 9 = .ok (.aload_n 0, 1) := by decide +kernel
theorem dX12_misting_10 : decode cX12_misting 10 = .ok (.iconst 0, 1) := by decide +kernel
theorem dX12_misting_11 : decode cX12_misting 11 = .ok (.bipush 100, 2) := by decide +kernel
theorem dX12_misting_13 : decode cX12_misting 13 = .ok (.invokevirtual 358, 3) := by decide +kernel
theorem dX12_misting_16 : decode cX12_misting 16 = .ok (.istore_n 1, 1) := by decide +kernel
theorem dX12_misting_17 : decode cX12_misting 17 = .ok (.aload_n 0, 1) := by decide +kernel
theorem dX12_misting_18 : decode cX12_misting 18 = .ok (.getfield 36, 3) := by decide +kernel
theorem dX12_misting_21 : decode cX12_misting 21 = .ok (.ifCond .ne 13, 3) := by decide +kernel
theorem dX12_misting_24 : decode cX12_misting 24 = .ok (.aload_n 0, 1) := by decide +kernel
theorem dX12_misting_25 : decode cX12_misting 25 = .ok (.getfield 78, 3) := by decide +kernel
theorem dX12_misting_28 : decode cX12_misting 28 = .ok (.aload_n 0, 1) := by decide +kernel
theorem dX12_misting_29 : decode cX12_misting 29 = .ok (.getfield 100, 3) := by decide +kernel
theorem dX12_misting_32 : decode cX12_misting 32 = .ok (.iload_n 1, 1) := by decide +kernel
theorem dX12_misting_33 : decode cX12_misting 33 = .ok (.iastore, 1) := by decide +kernel
theorem dX12_misting_34 : decode cX12_misting 34 = .ok (.return_, 1) := by decide +kernel
theorem dX12_statement_0 : decode cX12_statement 0 = .ok (.aload_n 0, 1) := by decide +kernel
theorem dX12_statement_1 : decode cX12_statement 1 = .ok (.invokevirtual 266, 3) := by decide +kernel
theorem dX12_statement_4 : decode cX12_statement 4 = .ok (.aload_n 0, 1) := by decide +kernel
theorem dX12_statement_5 : decode cX12_statement 5 = .ok (.getfield 36, 3) := by decide +kernel
theorem dX12_statement_8 : decode cX12_statement 8 = .ok (.ifCond .le 4, 3) := by decide +kernel
theorem dX12_statement_11 : decode cX12_statement 11 = .ok (.return_, 1) := by decide +kernel
theorem dX12_statement_12 : decode cX12_statement 12 = .ok (.aload_n 0, 1) := by decide +kernel
theorem dX12_statement_13 : decode cX12_statement 13 = .ok (.ldc2_w 279, 3) := by decide +kernel
theorem dX12_statement_16 : decode cX12_statement 16 = .ok (.invokevirtual 339, 3) := by decide +kernel
theorem dX12_statement_19 : decode cX12_statement 19 = .ok (.ifCond .eq 10, 3) := by decide +kernel
theorem dX12_statement_22 : decode cX12_statement 22 = .ok (.aload_n 0, 1) := by decide +kernel
theorem dX12_statement_23 : decode cX12_statement 23 = .ok (.invokevirtual 385, 3) := by decide +kernel
theorem dX12_statement_26 : decode cX12_statement 26 = .ok (.goto 100, 3) := by decide +kernel
theorem dX12_statement_29 : decode cX12_statement 29 = .ok (.aload_n 0, 1) := by decide +kernel
theorem dX12_statement_30 : decode cX12_statement 30 = .ok (.ldc2_w 281, 3) := by decide +kernel
theorem dX12_statement_33 : decode cX12_statement 33 = .ok (.invokevirtual 339, 3) := by decide +kernel
theorem dX12_statement_36 : decode cX12_statement 36 = .ok (.ifCond .eq 10, 3) := by decide +kernel
theorem dX12_statement_39 : decode cX12_statement 39 = .ok (.aload_n 0, 1) := by decide +kernel
theorem dX12_statement_40 : decode cX12_statement 40 = .ok (.invokevirtual 388, 3) := by decide +kernel
theorem dX12_statement_43 : decode cX12_statement 43 = .ok (.goto 83, 3) := by decide +kernel
theorem dX12_statement_46 : decode cX12_statement 46 = .ok (.aload_n 0, 1) := by decide +kernel
theorem dX12_statement_47 : decode cX12_statement 47 = .ok (.ldc2_w 291, 3) := by decide +kernel
theorem dX12_statement_50 : decode cX12_statement 50 = .ok (.invokevirtual 339, 3) := by decide +kernel
theorem dX12_statement_53 : decode cX12_statement 53 = .ok (.ifCond .eq 11, 3) := by decide +kernel
theorem dX12_statement_56 : decode cX12_statement 56 = .ok (.aload_n 0, 1) := by decide +kernel
theorem dX12_statement_57 : decode cX12_statement 57 = .ok (.iconst 0, 1) := by decide +kernel
theorem dX12_statement_58 : decode cX12_statement 58 = .ok (.invokevirtual 391, 3) := by decide +kernel
theorem dX12_statement_61 : decode cX12_statement 61 = .ok (.goto 65, 3) := by decide +kernel
theorem dX12_statement_64 : decode cX12_statement 64 = .ok (.aload_n 0, 1) := by decide +kernel
theorem dX12_statement_65 : decode cX12_statement 65 = .ok (.ldc2_w 293, 3) := by decide +kernel
theorem dX12_statement_68 : decode cX12_statement 68 = .ok (.invokevirtual 339, 3) := by decide +kernel
theorem dX12_statement_71 : decode cX12_statement 71 = .ok (.ifCond .eq 11, 3) := by decide +kernel
theorem dX12_statement_74 : decode cX12_statement 74 = .ok (.aload_n 0, 1) := by decide +kernel
theorem dX12_statement_75 : decode cX12_statement 75 = .ok (.iconst 1, 1) := by decide +kernel
theorem dX12_statement_76 : decode cX12_statement 76 = .ok (.invokevirtual 391, 3) := by decide +kernel
theorem dX12_statement_79 : decode cX12_statement 79 = .ok (.goto 47, 3) := by decide +kernel
theorem dX12_statement_82 : decode cX12_statement 82 = .ok (.aload_n 0, 1) := by decide +kernel
theorem dX12_statement_83 : decode cX12_statement 83 = .ok (.ldc2_w 295, 3) := by decide +kernel
theorem dX12_statement_86 : decode cX12_statement 86 = .ok (.invokevirtual 339, 3) := by decide +kernel
theorem dX12_statement_89 : decode cX12_statement 89 = .ok (.ifCond .eq 11, 3) := by decide +kernel
theorem dX12_statement_92 : decode cX12_statement 92 = .ok (.aload_n 0, 1) := by decide +kernel
theorem dX12_statement_93 : decode cX12_statement 93 = .ok (.iconst 2, 1) := by decide +kernel
theorem dX12_statement_94 : decode cX12_statement 94 = .ok (.invokevirtual 391, 3) := by decide +kernel
theorem dX12_statement_97 : decode cX12_statement 97 = .ok (.goto 29, 3) := by decide +kernel
theorem dX12_statement_100 : decode cX12_statement 100 = .ok (.aload_n 0, 1) := by decide +kernel
theorem dX12_statement_101 : decode cX12_statement 101 = .ok (.ldc2_w 297, 3) := by decide +kernel
theorem dX12_statement_104 : decode cX12_statement 104 = .ok (.invokevirtual 339, 3) := by decide +kernel
theorem dX12_statement_107 : decode cX12_statement 107 = .ok (.ifCond .eq 10, 3) := by decide +kernel
theorem dX12_statement_110 : decode cX12_statement 110 = .ok (.aload_n 0, 1) := by decide +kernel
theorem dX12_statement_111 : decode cX12_statement 111 = .ok (.invokevirtual 394, 3) := by decide +kernel
theorem dX12_statement_114 : decode cX12_statement 114 = .ok (.goto 12, 3) := by decide +kernel
theorem dX12_statement_117 : decode cX12_statement 117 = .ok (.aload_n 0, 1) := by decide +kernel
theorem dX12_statement_118 : decode cX12_statement 118 = .ok (.iconst 1, 1) := by decide +kernel
theorem dX12_statement_119 : decode cX12_statement 119 = .ok (.aload_n 0, 1) := by decide +kernel
theorem dX12_statement_120 : decode cX12_statement 120 = .ok (.getfield 23, 3) := by decide +kernel
theorem dX12_statement_123 : decode cX12_statement 123 = .ok (.invokevirtual 255, 3) := by decide +kernel
theorem dX12_statement_126 : decode cX12_statement 126 = .ok (.return_, 1) := by decide +kernel
theorem dX12_finishes_0 : decode cX12_finishes 0 = .ok (.aload_n 0, 1) := by decide +kernel
theorem dX12_finishes_1 : decode cX12_finishes 1 = .ok (.invokevirtual 266, 3) := by decide +kernel
theorem dX12_finishes_4 : decode cX12_finishes 4 = .ok (.aload_n 0, 1) := by decide +kernel
theorem dX12_finishes_5 : decode cX12_finishes 5 = .ok (.getfield 36, 3) := by decide +kernel
theorem dX12_finishes_8 : decode cX12_finishes 8 = .ok (.ifCond .le 4, 3) := by decide +kernel
theorem dX12_finishes_11 : decode cX12_finishes 11 = .ok (.return_, 1) := by decide +kernel
theorem dX12_finishes_12 : decode cX12_finishes 12 = .ok (.aload_n 0, 1) := by decide +kernel
theorem dX12_finishes_13 : decode cX12_finishes 13 = .ok (.getfield 26, 3) := by decide +kernel
theorem dX12_finishes_16 : decode cX12_finishes 16 = .ok (.istore_n 2, 1) := by decide +kernel
theorem dX12_finishes_17 : decode cX12_finishes 17 = .ok (.iload_n 2, 1) := by decide +kernel
theorem dX12_finishes_18 : decode cX12_finishes 18 = .ok (.aload_n 0, 1) := by decide +kernel
theorem dX12_finishes_19 : decode cX12_finishes 19 = .ok (.getfield 17, 3) := by decide +kernel
theorem dX12_finishes_22 : decode cX12_finishes 22 = .ok (.if_icmp .ge 31, 3) := by decide +kernel
theorem dX12_finishes_25 : decode cX12_finishes 25 = .ok (.aload_n 0, 1) := by decide +kernel
theorem dX12_finishes_26 : decode cX12_finishes 26 = .ok (.getfield 7, 3) := by decide +kernel
theorem dX12_finishes_29 : decode cX12_finishes 29 = .ok (.iload_n 2, 1) := by decide +kernel
theorem dX12_finishes_30 : decode cX12_finishes 30 = .ok (.iaload, 1) := by decide +kernel
theorem dX12_finishes_31 : decode cX12_finishes 31 = .ok (.bipush 32, 2) := by decide +kernel
theorem dX12_finishes_33 : decode cX12_finishes 33 = .ok (.if_icmp .eq 14, 3) := by decide +kernel
theorem dX12_finishes_36 : decode cX12_finishes 36 = .ok (.aload_n 0, 1) := by decide +kernel
theorem dX12_finishes_37 : decode cX12_finishes 37 = .ok (.getfield 7, 3) := by decide +kernel
theorem dX12_finishes_40 : decode cX12_finishes 40 = .ok (.iload_n 2, 1) := by decide +kernel
theorem dX12_finishes_41 : decode cX12_finishes 41 = .ok (.iaload, 1) := by decide +kernel
theorem dX12_finishes_42 : decode cX12_finishes 42 = .ok (.bipush 10, 2) := by decide +kernel
theorem dX12_finishes_44 : decode cX12_finishes 44 = .ok (.if_icmp .ne 9, 3) := by decide +kernel
theorem dX12_finishes_47 : decode cX12_finishes 47 = .ok (.iinc 2 1, 3) := by decide +kernel
theorem dX12_finishes_50 : decode cX12_finishes 50 = .ok (.goto (-33), 3) := by decide +kernel
theorem dX12_finishes_53 : decode cX12_finishes 53 = .ok (.aload_n 0, 1) := by decide +kernel
theorem dX12_finishes_54 : decode cX12_finishes 54 = .ok (.bipush 59, 2) := by decide +kernel
theorem dX12_finishes_56 : decode cX12_finishes 56 = .ok (.invokevirtual 269, 3) := by decide +kernel
theorem dX12_finishes_59 : decode cX12_finishes 59 = .ok (.ifCond .eq 24, 3) := by decide +kernel
theorem dX12_finishes_62 : decode cX12_finishes 62 = .ok (.iload_n 1, 1) := by decide +kernel
theorem dX12_finishes_63 : decode cX12_finishes 63 = .ok (.bipush 80, 2) := by decide +kernel
theorem dX12_finishes_65 : decode cX12_finishes 65 = .ok (.if_icmp .ne 18, 3) := by decide +kernel
theorem dX12_finishes_68 : decode cX12_finishes 68 = .ok (.iload_n 2, 1) := by decide +kernel
theorem dX12_finishes_69 : decode cX12_finishes 69 = .ok (.aload_n 0, 1) := by decide +kernel
theorem dX12_finishes_70 : decode cX12_finishes 70 = .ok (.getfield 17, 3) := by decide +kernel
theorem dX12_finishes_73 : decode cX12_finishes 73 = .ok (.if_icmp .ge 10, 3) := by decide +kernel
theorem dX12_finishes_76 : decode cX12_finishes 76 = .ok (.aload_n 0, 1) := by decide +kernel
theorem dX12_finishes_77 : decode cX12_finishes 77 = .ok (.bipush 6, 2) := by decide +kernel
theorem dX12_finishes_79 : decode cX12_finishes 79 = .ok (.iload_n 2, 1) := by decide +kernel
theorem dX12_finishes_80 : decode cX12_finishes 80 = .ok (.invokevirtual 255, 3) := by decide +kernel
theorem dX12_finishes_83 : decode cX12_finishes 83 = .ok (.aload_n 0, 1) := by decide +kernel
theorem dX12_finishes_84 : decode cX12_finishes 84 = .ok (.bipush 59, 2) := by decide +kernel
theorem dX12_finishes_86 : decode cX12_finishes 86 = .ok (.invokevirtual 397, 3) := by decide +kernel
theorem dX12_finishes_89 : decode cX12_finishes 89 = .ok (.return_, 1) := by decide +kernel
theorem dX12_valley_0 : decode cX12_valley 0 = .ok (.aload_n 0, 1) := by decide +kernel
theorem dX12_valley_1 : decode cX12_valley 1 = .ok (.aload_n 0, 1) := by decide +kernel
theorem dX12_valley_2 : decode cX12_valley 2 = .ok (.getfield 13, 3) := by decide +kernel
theorem dX12_valley_5 : decode cX12_valley 5 = .ok (.putfield 17, 3) := by decide +kernel
theorem dX12_valley_8 : decode cX12_valley 8 = .ok (.aload_n 0, 1) := by decide +kernel
theorem dX12_valley_9 : decode cX12_valley 9 = .ok (.iconst 0, 1) := by decide +kernel
theorem dX12_valley_10 : decode cX12_valley 10 = .ok (.putfield 13, 3) := by decide +kernel
theorem dX12_valley_13 : decode cX12_valley 13 = .ok (.aload_n 0, 1) := by decide +kernel
theorem dX12_valley_14 : decode cX12_valley 14 = .ok (.iconst 0, 1) := by decide +kernel
theorem dX12_valley_15 : decode cX12_valley 15 = .ok (.putfield 26, 3) := by decide +kernel
theorem dX12_valley_18 : decode cX12_valley 18 = .ok (.aload_n 0, 1) := by decide +kernel
theorem dX12_valley_19 : decode cX12_valley 19 = .ok (.iconst 0, 1) := by decide +kernel
theorem dX12_valley_20 : decode cX12_valley 20 = .ok (.putfield 36, 3) := by decide +kernel
theorem dX12_valley_23 : decode cX12_valley 23 = .ok (.aload_n 0, 1) := by decide +kernel
theorem dX12_valley_24 : decode cX12_valley 24 = .ok (.iconst (-1), 1) := by decide +kernel
theorem dX12_valley_25 : decode cX12_valley 25 = .ok (.putfield 39, 3) := by decide +kernel
theorem dX12_valley_28 : decode cX12_valley 28 = .ok (.aload_n 0, 1) := by decide +kernel
theorem dX12_valley_29 : decode cX12_valley 29 = .ok (.iconst 1, 1) := by decide +kernel
theorem dX12_valley_30 : decode cX12_valley 30 = .ok (.aload_n 0, 1) := by decide +kernel
theorem dX12_valley_31 : decode cX12_valley 31 = .ok (.getfield 51, 3) := by decide +kernel
theorem dX12_valley_34 : decode cX12_valley 34 = .ok (.isub, 1) := by decide +kernel
theorem dX12_valley_35 : decode cX12_valley 35 = .ok (.putfield 100, 3) := by decide +kernel
theorem dX12_valley_38 : decode cX12_valley 38 = .ok (.aload_n 0, 1) := by decide +kernel
theorem dX12_valley_39 : decode cX12_valley 39 = .ok (.getfield 63, 3) := by decide +kernel
theorem dX12_valley_42 : decode cX12_valley 42 = .ok (.aload_n 0, 1) := by decide +kernel
theorem dX12_valley_43 : decode cX12_valley 43 = .ok (.getfield 100, 3) := by decide +kernel
theorem dX12_valley_46 : decode cX12_valley 46 = .ok (.iconst 0, 1) := by decide +kernel
theorem dX12_valley_47 : decode cX12_valley 47 = .ok (.iastore, 1) := by decide +kernel
theorem dX12_valley_48 : decode cX12_valley 48 = .ok (.aload_n 0, 1) := by decide +kernel
theorem dX12_valley_49 : decode cX12_valley 49 = .ok (.getfield 78, 3) := by decide +kernel
theorem dX12_valley_52 : decode cX12_valley 52 = .ok (.aload_n 0, 1) := by decide +kernel
theorem dX12_valley_53 : decode cX12_valley 53 = .ok (.getfield 100, 3) := by decide +kernel
theorem dX12_valley_56 : decode cX12_valley 56 = .ok (.iconst 0, 1) := by decide +kernel
theorem dX12_valley_57 : decode cX12_valley 57 = .ok (.iastore, 1) := by decide +kernel
theorem dX12_valley_58 : decode cX12_valley 58 = .ok (.iconst 0, 1) := by decide +kernel
theorem dX12_valley_59 : decode cX12_valley 59 = .ok (.istore_n 1, 1) := by decide +kernel
theorem dX12_valley_60 : decode cX12_valley 60 = .ok (.iload_n 1, 1) := by decide +kernel
theorem dX12_valley_61 : decode cX12_valley 61 = .ok (.bipush 64, 2) := by decide +kernel
theorem dX12_valley_63 : decode cX12_valley 63 = .ok (.if_icmp .ge 24, 3) := by decide +kernel
theorem dX12_valley_66 : decode cX12_valley 66 = .ok (.aload_n 0, 1) := by decide +kernel
theorem dX12_valley_67 : decode cX12_valley 67 = .ok (.getfield 60, 3) := by decide +kernel
theorem dX12_valley_70 : decode cX12_valley 70 = .ok (.bipush 64, 2) := by decide +kernel
theorem dX12_valley_72 : decode cX12_valley 72 = .ok (.aload_n 0, 1) := by decide +kernel
theorem dX12_valley_73 : decode cX12_valley 73 = .ok (.getfield 100, 3) := by decide +kernel
theorem dX12_valley_76 : decode cX12_valley 76 = .ok (.imul, 1) := by decide +kernel
theorem dX12_valley_77 : decode cX12_valley 77 = .ok (.iload_n 1, 1) := by decide +kernel
theorem dX12_valley_78 : decode cX12_valley 78 = .ok (.iadd, 1) := by decide +kernel
theorem dX12_valley_79 : decode cX12_valley 79 = .ok (.iconst 0, 1) := by decide +kernel
theorem dX12_valley_80 : decode cX12_valley 80 = .ok (.iastore, 1) := by decide +kernel
theorem dX12_valley_81 : decode cX12_valley 81 = .ok (.iinc 1 1, 3) := by decide +kernel
theorem dX12_valley_84 : decode cX12_valley 84 = .ok (.goto (-24), 3) := by decide +kernel
theorem dX12_valley_87 : decode cX12_valley 87 = .ok (.iconst 3, 1) := by decide +kernel
theorem dX12_valley_88 : decode cX12_valley 88 = .ok (.aload_n 0, 1) := by decide +kernel
theorem dX12_valley_89 : decode cX12_valley 89 = .ok (.getfield 100, 3) := by decide +kernel
theorem dX12_valley_92 : decode cX12_valley 92 = .ok (.imul, 1) := by decide +kernel
theorem dX12_valley_93 : decode cX12_valley 93 = .ok (.istore_n 1, 1) := by decide +kernel
theorem dX12_valley_94 : decode cX12_valley 94 = .ok (.iload_n 1, 1) := by decide +kernel
theorem dX12_valley_95 : decode cX12_valley 95 = .ok (.iconst 3, 1) := by decide +kernel
theorem dX12_valley_96 : decode cX12_valley 96 = .ok (.aload_n 0, 1) := by decide +kernel
theorem dX12_valley_97 : decode cX12_valley 97 = .ok (.getfield 100, 3) := by decide +kernel
theorem dX12_valley_100 : decode cX12_valley 100 = .ok (.imul, 1) := by decide +kernel
theorem dX12_valley_101 : decode cX12_valley 101 = .ok (.iconst 3, 1) := by decide +kernel
theorem dX12_valley_102 : decode cX12_valley 102 = .ok (.iadd, 1) := by decide +kernel
theorem dX12_valley_103 : decode cX12_valley 103 = .ok (.if_icmp .ge 16, 3) := by decide +kernel
theorem dX12_valley_106 : decode cX12_valley 106 = .ok (.aload_n 0, 1) := by decide +kernel
theorem dX12_valley_107 : decode cX12_valley 107 = .ok (.getfield 81, 3) := by decide +kernel
theorem dX12_valley_110 : decode cX12_valley 110 = .ok (.iload_n 1, 1) := by decide +kernel
theorem dX12_valley_111 : decode cX12_valley 111 = .ok (.iconst (-1), 1) := by decide +kernel
theorem dX12_valley_112 : decode cX12_valley 112 = .ok (.iastore, 1) := by decide +kernel
theorem dX12_valley_113 : decode cX12_valley 113 = .ok (.iinc 1 1, 3) := by decide +kernel
theorem dX12_valley_116 : decode cX12_valley 116 = .ok (.goto (-22), 3) := by decide +kernel
theorem dX12_valley_119 : decode cX12_valley 119 = .ok (.aload_n 0, 1) := by decide +kernel
theorem dX12_valley_120 : decode cX12_valley 120 = .ok (.iconst 0, 1) := by decide +kernel
theorem dX12_valley_121 : decode cX12_valley 121 = .ok (.putfield 97, 3) := by decide +kernel
theorem dX12_valley_124 : decode cX12_valley 124 = .ok (.iconst 1, 1) := by decide +kernel
theorem dX12_valley_125 : decode cX12_valley 125 = .ok (.istore_n 1, 1) := by decide +kernel
theorem dX12_valley_126 : decode cX12_valley 126 = .ok (.aload_n 0, 1) := by decide +kernel
theorem dX12_valley_127 : decode cX12_valley 127 = .ok (.invokevirtual 272, 3) := by decide +kernel
theorem dX12_valley_130 : decode cX12_valley 130 = .ok (.aload_n 0, 1) := by decide +kernel
theorem dX12_valley_131 : decode cX12_valley 131 = .ok (.invokevirtual 399, 3) := by decide +kernel
theorem dX12_valley_134 : decode cX12_valley 134 = .ok (.aload_n 0, 1) := by decide +kernel
theorem dX12_valley_135 : decode cX12_valley 135 = .ok (.iload_n 1, 1) := by decide +kernel
theorem dX12_valley_136 : decode cX12_valley 136 = .ok (.invokevirtual 402, 3) := by decide +kernel
theorem dX12_valley_139 : decode cX12_valley 139 = .ok (.aload_n 0, 1) := by decide +kernel
theorem dX12_valley_140 : decode cX12_valley 140 = .ok (.getfield 36, 3) := by decide +kernel
theorem dX12_valley_143 : decode cX12_valley 143 = .ok (.ifCond .ne 25, 3) := by decide +kernel
theorem dX12_valley_146 : decode cX12_valley 146 = .ok (.aload_n 0, 1) := by decide +kernel
theorem dX12_valley_147 : decode cX12_valley 147 = .ok (.getfield 20, 3) := by decide +kernel
theorem dX12_valley_150 : decode cX12_valley 150 = .ok (.ifCond .eq 18, 3) := by decide +kernel
theorem dX12_valley_153 : decode cX12_valley 153 = .ok (.aload_n 0, 1) := by decide +kernel
theorem dX12_valley_154 : decode cX12_valley 154 = .ok (.invokevirtual 405, 3) := by decide +kernel
theorem dX12_valley_157 : decode cX12_valley 157 = .ok (.iinc 1 1, 3) := by decide +kernel
theorem dX12_valley_160 : decode cX12_valley 160 = .ok (.aload_n 0, 1) := by decide +kernel
theorem dX12_valley_161 : decode cX12_valley 161 = .ok (.iload_n 1, 1) := by decide +kernel
theorem dX12_valley_162 : decode cX12_valley 162 = .ok (.invokevirtual 402, 3) := by decide +kernel
theorem dX12_valley_165 : decode cX12_valley 165 = .ok (.goto (-26), 3) := by decide +kernel
theorem dX12_valley_168 : decode cX12_valley 168 = .ok (.aload_n 0, 1) := by decide +kernel
theorem dX12_valley_169 : decode cX12_valley 169 = .ok (.aload_n 0, 1) := by decide +kernel
theorem dX12_valley_170 : decode cX12_valley 170 = .ok (.getfield 36, 3) := by decide +kernel
theorem dX12_valley_173 : decode cX12_valley 173 = .ok (.putfield 42, 3) := by decide +kernel
theorem dX12_valley_176 : decode cX12_valley 176 = .ok (.aload_n 0, 1) := by decide +kernel
theorem dX12_valley_177 : decode cX12_valley 177 = .ok (.aload_n 0, 1) := by decide +kernel
theorem dX12_valley_178 : decode cX12_valley 178 = .ok (.getfield 39, 3) := by decide +kernel
theorem dX12_valley_181 : decode cX12_valley 181 = .ok (.putfield 45, 3) := by decide +kernel
theorem dX12_valley_184 : decode cX12_valley 184 = .ok (.aload_n 0, 1) := by decide +kernel
theorem dX12_valley_185 : decode cX12_valley 185 = .ok (.getfield 36, 3) := by decide +kernel
theorem dX12_valley_188 : decode cX12_valley 188 = .ok (.ifCond .le 9, 3) := by decide +kernel
theorem dX12_valley_191 : decode cX12_valley 191 = .ok (.aload_n 0, 1) := by decide +kernel
theorem dX12_valley_192 : decode cX12_valley 192 = .ok (.iconst 1, 1) := by decide +kernel
theorem dX12_valley_193 : decode cX12_valley 193 = .ok (.invokevirtual 247, 3) := by decide +kernel
theorem dX12_valley_196 : decode cX12_valley 196 = .ok (.ireturn, 1) := by decide +kernel
theorem dX12_valley_197 : decode cX12_valley 197 = .ok (.aload_n 0, 1) := by decide +kernel
theorem dX12_valley_198 : decode cX12_valley 198 = .ok (.aload_n 0, 1) := by decide +kernel
theorem dX12_valley_199 : decode cX12_valley 199 = .ok (.getfield 100, 3) := by decide +kernel
theorem dX12_valley_202 : decode cX12_valley 202 = .ok (.putfield 51, 3) := by decide +kernel
theorem dX12_valley_205 : decode cX12_valley 205 = .ok (.aload_n 0, 1) := by decide +kernel
theorem dX12_valley_206 : decode cX12_valley 206 = .ok (.iconst 1, 1) := by decide +kernel
theorem dX12_valley_207 : decode cX12_valley 207 = .ok (.putfield 138, 3) := by decide +kernel
theorem dX12_valley_210 : decode cX12_valley 210 = .ok (.aload_n 0, 1) := by decide +kernel
theorem dX12_valley_211 : decode cX12_valley 211 = .ok (.invokevirtual 408, 3) := by decide +kernel
theorem dX12_valley_214 : decode cX12_valley 214 = .ok (.iload_n 1, 1) := by decide +kernel
theorem dX12_valley_215 : decode cX12_valley 215 = .ok (.ireturn, 1) := by decide +kernel
theorem dX12_fault_0 : decode cX12_fault 0 = .ok (.iload_n 1, 1) := by decide +kernel
theorem dX12_fault_1 : decode cX12_fault 1 = .ok (.ifCond .ne 10, 3) := by decide +kernel
theorem dX12_fault_4 : decode cX12_fault 4 = .ok (.aload_n 0, 1) := by decide +kernel
theorem dX12_fault_5 : decode cX12_fault 5 = .ok (.getfield 42, 3) := by decide +kernel
theorem dX12_fault_8 : decode cX12_fault 8 = .ok (.goto 16, 3) := by decide +kernel
theorem dX12_fault_11 : decode cX12_fault 11 = .ok (.iload_n 1, 1) := by decide +kernel
theorem dX12_fault_12 : decode cX12_fault 12 = .ok (.iconst 1, 1) := by decide +kernel
theorem dX12_fault_13 : decode cX12_fault 13 = .ok (.if_icmp .ne 10, 3) := by decide +kernel
theorem dX12_fault_16 : decode cX12_fault 16 = .ok (.aload_n 0, 1) := by decide +kernel
theorem dX12_fault_17 : decode cX12_fault 17 = .ok (.getfield 45, 3) := by decide +kernel
theorem dX12_fault_20 : decode cX12_fault 20 = .ok (.goto 4, 3) := by decide +kernel
theorem dX12_fault_23 : decode cX12_fault 23 = .ok (.iconst (-1), 1) := by decide +kernel
theorem dX12_fault_24 : decode cX12_fault 24 = .ok (.ireturn, 1) := by decide +kernel
theorem dX12_refuses_0 : decode cX12_refuses 0 = .ok (.aload_n 0, 1) := by decide +kernel
theorem dX12_refuses_1 : decode cX12_refuses 1 = .ok (.getfield 141, 3) := by decide +kernel
theorem dX12_refuses_4 : decode cX12_refuses 4 = .ok (.iload_n 1, 1) := by decide +kernel
theorem dX12_refuses_5 : decode cX12_refuses 5 = .ok (.dup2, 1) := by decide +kernel
theorem dX12_refuses_6 : decode cX12_refuses 6 = .ok (.iaload, 1) := by decide +kernel
theorem dX12_refuses_7 : decode cX12_refuses 7 = .ok (.iconst 1, 1) := by decide +kernel
theorem dX12_refuses_8 : decode cX12_refuses 8 = .ok (.iadd, 1) := by decide +kernel
theorem dX12_refuses_9 : decode cX12_refuses 9 = .ok (.iastore, 1) := by decide +kernel
theorem dX12_refuses_10 : decode cX12_refuses 10 = .ok (.iconst (-1), 1) := by decide +kernel
theorem dX12_refuses_11 : decode cX12_refuses 11 = .ok (.ireturn, 1) := by decide +kernel
theorem dX12_status_0 : decode cX12_status 0 = .ok (.iload_n 1, 1) := by decide +kernel
theorem dX12_status_1 : decode cX12_status 1 = .ok (.iconst 0, 1) := by decide +kernel
theorem dX12_status_2 : decode cX12_status 2 = .ok (.iconst 5, 1) := by decide +kernel
theorem dX12_status_3 : decode cX12_status 3 = .ok (.invokestatic 323, 3) := by decide +kernel
theorem dX12_status_6 : decode cX12_status 6 = .ok (.ifCond .eq 12, 3) := by decide +kernel
theorem dX12_status_9 : decode cX12_status 9 = .ok (.aload_n 0, 1) := by decide +kernel
theorem dX12_status_10 : decode cX12_status 10 = .ok (.getfield 141, 3) := by decide +kernel
theorem dX12_status_13 : decode cX12_status 13 = .ok (.iload_n 1, 1) := by decide +kernel
theorem dX12_status_14 : decode cX12_status 14 = .ok (.iaload, 1) := by decide +kernel
theorem dX12_status_15 : decode cX12_status 15 = .ok (.goto 4, 3) := by decide +kernel
theorem dX12_status_18 : decode cX12_status 18 = .ok (.iconst (-1), 1) := by decide +kernel
theorem dX12_status_19 : decode cX12_status 19 = .ok (.ireturn, 1) := by decide +kernel
theorem dX12_copies_0 : decode cX12_copies 0 = .ok (.aload_n 0, 1) := by decide +kernel
theorem dX12_copies_1 : decode cX12_copies 1 = .ok (.getfield 144, 3) := by decide +kernel
theorem dX12_copies_4 : decode cX12_copies 4 = .ok (.iload_n 1, 1) := by decide +kernel
theorem dX12_copies_5 : decode cX12_copies 5 = .ok (.aload_n 0, 1) := by decide +kernel
theorem dX12_copies_6 : decode cX12_copies 6 = .ok (.getfield 144, 3) := by decide +kernel
theorem dX12_copies_9 : decode cX12_copies 9 = .ok (.iload_n 2, 1) := by decide +kernel
theorem dX12_copies_10 : decode cX12_copies 10 = .ok (.iaload, 1) := by decide +kernel
theorem dX12_copies_11 : decode cX12_copies 11 = .ok (.iastore, 1) := by decide +kernel
theorem dX12_copies_12 : decode cX12_copies 12 = .ok (.iconst 0, 1) := by decide +kernel
theorem dX12_copies_13 : decode cX12_copies 13 = .ok (.istore_n 3, 1) := by decide +kernel
theorem dX12_copies_14 : decode cX12_copies 14 = .ok (.iload_n 3, 1) := by decide +kernel
theorem dX12_copies_15 : decode cX12_copies 15 = .ok (.bipush 64, 2) := by decide +kernel
theorem dX12_copies_17 : decode cX12_copies 17 = .ok (.if_icmp .ge 31, 3) := by decide +kernel
theorem dX12_copies_20 : decode cX12_copies 20 = .ok (.aload_n 0, 1) := by decide +kernel
theorem dX12_copies_21 : decode cX12_copies 21 = .ok (.getfield 147, 3) := by decide +kernel
theorem dX12_copies_24 : decode cX12_copies 24 = .ok (.bipush 64, 2) := by decide +kernel
theorem dX12_copies_26 : decode cX12_copies 26 = .ok (.iload_n 1, 1) := by decide +kernel
theorem dX12_copies_27 : decode cX12_copies 27 = .ok (.imul, 1) := by decide +kernel
theorem dX12_copies_28 : decode cX12_copies 28 = .ok (.iload_n 3, 1) := by decide +kernel
theorem dX12_copies_29 : decode cX12_copies 29 = .ok (.iadd, 1) := by decide +kernel
theorem dX12_copies_30 : decode cX12_copies 30 = .ok (.aload_n 0, 1) := by decide +kernel
theorem dX12_copies_31 : decode cX12_copies 31 = .ok (.getfield 147, 3) := by decide +kernel
theorem dX12_copies_34 : decode cX12_copies 34 = .ok (.bipush 64, 2) := by decide +kernel
theorem dX12_copies_36 : decode cX12_copies 36 = .ok (.iload_n 2, 1) := by decide +kernel
theorem dX12_copies_37 : decode cX12_copies 37 = .ok (.imul, 1) := by decide +kernel
theorem dX12_copies_38 : decode cX12_copies 38 = .ok (.iload_n 3, 1) := by decide +kernel
theorem dX12_copies_39 : decode cX12_copies 39 = .ok (.iadd, 1) := by decide +kernel
theorem dX12_copies_40 : decode cX12_copies 40 = .ok (.iaload, 1) := by decide +kernel
theorem dX12_copies_41 : decode cX12_copies 41 = .ok (.iastore, 1) := by decide +kernel
theorem dX12_copies_42 : decode cX12_copies 42 = .ok (.iinc 3 1, 3) := by decide +kernel
theorem dX12_copies_45 : decode cX12_copies 45 = .ok (.goto (-31), 3) := by decide +kernel
theorem dX12_copies_48 : decode cX12_copies 48 = .ok (.iconst 0, 1) := by decide +kernel
theorem dX12_copies_49 : decode cX12_copies 49 = .ok (.istore_n 3, 1) := by decide +kernel
theorem dX12_copies_50 : decode cX12_copies 50 = .ok (.iload_n 3, 1) := by decide +kernel
theorem dX12_copies_51 : decode cX12_copies 51 = .ok (.bipush 6, 2) := by decide +kernel
theorem dX12_copies_53 : decode cX12_copies 53 = .ok (.if_icmp .ge 97, 3) := by decide +kernel
theorem dX12_copies_56 : decode cX12_copies 56 = .ok (.aload_n 0, 1) := by decide +kernel
theorem dX12_copies_57 : decode cX12_copies 57 = .ok (.getfield 150, 3) := by decide +kernel
theorem dX12_copies_60 : decode cX12_copies 60 = .ok (.bipush 6, 2) := by decide +kernel
theorem dX12_copies_62 : decode cX12_copies 62 = .ok (.iload_n 1, 1) := by decide +kernel
theorem dX12_copies_63 : decode cX12_copies 63 = .ok (.imul, 1) := by decide +kernel
theorem dX12_copies_64 : decode cX12_copies 64 = .ok (.iload_n 3, 1) := by decide +kernel
theorem dX12_copies_65 : decode cX12_copies 65 = .ok (.iadd, 1) := by decide +kernel
theorem dX12_copies_66 : decode cX12_copies 66 = .ok (.aload_n 0, 1) := by decide +kernel
theorem dX12_copies_67 : decode cX12_copies 67 = .ok (.getfield 150, 3) := by decide +kernel
theorem dX12_copies_70 : decode cX12_copies 70 = .ok (.bipush 6, 2) := by decide +kernel
theorem dX12_copies_72 : decode cX12_copies 72 = .ok (.iload_n 2, 1) := by decide +kernel
theorem dX12_copies_73 : decode cX12_copies 73 = .ok (.imul, 1) := by decide +kernel
theorem dX12_copies_74 : decode cX12_copies 74 = .ok (.iload_n 3, 1) := by decide +kernel
theorem dX12_copies_75 : decode cX12_copies 75 = .ok (.iadd, 1) := by decide +kernel
theorem dX12_copies_76 : decode cX12_copies 76 = .ok (.iaload, 1) := by decide +kernel
theorem dX12_copies_77 : decode cX12_copies 77 = .ok (.iastore, 1) := by decide +kernel
theorem dX12_copies_78 : decode cX12_copies 78 = .ok (.aload_n 0, 1) := by decide +kernel
theorem dX12_copies_79 : decode cX12_copies 79 = .ok (.getfield 153, 3) := by decide +kernel
theorem dX12_copies_82 : decode cX12_copies 82 = .ok (.bipush 6, 2) := by decide +kernel
theorem dX12_copies_84 : decode cX12_copies 84 = .ok (.iload_n 1, 1) := by decide +kernel
theorem dX12_copies_85 : decode cX12_copies 85 = .ok (.imul, 1) := by decide +kernel
theorem dX12_copies_86 : decode cX12_copies 86 = .ok (.iload_n 3, 1) := by decide +kernel
theorem dX12_copies_87 : decode cX12_copies 87 = .ok (.iadd, 1) := by decide +kernel
theorem dX12_copies_88 : decode cX12_copies 88 = .ok (.aload_n 0, 1) := by decide +kernel
theorem dX12_copies_89 : decode cX12_copies 89 = .ok (.getfield 153, 3) := by decide +kernel
theorem dX12_copies_92 : decode cX12_copies 92 = .ok (.bipush 6, 2) := by decide +kernel
theorem dX12_copies_94 : decode cX12_copies 94 = .ok (.iload_n 2, 1) := by decide +kernel
theorem dX12_copies_95 : decode cX12_copies 95 = .ok (.imul, 1) := by decide +kernel
theorem dX12_copies_96 : decode cX12_copies 96 = .ok (.iload_n 3, 1) := by decide +kernel
theorem dX12_copies_97 : decode cX12_copies 97 = .ok (.iadd, 1) := by decide +kernel
theorem dX12_copies_98 : decode cX12_copies 98 = .ok (.iaload, 1) := by decide +kernel
theorem dX12_copies_99 : decode cX12_copies 99 = .ok (.iastore, 1) := by decide +kernel
theorem dX12_copies_100 : decode cX12_copies 100 = .ok (.aload_n 0, 1) := by decide +kernel
theorem dX12_copies_101 : decode cX12_copies 101 = .ok (.getfield 156, 3) := by decide +kernel
theorem dX12_copies_104 : decode cX12_copies 104 = .ok (.bipush 6, 2) := by decide +kernel
theorem dX12_copies_106 : decode cX12_copies 106 = .ok (.iload_n 1, 1) := by decide +kernel
theorem dX12_copies_107 : decode cX12_copies 107 = .ok (.imul, 1) := by decide +kernel
theorem dX12_copies_108 : decode cX12_copies 108 = .ok (.iload_n 3, 1) := by decide +kernel
theorem dX12_copies_109 : decode cX12_copies 109 = .ok (.iadd, 1) := by decide +kernel
theorem dX12_copies_110 : decode cX12_copies 110 = .ok (.aload_n 0, 1) := by decide +kernel
theorem dX12_copies_111 : decode cX12_copies 111 = .ok (.getfield 156, 3) := by decide +kernel
theorem dX12_copies_114 : decode cX12_copies 114 = .ok (.bipush 6, 2) := by decide +kernel
theorem dX12_copies_116 : decode cX12_copies 116 = .ok (.iload_n 2, 1) := by decide +kernel
theorem dX12_copies_117 : decode cX12_copies 117 = .ok (.imul, 1) := by decide +kernel
theorem dX12_copies_118 : decode cX12_copies 118 = .ok (.iload_n 3, 1) := by decide +kernel
theorem dX12_copies_119 : decode cX12_copies 119 = .ok (.iadd, 1) := by decide +kernel
theorem dX12_copies_120 : decode cX12_copies 120 = .ok (.iaload, 1) := by decide +kernel
theorem dX12_copies_121 : decode cX12_copies 121 = .ok (.iastore, 1) := by decide +kernel
theorem dX12_copies_122 : decode cX12_copies 122 = .ok (.aload_n 0, 1) := by decide +kernel
theorem dX12_copies_123 : decode cX12_copies 123 = .ok (.getfield 159, 3) := by decide +kernel
theorem dX12_copies_126 : decode cX12_copies 126 = .ok (.bipush 6, 2) := by decide +kernel
theorem dX12_copies_128 : decode cX12_copies 128 = .ok (.iload_n 1, 1) := by decide +kernel
theorem dX12_copies_129 : decode cX12_copies 129 = .ok (.imul, 1) := by decide +kernel
theorem dX12_copies_130 : decode cX12_copies 130 = .ok (.iload_n 3, 1) := by decide +kernel
theorem dX12_copies_131 : decode cX12_copies 131 = .ok (.iadd, 1) := by decide +kernel
theorem dX12_copies_132 : decode cX12_copies 132 = .ok (.aload_n 0, 1) := by decide +kernel
theorem dX12_copies_133 : decode cX12_copies 133 = .ok (.getfield 159, 3) := by decide +kernel
theorem dX12_copies_136 : decode cX12_copies 136 = .ok (.bipush 6, 2) := by decide +kernel
theorem dX12_copies_138 : decode cX12_copies 138 = .ok (.iload_n 2, 1) := by decide +kernel
theorem dX12_copies_139 : decode cX12_copies 139 = .ok (.imul, 1) := by decide +kernel
theorem dX12_copies_140 : decode cX12_copies 140 = .ok (.iload_n 3, 1) := by decide +kernel
theorem dX12_copies_141 : decode cX12_copies 141 = .ok (.iadd, 1) := by decide +kernel
theorem dX12_copies_142 : decode cX12_copies 142 = .ok (.iaload, 1) := by decide +kernel
theorem dX12_copies_143 : decode cX12_copies 143 = .ok (.iastore, 1) := by decide +kernel
theorem dX12_copies_144 : decode cX12_copies 144 = .ok (.iinc 3 1, 3) := by decide +kernel
theorem dX12_copies_147 : decode cX12_copies 147 = .ok (.goto (-97), 3) := by decide +kernel
theorem dX12_copies_150 : decode cX12_copies 150 = .ok (.aload_n 0, 1) := by decide +kernel
theorem dX12_copies_151 : decode cX12_copies 151 = .ok (.getfield 162, 3) := by decide +kernel
theorem dX12_copies_154 : decode cX12_copies 154 = .ok (.iload_n 1, 1) := by decide +kernel
theorem dX12_copies_155 : decode cX12_copies 155 = .ok (.aload_n 0, 1) := by decide +kernel
theorem dX12_copies_156 : decode cX12_copies 156 = .ok (.getfield 162, 3) := by decide +kernel
theorem dX12_copies_159 : decode cX12_copies 159 = .ok (.iload_n 2, 1) := by decide +kernel
theorem dX12_copies_160 : decode cX12_copies 160 = .ok (.iaload, 1) := by decide +kernel
theorem dX12_copies_161 : decode cX12_copies 161 = .ok (.iastore, 1) := by decide +kernel
theorem dX12_copies_162 : decode cX12_copies 162 = .ok (.iconst 0, 1) := by decide +kernel
theorem dX12_copies_163 : decode cX12_copies 163 = .ok (.istore_n 3, 1) := by decide +kernel
theorem dX12_copies_164 : decode cX12_copies 164 = .ok (.iload_n 3, 1) := by decide +kernel
theorem dX12_copies_165 : decode cX12_copies 165 = .ok (.iconst 3, 1) := by decide +kernel
theorem dX12_copies_166 : decode cX12_copies 166 = .ok (.aload_n 0, 1) := by decide +kernel
theorem dX12_copies_167 : decode cX12_copies 167 = .ok (.getfield 162, 3) := by decide +kernel
theorem dX12_copies_170 : decode cX12_copies 170 = .ok (.iload_n 2, 1) := by decide +kernel
theorem dX12_copies_171 : decode cX12_copies 171 = .ok (.iaload, 1) := by decide +kernel
theorem dX12_copies_172 : decode cX12_copies 172 = .ok (.imul, 1) := by decide +kernel
theorem dX12_copies_173 : decode cX12_copies 173 = .ok (.if_icmp .ge 31, 3) := by decide +kernel
theorem dX12_copies_176 : decode cX12_copies 176 = .ok (.aload_n 0, 1) := by decide +kernel
theorem dX12_copies_177 : decode cX12_copies 177 = .ok (.getfield 165, 3) := by decide +kernel
theorem dX12_copies_180 : decode cX12_copies 180 = .ok (.bipush 120, 2) := by decide +kernel
theorem dX12_copies_182 : decode cX12_copies 182 = .ok (.iload_n 1, 1) := by decide +kernel
theorem dX12_copies_183 : decode cX12_copies 183 = .ok (.imul, 1) := by decide +kernel
theorem dX12_copies_184 : decode cX12_copies 184 = .ok (.iload_n 3, 1) := by decide +kernel
theorem dX12_copies_185 : decode cX12_copies 185 = .ok (.iadd, 1) := by decide +kernel
theorem dX12_copies_186 : decode cX12_copies 186 = .ok (.aload_n 0, 1) := by decide +kernel
theorem dX12_copies_187 : decode cX12_copies 187 = .ok (.getfield 165, 3) := by decide +kernel
theorem dX12_copies_190 : decode cX12_copies 190 = .ok (.bipush 120, 2) := by decide +kernel
theorem dX12_copies_192 : decode cX12_copies 192 = .ok (.iload_n 2, 1) := by decide +kernel
theorem dX12_copies_193 : decode cX12_copies 193 = .ok (.imul, 1) := by decide +kernel
theorem dX12_copies_194 : decode cX12_copies 194 = .ok (.iload_n 3, 1) := by decide +kernel
theorem dX12_copies_195 : decode cX12_copies 195 = .ok (.iadd, 1) := by decide +kernel
theorem dX12_copies_196 : decode cX12_copies 196 = .ok (.iaload, 1) := by decide +kernel
theorem dX12_copies_197 : decode cX12_copies 197 = .ok (.iastore, 1) := by decide +kernel
theorem dX12_copies_198 : decode cX12_copies 198 = .ok (.iinc 3 1, 3) := by decide +kernel
theorem dX12_copies_201 : decode cX12_copies 201 = .ok (.goto (-37), 3) := by decide +kernel
theorem dX12_copies_204 : decode cX12_copies 204 = .ok (.return_, 1) := by decide +kernel
theorem dX12_begin_0 : decode cX12_begin 0 = .ok (.aload_n 0, 1) := by decide +kernel
theorem dX12_begin_1 : decode cX12_begin 1 = .ok (.getfield 144, 3) := by decide +kernel
theorem dX12_begin_4 : decode cX12_begin 4 = .ok (.iconst 0, 1) := by decide +kernel
theorem dX12_begin_5 : decode cX12_begin 5 = .ok (.iconst 0, 1) := by decide +kernel
theorem dX12_begin_6 : decode cX12_begin 6 = .ok (.iastore, 1) := by decide +kernel
theorem dX12_begin_7 : decode cX12_begin 7 = .ok (.iconst 0, 1) := by decide +kernel
theorem dX12_begin_8 : decode cX12_begin 8 = .ok (.istore_n 1, 1) := by decide +kernel
theorem dX12_begin_9 : decode cX12_begin 9 = .ok (.iload_n 1, 1) := by decide +kernel
theorem dX12_begin_10 : decode cX12_begin 10 = .ok (.bipush 64, 2) := by decide +kernel
theorem dX12_begin_12 : decode cX12_begin 12 = .ok (.if_icmp .ge 29, 3) := by decide +kernel
theorem dX12_begin_15 : decode cX12_begin 15 = .ok (.aload_n 0, 1) := by decide +kernel
theorem dX12_begin_16 : decode cX12_begin 16 = .ok (.getfield 147, 3) := by decide +kernel
theorem dX12_begin_19 : decode cX12_begin 19 = .ok (.iload_n 1, 1) := by decide +kernel
theorem dX12_begin_20 : decode cX12_begin 20 = .ok (.aload_n 0, 1) := by decide +kernel
theorem dX12_begin_21 : decode cX12_begin 21 = .ok (.getfield 60, 3) := by decide +kernel
theorem dX12_begin_24 : decode cX12_begin 24 = .ok (.bipush 64, 2) := by decide +kernel
theorem dX12_begin_26 : decode cX12_begin 26 = .ok (.aload_n 0, 1) := by decide +kernel
theorem dX12_begin_27 : decode cX12_begin 27 = .ok (.getfield 51, 3) := by decide +kernel
theorem dX12_begin_30 : decode cX12_begin 30 = .ok (.imul, 1) := by decide +kernel
theorem dX12_begin_31 : decode cX12_begin 31 = .ok (.iload_n 1, 1) := by decide +kernel
theorem dX12_begin_32 : decode cX12_begin 32 = .ok (.iadd, 1) := by decide +kernel
theorem dX12_begin_33 : decode cX12_begin 33 = .ok (.iaload, 1) := by decide +kernel
theorem dX12_begin_34 : decode cX12_begin 34 = .ok (.iastore, 1) := by decide +kernel
theorem dX12_begin_35 : decode cX12_begin 35 = .ok (.iinc 1 1, 3) := by decide +kernel
theorem dX12_begin_38 : decode cX12_begin 38 = .ok (.goto (-29), 3) := by decide +kernel
theorem dX12_begin_41 : decode cX12_begin 41 = .ok (.iconst 0, 1) := by decide +kernel
theorem dX12_begin_42 : decode cX12_begin 42 = .ok (.istore_n 1, 1) := by decide +kernel
theorem dX12_begin_43 : decode cX12_begin 43 = .ok (.iload_n 1, 1) := by decide +kernel
theorem dX12_begin_44 : decode cX12_begin 44 = .ok (.bipush 6, 2) := by decide +kernel
theorem dX12_begin_46 : decode cX12_begin 46 = .ok (.if_icmp .ge 76, 3) := by decide +kernel
theorem dX12_begin_49 : decode cX12_begin 49 = .ok (.aload_n 0, 1) := by decide +kernel
theorem dX12_begin_50 : decode cX12_begin 50 = .ok (.getfield 150, 3) := by decide +kernel
theorem dX12_begin_53 : decode cX12_begin 53 = .ok (.iload_n 1, 1) := by decide +kernel
theorem dX12_begin_54 : decode cX12_begin 54 = .ok (.aload_n 0, 1) := by decide +kernel
theorem dX12_begin_55 : decode cX12_begin 55 = .ok (.getfield 66, 3) := by decide +kernel
theorem dX12_begin_58 : decode cX12_begin 58 = .ok (.bipush 6, 2) := by decide +kernel
theorem dX12_begin_60 : decode cX12_begin 60 = .ok (.aload_n 0, 1) := by decide +kernel
theorem dX12_begin_61 : decode cX12_begin 61 = .ok (.getfield 51, 3) := by decide +kernel
theorem dX12_begin_64 : decode cX12_begin 64 = .ok (.imul, 1) := by decide +kernel
theorem dX12_begin_65 : decode cX12_begin 65 = .ok (.iload_n 1, 1) := by decide +kernel
theorem dX12_begin_66 : decode cX12_begin 66 = .ok (.iadd, 1) := by decide +kernel
theorem dX12_begin_67 : decode cX12_begin 67 = .ok (.iaload, 1) := by decide +kernel
theorem dX12_begin_68 : decode cX12_begin 68 = .ok (.iastore, 1) := by decide +kernel
theorem dX12_begin_69 : decode cX12_begin 69 = .ok (.aload_n 0, 1) := by decide +kernel
theorem dX12_begin_70 : decode cX12_begin 70 = .ok (.getfield 153, 3) := by decide +kernel
theorem dX12_begin_73 : decode cX12_begin 73 = .ok (.iload_n 1, 1) := by decide +kernel
theorem dX12_begin_74 : decode cX12_begin 74 = .ok (.aload_n 0, 1) := by decide +kernel
theorem dX12_begin_75 : decode cX12_begin 75 = .ok (.getfield 69, 3) := by decide +kernel
theorem dX12_begin_78 : decode cX12_begin 78 = .ok (.bipush 6, 2) := by decide +kernel
theorem dX12_begin_80 : decode cX12_begin 80 = .ok (.aload_n 0, 1) := by decide +kernel
theorem dX12_begin_81 : decode cX12_begin 81 = .ok (.getfield 51, 3) := by decide +kernel
theorem dX12_begin_84 : decode cX12_begin 84 = .ok (.imul, 1) := by decide +kernel
theorem dX12_begin_85 : decode cX12_begin 85 = .ok (.iload_n 1, 1) := by decide +kernel
theorem dX12_begin_86 : decode cX12_begin 86 = .ok (.iadd, 1) := by decide +kernel
theorem dX12_begin_87 : decode cX12_begin 87 = .ok (.iaload, 1) := by decide +kernel
theorem dX12_begin_88 : decode cX12_begin 88 = .ok (.iastore, 1) := by decide +kernel
theorem dX12_begin_89 : decode cX12_begin 89 = .ok (.aload_n 0, 1) := by decide +kernel
theorem dX12_begin_90 : decode cX12_begin 90 = .ok (.getfield 156, 3) := by decide +kernel
theorem dX12_begin_93 : decode cX12_begin 93 = .ok (.iload_n 1, 1) := by decide +kernel
theorem dX12_begin_94 : decode cX12_begin 94 = .ok (.aload_n 0, 1) := by decide +kernel
theorem dX12_begin_95 : decode cX12_begin 95 = .ok (.getfield 72, 3) := by decide +kernel
theorem dX12_begin_98 : decode cX12_begin 98 = .ok (.bipush 6, 2) := by decide +kernel
theorem dX12_begin_100 : decode cX12_begin 100 = .ok (.aload_n 0, 1) := by decide +kernel
theorem dX12_begin_101 : decode cX12_begin 101 = .ok (.getfield 51, 3) := by decide +kernel
theorem dX12_begin_104 : decode cX12_begin 104 = .ok (.imul, 1) := by decide +kernel
theorem dX12_begin_105 : decode cX12_begin 105 = .ok (.iload_n 1, 1) := by decide +kernel
theorem dX12_begin_106 : decode cX12_begin 106 = .ok (.iadd, 1) := by decide +kernel
theorem dX12_begin_107 : decode cX12_begin 107 = .ok (.iaload, 1) := by decide +kernel
theorem dX12_begin_108 : decode cX12_begin 108 = .ok (.iastore, 1) := by decide +kernel
theorem dX12_begin_109 : decode cX12_begin 109 = .ok (.aload_n 0, 1) := by decide +kernel
theorem dX12_begin_110 : decode cX12_begin 110 = .ok (.getfield 159, 3) := by decide +kernel
theorem dX12_begin_113 : decode cX12_begin 113 = .ok (.iload_n 1, 1) := by decide +kernel
theorem dX12_begin_114 : decode cX12_begin 114 = .ok (.iconst 0, 1) := by decide +kernel
theorem dX12_begin_115 : decode cX12_begin 115 = .ok (.iastore, 1) := by decide +kernel
theorem dX12_begin_116 : decode cX12_begin 116 = .ok (.iinc 1 1, 3) := by decide +kernel
theorem dX12_begin_119 : decode cX12_begin 119 = .ok (.goto (-76), 3) := by decide +kernel
theorem dX12_begin_122 : decode cX12_begin 122 = .ok (.aload_n 0, 1) := by decide +kernel
theorem dX12_begin_123 : decode cX12_begin 123 = .ok (.getfield 162, 3) := by decide +kernel
theorem dX12_begin_126 : decode cX12_begin 126 = .ok (.iconst 0, 1) := by decide +kernel
theorem dX12_begin_127 : decode cX12_begin 127 = .ok (.iconst 0, 1) := by decide +kernel
theorem dX12_begin_128 : decode cX12_begin 128 = .ok (.iastore, 1) := by decide +kernel
theorem dX12_begin_129 : decode cX12_begin 129 = .ok (.aload_n 0, 1) := by decide +kernel
theorem dX12_begin_130 : decode cX12_begin 130 = .ok (.iconst 0, 1) := by decide +kernel
theorem dX12_begin_131 : decode cX12_begin 131 = .ok (.putfield 171, 3) := by decide +kernel
theorem dX12_begin_134 : decode cX12_begin 134 = .ok (.aload_n 0, 1) := by decide +kernel
theorem dX12_begin_135 : decode cX12_begin 135 = .ok (.iconst 0, 1) := by decide +kernel
theorem dX12_begin_136 : decode cX12_begin 136 = .ok (.putfield 219, 3) := by decide +kernel
theorem dX12_begin_139 : decode cX12_begin 139 = .ok (.return_, 1) := by decide +kernel
theorem dX12_slot_0 : decode cX12_slot 0 = .ok (.iconst 2, 1) := by decide +kernel
theorem dX12_slot_1 : decode cX12_slot 1 = .ok (.aload_n 0, 1) := by decide +kernel
theorem dX12_slot_2 : decode cX12_slot 2 = .ok (.getfield 168, 3) := by decide +kernel
theorem dX12_slot_5 : decode cX12_slot 5 = .ok (.iload_n 1, 1) := by decide +kernel
theorem dX12_slot_6 : decode cX12_slot 6 = .ok (.iadd, 1) := by decide +kernel
theorem dX12_slot_7 : decode cX12_slot 7 = .ok (.bipush 20, 2) := by decide +kernel
theorem dX12_slot_9 : decode cX12_slot 9 = .ok (.irem, 1) := by decide +kernel
theorem dX12_slot_10 : decode cX12_slot 10 = .ok (.iadd, 1) := by decide +kernel
theorem dX12_slot_11 : decode cX12_slot 11 = .ok (.ireturn, 1) := by decide +kernel
theorem dX12_keeps_0 : decode cX12_keeps 0 = .ok (.aload_n 0, 1) := by decide +kernel
theorem dX12_keeps_1 : decode cX12_keeps 1 = .ok (.getfield 171, 3) := by decide +kernel
theorem dX12_keeps_4 : decode cX12_keeps 4 = .ok (.bipush 20, 2) := by decide +kernel
theorem dX12_keeps_6 : decode cX12_keeps 6 = .ok (.if_icmp .ne 26, 3) := by decide +kernel
theorem dX12_keeps_9 : decode cX12_keeps 9 = .ok (.aload_n 0, 1) := by decide +kernel
theorem dX12_keeps_10 : decode cX12_keeps 10 = .ok (.aload_n 0, 1) := by decide +kernel
theorem dX12_keeps_11 : decode cX12_keeps 11 = .ok (.getfield 168, 3) := by decide +kernel
theorem dX12_keeps_14 : decode cX12_keeps 14 = .ok (.iconst 1, 1) := by decide +kernel
theorem dX12_keeps_15 : decode cX12_keeps 15 = .ok (.iadd, 1) := by decide +kernel
theorem dX12_keeps_16 : decode cX12_keeps 16 = .ok (.bipush 20, 2) := by decide +kernel
theorem dX12_keeps_18 : decode cX12_keeps 18 = .ok (.irem, 1) := by decide +kernel
theorem dX12_keeps_19 : decode cX12_keeps 19 = .ok (.putfield 168, 3) := by decide +kernel
theorem dX12_keeps_22 : decode cX12_keeps 22 = .ok (.aload_n 0, 1) := by decide +kernel
theorem dX12_keeps_23 : decode cX12_keeps 23 = .ok (.dup, 1) := by decide +kernel
theorem dX12_keeps_24 : decode cX12_keeps 24 = .ok (.getfield 171, 3) := by decide +kernel
theorem dX12_keeps_27 : decode cX12_keeps 27 = .ok (.iconst 1, 1) := by decide +kernel
theorem dX12_keeps_28 : decode cX12_keeps 28 = .ok (.isub, 1) := by decide +kernel
theorem dX12_keeps_29 : decode cX12_keeps 29 = .ok (.putfield 171, 3) := by decide +kernel
theorem dX12_keeps_32 : decode cX12_keeps 32 = .ok (.aload_n 0, 1) := by decide +kernel
theorem dX12_keeps_33 : decode cX12_keeps 33 = .ok (.aload_n 0, 1) := by decide +kernel
theorem dX12_keeps_34 : decode cX12_keeps 34 = .ok (.aload_n 0, 1) := by decide +kernel
theorem dX12_keeps_35 : decode cX12_keeps 35 = .ok (.getfield 171, 3) := by decide +kernel
theorem dX12_keeps_38 : decode cX12_keeps 38 = .ok (.invokevirtual 411, 3) := by decide +kernel
theorem dX12_keeps_41 : decode cX12_keeps 41 = .ok (.iconst 0, 1) := by decide +kernel
theorem dX12_keeps_42 : decode cX12_keeps 42 = .ok (.invokevirtual 414, 3) := by decide +kernel
theorem dX12_keeps_45 : decode cX12_keeps 45 = .ok (.aload_n 0, 1) := by decide +kernel
theorem dX12_keeps_46 : decode cX12_keeps 46 = .ok (.dup, 1) := by decide +kernel
theorem dX12_keeps_47 : decode cX12_keeps 47 = .ok (.getfield 171, 3) := by decide +kernel
theorem dX12_keeps_50 : decode cX12_keeps 50 = .ok (.iconst 1, 1) := by decide +kernel
theorem dX12_keeps_51 : decode cX12_keeps 51 = .ok (.iadd, 1) := by decide +kernel
theorem dX12_keeps_52 : decode cX12_keeps 52 = .ok (.putfield 171, 3) := by decide +kernel
theorem dX12_keeps_55 : decode cX12_keeps 55 = .ok (.return_, 1) := by decide +kernel
theorem dX12_undo_0 : decode cX12_undo 0 = .ok (.aload_n 0, 1) := by decide +kernel
theorem dX12_undo_1 : decode cX12_undo 1 = .ok (.getfield 171, 3) := by decide +kernel
theorem dX12_undo_4 : decode cX12_undo 4 = .ok (.ifCond .ne 17, 3) := by decide +kernel
theorem dX12_undo_7 : decode cX12_undo 7 = .ok (.aload_n 0, 1) := by decide +kernel
theorem dX12_undo_8 : decode cX12_undo 8 = .ok (.iconst 4, 1) := by decide +kernel
theorem dX12_undo_9 : decode cX12_undo 9 = .ok (.invokevirtual 247, 3) := by decide +kernel
theorem dX12_undo_12 : decode cX12_undo 12 = .ok (.ifCond .lt 7, 3) := by decide +kernel
theorem dX12_undo_15 : decode cX12_undo 15 = .ok (.iconst 1, 1) := by decide +kernel
theorem dX12_undo_16 : decode cX12_undo 16 = .ok (.goto 4, 3) := by decide +kernel
theorem dX12_undo_19 : decode cX12_undo 19 = .ok (.iconst 0, 1) := by decide +kernel
theorem dX12_undo_20 : decode cX12_undo 20 = .ok (.ireturn, 1) := by decide +kernel
theorem dX12_undo_21 : decode cX12_undo 21 = .ok (.aload_n 0, 1) := by decide +kernel
theorem dX12_undo_22 : decode cX12_undo 22 = .ok (.dup, 1) := by decide +kernel
theorem dX12_undo_23 : decode cX12_undo 23 = .ok (.getfield 171, 3) := by decide +kernel
theorem dX12_undo_26 : decode cX12_undo 26 = .ok (.iconst 1, 1) := by decide +kernel
theorem dX12_undo_27 : decode cX12_undo 27 = .ok (.isub, 1) := by decide +kernel
theorem dX12_undo_28 : decode cX12_undo 28 = .ok (.putfield 171, 3) := by decide +kernel
theorem dX12_undo_31 : decode cX12_undo 31 = .ok (.aload_n 0, 1) := by decide +kernel
theorem dX12_undo_32 : decode cX12_undo 32 = .ok (.iconst 0, 1) := by decide +kernel
theorem dX12_undo_33 : decode cX12_undo 33 = .ok (.aload_n 0, 1) := by decide +kernel
theorem dX12_undo_34 : decode cX12_undo 34 = .ok (.aload_n 0, 1) := by decide +kernel
theorem dX12_undo_35 : decode cX12_undo 35 = .ok (.getfield 171, 3) := by decide +kernel
theorem dX12_undo_38 : decode cX12_undo 38 = .ok (.invokevirtual 411, 3) := by decide +kernel
theorem dX12_undo_41 : decode cX12_undo 41 = .ok (.invokevirtual 414, 3) := by decide +kernel
theorem dX12_undo_44 : decode cX12_undo 44 = .ok (.iconst 1, 1) := by decide +kernel
theorem dX12_undo_45 : decode cX12_undo 45 = .ok (.ireturn, 1) := by decide +kernel
theorem dX12_within_0 : decode cX12_within 0 = .ok (.lload_n 0, 1) := by decide +kernel
theorem dX12_within_1 : decode cX12_within 1 = .ok (.ldc2_w 417, 3) := by decide +kernel
theorem dX12_within_4 : decode cX12_within 4 = .ok (.lcmp, 1) := by decide +kernel
theorem dX12_within_5 : decode cX12_within 5 = .ok (.ifCond .le 9, 3) := by decide +kernel
theorem dX12_within_8 : decode cX12_within 8 = .ok (.ldc2_w 417, 3) := by decide +kernel
theorem dX12_within_11 : decode cX12_within 11 = .ok (.goto 18, 3) := by decide +kernel
theorem dX12_within_14 : decode cX12_within 14 = .ok (.lload_n 0, 1) := by decide +kernel
theorem dX12_within_15 : decode cX12_within 15 = .ok (.ldc2_w 419, 3) := by decide +kernel
theorem dX12_within_18 : decode cX12_within 18 = .ok (.lcmp, 1) := by decide +kernel
theorem dX12_within_19 : decode cX12_within 19 = .ok (.ifCond .ge 9, 3) := by decide +kernel
theorem dX12_within_22 : decode cX12_within 22 = .ok (.ldc2_w 419, 3) := by decide +kernel
theorem dX12_within_25 : decode cX12_within 25 = .ok (.goto 4, 3) := by decide +kernel
theorem dX12_within_28 : decode cX12_within 28 = .ok (.lload_n 0, 1) := by decide +kernel
theorem dX12_within_29 : decode cX12_within 29 = .ok (.lreturn, 1) := by decide +kernel
theorem dX12_floor_0 : decode cX12_floor 0 = .ok (.lload_n 2, 1) := by decide +kernel
theorem dX12_floor_1 : decode cX12_floor 1 = .ok (.lconst 0, 1) := by decide +kernel
theorem dX12_floor_2 : decode cX12_floor 2 = .ok (.lcmp, 1) := by decide +kernel
theorem dX12_floor_3 : decode cX12_floor 3 = .ok (.ifCond .ne 5, 3) := by decide +kernel
theorem dX12_floor_6 : decode cX12_floor 6 = .ok (.lconst 0, 1) := by decide +kernel
theorem dX12_floor_7 : decode cX12_floor 7 = .ok (.lreturn, 1) := by decide +kernel
theorem dX12_floor_8 : decode cX12_floor 8 = .ok (.lload_n 0, 1) := by decide +kernel
theorem dX12_floor_9 : decode cX12_floor 9 = .ok (.lload_n 2, 1) := by decide +kernel
theorem dX12_floor_10 : decode cX12_floor 10 = .ok (.ldiv, 1) := by decide +kernel
theorem dX12_floor_11 : decode cX12_floor 11 = .ok (.lstore 4, 2) := by decide +kernel
theorem dX12_floor_13 : decode cX12_floor 13 = .ok (.lload_n 0, 1) := by decide +kernel
theorem dX12_floor_14 : decode cX12_floor 14 = .ok (.lload_n 2, 1) := by decide +kernel
theorem dX12_floor_15 : decode cX12_floor 15 = .ok (.lrem, 1) := by decide +kernel
theorem dX12_floor_16 : decode cX12_floor 16 = .ok (.lconst 0, 1) := by decide +kernel
theorem dX12_floor_17 : decode cX12_floor 17 = .ok (.lcmp, 1) := by decide +kernel
theorem dX12_floor_18 : decode cX12_floor 18 = .ok (.ifCond .eq 35, 3) := by decide +kernel
theorem dX12_floor_21 : decode cX12_floor 21 = .ok (.lload_n 0, 1) := by decide +kernel
theorem dX12_floor_22 : decode cX12_floor 22 = .ok (.lconst 0, 1) := by decide +kernel
theorem dX12_floor_23 : decode cX12_floor 23 = .ok (.lcmp, 1) := by decide +kernel
theorem dX12_floor_24 : decode cX12_floor 24 = .ok (.ifCond .ge 7, 3) := by decide +kernel
theorem dX12_floor_27 : decode cX12_floor 27 = .ok (.iconst 1, 1) := by decide +kernel
theorem dX12_floor_28 : decode cX12_floor 28 = .ok (.goto 4, 3) := by decide +kernel
theorem dX12_floor_31 : decode cX12_floor 31 = .ok (.iconst 0, 1) := by decide +kernel
theorem dX12_floor_32 : decode cX12_floor 32 = .ok (.lload_n 2, 1) := by decide +kernel
theorem dX12_floor_33 : decode cX12_floor 33 = .ok (.lconst 0, 1) := by decide +kernel
theorem dX12_floor_34 : decode cX12_floor 34 = .ok (.lcmp, 1) := by decide +kernel
theorem dX12_floor_35 : decode cX12_floor 35 = .ok (.ifCond .ge 7, 3) := by decide +kernel
theorem dX12_floor_38 : decode cX12_floor 38 = .ok (.iconst 1, 1) := by decide +kernel
theorem dX12_floor_39 : decode cX12_floor 39 = .ok (.goto 4, 3) := by decide +kernel
theorem dX12_floor_42 : decode cX12_floor 42 = .ok (.iconst 0, 1) := by decide +kernel
theorem dX12_floor_43 : decode cX12_floor 43 = .ok (.if_icmp .eq 10, 3) := by decide +kernel
theorem dX12_floor_46 : decode cX12_floor 46 = .ok (.lload 4, 2) := by decide +kernel
theorem dX12_floor_48 : decode cX12_floor 48 = .ok (.lconst 1, 1) := by decide +kernel
theorem dX12_floor_49 : decode cX12_floor 49 = .ok (.lsub, 1) := by decide +kernel
theorem dX12_floor_50 : decode cX12_floor 50 = .ok (.goto 5, 3) := by decide +kernel
theorem dX12_floor_53 : decode cX12_floor 53 = .ok (.lload 4, 2) := by decide +kernel
theorem dX12_floor_55 : decode cX12_floor 55 = .ok (.lreturn, 1) := by decide +kernel
theorem dX12_two_0 : decode cX12_two 0 = .ok (.iload_n 0, 1) := by decide +kernel
theorem dX12_two_1 : decode cX12_two 1 = .ok (.tableswitch 176 31 41 #[59, 66, 73, 80, 89, 112, 124, 136, 148, 160, 172], 59) := by decide +kernel
theorem dX12_two_60 : decode cX12_two 60 = .ok (.lload_n 1, 1) := by decide +kernel
theorem dX12_two_61 : decode cX12_two 61 = .ok (.lload_n 3, 1) := by decide +kernel
theorem dX12_two_62 : decode cX12_two 62 = .ok (.ladd, 1) := by decide +kernel
theorem dX12_two_63 : decode cX12_two 63 = .ok (.invokestatic 421, 3) := by decide +kernel
theorem dX12_two_66 : decode cX12_two 66 = .ok (.lreturn, 1) := by decide +kernel
theorem dX12_two_67 : decode cX12_two 67 = .ok (.lload_n 1, 1) := by decide +kernel
theorem dX12_two_68 : decode cX12_two 68 = .ok (.lload_n 3, 1) := by decide +kernel
theorem dX12_two_69 : decode cX12_two 69 = .ok (.lsub, 1) := by decide +kernel
theorem dX12_two_70 : decode cX12_two 70 = .ok (.invokestatic 421, 3) := by decide +kernel
theorem dX12_two_73 : decode cX12_two 73 = .ok (.lreturn, 1) := by decide +kernel
theorem dX12_two_74 : decode cX12_two 74 = .ok (.lload_n 1, 1) := by decide +kernel
theorem dX12_two_75 : decode cX12_two 75 = .ok (.lload_n 3, 1) := by decide +kernel
theorem dX12_two_76 : decode cX12_two 76 = .ok (.lmul, 1) := by decide +kernel
theorem dX12_two_77 : decode cX12_two 77 = .ok (.invokestatic 421, 3) := by decide +kernel
theorem dX12_two_80 : decode cX12_two 80 = .ok (.lreturn, 1) := by decide +kernel
theorem dX12_two_81 : decode cX12_two 81 = .ok (.lload_n 1, 1) := by decide +kernel
theorem dX12_two_82 : decode cX12_two 82 = .ok (.lload_n 3, 1) := by decide +kernel
theorem dX12_two_83 : decode cX12_two 83 = .ok (.invokestatic 425, 3) := by decide +kernel
theorem dX12_two_86 : decode cX12_two 86 = .ok (.invokestatic 421, 3) := by decide +kernel
theorem dX12_two_89 : decode cX12_two 89 = .ok (.lreturn, 1) := by decide +kernel
theorem dX12_two_90 : decode cX12_two 90 = .ok (.lload_n 3, 1) := by decide +kernel
theorem dX12_two_91 : decode cX12_two 91 = .ok (.lconst 0, 1) := by decide +kernel
theorem dX12_two_92 : decode cX12_two 92 = .ok (.lcmp, 1) := by decide +kernel
theorem dX12_two_93 : decode cX12_two 93 = .ok (.ifCond .ne 7, 3) := by decide +kernel
theorem dX12_two_96 : decode cX12_two 96 = .ok (.lconst 0, 1) := by decide +kernel
theorem dX12_two_97 : decode cX12_two 97 = .ok (.goto 15, 3) := by decide +kernel
theorem dX12_two_100 : decode cX12_two 100 = .ok (.lload_n 1, 1) := by decide +kernel
theorem dX12_two_101 : decode cX12_two 101 = .ok (.lload_n 3, 1) := by decide +kernel
theorem dX12_two_102 : decode cX12_two 102 = .ok (.lload_n 1, 1) := by decide +kernel
theorem dX12_two_103 : decode cX12_two 103 = .ok (.lload_n 3, 1) := by decide +kernel
theorem dX12_two_104 : decode cX12_two 104 = .ok (.invokestatic 425, 3) := by decide +kernel
theorem dX12_two_107 : decode cX12_two 107 = .ok (.lmul, 1) := by decide +kernel
theorem dX12_two_108 : decode cX12_two 108 = .ok (.lsub, 1) := by decide +kernel
theorem dX12_two_109 : decode cX12_two 109 = .ok (.invokestatic 421, 3) := by decide +kernel
theorem dX12_two_112 : decode cX12_two 112 = .ok (.lreturn, 1) := by decide +kernel
theorem dX12_two_113 : decode cX12_two 113 = .ok (.lload_n 1, 1) := by decide +kernel
theorem dX12_two_114 : decode cX12_two 114 = .ok (.lload_n 3, 1) := by decide +kernel
theorem dX12_two_115 : decode cX12_two 115 = .ok (.lcmp, 1) := by decide +kernel
theorem dX12_two_116 : decode cX12_two 116 = .ok (.ifCond .ge 7, 3) := by decide +kernel
theorem dX12_two_119 : decode cX12_two 119 = .ok (.lload_n 1, 1) := by decide +kernel
theorem dX12_two_120 : decode cX12_two 120 = .ok (.goto 4, 3) := by decide +kernel
theorem dX12_two_123 : decode cX12_two 123 = .ok (.lload_n 3, 1) := by decide +kernel
theorem dX12_two_124 : decode cX12_two 124 = .ok (.lreturn, 1) := by decide +kernel
theorem dX12_two_125 : decode cX12_two 125 = .ok (.lload_n 1, 1) := by decide +kernel
theorem dX12_two_126 : decode cX12_two 126 = .ok (.lload_n 3, 1) := by decide +kernel
theorem dX12_two_127 : decode cX12_two 127 = .ok (.lcmp, 1) := by decide +kernel
theorem dX12_two_128 : decode cX12_two 128 = .ok (.ifCond .le 7, 3) := by decide +kernel
theorem dX12_two_131 : decode cX12_two 131 = .ok (.lload_n 1, 1) := by decide +kernel
theorem dX12_two_132 : decode cX12_two 132 = .ok (.goto 4, 3) := by decide +kernel
theorem dX12_two_135 : decode cX12_two 135 = .ok (.lload_n 3, 1) := by decide +kernel
theorem dX12_two_136 : decode cX12_two 136 = .ok (.lreturn, 1) := by decide +kernel
theorem dX12_two_137 : decode cX12_two 137 = .ok (.lload_n 1, 1) := by decide +kernel
theorem dX12_two_138 : decode cX12_two 138 = .ok (.lload_n 3, 1) := by decide +kernel
theorem dX12_two_139 : decode cX12_two 139 = .ok (.lcmp, 1) := by decide +kernel
theorem dX12_two_140 : decode cX12_two 140 = .ok (.ifCond .ge 7, 3) := by decide +kernel
theorem dX12_two_143 : decode cX12_two 143 = .ok (.lconst 1, 1) := by decide +kernel
theorem dX12_two_144 : decode cX12_two 144 = .ok (.goto 4, 3) := by decide +kernel
theorem dX12_two_147 : decode cX12_two 147 = .ok (.lconst 0, 1) := by decide +kernel
theorem dX12_two_148 : decode cX12_two 148 = .ok (.lreturn, 1) := by decide +kernel
theorem dX12_two_149 : decode cX12_two 149 = .ok (.lload_n 1, 1) := by decide +kernel
theorem dX12_two_150 : decode cX12_two 150 = .ok (.lload_n 3, 1) := by decide +kernel
theorem dX12_two_151 : decode cX12_two 151 = .ok (.lcmp, 1) := by decide +kernel
theorem dX12_two_152 : decode cX12_two 152 = .ok (.ifCond .le 7, 3) := by decide +kernel
theorem dX12_two_155 : decode cX12_two 155 = .ok (.lconst 1, 1) := by decide +kernel
theorem dX12_two_156 : decode cX12_two 156 = .ok (.goto 4, 3) := by decide +kernel
theorem dX12_two_159 : decode cX12_two 159 = .ok (.lconst 0, 1) := by decide +kernel
theorem dX12_two_160 : decode cX12_two 160 = .ok (.lreturn, 1) := by decide +kernel
theorem dX12_two_161 : decode cX12_two 161 = .ok (.lload_n 1, 1) := by decide +kernel
theorem dX12_two_162 : decode cX12_two 162 = .ok (.lload_n 3, 1) := by decide +kernel
theorem dX12_two_163 : decode cX12_two 163 = .ok (.lcmp, 1) := by decide +kernel
theorem dX12_two_164 : decode cX12_two 164 = .ok (.ifCond .ne 7, 3) := by decide +kernel
theorem dX12_two_167 : decode cX12_two 167 = .ok (.lconst 1, 1) := by decide +kernel
theorem dX12_two_168 : decode cX12_two 168 = .ok (.goto 4, 3) := by decide +kernel
theorem dX12_two_171 : decode cX12_two 171 = .ok (.lconst 0, 1) := by decide +kernel
theorem dX12_two_172 : decode cX12_two 172 = .ok (.lreturn, 1) := by decide +kernel
theorem dX12_two_173 : decode cX12_two 173 = .ok (.lload_n 1, 1) := by decide +kernel
theorem dX12_two_174 : decode cX12_two 174 = .ok (.lload_n 3, 1) := by decide +kernel
theorem dX12_two_175 : decode cX12_two 175 = .ok (.land, 1) := by decide +kernel
theorem dX12_two_176 : decode cX12_two 176 = .ok (.lreturn, 1) := by decide +kernel
theorem dX12_two_177 : decode cX12_two 177 = .ok (.lload_n 1, 1) := by decide +kernel
theorem dX12_two_178 : decode cX12_two 178 = .ok (.lload_n 3, 1) := by decide +kernel
theorem dX12_two_179 : decode cX12_two 179 = .ok (.lor, 1) := by decide +kernel
theorem dX12_two_180 : decode cX12_two 180 = .ok (.lreturn, 1) := by decide +kernel
theorem dX12_reckons_0 : decode cX12_reckons 0 = .ok (.iconst 0, 1) := by decide +kernel
theorem dX12_reckons_1 : decode cX12_reckons 1 = .ok (.istore_n 2, 1) := by decide +kernel
theorem dX12_reckons_2 : decode cX12_reckons 2 = .ok (.sipush 1600, 3) := by decide +kernel
theorem dX12_reckons_5 : decode cX12_reckons 5 = .ok (.aload_n 0, 1) := by decide +kernel
theorem dX12_reckons_6 : decode cX12_reckons 6 = .ok (.getfield 51, 3) := by decide +kernel
theorem dX12_reckons_9 : decode cX12_reckons 9 = .ok (.imul, 1) := by decide +kernel
theorem dX12_reckons_10 : decode cX12_reckons 10 = .ok (.aload_n 0, 1) := by decide +kernel
theorem dX12_reckons_11 : decode cX12_reckons 11 = .ok (.getfield 81, 3) := by decide +kernel
theorem dX12_reckons_14 : decode cX12_reckons 14 = .ok (.iconst 3, 1) := by decide +kernel
theorem dX12_reckons_15 : decode cX12_reckons 15 = .ok (.aload_n 0, 1) := by decide +kernel
theorem dX12_reckons_16 : decode cX12_reckons 16 = .ok (.getfield 51, 3) := by decide +kernel
theorem dX12_reckons_19 : decode cX12_reckons 19 = .ok (.imul, 1) := by decide +kernel
theorem dX12_reckons_20 : decode cX12_reckons 20 = .ok (.iload_n 1, 1) := by decide +kernel
theorem dX12_reckons_21 : decode cX12_reckons 21 = .ok (.iadd, 1) := by decide +kernel
theorem dX12_reckons_22 : decode cX12_reckons 22 = .ok (.iaload, 1) := by decide +kernel
theorem dX12_reckons_23 : decode cX12_reckons 23 = .ok (.iadd, 1) := by decide +kernel
theorem dX12_reckons_24 : decode cX12_reckons 24 = .ok (.istore_n 3, 1) := by decide +kernel
theorem dX12_reckons_25 : decode cX12_reckons 25 = .ok (.iload_n 3, 1) := by decide +kernel
theorem dX12_reckons_26 : decode cX12_reckons 26 = .ok (.sipush 1600, 3) := by decide +kernel
theorem dX12_reckons_29 : decode cX12_reckons 29 = .ok (.aload_n 0, 1) := by decide +kernel
theorem dX12_reckons_30 : decode cX12_reckons 30 = .ok (.getfield 51, 3) := by decide +kernel
theorem dX12_reckons_33 : decode cX12_reckons 33 = .ok (.imul, 1) := by decide +kernel
theorem dX12_reckons_34 : decode cX12_reckons 34 = .ok (.aload_n 0, 1) := by decide +kernel
theorem dX12_reckons_35 : decode cX12_reckons 35 = .ok (.getfield 84, 3) := by decide +kernel
theorem dX12_reckons_38 : decode cX12_reckons 38 = .ok (.iconst 3, 1) := by decide +kernel
theorem dX12_reckons_39 : decode cX12_reckons 39 = .ok (.aload_n 0, 1) := by decide +kernel
theorem dX12_reckons_40 : decode cX12_reckons 40 = .ok (.getfield 51, 3) := by decide +kernel
theorem dX12_reckons_43 : decode cX12_reckons 43 = .ok (.imul, 1) := by decide +kernel
theorem dX12_reckons_44 : decode cX12_reckons 44 = .ok (.iload_n 1, 1) := by decide +kernel
theorem dX12_reckons_45 : decode cX12_reckons 45 = .ok (.iadd, 1) := by decide +kernel
theorem dX12_reckons_46 : decode cX12_reckons 46 = .ok (.iaload, 1) := by decide +kernel
theorem dX12_reckons_47 : decode cX12_reckons 47 = .ok (.iadd, 1) := by decide +kernel
theorem dX12_reckons_48 : decode cX12_reckons 48 = .ok (.if_icmp .ge 179, 3) := by decide +kernel
theorem dX12_reckons_51 : decode cX12_reckons 51 = .ok (.aload_n 0, 1) := by decide +kernel
theorem dX12_reckons_52 : decode cX12_reckons 52 = .ok (.getfield 87, 3) := by decide +kernel
theorem dX12_reckons_55 : decode cX12_reckons 55 = .ok (.iload_n 3, 1) := by decide +kernel
theorem dX12_reckons_56 : decode cX12_reckons 56 = .ok (.iaload, 1) := by decide +kernel
theorem dX12_reckons_57 : decode cX12_reckons 57 = .ok (.istore 4, 2) := by decide +kernel
theorem dX12_reckons_59 : decode cX12_reckons 59 = .ok (.iload 4, 2) := by decide +kernel
theorem dX12_reckons_61 : decode cX12_reckons 61 = .ok (.bipush 30, 2) := by decide +kernel
theorem dX12_reckons_63 : decode cX12_reckons 63 = .ok (.if_icmp .gt 49, 3) := by decide +kernel
theorem dX12_reckons_66 : decode cX12_reckons 66 = .ok (.aload_n 0, 1) := by decide +kernel
theorem dX12_reckons_67 : decode cX12_reckons 67 = .ok (.getfield 177, 3) := by decide +kernel
theorem dX12_reckons_70 : decode cX12_reckons 70 = .ok (.iload_n 2, 1) := by decide +kernel
theorem dX12_reckons_71 : decode cX12_reckons 71 = .ok (.iload 4, 2) := by decide +kernel
theorem dX12_reckons_73 : decode cX12_reckons 73 = .ok (.ifCond .ne 13, 3) := by decide +kernel
theorem dX12_reckons_76 : decode cX12_reckons 76 = .ok (.aload_n 0, 1) := by decide +kernel
theorem dX12_reckons_77 : decode cX12_reckons 77 = .ok (.getfield 90, 3) := by decide +kernel
theorem dX12_reckons_80 : decode cX12_reckons 80 = .ok (.iload_n 3, 1) := by decide +kernel
theorem dX12_reckons_81 : decode cX12_reckons 81 = .ok (.iaload, 1) := by decide +kernel
theorem dX12_reckons_82 : decode cX12_reckons 82 = .ok (.i2l, 1) := by decide +kernel
theorem dX12_reckons_83 : decode cX12_reckons 83 = .ok (.goto 22, 3) := by decide +kernel
theorem dX12_reckons_86 : decode cX12_reckons 86 = .ok (.iload 4, 2) := by decide +kernel
theorem dX12_reckons_88 : decode cX12_reckons 88 = .ok (.bipush 30, 2) := by decide +kernel
theorem dX12_reckons_90 : decode cX12_reckons 90 = .ok (.if_icmp .ne 7, 3) := by decide +kernel
theorem dX12_reckons_93 : decode cX12_reckons 93 = .ok (.lconst 1, 1) := by decide +kernel
theorem dX12_reckons_94 : decode cX12_reckons 94 = .ok (.goto 11, 3) := by decide +kernel
theorem dX12_reckons_97 : decode cX12_reckons 97 = .ok (.aload_n 0, 1) := by decide +kernel
theorem dX12_reckons_98 : decode cX12_reckons 98 = .ok (.getfield 180, 3) := by decide +kernel
theorem dX12_reckons_101 : decode cX12_reckons 101 = .ok (.iload 4, 2) := by decide +kernel
theorem dX12_reckons_103 : decode cX12_reckons 103 = .ok (.iaload, 1) := by decide +kernel
theorem dX12_reckons_104 : decode cX12_reckons 104 = .ok (.i2l, 1) := by decide +kernel
theorem dX12_reckons_105 : decode cX12_reckons 105 = .ok (.lastore, 1) := by decide +kernel
theorem dX12_reckons_106 : decode cX12_reckons 106 = .ok (.iinc 2 1, 3) := by decide +kernel
theorem dX12_reckons_109 : decode cX12_reckons 109 = .ok (.goto 112, 3) := by decide +kernel
theorem dX12_reckons_112 : decode cX12_reckons 112 = .ok (.iload 4, 2) := by decide +kernel
theorem dX12_reckons_114 : decode cX12_reckons 114 = .ok (.bipush 43, 2) := by decide +kernel
theorem dX12_reckons_116 : decode cX12_reckons 116 = .ok (.if_icmp .ne 24, 3) := by decide +kernel
theorem dX12_reckons_119 : decode cX12_reckons 119 = .ok (.aload_n 0, 1) := by decide +kernel
theorem dX12_reckons_120 : decode cX12_reckons 120 = .ok (.getfield 177, 3) := by decide +kernel
theorem dX12_reckons_123 : decode cX12_reckons 123 = .ok (.iload_n 2, 1) := by decide +kernel
theorem dX12_reckons_124 : decode cX12_reckons 124 = .ok (.iconst 1, 1) := by decide +kernel
theorem dX12_reckons_125 : decode cX12_reckons 125 = .ok (.isub, 1) := by decide +kernel
theorem dX12_reckons_126 : decode cX12_reckons 126 = .ok (.lconst 1, 1) := by decide +kernel
theorem dX12_reckons_127 : decode cX12_reckons 127 = .ok (.aload_n 0, 1) := by decide +kernel
theorem dX12_reckons_128 : decode cX12_reckons 128 = .ok (.getfield 177, 3) := by decide +kernel
theorem dX12_reckons_131 : decode cX12_reckons 131 = .ok (.iload_n 2, 1) := by decide +kernel
theorem dX12_reckons_132 : decode cX12_reckons 132 = .ok (.iconst 1, 1) := by decide +kernel
theorem dX12_reckons_133 : decode cX12_reckons 133 = .ok (.isub, 1) := by decide +kernel
theorem dX12_reckons_134 : decode cX12_reckons 134 = .ok (.laload, 1) := by decide +kernel
theorem dX12_reckons_135 : decode cX12_reckons 135 = .ok (.lsub, 1) := by decide +kernel
theorem dX12_reckons_136 : decode cX12_reckons 136 = .ok (.lastore, 1) := by decide +kernel
theorem dX12_reckons_137 : decode cX12_reckons 137 = .ok (.goto 84, 3) := by decide +kernel
theorem dX12_reckons_140 : decode cX12_reckons 140 = .ok (.iload 4, 2) := by decide +kernel
theorem dX12_reckons_142 : decode cX12_reckons 142 = .ok (.bipush 44, 2) := by decide +kernel
theorem dX12_reckons_144 : decode cX12_reckons 144 = .ok (.if_icmp .ne 47, 3) := by decide +kernel
theorem dX12_reckons_147 : decode cX12_reckons 147 = .ok (.iinc 2 (-2), 3) := by decide +kernel
theorem dX12_reckons_150 : decode cX12_reckons 150 = .ok (.aload_n 0, 1) := by decide +kernel
theorem dX12_reckons_151 : decode cX12_reckons 151 = .ok (.getfield 177, 3) := by decide +kernel
theorem dX12_reckons_154 : decode cX12_reckons 154 = .ok (.iload_n 2, 1) := by decide +kernel
theorem dX12_reckons_155 : decode cX12_reckons 155 = .ok (.iconst 1, 1) := by decide +kernel
theorem dX12_reckons_156 : decode cX12_reckons 156 = .ok (.isub, 1) := by decide +kernel
theorem dX12_reckons_157 : decode cX12_reckons 157 = .ok (.aload_n 0, 1) := by decide +kernel
theorem dX12_reckons_158 : decode cX12_reckons 158 = .ok (.getfield 177, 3) := by decide +kernel
theorem dX12_reckons_161 : decode cX12_reckons 161 = .ok (.iload_n 2, 1) := by decide +kernel
theorem dX12_reckons_162 : decode cX12_reckons 162 = .ok (.iconst 1, 1) := by decide +kernel
theorem dX12_reckons_163 : decode cX12_reckons 163 = .ok (.isub, 1) := by decide +kernel
theorem dX12_reckons_164 : decode cX12_reckons 164 = .ok (.laload, 1) := by decide +kernel
theorem dX12_reckons_165 : decode cX12_reckons 165 = .ok (.lconst 1, 1) := by decide +kernel
theorem dX12_reckons_166 : decode cX12_reckons 166 = .ok (.lcmp, 1) := by decide +kernel
theorem dX12_reckons_167 : decode cX12_reckons 167 = .ok (.ifCond .ne 12, 3) := by decide +kernel
theorem dX12_reckons_170 : decode cX12_reckons 170 = .ok (.aload_n 0, 1) := by decide +kernel
theorem dX12_reckons_171 : decode cX12_reckons 171 = .ok (.getfield 177, 3) := by decide +kernel
theorem dX12_reckons_174 : decode cX12_reckons 174 = .ok (.iload_n 2, 1) := by decide +kernel
theorem dX12_reckons_175 : decode cX12_reckons 175 = .ok (.laload, 1) := by decide +kernel
theorem dX12_reckons_176 : decode cX12_reckons 176 = .ok (.goto 11, 3) := by decide +kernel
theorem dX12_reckons_179 : decode cX12_reckons 179 = .ok (.aload_n 0, 1) := by decide +kernel
theorem dX12_reckons_180 : decode cX12_reckons 180 = .ok (.getfield 177, 3) := by decide +kernel
theorem dX12_reckons_183 : decode cX12_reckons 183 = .ok (.iload_n 2, 1) := by decide +kernel
theorem dX12_reckons_184 : decode cX12_reckons 184 = .ok (.iconst 1, 1) := by decide +kernel
theorem dX12_reckons_185 : decode cX12_reckons 185 = .ok (.iadd, 1) := by decide +kernel
theorem dX12_reckons_186 : decode cX12_reckons 186 = .ok (.laload, 1) := by decide +kernel
theorem dX12_reckons_187 : decode cX12_reckons 187 = .ok (.lastore, 1) := by decide +kernel
theorem dX12_reckons_188 : decode cX12_reckons 188 = .ok (.goto 33, 3) := by decide +kernel
theorem dX12_reckons_191 : decode cX12_reckons 191 = .ok (.iinc 2 (-1), 3) := by decide +kernel
theorem dX12_reckons_194 : decode cX12_reckons 194 = .ok (.aload_n 0, 1) := by decide +kernel
theorem dX12_reckons_195 : decode cX12_reckons 195 = .ok (.getfield 177, 3) := by decide +kernel
theorem dX12_reckons_198 : decode cX12_reckons 198 = .ok (.iload_n 2, 1) := by decide +kernel
theorem dX12_reckons_199 : decode cX12_reckons 199 = .ok (.iconst 1, 1) := by decide +kernel
theorem dX12_reckons_200 : decode cX12_reckons 200 = .ok (.isub, 1) := by decide +kernel
theorem dX12_reckons_201 : decode cX12_reckons 201 = .ok (.iload 4, 2) := by decide +kernel
theorem dX12_reckons_203 : decode cX12_reckons 203 = .ok (.aload_n 0, 1) := by decide +kernel
theorem dX12_reckons_204 : decode cX12_reckons 204 = .ok (.getfield 177, 3) := by decide +kernel
theorem dX12_reckons_207 : decode cX12_reckons 207 = .ok (.iload_n 2, 1) := by decide +kernel
theorem dX12_reckons_208 : decode cX12_reckons 208 = .ok (.iconst 1, 1) := by decide +kernel
theorem dX12_reckons_209 : decode cX12_reckons 209 = .ok (.isub, 1) := by decide +kernel
theorem dX12_reckons_210 : decode cX12_reckons 210 = .ok (.laload, 1) := by decide +kernel
theorem dX12_reckons_211 : decode cX12_reckons 211 = .ok (.aload_n 0, 1) := by decide +kernel
theorem dX12_reckons_212 : decode cX12_reckons 212 = .ok (.getfield 177, 3) := by decide +kernel
theorem dX12_reckons_215 : decode cX12_reckons 215 = .ok (.iload_n 2, 1) := by decide +kernel
theorem dX12_reckons_216 : decode cX12_reckons 216 = .ok (.laload, 1) := by decide +kernel
theorem dX12_reckons_217 : decode cX12_reckons 217 = .ok (.invokestatic 429, 3) := by decide +kernel
theorem dX12_reckons_220 : decode cX12_reckons 220 = .ok (.lastore, 1) := by decide +kernel
theorem dX12_reckons_221 : decode cX12_reckons 221 = .ok (.iinc 3 1, 3) := by decide +kernel
theorem dX12_reckons_224 : decode cX12_reckons 224 = .ok (.goto (-199), 3) := by decide +kernel
theorem dX12_reckons_227 : decode cX12_reckons 227 = .ok (.aload_n 0, 1) := by decide +kernel
theorem dX12_reckons_228 : decode cX12_reckons 228 = .ok (.getfield 177, 3) := by decide +kernel
theorem dX12_reckons_231 : decode cX12_reckons 231 = .ok (.iconst 0, 1) := by decide +kernel
theorem dX12_reckons_232 : decode cX12_reckons 232 = .ok (.laload, 1) := by decide +kernel
theorem dX12_reckons_233 : decode cX12_reckons 233 = .ok (.lreturn, 1) := by decide +kernel
theorem dX12_tells0_0 : decode cX12_tells0 0 = .ok (.aload_n 0, 1) := by decide +kernel
theorem dX12_tells0_1 : decode cX12_tells0 1 = .ok (.getfield 81, 3) := by decide +kernel
theorem dX12_tells0_4 : decode cX12_tells0 4 = .ok (.iconst 3, 1) := by decide +kernel
theorem dX12_tells0_5 : decode cX12_tells0 5 = .ok (.aload_n 0, 1) := by decide +kernel
theorem dX12_tells0_6 : decode cX12_tells0 6 = .ok (.getfield 51, 3) := by decide +kernel
theorem dX12_tells0_9 : decode cX12_tells0 9 = .ok (.imul, 1) := by decide +kernel
theorem dX12_tells0_10 : decode cX12_tells0 10 = .ok (.iload_n 1, 1) := by decide +kernel
theorem dX12_tells0_11 : decode cX12_tells0 11 = .ok (.iadd, 1) := by decide +kernel
theorem dX12_tells0_12 : decode cX12_tells0 12 = .ok (.iaload, 1) := by decide +kernel
theorem dX12_tells0_13 : decode cX12_tells0 13 = .ok (.iconst (-1), 1) := by decide +kernel
theorem dX12_tells0_14 : decode cX12_tells0 14 = .ok (.if_icmp .ne 6, 3) := by decide +kernel
theorem dX12_tells0_17 : decode cX12_tells0 17 = .ok (.iload 5, 2) := by decide +kernel
theorem dX12_tells0_19 : decode cX12_tells0 19 = .ok (.ireturn, 1) := by decide +kernel
theorem dX12_tells0_20 : decode cX12_tells0 20 = .ok (.aload_n 0, 1) := by decide +kernel
theorem dX12_tells0_21 : decode cX12_tells0 21 = .ok (.getfield 180, 3) := by decide +kernel
theorem dX12_tells0_24 : decode cX12_tells0 24 = .ok (.iconst 1, 1) := by decide +kernel
theorem dX12_tells0_25 : decode cX12_tells0 25 = .ok (.iload_n 2, 1) := by decide +kernel
theorem dX12_tells0_26 : decode cX12_tells0 26 = .ok (.bipush 8, 2) := by decide +kernel
theorem dX12_tells0_28 : decode cX12_tells0 28 = .ok (.irem, 1) := by decide +kernel
theorem dX12_tells0_29 : decode cX12_tells0 29 = .ok (.iastore, 1) := by decide +kernel
theorem dX12_tells0_30 : decode cX12_tells0 30 = .ok (.aload_n 0, 1) := by decide +kernel
theorem dX12_tells0_31 : decode cX12_tells0 31 = .ok (.getfield 180, 3) := by decide +kernel
theorem dX12_tells0_34 : decode cX12_tells0 34 = .ok (.iconst 2, 1) := by decide +kernel
theorem dX12_tells0_35 : decode cX12_tells0 35 = .ok (.iload_n 2, 1) := by decide +kernel
theorem dX12_tells0_36 : decode cX12_tells0 36 = .ok (.bipush 8, 2) := by decide +kernel
theorem dX12_tells0_38 : decode cX12_tells0 38 = .ok (.idiv, 1) := by decide +kernel
theorem dX12_tells0_39 : decode cX12_tells0 39 = .ok (.iastore, 1) := by decide +kernel
theorem dX12_tells0_40 : decode cX12_tells0 40 = .ok (.aload_n 0, 1) := by decide +kernel
theorem dX12_tells0_41 : decode cX12_tells0 41 = .ok (.getfield 180, 3) := by decide +kernel
theorem dX12_tells0_44 : decode cX12_tells0 44 = .ok (.iconst 3, 1) := by decide +kernel
theorem dX12_tells0_45 : decode cX12_tells0 45 = .ok (.iload_n 3, 1) := by decide +kernel
theorem dX12_tells0_46 : decode cX12_tells0 46 = .ok (.iastore, 1) := by decide +kernel
theorem dX12_tells0_47 : decode cX12_tells0 47 = .ok (.aload_n 0, 1) := by decide +kernel
theorem dX12_tells0_48 : decode cX12_tells0 48 = .ok (.getfield 180, 3) := by decide +kernel
theorem dX12_tells0_51 : decode cX12_tells0 51 = .ok (.iconst 4, 1) := by decide +kernel
theorem dX12_tells0_52 : decode cX12_tells0 52 = .ok (.iload 4, 2) := by decide +kernel
theorem dX12_tells0_54 : decode cX12_tells0 54 = .ok (.iastore, 1) := by decide +kernel
theorem dX12_tells0_55 : decode cX12_tells0 55 = .ok (.aload_n 0, 1) := by decide +kernel
theorem dX12_tells0_56 : decode cX12_tells0 56 = .ok (.iload_n 1, 1) := by decide +kernel
theorem dX12_tells0_57 : decode cX12_tells0 57 = .ok (.invokevirtual 433, 3) := by decide +kernel
theorem dX12_tells0_60 : decode cX12_tells0 60 = .ok (.lstore 6, 2) := by decide +kernel
theorem dX12_tells0_62 : decode cX12_tells0 62 = .ok (.lload 6, 2) := by decide +kernel
theorem dX12_tells0_64 : decode cX12_tells0 64 = .ok (.lconst 0, 1) := by decide +kernel
theorem dX12_tells0_65 : decode cX12_tells0 65 = .ok (.lcmp, 1) := by decide +kernel
theorem dX12_tells0_66 : decode cX12_tells0 66 = .ok (.ifCond .ge 7, 3) := by decide +kernel
theorem dX12_tells0_69 : decode cX12_tells0 69 = .ok (.iconst 0, 1) := by decide +kernel
theorem dX12_tells0_70 : decode cX12_tells0 70 = .ok (.goto 6, 3) := by decide +kernel
theorem dX12_tells0_73 : decode cX12_tells0 73 = .ok (.lload 6, 2) := by decide +kernel
theorem dX12_tells0_75 : decode cX12_tells0 75 = .ok (.l2i, 1) := by decide +kernel
theorem dX12_tells0_76 : decode cX12_tells0 76 = .ok (.ireturn, 1) := by decide +kernel
theorem dX12_isCell_0 : decode cX12_isCell 0 = .ok (.aload_n 0, 1) := by decide +kernel
theorem dX12_isCell_1 : decode cX12_isCell 1 = .ok (.getfield 138, 3) := by decide +kernel
theorem dX12_isCell_4 : decode cX12_isCell 4 = .ok (.ifCond .eq 45, 3) := by decide +kernel
theorem dX12_isCell_7 : decode cX12_isCell 7 = .ok (.iload_n 1, 1) := by decide +kernel
theorem dX12_isCell_8 : decode cX12_isCell 8 = .ok (.iconst 0, 1) := by decide +kernel
theorem dX12_isCell_9 : decode cX12_isCell 9 = .ok (.aload_n 0, 1) := by decide +kernel
theorem dX12_isCell_10 : decode cX12_isCell 10 = .ok (.getfield 54, 3) := by decide +kernel
theorem dX12_isCell_13 : decode cX12_isCell 13 = .ok (.aload_n 0, 1) := by decide +kernel
theorem dX12_isCell_14 : decode cX12_isCell 14 = .ok (.getfield 51, 3) := by decide +kernel
theorem dX12_isCell_17 : decode cX12_isCell 17 = .ok (.iaload, 1) := by decide +kernel
theorem dX12_isCell_18 : decode cX12_isCell 18 = .ok (.iconst 1, 1) := by decide +kernel
theorem dX12_isCell_19 : decode cX12_isCell 19 = .ok (.isub, 1) := by decide +kernel
theorem dX12_isCell_20 : decode cX12_isCell 20 = .ok (.invokestatic 323, 3) := by decide +kernel
theorem dX12_isCell_23 : decode cX12_isCell 23 = .ok (.ifCond .eq 26, 3) := by decide +kernel
theorem dX12_isCell_26 : decode cX12_isCell 26 = .ok (.iload_n 2, 1) := by decide +kernel
theorem dX12_isCell_27 : decode cX12_isCell 27 = .ok (.iconst 0, 1) := by decide +kernel
theorem dX12_isCell_28 : decode cX12_isCell 28 = .ok (.aload_n 0, 1) := by decide +kernel
theorem dX12_isCell_29 : decode cX12_isCell 29 = .ok (.getfield 57, 3) := by decide +kernel
theorem dX12_isCell_32 : decode cX12_isCell 32 = .ok (.aload_n 0, 1) := by decide +kernel
theorem dX12_isCell_33 : decode cX12_isCell 33 = .ok (.getfield 51, 3) := by decide +kernel
theorem dX12_isCell_36 : decode cX12_isCell 36 = .ok (.iaload, 1) := by decide +kernel
theorem dX12_isCell_37 : decode cX12_isCell 37 = .ok (.iconst 1, 1) := by decide +kernel
theorem dX12_isCell_38 : decode cX12_isCell 38 = .ok (.isub, 1) := by decide +kernel
theorem dX12_isCell_39 : decode cX12_isCell 39 = .ok (.invokestatic 323, 3) := by decide +kernel
theorem dX12_isCell_42 : decode cX12_isCell 42 = .ok (.ifCond .eq 7, 3) := by decide +kernel
theorem dX12_isCell_45 : decode cX12_isCell 45 = .ok (.iconst 1, 1) := by decide +kernel
theorem dX12_isCell_46 : decode cX12_isCell 46 = .ok (.goto 4, 3) := by decide +kernel
theorem dX12_isCell_49 : decode cX12_isCell 49 = .ok (.iconst 0, 1) := by decide +kernel
theorem dX12_isCell_50 : decode cX12_isCell 50 = .ok (.ireturn, 1) := by decide +kernel
theorem dX12_least_0 : decode cX12_least 0 = .ok (.iload_n 0, 1) := by decide +kernel
theorem dX12_least_1 : decode cX12_least 1 = .ok (.iload_n 1, 1) := by decide +kernel
theorem dX12_least_2 : decode cX12_least 2 = .ok (.if_icmp .ge 7, 3) := by decide +kernel
theorem dX12_least_5 : decode cX12_least 5 = .ok (.iload_n 0, 1) := by decide +kernel
theorem dX12_least_6 : decode cX12_least 6 = .ok (.goto 4, 3) := by decide +kernel
theorem dX12_least_9 : decode cX12_least 9 = .ok (.iload_n 1, 1) := by decide +kernel
theorem dX12_least_10 : decode cX12_least 10 = .ok (.ireturn, 1) := by decide +kernel
theorem dX12_stepTo_0 : decode cX12_stepTo 0 = .ok (.iload_n 1, 1) := by decide +kernel
theorem dX12_stepTo_1 : decode cX12_stepTo 1 = .ok (.bipush 8, 2) := by decide +kernel
theorem dX12_stepTo_3 : decode cX12_stepTo 3 = .ok (.irem, 1) := by decide +kernel
theorem dX12_stepTo_4 : decode cX12_stepTo 4 = .ok (.iload_n 2, 1) := by decide +kernel
theorem dX12_stepTo_5 : decode cX12_stepTo 5 = .ok (.iconst 1, 1) := by decide +kernel
theorem dX12_stepTo_6 : decode cX12_stepTo 6 = .ok (.if_icmp .ne 7, 3) := by decide +kernel
theorem dX12_stepTo_9 : decode cX12_stepTo 9 = .ok (.iconst (-1), 1) := by decide +kernel
theorem dX12_stepTo_10 : decode cX12_stepTo 10 = .ok (.goto 13, 3) := by decide +kernel
theorem dX12_stepTo_13 : decode cX12_stepTo 13 = .ok (.iload_n 2, 1) := by decide +kernel
theorem dX12_stepTo_14 : decode cX12_stepTo 14 = .ok (.iconst 2, 1) := by decide +kernel
theorem dX12_stepTo_15 : decode cX12_stepTo 15 = .ok (.if_icmp .ne 7, 3) := by decide +kernel
theorem dX12_stepTo_18 : decode cX12_stepTo 18 = .ok (.iconst 1, 1) := by decide +kernel
theorem dX12_stepTo_19 : decode cX12_stepTo 19 = .ok (.goto 4, 3) := by decide +kernel
theorem dX12_stepTo_22 : decode cX12_stepTo 22 = .ok (.iconst 0, 1) := by decide +kernel
theorem dX12_stepTo_23 : decode cX12_stepTo 23 = .ok (.iadd, 1) := by decide +kernel
theorem dX12_stepTo_24 : decode cX12_stepTo 24 = .ok (.istore_n 3, 1) := by decide +kernel
theorem dX12_stepTo_25 : decode cX12_stepTo 25 = .ok (.iload_n 1, 1) := by decide +kernel
theorem dX12_stepTo_26 : decode cX12_stepTo 26 = .ok (.bipush 8, 2) := by decide +kernel
theorem dX12_stepTo_28 : decode cX12_stepTo 28 = .ok (.idiv, 1) := by decide +kernel
theorem dX12_stepTo_29 : decode cX12_stepTo 29 = .ok (.iload_n 2, 1) := by decide +kernel
theorem dX12_stepTo_30 : decode cX12_stepTo 30 = .ok (.iconst 3, 1) := by decide +kernel
theorem dX12_stepTo_31 : decode cX12_stepTo 31 = .ok (.if_icmp .ne 7, 3) := by decide +kernel
theorem dX12_stepTo_34 : decode cX12_stepTo 34 = .ok (.iconst (-1), 1) := by decide +kernel
theorem dX12_stepTo_35 : decode cX12_stepTo 35 = .ok (.goto 13, 3) := by decide +kernel
theorem dX12_stepTo_38 : decode cX12_stepTo 38 = .ok (.iload_n 2, 1) := by decide +kernel
theorem dX12_stepTo_39 : decode cX12_stepTo 39 = .ok (.iconst 4, 1) := by decide +kernel
theorem dX12_stepTo_40 : decode cX12_stepTo 40 = .ok (.if_icmp .ne 7, 3) := by decide +kernel
theorem dX12_stepTo_43 : decode cX12_stepTo 43 = .ok (.iconst 1, 1) := by decide +kernel
theorem dX12_stepTo_44 : decode cX12_stepTo 44 = .ok (.goto 4, 3) := by decide +kernel
theorem dX12_stepTo_47 : decode cX12_stepTo 47 = .ok (.iconst 0, 1) := by decide +kernel
theorem dX12_stepTo_48 : decode cX12_stepTo 48 = .ok (.iadd, 1) := by decide +kernel
theorem dX12_stepTo_49 : decode cX12_stepTo 49 = .ok (.istore 4, 2) := by decide +kernel
theorem dX12_stepTo_51 : decode cX12_stepTo 51 = .ok (.aload_n 0, 1) := by decide +kernel
theorem dX12_stepTo_52 : decode cX12_stepTo 52 = .ok (.iload_n 3, 1) := by decide +kernel
theorem dX12_stepTo_53 : decode cX12_stepTo 53 = .ok (.iload 4, 2) := by decide +kernel
theorem dX12_stepTo_55 : decode cX12_stepTo 55 = .ok (.invokevirtual 437, 3) := by decide +kernel
theorem dX12_stepTo_58 : decode cX12_stepTo 58 = .ok (.ifCond .eq 13, 3) := by decide +kernel
theorem dX12_stepTo_61 : decode cX12_stepTo 61 = .ok (.bipush 8, 2) := by decide +kernel
theorem dX12_stepTo_63 : decode cX12_stepTo 63 = .ok (.iload 4, 2) := by decide +kernel
theorem dX12_stepTo_65 : decode cX12_stepTo 65 = .ok (.imul, 1) := by decide +kernel
theorem dX12_stepTo_66 : decode cX12_stepTo 66 = .ok (.iload_n 3, 1) := by decide +kernel
theorem dX12_stepTo_67 : decode cX12_stepTo 67 = .ok (.iadd, 1) := by decide +kernel
theorem dX12_stepTo_68 : decode cX12_stepTo 68 = .ok (.goto 4, 3) := by decide +kernel
theorem dX12_stepTo_71 : decode cX12_stepTo 71 = .ok (.iconst (-1), 1) := by decide +kernel
theorem dX12_stepTo_72 : decode cX12_stepTo 72 = .ok (.ireturn, 1) := by decide +kernel
theorem dX12_wettest_0 : decode cX12_wettest 0 = .ok (.iload_n 1, 1) := by decide +kernel
theorem dX12_wettest_1 : decode cX12_wettest 1 = .ok (.istore_n 2, 1) := by decide +kernel
theorem dX12_wettest_2 : decode cX12_wettest 2 = .ok (.iconst 1, 1) := by decide +kernel
theorem dX12_wettest_3 : decode cX12_wettest 3 = .ok (.istore_n 3, 1) := by decide +kernel
theorem dX12_wettest_4 : decode cX12_wettest 4 = .ok (.iload_n 3, 1) := by decide +kernel
theorem dX12_wettest_5 : decode cX12_wettest 5 = .ok (.iconst 5, 1) := by decide +kernel
theorem dX12_wettest_6 : decode cX12_wettest 6 = .ok (.if_icmp .ge 42, 3) := by decide +kernel
theorem dX12_wettest_9 : decode cX12_wettest 9 = .ok (.aload_n 0, 1) := by decide +kernel
theorem dX12_wettest_10 : decode cX12_wettest 10 = .ok (.iload_n 1, 1) := by decide +kernel
theorem dX12_wettest_11 : decode cX12_wettest 11 = .ok (.iload_n 3, 1) := by decide +kernel
theorem dX12_wettest_12 : decode cX12_wettest 12 = .ok (.invokevirtual 441, 3) := by decide +kernel
theorem dX12_wettest_15 : decode cX12_wettest 15 = .ok (.istore 4, 2) := by decide +kernel
theorem dX12_wettest_17 : decode cX12_wettest 17 = .ok (.iload 4, 2) := by decide +kernel
theorem dX12_wettest_19 : decode cX12_wettest 19 = .ok (.iconst (-1), 1) := by decide +kernel
theorem dX12_wettest_20 : decode cX12_wettest 20 = .ok (.if_icmp .eq 22, 3) := by decide +kernel
theorem dX12_wettest_23 : decode cX12_wettest 23 = .ok (.aload_n 0, 1) := by decide +kernel
theorem dX12_wettest_24 : decode cX12_wettest 24 = .ok (.getfield 183, 3) := by decide +kernel
theorem dX12_wettest_27 : decode cX12_wettest 27 = .ok (.iload 4, 2) := by decide +kernel
theorem dX12_wettest_29 : decode cX12_wettest 29 = .ok (.iaload, 1) := by decide +kernel
theorem dX12_wettest_30 : decode cX12_wettest 30 = .ok (.aload_n 0, 1) := by decide +kernel
theorem dX12_wettest_31 : decode cX12_wettest 31 = .ok (.getfield 183, 3) := by decide +kernel
theorem dX12_wettest_34 : decode cX12_wettest 34 = .ok (.iload_n 2, 1) := by decide +kernel
theorem dX12_wettest_35 : decode cX12_wettest 35 = .ok (.iaload, 1) := by decide +kernel
theorem dX12_wettest_36 : decode cX12_wettest 36 = .ok (.if_icmp .le 6, 3) := by decide +kernel
theorem dX12_wettest_39 : decode cX12_wettest 39 = .ok (.iload 4, 2) := by decide +kernel
theorem dX12_wettest_41 : decode cX12_wettest 41 = .ok (.istore_n 2, 1) := by decide +kernel
theorem dX12_wettest_42 : decode cX12_wettest 42 = .ok (.iinc 3 1, 3) := by decide +kernel
theorem dX12_wettest_45 : decode cX12_wettest 45 = .ok (.goto (-41), 3) := by decide +kernel
theorem dX12_wettest_48 : decode cX12_wettest 48 = .ok (.iload_n 2, 1) := by decide +kernel
theorem dX12_wettest_49 : decode cX12_wettest 49 = .ok (.ireturn, 1) := by decide +kernel
theorem dX12_works_0 : decode cX12_works 0 = .ok (.iload_n 2, 1) := by decide +kernel
theorem dX12_works_1 : decode cX12_works 1 = .ok (.aload_n 0, 1) := by decide +kernel
theorem dX12_works_2 : decode cX12_works 2 = .ok (.getfield 201, 3) := by decide +kernel
theorem dX12_works_5 : decode cX12_works 5 = .ok (.if_icmp .ne 49, 3) := by decide +kernel
theorem dX12_works_8 : decode cX12_works 8 = .ok (.iload_n 3, 1) := by decide +kernel
theorem dX12_works_9 : decode cX12_works 9 = .ok (.aload_n 0, 1) := by decide +kernel
theorem dX12_works_10 : decode cX12_works 10 = .ok (.getfield 204, 3) := by decide +kernel
theorem dX12_works_13 : decode cX12_works 13 = .ok (.aload_n 0, 1) := by decide +kernel
theorem dX12_works_14 : decode cX12_works 14 = .ok (.getfield 204, 3) := by decide +kernel
theorem dX12_works_17 : decode cX12_works 17 = .ok (.aload_n 0, 1) := by decide +kernel
theorem dX12_works_18 : decode cX12_works 18 = .ok (.getfield 207, 3) := by decide +kernel
theorem dX12_works_21 : decode cX12_works 21 = .ok (.iadd, 1) := by decide +kernel
theorem dX12_works_22 : decode cX12_works 22 = .ok (.iconst 1, 1) := by decide +kernel
theorem dX12_works_23 : decode cX12_works 23 = .ok (.isub, 1) := by decide +kernel
theorem dX12_works_24 : decode cX12_works 24 = .ok (.invokestatic 323, 3) := by decide +kernel
theorem dX12_works_27 : decode cX12_works 27 = .ok (.ifCond .eq 27, 3) := by decide +kernel
theorem dX12_works_30 : decode cX12_works 30 = .ok (.aload_n 0, 1) := by decide +kernel
theorem dX12_works_31 : decode cX12_works 31 = .ok (.aload_n 0, 1) := by decide +kernel
theorem dX12_works_32 : decode cX12_works 32 = .ok (.getfield 186, 3) := by decide +kernel
theorem dX12_works_35 : decode cX12_works 35 = .ok (.iload_n 2, 1) := by decide +kernel
theorem dX12_works_36 : decode cX12_works 36 = .ok (.iaload, 1) := by decide +kernel
theorem dX12_works_37 : decode cX12_works 37 = .ok (.aload_n 0, 1) := by decide +kernel
theorem dX12_works_38 : decode cX12_works 38 = .ok (.getfield 210, 3) := by decide +kernel
theorem dX12_works_41 : decode cX12_works 41 = .ok (.iload_n 3, 1) := by decide +kernel
theorem dX12_works_42 : decode cX12_works 42 = .ok (.aload_n 0, 1) := by decide +kernel
theorem dX12_works_43 : decode cX12_works 43 = .ok (.getfield 204, 3) := by decide +kernel
theorem dX12_works_46 : decode cX12_works 46 = .ok (.isub, 1) := by decide +kernel
theorem dX12_works_47 : decode cX12_works 47 = .ok (.iaload, 1) := by decide +kernel
theorem dX12_works_48 : decode cX12_works 48 = .ok (.invokevirtual 441, 3) := by decide +kernel
theorem dX12_works_51 : decode cX12_works 51 = .ok (.goto 13, 3) := by decide +kernel
theorem dX12_works_54 : decode cX12_works 54 = .ok (.aload_n 0, 1) := by decide +kernel
theorem dX12_works_55 : decode cX12_works 55 = .ok (.aload_n 0, 1) := by decide +kernel
theorem dX12_works_56 : decode cX12_works 56 = .ok (.getfield 186, 3) := by decide +kernel
theorem dX12_works_59 : decode cX12_works 59 = .ok (.iload_n 2, 1) := by decide +kernel
theorem dX12_works_60 : decode cX12_works 60 = .ok (.iaload, 1) := by decide +kernel
theorem dX12_works_61 : decode cX12_works 61 = .ok (.invokevirtual 444, 3) := by decide +kernel
theorem dX12_works_64 : decode cX12_works 64 = .ok (.istore 4, 2) := by decide +kernel
theorem dX12_works_66 : decode cX12_works 66 = .ok (.iload 4, 2) := by decide +kernel
theorem dX12_works_68 : decode cX12_works 68 = .ok (.iconst (-1), 1) := by decide +kernel
theorem dX12_works_69 : decode cX12_works 69 = .ok (.if_icmp .ne 5, 3) := by decide +kernel
theorem dX12_works_72 : decode cX12_works 72 = .ok (.iconst 0, 1) := by decide +kernel
theorem dX12_works_73 : decode cX12_works 73 = .ok (.ireturn, 1) := by decide +kernel
theorem dX12_works_74 : decode cX12_works 74 = .ok (.aload_n 0, 1) := by decide +kernel
theorem dX12_works_75 : decode cX12_works 75 = .ok (.getfield 186, 3) := by decide +kernel
theorem dX12_works_78 : decode cX12_works 78 = .ok (.iload_n 2, 1) := by decide +kernel
theorem dX12_works_79 : decode cX12_works 79 = .ok (.iload 4, 2) := by decide +kernel
theorem dX12_works_81 : decode cX12_works 81 = .ok (.iastore, 1) := by decide +kernel
theorem dX12_works_82 : decode cX12_works 82 = .ok (.aload_n 0, 1) := by decide +kernel
theorem dX12_works_83 : decode cX12_works 83 = .ok (.getfield 180, 3) := by decide +kernel
theorem dX12_works_86 : decode cX12_works 86 = .ok (.iconst 5, 1) := by decide +kernel
theorem dX12_works_87 : decode cX12_works 87 = .ok (.iload_n 3, 1) := by decide +kernel
theorem dX12_works_88 : decode cX12_works 88 = .ok (.iastore, 1) := by decide +kernel
theorem dX12_works_89 : decode cX12_works 89 = .ok (.aload_n 0, 1) := by decide +kernel
theorem dX12_works_90 : decode cX12_works 90 = .ok (.getfield 180, 3) := by decide +kernel
theorem dX12_works_93 : decode cX12_works 93 = .ok (.bipush 6, 2) := by decide +kernel
theorem dX12_works_95 : decode cX12_works 95 = .ok (.aload_n 0, 1) := by decide +kernel
theorem dX12_works_96 : decode cX12_works 96 = .ok (.getfield 189, 3) := by decide +kernel
theorem dX12_works_99 : decode cX12_works 99 = .ok (.iload_n 2, 1) := by decide +kernel
theorem dX12_works_100 : decode cX12_works 100 = .ok (.iaload, 1) := by decide +kernel
theorem dX12_works_101 : decode cX12_works 101 = .ok (.iastore, 1) := by decide +kernel
theorem dX12_works_102 : decode cX12_works 102 = .ok (.aload_n 0, 1) := by decide +kernel
theorem dX12_works_103 : decode cX12_works 103 = .ok (.getfield 180, 3) := by decide +kernel
theorem dX12_works_106 : decode cX12_works 106 = .ok (.bipush 7, 2) := by decide +kernel
theorem dX12_works_108 : decode cX12_works 108 = .ok (.aload_n 0, 1) := by decide +kernel
theorem dX12_works_109 : decode cX12_works 109 = .ok (.getfield 156, 3) := by decide +kernel
theorem dX12_works_112 : decode cX12_works 112 = .ok (.bipush 6, 2) := by decide +kernel
theorem dX12_works_114 : decode cX12_works 114 = .ok (.iload_n 1, 1) := by decide +kernel
theorem dX12_works_115 : decode cX12_works 115 = .ok (.imul, 1) := by decide +kernel
theorem dX12_works_116 : decode cX12_works 116 = .ok (.iload_n 2, 1) := by decide +kernel
theorem dX12_works_117 : decode cX12_works 117 = .ok (.iadd, 1) := by decide +kernel
theorem dX12_works_118 : decode cX12_works 118 = .ok (.iaload, 1) := by decide +kernel
theorem dX12_works_119 : decode cX12_works 119 = .ok (.iastore, 1) := by decide +kernel
theorem dX12_works_120 : decode cX12_works 120 = .ok (.aload_n 0, 1) := by decide +kernel
theorem dX12_works_121 : decode cX12_works 121 = .ok (.iconst 2, 1) := by decide +kernel
theorem dX12_works_122 : decode cX12_works 122 = .ok (.iload 4, 2) := by decide +kernel
theorem dX12_works_124 : decode cX12_works 124 = .ok (.aload_n 0, 1) := by decide +kernel
theorem dX12_works_125 : decode cX12_works 125 = .ok (.getfield 183, 3) := by decide +kernel
theorem dX12_works_128 : decode cX12_works 128 = .ok (.iload 4, 2) := by decide +kernel
theorem dX12_works_130 : decode cX12_works 130 = .ok (.iaload, 1) := by decide +kernel
theorem dX12_works_131 : decode cX12_works 131 = .ok (.aload_n 0, 1) := by decide +kernel
theorem dX12_works_132 : decode cX12_works 132 = .ok (.getfield 144, 3) := by decide +kernel
theorem dX12_works_135 : decode cX12_works 135 = .ok (.iload_n 1, 1) := by decide +kernel
theorem dX12_works_136 : decode cX12_works 136 = .ok (.iaload, 1) := by decide +kernel
theorem dX12_works_137 : decode cX12_works 137 = .ok (.bipush 9, 2) := by decide +kernel
theorem dX12_works_139 : decode cX12_works 139 = .ok (.invokevirtual 447, 3) := by decide +kernel
theorem dX12_works_142 : decode cX12_works 142 = .ok (.istore 5, 2) := by decide +kernel
theorem dX12_works_144 : decode cX12_works 144 = .ok (.iload 5, 2) := by decide +kernel
theorem dX12_works_146 : decode cX12_works 146 = .ok (.aload_n 0, 1) := by decide +kernel
theorem dX12_works_147 : decode cX12_works 147 = .ok (.getfield 183, 3) := by decide +kernel
theorem dX12_works_150 : decode cX12_works 150 = .ok (.iload 4, 2) := by decide +kernel
theorem dX12_works_152 : decode cX12_works 152 = .ok (.iaload, 1) := by decide +kernel
theorem dX12_works_153 : decode cX12_works 153 = .ok (.aload_n 0, 1) := by decide +kernel
theorem dX12_works_154 : decode cX12_works 154 = .ok (.getfield 156, 3) := by decide +kernel
theorem dX12_works_157 : decode cX12_works 157 = .ok (.bipush 6, 2) := by decide +kernel
theorem dX12_works_159 : decode cX12_works 159 = .ok (.iload_n 1, 1) := by decide +kernel
theorem dX12_works_160 : decode cX12_works 160 = .ok (.imul, 1) := by decide +kernel
theorem dX12_works_161 : decode cX12_works 161 = .ok (.iload_n 2, 1) := by decide +kernel
theorem dX12_works_162 : decode cX12_works 162 = .ok (.iadd, 1) := by decide +kernel
theorem dX12_works_163 : decode cX12_works 163 = .ok (.iaload, 1) := by decide +kernel
theorem dX12_works_164 : decode cX12_works 164 = .ok (.aload_n 0, 1) := by decide +kernel
theorem dX12_works_165 : decode cX12_works 165 = .ok (.getfield 189, 3) := by decide +kernel
theorem dX12_works_168 : decode cX12_works 168 = .ok (.iload_n 2, 1) := by decide +kernel
theorem dX12_works_169 : decode cX12_works 169 = .ok (.iaload, 1) := by decide +kernel
theorem dX12_works_170 : decode cX12_works 170 = .ok (.isub, 1) := by decide +kernel
theorem dX12_works_171 : decode cX12_works 171 = .ok (.invokestatic 451, 3) := by decide +kernel
theorem dX12_works_174 : decode cX12_works 174 = .ok (.invokestatic 451, 3) := by decide +kernel
theorem dX12_works_177 : decode cX12_works 177 = .ok (.istore 5, 2) := by decide +kernel
theorem dX12_works_179 : decode cX12_works 179 = .ok (.aload_n 0, 1) := by decide +kernel
theorem dX12_works_180 : decode cX12_works 180 = .ok (.getfield 183, 3) := by decide +kernel
theorem dX12_works_183 : decode cX12_works 183 = .ok (.iload 4, 2) := by decide +kernel
theorem dX12_works_185 : decode cX12_works 185 = .ok (.dup2, 1) := by decide +kernel
theorem dX12_works_186 : decode cX12_works 186 = .ok (.iaload, 1) := by decide +kernel
theorem dX12_works_187 : decode cX12_works 187 = .ok (.iload 5, 2) := by decide +kernel
theorem dX12_works_189 : decode cX12_works 189 = .ok (.isub, 1) := by decide +kernel
theorem dX12_works_190 : decode cX12_works 190 = .ok (.iastore, 1) := by decide +kernel
theorem dX12_works_191 : decode cX12_works 191 = .ok (.aload_n 0, 1) := by decide +kernel
theorem dX12_works_192 : decode cX12_works 192 = .ok (.getfield 189, 3) := by decide +kernel
theorem dX12_works_195 : decode cX12_works 195 = .ok (.iload_n 2, 1) := by decide +kernel
theorem dX12_works_196 : decode cX12_works 196 = .ok (.dup2, 1) := by decide +kernel
theorem dX12_works_197 : decode cX12_works 197 = .ok (.iaload, 1) := by decide +kernel
theorem dX12_works_198 : decode cX12_works 198 = .ok (.iload 5, 2) := by decide +kernel
theorem dX12_works_200 : decode cX12_works 200 = .ok (.iadd, 1) := by decide +kernel
theorem dX12_works_201 : decode cX12_works 201 = .ok (.iastore, 1) := by decide +kernel
theorem dX12_works_202 : decode cX12_works 202 = .ok (.iconst 1, 1) := by decide +kernel
theorem dX12_works_203 : decode cX12_works 203 = .ok (.ireturn, 1) := by decide +kernel
theorem dX12_shines_0 : decode cX12_shines 0 = .ok (.aload_n 0, 1) := by decide +kernel
theorem dX12_shines_1 : decode cX12_shines 1 = .ok (.getfield 180, 3) := by decide +kernel
theorem dX12_shines_4 : decode cX12_shines 4 = .ok (.iconst 5, 1) := by decide +kernel
theorem dX12_shines_5 : decode cX12_shines 5 = .ok (.iload_n 2, 1) := by decide +kernel
theorem dX12_shines_6 : decode cX12_shines 6 = .ok (.iastore, 1) := by decide +kernel
theorem dX12_shines_7 : decode cX12_shines 7 = .ok (.iconst 0, 1) := by decide +kernel
theorem dX12_shines_8 : decode cX12_shines 8 = .ok (.istore_n 3, 1) := by decide +kernel
theorem dX12_shines_9 : decode cX12_shines 9 = .ok (.iload_n 3, 1) := by decide +kernel
theorem dX12_shines_10 : decode cX12_shines 10 = .ok (.bipush 64, 2) := by decide +kernel
theorem dX12_shines_12 : decode cX12_shines 12 = .ok (.if_icmp .ge 61, 3) := by decide +kernel
theorem dX12_shines_15 : decode cX12_shines 15 = .ok (.aload_n 0, 1) := by decide +kernel
theorem dX12_shines_16 : decode cX12_shines 16 = .ok (.iload_n 3, 1) := by decide +kernel
theorem dX12_shines_17 : decode cX12_shines 17 = .ok (.bipush 8, 2) := by decide +kernel
theorem dX12_shines_19 : decode cX12_shines 19 = .ok (.irem, 1) := by decide +kernel
theorem dX12_shines_20 : decode cX12_shines 20 = .ok (.iload_n 3, 1) := by decide +kernel
theorem dX12_shines_21 : decode cX12_shines 21 = .ok (.bipush 8, 2) := by decide +kernel
theorem dX12_shines_23 : decode cX12_shines 23 = .ok (.idiv, 1) := by decide +kernel
theorem dX12_shines_24 : decode cX12_shines 24 = .ok (.invokevirtual 437, 3) := by decide +kernel
theorem dX12_shines_27 : decode cX12_shines 27 = .ok (.ifCond .eq 40, 3) := by decide +kernel
theorem dX12_shines_30 : decode cX12_shines 30 = .ok (.aload_n 0, 1) := by decide +kernel
theorem dX12_shines_31 : decode cX12_shines 31 = .ok (.getfield 183, 3) := by decide +kernel
theorem dX12_shines_34 : decode cX12_shines 34 = .ok (.iload_n 3, 1) := by decide +kernel
theorem dX12_shines_35 : decode cX12_shines 35 = .ok (.dup2, 1) := by decide +kernel
theorem dX12_shines_36 : decode cX12_shines 36 = .ok (.iaload, 1) := by decide +kernel
theorem dX12_shines_37 : decode cX12_shines 37 = .ok (.aload_n 0, 1) := by decide +kernel
theorem dX12_shines_38 : decode cX12_shines 38 = .ok (.getfield 183, 3) := by decide +kernel
theorem dX12_shines_41 : decode cX12_shines 41 = .ok (.iload_n 3, 1) := by decide +kernel
theorem dX12_shines_42 : decode cX12_shines 42 = .ok (.iaload, 1) := by decide +kernel
theorem dX12_shines_43 : decode cX12_shines 43 = .ok (.aload_n 0, 1) := by decide +kernel
theorem dX12_shines_44 : decode cX12_shines 44 = .ok (.iconst 1, 1) := by decide +kernel
theorem dX12_shines_45 : decode cX12_shines 45 = .ok (.iload_n 3, 1) := by decide +kernel
theorem dX12_shines_46 : decode cX12_shines 46 = .ok (.aload_n 0, 1) := by decide +kernel
theorem dX12_shines_47 : decode cX12_shines 47 = .ok (.getfield 183, 3) := by decide +kernel
theorem dX12_shines_50 : decode cX12_shines 50 = .ok (.iload_n 3, 1) := by decide +kernel
theorem dX12_shines_51 : decode cX12_shines 51 = .ok (.iaload, 1) := by decide +kernel
theorem dX12_shines_52 : decode cX12_shines 52 = .ok (.aload_n 0, 1) := by decide +kernel
theorem dX12_shines_53 : decode cX12_shines 53 = .ok (.getfield 144, 3) := by decide +kernel
theorem dX12_shines_56 : decode cX12_shines 56 = .ok (.iload_n 1, 1) := by decide +kernel
theorem dX12_shines_57 : decode cX12_shines 57 = .ok (.iaload, 1) := by decide +kernel
theorem dX12_shines_58 : decode cX12_shines 58 = .ok (.iconst 1, 1) := by decide +kernel
theorem dX12_shines_59 : decode cX12_shines 59 = .ok (.invokevirtual 447, 3) := by decide +kernel
theorem dX12_shines_62 : decode cX12_shines 62 = .ok (.invokestatic 451, 3) := by decide +kernel
theorem dX12_shines_65 : decode cX12_shines 65 = .ok (.isub, 1) := by decide +kernel
theorem dX12_shines_66 : decode cX12_shines 66 = .ok (.iastore, 1) := by decide +kernel
theorem dX12_shines_67 : decode cX12_shines 67 = .ok (.iinc 3 1, 3) := by decide +kernel
theorem dX12_shines_70 : decode cX12_shines 70 = .ok (.goto (-61), 3) := by decide +kernel
theorem dX12_shines_73 : decode cX12_shines 73 = .ok (.return_, 1) := by decide +kernel
theorem dX12_runs_0 : decode cX12_runs 0 = .ok (.iconst 0, 1) := by decide +kernel
theorem dX12_runs_1 : decode cX12_runs 1 = .ok (.istore 4, 2) := by decide +kernel
theorem dX12_runs_3 : decode cX12_runs 3 = .ok (.iload 4, 2) := by decide +kernel
theorem dX12_runs_5 : decode cX12_runs 5 = .ok (.bipush 64, 2) := by decide +kernel
theorem dX12_runs_7 : decode cX12_runs 7 = .ok (.if_icmp .ge 107, 3) := by decide +kernel
theorem dX12_runs_10 : decode cX12_runs 10 = .ok (.aload_n 0, 1) := by decide +kernel
theorem dX12_runs_11 : decode cX12_runs 11 = .ok (.getfield 183, 3) := by decide +kernel
theorem dX12_runs_14 : decode cX12_runs 14 = .ok (.iload 4, 2) := by decide +kernel
theorem dX12_runs_16 : decode cX12_runs 16 = .ok (.aload_n 0, 1) := by decide +kernel
theorem dX12_runs_17 : decode cX12_runs 17 = .ok (.getfield 147, 3) := by decide +kernel
theorem dX12_runs_20 : decode cX12_runs 20 = .ok (.bipush 64, 2) := by decide +kernel
theorem dX12_runs_22 : decode cX12_runs 22 = .ok (.iload_n 1, 1) := by decide +kernel
theorem dX12_runs_23 : decode cX12_runs 23 = .ok (.imul, 1) := by decide +kernel
theorem dX12_runs_24 : decode cX12_runs 24 = .ok (.iload 4, 2) := by decide +kernel
theorem dX12_runs_26 : decode cX12_runs 26 = .ok (.iadd, 1) := by decide +kernel
theorem dX12_runs_27 : decode cX12_runs 27 = .ok (.iaload, 1) := by decide +kernel
theorem dX12_runs_28 : decode cX12_runs 28 = .ok (.iastore, 1) := by decide +kernel
theorem dX12_runs_29 : decode cX12_runs 29 = .ok (.aload_n 0, 1) := by decide +kernel
theorem dX12_runs_30 : decode cX12_runs 30 = .ok (.iload 4, 2) := by decide +kernel
theorem dX12_runs_32 : decode cX12_runs 32 = .ok (.bipush 8, 2) := by decide +kernel
theorem dX12_runs_34 : decode cX12_runs 34 = .ok (.irem, 1) := by decide +kernel
theorem dX12_runs_35 : decode cX12_runs 35 = .ok (.iload 4, 2) := by decide +kernel
theorem dX12_runs_37 : decode cX12_runs 37 = .ok (.bipush 8, 2) := by decide +kernel
theorem dX12_runs_39 : decode cX12_runs 39 = .ok (.idiv, 1) := by decide +kernel
theorem dX12_runs_40 : decode cX12_runs 40 = .ok (.invokevirtual 437, 3) := by decide +kernel
theorem dX12_runs_43 : decode cX12_runs 43 = .ok (.ifCond .eq 51, 3) := by decide +kernel
theorem dX12_runs_46 : decode cX12_runs 46 = .ok (.aload_n 0, 1) := by decide +kernel
theorem dX12_runs_47 : decode cX12_runs 47 = .ok (.getfield 183, 3) := by decide +kernel
theorem dX12_runs_50 : decode cX12_runs 50 = .ok (.iload 4, 2) := by decide +kernel
theorem dX12_runs_52 : decode cX12_runs 52 = .ok (.bipush 99, 2) := by decide +kernel
theorem dX12_runs_54 : decode cX12_runs 54 = .ok (.aload_n 0, 1) := by decide +kernel
theorem dX12_runs_55 : decode cX12_runs 55 = .ok (.getfield 183, 3) := by decide +kernel
theorem dX12_runs_58 : decode cX12_runs 58 = .ok (.iload 4, 2) := by decide +kernel
theorem dX12_runs_60 : decode cX12_runs 60 = .ok (.iaload, 1) := by decide +kernel
theorem dX12_runs_61 : decode cX12_runs 61 = .ok (.iload_n 2, 1) := by decide +kernel
theorem dX12_runs_62 : decode cX12_runs 62 = .ok (.bipush 99, 2) := by decide +kernel
theorem dX12_runs_64 : decode cX12_runs 64 = .ok (.aload_n 0, 1) := by decide +kernel
theorem dX12_runs_65 : decode cX12_runs 65 = .ok (.iconst 0, 1) := by decide +kernel
theorem dX12_runs_66 : decode cX12_runs 66 = .ok (.iload 4, 2) := by decide +kernel
theorem dX12_runs_68 : decode cX12_runs 68 = .ok (.aload_n 0, 1) := by decide +kernel
theorem dX12_runs_69 : decode cX12_runs 69 = .ok (.getfield 183, 3) := by decide +kernel
theorem dX12_runs_72 : decode cX12_runs 72 = .ok (.iload 4, 2) := by decide +kernel
theorem dX12_runs_74 : decode cX12_runs 74 = .ok (.iaload, 1) := by decide +kernel
theorem dX12_runs_75 : decode cX12_runs 75 = .ok (.aload_n 0, 1) := by decide +kernel
theorem dX12_runs_76 : decode cX12_runs 76 = .ok (.getfield 144, 3) := by decide +kernel
theorem dX12_runs_79 : decode cX12_runs 79 = .ok (.iload_n 1, 1) := by decide +kernel
theorem dX12_runs_80 : decode cX12_runs 80 = .ok (.iaload, 1) := by decide +kernel
theorem dX12_runs_81 : decode cX12_runs 81 = .ok (.iconst 5, 1) := by decide +kernel
theorem dX12_runs_82 : decode cX12_runs 82 = .ok (.invokevirtual 447, 3) := by decide +kernel
theorem dX12_runs_85 : decode cX12_runs 85 = .ok (.invokestatic 451, 3) := by decide +kernel
theorem dX12_runs_88 : decode cX12_runs 88 = .ok (.imul, 1) := by decide +kernel
theorem dX12_runs_89 : decode cX12_runs 89 = .ok (.iadd, 1) := by decide +kernel
theorem dX12_runs_90 : decode cX12_runs 90 = .ok (.invokestatic 451, 3) := by decide +kernel
theorem dX12_runs_93 : decode cX12_runs 93 = .ok (.iastore, 1) := by decide +kernel
theorem dX12_runs_94 : decode cX12_runs 94 = .ok (.aload_n 0, 1) := by decide +kernel
theorem dX12_runs_95 : decode cX12_runs 95 = .ok (.getfield 192, 3) := by decide +kernel
theorem dX12_runs_98 : decode cX12_runs 98 = .ok (.iload 4, 2) := by decide +kernel
theorem dX12_runs_100 : decode cX12_runs 100 = .ok (.aload_n 0, 1) := by decide +kernel
theorem dX12_runs_101 : decode cX12_runs 101 = .ok (.getfield 183, 3) := by decide +kernel
theorem dX12_runs_104 : decode cX12_runs 104 = .ok (.iload 4, 2) := by decide +kernel
theorem dX12_runs_106 : decode cX12_runs 106 = .ok (.iaload, 1) := by decide +kernel
theorem dX12_runs_107 : decode cX12_runs 107 = .ok (.iastore, 1) := by decide +kernel
theorem dX12_runs_108 : decode cX12_runs 108 = .ok (.iinc 4 1, 3) := by decide +kernel
theorem dX12_runs_111 : decode cX12_runs 111 = .ok (.goto (-108), 3) := by decide +kernel
theorem dX12_runs_114 : decode cX12_runs 114 = .ok (.iconst 0, 1) := by decide +kernel
theorem dX12_runs_115 : decode cX12_runs 115 = .ok (.istore 4, 2) := by decide +kernel
theorem dX12_runs_117 : decode cX12_runs 117 = .ok (.iload 4, 2) := by decide +kernel
theorem dX12_runs_119 : decode cX12_runs 119 = .ok (.aload_n 0, 1) := by decide +kernel
theorem dX12_runs_120 : decode cX12_runs 120 = .ok (.getfield 63, 3) := by decide +kernel
theorem dX12_runs_123 : decode cX12_runs 123 = .ok (.aload_n 0, 1) := by decide +kernel
theorem dX12_runs_124 : decode cX12_runs 124 = .ok (.getfield 51, 3) := by decide +kernel
theorem dX12_runs_127 : decode cX12_runs 127 = .ok (.iaload, 1) := by decide +kernel
theorem dX12_runs_128 : decode cX12_runs 128 = .ok (.if_icmp .ge 36, 3) := by decide +kernel
theorem dX12_runs_131 : decode cX12_runs 131 = .ok (.aload_n 0, 1) := by decide +kernel
theorem dX12_runs_132 : decode cX12_runs 132 = .ok (.getfield 186, 3) := by decide +kernel
theorem dX12_runs_135 : decode cX12_runs 135 = .ok (.iload 4, 2) := by decide +kernel
theorem dX12_runs_137 : decode cX12_runs 137 = .ok (.aload_n 0, 1) := by decide +kernel
theorem dX12_runs_138 : decode cX12_runs 138 = .ok (.getfield 150, 3) := by decide +kernel
theorem dX12_runs_141 : decode cX12_runs 141 = .ok (.bipush 6, 2) := by decide +kernel
theorem dX12_runs_143 : decode cX12_runs 143 = .ok (.iload_n 1, 1) := by decide +kernel
theorem dX12_runs_144 : decode cX12_runs 144 = .ok (.imul, 1) := by decide +kernel
theorem dX12_runs_145 : decode cX12_runs 145 = .ok (.iload 4, 2) := by decide +kernel
theorem dX12_runs_147 : decode cX12_runs 147 = .ok (.iadd, 1) := by decide +kernel
theorem dX12_runs_148 : decode cX12_runs 148 = .ok (.iaload, 1) := by decide +kernel
theorem dX12_runs_149 : decode cX12_runs 149 = .ok (.iastore, 1) := by decide +kernel
theorem dX12_runs_150 : decode cX12_runs 150 = .ok (.aload_n 0, 1) := by decide +kernel
theorem dX12_runs_151 : decode cX12_runs 151 = .ok (.getfield 189, 3) := by decide +kernel
theorem dX12_runs_154 : decode cX12_runs 154 = .ok (.iload 4, 2) := by decide +kernel
theorem dX12_runs_156 : decode cX12_runs 156 = .ok (.iconst 0, 1) := by decide +kernel
theorem dX12_runs_157 : decode cX12_runs 157 = .ok (.iastore, 1) := by decide +kernel
theorem dX12_runs_158 : decode cX12_runs 158 = .ok (.iinc 4 1, 3) := by decide +kernel
theorem dX12_runs_161 : decode cX12_runs 161 = .ok (.goto (-44), 3) := by decide +kernel
theorem dX12_runs_164 : decode cX12_runs 164 = .ok (.iconst 0, 1) := by decide +kernel
theorem dX12_runs_165 : decode cX12_runs 165 = .ok (.istore 4, 2) := by decide +kernel
theorem dX12_runs_167 : decode cX12_runs 167 = .ok (.iload 4, 2) := by decide +kernel
theorem dX12_runs_169 : decode cX12_runs 169 = .ok (.bipush 9, 2) := by decide +kernel
theorem dX12_runs_171 : decode cX12_runs 171 = .ok (.if_icmp .ge 181, 3) := by decide +kernel
theorem dX12_runs_174 : decode cX12_runs 174 = .ok (.iconst 0, 1) := by decide +kernel
theorem dX12_runs_175 : decode cX12_runs 175 = .ok (.istore 5, 2) := by decide +kernel
theorem dX12_runs_177 : decode cX12_runs 177 = .ok (.iload 5, 2) := by decide +kernel
theorem dX12_runs_179 : decode cX12_runs 179 = .ok (.aload_n 0, 1) := by decide +kernel
theorem dX12_runs_180 : decode cX12_runs 180 = .ok (.getfield 63, 3) := by decide +kernel
theorem dX12_runs_183 : decode cX12_runs 183 = .ok (.aload_n 0, 1) := by decide +kernel
theorem dX12_runs_184 : decode cX12_runs 184 = .ok (.getfield 51, 3) := by decide +kernel
theorem dX12_runs_187 : decode cX12_runs 187 = .ok (.iaload, 1) := by decide +kernel
theorem dX12_runs_188 : decode cX12_runs 188 = .ok (.if_icmp .ge 50, 3) := by decide +kernel
theorem dX12_runs_191 : decode cX12_runs 191 = .ok (.aload_n 0, 1) := by decide +kernel
theorem dX12_runs_192 : decode cX12_runs 192 = .ok (.getfield 153, 3) := by decide +kernel
theorem dX12_runs_195 : decode cX12_runs 195 = .ok (.bipush 6, 2) := by decide +kernel
theorem dX12_runs_197 : decode cX12_runs 197 = .ok (.iload_n 1, 1) := by decide +kernel
theorem dX12_runs_198 : decode cX12_runs 198 = .ok (.imul, 1) := by decide +kernel
theorem dX12_runs_199 : decode cX12_runs 199 = .ok (.iload 5, 2) := by decide +kernel
theorem dX12_runs_201 : decode cX12_runs 201 = .ok (.iadd, 1) := by decide +kernel
theorem dX12_runs_202 : decode cX12_runs 202 = .ok (.iaload, 1) := by decide +kernel
theorem dX12_runs_203 : decode cX12_runs 203 = .ok (.iload 4, 2) := by decide +kernel
theorem dX12_runs_205 : decode cX12_runs 205 = .ok (.if_icmp .gt 27, 3) := by decide +kernel
theorem dX12_runs_208 : decode cX12_runs 208 = .ok (.iload_n 3, 1) := by decide +kernel
theorem dX12_runs_209 : decode cX12_runs 209 = .ok (.iload 5, 2) := by decide +kernel
theorem dX12_runs_211 : decode cX12_runs 211 = .ok (.ishr, 1) := by decide +kernel
theorem dX12_runs_212 : decode cX12_runs 212 = .ok (.iconst 1, 1) := by decide +kernel
theorem dX12_runs_213 : decode cX12_runs 213 = .ok (.iand, 1) := by decide +kernel
theorem dX12_runs_214 : decode cX12_runs 214 = .ok (.iconst 1, 1) := by decide +kernel
theorem dX12_runs_215 : decode cX12_runs 215 = .ok (.if_icmp .ne 17, 3) := by decide +kernel
theorem dX12_runs_218 : decode cX12_runs 218 = .ok (.aload_n 0, 1) := by decide +kernel
theorem dX12_runs_219 : decode cX12_runs 219 = .ok (.iload_n 1, 1) := by decide +kernel
theorem dX12_runs_220 : decode cX12_runs 220 = .ok (.iload 5, 2) := by decide +kernel
theorem dX12_runs_222 : decode cX12_runs 222 = .ok (.iload 4, 2) := by decide +kernel
theorem dX12_runs_224 : decode cX12_runs 224 = .ok (.invokevirtual 454, 3) := by decide +kernel
theorem dX12_runs_227 : decode cX12_runs 227 = .ok (.ifCond .ne 5, 3) := by decide +kernel
theorem dX12_runs_230 : decode cX12_runs 230 = .ok (.iconst 0, 1) := by decide +kernel
theorem dX12_runs_231 : decode cX12_runs 231 = .ok (.ireturn, 1) := by decide +kernel
theorem dX12_runs_232 : decode cX12_runs 232 = .ok (.iinc 5 1, 3) := by decide +kernel
theorem dX12_runs_235 : decode cX12_runs 235 = .ok (.goto (-58), 3) := by decide +kernel
theorem dX12_runs_238 : decode cX12_runs 238 = .ok (.aload_n 0, 1) := by decide +kernel
theorem dX12_runs_239 : decode cX12_runs 239 = .ok (.iload_n 1, 1) := by decide +kernel
theorem dX12_runs_240 : decode cX12_runs 240 = .ok (.iload 4, 2) := by decide +kernel
theorem dX12_runs_242 : decode cX12_runs 242 = .ok (.invokevirtual 457, 3) := by decide +kernel
theorem dX12_runs_245 : decode cX12_runs 245 = .ok (.iconst 0, 1) := by decide +kernel
theorem dX12_runs_246 : decode cX12_runs 246 = .ok (.istore 5, 2) := by decide +kernel
theorem dX12_runs_248 : decode cX12_runs 248 = .ok (.iload 5, 2) := by decide +kernel
theorem dX12_runs_250 : decode cX12_runs 250 = .ok (.bipush 64, 2) := by decide +kernel
theorem dX12_runs_252 : decode cX12_runs 252 = .ok (.if_icmp .ge 31, 3) := by decide +kernel
theorem dX12_runs_255 : decode cX12_runs 255 = .ok (.aload_n 0, 1) := by decide +kernel
theorem dX12_runs_256 : decode cX12_runs 256 = .ok (.getfield 192, 3) := by decide +kernel
theorem dX12_runs_259 : decode cX12_runs 259 = .ok (.bipush 64, 2) := by decide +kernel
theorem dX12_runs_261 : decode cX12_runs 261 = .ok (.iload 4, 2) := by decide +kernel
theorem dX12_runs_263 : decode cX12_runs 263 = .ok (.iconst 1, 1) := by decide +kernel
theorem dX12_runs_264 : decode cX12_runs 264 = .ok (.iadd, 1) := by decide +kernel
theorem dX12_runs_265 : decode cX12_runs 265 = .ok (.imul, 1) := by decide +kernel
theorem dX12_runs_266 : decode cX12_runs 266 = .ok (.iload 5, 2) := by decide +kernel
theorem dX12_runs_268 : decode cX12_runs 268 = .ok (.iadd, 1) := by decide +kernel
theorem dX12_runs_269 : decode cX12_runs 269 = .ok (.aload_n 0, 1) := by decide +kernel
theorem dX12_runs_270 : decode cX12_runs 270 = .ok (.getfield 183, 3) := by decide +kernel
theorem dX12_runs_273 : decode cX12_runs 273 = .ok (.iload 5, 2) := by decide +kernel
theorem dX12_runs_275 : decode cX12_runs 275 = .ok (.iaload, 1) := by decide +kernel
theorem dX12_runs_276 : decode cX12_runs 276 = .ok (.iastore, 1) := by decide +kernel
theorem dX12_runs_277 : decode cX12_runs 277 = .ok (.iinc 5 1, 3) := by decide +kernel
theorem dX12_runs_280 : decode cX12_runs 280 = .ok (.goto (-32), 3) := by decide +kernel
theorem dX12_runs_283 : decode cX12_runs 283 = .ok (.iconst 0, 1) := by decide +kernel
theorem dX12_runs_284 : decode cX12_runs 284 = .ok (.istore 5, 2) := by decide +kernel
theorem dX12_runs_286 : decode cX12_runs 286 = .ok (.iload 5, 2) := by decide +kernel
theorem dX12_runs_288 : decode cX12_runs 288 = .ok (.aload_n 0, 1) := by decide +kernel
theorem dX12_runs_289 : decode cX12_runs 289 = .ok (.getfield 63, 3) := by decide +kernel
theorem dX12_runs_292 : decode cX12_runs 292 = .ok (.aload_n 0, 1) := by decide +kernel
theorem dX12_runs_293 : decode cX12_runs 293 = .ok (.getfield 51, 3) := by decide +kernel
theorem dX12_runs_296 : decode cX12_runs 296 = .ok (.iaload, 1) := by decide +kernel
theorem dX12_runs_297 : decode cX12_runs 297 = .ok (.if_icmp .ge 49, 3) := by decide +kernel
theorem dX12_runs_300 : decode cX12_runs 300 = .ok (.aload_n 0, 1) := by decide +kernel
theorem dX12_runs_301 : decode cX12_runs 301 = .ok (.getfield 195, 3) := by decide +kernel
theorem dX12_runs_304 : decode cX12_runs 304 = .ok (.bipush 6, 2) := by decide +kernel
theorem dX12_runs_306 : decode cX12_runs 306 = .ok (.iload 4, 2) := by decide +kernel
theorem dX12_runs_308 : decode cX12_runs 308 = .ok (.imul, 1) := by decide +kernel
theorem dX12_runs_309 : decode cX12_runs 309 = .ok (.iload 5, 2) := by decide +kernel
theorem dX12_runs_311 : decode cX12_runs 311 = .ok (.iadd, 1) := by decide +kernel
theorem dX12_runs_312 : decode cX12_runs 312 = .ok (.aload_n 0, 1) := by decide +kernel
theorem dX12_runs_313 : decode cX12_runs 313 = .ok (.getfield 186, 3) := by decide +kernel
theorem dX12_runs_316 : decode cX12_runs 316 = .ok (.iload 5, 2) := by decide +kernel
theorem dX12_runs_318 : decode cX12_runs 318 = .ok (.iaload, 1) := by decide +kernel
theorem dX12_runs_319 : decode cX12_runs 319 = .ok (.iastore, 1) := by decide +kernel
theorem dX12_runs_320 : decode cX12_runs 320 = .ok (.aload_n 0, 1) := by decide +kernel
theorem dX12_runs_321 : decode cX12_runs 321 = .ok (.getfield 198, 3) := by decide +kernel
theorem dX12_runs_324 : decode cX12_runs 324 = .ok (.bipush 6, 2) := by decide +kernel
theorem dX12_runs_326 : decode cX12_runs 326 = .ok (.iload 4, 2) := by decide +kernel
theorem dX12_runs_328 : decode cX12_runs 328 = .ok (.imul, 1) := by decide +kernel
theorem dX12_runs_329 : decode cX12_runs 329 = .ok (.iload 5, 2) := by decide +kernel
theorem dX12_runs_331 : decode cX12_runs 331 = .ok (.iadd, 1) := by decide +kernel
theorem dX12_runs_332 : decode cX12_runs 332 = .ok (.aload_n 0, 1) := by decide +kernel
theorem dX12_runs_333 : decode cX12_runs 333 = .ok (.getfield 189, 3) := by decide +kernel
theorem dX12_runs_336 : decode cX12_runs 336 = .ok (.iload 5, 2) := by decide +kernel
theorem dX12_runs_338 : decode cX12_runs 338 = .ok (.iaload, 1) := by decide +kernel
theorem dX12_runs_339 : decode cX12_runs 339 = .ok (.iastore, 1) := by decide +kernel
theorem dX12_runs_340 : decode cX12_runs 340 = .ok (.iinc 5 1, 3) := by decide +kernel
theorem dX12_runs_343 : decode cX12_runs 343 = .ok (.goto (-57), 3) := by decide +kernel
theorem dX12_runs_346 : decode cX12_runs 346 = .ok (.iinc 4 1, 3) := by decide +kernel
theorem dX12_runs_349 : decode cX12_runs 349 = .ok (.goto (-182), 3) := by decide +kernel
theorem dX12_runs_352 : decode cX12_runs 352 = .ok (.iconst 1, 1) := by decide +kernel
theorem dX12_runs_353 : decode cX12_runs 353 = .ok (.ireturn, 1) := by decide +kernel
theorem dX12_all_0 : decode cX12_all 0 = .ok (.iconst 1, 1) := by decide +kernel
theorem dX12_all_1 : decode cX12_all 1 = .ok (.aload_n 0, 1) := by decide +kernel
theorem dX12_all_2 : decode cX12_all 2 = .ok (.getfield 63, 3) := by decide +kernel
theorem dX12_all_5 : decode cX12_all 5 = .ok (.aload_n 0, 1) := by decide +kernel
theorem dX12_all_6 : decode cX12_all 6 = .ok (.getfield 51, 3) := by decide +kernel
theorem dX12_all_9 : decode cX12_all 9 = .ok (.iaload, 1) := by decide +kernel
theorem dX12_all_10 : decode cX12_all 10 = .ok (.ishl, 1) := by decide +kernel
theorem dX12_all_11 : decode cX12_all 11 = .ok (.iconst 1, 1) := by decide +kernel
theorem dX12_all_12 : decode cX12_all 12 = .ok (.isub, 1) := by decide +kernel
theorem dX12_all_13 : decode cX12_all 13 = .ok (.ireturn, 1) := by decide +kernel
theorem dX12_wrung_0 : decode cX12_wrung 0 = .ok (.iconst 0, 1) := by decide +kernel
theorem dX12_wrung_1 : decode cX12_wrung 1 = .ok (.istore_n 1, 1) := by decide +kernel
theorem dX12_wrung_2 : decode cX12_wrung 2 = .ok (.iconst 0, 1) := by decide +kernel
theorem dX12_wrung_3 : decode cX12_wrung 3 = .ok (.istore_n 2, 1) := by decide +kernel
theorem dX12_wrung_4 : decode cX12_wrung 4 = .ok (.iload_n 2, 1) := by decide +kernel
theorem dX12_wrung_5 : decode cX12_wrung 5 = .ok (.aload_n 0, 1) := by decide +kernel
theorem dX12_wrung_6 : decode cX12_wrung 6 = .ok (.getfield 63, 3) := by decide +kernel
theorem dX12_wrung_9 : decode cX12_wrung 9 = .ok (.aload_n 0, 1) := by decide +kernel
theorem dX12_wrung_10 : decode cX12_wrung 10 = .ok (.getfield 51, 3) := by decide +kernel
theorem dX12_wrung_13 : decode cX12_wrung 13 = .ok (.iaload, 1) := by decide +kernel
theorem dX12_wrung_14 : decode cX12_wrung 14 = .ok (.if_icmp .ge 18, 3) := by decide +kernel
theorem dX12_wrung_17 : decode cX12_wrung 17 = .ok (.iload_n 1, 1) := by decide +kernel
theorem dX12_wrung_18 : decode cX12_wrung 18 = .ok (.aload_n 0, 1) := by decide +kernel
theorem dX12_wrung_19 : decode cX12_wrung 19 = .ok (.getfield 189, 3) := by decide +kernel
theorem dX12_wrung_22 : decode cX12_wrung 22 = .ok (.iload_n 2, 1) := by decide +kernel
theorem dX12_wrung_23 : decode cX12_wrung 23 = .ok (.iaload, 1) := by decide +kernel
theorem dX12_wrung_24 : decode cX12_wrung 24 = .ok (.iadd, 1) := by decide +kernel
theorem dX12_wrung_25 : decode cX12_wrung 25 = .ok (.istore_n 1, 1) := by decide +kernel
theorem dX12_wrung_26 : decode cX12_wrung 26 = .ok (.iinc 2 1, 3) := by decide +kernel
theorem dX12_wrung_29 : decode cX12_wrung 29 = .ok (.goto (-25), 3) := by decide +kernel
theorem dX12_wrung_32 : decode cX12_wrung 32 = .ok (.iload_n 1, 1) := by decide +kernel
theorem dX12_wrung_33 : decode cX12_wrung 33 = .ok (.ireturn, 1) := by decide +kernel
theorem dX12_passes_0 : decode cX12_passes 0 = .ok (.aload_n 0, 1) := by decide +kernel
theorem dX12_passes_1 : decode cX12_passes 1 = .ok (.iload_n 1, 1) := by decide +kernel
theorem dX12_passes_2 : decode cX12_passes 2 = .ok (.iload_n 2, 1) := by decide +kernel
theorem dX12_passes_3 : decode cX12_passes 3 = .ok (.aload_n 0, 1) := by decide +kernel
theorem dX12_passes_4 : decode cX12_passes 4 = .ok (.invokevirtual 460, 3) := by decide +kernel
theorem dX12_passes_7 : decode cX12_passes 7 = .ok (.invokevirtual 463, 3) := by decide +kernel
theorem dX12_passes_10 : decode cX12_passes 10 = .ok (.pop, 1) := by decide +kernel
theorem dX12_passes_11 : decode cX12_passes 11 = .ok (.iconst 0, 1) := by decide +kernel
theorem dX12_passes_12 : decode cX12_passes 12 = .ok (.istore_n 3, 1) := by decide +kernel
theorem dX12_passes_13 : decode cX12_passes 13 = .ok (.aload_n 0, 1) := by decide +kernel
theorem dX12_passes_14 : decode cX12_passes 14 = .ok (.iconst 0, 1) := by decide +kernel
theorem dX12_passes_15 : decode cX12_passes 15 = .ok (.putfield 213, 3) := by decide +kernel
theorem dX12_passes_18 : decode cX12_passes 18 = .ok (.iconst 0, 1) := by decide +kernel
theorem dX12_passes_19 : decode cX12_passes 19 = .ok (.istore 4, 2) := by decide +kernel
theorem dX12_passes_21 : decode cX12_passes 21 = .ok (.iload 4, 2) := by decide +kernel
theorem dX12_passes_23 : decode cX12_passes 23 = .ok (.bipush 64, 2) := by decide +kernel
theorem dX12_passes_25 : decode cX12_passes 25 = .ok (.if_icmp .ge 28, 3) := by decide +kernel
theorem dX12_passes_28 : decode cX12_passes 28 = .ok (.aload_n 0, 1) := by decide +kernel
theorem dX12_passes_29 : decode cX12_passes 29 = .ok (.getfield 147, 3) := by decide +kernel
theorem dX12_passes_32 : decode cX12_passes 32 = .ok (.bipush 64, 2) := by decide +kernel
theorem dX12_passes_34 : decode cX12_passes 34 = .ok (.iload_n 1, 1) := by decide +kernel
theorem dX12_passes_35 : decode cX12_passes 35 = .ok (.imul, 1) := by decide +kernel
theorem dX12_passes_36 : decode cX12_passes 36 = .ok (.iload 4, 2) := by decide +kernel
theorem dX12_passes_38 : decode cX12_passes 38 = .ok (.iadd, 1) := by decide +kernel
theorem dX12_passes_39 : decode cX12_passes 39 = .ok (.aload_n 0, 1) := by decide +kernel
theorem dX12_passes_40 : decode cX12_passes 40 = .ok (.getfield 183, 3) := by decide +kernel
theorem dX12_passes_43 : decode cX12_passes 43 = .ok (.iload 4, 2) := by decide +kernel
theorem dX12_passes_45 : decode cX12_passes 45 = .ok (.iaload, 1) := by decide +kernel
theorem dX12_passes_46 : decode cX12_passes 46 = .ok (.iastore, 1) := by decide +kernel
theorem dX12_passes_47 : decode cX12_passes 47 = .ok (.iinc 4 1, 3) := by decide +kernel
theorem dX12_passes_50 : decode cX12_passes 50 = .ok (.goto (-29), 3) := by decide +kernel
theorem dX12_passes_53 : decode cX12_passes 53 = .ok (.iconst 0, 1) := by decide +kernel
theorem dX12_passes_54 : decode cX12_passes 54 = .ok (.istore 4, 2) := by decide +kernel
theorem dX12_passes_56 : decode cX12_passes 56 = .ok (.iload 4, 2) := by decide +kernel
theorem dX12_passes_58 : decode cX12_passes 58 = .ok (.aload_n 0, 1) := by decide +kernel
theorem dX12_passes_59 : decode cX12_passes 59 = .ok (.getfield 63, 3) := by decide +kernel
theorem dX12_passes_62 : decode cX12_passes 62 = .ok (.aload_n 0, 1) := by decide +kernel
theorem dX12_passes_63 : decode cX12_passes 63 = .ok (.getfield 51, 3) := by decide +kernel
theorem dX12_passes_66 : decode cX12_passes 66 = .ok (.iaload, 1) := by decide +kernel
theorem dX12_passes_67 : decode cX12_passes 67 = .ok (.if_icmp .ge 111, 3) := by decide +kernel
theorem dX12_passes_70 : decode cX12_passes 70 = .ok (.aload_n 0, 1) := by decide +kernel
theorem dX12_passes_71 : decode cX12_passes 71 = .ok (.getfield 189, 3) := by decide +kernel
theorem dX12_passes_74 : decode cX12_passes 74 = .ok (.iload 4, 2) := by decide +kernel
theorem dX12_passes_76 : decode cX12_passes 76 = .ok (.iaload, 1) := by decide +kernel
theorem dX12_passes_77 : decode cX12_passes 77 = .ok (.aload_n 0, 1) := by decide +kernel
theorem dX12_passes_78 : decode cX12_passes 78 = .ok (.getfield 159, 3) := by decide +kernel
theorem dX12_passes_81 : decode cX12_passes 81 = .ok (.bipush 6, 2) := by decide +kernel
theorem dX12_passes_83 : decode cX12_passes 83 = .ok (.iload_n 1, 1) := by decide +kernel
theorem dX12_passes_84 : decode cX12_passes 84 = .ok (.imul, 1) := by decide +kernel
theorem dX12_passes_85 : decode cX12_passes 85 = .ok (.iload 4, 2) := by decide +kernel
theorem dX12_passes_87 : decode cX12_passes 87 = .ok (.iadd, 1) := by decide +kernel
theorem dX12_passes_88 : decode cX12_passes 88 = .ok (.iaload, 1) := by decide +kernel
theorem dX12_passes_89 : decode cX12_passes 89 = .ok (.iadd, 1) := by decide +kernel
theorem dX12_passes_90 : decode cX12_passes 90 = .ok (.aload_n 0, 1) := by decide +kernel
theorem dX12_passes_91 : decode cX12_passes 91 = .ok (.getfield 75, 3) := by decide +kernel
theorem dX12_passes_94 : decode cX12_passes 94 = .ok (.bipush 6, 2) := by decide +kernel
theorem dX12_passes_96 : decode cX12_passes 96 = .ok (.aload_n 0, 1) := by decide +kernel
theorem dX12_passes_97 : decode cX12_passes 97 = .ok (.getfield 51, 3) := by decide +kernel
theorem dX12_passes_100 : decode cX12_passes 100 = .ok (.imul, 1) := by decide +kernel
theorem dX12_passes_101 : decode cX12_passes 101 = .ok (.iload 4, 2) := by decide +kernel
theorem dX12_passes_103 : decode cX12_passes 103 = .ok (.iadd, 1) := by decide +kernel
theorem dX12_passes_104 : decode cX12_passes 104 = .ok (.iaload, 1) := by decide +kernel
theorem dX12_passes_105 : decode cX12_passes 105 = .ok (.isub, 1) := by decide +kernel
theorem dX12_passes_106 : decode cX12_passes 106 = .ok (.istore 5, 2) := by decide +kernel
theorem dX12_passes_108 : decode cX12_passes 108 = .ok (.aload_n 0, 1) := by decide +kernel
theorem dX12_passes_109 : decode cX12_passes 109 = .ok (.dup, 1) := by decide +kernel
theorem dX12_passes_110 : decode cX12_passes 110 = .ok (.getfield 213, 3) := by decide +kernel
theorem dX12_passes_113 : decode cX12_passes 113 = .ok (.iload 5, 2) := by decide +kernel
theorem dX12_passes_115 : decode cX12_passes 115 = .ok (.ifCond .ge 10, 3) := by decide +kernel
theorem dX12_passes_118 : decode cX12_passes 118 = .ok (.iconst 1, 1) := by decide +kernel
theorem dX12_passes_119 : decode cX12_passes 119 = .ok (.iload 4, 2) := by decide +kernel
theorem dX12_passes_121 : decode cX12_passes 121 = .ok (.ishl, 1) := by decide +kernel
theorem dX12_passes_122 : decode cX12_passes 122 = .ok (.goto 4, 3) := by decide +kernel
theorem dX12_passes_125 : decode cX12_passes 125 = .ok (.iconst 0, 1) := by decide +kernel
theorem dX12_passes_126 : decode cX12_passes 126 = .ok (.ior, 1) := by decide +kernel
theorem dX12_passes_127 : decode cX12_passes 127 = .ok (.putfield 213, 3) := by decide +kernel
theorem dX12_passes_130 : decode cX12_passes 130 = .ok (.iload_n 3, 1) := by decide +kernel
theorem dX12_passes_131 : decode cX12_passes 131 = .ok (.iload 5, 2) := by decide +kernel
theorem dX12_passes_133 : decode cX12_passes 133 = .ok (.ifCond .ge 7, 3) := by decide +kernel
theorem dX12_passes_136 : decode cX12_passes 136 = .ok (.iconst 1, 1) := by decide +kernel
theorem dX12_passes_137 : decode cX12_passes 137 = .ok (.goto 4, 3) := by decide +kernel
theorem dX12_passes_140 : decode cX12_passes 140 = .ok (.iconst 0, 1) := by decide +kernel
theorem dX12_passes_141 : decode cX12_passes 141 = .ok (.iadd, 1) := by decide +kernel
theorem dX12_passes_142 : decode cX12_passes 142 = .ok (.istore_n 3, 1) := by decide +kernel
theorem dX12_passes_143 : decode cX12_passes 143 = .ok (.aload_n 0, 1) := by decide +kernel
theorem dX12_passes_144 : decode cX12_passes 144 = .ok (.getfield 159, 3) := by decide +kernel
theorem dX12_passes_147 : decode cX12_passes 147 = .ok (.bipush 6, 2) := by decide +kernel
theorem dX12_passes_149 : decode cX12_passes 149 = .ok (.iload_n 1, 1) := by decide +kernel
theorem dX12_passes_150 : decode cX12_passes 150 = .ok (.imul, 1) := by decide +kernel
theorem dX12_passes_151 : decode cX12_passes 151 = .ok (.iload 4, 2) := by decide +kernel
theorem dX12_passes_153 : decode cX12_passes 153 = .ok (.iadd, 1) := by decide +kernel
theorem dX12_passes_154 : decode cX12_passes 154 = .ok (.iload 5, 2) := by decide +kernel
theorem dX12_passes_156 : decode cX12_passes 156 = .ok (.ifCond .ge 7, 3) := by decide +kernel
theorem dX12_passes_159 : decode cX12_passes 159 = .ok (.iconst 0, 1) := by decide +kernel
theorem dX12_passes_160 : decode cX12_passes 160 = .ok (.goto 11, 3) := by decide +kernel
theorem dX12_passes_163 : decode cX12_passes 163 = .ok (.sipush 999, 3) := by decide +kernel
theorem dX12_passes_166 : decode cX12_passes 166 = .ok (.iload 5, 2) := by decide +kernel
theorem dX12_passes_168 : decode cX12_passes 168 = .ok (.invokestatic 451, 3) := by decide +kernel
theorem dX12_passes_171 : decode cX12_passes 171 = .ok (.iastore, 1) := by decide +kernel
theorem dX12_passes_172 : decode cX12_passes 172 = .ok (.iinc 4 1, 3) := by decide +kernel
theorem dX12_passes_175 : decode cX12_passes 175 = .ok (.goto (-119), 3) := by decide +kernel
theorem dX12_passes_178 : decode cX12_passes 178 = .ok (.aload_n 0, 1) := by decide +kernel
theorem dX12_passes_179 : decode cX12_passes 179 = .ok (.getfield 162, 3) := by decide +kernel
theorem dX12_passes_182 : decode cX12_passes 182 = .ok (.iload_n 1, 1) := by decide +kernel
theorem dX12_passes_183 : decode cX12_passes 183 = .ok (.iaload, 1) := by decide +kernel
theorem dX12_passes_184 : decode cX12_passes 184 = .ok (.bipush 40, 2) := by decide +kernel
theorem dX12_passes_186 : decode cX12_passes 186 = .ok (.if_icmp .ne 55, 3) := by decide +kernel
theorem dX12_passes_189 : decode cX12_passes 189 = .ok (.bipush 120, 2) := by decide +kernel
theorem dX12_passes_191 : decode cX12_passes 191 = .ok (.iload_n 1, 1) := by decide +kernel
theorem dX12_passes_192 : decode cX12_passes 192 = .ok (.imul, 1) := by decide +kernel
theorem dX12_passes_193 : decode cX12_passes 193 = .ok (.istore 4, 2) := by decide +kernel
theorem dX12_passes_195 : decode cX12_passes 195 = .ok (.iload 4, 2) := by decide +kernel
theorem dX12_passes_197 : decode cX12_passes 197 = .ok (.bipush 120, 2) := by decide +kernel
theorem dX12_passes_199 : decode cX12_passes 199 = .ok (.iload_n 1, 1) := by decide +kernel
theorem dX12_passes_200 : decode cX12_passes 200 = .ok (.imul, 1) := by decide +kernel
theorem dX12_passes_201 : decode cX12_passes 201 = .ok (.bipush 120, 2) := by decide +kernel
theorem dX12_passes_203 : decode cX12_passes 203 = .ok (.iadd, 1) := by decide +kernel
theorem dX12_passes_204 : decode cX12_passes 204 = .ok (.iconst 3, 1) := by decide +kernel
theorem dX12_passes_205 : decode cX12_passes 205 = .ok (.isub, 1) := by decide +kernel
theorem dX12_passes_206 : decode cX12_passes 206 = .ok (.if_icmp .ge 25, 3) := by decide +kernel
theorem dX12_passes_209 : decode cX12_passes 209 = .ok (.aload_n 0, 1) := by decide +kernel
theorem dX12_passes_210 : decode cX12_passes 210 = .ok (.getfield 165, 3) := by decide +kernel
theorem dX12_passes_213 : decode cX12_passes 213 = .ok (.iload 4, 2) := by decide +kernel
theorem dX12_passes_215 : decode cX12_passes 215 = .ok (.aload_n 0, 1) := by decide +kernel
theorem dX12_passes_216 : decode cX12_passes 216 = .ok (.getfield 165, 3) := by decide +kernel
theorem dX12_passes_219 : decode cX12_passes 219 = .ok (.iload 4, 2) := by decide +kernel
theorem dX12_passes_221 : decode cX12_passes 221 = .ok (.iconst 3, 1) := by decide +kernel
theorem dX12_passes_222 : decode cX12_passes 222 = .ok (.iadd, 1) := by decide +kernel
theorem dX12_passes_223 : decode cX12_passes 223 = .ok (.iaload, 1) := by decide +kernel
theorem dX12_passes_224 : decode cX12_passes 224 = .ok (.iastore, 1) := by decide +kernel
theorem dX12_passes_225 : decode cX12_passes 225 = .ok (.iinc 4 1, 3) := by decide +kernel
theorem dX12_passes_228 : decode cX12_passes 228 = .ok (.goto (-33), 3) := by decide +kernel
theorem dX12_passes_231 : decode cX12_passes 231 = .ok (.aload_n 0, 1) := by decide +kernel
theorem dX12_passes_232 : decode cX12_passes 232 = .ok (.getfield 162, 3) := by decide +kernel
theorem dX12_passes_235 : decode cX12_passes 235 = .ok (.iload_n 1, 1) := by decide +kernel
theorem dX12_passes_236 : decode cX12_passes 236 = .ok (.dup2, 1) := by decide +kernel
theorem dX12_passes_237 : decode cX12_passes 237 = .ok (.iaload, 1) := by decide +kernel
theorem dX12_passes_238 : decode cX12_passes 238 = .ok (.iconst 1, 1) := by decide +kernel
theorem dX12_passes_239 : decode cX12_passes 239 = .ok (.isub, 1) := by decide +kernel
theorem dX12_passes_240 : decode cX12_passes 240 = .ok (.iastore, 1) := by decide +kernel
theorem dX12_passes_241 : decode cX12_passes 241 = .ok (.iconst 3, 1) := by decide +kernel
theorem dX12_passes_242 : decode cX12_passes 242 = .ok (.bipush 40, 2) := by decide +kernel
theorem dX12_passes_244 : decode cX12_passes 244 = .ok (.iload_n 1, 1) := by decide +kernel
theorem dX12_passes_245 : decode cX12_passes 245 = .ok (.imul, 1) := by decide +kernel
theorem dX12_passes_246 : decode cX12_passes 246 = .ok (.aload_n 0, 1) := by decide +kernel
theorem dX12_passes_247 : decode cX12_passes 247 = .ok (.getfield 162, 3) := by decide +kernel
theorem dX12_passes_250 : decode cX12_passes 250 = .ok (.iload_n 1, 1) := by decide +kernel
theorem dX12_passes_251 : decode cX12_passes 251 = .ok (.iaload, 1) := by decide +kernel
theorem dX12_passes_252 : decode cX12_passes 252 = .ok (.iadd, 1) := by decide +kernel
theorem dX12_passes_253 : decode cX12_passes 253 = .ok (.imul, 1) := by decide +kernel
theorem dX12_passes_254 : decode cX12_passes 254 = .ok (.istore 4, 2) := by decide +kernel
theorem dX12_passes_256 : decode cX12_passes 256 = .ok (.aload_n 0, 1) := by decide +kernel
theorem dX12_passes_257 : decode cX12_passes 257 = .ok (.getfield 165, 3) := by decide +kernel
theorem dX12_passes_260 : decode cX12_passes 260 = .ok (.iload 4, 2) := by decide +kernel
theorem dX12_passes_262 : decode cX12_passes 262 = .ok (.aload_n 0, 1) := by decide +kernel
theorem dX12_passes_263 : decode cX12_passes 263 = .ok (.getfield 144, 3) := by decide +kernel
theorem dX12_passes_266 : decode cX12_passes 266 = .ok (.iload_n 1, 1) := by decide +kernel
theorem dX12_passes_267 : decode cX12_passes 267 = .ok (.iaload, 1) := by decide +kernel
theorem dX12_passes_268 : decode cX12_passes 268 = .ok (.iastore, 1) := by decide +kernel
theorem dX12_passes_269 : decode cX12_passes 269 = .ok (.aload_n 0, 1) := by decide +kernel
theorem dX12_passes_270 : decode cX12_passes 270 = .ok (.getfield 165, 3) := by decide +kernel
theorem dX12_passes_273 : decode cX12_passes 273 = .ok (.iload 4, 2) := by decide +kernel
theorem dX12_passes_275 : decode cX12_passes 275 = .ok (.iconst 1, 1) := by decide +kernel
theorem dX12_passes_276 : decode cX12_passes 276 = .ok (.iadd, 1) := by decide +kernel
theorem dX12_passes_277 : decode cX12_passes 277 = .ok (.aload_n 0, 1) := by decide +kernel
theorem dX12_passes_278 : decode cX12_passes 278 = .ok (.invokevirtual 466, 3) := by decide +kernel
theorem dX12_passes_281 : decode cX12_passes 281 = .ok (.iastore, 1) := by decide +kernel
theorem dX12_passes_282 : decode cX12_passes 282 = .ok (.aload_n 0, 1) := by decide +kernel
theorem dX12_passes_283 : decode cX12_passes 283 = .ok (.getfield 165, 3) := by decide +kernel
theorem dX12_passes_286 : decode cX12_passes 286 = .ok (.iload 4, 2) := by decide +kernel
theorem dX12_passes_288 : decode cX12_passes 288 = .ok (.iconst 2, 1) := by decide +kernel
theorem dX12_passes_289 : decode cX12_passes 289 = .ok (.iadd, 1) := by decide +kernel
theorem dX12_passes_290 : decode cX12_passes 290 = .ok (.iload_n 3, 1) := by decide +kernel
theorem dX12_passes_291 : decode cX12_passes 291 = .ok (.iastore, 1) := by decide +kernel
theorem dX12_passes_292 : decode cX12_passes 292 = .ok (.aload_n 0, 1) := by decide +kernel
theorem dX12_passes_293 : decode cX12_passes 293 = .ok (.getfield 162, 3) := by decide +kernel
theorem dX12_passes_296 : decode cX12_passes 296 = .ok (.iload_n 1, 1) := by decide +kernel
theorem dX12_passes_297 : decode cX12_passes 297 = .ok (.dup2, 1) := by decide +kernel
theorem dX12_passes_298 : decode cX12_passes 298 = .ok (.iaload, 1) := by decide +kernel
theorem dX12_passes_299 : decode cX12_passes 299 = .ok (.iconst 1, 1) := by decide +kernel
theorem dX12_passes_300 : decode cX12_passes 300 = .ok (.iadd, 1) := by decide +kernel
theorem dX12_passes_301 : decode cX12_passes 301 = .ok (.iastore, 1) := by decide +kernel
theorem dX12_passes_302 : decode cX12_passes 302 = .ok (.aload_n 0, 1) := by decide +kernel
theorem dX12_passes_303 : decode cX12_passes 303 = .ok (.getfield 144, 3) := by decide +kernel
theorem dX12_passes_306 : decode cX12_passes 306 = .ok (.iload_n 1, 1) := by decide +kernel
theorem dX12_passes_307 : decode cX12_passes 307 = .ok (.dup2, 1) := by decide +kernel
theorem dX12_passes_308 : decode cX12_passes 308 = .ok (.iaload, 1) := by decide +kernel
theorem dX12_passes_309 : decode cX12_passes 309 = .ok (.iconst 1, 1) := by decide +kernel
theorem dX12_passes_310 : decode cX12_passes 310 = .ok (.iadd, 1) := by decide +kernel
theorem dX12_passes_311 : decode cX12_passes 311 = .ok (.iastore, 1) := by decide +kernel
theorem dX12_passes_312 : decode cX12_passes 312 = .ok (.aload_n 0, 1) := by decide +kernel
theorem dX12_passes_313 : decode cX12_passes 313 = .ok (.getfield 165, 3) := by decide +kernel
theorem dX12_passes_316 : decode cX12_passes 316 = .ok (.iload 4, 2) := by decide +kernel
theorem dX12_passes_318 : decode cX12_passes 318 = .ok (.iconst 1, 1) := by decide +kernel
theorem dX12_passes_319 : decode cX12_passes 319 = .ok (.iadd, 1) := by decide +kernel
theorem dX12_passes_320 : decode cX12_passes 320 = .ok (.iaload, 1) := by decide +kernel
theorem dX12_passes_321 : decode cX12_passes 321 = .ok (.ireturn, 1) := by decide +kernel
theorem dX12_isPerson_0 : decode cX12_isPerson 0 = .ok (.iload_n 1, 1) := by decide +kernel
theorem dX12_isPerson_1 : decode cX12_isPerson 1 = .ok (.ifCond .lt 20, 3) := by decide +kernel
theorem dX12_isPerson_4 : decode cX12_isPerson 4 = .ok (.iload_n 1, 1) := by decide +kernel
theorem dX12_isPerson_5 : decode cX12_isPerson 5 = .ok (.aload_n 0, 1) := by decide +kernel
theorem dX12_isPerson_6 : decode cX12_isPerson 6 = .ok (.getfield 63, 3) := by decide +kernel
theorem dX12_isPerson_9 : decode cX12_isPerson 9 = .ok (.aload_n 0, 1) := by decide +kernel
theorem dX12_isPerson_10 : decode cX12_isPerson 10 = .ok (.getfield 51, 3) := by decide +kernel
theorem dX12_isPerson_13 : decode cX12_isPerson 13 = .ok (.iaload, 1) := by decide +kernel
theorem dX12_isPerson_14 : decode cX12_isPerson 14 = .ok (.if_icmp .ge 7, 3) := by decide +kernel
theorem dX12_isPerson_17 : decode cX12_isPerson 17 = .ok (.iconst 1, 1) := by decide +kernel
theorem dX12_isPerson_18 : decode cX12_isPerson 18 = .ok (.goto 4, 3) := by decide +kernel
theorem dX12_isPerson_21 : decode cX12_isPerson 21 = .ok (.iconst 0, 1) := by decide +kernel
theorem dX12_isPerson_22 : decode cX12_isPerson 22 = .ok (.ireturn, 1) := by decide +kernel
theorem dX12_has_0 : decode cX12_has 0 = .ok (.iconst 0, 1) := by decide +kernel
theorem dX12_has_1 : decode cX12_has 1 = .ok (.istore_n 2, 1) := by decide +kernel
theorem dX12_has_2 : decode cX12_has 2 = .ok (.iload_n 1, 1) := by decide +kernel
theorem dX12_has_3 : decode cX12_has 3 = .ok (.tableswitch 170 0 9 #[53, 63, 73, 83, 90, 115, 147, 154, 159, 164], 53) := by decide +kernel
theorem dX12_has_56 : decode cX12_has 56 = .ok (.aload_n 0, 1) := by decide +kernel
theorem dX12_has_57 : decode cX12_has 57 = .ok (.getfield 54, 3) := by decide +kernel
theorem dX12_has_60 : decode cX12_has 60 = .ok (.aload_n 0, 1) := by decide +kernel
theorem dX12_has_61 : decode cX12_has 61 = .ok (.getfield 51, 3) := by decide +kernel
theorem dX12_has_64 : decode cX12_has 64 = .ok (.iaload, 1) := by decide +kernel
theorem dX12_has_65 : decode cX12_has 65 = .ok (.ireturn, 1) := by decide +kernel
theorem dX12_has_66 : decode cX12_has 66 = .ok (.aload_n 0, 1) := by decide +kernel
theorem dX12_has_67 : decode cX12_has 67 = .ok (.getfield 57, 3) := by decide +kernel
theorem dX12_has_70 : decode cX12_has 70 = .ok (.aload_n 0, 1) := by decide +kernel
theorem dX12_has_71 : decode cX12_has 71 = .ok (.getfield 51, 3) := by decide +kernel
theorem dX12_has_74 : decode cX12_has 74 = .ok (.iaload, 1) := by decide +kernel
theorem dX12_has_75 : decode cX12_has 75 = .ok (.ireturn, 1) := by decide +kernel
theorem dX12_has_76 : decode cX12_has 76 = .ok (.aload_n 0, 1) := by decide +kernel
theorem dX12_has_77 : decode cX12_has 77 = .ok (.getfield 63, 3) := by decide +kernel
theorem dX12_has_80 : decode cX12_has 80 = .ok (.aload_n 0, 1) := by decide +kernel
theorem dX12_has_81 : decode cX12_has 81 = .ok (.getfield 51, 3) := by decide +kernel
theorem dX12_has_84 : decode cX12_has 84 = .ok (.iaload, 1) := by decide +kernel
theorem dX12_has_85 : decode cX12_has 85 = .ok (.ireturn, 1) := by decide +kernel
theorem dX12_has_86 : decode cX12_has 86 = .ok (.aload_n 0, 1) := by decide +kernel
theorem dX12_has_87 : decode cX12_has 87 = .ok (.getfield 144, 3) := by decide +kernel
theorem dX12_has_90 : decode cX12_has 90 = .ok (.iconst 0, 1) := by decide +kernel
theorem dX12_has_91 : decode cX12_has 91 = .ok (.iaload, 1) := by decide +kernel
theorem dX12_has_92 : decode cX12_has 92 = .ok (.ireturn, 1) := by decide +kernel
theorem dX12_has_93 : decode cX12_has 93 = .ok (.iconst 0, 1) := by decide +kernel
theorem dX12_has_94 : decode cX12_has 94 = .ok (.istore_n 3, 1) := by decide +kernel
theorem dX12_has_95 : decode cX12_has 95 = .ok (.iload_n 3, 1) := by decide +kernel
theorem dX12_has_96 : decode cX12_has 96 = .ok (.bipush 64, 2) := by decide +kernel
theorem dX12_has_98 : decode cX12_has 98 = .ok (.if_icmp .ge 18, 3) := by decide +kernel
theorem dX12_has_101 : decode cX12_has 101 = .ok (.iload_n 2, 1) := by decide +kernel
theorem dX12_has_102 : decode cX12_has 102 = .ok (.aload_n 0, 1) := by decide +kernel
theorem dX12_has_103 : decode cX12_has 103 = .ok (.getfield 147, 3) := by decide +kernel
theorem dX12_has_106 : decode cX12_has 106 = .ok (.iload_n 3, 1) := by decide +kernel
theorem dX12_has_107 : decode cX12_has 107 = .ok (.iaload, 1) := by decide +kernel
theorem dX12_has_108 : decode cX12_has 108 = .ok (.iadd, 1) := by decide +kernel
theorem dX12_has_109 : decode cX12_has 109 = .ok (.istore_n 2, 1) := by decide +kernel
theorem dX12_has_110 : decode cX12_has 110 = .ok (.iinc 3 1, 3) := by decide +kernel
theorem dX12_has_113 : decode cX12_has 113 = .ok (.goto (-18), 3) := by decide +kernel
theorem dX12_has_116 : decode cX12_has 116 = .ok (.iload_n 2, 1) := by decide +kernel
theorem dX12_has_117 : decode cX12_has 117 = .ok (.ireturn, 1) := by decide +kernel
theorem dX12_has_118 : decode cX12_has 118 = .ok (.iconst 0, 1) := by decide +kernel
theorem dX12_has_119 : decode cX12_has 119 = .ok (.istore_n 3, 1) := by decide +kernel
theorem dX12_has_120 : decode cX12_has 120 = .ok (.iload_n 3, 1) := by decide +kernel
theorem dX12_has_121 : decode cX12_has 121 = .ok (.aload_n 0, 1) := by decide +kernel
theorem dX12_has_122 : decode cX12_has 122 = .ok (.getfield 63, 3) := by decide +kernel
theorem dX12_has_125 : decode cX12_has 125 = .ok (.aload_n 0, 1) := by decide +kernel
theorem dX12_has_126 : decode cX12_has 126 = .ok (.getfield 51, 3) := by decide +kernel
theorem dX12_has_129 : decode cX12_has 129 = .ok (.iaload, 1) := by decide +kernel
theorem dX12_has_130 : decode cX12_has 130 = .ok (.if_icmp .ge 18, 3) := by decide +kernel
theorem dX12_has_133 : decode cX12_has 133 = .ok (.iload_n 2, 1) := by decide +kernel
theorem dX12_has_134 : decode cX12_has 134 = .ok (.aload_n 0, 1) := by decide +kernel
theorem dX12_has_135 : decode cX12_has 135 = .ok (.getfield 159, 3) := by decide +kernel
theorem dX12_has_138 : decode cX12_has 138 = .ok (.iload_n 3, 1) := by decide +kernel
theorem dX12_has_139 : decode cX12_has 139 = .ok (.iaload, 1) := by decide +kernel
theorem dX12_has_140 : decode cX12_has 140 = .ok (.iadd, 1) := by decide +kernel
theorem dX12_has_141 : decode cX12_has 141 = .ok (.istore_n 2, 1) := by decide +kernel
theorem dX12_has_142 : decode cX12_has 142 = .ok (.iinc 3 1, 3) := by decide +kernel
theorem dX12_has_145 : decode cX12_has 145 = .ok (.goto (-25), 3) := by decide +kernel
theorem dX12_has_148 : decode cX12_has 148 = .ok (.iload_n 2, 1) := by decide +kernel
theorem dX12_has_149 : decode cX12_has 149 = .ok (.ireturn, 1) := by decide +kernel
theorem dX12_has_150 : decode cX12_has 150 = .ok (.aload_n 0, 1) := by decide +kernel
theorem dX12_has_151 : decode cX12_has 151 = .ok (.getfield 162, 3) := by decide +kernel
theorem dX12_has_154 : decode cX12_has 154 = .ok (.iconst 0, 1) := by decide +kernel
theorem dX12_has_155 : decode cX12_has 155 = .ok (.iaload, 1) := by decide +kernel
theorem dX12_has_156 : decode cX12_has 156 = .ok (.ireturn, 1) := by decide +kernel
theorem dX12_has_157 : decode cX12_has 157 = .ok (.aload_n 0, 1) := by decide +kernel
theorem dX12_has_158 : decode cX12_has 158 = .ok (.getfield 219, 3) := by decide +kernel
theorem dX12_has_161 : decode cX12_has 161 = .ok (.ireturn, 1) := by decide +kernel
theorem dX12_has_162 : decode cX12_has 162 = .ok (.aload_n 0, 1) := by decide +kernel
theorem dX12_has_163 : decode cX12_has 163 = .ok (.getfield 171, 3) := by decide +kernel
theorem dX12_has_166 : decode cX12_has 166 = .ok (.ireturn, 1) := by decide +kernel
theorem dX12_has_167 : decode cX12_has 167 = .ok (.aload_n 0, 1) := by decide +kernel
theorem dX12_has_168 : decode cX12_has 168 = .ok (.getfield 174, 3) := by decide +kernel
theorem dX12_has_171 : decode cX12_has 171 = .ok (.l2i, 1) := by decide +kernel
theorem dX12_has_172 : decode cX12_has 172 = .ok (.ireturn, 1) := by decide +kernel
theorem dX12_has_173 : decode cX12_has 173 = .ok (.iconst (-1), 1) := by decide +kernel
theorem dX12_has_174 : decode cX12_has 174 = .ok (.ireturn, 1) := by decide +kernel
theorem dX12_letter_0 : decode cX12_letter 0 = .ok (.aload_n 0, 1) := by decide +kernel
theorem dX12_letter_1 : decode cX12_letter 1 = .ok (.iload_n 1, 1) := by decide +kernel
theorem dX12_letter_2 : decode cX12_letter 2 = .ok (.invokevirtual 469, 3) := by decide +kernel
theorem dX12_letter_5 : decode cX12_letter 5 = .ok (.ifCond .eq 12, 3) := by decide +kernel
theorem dX12_letter_8 : decode cX12_letter 8 = .ok (.iload_n 2, 1) := by decide +kernel
theorem dX12_letter_9 : decode cX12_letter 9 = .ok (.iconst 0, 1) := by decide +kernel
theorem dX12_letter_10 : decode cX12_letter 10 = .ok (.iconst 5, 1) := by decide +kernel
theorem dX12_letter_11 : decode cX12_letter 11 = .ok (.invokestatic 323, 3) := by decide +kernel
theorem dX12_letter_14 : decode cX12_letter 14 = .ok (.ifCond .ne 5, 3) := by decide +kernel
theorem dX12_letter_17 : decode cX12_letter 17 = .ok (.iconst (-1), 1) := by decide +kernel
theorem dX12_letter_18 : decode cX12_letter 18 = .ok (.ireturn, 1) := by decide +kernel
theorem dX12_letter_19 : decode cX12_letter 19 = .ok (.aload_n 0, 1) := by decide +kernel
theorem dX12_letter_20 : decode cX12_letter 20 = .ok (.getfield 93, 3) := by decide +kernel
theorem dX12_letter_23 : decode cX12_letter 23 = .ok (.bipush 6, 2) := by decide +kernel
theorem dX12_letter_25 : decode cX12_letter 25 = .ok (.aload_n 0, 1) := by decide +kernel
theorem dX12_letter_26 : decode cX12_letter 26 = .ok (.getfield 51, 3) := by decide +kernel
theorem dX12_letter_29 : decode cX12_letter 29 = .ok (.imul, 1) := by decide +kernel
theorem dX12_letter_30 : decode cX12_letter 30 = .ok (.iload_n 1, 1) := by decide +kernel
theorem dX12_letter_31 : decode cX12_letter 31 = .ok (.iadd, 1) := by decide +kernel
theorem dX12_letter_32 : decode cX12_letter 32 = .ok (.laload, 1) := by decide +kernel
theorem dX12_letter_33 : decode cX12_letter 33 = .ok (.lstore_n 3, 1) := by decide +kernel
theorem dX12_letter_34 : decode cX12_letter 34 = .ok (.iconst 0, 1) := by decide +kernel
theorem dX12_letter_35 : decode cX12_letter 35 = .ok (.istore 5, 2) := by decide +kernel
theorem dX12_letter_37 : decode cX12_letter 37 = .ok (.lload_n 3, 1) := by decide +kernel
theorem dX12_letter_38 : decode cX12_letter 38 = .ok (.lstore 6, 2) := by decide +kernel
theorem dX12_letter_40 : decode cX12_letter 40 = .ok (.lload 6, 2) := by decide +kernel
theorem dX12_letter_42 : decode cX12_letter 42 = .ok (.lconst 0, 1) := by decide +kernel
theorem dX12_letter_43 : decode cX12_letter 43 = .ok (.lcmp, 1) := by decide +kernel
theorem dX12_letter_44 : decode cX12_letter 44 = .ok (.ifCond .le 16, 3) := by decide +kernel
theorem dX12_letter_47 : decode cX12_letter 47 = .ok (.iinc 5 1, 3) := by decide +kernel
theorem dX12_letter_50 : decode cX12_letter 50 = .ok (.lload 6, 2) := by decide +kernel
theorem dX12_letter_52 : decode cX12_letter 52 = .ok (.bipush 8, 2) := by decide +kernel
theorem dX12_letter_54 : decode cX12_letter 54 = .ok (.lshr, 1) := by decide +kernel
theorem dX12_letter_55 : decode cX12_letter 55 = .ok (.lstore 6, 2) := by decide +kernel
theorem dX12_letter_57 : decode cX12_letter 57 = .ok (.goto (-17), 3) := by decide +kernel
theorem dX12_letter_60 : decode cX12_letter 60 = .ok (.iload_n 2, 1) := by decide +kernel
theorem dX12_letter_61 : decode cX12_letter 61 = .ok (.iload 5, 2) := by decide +kernel
theorem dX12_letter_63 : decode cX12_letter 63 = .ok (.if_icmp .lt 7, 3) := by decide +kernel
theorem dX12_letter_66 : decode cX12_letter 66 = .ok (.iconst 0, 1) := by decide +kernel
theorem dX12_letter_67 : decode cX12_letter 67 = .ok (.goto 24, 3) := by decide +kernel
theorem dX12_letter_70 : decode cX12_letter 70 = .ok (.lload_n 3, 1) := by decide +kernel
theorem dX12_letter_71 : decode cX12_letter 71 = .ok (.bipush 8, 2) := by decide +kernel
theorem dX12_letter_73 : decode cX12_letter 73 = .ok (.iload 5, 2) := by decide +kernel
theorem dX12_letter_75 : decode cX12_letter 75 = .ok (.iconst 1, 1) := by decide +kernel
theorem dX12_letter_76 : decode cX12_letter 76 = .ok (.isub, 1) := by decide +kernel
theorem dX12_letter_77 : decode cX12_letter 77 = .ok (.iload_n 2, 1) := by decide +kernel
theorem dX12_letter_78 : decode cX12_letter 78 = .ok (.isub, 1) := by decide +kernel
theorem dX12_letter_79 : decode cX12_letter 79 = .ok (.imul, 1) := by decide +kernel
theorem dX12_letter_80 : decode cX12_letter 80 = .ok (.lshr, 1) := by decide +kernel
theorem dX12_letter_81 : decode cX12_letter 81 = .ok (.ldc2_w 472, 3) := by decide +kernel
theorem dX12_letter_84 : decode cX12_letter 84 = .ok (.land, 1) := by decide +kernel
theorem dX12_letter_85 : decode cX12_letter 85 = .ok (.l2i, 1) := by decide +kernel
theorem dX12_letter_86 : decode cX12_letter 86 = .ok (.bipush 97, 2) := by decide +kernel
theorem dX12_letter_88 : decode cX12_letter 88 = .ok (.isub, 1) := by decide +kernel
theorem dX12_letter_89 : decode cX12_letter 89 = .ok (.iconst 1, 1) := by decide +kernel
theorem dX12_letter_90 : decode cX12_letter 90 = .ok (.iadd, 1) := by decide +kernel
theorem dX12_letter_91 : decode cX12_letter 91 = .ok (.ireturn, 1) := by decide +kernel
theorem dX12_cell_0 : decode cX12_cell 0 = .ok (.aload_n 0, 1) := by decide +kernel
theorem dX12_cell_1 : decode cX12_cell 1 = .ok (.iload_n 1, 1) := by decide +kernel
theorem dX12_cell_2 : decode cX12_cell 2 = .ok (.iload_n 2, 1) := by decide +kernel
theorem dX12_cell_3 : decode cX12_cell 3 = .ok (.invokevirtual 437, 3) := by decide +kernel
theorem dX12_cell_6 : decode cX12_cell 6 = .ok (.ifCond .eq 17, 3) := by decide +kernel
theorem dX12_cell_9 : decode cX12_cell 9 = .ok (.aload_n 0, 1) := by decide +kernel
theorem dX12_cell_10 : decode cX12_cell 10 = .ok (.getfield 147, 3) := by decide +kernel
theorem dX12_cell_13 : decode cX12_cell 13 = .ok (.bipush 8, 2) := by decide +kernel
theorem dX12_cell_15 : decode cX12_cell 15 = .ok (.iload_n 2, 1) := by decide +kernel
theorem dX12_cell_16 : decode cX12_cell 16 = .ok (.imul, 1) := by decide +kernel
theorem dX12_cell_17 : decode cX12_cell 17 = .ok (.iload_n 1, 1) := by decide +kernel
theorem dX12_cell_18 : decode cX12_cell 18 = .ok (.iadd, 1) := by decide +kernel
theorem dX12_cell_19 : decode cX12_cell 19 = .ok (.iaload, 1) := by decide +kernel
theorem dX12_cell_20 : decode cX12_cell 20 = .ok (.goto 4, 3) := by decide +kernel
theorem dX12_cell_23 : decode cX12_cell 23 = .ok (.iconst (-1), 1) := by decide +kernel
theorem dX12_cell_24 : decode cX12_cell 24 = .ok (.ireturn, 1) := by decide +kernel
theorem dX12_person_0 : decode cX12_person 0 = .ok (.aload_n 0, 1) := by decide +kernel
theorem dX12_person_1 : decode cX12_person 1 = .ok (.iload_n 1, 1) := by decide +kernel
theorem dX12_person_2 : decode cX12_person 2 = .ok (.invokevirtual 469, 3) := by decide +kernel
theorem dX12_person_5 : decode cX12_person 5 = .ok (.ifCond .ne 5, 3) := by decide +kernel
theorem dX12_person_8 : decode cX12_person 8 = .ok (.iconst (-1), 1) := by decide +kernel
theorem dX12_person_9 : decode cX12_person 9 = .ok (.ireturn, 1) := by decide +kernel
theorem dX12_person_10 : decode cX12_person 10 = .ok (.iload_n 2, 1) := by decide +kernel
theorem dX12_person_11 : decode cX12_person 11 = .ok (.tableswitch 93 0 5 #[37, 47, 57, 64, 71, 86], 37) := by decide +kernel
theorem dX12_person_48 : decode cX12_person 48 = .ok (.aload_n 0, 1) := by decide +kernel
theorem dX12_person_49 : decode cX12_person 49 = .ok (.getfield 150, 3) := by decide +kernel
theorem dX12_person_52 : decode cX12_person 52 = .ok (.iload_n 1, 1) := by decide +kernel
theorem dX12_person_53 : decode cX12_person 53 = .ok (.iaload, 1) := by decide +kernel
theorem dX12_person_54 : decode cX12_person 54 = .ok (.bipush 8, 2) := by decide +kernel
theorem dX12_person_56 : decode cX12_person 56 = .ok (.irem, 1) := by decide +kernel
theorem dX12_person_57 : decode cX12_person 57 = .ok (.ireturn, 1) := by decide +kernel
theorem dX12_person_58 : decode cX12_person 58 = .ok (.aload_n 0, 1) := by decide +kernel
theorem dX12_person_59 : decode cX12_person 59 = .ok (.getfield 150, 3) := by decide +kernel
theorem dX12_person_62 : decode cX12_person 62 = .ok (.iload_n 1, 1) := by decide +kernel
theorem dX12_person_63 : decode cX12_person 63 = .ok (.iaload, 1) := by decide +kernel
theorem dX12_person_64 : decode cX12_person 64 = .ok (.bipush 8, 2) := by decide +kernel
theorem dX12_person_66 : decode cX12_person 66 = .ok (.idiv, 1) := by decide +kernel
theorem dX12_person_67 : decode cX12_person 67 = .ok (.ireturn, 1) := by decide +kernel
theorem dX12_person_68 : decode cX12_person 68 = .ok (.aload_n 0, 1) := by decide +kernel
theorem dX12_person_69 : decode cX12_person 69 = .ok (.getfield 153, 3) := by decide +kernel
theorem dX12_person_72 : decode cX12_person 72 = .ok (.iload_n 1, 1) := by decide +kernel
theorem dX12_person_73 : decode cX12_person 73 = .ok (.iaload, 1) := by decide +kernel
theorem dX12_person_74 : decode cX12_person 74 = .ok (.ireturn, 1) := by decide +kernel
theorem dX12_person_75 : decode cX12_person 75 = .ok (.aload_n 0, 1) := by decide +kernel
theorem dX12_person_76 : decode cX12_person 76 = .ok (.getfield 156, 3) := by decide +kernel
theorem dX12_person_79 : decode cX12_person 79 = .ok (.iload_n 1, 1) := by decide +kernel
theorem dX12_person_80 : decode cX12_person 80 = .ok (.iaload, 1) := by decide +kernel
theorem dX12_person_81 : decode cX12_person 81 = .ok (.ireturn, 1) := by decide +kernel
theorem dX12_person_82 : decode cX12_person 82 = .ok (.aload_n 0, 1) := by decide +kernel
theorem dX12_person_83 : decode cX12_person 83 = .ok (.getfield 75, 3) := by decide +kernel
theorem dX12_person_86 : decode cX12_person 86 = .ok (.bipush 6, 2) := by decide +kernel
theorem dX12_person_88 : decode cX12_person 88 = .ok (.aload_n 0, 1) := by decide +kernel
theorem dX12_person_89 : decode cX12_person 89 = .ok (.getfield 51, 3) := by decide +kernel
theorem dX12_person_92 : decode cX12_person 92 = .ok (.imul, 1) := by decide +kernel
theorem dX12_person_93 : decode cX12_person 93 = .ok (.iload_n 1, 1) := by decide +kernel
theorem dX12_person_94 : decode cX12_person 94 = .ok (.iadd, 1) := by decide +kernel
theorem dX12_person_95 : decode cX12_person 95 = .ok (.iaload, 1) := by decide +kernel
theorem dX12_person_96 : decode cX12_person 96 = .ok (.ireturn, 1) := by decide +kernel
theorem dX12_person_97 : decode cX12_person 97 = .ok (.aload_n 0, 1) := by decide +kernel
theorem dX12_person_98 : decode cX12_person 98 = .ok (.getfield 159, 3) := by decide +kernel
theorem dX12_person_101 : decode cX12_person 101 = .ok (.iload_n 1, 1) := by decide +kernel
theorem dX12_person_102 : decode cX12_person 102 = .ok (.iaload, 1) := by decide +kernel
theorem dX12_person_103 : decode cX12_person 103 = .ok (.ireturn, 1) := by decide +kernel
theorem dX12_person_104 : decode cX12_person 104 = .ok (.iconst (-1), 1) := by decide +kernel
theorem dX12_person_105 : decode cX12_person 105 = .ok (.ireturn, 1) := by decide +kernel
theorem dX12_today_0 : decode cX12_today 0 = .ok (.aload_n 0, 1) := by decide +kernel
theorem dX12_today_1 : decode cX12_today 1 = .ok (.iload_n 1, 1) := by decide +kernel
theorem dX12_today_2 : decode cX12_today 2 = .ok (.invokevirtual 469, 3) := by decide +kernel
theorem dX12_today_5 : decode cX12_today 5 = .ok (.ifCond .eq 22, 3) := by decide +kernel
theorem dX12_today_8 : decode cX12_today 8 = .ok (.iload_n 2, 1) := by decide +kernel
theorem dX12_today_9 : decode cX12_today 9 = .ok (.iconst 0, 1) := by decide +kernel
theorem dX12_today_10 : decode cX12_today 10 = .ok (.bipush 8, 2) := by decide +kernel
theorem dX12_today_12 : decode cX12_today 12 = .ok (.invokestatic 323, 3) := by decide +kernel
theorem dX12_today_15 : decode cX12_today 15 = .ok (.ifCond .eq 12, 3) := by decide +kernel
theorem dX12_today_18 : decode cX12_today 18 = .ok (.iload_n 3, 1) := by decide +kernel
theorem dX12_today_19 : decode cX12_today 19 = .ok (.iconst 0, 1) := by decide +kernel
theorem dX12_today_20 : decode cX12_today 20 = .ok (.iconst 2, 1) := by decide +kernel
theorem dX12_today_21 : decode cX12_today 21 = .ok (.invokestatic 323, 3) := by decide +kernel
theorem dX12_today_24 : decode cX12_today 24 = .ok (.ifCond .ne 5, 3) := by decide +kernel
theorem dX12_today_27 : decode cX12_today 27 = .ok (.iconst (-1), 1) := by decide +kernel
theorem dX12_today_28 : decode cX12_today 28 = .ok (.ireturn, 1) := by decide +kernel
theorem dX12_today_29 : decode cX12_today 29 = .ok (.aload_n 0, 1) := by decide +kernel
theorem dX12_today_30 : decode cX12_today 30 = .ok (.iconst 0, 1) := by decide +kernel
theorem dX12_today_31 : decode cX12_today 31 = .ok (.iconst 1, 1) := by decide +kernel
theorem dX12_today_32 : decode cX12_today 32 = .ok (.aload_n 0, 1) := by decide +kernel
theorem dX12_today_33 : decode cX12_today 33 = .ok (.invokevirtual 460, 3) := by decide +kernel
theorem dX12_today_36 : decode cX12_today 36 = .ok (.invokevirtual 463, 3) := by decide +kernel
theorem dX12_today_39 : decode cX12_today 39 = .ok (.pop, 1) := by decide +kernel
theorem dX12_today_40 : decode cX12_today 40 = .ok (.aload_n 0, 1) := by decide +kernel
theorem dX12_today_41 : decode cX12_today 41 = .ok (.getfield 195, 3) := by decide +kernel
theorem dX12_today_44 : decode cX12_today 44 = .ok (.bipush 6, 2) := by decide +kernel
theorem dX12_today_46 : decode cX12_today 46 = .ok (.iload_n 2, 1) := by decide +kernel
theorem dX12_today_47 : decode cX12_today 47 = .ok (.imul, 1) := by decide +kernel
theorem dX12_today_48 : decode cX12_today 48 = .ok (.iload_n 1, 1) := by decide +kernel
theorem dX12_today_49 : decode cX12_today 49 = .ok (.iadd, 1) := by decide +kernel
theorem dX12_today_50 : decode cX12_today 50 = .ok (.iaload, 1) := by decide +kernel
theorem dX12_today_51 : decode cX12_today 51 = .ok (.istore 4, 2) := by decide +kernel
theorem dX12_today_53 : decode cX12_today 53 = .ok (.iload_n 3, 1) := by decide +kernel
theorem dX12_today_54 : decode cX12_today 54 = .ok (.ifCond .ne 11, 3) := by decide +kernel
theorem dX12_today_57 : decode cX12_today 57 = .ok (.iload 4, 2) := by decide +kernel
theorem dX12_today_59 : decode cX12_today 59 = .ok (.bipush 8, 2) := by decide +kernel
theorem dX12_today_61 : decode cX12_today 61 = .ok (.irem, 1) := by decide +kernel
theorem dX12_today_62 : decode cX12_today 62 = .ok (.goto 27, 3) := by decide +kernel
theorem dX12_today_65 : decode cX12_today 65 = .ok (.iload_n 3, 1) := by decide +kernel
theorem dX12_today_66 : decode cX12_today 66 = .ok (.iconst 1, 1) := by decide +kernel
theorem dX12_today_67 : decode cX12_today 67 = .ok (.if_icmp .ne 11, 3) := by decide +kernel
theorem dX12_today_70 : decode cX12_today 70 = .ok (.iload 4, 2) := by decide +kernel
theorem dX12_today_72 : decode cX12_today 72 = .ok (.bipush 8, 2) := by decide +kernel
theorem dX12_today_74 : decode cX12_today 74 = .ok (.idiv, 1) := by decide +kernel
theorem dX12_today_75 : decode cX12_today 75 = .ok (.goto 14, 3) := by decide +kernel
theorem dX12_today_78 : decode cX12_today 78 = .ok (.aload_n 0, 1) := by decide +kernel
theorem dX12_today_79 : decode cX12_today 79 = .ok (.getfield 198, 3) := by decide +kernel
theorem dX12_today_82 : decode cX12_today 82 = .ok (.bipush 6, 2) := by decide +kernel
theorem dX12_today_84 : decode cX12_today 84 = .ok (.iload_n 2, 1) := by decide +kernel
theorem dX12_today_85 : decode cX12_today 85 = .ok (.imul, 1) := by decide +kernel
theorem dX12_today_86 : decode cX12_today 86 = .ok (.iload_n 1, 1) := by decide +kernel
theorem dX12_today_87 : decode cX12_today 87 = .ok (.iadd, 1) := by decide +kernel
theorem dX12_today_88 : decode cX12_today 88 = .ok (.iaload, 1) := by decide +kernel
theorem dX12_today_89 : decode cX12_today 89 = .ok (.ireturn, 1) := by decide +kernel
theorem dX12_dew_0 : decode cX12_dew 0 = .ok (.aload_n 0, 1) := by decide +kernel
theorem dX12_dew_1 : decode cX12_dew 1 = .ok (.iload_n 1, 1) := by decide +kernel
theorem dX12_dew_2 : decode cX12_dew 2 = .ok (.iload_n 2, 1) := by decide +kernel
theorem dX12_dew_3 : decode cX12_dew 3 = .ok (.invokevirtual 437, 3) := by decide +kernel
theorem dX12_dew_6 : decode cX12_dew 6 = .ok (.ifCond .eq 13, 3) := by decide +kernel
theorem dX12_dew_9 : decode cX12_dew 9 = .ok (.iload_n 3, 1) := by decide +kernel
theorem dX12_dew_10 : decode cX12_dew 10 = .ok (.iconst (-1), 1) := by decide +kernel
theorem dX12_dew_11 : decode cX12_dew 11 = .ok (.bipush 8, 2) := by decide +kernel
theorem dX12_dew_13 : decode cX12_dew 13 = .ok (.invokestatic 323, 3) := by decide +kernel
theorem dX12_dew_16 : decode cX12_dew 16 = .ok (.ifCond .ne 5, 3) := by decide +kernel
theorem dX12_dew_19 : decode cX12_dew 19 = .ok (.iconst (-1), 1) := by decide +kernel
theorem dX12_dew_20 : decode cX12_dew 20 = .ok (.ireturn, 1) := by decide +kernel
theorem dX12_dew_21 : decode cX12_dew 21 = .ok (.aload_n 0, 1) := by decide +kernel
theorem dX12_dew_22 : decode cX12_dew 22 = .ok (.iconst 0, 1) := by decide +kernel
theorem dX12_dew_23 : decode cX12_dew 23 = .ok (.iconst 1, 1) := by decide +kernel
theorem dX12_dew_24 : decode cX12_dew 24 = .ok (.aload_n 0, 1) := by decide +kernel
theorem dX12_dew_25 : decode cX12_dew 25 = .ok (.invokevirtual 460, 3) := by decide +kernel
theorem dX12_dew_28 : decode cX12_dew 28 = .ok (.invokevirtual 463, 3) := by decide +kernel
theorem dX12_dew_31 : decode cX12_dew 31 = .ok (.pop, 1) := by decide +kernel
theorem dX12_dew_32 : decode cX12_dew 32 = .ok (.aload_n 0, 1) := by decide +kernel
theorem dX12_dew_33 : decode cX12_dew 33 = .ok (.getfield 192, 3) := by decide +kernel
theorem dX12_dew_36 : decode cX12_dew 36 = .ok (.bipush 64, 2) := by decide +kernel
theorem dX12_dew_38 : decode cX12_dew 38 = .ok (.iload_n 3, 1) := by decide +kernel
theorem dX12_dew_39 : decode cX12_dew 39 = .ok (.iconst 1, 1) := by decide +kernel
theorem dX12_dew_40 : decode cX12_dew 40 = .ok (.iadd, 1) := by decide +kernel
theorem dX12_dew_41 : decode cX12_dew 41 = .ok (.imul, 1) := by decide +kernel
theorem dX12_dew_42 : decode cX12_dew 42 = .ok (.bipush 8, 2) := by decide +kernel
theorem dX12_dew_44 : decode cX12_dew 44 = .ok (.iload_n 2, 1) := by decide +kernel
theorem dX12_dew_45 : decode cX12_dew 45 = .ok (.imul, 1) := by decide +kernel
theorem dX12_dew_46 : decode cX12_dew 46 = .ok (.iadd, 1) := by decide +kernel
theorem dX12_dew_47 : decode cX12_dew 47 = .ok (.iload_n 1, 1) := by decide +kernel
theorem dX12_dew_48 : decode cX12_dew 48 = .ok (.iadd, 1) := by decide +kernel
theorem dX12_dew_49 : decode cX12_dew 49 = .ok (.iaload, 1) := by decide +kernel
theorem dX12_dew_50 : decode cX12_dew 50 = .ok (.ireturn, 1) := by decide +kernel
theorem dX12_up_0 : decode cX12_up 0 = .ok (.aload_n 0, 1) := by decide +kernel
theorem dX12_up_1 : decode cX12_up 1 = .ok (.iload_n 1, 1) := by decide +kernel
theorem dX12_up_2 : decode cX12_up 2 = .ok (.invokevirtual 469, 3) := by decide +kernel
theorem dX12_up_5 : decode cX12_up 5 = .ok (.ifCond .eq 12, 3) := by decide +kernel
theorem dX12_up_8 : decode cX12_up 8 = .ok (.iload_n 2, 1) := by decide +kernel
theorem dX12_up_9 : decode cX12_up 9 = .ok (.iconst 0, 1) := by decide +kernel
theorem dX12_up_10 : decode cX12_up 10 = .ok (.iconst 1, 1) := by decide +kernel
theorem dX12_up_11 : decode cX12_up 11 = .ok (.invokestatic 323, 3) := by decide +kernel
theorem dX12_up_14 : decode cX12_up 14 = .ok (.ifCond .ne 5, 3) := by decide +kernel
theorem dX12_up_17 : decode cX12_up 17 = .ok (.iconst (-1), 1) := by decide +kernel
theorem dX12_up_18 : decode cX12_up 18 = .ok (.ireturn, 1) := by decide +kernel
theorem dX12_up_19 : decode cX12_up 19 = .ok (.iconst (-1), 1) := by decide +kernel
theorem dX12_up_20 : decode cX12_up 20 = .ok (.istore_n 3, 1) := by decide +kernel
theorem dX12_up_21 : decode cX12_up 21 = .ok (.iconst (-1), 1) := by decide +kernel
theorem dX12_up_22 : decode cX12_up 22 = .ok (.istore 4, 2) := by decide +kernel
theorem dX12_up_24 : decode cX12_up 24 = .ok (.iconst 0, 1) := by decide +kernel
theorem dX12_up_25 : decode cX12_up 25 = .ok (.istore 5, 2) := by decide +kernel
theorem dX12_up_27 : decode cX12_up 27 = .ok (.iload 5, 2) := by decide +kernel
theorem dX12_up_29 : decode cX12_up 29 = .ok (.bipush 9, 2) := by decide +kernel
theorem dX12_up_31 : decode cX12_up 31 = .ok (.if_icmp .ge 62, 3) := by decide +kernel
theorem dX12_up_34 : decode cX12_up 34 = .ok (.aload_n 0, 1) := by decide +kernel
theorem dX12_up_35 : decode cX12_up 35 = .ok (.iconst 1, 1) := by decide +kernel
theorem dX12_up_36 : decode cX12_up 36 = .ok (.iconst 0, 1) := by decide +kernel
theorem dX12_up_37 : decode cX12_up 37 = .ok (.invokevirtual 414, 3) := by decide +kernel
theorem dX12_up_40 : decode cX12_up 40 = .ok (.aload_n 0, 1) := by decide +kernel
theorem dX12_up_41 : decode cX12_up 41 = .ok (.getfield 153, 3) := by decide +kernel
theorem dX12_up_44 : decode cX12_up 44 = .ok (.bipush 6, 2) := by decide +kernel
theorem dX12_up_46 : decode cX12_up 46 = .ok (.iload_n 1, 1) := by decide +kernel
theorem dX12_up_47 : decode cX12_up 47 = .ok (.iadd, 1) := by decide +kernel
theorem dX12_up_48 : decode cX12_up 48 = .ok (.iload 5, 2) := by decide +kernel
theorem dX12_up_50 : decode cX12_up 50 = .ok (.iastore, 1) := by decide +kernel
theorem dX12_up_51 : decode cX12_up 51 = .ok (.aload_n 0, 1) := by decide +kernel
theorem dX12_up_52 : decode cX12_up 52 = .ok (.iconst 1, 1) := by decide +kernel
theorem dX12_up_53 : decode cX12_up 53 = .ok (.iconst 1, 1) := by decide +kernel
theorem dX12_up_54 : decode cX12_up 54 = .ok (.aload_n 0, 1) := by decide +kernel
theorem dX12_up_55 : decode cX12_up 55 = .ok (.invokevirtual 460, 3) := by decide +kernel
theorem dX12_up_58 : decode cX12_up 58 = .ok (.invokevirtual 463, 3) := by decide +kernel
theorem dX12_up_61 : decode cX12_up 61 = .ok (.pop, 1) := by decide +kernel
theorem dX12_up_62 : decode cX12_up 62 = .ok (.aload_n 0, 1) := by decide +kernel
theorem dX12_up_63 : decode cX12_up 63 = .ok (.getfield 189, 3) := by decide +kernel
theorem dX12_up_66 : decode cX12_up 66 = .ok (.iload_n 1, 1) := by decide +kernel
theorem dX12_up_67 : decode cX12_up 67 = .ok (.iaload, 1) := by decide +kernel
theorem dX12_up_68 : decode cX12_up 68 = .ok (.iload 4, 2) := by decide +kernel
theorem dX12_up_70 : decode cX12_up 70 = .ok (.if_icmp .gt 6, 3) := by decide +kernel
theorem dX12_up_73 : decode cX12_up 73 = .ok (.goto 14, 3) := by decide +kernel
theorem dX12_up_76 : decode cX12_up 76 = .ok (.aload_n 0, 1) := by decide +kernel
theorem dX12_up_77 : decode cX12_up 77 = .ok (.getfield 189, 3) := by decide +kernel
theorem dX12_up_80 : decode cX12_up 80 = .ok (.iload_n 1, 1) := by decide +kernel
theorem dX12_up_81 : decode cX12_up 81 = .ok (.iaload, 1) := by decide +kernel
theorem dX12_up_82 : decode cX12_up 82 = .ok (.istore 4, 2) := by decide +kernel
theorem dX12_up_84 : decode cX12_up 84 = .ok (.iload 5, 2) := by decide +kernel
theorem dX12_up_86 : decode cX12_up 86 = .ok (.istore_n 3, 1) := by decide +kernel
theorem dX12_up_87 : decode cX12_up 87 = .ok (.iinc 5 1, 3) := by decide +kernel
theorem dX12_up_90 : decode cX12_up 90 = .ok (.goto (-63), 3) := by decide +kernel
theorem dX12_up_93 : decode cX12_up 93 = .ok (.iload_n 2, 1) := by decide +kernel
theorem dX12_up_94 : decode cX12_up 94 = .ok (.ifCond .ne 7, 3) := by decide +kernel
theorem dX12_up_97 : decode cX12_up 97 = .ok (.iload_n 3, 1) := by decide +kernel
theorem dX12_up_98 : decode cX12_up 98 = .ok (.goto 5, 3) := by decide +kernel
theorem dX12_up_101 : decode cX12_up 101 = .ok (.iload 4, 2) := by decide +kernel
theorem dX12_up_103 : decode cX12_up 103 = .ok (.ireturn, 1) := by decide +kernel
theorem dX12_home_0 : decode cX12_home 0 = .ok (.aload_n 0, 1) := by decide +kernel
theorem dX12_home_1 : decode cX12_home 1 = .ok (.iload_n 1, 1) := by decide +kernel
theorem dX12_home_2 : decode cX12_home 2 = .ok (.invokevirtual 469, 3) := by decide +kernel
theorem dX12_home_5 : decode cX12_home 5 = .ok (.ifCond .eq 12, 3) := by decide +kernel
theorem dX12_home_8 : decode cX12_home 8 = .ok (.iload_n 2, 1) := by decide +kernel
theorem dX12_home_9 : decode cX12_home 9 = .ok (.iconst 0, 1) := by decide +kernel
theorem dX12_home_10 : decode cX12_home 10 = .ok (.iconst 2, 1) := by decide +kernel
theorem dX12_home_11 : decode cX12_home 11 = .ok (.invokestatic 323, 3) := by decide +kernel
theorem dX12_home_14 : decode cX12_home 14 = .ok (.ifCond .ne 5, 3) := by decide +kernel
theorem dX12_home_17 : decode cX12_home 17 = .ok (.iconst (-1), 1) := by decide +kernel
theorem dX12_home_18 : decode cX12_home 18 = .ok (.ireturn, 1) := by decide +kernel
theorem dX12_home_19 : decode cX12_home 19 = .ok (.iconst (-1), 1) := by decide +kernel
theorem dX12_home_20 : decode cX12_home 20 = .ok (.istore_n 3, 1) := by decide +kernel
theorem dX12_home_21 : decode cX12_home 21 = .ok (.iconst (-1), 1) := by decide +kernel
theorem dX12_home_22 : decode cX12_home 22 = .ok (.istore 4, 2) := by decide +kernel
theorem dX12_home_24 : decode cX12_home 24 = .ok (.iconst 0, 1) := by decide +kernel
theorem dX12_home_25 : decode cX12_home 25 = .ok (.istore 5, 2) := by decide +kernel
theorem dX12_home_27 : decode cX12_home 27 = .ok (.iload 5, 2) := by decide +kernel
theorem dX12_home_29 : decode cX12_home 29 = .ok (.bipush 64, 2) := by decide +kernel
theorem dX12_home_31 : decode cX12_home 31 = .ok (.if_icmp .ge 82, 3) := by decide +kernel
theorem dX12_home_34 : decode cX12_home 34 = .ok (.aload_n 0, 1) := by decide +kernel
theorem dX12_home_35 : decode cX12_home 35 = .ok (.iload 5, 2) := by decide +kernel
theorem dX12_home_37 : decode cX12_home 37 = .ok (.bipush 8, 2) := by decide +kernel
theorem dX12_home_39 : decode cX12_home 39 = .ok (.irem, 1) := by decide +kernel
theorem dX12_home_40 : decode cX12_home 40 = .ok (.iload 5, 2) := by decide +kernel
theorem dX12_home_42 : decode cX12_home 42 = .ok (.bipush 8, 2) := by decide +kernel
theorem dX12_home_44 : decode cX12_home 44 = .ok (.idiv, 1) := by decide +kernel
theorem dX12_home_45 : decode cX12_home 45 = .ok (.invokevirtual 437, 3) := by decide +kernel
theorem dX12_home_48 : decode cX12_home 48 = .ok (.ifCond .ne 6, 3) := by decide +kernel
theorem dX12_home_51 : decode cX12_home 51 = .ok (.goto 56, 3) := by decide +kernel
theorem dX12_home_54 : decode cX12_home 54 = .ok (.aload_n 0, 1) := by decide +kernel
theorem dX12_home_55 : decode cX12_home 55 = .ok (.iconst 1, 1) := by decide +kernel
theorem dX12_home_56 : decode cX12_home 56 = .ok (.iconst 0, 1) := by decide +kernel
theorem dX12_home_57 : decode cX12_home 57 = .ok (.invokevirtual 414, 3) := by decide +kernel
theorem dX12_home_60 : decode cX12_home 60 = .ok (.aload_n 0, 1) := by decide +kernel
theorem dX12_home_61 : decode cX12_home 61 = .ok (.getfield 150, 3) := by decide +kernel
theorem dX12_home_64 : decode cX12_home 64 = .ok (.bipush 6, 2) := by decide +kernel
theorem dX12_home_66 : decode cX12_home 66 = .ok (.iload_n 1, 1) := by decide +kernel
theorem dX12_home_67 : decode cX12_home 67 = .ok (.iadd, 1) := by decide +kernel
theorem dX12_home_68 : decode cX12_home 68 = .ok (.iload 5, 2) := by decide +kernel
theorem dX12_home_70 : decode cX12_home 70 = .ok (.iastore, 1) := by decide +kernel
theorem dX12_home_71 : decode cX12_home 71 = .ok (.aload_n 0, 1) := by decide +kernel
theorem dX12_home_72 : decode cX12_home 72 = .ok (.iconst 1, 1) := by decide +kernel
theorem dX12_home_73 : decode cX12_home 73 = .ok (.iconst 1, 1) := by decide +kernel
theorem dX12_home_74 : decode cX12_home 74 = .ok (.aload_n 0, 1) := by decide +kernel
theorem dX12_home_75 : decode cX12_home 75 = .ok (.invokevirtual 460, 3) := by decide +kernel
theorem dX12_home_78 : decode cX12_home 78 = .ok (.invokevirtual 463, 3) := by decide +kernel
theorem dX12_home_81 : decode cX12_home 81 = .ok (.pop, 1) := by decide +kernel
theorem dX12_home_82 : decode cX12_home 82 = .ok (.aload_n 0, 1) := by decide +kernel
theorem dX12_home_83 : decode cX12_home 83 = .ok (.getfield 189, 3) := by decide +kernel
theorem dX12_home_86 : decode cX12_home 86 = .ok (.iload_n 1, 1) := by decide +kernel
theorem dX12_home_87 : decode cX12_home 87 = .ok (.iaload, 1) := by decide +kernel
theorem dX12_home_88 : decode cX12_home 88 = .ok (.iload 4, 2) := by decide +kernel
theorem dX12_home_90 : decode cX12_home 90 = .ok (.if_icmp .gt 6, 3) := by decide +kernel
theorem dX12_home_93 : decode cX12_home 93 = .ok (.goto 14, 3) := by decide +kernel
theorem dX12_home_96 : decode cX12_home 96 = .ok (.aload_n 0, 1) := by decide +kernel
theorem dX12_home_97 : decode cX12_home 97 = .ok (.getfield 189, 3) := by decide +kernel
theorem dX12_home_100 : decode cX12_home 100 = .ok (.iload_n 1, 1) := by decide +kernel
theorem dX12_home_101 : decode cX12_home 101 = .ok (.iaload, 1) := by decide +kernel
theorem dX12_home_102 : decode cX12_home 102 = .ok (.istore 4, 2) := by decide +kernel
theorem dX12_home_104 : decode cX12_home 104 = .ok (.iload 5, 2) := by decide +kernel
theorem dX12_home_106 : decode cX12_home 106 = .ok (.istore_n 3, 1) := by decide +kernel
theorem dX12_home_107 : decode cX12_home 107 = .ok (.iinc 5 1, 3) := by decide +kernel
theorem dX12_home_110 : decode cX12_home 110 = .ok (.goto (-83), 3) := by decide +kernel
theorem dX12_home_113 : decode cX12_home 113 = .ok (.iload_n 2, 1) := by decide +kernel
theorem dX12_home_114 : decode cX12_home 114 = .ok (.ifCond .ne 10, 3) := by decide +kernel
theorem dX12_home_117 : decode cX12_home 117 = .ok (.iload_n 3, 1) := by decide +kernel
theorem dX12_home_118 : decode cX12_home 118 = .ok (.bipush 8, 2) := by decide +kernel
theorem dX12_home_120 : decode cX12_home 120 = .ok (.irem, 1) := by decide +kernel
theorem dX12_home_121 : decode cX12_home 121 = .ok (.goto 17, 3) := by decide +kernel
theorem dX12_home_124 : decode cX12_home 124 = .ok (.iload_n 2, 1) := by decide +kernel
theorem dX12_home_125 : decode cX12_home 125 = .ok (.iconst 1, 1) := by decide +kernel
theorem dX12_home_126 : decode cX12_home 126 = .ok (.if_icmp .ne 10, 3) := by decide +kernel
theorem dX12_home_129 : decode cX12_home 129 = .ok (.iload_n 3, 1) := by decide +kernel
theorem dX12_home_130 : decode cX12_home 130 = .ok (.bipush 8, 2) := by decide +kernel
theorem dX12_home_132 : decode cX12_home 132 = .ok (.idiv, 1) := by decide +kernel
theorem dX12_home_133 : decode cX12_home 133 = .ok (.goto 5, 3) := by decide +kernel
theorem dX12_home_136 : decode cX12_home 136 = .ok (.iload 4, 2) := by decide +kernel
theorem dX12_home_138 : decode cX12_home 138 = .ok (.ireturn, 1) := by decide +kernel
theorem dX12_way_0 : decode cX12_way 0 = .ok (.aload_n 0, 1) := by decide +kernel
theorem dX12_way_1 : decode cX12_way 1 = .ok (.iload_n 1, 1) := by decide +kernel
theorem dX12_way_2 : decode cX12_way 2 = .ok (.invokevirtual 469, 3) := by decide +kernel
theorem dX12_way_5 : decode cX12_way 5 = .ok (.ifCond .eq 36, 3) := by decide +kernel
theorem dX12_way_8 : decode cX12_way 8 = .ok (.iload_n 2, 1) := by decide +kernel
theorem dX12_way_9 : decode cX12_way 9 = .ok (.iconst 1, 1) := by decide +kernel
theorem dX12_way_10 : decode cX12_way 10 = .ok (.iconst 5, 1) := by decide +kernel
theorem dX12_way_11 : decode cX12_way 11 = .ok (.invokestatic 323, 3) := by decide +kernel
theorem dX12_way_14 : decode cX12_way 14 = .ok (.ifCond .eq 27, 3) := by decide +kernel
theorem dX12_way_17 : decode cX12_way 17 = .ok (.aload_n 0, 1) := by decide +kernel
theorem dX12_way_18 : decode cX12_way 18 = .ok (.getfield 153, 3) := by decide +kernel
theorem dX12_way_21 : decode cX12_way 21 = .ok (.iload_n 1, 1) := by decide +kernel
theorem dX12_way_22 : decode cX12_way 22 = .ok (.iaload, 1) := by decide +kernel
theorem dX12_way_23 : decode cX12_way 23 = .ok (.iload_n 2, 1) := by decide +kernel
theorem dX12_way_24 : decode cX12_way 24 = .ok (.iadd, 1) := by decide +kernel
theorem dX12_way_25 : decode cX12_way 25 = .ok (.bipush 9, 2) := by decide +kernel
theorem dX12_way_27 : decode cX12_way 27 = .ok (.if_icmp .gt 14, 3) := by decide +kernel
theorem dX12_way_30 : decode cX12_way 30 = .ok (.iload_n 3, 1) := by decide +kernel
theorem dX12_way_31 : decode cX12_way 31 = .ok (.iconst (-1), 1) := by decide +kernel
theorem dX12_way_32 : decode cX12_way 32 = .ok (.iload_n 2, 1) := by decide +kernel
theorem dX12_way_33 : decode cX12_way 33 = .ok (.iconst 1, 1) := by decide +kernel
theorem dX12_way_34 : decode cX12_way 34 = .ok (.isub, 1) := by decide +kernel
theorem dX12_way_35 : decode cX12_way 35 = .ok (.invokestatic 323, 3) := by decide +kernel
theorem dX12_way_38 : decode cX12_way 38 = .ok (.ifCond .ne 5, 3) := by decide +kernel
theorem dX12_way_41 : decode cX12_way 41 = .ok (.iconst (-1), 1) := by decide +kernel
theorem dX12_way_42 : decode cX12_way 42 = .ok (.ireturn, 1) := by decide +kernel
theorem dX12_way_43 : decode cX12_way 43 = .ok (.iconst 1, 1) := by decide +kernel
theorem dX12_way_44 : decode cX12_way 44 = .ok (.istore 4, 2) := by decide +kernel
theorem dX12_way_46 : decode cX12_way 46 = .ok (.iconst 0, 1) := by decide +kernel
theorem dX12_way_47 : decode cX12_way 47 = .ok (.istore 5, 2) := by decide +kernel
theorem dX12_way_49 : decode cX12_way 49 = .ok (.iload 5, 2) := by decide +kernel
theorem dX12_way_51 : decode cX12_way 51 = .ok (.iload_n 2, 1) := by decide +kernel
theorem dX12_way_52 : decode cX12_way 52 = .ok (.if_icmp .ge 15, 3) := by decide +kernel
theorem dX12_way_55 : decode cX12_way 55 = .ok (.iload 4, 2) := by decide +kernel
theorem dX12_way_57 : decode cX12_way 57 = .ok (.iconst 5, 1) := by decide +kernel
theorem dX12_way_58 : decode cX12_way 58 = .ok (.imul, 1) := by decide +kernel
theorem dX12_way_59 : decode cX12_way 59 = .ok (.istore 4, 2) := by decide +kernel
theorem dX12_way_61 : decode cX12_way 61 = .ok (.iinc 5 1, 3) := by decide +kernel
theorem dX12_way_64 : decode cX12_way 64 = .ok (.goto (-15), 3) := by decide +kernel
theorem dX12_way_67 : decode cX12_way 67 = .ok (.iconst (-1), 1) := by decide +kernel
theorem dX12_way_68 : decode cX12_way 68 = .ok (.istore 5, 2) := by decide +kernel
theorem dX12_way_70 : decode cX12_way 70 = .ok (.aload_n 0, 1) := by decide +kernel
theorem dX12_way_71 : decode cX12_way 71 = .ok (.iload_n 1, 1) := by decide +kernel
theorem dX12_way_72 : decode cX12_way 72 = .ok (.putfield 201, 3) := by decide +kernel
theorem dX12_way_75 : decode cX12_way 75 = .ok (.aload_n 0, 1) := by decide +kernel
theorem dX12_way_76 : decode cX12_way 76 = .ok (.aload_n 0, 1) := by decide +kernel
theorem dX12_way_77 : decode cX12_way 77 = .ok (.getfield 153, 3) := by decide +kernel
theorem dX12_way_80 : decode cX12_way 80 = .ok (.iload_n 1, 1) := by decide +kernel
theorem dX12_way_81 : decode cX12_way 81 = .ok (.iaload, 1) := by decide +kernel
theorem dX12_way_82 : decode cX12_way 82 = .ok (.putfield 204, 3) := by decide +kernel
theorem dX12_way_85 : decode cX12_way 85 = .ok (.aload_n 0, 1) := by decide +kernel
theorem dX12_way_86 : decode cX12_way 86 = .ok (.iload_n 2, 1) := by decide +kernel
theorem dX12_way_87 : decode cX12_way 87 = .ok (.putfield 207, 3) := by decide +kernel
theorem dX12_way_90 : decode cX12_way 90 = .ok (.iconst 0, 1) := by decide +kernel
theorem dX12_way_91 : decode cX12_way 91 = .ok (.istore 6, 2) := by decide +kernel
theorem dX12_way_93 : decode cX12_way 93 = .ok (.iload 6, 2) := by decide +kernel
theorem dX12_way_95 : decode cX12_way 95 = .ok (.iload 4, 2) := by decide +kernel
theorem dX12_way_97 : decode cX12_way 97 = .ok (.if_icmp .ge 134, 3) := by decide +kernel
theorem dX12_way_100 : decode cX12_way 100 = .ok (.iload 6, 2) := by decide +kernel
theorem dX12_way_102 : decode cX12_way 102 = .ok (.istore 7, 2) := by decide +kernel
theorem dX12_way_104 : decode cX12_way 104 = .ok (.iload_n 2, 1) := by decide +kernel
theorem dX12_way_105 : decode cX12_way 105 = .ok (.iconst 1, 1) := by decide +kernel
theorem dX12_way_106 : decode cX12_way 106 = .ok (.isub, 1) := by decide +kernel
theorem dX12_way_107 : decode cX12_way 107 = .ok (.istore 8, 2) := by decide +kernel
theorem dX12_way_109 : decode cX12_way 109 = .ok (.iload 8, 2) := by decide +kernel
theorem dX12_way_111 : decode cX12_way 111 = .ok (.ifCond .lt 26, 3) := by decide +kernel
theorem dX12_way_114 : decode cX12_way 114 = .ok (.aload_n 0, 1) := by decide +kernel
theorem dX12_way_115 : decode cX12_way 115 = .ok (.getfield 210, 3) := by decide +kernel
theorem dX12_way_118 : decode cX12_way 118 = .ok (.iload 8, 2) := by decide +kernel
theorem dX12_way_120 : decode cX12_way 120 = .ok (.iload 7, 2) := by decide +kernel
theorem dX12_way_122 : decode cX12_way 122 = .ok (.iconst 5, 1) := by decide +kernel
theorem dX12_way_123 : decode cX12_way 123 = .ok (.irem, 1) := by decide +kernel
theorem dX12_way_124 : decode cX12_way 124 = .ok (.iastore, 1) := by decide +kernel
theorem dX12_way_125 : decode cX12_way 125 = .ok (.iload 7, 2) := by decide +kernel
theorem dX12_way_127 : decode cX12_way 127 = .ok (.iconst 5, 1) := by decide +kernel
theorem dX12_way_128 : decode cX12_way 128 = .ok (.idiv, 1) := by decide +kernel
theorem dX12_way_129 : decode cX12_way 129 = .ok (.istore 7, 2) := by decide +kernel
theorem dX12_way_131 : decode cX12_way 131 = .ok (.iinc 8 (-1), 3) := by decide +kernel
theorem dX12_way_134 : decode cX12_way 134 = .ok (.goto (-25), 3) := by decide +kernel
theorem dX12_way_137 : decode cX12_way 137 = .ok (.aload_n 0, 1) := by decide +kernel
theorem dX12_way_138 : decode cX12_way 138 = .ok (.iconst 0, 1) := by decide +kernel
theorem dX12_way_139 : decode cX12_way 139 = .ok (.iconst 1, 1) := by decide +kernel
theorem dX12_way_140 : decode cX12_way 140 = .ok (.aload_n 0, 1) := by decide +kernel
theorem dX12_way_141 : decode cX12_way 141 = .ok (.invokevirtual 460, 3) := by decide +kernel
theorem dX12_way_144 : decode cX12_way 144 = .ok (.invokevirtual 463, 3) := by decide +kernel
theorem dX12_way_147 : decode cX12_way 147 = .ok (.ifCond .eq 78, 3) := by decide +kernel
theorem dX12_way_150 : decode cX12_way 150 = .ok (.aload_n 0, 1) := by decide +kernel
theorem dX12_way_151 : decode cX12_way 151 = .ok (.getfield 198, 3) := by decide +kernel
theorem dX12_way_154 : decode cX12_way 154 = .ok (.bipush 6, 2) := by decide +kernel
theorem dX12_way_156 : decode cX12_way 156 = .ok (.aload_n 0, 1) := by decide +kernel
theorem dX12_way_157 : decode cX12_way 157 = .ok (.getfield 204, 3) := by decide +kernel
theorem dX12_way_160 : decode cX12_way 160 = .ok (.iload_n 2, 1) := by decide +kernel
theorem dX12_way_161 : decode cX12_way 161 = .ok (.iadd, 1) := by decide +kernel
theorem dX12_way_162 : decode cX12_way 162 = .ok (.iconst 1, 1) := by decide +kernel
theorem dX12_way_163 : decode cX12_way 163 = .ok (.isub, 1) := by decide +kernel
theorem dX12_way_164 : decode cX12_way 164 = .ok (.imul, 1) := by decide +kernel
theorem dX12_way_165 : decode cX12_way 165 = .ok (.iload_n 1, 1) := by decide +kernel
theorem dX12_way_166 : decode cX12_way 166 = .ok (.iadd, 1) := by decide +kernel
theorem dX12_way_167 : decode cX12_way 167 = .ok (.iaload, 1) := by decide +kernel
theorem dX12_way_168 : decode cX12_way 168 = .ok (.iload 5, 2) := by decide +kernel
theorem dX12_way_170 : decode cX12_way 170 = .ok (.if_icmp .gt 6, 3) := by decide +kernel
theorem dX12_way_173 : decode cX12_way 173 = .ok (.goto 52, 3) := by decide +kernel
theorem dX12_way_176 : decode cX12_way 176 = .ok (.aload_n 0, 1) := by decide +kernel
theorem dX12_way_177 : decode cX12_way 177 = .ok (.getfield 198, 3) := by decide +kernel
theorem dX12_way_180 : decode cX12_way 180 = .ok (.bipush 6, 2) := by decide +kernel
theorem dX12_way_182 : decode cX12_way 182 = .ok (.aload_n 0, 1) := by decide +kernel
theorem dX12_way_183 : decode cX12_way 183 = .ok (.getfield 204, 3) := by decide +kernel
theorem dX12_way_186 : decode cX12_way 186 = .ok (.iload_n 2, 1) := by decide +kernel
theorem dX12_way_187 : decode cX12_way 187 = .ok (.iadd, 1) := by decide +kernel
theorem dX12_way_188 : decode cX12_way 188 = .ok (.iconst 1, 1) := by decide +kernel
theorem dX12_way_189 : decode cX12_way 189 = .ok (.isub, 1) := by decide +kernel
theorem dX12_way_190 : decode cX12_way 190 = .ok (.imul, 1) := by decide +kernel
theorem dX12_way_191 : decode cX12_way 191 = .ok (.iload_n 1, 1) := by decide +kernel
theorem dX12_way_192 : decode cX12_way 192 = .ok (.iadd, 1) := by decide +kernel
theorem dX12_way_193 : decode cX12_way 193 = .ok (.iaload, 1) := by decide +kernel
theorem dX12_way_194 : decode cX12_way 194 = .ok (.istore 5, 2) := by decide +kernel
theorem dX12_way_196 : decode cX12_way 196 = .ok (.iconst 0, 1) := by decide +kernel
theorem dX12_way_197 : decode cX12_way 197 = .ok (.istore 8, 2) := by decide +kernel
theorem dX12_way_199 : decode cX12_way 199 = .ok (.iload 8, 2) := by decide +kernel
theorem dX12_way_201 : decode cX12_way 201 = .ok (.iload_n 2, 1) := by decide +kernel
theorem dX12_way_202 : decode cX12_way 202 = .ok (.if_icmp .ge 23, 3) := by decide +kernel
theorem dX12_way_205 : decode cX12_way 205 = .ok (.aload_n 0, 1) := by decide +kernel
theorem dX12_way_206 : decode cX12_way 206 = .ok (.getfield 216, 3) := by decide +kernel
theorem dX12_way_209 : decode cX12_way 209 = .ok (.iload 8, 2) := by decide +kernel
theorem dX12_way_211 : decode cX12_way 211 = .ok (.aload_n 0, 1) := by decide +kernel
theorem dX12_way_212 : decode cX12_way 212 = .ok (.getfield 210, 3) := by decide +kernel
theorem dX12_way_215 : decode cX12_way 215 = .ok (.iload 8, 2) := by decide +kernel
theorem dX12_way_217 : decode cX12_way 217 = .ok (.iaload, 1) := by decide +kernel
theorem dX12_way_218 : decode cX12_way 218 = .ok (.iastore, 1) := by decide +kernel
theorem dX12_way_219 : decode cX12_way 219 = .ok (.iinc 8 1, 3) := by decide +kernel
theorem dX12_way_222 : decode cX12_way 222 = .ok (.goto (-23), 3) := by decide +kernel
theorem dX12_way_225 : decode cX12_way 225 = .ok (.iinc 6 1, 3) := by decide +kernel
theorem dX12_way_228 : decode cX12_way 228 = .ok (.goto (-135), 3) := by decide +kernel
theorem dX12_way_231 : decode cX12_way 231 = .ok (.aload_n 0, 1) := by decide +kernel
theorem dX12_way_232 : decode cX12_way 232 = .ok (.iconst (-1), 1) := by decide +kernel
theorem dX12_way_233 : decode cX12_way 233 = .ok (.putfield 201, 3) := by decide +kernel
theorem dX12_way_236 : decode cX12_way 236 = .ok (.iload_n 3, 1) := by decide +kernel
theorem dX12_way_237 : decode cX12_way 237 = .ok (.iconst (-1), 1) := by decide +kernel
theorem dX12_way_238 : decode cX12_way 238 = .ok (.if_icmp .ne 8, 3) := by decide +kernel
theorem dX12_way_241 : decode cX12_way 241 = .ok (.iload 5, 2) := by decide +kernel
theorem dX12_way_243 : decode cX12_way 243 = .ok (.goto 9, 3) := by decide +kernel
theorem dX12_way_246 : decode cX12_way 246 = .ok (.aload_n 0, 1) := by decide +kernel
theorem dX12_way_247 : decode cX12_way 247 = .ok (.getfield 216, 3) := by decide +kernel
theorem dX12_way_250 : decode cX12_way 250 = .ok (.iload_n 3, 1) := by decide +kernel
theorem dX12_way_251 : decode cX12_way 251 = .ok (.iaload, 1) := by decide +kernel
theorem dX12_way_252 : decode cX12_way 252 = .ok (.ireturn, 1) := by decide +kernel
theorem dX12_changed_0 : decode cX12_changed 0 = .ok (.iload_n 1, 1) := by decide +kernel
theorem dX12_changed_1 : decode cX12_changed 1 = .ok (.iconst 0, 1) := by decide +kernel
theorem dX12_changed_2 : decode cX12_changed 2 = .ok (.iconst 2, 1) := by decide +kernel
theorem dX12_changed_3 : decode cX12_changed 3 = .ok (.invokestatic 323, 3) := by decide +kernel
theorem dX12_changed_6 : decode cX12_changed 6 = .ok (.ifCond .ne 5, 3) := by decide +kernel
theorem dX12_changed_9 : decode cX12_changed 9 = .ok (.iconst (-1), 1) := by decide +kernel
theorem dX12_changed_10 : decode cX12_changed 10 = .ok (.ireturn, 1) := by decide +kernel
theorem dX12_changed_11 : decode cX12_changed 11 = .ok (.aload_n 0, 1) := by decide +kernel
theorem dX12_changed_12 : decode cX12_changed 12 = .ok (.iconst 0, 1) := by decide +kernel
theorem dX12_changed_13 : decode cX12_changed 13 = .ok (.iconst 1, 1) := by decide +kernel
theorem dX12_changed_14 : decode cX12_changed 14 = .ok (.aload_n 0, 1) := by decide +kernel
theorem dX12_changed_15 : decode cX12_changed 15 = .ok (.invokevirtual 460, 3) := by decide +kernel
theorem dX12_changed_18 : decode cX12_changed 18 = .ok (.invokevirtual 463, 3) := by decide +kernel
theorem dX12_changed_21 : decode cX12_changed 21 = .ok (.pop, 1) := by decide +kernel
theorem dX12_changed_22 : decode cX12_changed 22 = .ok (.aload_n 0, 1) := by decide +kernel
theorem dX12_changed_23 : decode cX12_changed 23 = .ok (.invokevirtual 466, 3) := by decide +kernel
theorem dX12_changed_26 : decode cX12_changed 26 = .ok (.istore_n 2, 1) := by decide +kernel
theorem dX12_changed_27 : decode cX12_changed 27 = .ok (.iconst (-1), 1) := by decide +kernel
theorem dX12_changed_28 : decode cX12_changed 28 = .ok (.istore_n 3, 1) := by decide +kernel
theorem dX12_changed_29 : decode cX12_changed 29 = .ok (.iconst (-1), 1) := by decide +kernel
theorem dX12_changed_30 : decode cX12_changed 30 = .ok (.istore 4, 2) := by decide +kernel
theorem dX12_changed_32 : decode cX12_changed 32 = .ok (.iconst 0, 1) := by decide +kernel
theorem dX12_changed_33 : decode cX12_changed 33 = .ok (.istore 5, 2) := by decide +kernel
theorem dX12_changed_35 : decode cX12_changed 35 = .ok (.iload 5, 2) := by decide +kernel
theorem dX12_changed_37 : decode cX12_changed 37 = .ok (.aload_n 0, 1) := by decide +kernel
theorem dX12_changed_38 : decode cX12_changed 38 = .ok (.getfield 63, 3) := by decide +kernel
theorem dX12_changed_41 : decode cX12_changed 41 = .ok (.aload_n 0, 1) := by decide +kernel
theorem dX12_changed_42 : decode cX12_changed 42 = .ok (.getfield 51, 3) := by decide +kernel
theorem dX12_changed_45 : decode cX12_changed 45 = .ok (.iaload, 1) := by decide +kernel
theorem dX12_changed_46 : decode cX12_changed 46 = .ok (.if_icmp .ge 109, 3) := by decide +kernel
theorem dX12_changed_49 : decode cX12_changed 49 = .ok (.iload 5, 2) := by decide +kernel
theorem dX12_changed_51 : decode cX12_changed 51 = .ok (.iconst 1, 1) := by decide +kernel
theorem dX12_changed_52 : decode cX12_changed 52 = .ok (.iadd, 1) := by decide +kernel
theorem dX12_changed_53 : decode cX12_changed 53 = .ok (.istore 6, 2) := by decide +kernel
theorem dX12_changed_55 : decode cX12_changed 55 = .ok (.iload 6, 2) := by decide +kernel
theorem dX12_changed_57 : decode cX12_changed 57 = .ok (.aload_n 0, 1) := by decide +kernel
theorem dX12_changed_58 : decode cX12_changed 58 = .ok (.getfield 63, 3) := by decide +kernel
theorem dX12_changed_61 : decode cX12_changed 61 = .ok (.aload_n 0, 1) := by decide +kernel
theorem dX12_changed_62 : decode cX12_changed 62 = .ok (.getfield 51, 3) := by decide +kernel
theorem dX12_changed_65 : decode cX12_changed 65 = .ok (.iaload, 1) := by decide +kernel
theorem dX12_changed_66 : decode cX12_changed 66 = .ok (.if_icmp .ge 83, 3) := by decide +kernel
theorem dX12_changed_69 : decode cX12_changed 69 = .ok (.aload_n 0, 1) := by decide +kernel
theorem dX12_changed_70 : decode cX12_changed 70 = .ok (.iconst 1, 1) := by decide +kernel
theorem dX12_changed_71 : decode cX12_changed 71 = .ok (.iconst 0, 1) := by decide +kernel
theorem dX12_changed_72 : decode cX12_changed 72 = .ok (.invokevirtual 414, 3) := by decide +kernel
theorem dX12_changed_75 : decode cX12_changed 75 = .ok (.aload_n 0, 1) := by decide +kernel
theorem dX12_changed_76 : decode cX12_changed 76 = .ok (.getfield 156, 3) := by decide +kernel
theorem dX12_changed_79 : decode cX12_changed 79 = .ok (.bipush 6, 2) := by decide +kernel
theorem dX12_changed_81 : decode cX12_changed 81 = .ok (.iload 5, 2) := by decide +kernel
theorem dX12_changed_83 : decode cX12_changed 83 = .ok (.iadd, 1) := by decide +kernel
theorem dX12_changed_84 : decode cX12_changed 84 = .ok (.aload_n 0, 1) := by decide +kernel
theorem dX12_changed_85 : decode cX12_changed 85 = .ok (.getfield 156, 3) := by decide +kernel
theorem dX12_changed_88 : decode cX12_changed 88 = .ok (.iload 6, 2) := by decide +kernel
theorem dX12_changed_90 : decode cX12_changed 90 = .ok (.iaload, 1) := by decide +kernel
theorem dX12_changed_91 : decode cX12_changed 91 = .ok (.iastore, 1) := by decide +kernel
theorem dX12_changed_92 : decode cX12_changed 92 = .ok (.aload_n 0, 1) := by decide +kernel
theorem dX12_changed_93 : decode cX12_changed 93 = .ok (.getfield 156, 3) := by decide +kernel
theorem dX12_changed_96 : decode cX12_changed 96 = .ok (.bipush 6, 2) := by decide +kernel
theorem dX12_changed_98 : decode cX12_changed 98 = .ok (.iload 6, 2) := by decide +kernel
theorem dX12_changed_100 : decode cX12_changed 100 = .ok (.iadd, 1) := by decide +kernel
theorem dX12_changed_101 : decode cX12_changed 101 = .ok (.aload_n 0, 1) := by decide +kernel
theorem dX12_changed_102 : decode cX12_changed 102 = .ok (.getfield 156, 3) := by decide +kernel
theorem dX12_changed_105 : decode cX12_changed 105 = .ok (.iload 5, 2) := by decide +kernel
theorem dX12_changed_107 : decode cX12_changed 107 = .ok (.iaload, 1) := by decide +kernel
theorem dX12_changed_108 : decode cX12_changed 108 = .ok (.iastore, 1) := by decide +kernel
theorem dX12_changed_109 : decode cX12_changed 109 = .ok (.aload_n 0, 1) := by decide +kernel
theorem dX12_changed_110 : decode cX12_changed 110 = .ok (.iconst 1, 1) := by decide +kernel
theorem dX12_changed_111 : decode cX12_changed 111 = .ok (.iconst 1, 1) := by decide +kernel
theorem dX12_changed_112 : decode cX12_changed 112 = .ok (.aload_n 0, 1) := by decide +kernel
theorem dX12_changed_113 : decode cX12_changed 113 = .ok (.invokevirtual 460, 3) := by decide +kernel
theorem dX12_changed_116 : decode cX12_changed 116 = .ok (.invokevirtual 463, 3) := by decide +kernel
theorem dX12_changed_119 : decode cX12_changed 119 = .ok (.pop, 1) := by decide +kernel
theorem dX12_changed_120 : decode cX12_changed 120 = .ok (.aload_n 0, 1) := by decide +kernel
theorem dX12_changed_121 : decode cX12_changed 121 = .ok (.invokevirtual 466, 3) := by decide +kernel
theorem dX12_changed_124 : decode cX12_changed 124 = .ok (.iload_n 2, 1) := by decide +kernel
theorem dX12_changed_125 : decode cX12_changed 125 = .ok (.if_icmp .gt 6, 3) := by decide +kernel
theorem dX12_changed_128 : decode cX12_changed 128 = .ok (.goto 15, 3) := by decide +kernel
theorem dX12_changed_131 : decode cX12_changed 131 = .ok (.aload_n 0, 1) := by decide +kernel
theorem dX12_changed_132 : decode cX12_changed 132 = .ok (.invokevirtual 466, 3) := by decide +kernel
theorem dX12_changed_135 : decode cX12_changed 135 = .ok (.istore_n 2, 1) := by decide +kernel
theorem dX12_changed_136 : decode cX12_changed 136 = .ok (.iload 5, 2) := by decide +kernel
theorem dX12_changed_138 : decode cX12_changed 138 = .ok (.istore_n 3, 1) := by decide +kernel
theorem dX12_changed_139 : decode cX12_changed 139 = .ok (.iload 6, 2) := by decide +kernel
theorem dX12_changed_141 : decode cX12_changed 141 = .ok (.istore 4, 2) := by decide +kernel
theorem dX12_changed_143 : decode cX12_changed 143 = .ok (.iinc 6 1, 3) := by decide +kernel
theorem dX12_changed_146 : decode cX12_changed 146 = .ok (.goto (-91), 3) := by decide +kernel
theorem dX12_changed_149 : decode cX12_changed 149 = .ok (.iinc 5 1, 3) := by decide +kernel
theorem dX12_changed_152 : decode cX12_changed 152 = .ok (.goto (-117), 3) := by decide +kernel
theorem dX12_changed_155 : decode cX12_changed 155 = .ok (.iload_n 3, 1) := by decide +kernel
theorem dX12_changed_156 : decode cX12_changed 156 = .ok (.iconst (-1), 1) := by decide +kernel
theorem dX12_changed_157 : decode cX12_changed 157 = .ok (.if_icmp .ne 7, 3) := by decide +kernel
theorem dX12_changed_160 : decode cX12_changed 160 = .ok (.iconst (-1), 1) := by decide +kernel
theorem dX12_changed_161 : decode cX12_changed 161 = .ok (.goto 22, 3) := by decide +kernel
theorem dX12_changed_164 : decode cX12_changed 164 = .ok (.iload_n 1, 1) := by decide +kernel
theorem dX12_changed_165 : decode cX12_changed 165 = .ok (.ifCond .ne 7, 3) := by decide +kernel
theorem dX12_changed_168 : decode cX12_changed 168 = .ok (.iload_n 3, 1) := by decide +kernel
theorem dX12_changed_169 : decode cX12_changed 169 = .ok (.goto 14, 3) := by decide +kernel
theorem dX12_changed_172 : decode cX12_changed 172 = .ok (.iload_n 1, 1) := by decide +kernel
theorem dX12_changed_173 : decode cX12_changed 173 = .ok (.iconst 1, 1) := by decide +kernel
theorem dX12_changed_174 : decode cX12_changed 174 = .ok (.if_icmp .ne 8, 3) := by decide +kernel
theorem dX12_changed_177 : decode cX12_changed 177 = .ok (.iload 4, 2) := by decide +kernel
theorem dX12_changed_179 : decode cX12_changed 179 = .ok (.goto 4, 3) := by decide +kernel
theorem dX12_changed_182 : decode cX12_changed 182 = .ok (.iload_n 2, 1) := by decide +kernel
theorem dX12_changed_183 : decode cX12_changed 183 = .ok (.ireturn, 1) := by decide +kernel
theorem dX12_isAhead_0 : decode cX12_isAhead 0 = .ok (.iload_n 1, 1) := by decide +kernel
theorem dX12_isAhead_1 : decode cX12_isAhead 1 = .ok (.iload_n 2, 1) := by decide +kernel
theorem dX12_isAhead_2 : decode cX12_isAhead 2 = .ok (.iload_n 3, 1) := by decide +kernel
theorem dX12_isAhead_3 : decode cX12_isAhead 3 = .ok (.invokestatic 323, 3) := by decide +kernel
theorem dX12_isAhead_6 : decode cX12_isAhead 6 = .ok (.ifCond .eq 21, 3) := by decide +kernel
theorem dX12_isAhead_9 : decode cX12_isAhead 9 = .ok (.aload_n 0, 1) := by decide +kernel
theorem dX12_isAhead_10 : decode cX12_isAhead 10 = .ok (.getfield 144, 3) := by decide +kernel
theorem dX12_isAhead_13 : decode cX12_isAhead 13 = .ok (.iconst 0, 1) := by decide +kernel
theorem dX12_isAhead_14 : decode cX12_isAhead 14 = .ok (.iaload, 1) := by decide +kernel
theorem dX12_isAhead_15 : decode cX12_isAhead 15 = .ok (.sipush 999, 3) := by decide +kernel
theorem dX12_isAhead_18 : decode cX12_isAhead 18 = .ok (.iload_n 1, 1) := by decide +kernel
theorem dX12_isAhead_19 : decode cX12_isAhead 19 = .ok (.isub, 1) := by decide +kernel
theorem dX12_isAhead_20 : decode cX12_isAhead 20 = .ok (.if_icmp .gt 7, 3) := by decide +kernel
theorem dX12_isAhead_23 : decode cX12_isAhead 23 = .ok (.iconst 1, 1) := by decide +kernel
theorem dX12_isAhead_24 : decode cX12_isAhead 24 = .ok (.goto 4, 3) := by decide +kernel
theorem dX12_isAhead_27 : decode cX12_isAhead 27 = .ok (.iconst 0, 1) := by decide +kernel
theorem dX12_isAhead_28 : decode cX12_isAhead 28 = .ok (.ireturn, 1) := by decide +kernel
theorem dX12_tries_0 : decode cX12_tries 0 = .ok (.aload_n 0, 1) := by decide +kernel
theorem dX12_tries_1 : decode cX12_tries 1 = .ok (.iconst 1, 1) := by decide +kernel
theorem dX12_tries_2 : decode cX12_tries 2 = .ok (.iconst 0, 1) := by decide +kernel
theorem dX12_tries_3 : decode cX12_tries 3 = .ok (.invokevirtual 414, 3) := by decide +kernel
theorem dX12_tries_6 : decode cX12_tries 6 = .ok (.iconst 0, 1) := by decide +kernel
theorem dX12_tries_7 : decode cX12_tries 7 = .ok (.istore_n 2, 1) := by decide +kernel
theorem dX12_tries_8 : decode cX12_tries 8 = .ok (.iload_n 2, 1) := by decide +kernel
theorem dX12_tries_9 : decode cX12_tries 9 = .ok (.iload_n 1, 1) := by decide +kernel
theorem dX12_tries_10 : decode cX12_tries 10 = .ok (.if_icmp .ge 16, 3) := by decide +kernel
theorem dX12_tries_13 : decode cX12_tries 13 = .ok (.aload_n 0, 1) := by decide +kernel
theorem dX12_tries_14 : decode cX12_tries 14 = .ok (.iconst 1, 1) := by decide +kernel
theorem dX12_tries_15 : decode cX12_tries 15 = .ok (.iconst 1, 1) := by decide +kernel
theorem dX12_tries_16 : decode cX12_tries 16 = .ok (.invokevirtual 474, 3) := by decide +kernel
theorem dX12_tries_19 : decode cX12_tries 19 = .ok (.pop, 1) := by decide +kernel
theorem dX12_tries_20 : decode cX12_tries 20 = .ok (.iinc 2 1, 3) := by decide +kernel
theorem dX12_tries_23 : decode cX12_tries 23 = .ok (.goto (-15), 3) := by decide +kernel
theorem dX12_tries_26 : decode cX12_tries 26 = .ok (.return_, 1) := by decide +kernel
theorem dX12_later_0 : decode cX12_later 0 = .ok (.aload_n 0, 1) := by decide +kernel
theorem dX12_later_1 : decode cX12_later 1 = .ok (.iload_n 1, 1) := by decide +kernel
theorem dX12_later_2 : decode cX12_later 2 = .ok (.iload_n 2, 1) := by decide +kernel
theorem dX12_later_3 : decode cX12_later 3 = .ok (.invokevirtual 437, 3) := by decide +kernel
theorem dX12_later_6 : decode cX12_later 6 = .ok (.ifCond .eq 14, 3) := by decide +kernel
theorem dX12_later_9 : decode cX12_later 9 = .ok (.aload_n 0, 1) := by decide +kernel
theorem dX12_later_10 : decode cX12_later 10 = .ok (.iload_n 3, 1) := by decide +kernel
theorem dX12_later_11 : decode cX12_later 11 = .ok (.iconst 0, 1) := by decide +kernel
theorem dX12_later_12 : decode cX12_later 12 = .ok (.bipush 40, 2) := by decide +kernel
theorem dX12_later_14 : decode cX12_later 14 = .ok (.invokevirtual 477, 3) := by decide +kernel
theorem dX12_later_17 : decode cX12_later 17 = .ok (.ifCond .ne 5, 3) := by decide +kernel
theorem dX12_later_20 : decode cX12_later 20 = .ok (.iconst (-1), 1) := by decide +kernel
theorem dX12_later_21 : decode cX12_later 21 = .ok (.ireturn, 1) := by decide +kernel
theorem dX12_later_22 : decode cX12_later 22 = .ok (.aload_n 0, 1) := by decide +kernel
theorem dX12_later_23 : decode cX12_later 23 = .ok (.iload_n 3, 1) := by decide +kernel
theorem dX12_later_24 : decode cX12_later 24 = .ok (.invokevirtual 480, 3) := by decide +kernel
theorem dX12_later_27 : decode cX12_later 27 = .ok (.aload_n 0, 1) := by decide +kernel
theorem dX12_later_28 : decode cX12_later 28 = .ok (.getfield 147, 3) := by decide +kernel
theorem dX12_later_31 : decode cX12_later 31 = .ok (.bipush 64, 2) := by decide +kernel
theorem dX12_later_33 : decode cX12_later 33 = .ok (.bipush 8, 2) := by decide +kernel
theorem dX12_later_35 : decode cX12_later 35 = .ok (.iload_n 2, 1) := by decide +kernel
theorem dX12_later_36 : decode cX12_later 36 = .ok (.imul, 1) := by decide +kernel
theorem dX12_later_37 : decode cX12_later 37 = .ok (.iadd, 1) := by decide +kernel
theorem dX12_later_38 : decode cX12_later 38 = .ok (.iload_n 1, 1) := by decide +kernel
theorem dX12_later_39 : decode cX12_later 39 = .ok (.iadd, 1) := by decide +kernel
theorem dX12_later_40 : decode cX12_later 40 = .ok (.iaload, 1) := by decide +kernel
theorem dX12_later_41 : decode cX12_later 41 = .ok (.ireturn, 1) := by decide +kernel
theorem dX12_purse_0 : decode cX12_purse 0 = .ok (.aload_n 0, 1) := by decide +kernel
theorem dX12_purse_1 : decode cX12_purse 1 = .ok (.iload_n 1, 1) := by decide +kernel
theorem dX12_purse_2 : decode cX12_purse 2 = .ok (.invokevirtual 469, 3) := by decide +kernel
theorem dX12_purse_5 : decode cX12_purse 5 = .ok (.ifCond .eq 14, 3) := by decide +kernel
theorem dX12_purse_8 : decode cX12_purse 8 = .ok (.aload_n 0, 1) := by decide +kernel
theorem dX12_purse_9 : decode cX12_purse 9 = .ok (.iload_n 2, 1) := by decide +kernel
theorem dX12_purse_10 : decode cX12_purse 10 = .ok (.iconst 0, 1) := by decide +kernel
theorem dX12_purse_11 : decode cX12_purse 11 = .ok (.bipush 40, 2) := by decide +kernel
theorem dX12_purse_13 : decode cX12_purse 13 = .ok (.invokevirtual 477, 3) := by decide +kernel
theorem dX12_purse_16 : decode cX12_purse 16 = .ok (.ifCond .ne 5, 3) := by decide +kernel
theorem dX12_purse_19 : decode cX12_purse 19 = .ok (.iconst (-1), 1) := by decide +kernel
theorem dX12_purse_20 : decode cX12_purse 20 = .ok (.ireturn, 1) := by decide +kernel
theorem dX12_purse_21 : decode cX12_purse 21 = .ok (.aload_n 0, 1) := by decide +kernel
theorem dX12_purse_22 : decode cX12_purse 22 = .ok (.iload_n 2, 1) := by decide +kernel
theorem dX12_purse_23 : decode cX12_purse 23 = .ok (.invokevirtual 480, 3) := by decide +kernel
theorem dX12_purse_26 : decode cX12_purse 26 = .ok (.aload_n 0, 1) := by decide +kernel
theorem dX12_purse_27 : decode cX12_purse 27 = .ok (.getfield 159, 3) := by decide +kernel
theorem dX12_purse_30 : decode cX12_purse 30 = .ok (.bipush 6, 2) := by decide +kernel
theorem dX12_purse_32 : decode cX12_purse 32 = .ok (.iload_n 1, 1) := by decide +kernel
theorem dX12_purse_33 : decode cX12_purse 33 = .ok (.iadd, 1) := by decide +kernel
theorem dX12_purse_34 : decode cX12_purse 34 = .ok (.iaload, 1) := by decide +kernel
theorem dX12_purse_35 : decode cX12_purse 35 = .ok (.ireturn, 1) := by decide +kernel
theorem dX12_dry_0 : decode cX12_dry 0 = .ok (.aload_n 0, 1) := by decide +kernel
theorem dX12_dry_1 : decode cX12_dry 1 = .ok (.iload_n 1, 1) := by decide +kernel
theorem dX12_dry_2 : decode cX12_dry 2 = .ok (.invokevirtual 469, 3) := by decide +kernel
theorem dX12_dry_5 : decode cX12_dry 5 = .ok (.ifCond .ne 5, 3) := by decide +kernel
theorem dX12_dry_8 : decode cX12_dry 8 = .ok (.iconst (-1), 1) := by decide +kernel
theorem dX12_dry_9 : decode cX12_dry 9 = .ok (.ireturn, 1) := by decide +kernel
theorem dX12_dry_10 : decode cX12_dry 10 = .ok (.aload_n 0, 1) := by decide +kernel
theorem dX12_dry_11 : decode cX12_dry 11 = .ok (.iconst 1, 1) := by decide +kernel
theorem dX12_dry_12 : decode cX12_dry 12 = .ok (.iconst 0, 1) := by decide +kernel
theorem dX12_dry_13 : decode cX12_dry 13 = .ok (.invokevirtual 414, 3) := by decide +kernel
theorem dX12_dry_16 : decode cX12_dry 16 = .ok (.iconst 0, 1) := by decide +kernel
theorem dX12_dry_17 : decode cX12_dry 17 = .ok (.istore_n 2, 1) := by decide +kernel
theorem dX12_dry_18 : decode cX12_dry 18 = .ok (.aload_n 0, 1) := by decide +kernel
theorem dX12_dry_19 : decode cX12_dry 19 = .ok (.iload_n 2, 1) := by decide +kernel
theorem dX12_dry_20 : decode cX12_dry 20 = .ok (.iconst 0, 1) := by decide +kernel
theorem dX12_dry_21 : decode cX12_dry 21 = .ok (.bipush 39, 2) := by decide +kernel
theorem dX12_dry_23 : decode cX12_dry 23 = .ok (.invokevirtual 477, 3) := by decide +kernel
theorem dX12_dry_26 : decode cX12_dry 26 = .ok (.ifCond .eq 30, 3) := by decide +kernel
theorem dX12_dry_29 : decode cX12_dry 29 = .ok (.aload_n 0, 1) := by decide +kernel
theorem dX12_dry_30 : decode cX12_dry 30 = .ok (.iconst 1, 1) := by decide +kernel
theorem dX12_dry_31 : decode cX12_dry 31 = .ok (.iconst 1, 1) := by decide +kernel
theorem dX12_dry_32 : decode cX12_dry 32 = .ok (.invokevirtual 474, 3) := by decide +kernel
theorem dX12_dry_35 : decode cX12_dry 35 = .ok (.pop, 1) := by decide +kernel
theorem dX12_dry_36 : decode cX12_dry 36 = .ok (.aload_n 0, 1) := by decide +kernel
theorem dX12_dry_37 : decode cX12_dry 37 = .ok (.getfield 213, 3) := by decide +kernel
theorem dX12_dry_40 : decode cX12_dry 40 = .ok (.iload_n 1, 1) := by decide +kernel
theorem dX12_dry_41 : decode cX12_dry 41 = .ok (.ishr, 1) := by decide +kernel
theorem dX12_dry_42 : decode cX12_dry 42 = .ok (.iconst 1, 1) := by decide +kernel
theorem dX12_dry_43 : decode cX12_dry 43 = .ok (.iand, 1) := by decide +kernel
theorem dX12_dry_44 : decode cX12_dry 44 = .ok (.iconst 1, 1) := by decide +kernel
theorem dX12_dry_45 : decode cX12_dry 45 = .ok (.if_icmp .ne 5, 3) := by decide +kernel
theorem dX12_dry_48 : decode cX12_dry 48 = .ok (.iload_n 2, 1) := by decide +kernel
theorem dX12_dry_49 : decode cX12_dry 49 = .ok (.ireturn, 1) := by decide +kernel
theorem dX12_dry_50 : decode cX12_dry 50 = .ok (.iinc 2 1, 3) := by decide +kernel
theorem dX12_dry_53 : decode cX12_dry 53 = .ok (.goto (-35), 3) := by decide +kernel
theorem dX12_dry_56 : decode cX12_dry 56 = .ok (.iconst (-1), 1) := by decide +kernel
theorem dX12_dry_57 : decode cX12_dry 57 = .ok (.ireturn, 1) := by decide +kernel
theorem dX12_see_0 : decode cX12_see 0 = .ok (.aload_n 0, 1) := by decide +kernel
theorem dX12_see_1 : decode cX12_see 1 = .ok (.getfield 13, 3) := by decide +kernel
theorem dX12_see_4 : decode cX12_see 4 = .ok (.istore_n 1, 1) := by decide +kernel
theorem dX12_see_5 : decode cX12_see 5 = .ok (.aload_n 0, 1) := by decide +kernel
theorem dX12_see_6 : decode cX12_see 6 = .ok (.iconst 0, 1) := by decide +kernel
theorem dX12_see_7 : decode cX12_see 7 = .ok (.putfield 13, 3) := by decide +kernel
theorem dX12_see_10 : decode cX12_see 10 = .ok (.iload_n 1, 1) := by decide +kernel
theorem dX12_see_11 : decode cX12_see 11 = .ok (.ifCond .le 19, 3) := by decide +kernel
theorem dX12_see_14 : decode cX12_see 14 = .ok (.iload_n 1, 1) := by decide +kernel
theorem dX12_see_15 : decode cX12_see 15 = .ok (.iconst 4, 1) := by decide +kernel
theorem dX12_see_16 : decode cX12_see 16 = .ok (.irem, 1) := by decide +kernel
theorem dX12_see_17 : decode cX12_see 17 = .ok (.ifCond .ne 13, 3) := by decide +kernel
theorem dX12_see_20 : decode cX12_see 20 = .ok (.iload_n 1, 1) := by decide +kernel
theorem dX12_see_21 : decode cX12_see 21 = .ok (.bipush 64, 2) := by decide +kernel
theorem dX12_see_23 : decode cX12_see 23 = .ok (.if_icmp .gt 7, 3) := by decide +kernel
theorem dX12_see_26 : decode cX12_see 26 = .ok (.iconst 1, 1) := by decide +kernel
theorem dX12_see_27 : decode cX12_see 27 = .ok (.goto 4, 3) := by decide +kernel
theorem dX12_see_30 : decode cX12_see 30 = .ok (.iconst 0, 1) := by decide +kernel
theorem dX12_see_31 : decode cX12_see 31 = .ok (.istore_n 2, 1) := by decide +kernel
theorem dX12_see_32 : decode cX12_see 32 = .ok (.iconst 0, 1) := by decide +kernel
theorem dX12_see_33 : decode cX12_see 33 = .ok (.istore_n 3, 1) := by decide +kernel
theorem dX12_see_34 : decode cX12_see 34 = .ok (.iload_n 3, 1) := by decide +kernel
theorem dX12_see_35 : decode cX12_see 35 = .ok (.iload_n 1, 1) := by decide +kernel
theorem dX12_see_36 : decode cX12_see 36 = .ok (.if_icmp .ge 66, 3) := by decide +kernel
theorem dX12_see_39 : decode cX12_see 39 = .ok (.iload_n 2, 1) := by decide +kernel
theorem dX12_see_40 : decode cX12_see 40 = .ok (.ifCond .eq 62, 3) := by decide +kernel
theorem dX12_see_43 : decode cX12_see 43 = .ok (.aload_n 0, 1) := by decide +kernel
theorem dX12_see_44 : decode cX12_see 44 = .ok (.getfield 7, 3) := by decide +kernel
theorem dX12_see_47 : decode cX12_see 47 = .ok (.iload_n 3, 1) := by decide +kernel
theorem dX12_see_48 : decode cX12_see 48 = .ok (.iaload, 1) := by decide +kernel
theorem dX12_see_49 : decode cX12_see 49 = .ok (.bipush 9, 2) := by decide +kernel
theorem dX12_see_51 : decode cX12_see 51 = .ok (.if_icmp .ge 43, 3) := by decide +kernel
theorem dX12_see_54 : decode cX12_see 54 = .ok (.aload_n 0, 1) := by decide +kernel
theorem dX12_see_55 : decode cX12_see 55 = .ok (.aload_n 0, 1) := by decide +kernel
theorem dX12_see_56 : decode cX12_see 56 = .ok (.getfield 7, 3) := by decide +kernel
theorem dX12_see_59 : decode cX12_see 59 = .ok (.iload_n 3, 1) := by decide +kernel
theorem dX12_see_60 : decode cX12_see 60 = .ok (.iconst 1, 1) := by decide +kernel
theorem dX12_see_61 : decode cX12_see 61 = .ok (.iadd, 1) := by decide +kernel
theorem dX12_see_62 : decode cX12_see 62 = .ok (.iaload, 1) := by decide +kernel
theorem dX12_see_63 : decode cX12_see 63 = .ok (.aload_n 0, 1) := by decide +kernel
theorem dX12_see_64 : decode cX12_see 64 = .ok (.getfield 7, 3) := by decide +kernel
theorem dX12_see_67 : decode cX12_see 67 = .ok (.iload_n 3, 1) := by decide +kernel
theorem dX12_see_68 : decode cX12_see 68 = .ok (.iconst 2, 1) := by decide +kernel
theorem dX12_see_69 : decode cX12_see 69 = .ok (.iadd, 1) := by decide +kernel
theorem dX12_see_70 : decode cX12_see 70 = .ok (.iaload, 1) := by decide +kernel
theorem dX12_see_71 : decode cX12_see 71 = .ok (.invokevirtual 437, 3) := by decide +kernel
theorem dX12_see_74 : decode cX12_see 74 = .ok (.ifCond .eq 20, 3) := by decide +kernel
theorem dX12_see_77 : decode cX12_see 77 = .ok (.aload_n 0, 1) := by decide +kernel
theorem dX12_see_78 : decode cX12_see 78 = .ok (.getfield 7, 3) := by decide +kernel
theorem dX12_see_81 : decode cX12_see 81 = .ok (.iload_n 3, 1) := by decide +kernel
theorem dX12_see_82 : decode cX12_see 82 = .ok (.iconst 3, 1) := by decide +kernel
theorem dX12_see_83 : decode cX12_see 83 = .ok (.iadd, 1) := by decide +kernel
theorem dX12_see_84 : decode cX12_see 84 = .ok (.iaload, 1) := by decide +kernel
theorem dX12_see_85 : decode cX12_see 85 = .ok (.bipush 99, 2) := by decide +kernel
theorem dX12_see_87 : decode cX12_see 87 = .ok (.if_icmp .gt 7, 3) := by decide +kernel
theorem dX12_see_90 : decode cX12_see 90 = .ok (.iconst 1, 1) := by decide +kernel
theorem dX12_see_91 : decode cX12_see 91 = .ok (.goto 4, 3) := by decide +kernel
theorem dX12_see_94 : decode cX12_see 94 = .ok (.iconst 0, 1) := by decide +kernel
theorem dX12_see_95 : decode cX12_see 95 = .ok (.istore_n 2, 1) := by decide +kernel
theorem dX12_see_96 : decode cX12_see 96 = .ok (.iinc 3 4, 3) := by decide +kernel
theorem dX12_see_99 : decode cX12_see 99 = .ok (.goto (-65), 3) := by decide +kernel
theorem dX12_see_102 : decode cX12_see 102 = .ok (.iload_n 2, 1) := by decide +kernel
theorem dX12_see_103 : decode cX12_see 103 = .ok (.ifCond .ne 9, 3) := by decide +kernel
theorem dX12_see_106 : decode cX12_see 106 = .ok (.aload_n 0, 1) := by decide +kernel
theorem dX12_see_107 : decode cX12_see 107 = .ok (.iconst 5, 1) := by decide +kernel
theorem dX12_see_108 : decode cX12_see 108 = .ok (.invokevirtual 247, 3) := by decide +kernel
theorem dX12_see_111 : decode cX12_see 111 = .ok (.ireturn, 1) := by decide +kernel
theorem dX12_see_112 : decode cX12_see 112 = .ok (.aload_n 0, 1) := by decide +kernel
theorem dX12_see_113 : decode cX12_see 113 = .ok (.iload_n 1, 1) := by decide +kernel
theorem dX12_see_114 : decode cX12_see 114 = .ok (.iconst 4, 1) := by decide +kernel
theorem dX12_see_115 : decode cX12_see 115 = .ok (.idiv, 1) := by decide +kernel
theorem dX12_see_116 : decode cX12_see 116 = .ok (.putfield 219, 3) := by decide +kernel
theorem dX12_see_119 : decode cX12_see 119 = .ok (.iconst 0, 1) := by decide +kernel
theorem dX12_see_120 : decode cX12_see 120 = .ok (.istore_n 3, 1) := by decide +kernel
theorem dX12_see_121 : decode cX12_see 121 = .ok (.iload_n 3, 1) := by decide +kernel
theorem dX12_see_122 : decode cX12_see 122 = .ok (.aload_n 0, 1) := by decide +kernel
theorem dX12_see_123 : decode cX12_see 123 = .ok (.getfield 219, 3) := by decide +kernel
theorem dX12_see_126 : decode cX12_see 126 = .ok (.if_icmp .ge 69, 3) := by decide +kernel
theorem dX12_see_129 : decode cX12_see 129 = .ok (.aload_n 0, 1) := by decide +kernel
theorem dX12_see_130 : decode cX12_see 130 = .ok (.getfield 222, 3) := by decide +kernel
theorem dX12_see_133 : decode cX12_see 133 = .ok (.iload_n 3, 1) := by decide +kernel
theorem dX12_see_134 : decode cX12_see 134 = .ok (.aload_n 0, 1) := by decide +kernel
theorem dX12_see_135 : decode cX12_see 135 = .ok (.getfield 7, 3) := by decide +kernel
theorem dX12_see_138 : decode cX12_see 138 = .ok (.iconst 4, 1) := by decide +kernel
theorem dX12_see_139 : decode cX12_see 139 = .ok (.iload_n 3, 1) := by decide +kernel
theorem dX12_see_140 : decode cX12_see 140 = .ok (.imul, 1) := by decide +kernel
theorem dX12_see_141 : decode cX12_see 141 = .ok (.iaload, 1) := by decide +kernel
theorem dX12_see_142 : decode cX12_see 142 = .ok (.iastore, 1) := by decide +kernel
theorem dX12_see_143 : decode cX12_see 143 = .ok (.aload_n 0, 1) := by decide +kernel
theorem dX12_see_144 : decode cX12_see 144 = .ok (.getfield 225, 3) := by decide +kernel
theorem dX12_see_147 : decode cX12_see 147 = .ok (.iload_n 3, 1) := by decide +kernel
theorem dX12_see_148 : decode cX12_see 148 = .ok (.bipush 8, 2) := by decide +kernel
theorem dX12_see_150 : decode cX12_see 150 = .ok (.aload_n 0, 1) := by decide +kernel
theorem dX12_see_151 : decode cX12_see 151 = .ok (.getfield 7, 3) := by decide +kernel
theorem dX12_see_154 : decode cX12_see 154 = .ok (.iconst 4, 1) := by decide +kernel
theorem dX12_see_155 : decode cX12_see 155 = .ok (.iload_n 3, 1) := by decide +kernel
theorem dX12_see_156 : decode cX12_see 156 = .ok (.imul, 1) := by decide +kernel
theorem dX12_see_157 : decode cX12_see 157 = .ok (.iconst 2, 1) := by decide +kernel
theorem dX12_see_158 : decode cX12_see 158 = .ok (.iadd, 1) := by decide +kernel
theorem dX12_see_159 : decode cX12_see 159 = .ok (.iaload, 1) := by decide +kernel
theorem dX12_see_160 : decode cX12_see 160 = .ok (.imul, 1) := by decide +kernel
theorem dX12_see_161 : decode cX12_see 161 = .ok (.aload_n 0, 1) := by decide +kernel
theorem dX12_see_162 : decode cX12_see 162 = .ok (.getfield 7, 3) := by decide +kernel
theorem dX12_see_165 : decode cX12_see 165 = .ok (.iconst 4, 1) := by decide +kernel
theorem dX12_see_166 : decode cX12_see 166 = .ok (.iload_n 3, 1) := by decide +kernel
theorem dX12_see_167 : decode cX12_see 167 = .ok (.imul, 1) := by decide +kernel
theorem dX12_see_168 : decode cX12_see 168 = .ok (.iconst 1, 1) := by decide +kernel
theorem dX12_see_169 : decode cX12_see 169 = .ok (.iadd, 1) := by decide +kernel
theorem dX12_see_170 : decode cX12_see 170 = .ok (.iaload, 1) := by decide +kernel
theorem dX12_see_171 : decode cX12_see 171 = .ok (.iadd, 1) := by decide +kernel
theorem dX12_see_172 : decode cX12_see 172 = .ok (.iastore, 1) := by decide +kernel
theorem dX12_see_173 : decode cX12_see 173 = .ok (.aload_n 0, 1) := by decide +kernel
theorem dX12_see_174 : decode cX12_see 174 = .ok (.getfield 228, 3) := by decide +kernel
theorem dX12_see_177 : decode cX12_see 177 = .ok (.iload_n 3, 1) := by decide +kernel
theorem dX12_see_178 : decode cX12_see 178 = .ok (.aload_n 0, 1) := by decide +kernel
theorem dX12_see_179 : decode cX12_see 179 = .ok (.getfield 7, 3) := by decide +kernel
theorem dX12_see_182 : decode cX12_see 182 = .ok (.iconst 4, 1) := by decide +kernel
theorem dX12_see_183 : decode cX12_see 183 = .ok (.iload_n 3, 1) := by decide +kernel
theorem dX12_see_184 : decode cX12_see 184 = .ok (.imul, 1) := by decide +kernel
theorem dX12_see_185 : decode cX12_see 185 = .ok (.iconst 3, 1) := by decide +kernel
theorem dX12_see_186 : decode cX12_see 186 = .ok (.iadd, 1) := by decide +kernel
theorem dX12_see_187 : decode cX12_see 187 = .ok (.iaload, 1) := by decide +kernel
theorem dX12_see_188 : decode cX12_see 188 = .ok (.iastore, 1) := by decide +kernel
theorem dX12_see_189 : decode cX12_see 189 = .ok (.iinc 3 1, 3) := by decide +kernel
theorem dX12_see_192 : decode cX12_see 192 = .ok (.goto (-71), 3) := by decide +kernel
theorem dX12_see_195 : decode cX12_see 195 = .ok (.aload_n 0, 1) := by decide +kernel
theorem dX12_see_196 : decode cX12_see 196 = .ok (.getfield 219, 3) := by decide +kernel
theorem dX12_see_199 : decode cX12_see 199 = .ok (.ireturn, 1) := by decide +kernel
theorem dX12_leaves_0 : decode cX12_leaves 0 = .ok (.iconst 0, 1) := by decide +kernel
theorem dX12_leaves_1 : decode cX12_leaves 1 = .ok (.istore_n 1, 1) := by decide +kernel
theorem dX12_leaves_2 : decode cX12_leaves 2 = .ok (.iconst 0, 1) := by decide +kernel
theorem dX12_leaves_3 : decode cX12_leaves 3 = .ok (.istore_n 2, 1) := by decide +kernel
theorem dX12_leaves_4 : decode cX12_leaves 4 = .ok (.iload_n 2, 1) := by decide +kernel
theorem dX12_leaves_5 : decode cX12_leaves 5 = .ok (.aload_n 0, 1) := by decide +kernel
theorem dX12_leaves_6 : decode cX12_leaves 6 = .ok (.invokevirtual 460, 3) := by decide +kernel
theorem dX12_leaves_9 : decode cX12_leaves 9 = .ok (.if_icmp .gt 146, 3) := by decide +kernel
theorem dX12_leaves_12 : decode cX12_leaves 12 = .ok (.aload_n 0, 1) := by decide +kernel
theorem dX12_leaves_13 : decode cX12_leaves 13 = .ok (.iconst 0, 1) := by decide +kernel
theorem dX12_leaves_14 : decode cX12_leaves 14 = .ok (.iconst 1, 1) := by decide +kernel
theorem dX12_leaves_15 : decode cX12_leaves 15 = .ok (.iload_n 2, 1) := by decide +kernel
theorem dX12_leaves_16 : decode cX12_leaves 16 = .ok (.invokevirtual 463, 3) := by decide +kernel
theorem dX12_leaves_19 : decode cX12_leaves 19 = .ok (.pop, 1) := by decide +kernel
theorem dX12_leaves_20 : decode cX12_leaves 20 = .ok (.iconst 1, 1) := by decide +kernel
theorem dX12_leaves_21 : decode cX12_leaves 21 = .ok (.istore_n 3, 1) := by decide +kernel
theorem dX12_leaves_22 : decode cX12_leaves 22 = .ok (.iconst 0, 1) := by decide +kernel
theorem dX12_leaves_23 : decode cX12_leaves 23 = .ok (.istore 4, 2) := by decide +kernel
theorem dX12_leaves_25 : decode cX12_leaves 25 = .ok (.iload 4, 2) := by decide +kernel
theorem dX12_leaves_27 : decode cX12_leaves 27 = .ok (.aload_n 0, 1) := by decide +kernel
theorem dX12_leaves_28 : decode cX12_leaves 28 = .ok (.getfield 219, 3) := by decide +kernel
theorem dX12_leaves_31 : decode cX12_leaves 31 = .ok (.if_icmp .ge 54, 3) := by decide +kernel
theorem dX12_leaves_34 : decode cX12_leaves 34 = .ok (.iload_n 3, 1) := by decide +kernel
theorem dX12_leaves_35 : decode cX12_leaves 35 = .ok (.ifCond .eq 42, 3) := by decide +kernel
theorem dX12_leaves_38 : decode cX12_leaves 38 = .ok (.aload_n 0, 1) := by decide +kernel
theorem dX12_leaves_39 : decode cX12_leaves 39 = .ok (.getfield 192, 3) := by decide +kernel
theorem dX12_leaves_42 : decode cX12_leaves 42 = .ok (.bipush 64, 2) := by decide +kernel
theorem dX12_leaves_44 : decode cX12_leaves 44 = .ok (.aload_n 0, 1) := by decide +kernel
theorem dX12_leaves_45 : decode cX12_leaves 45 = .ok (.getfield 222, 3) := by decide +kernel
theorem dX12_leaves_48 : decode cX12_leaves 48 = .ok (.iload 4, 2) := by decide +kernel
theorem dX12_leaves_50 : decode cX12_leaves 50 = .ok (.iaload, 1) := by decide +kernel
theorem dX12_leaves_51 : decode cX12_leaves 51 = .ok (.iconst 1, 1) := by decide +kernel
theorem dX12_leaves_52 : decode cX12_leaves 52 = .ok (.iadd, 1) := by decide +kernel
theorem dX12_leaves_53 : decode cX12_leaves 53 = .ok (.imul, 1) := by decide +kernel
theorem dX12_leaves_54 : decode cX12_leaves 54 = .ok (.aload_n 0, 1) := by decide +kernel
theorem dX12_leaves_55 : decode cX12_leaves 55 = .ok (.getfield 225, 3) := by decide +kernel
theorem dX12_leaves_58 : decode cX12_leaves 58 = .ok (.iload 4, 2) := by decide +kernel
theorem dX12_leaves_60 : decode cX12_leaves 60 = .ok (.iaload, 1) := by decide +kernel
theorem dX12_leaves_61 : decode cX12_leaves 61 = .ok (.iadd, 1) := by decide +kernel
theorem dX12_leaves_62 : decode cX12_leaves 62 = .ok (.iaload, 1) := by decide +kernel
theorem dX12_leaves_63 : decode cX12_leaves 63 = .ok (.aload_n 0, 1) := by decide +kernel
theorem dX12_leaves_64 : decode cX12_leaves 64 = .ok (.getfield 228, 3) := by decide +kernel
theorem dX12_leaves_67 : decode cX12_leaves 67 = .ok (.iload 4, 2) := by decide +kernel
theorem dX12_leaves_69 : decode cX12_leaves 69 = .ok (.iaload, 1) := by decide +kernel
theorem dX12_leaves_70 : decode cX12_leaves 70 = .ok (.if_icmp .ne 7, 3) := by decide +kernel
theorem dX12_leaves_73 : decode cX12_leaves 73 = .ok (.iconst 1, 1) := by decide +kernel
theorem dX12_leaves_74 : decode cX12_leaves 74 = .ok (.goto 4, 3) := by decide +kernel
theorem dX12_leaves_77 : decode cX12_leaves 77 = .ok (.iconst 0, 1) := by decide +kernel
theorem dX12_leaves_78 : decode cX12_leaves 78 = .ok (.istore_n 3, 1) := by decide +kernel
theorem dX12_leaves_79 : decode cX12_leaves 79 = .ok (.iinc 4 1, 3) := by decide +kernel
theorem dX12_leaves_82 : decode cX12_leaves 82 = .ok (.goto (-57), 3) := by decide +kernel
theorem dX12_leaves_85 : decode cX12_leaves 85 = .ok (.aload_n 0, 1) := by decide +kernel
theorem dX12_leaves_86 : decode cX12_leaves 86 = .ok (.getfield 235, 3) := by decide +kernel
theorem dX12_leaves_89 : decode cX12_leaves 89 = .ok (.iload_n 2, 1) := by decide +kernel
theorem dX12_leaves_90 : decode cX12_leaves 90 = .ok (.iload_n 3, 1) := by decide +kernel
theorem dX12_leaves_91 : decode cX12_leaves 91 = .ok (.ifCond .eq 7, 3) := by decide +kernel
theorem dX12_leaves_94 : decode cX12_leaves 94 = .ok (.iconst 1, 1) := by decide +kernel
theorem dX12_leaves_95 : decode cX12_leaves 95 = .ok (.goto 4, 3) := by decide +kernel
theorem dX12_leaves_98 : decode cX12_leaves 98 = .ok (.iconst 0, 1) := by decide +kernel
theorem dX12_leaves_99 : decode cX12_leaves 99 = .ok (.iastore, 1) := by decide +kernel
theorem dX12_leaves_100 : decode cX12_leaves 100 = .ok (.iload_n 1, 1) := by decide +kernel
theorem dX12_leaves_101 : decode cX12_leaves 101 = .ok (.aload_n 0, 1) := by decide +kernel
theorem dX12_leaves_102 : decode cX12_leaves 102 = .ok (.getfield 235, 3) := by decide +kernel
theorem dX12_leaves_105 : decode cX12_leaves 105 = .ok (.iload_n 2, 1) := by decide +kernel
theorem dX12_leaves_106 : decode cX12_leaves 106 = .ok (.iaload, 1) := by decide +kernel
theorem dX12_leaves_107 : decode cX12_leaves 107 = .ok (.iadd, 1) := by decide +kernel
theorem dX12_leaves_108 : decode cX12_leaves 108 = .ok (.istore_n 1, 1) := by decide +kernel
theorem dX12_leaves_109 : decode cX12_leaves 109 = .ok (.iconst 0, 1) := by decide +kernel
theorem dX12_leaves_110 : decode cX12_leaves 110 = .ok (.istore 4, 2) := by decide +kernel
theorem dX12_leaves_112 : decode cX12_leaves 112 = .ok (.iload 4, 2) := by decide +kernel
theorem dX12_leaves_114 : decode cX12_leaves 114 = .ok (.sipush 576, 3) := by decide +kernel
theorem dX12_leaves_117 : decode cX12_leaves 117 = .ok (.if_icmp .ge 32, 3) := by decide +kernel
theorem dX12_leaves_120 : decode cX12_leaves 120 = .ok (.aload_n 0, 1) := by decide +kernel
theorem dX12_leaves_121 : decode cX12_leaves 121 = .ok (.getfield 232, 3) := by decide +kernel
theorem dX12_leaves_124 : decode cX12_leaves 124 = .ok (.sipush 576, 3) := by decide +kernel
theorem dX12_leaves_127 : decode cX12_leaves 127 = .ok (.iload_n 2, 1) := by decide +kernel
theorem dX12_leaves_128 : decode cX12_leaves 128 = .ok (.imul, 1) := by decide +kernel
theorem dX12_leaves_129 : decode cX12_leaves 129 = .ok (.iload 4, 2) := by decide +kernel
theorem dX12_leaves_131 : decode cX12_leaves 131 = .ok (.iadd, 1) := by decide +kernel
theorem dX12_leaves_132 : decode cX12_leaves 132 = .ok (.aload_n 0, 1) := by decide +kernel
theorem dX12_leaves_133 : decode cX12_leaves 133 = .ok (.getfield 192, 3) := by decide +kernel
theorem dX12_leaves_136 : decode cX12_leaves 136 = .ok (.bipush 64, 2) := by decide +kernel
theorem dX12_leaves_138 : decode cX12_leaves 138 = .ok (.iload 4, 2) := by decide +kernel
theorem dX12_leaves_140 : decode cX12_leaves 140 = .ok (.iadd, 1) := by decide +kernel
theorem dX12_leaves_141 : decode cX12_leaves 141 = .ok (.iaload, 1) := by decide +kernel
theorem dX12_leaves_142 : decode cX12_leaves 142 = .ok (.iastore, 1) := by decide +kernel
theorem dX12_leaves_143 : decode cX12_leaves 143 = .ok (.iinc 4 1, 3) := by decide +kernel
theorem dX12_leaves_146 : decode cX12_leaves 146 = .ok (.goto (-34), 3) := by decide +kernel
theorem dX12_leaves_149 : decode cX12_leaves 149 = .ok (.iinc 2 1, 3) := by decide +kernel
theorem dX12_leaves_152 : decode cX12_leaves 152 = .ok (.goto (-148), 3) := by decide +kernel
theorem dX12_leaves_155 : decode cX12_leaves 155 = .ok (.iload_n 1, 1) := by decide +kernel
theorem dX12_leaves_156 : decode cX12_leaves 156 = .ok (.ireturn, 1) := by decide +kernel
theorem dX12_walkers_0 : decode cX12_walkers 0 = .ok (.iload_n 1, 1) := by decide +kernel
theorem dX12_walkers_1 : decode cX12_walkers 1 = .ok (.iconst 0, 1) := by decide +kernel
theorem dX12_walkers_2 : decode cX12_walkers 2 = .ok (.iconst 1, 1) := by decide +kernel
theorem dX12_walkers_3 : decode cX12_walkers 3 = .ok (.invokestatic 323, 3) := by decide +kernel
theorem dX12_walkers_6 : decode cX12_walkers 6 = .ok (.ifCond .ne 5, 3) := by decide +kernel
theorem dX12_walkers_9 : decode cX12_walkers 9 = .ok (.iconst (-1), 1) := by decide +kernel
theorem dX12_walkers_10 : decode cX12_walkers 10 = .ok (.ireturn, 1) := by decide +kernel
theorem dX12_walkers_11 : decode cX12_walkers 11 = .ok (.aload_n 0, 1) := by decide +kernel
theorem dX12_walkers_12 : decode cX12_walkers 12 = .ok (.invokevirtual 483, 3) := by decide +kernel
theorem dX12_walkers_15 : decode cX12_walkers 15 = .ok (.istore_n 2, 1) := by decide +kernel
theorem dX12_walkers_16 : decode cX12_walkers 16 = .ok (.iload_n 1, 1) := by decide +kernel
theorem dX12_walkers_17 : decode cX12_walkers 17 = .ok (.ifCond .eq 7, 3) := by decide +kernel
theorem dX12_walkers_20 : decode cX12_walkers 20 = .ok (.iload_n 2, 1) := by decide +kernel
theorem dX12_walkers_21 : decode cX12_walkers 21 = .ok (.ifCond .ne 13, 3) := by decide +kernel
theorem dX12_walkers_24 : decode cX12_walkers 24 = .ok (.iload_n 1, 1) := by decide +kernel
theorem dX12_walkers_25 : decode cX12_walkers 25 = .ok (.ifCond .ne 7, 3) := by decide +kernel
theorem dX12_walkers_28 : decode cX12_walkers 28 = .ok (.iload_n 2, 1) := by decide +kernel
theorem dX12_walkers_29 : decode cX12_walkers 29 = .ok (.goto 4, 3) := by decide +kernel
theorem dX12_walkers_32 : decode cX12_walkers 32 = .ok (.iconst (-1), 1) := by decide +kernel
theorem dX12_walkers_33 : decode cX12_walkers 33 = .ok (.ireturn, 1) := by decide +kernel
theorem dX12_walkers_34 : decode cX12_walkers 34 = .ok (.iconst 0, 1) := by decide +kernel
theorem dX12_walkers_35 : decode cX12_walkers 35 = .ok (.istore_n 3, 1) := by decide +kernel
theorem dX12_walkers_36 : decode cX12_walkers 36 = .ok (.aload_n 0, 1) := by decide +kernel
theorem dX12_walkers_37 : decode cX12_walkers 37 = .ok (.getfield 235, 3) := by decide +kernel
theorem dX12_walkers_40 : decode cX12_walkers 40 = .ok (.iload_n 3, 1) := by decide +kernel
theorem dX12_walkers_41 : decode cX12_walkers 41 = .ok (.iaload, 1) := by decide +kernel
theorem dX12_walkers_42 : decode cX12_walkers 42 = .ok (.ifCond .ne 9, 3) := by decide +kernel
theorem dX12_walkers_45 : decode cX12_walkers 45 = .ok (.iinc 3 1, 3) := by decide +kernel
theorem dX12_walkers_48 : decode cX12_walkers 48 = .ok (.goto (-12), 3) := by decide +kernel
theorem dX12_walkers_51 : decode cX12_walkers 51 = .ok (.iload_n 3, 1) := by decide +kernel
theorem dX12_walkers_52 : decode cX12_walkers 52 = .ok (.ireturn, 1) := by decide +kernel
theorem dX12_mostBy_0 : decode cX12_mostBy 0 = .ok (.iconst 0, 1) := by decide +kernel
theorem dX12_mostBy_1 : decode cX12_mostBy 1 = .ok (.istore_n 2, 1) := by decide +kernel
theorem dX12_mostBy_2 : decode cX12_mostBy 2 = .ok (.iload_n 2, 1) := by decide +kernel
theorem dX12_mostBy_3 : decode cX12_mostBy 3 = .ok (.bipush 99, 2) := by decide +kernel
theorem dX12_mostBy_5 : decode cX12_mostBy 5 = .ok (.if_icmp .gt 16, 3) := by decide +kernel
theorem dX12_mostBy_8 : decode cX12_mostBy 8 = .ok (.aload_n 0, 1) := by decide +kernel
theorem dX12_mostBy_9 : decode cX12_mostBy 9 = .ok (.getfield 238, 3) := by decide +kernel
theorem dX12_mostBy_12 : decode cX12_mostBy 12 = .ok (.iload_n 2, 1) := by decide +kernel
theorem dX12_mostBy_13 : decode cX12_mostBy 13 = .ok (.iconst 0, 1) := by decide +kernel
theorem dX12_mostBy_14 : decode cX12_mostBy 14 = .ok (.iastore, 1) := by decide +kernel
theorem dX12_mostBy_15 : decode cX12_mostBy 15 = .ok (.iinc 2 1, 3) := by decide +kernel
theorem dX12_mostBy_18 : decode cX12_mostBy 18 = .ok (.goto (-16), 3) := by decide +kernel
theorem dX12_mostBy_21 : decode cX12_mostBy 21 = .ok (.iconst 0, 1) := by decide +kernel
theorem dX12_mostBy_22 : decode cX12_mostBy 22 = .ok (.istore_n 2, 1) := by decide +kernel
theorem dX12_mostBy_23 : decode cX12_mostBy 23 = .ok (.iconst 0, 1) := by decide +kernel
theorem dX12_mostBy_24 : decode cX12_mostBy 24 = .ok (.istore_n 3, 1) := by decide +kernel
theorem dX12_mostBy_25 : decode cX12_mostBy 25 = .ok (.iload_n 3, 1) := by decide +kernel
theorem dX12_mostBy_26 : decode cX12_mostBy 26 = .ok (.aload_n 0, 1) := by decide +kernel
theorem dX12_mostBy_27 : decode cX12_mostBy 27 = .ok (.invokevirtual 460, 3) := by decide +kernel
theorem dX12_mostBy_30 : decode cX12_mostBy 30 = .ok (.if_icmp .gt 69, 3) := by decide +kernel
theorem dX12_mostBy_33 : decode cX12_mostBy 33 = .ok (.aload_n 0, 1) := by decide +kernel
theorem dX12_mostBy_34 : decode cX12_mostBy 34 = .ok (.getfield 235, 3) := by decide +kernel
theorem dX12_mostBy_37 : decode cX12_mostBy 37 = .ok (.iload_n 3, 1) := by decide +kernel
theorem dX12_mostBy_38 : decode cX12_mostBy 38 = .ok (.iaload, 1) := by decide +kernel
theorem dX12_mostBy_39 : decode cX12_mostBy 39 = .ok (.ifCond .ne 6, 3) := by decide +kernel
theorem dX12_mostBy_42 : decode cX12_mostBy 42 = .ok (.goto 51, 3) := by decide +kernel
theorem dX12_mostBy_45 : decode cX12_mostBy 45 = .ok (.aload_n 0, 1) := by decide +kernel
theorem dX12_mostBy_46 : decode cX12_mostBy 46 = .ok (.getfield 232, 3) := by decide +kernel
theorem dX12_mostBy_49 : decode cX12_mostBy 49 = .ok (.sipush 576, 3) := by decide +kernel
theorem dX12_mostBy_52 : decode cX12_mostBy 52 = .ok (.iload_n 3, 1) := by decide +kernel
theorem dX12_mostBy_53 : decode cX12_mostBy 53 = .ok (.imul, 1) := by decide +kernel
theorem dX12_mostBy_54 : decode cX12_mostBy 54 = .ok (.iload_n 1, 1) := by decide +kernel
theorem dX12_mostBy_55 : decode cX12_mostBy 55 = .ok (.iadd, 1) := by decide +kernel
theorem dX12_mostBy_56 : decode cX12_mostBy 56 = .ok (.iaload, 1) := by decide +kernel
theorem dX12_mostBy_57 : decode cX12_mostBy 57 = .ok (.istore 4, 2) := by decide +kernel
theorem dX12_mostBy_59 : decode cX12_mostBy 59 = .ok (.aload_n 0, 1) := by decide +kernel
theorem dX12_mostBy_60 : decode cX12_mostBy 60 = .ok (.getfield 238, 3) := by decide +kernel
theorem dX12_mostBy_63 : decode cX12_mostBy 63 = .ok (.iload 4, 2) := by decide +kernel
theorem dX12_mostBy_65 : decode cX12_mostBy 65 = .ok (.dup2, 1) := by decide +kernel
theorem dX12_mostBy_66 : decode cX12_mostBy 66 = .ok (.iaload, 1) := by decide +kernel
theorem dX12_mostBy_67 : decode cX12_mostBy 67 = .ok (.iconst 1, 1) := by decide +kernel
theorem dX12_mostBy_68 : decode cX12_mostBy 68 = .ok (.iadd, 1) := by decide +kernel
theorem dX12_mostBy_69 : decode cX12_mostBy 69 = .ok (.iastore, 1) := by decide +kernel
theorem dX12_mostBy_70 : decode cX12_mostBy 70 = .ok (.aload_n 0, 1) := by decide +kernel
theorem dX12_mostBy_71 : decode cX12_mostBy 71 = .ok (.getfield 238, 3) := by decide +kernel
theorem dX12_mostBy_74 : decode cX12_mostBy 74 = .ok (.iload 4, 2) := by decide +kernel
theorem dX12_mostBy_76 : decode cX12_mostBy 76 = .ok (.iaload, 1) := by decide +kernel
theorem dX12_mostBy_77 : decode cX12_mostBy 77 = .ok (.iload_n 2, 1) := by decide +kernel
theorem dX12_mostBy_78 : decode cX12_mostBy 78 = .ok (.if_icmp .le 13, 3) := by decide +kernel
theorem dX12_mostBy_81 : decode cX12_mostBy 81 = .ok (.aload_n 0, 1) := by decide +kernel
theorem dX12_mostBy_82 : decode cX12_mostBy 82 = .ok (.getfield 238, 3) := by decide +kernel
theorem dX12_mostBy_85 : decode cX12_mostBy 85 = .ok (.iload 4, 2) := by decide +kernel
theorem dX12_mostBy_87 : decode cX12_mostBy 87 = .ok (.iaload, 1) := by decide +kernel
theorem dX12_mostBy_88 : decode cX12_mostBy 88 = .ok (.goto 4, 3) := by decide +kernel
theorem dX12_mostBy_91 : decode cX12_mostBy 91 = .ok (.iload_n 2, 1) := by decide +kernel
theorem dX12_mostBy_92 : decode cX12_mostBy 92 = .ok (.istore_n 2, 1) := by decide +kernel
theorem dX12_mostBy_93 : decode cX12_mostBy 93 = .ok (.iinc 3 1, 3) := by decide +kernel
theorem dX12_mostBy_96 : decode cX12_mostBy 96 = .ok (.goto (-71), 3) := by decide +kernel
theorem dX12_mostBy_99 : decode cX12_mostBy 99 = .ok (.iload_n 2, 1) := by decide +kernel
theorem dX12_mostBy_100 : decode cX12_mostBy 100 = .ok (.ireturn, 1) := by decide +kernel
theorem dX12_tells_0 : decode cX12_tells 0 = .ok (.aload_n 0, 1) := by decide +kernel
theorem dX12_tells_1 : decode cX12_tells 1 = .ok (.getfield 138, 3) := by decide +kernel
theorem dX12_tells_4 : decode cX12_tells 4 = .ok (.ifCond .eq 19, 3) := by decide +kernel
theorem dX12_tells_7 : decode cX12_tells 7 = .ok (.iload_n 1, 1) := by decide +kernel
theorem dX12_tells_8 : decode cX12_tells 8 = .ok (.iconst 0, 1) := by decide +kernel
theorem dX12_tells_9 : decode cX12_tells 9 = .ok (.iconst 3, 1) := by decide +kernel
theorem dX12_tells_10 : decode cX12_tells 10 = .ok (.invokestatic 323, 3) := by decide +kernel
theorem dX12_tells_13 : decode cX12_tells 13 = .ok (.ifCond .eq 10, 3) := by decide +kernel
theorem dX12_tells_16 : decode cX12_tells 16 = .ok (.aload_n 0, 1) := by decide +kernel
theorem dX12_tells_17 : decode cX12_tells 17 = .ok (.invokevirtual 483, 3) := by decide +kernel
theorem dX12_tells_20 : decode cX12_tells 20 = .ok (.ifCond .ne 5, 3) := by decide +kernel
theorem dX12_tells_23 : decode cX12_tells 23 = .ok (.iconst (-1), 1) := by decide +kernel
theorem dX12_tells_24 : decode cX12_tells 24 = .ok (.ireturn, 1) := by decide +kernel
theorem dX12_tells_25 : decode cX12_tells 25 = .ok (.iconst (-1), 1) := by decide +kernel
theorem dX12_tells_26 : decode cX12_tells 26 = .ok (.istore_n 2, 1) := by decide +kernel
theorem dX12_tells_27 : decode cX12_tells 27 = .ok (.ldc_w 486, 3) := by decide +kernel
theorem dX12_tells_30 : decode cX12_tells 30 = .ok (.istore_n 3, 1) := by decide +kernel
theorem dX12_tells_31 : decode cX12_tells 31 = .ok (.iconst 0, 1) := by decide +kernel
theorem dX12_tells_32 : decode cX12_tells 32 = .ok (.istore 4, 2) := by decide +kernel
theorem dX12_tells_34 : decode cX12_tells 34 = .ok (.iload 4, 2) := by decide +kernel
theorem dX12_tells_36 : decode cX12_tells 36 = .ok (.sipush 576, 3) := by decide +kernel
theorem dX12_tells_39 : decode cX12_tells 39 = .ok (.if_icmp .ge 55, 3) := by decide +kernel
theorem dX12_tells_42 : decode cX12_tells 42 = .ok (.aload_n 0, 1) := by decide +kernel
theorem dX12_tells_43 : decode cX12_tells 43 = .ok (.iload 4, 2) := by decide +kernel
theorem dX12_tells_45 : decode cX12_tells 45 = .ok (.bipush 8, 2) := by decide +kernel
theorem dX12_tells_47 : decode cX12_tells 47 = .ok (.irem, 1) := by decide +kernel
theorem dX12_tells_48 : decode cX12_tells 48 = .ok (.iload 4, 2) := by decide +kernel
theorem dX12_tells_50 : decode cX12_tells 50 = .ok (.bipush 64, 2) := by decide +kernel
theorem dX12_tells_52 : decode cX12_tells 52 = .ok (.irem, 1) := by decide +kernel
theorem dX12_tells_53 : decode cX12_tells 53 = .ok (.bipush 8, 2) := by decide +kernel
theorem dX12_tells_55 : decode cX12_tells 55 = .ok (.idiv, 1) := by decide +kernel
theorem dX12_tells_56 : decode cX12_tells 56 = .ok (.invokevirtual 437, 3) := by decide +kernel
theorem dX12_tells_59 : decode cX12_tells 59 = .ok (.ifCond .ne 6, 3) := by decide +kernel
theorem dX12_tells_62 : decode cX12_tells 62 = .ok (.goto 26, 3) := by decide +kernel
theorem dX12_tells_65 : decode cX12_tells 65 = .ok (.aload_n 0, 1) := by decide +kernel
theorem dX12_tells_66 : decode cX12_tells 66 = .ok (.iload 4, 2) := by decide +kernel
theorem dX12_tells_68 : decode cX12_tells 68 = .ok (.invokevirtual 487, 3) := by decide +kernel
theorem dX12_tells_71 : decode cX12_tells 71 = .ok (.istore 5, 2) := by decide +kernel
theorem dX12_tells_73 : decode cX12_tells 73 = .ok (.iload 5, 2) := by decide +kernel
theorem dX12_tells_75 : decode cX12_tells 75 = .ok (.iload_n 3, 1) := by decide +kernel
theorem dX12_tells_76 : decode cX12_tells 76 = .ok (.if_icmp .lt 6, 3) := by decide +kernel
theorem dX12_tells_79 : decode cX12_tells 79 = .ok (.goto 9, 3) := by decide +kernel
theorem dX12_tells_82 : decode cX12_tells 82 = .ok (.iload 5, 2) := by decide +kernel
theorem dX12_tells_84 : decode cX12_tells 84 = .ok (.istore_n 3, 1) := by decide +kernel
theorem dX12_tells_85 : decode cX12_tells 85 = .ok (.iload 4, 2) := by decide +kernel
theorem dX12_tells_87 : decode cX12_tells 87 = .ok (.istore_n 2, 1) := by decide +kernel
theorem dX12_tells_88 : decode cX12_tells 88 = .ok (.iinc 4 1, 3) := by decide +kernel
theorem dX12_tells_91 : decode cX12_tells 91 = .ok (.goto (-57), 3) := by decide +kernel
theorem dX12_tells_94 : decode cX12_tells 94 = .ok (.iload_n 1, 1) := by decide +kernel
theorem dX12_tells_95 : decode cX12_tells 95 = .ok (.ifCond .ne 10, 3) := by decide +kernel
theorem dX12_tells_98 : decode cX12_tells 98 = .ok (.iload_n 2, 1) := by decide +kernel
theorem dX12_tells_99 : decode cX12_tells 99 = .ok (.bipush 64, 2) := by decide +kernel
theorem dX12_tells_101 : decode cX12_tells 101 = .ok (.idiv, 1) := by decide +kernel
theorem dX12_tells_102 : decode cX12_tells 102 = .ok (.goto 31, 3) := by decide +kernel
theorem dX12_tells_105 : decode cX12_tells 105 = .ok (.iload_n 1, 1) := by decide +kernel
theorem dX12_tells_106 : decode cX12_tells 106 = .ok (.iconst 1, 1) := by decide +kernel
theorem dX12_tells_107 : decode cX12_tells 107 = .ok (.if_icmp .ne 10, 3) := by decide +kernel
theorem dX12_tells_110 : decode cX12_tells 110 = .ok (.iload_n 2, 1) := by decide +kernel
theorem dX12_tells_111 : decode cX12_tells 111 = .ok (.bipush 8, 2) := by decide +kernel
theorem dX12_tells_113 : decode cX12_tells 113 = .ok (.irem, 1) := by decide +kernel
theorem dX12_tells_114 : decode cX12_tells 114 = .ok (.goto 19, 3) := by decide +kernel
theorem dX12_tells_117 : decode cX12_tells 117 = .ok (.iload_n 1, 1) := by decide +kernel
theorem dX12_tells_118 : decode cX12_tells 118 = .ok (.iconst 2, 1) := by decide +kernel
theorem dX12_tells_119 : decode cX12_tells 119 = .ok (.if_icmp .ne 13, 3) := by decide +kernel
theorem dX12_tells_122 : decode cX12_tells 122 = .ok (.iload_n 2, 1) := by decide +kernel
theorem dX12_tells_123 : decode cX12_tells 123 = .ok (.bipush 64, 2) := by decide +kernel
theorem dX12_tells_125 : decode cX12_tells 125 = .ok (.irem, 1) := by decide +kernel
theorem dX12_tells_126 : decode cX12_tells 126 = .ok (.bipush 8, 2) := by decide +kernel
theorem dX12_tells_128 : decode cX12_tells 128 = .ok (.idiv, 1) := by decide +kernel
theorem dX12_tells_129 : decode cX12_tells 129 = .ok (.goto 4, 3) := by decide +kernel
theorem dX12_tells_132 : decode cX12_tells 132 = .ok (.iload_n 3, 1) := by decide +kernel
theorem dX12_tells_133 : decode cX12_tells 133 = .ok (.ireturn, 1) := by decide +kernel
theorem dX12_days_0 : decode cX12_days 0 = .ok (.aload_n 0, 1) := by decide +kernel
theorem dX12_days_1 : decode cX12_days 1 = .ok (.iload_n 1, 1) := by decide +kernel
theorem dX12_days_2 : decode cX12_days 2 = .ok (.iconst 1, 1) := by decide +kernel
theorem dX12_days_3 : decode cX12_days 3 = .ok (.bipush 40, 2) := by decide +kernel
theorem dX12_days_5 : decode cX12_days 5 = .ok (.invokevirtual 477, 3) := by decide +kernel
theorem dX12_days_8 : decode cX12_days 8 = .ok (.ifCond .ne 9, 3) := by decide +kernel
theorem dX12_days_11 : decode cX12_days 11 = .ok (.aload_n 0, 1) := by decide +kernel
theorem dX12_days_12 : decode cX12_days 12 = .ok (.iconst 2, 1) := by decide +kernel
theorem dX12_days_13 : decode cX12_days 13 = .ok (.invokevirtual 247, 3) := by decide +kernel
theorem dX12_days_16 : decode cX12_days 16 = .ok (.ireturn, 1) := by decide +kernel
theorem dX12_days_17 : decode cX12_days 17 = .ok (.aload_n 0, 1) := by decide +kernel
theorem dX12_days_18 : decode cX12_days 18 = .ok (.invokevirtual 490, 3) := by decide +kernel
theorem dX12_days_21 : decode cX12_days 21 = .ok (.iconst 0, 1) := by decide +kernel
theorem dX12_days_22 : decode cX12_days 22 = .ok (.istore_n 2, 1) := by decide +kernel
theorem dX12_days_23 : decode cX12_days 23 = .ok (.iconst 0, 1) := by decide +kernel
theorem dX12_days_24 : decode cX12_days 24 = .ok (.istore_n 3, 1) := by decide +kernel
theorem dX12_days_25 : decode cX12_days 25 = .ok (.iload_n 3, 1) := by decide +kernel
theorem dX12_days_26 : decode cX12_days 26 = .ok (.iload_n 1, 1) := by decide +kernel
theorem dX12_days_27 : decode cX12_days 27 = .ok (.if_icmp .ge 18, 3) := by decide +kernel
theorem dX12_days_30 : decode cX12_days 30 = .ok (.iload_n 2, 1) := by decide +kernel
theorem dX12_days_31 : decode cX12_days 31 = .ok (.aload_n 0, 1) := by decide +kernel
theorem dX12_days_32 : decode cX12_days 32 = .ok (.iconst 0, 1) := by decide +kernel
theorem dX12_days_33 : decode cX12_days 33 = .ok (.iconst 1, 1) := by decide +kernel
theorem dX12_days_34 : decode cX12_days 34 = .ok (.invokevirtual 474, 3) := by decide +kernel
theorem dX12_days_37 : decode cX12_days 37 = .ok (.iadd, 1) := by decide +kernel
theorem dX12_days_38 : decode cX12_days 38 = .ok (.istore_n 2, 1) := by decide +kernel
theorem dX12_days_39 : decode cX12_days 39 = .ok (.iinc 3 1, 3) := by decide +kernel
theorem dX12_days_42 : decode cX12_days 42 = .ok (.goto (-17), 3) := by decide +kernel
theorem dX12_days_45 : decode cX12_days 45 = .ok (.iload_n 2, 1) := by decide +kernel
theorem dX12_days_46 : decode cX12_days 46 = .ok (.ireturn, 1) := by decide +kernel
theorem dX12_draw_0 : decode cX12_draw 0 = .ok (.aload_n 0, 1) := by decide +kernel
theorem dX12_draw_1 : decode cX12_draw 1 = .ok (.ldc2_w 493, 3) := by decide +kernel
theorem dX12_draw_4 : decode cX12_draw 4 = .ok (.aload_n 0, 1) := by decide +kernel
theorem dX12_draw_5 : decode cX12_draw 5 = .ok (.getfield 174, 3) := by decide +kernel
theorem dX12_draw_8 : decode cX12_draw 8 = .ok (.lmul, 1) := by decide +kernel
theorem dX12_draw_9 : decode cX12_draw 9 = .ok (.ldc2_w 495, 3) := by decide +kernel
theorem dX12_draw_12 : decode cX12_draw 12 = .ok (.ladd, 1) := by decide +kernel
theorem dX12_draw_13 : decode cX12_draw 13 = .ok (.ldc2_w 497, 3) := by decide +kernel
theorem dX12_draw_16 : decode cX12_draw 16 = .ok (.lrem, 1) := by decide +kernel
theorem dX12_draw_17 : decode cX12_draw 17 = .ok (.putfield 174, 3) := by decide +kernel
theorem dX12_draw_20 : decode cX12_draw 20 = .ok (.aload_n 0, 1) := by decide +kernel
theorem dX12_draw_21 : decode cX12_draw 21 = .ok (.getfield 174, 3) := by decide +kernel
theorem dX12_draw_24 : decode cX12_draw 24 = .ok (.ldc2_w 499, 3) := by decide +kernel
theorem dX12_draw_27 : decode cX12_draw 27 = .ok (.ldiv, 1) := by decide +kernel
theorem dX12_draw_28 : decode cX12_draw 28 = .ok (.iload_n 1, 1) := by decide +kernel
theorem dX12_draw_29 : decode cX12_draw 29 = .ok (.i2l, 1) := by decide +kernel
theorem dX12_draw_30 : decode cX12_draw 30 = .ok (.lrem, 1) := by decide +kernel
theorem dX12_draw_31 : decode cX12_draw 31 = .ok (.l2i, 1) := by decide +kernel
theorem dX12_draw_32 : decode cX12_draw 32 = .ok (.ireturn, 1) := by decide +kernel
theorem dX12_chance_0 : decode cX12_chance 0 = .ok (.aload_n 0, 1) := by decide +kernel
theorem dX12_chance_1 : decode cX12_chance 1 = .ok (.iload_n 1, 1) := by decide +kernel
theorem dX12_chance_2 : decode cX12_chance 2 = .ok (.iconst 1, 1) := by decide +kernel
theorem dX12_chance_3 : decode cX12_chance 3 = .ok (.bipush 40, 2) := by decide +kernel
theorem dX12_chance_5 : decode cX12_chance 5 = .ok (.invokevirtual 477, 3) := by decide +kernel
theorem dX12_chance_8 : decode cX12_chance 8 = .ok (.ifCond .ne 9, 3) := by decide +kernel
theorem dX12_chance_11 : decode cX12_chance 11 = .ok (.aload_n 0, 1) := by decide +kernel
theorem dX12_chance_12 : decode cX12_chance 12 = .ok (.iconst 2, 1) := by decide +kernel
theorem dX12_chance_13 : decode cX12_chance 13 = .ok (.invokevirtual 247, 3) := by decide +kernel
theorem dX12_chance_16 : decode cX12_chance 16 = .ok (.ireturn, 1) := by decide +kernel
theorem dX12_chance_17 : decode cX12_chance 17 = .ok (.aload_n 0, 1) := by decide +kernel
theorem dX12_chance_18 : decode cX12_chance 18 = .ok (.invokevirtual 490, 3) := by decide +kernel
theorem dX12_chance_21 : decode cX12_chance 21 = .ok (.iconst 0, 1) := by decide +kernel
theorem dX12_chance_22 : decode cX12_chance 22 = .ok (.istore_n 2, 1) := by decide +kernel
theorem dX12_chance_23 : decode cX12_chance 23 = .ok (.iconst 0, 1) := by decide +kernel
theorem dX12_chance_24 : decode cX12_chance 24 = .ok (.istore_n 3, 1) := by decide +kernel
theorem dX12_chance_25 : decode cX12_chance 25 = .ok (.iload_n 3, 1) := by decide +kernel
theorem dX12_chance_26 : decode cX12_chance 26 = .ok (.iload_n 1, 1) := by decide +kernel
theorem dX12_chance_27 : decode cX12_chance 27 = .ok (.if_icmp .ge 63, 3) := by decide +kernel
theorem dX12_chance_30 : decode cX12_chance 30 = .ok (.aload_n 0, 1) := by decide +kernel
theorem dX12_chance_31 : decode cX12_chance 31 = .ok (.bipush 100, 2) := by decide +kernel
theorem dX12_chance_33 : decode cX12_chance 33 = .ok (.invokevirtual 501, 3) := by decide +kernel
theorem dX12_chance_36 : decode cX12_chance 36 = .ok (.aload_n 0, 1) := by decide +kernel
theorem dX12_chance_37 : decode cX12_chance 37 = .ok (.getfield 78, 3) := by decide +kernel
theorem dX12_chance_40 : decode cX12_chance 40 = .ok (.aload_n 0, 1) := by decide +kernel
theorem dX12_chance_41 : decode cX12_chance 41 = .ok (.getfield 51, 3) := by decide +kernel
theorem dX12_chance_44 : decode cX12_chance 44 = .ok (.iaload, 1) := by decide +kernel
theorem dX12_chance_45 : decode cX12_chance 45 = .ok (.if_icmp .ge 7, 3) := by decide +kernel
theorem dX12_chance_48 : decode cX12_chance 48 = .ok (.iconst 1, 1) := by decide +kernel
theorem dX12_chance_49 : decode cX12_chance 49 = .ok (.goto 4, 3) := by decide +kernel
theorem dX12_chance_52 : decode cX12_chance 52 = .ok (.iconst 0, 1) := by decide +kernel
theorem dX12_chance_53 : decode cX12_chance 53 = .ok (.istore 4, 2) := by decide +kernel
theorem dX12_chance_55 : decode cX12_chance 55 = .ok (.iload_n 2, 1) := by decide +kernel
theorem dX12_chance_56 : decode cX12_chance 56 = .ok (.iload 4, 2) := by decide +kernel
theorem dX12_chance_58 : decode cX12_chance 58 = .ok (.ifCond .eq 7, 3) := by decide +kernel
theorem dX12_chance_61 : decode cX12_chance 61 = .ok (.iconst 1, 1) := by decide +kernel
theorem dX12_chance_62 : decode cX12_chance 62 = .ok (.goto 4, 3) := by decide +kernel
theorem dX12_chance_65 : decode cX12_chance 65 = .ok (.iconst 0, 1) := by decide +kernel
theorem dX12_chance_66 : decode cX12_chance 66 = .ok (.iadd, 1) := by decide +kernel
theorem dX12_chance_67 : decode cX12_chance 67 = .ok (.istore_n 2, 1) := by decide +kernel
theorem dX12_chance_68 : decode cX12_chance 68 = .ok (.aload_n 0, 1) := by decide +kernel
theorem dX12_chance_69 : decode cX12_chance 69 = .ok (.iconst 0, 1) := by decide +kernel
theorem dX12_chance_70 : decode cX12_chance 70 = .ok (.iload 4, 2) := by decide +kernel
theorem dX12_chance_72 : decode cX12_chance 72 = .ok (.ifCond .eq 7, 3) := by decide +kernel
theorem dX12_chance_75 : decode cX12_chance 75 = .ok (.iconst 2, 1) := by decide +kernel
theorem dX12_chance_76 : decode cX12_chance 76 = .ok (.goto 4, 3) := by decide +kernel
theorem dX12_chance_79 : decode cX12_chance 79 = .ok (.iconst 1, 1) := by decide +kernel
theorem dX12_chance_80 : decode cX12_chance 80 = .ok (.invokevirtual 474, 3) := by decide +kernel
theorem dX12_chance_83 : decode cX12_chance 83 = .ok (.pop, 1) := by decide +kernel
theorem dX12_chance_84 : decode cX12_chance 84 = .ok (.iinc 3 1, 3) := by decide +kernel
theorem dX12_chance_87 : decode cX12_chance 87 = .ok (.goto (-62), 3) := by decide +kernel
theorem dX12_chance_90 : decode cX12_chance 90 = .ok (.iload_n 2, 1) := by decide +kernel
theorem dX12_chance_91 : decode cX12_chance 91 = .ok (.ireturn, 1) := by decide +kernel
theorem dX12_rise_0 : decode cX12_rise 0 = .ok (.aload_n 0, 1) := by decide +kernel
theorem dX12_rise_1 : decode cX12_rise 1 = .ok (.iload_n 1, 1) := by decide +kernel
theorem dX12_rise_2 : decode cX12_rise 2 = .ok (.invokevirtual 469, 3) := by decide +kernel
theorem dX12_rise_5 : decode cX12_rise 5 = .ok (.ifCond .eq 23, 3) := by decide +kernel
theorem dX12_rise_8 : decode cX12_rise 8 = .ok (.iload_n 2, 1) := by decide +kernel
theorem dX12_rise_9 : decode cX12_rise 9 = .ok (.iconst 0, 1) := by decide +kernel
theorem dX12_rise_10 : decode cX12_rise 10 = .ok (.bipush 8, 2) := by decide +kernel
theorem dX12_rise_12 : decode cX12_rise 12 = .ok (.invokestatic 323, 3) := by decide +kernel
theorem dX12_rise_15 : decode cX12_rise 15 = .ok (.ifCond .eq 13, 3) := by decide +kernel
theorem dX12_rise_18 : decode cX12_rise 18 = .ok (.aload_n 0, 1) := by decide +kernel
theorem dX12_rise_19 : decode cX12_rise 19 = .ok (.getfield 153, 3) := by decide +kernel
theorem dX12_rise_22 : decode cX12_rise 22 = .ok (.iload_n 1, 1) := by decide +kernel
theorem dX12_rise_23 : decode cX12_rise 23 = .ok (.iaload, 1) := by decide +kernel
theorem dX12_rise_24 : decode cX12_rise 24 = .ok (.iload_n 2, 1) := by decide +kernel
theorem dX12_rise_25 : decode cX12_rise 25 = .ok (.if_icmp .ne 17, 3) := by decide +kernel
theorem dX12_rise_28 : decode cX12_rise 28 = .ok (.aload_n 0, 1) := by decide +kernel
theorem dX12_rise_29 : decode cX12_rise 29 = .ok (.iconst 3, 1) := by decide +kernel
theorem dX12_rise_30 : decode cX12_rise 30 = .ok (.invokevirtual 247, 3) := by decide +kernel
theorem dX12_rise_33 : decode cX12_rise 33 = .ok (.ifCond .lt 7, 3) := by decide +kernel
theorem dX12_rise_36 : decode cX12_rise 36 = .ok (.iconst 1, 1) := by decide +kernel
theorem dX12_rise_37 : decode cX12_rise 37 = .ok (.goto 4, 3) := by decide +kernel
theorem dX12_rise_40 : decode cX12_rise 40 = .ok (.iconst 0, 1) := by decide +kernel
theorem dX12_rise_41 : decode cX12_rise 41 = .ok (.ireturn, 1) := by decide +kernel
theorem dX12_rise_42 : decode cX12_rise 42 = .ok (.aload_n 0, 1) := by decide +kernel
theorem dX12_rise_43 : decode cX12_rise 43 = .ok (.invokevirtual 490, 3) := by decide +kernel
theorem dX12_rise_46 : decode cX12_rise 46 = .ok (.aload_n 0, 1) := by decide +kernel
theorem dX12_rise_47 : decode cX12_rise 47 = .ok (.getfield 153, 3) := by decide +kernel
theorem dX12_rise_50 : decode cX12_rise 50 = .ok (.iload_n 1, 1) := by decide +kernel
theorem dX12_rise_51 : decode cX12_rise 51 = .ok (.iload_n 2, 1) := by decide +kernel
theorem dX12_rise_52 : decode cX12_rise 52 = .ok (.iastore, 1) := by decide +kernel
theorem dX12_rise_53 : decode cX12_rise 53 = .ok (.iconst 1, 1) := by decide +kernel
theorem dX12_rise_54 : decode cX12_rise 54 = .ok (.ireturn, 1) := by decide +kernel
theorem dX12_move_0 : decode cX12_move 0 = .ok (.aload_n 0, 1) := by decide +kernel
theorem dX12_move_1 : decode cX12_move 1 = .ok (.iload_n 1, 1) := by decide +kernel
theorem dX12_move_2 : decode cX12_move 2 = .ok (.invokevirtual 469, 3) := by decide +kernel
theorem dX12_move_5 : decode cX12_move 5 = .ok (.ifCond .eq 27, 3) := by decide +kernel
theorem dX12_move_8 : decode cX12_move 8 = .ok (.aload_n 0, 1) := by decide +kernel
theorem dX12_move_9 : decode cX12_move 9 = .ok (.iload_n 2, 1) := by decide +kernel
theorem dX12_move_10 : decode cX12_move 10 = .ok (.iload_n 3, 1) := by decide +kernel
theorem dX12_move_11 : decode cX12_move 11 = .ok (.invokevirtual 437, 3) := by decide +kernel
theorem dX12_move_14 : decode cX12_move 14 = .ok (.ifCond .eq 18, 3) := by decide +kernel
theorem dX12_move_17 : decode cX12_move 17 = .ok (.aload_n 0, 1) := by decide +kernel
theorem dX12_move_18 : decode cX12_move 18 = .ok (.getfield 150, 3) := by decide +kernel
theorem dX12_move_21 : decode cX12_move 21 = .ok (.iload_n 1, 1) := by decide +kernel
theorem dX12_move_22 : decode cX12_move 22 = .ok (.iaload, 1) := by decide +kernel
theorem dX12_move_23 : decode cX12_move 23 = .ok (.bipush 8, 2) := by decide +kernel
theorem dX12_move_25 : decode cX12_move 25 = .ok (.iload_n 3, 1) := by decide +kernel
theorem dX12_move_26 : decode cX12_move 26 = .ok (.imul, 1) := by decide +kernel
theorem dX12_move_27 : decode cX12_move 27 = .ok (.iload_n 2, 1) := by decide +kernel
theorem dX12_move_28 : decode cX12_move 28 = .ok (.iadd, 1) := by decide +kernel
theorem dX12_move_29 : decode cX12_move 29 = .ok (.if_icmp .ne 17, 3) := by decide +kernel
theorem dX12_move_32 : decode cX12_move 32 = .ok (.aload_n 0, 1) := by decide +kernel
theorem dX12_move_33 : decode cX12_move 33 = .ok (.iconst 3, 1) := by decide +kernel
theorem dX12_move_34 : decode cX12_move 34 = .ok (.invokevirtual 247, 3) := by decide +kernel
theorem dX12_move_37 : decode cX12_move 37 = .ok (.ifCond .lt 7, 3) := by decide +kernel
theorem dX12_move_40 : decode cX12_move 40 = .ok (.iconst 1, 1) := by decide +kernel
theorem dX12_move_41 : decode cX12_move 41 = .ok (.goto 4, 3) := by decide +kernel
theorem dX12_move_44 : decode cX12_move 44 = .ok (.iconst 0, 1) := by decide +kernel
theorem dX12_move_45 : decode cX12_move 45 = .ok (.ireturn, 1) := by decide +kernel
theorem dX12_move_46 : decode cX12_move 46 = .ok (.aload_n 0, 1) := by decide +kernel
theorem dX12_move_47 : decode cX12_move 47 = .ok (.invokevirtual 490, 3) := by decide +kernel
theorem dX12_move_50 : decode cX12_move 50 = .ok (.aload_n 0, 1) := by decide +kernel
theorem dX12_move_51 : decode cX12_move 51 = .ok (.getfield 150, 3) := by decide +kernel
theorem dX12_move_54 : decode cX12_move 54 = .ok (.iload_n 1, 1) := by decide +kernel
theorem dX12_move_55 : decode cX12_move 55 = .ok (.bipush 8, 2) := by decide +kernel
theorem dX12_move_57 : decode cX12_move 57 = .ok (.iload_n 3, 1) := by decide +kernel
theorem dX12_move_58 : decode cX12_move 58 = .ok (.imul, 1) := by decide +kernel
theorem dX12_move_59 : decode cX12_move 59 = .ok (.iload_n 2, 1) := by decide +kernel
theorem dX12_move_60 : decode cX12_move 60 = .ok (.iadd, 1) := by decide +kernel
theorem dX12_move_61 : decode cX12_move 61 = .ok (.iastore, 1) := by decide +kernel
theorem dX12_move_62 : decode cX12_move 62 = .ok (.iconst 1, 1) := by decide +kernel
theorem dX12_move_63 : decode cX12_move 63 = .ok (.ireturn, 1) := by decide +kernel
theorem dX12_weave_0 : decode cX12_weave 0 = .ok (.aload_n 0, 1) := by decide +kernel
theorem dX12_weave_1 : decode cX12_weave 1 = .ok (.iload_n 1, 1) := by decide +kernel
theorem dX12_weave_2 : decode cX12_weave 2 = .ok (.invokevirtual 469, 3) := by decide +kernel
theorem dX12_weave_5 : decode cX12_weave 5 = .ok (.ifCond .eq 23, 3) := by decide +kernel
theorem dX12_weave_8 : decode cX12_weave 8 = .ok (.iload_n 2, 1) := by decide +kernel
theorem dX12_weave_9 : decode cX12_weave 9 = .ok (.iconst 1, 1) := by decide +kernel
theorem dX12_weave_10 : decode cX12_weave 10 = .ok (.bipush 99, 2) := by decide +kernel
theorem dX12_weave_12 : decode cX12_weave 12 = .ok (.invokestatic 323, 3) := by decide +kernel
theorem dX12_weave_15 : decode cX12_weave 15 = .ok (.ifCond .eq 13, 3) := by decide +kernel
theorem dX12_weave_18 : decode cX12_weave 18 = .ok (.aload_n 0, 1) := by decide +kernel
theorem dX12_weave_19 : decode cX12_weave 19 = .ok (.getfield 156, 3) := by decide +kernel
theorem dX12_weave_22 : decode cX12_weave 22 = .ok (.iload_n 1, 1) := by decide +kernel
theorem dX12_weave_23 : decode cX12_weave 23 = .ok (.iaload, 1) := by decide +kernel
theorem dX12_weave_24 : decode cX12_weave 24 = .ok (.iload_n 2, 1) := by decide +kernel
theorem dX12_weave_25 : decode cX12_weave 25 = .ok (.if_icmp .ne 17, 3) := by decide +kernel
theorem dX12_weave_28 : decode cX12_weave 28 = .ok (.aload_n 0, 1) := by decide +kernel
theorem dX12_weave_29 : decode cX12_weave 29 = .ok (.iconst 3, 1) := by decide +kernel
theorem dX12_weave_30 : decode cX12_weave 30 = .ok (.invokevirtual 247, 3) := by decide +kernel
theorem dX12_weave_33 : decode cX12_weave 33 = .ok (.ifCond .lt 7, 3) := by decide +kernel
theorem dX12_weave_36 : decode cX12_weave 36 = .ok (.iconst 1, 1) := by decide +kernel
theorem dX12_weave_37 : decode cX12_weave 37 = .ok (.goto 4, 3) := by decide +kernel
theorem dX12_weave_40 : decode cX12_weave 40 = .ok (.iconst 0, 1) := by decide +kernel
theorem dX12_weave_41 : decode cX12_weave 41 = .ok (.ireturn, 1) := by decide +kernel
theorem dX12_weave_42 : decode cX12_weave 42 = .ok (.aload_n 0, 1) := by decide +kernel
theorem dX12_weave_43 : decode cX12_weave 43 = .ok (.invokevirtual 490, 3) := by decide +kernel
theorem dX12_weave_46 : decode cX12_weave 46 = .ok (.aload_n 0, 1) := by decide +kernel
theorem dX12_weave_47 : decode cX12_weave 47 = .ok (.getfield 156, 3) := by decide +kernel
theorem dX12_weave_50 : decode cX12_weave 50 = .ok (.iload_n 1, 1) := by decide +kernel
theorem dX12_weave_51 : decode cX12_weave 51 = .ok (.iload_n 2, 1) := by decide +kernel
theorem dX12_weave_52 : decode cX12_weave 52 = .ok (.iastore, 1) := by decide +kernel
theorem dX12_weave_53 : decode cX12_weave 53 = .ok (.iconst 1, 1) := by decide +kernel
theorem dX12_weave_54 : decode cX12_weave 54 = .ok (.ireturn, 1) := by decide +kernel
theorem dX12_seed_0 : decode cX12_seed 0 = .ok (.iload_n 1, 1) := by decide +kernel
theorem dX12_seed_1 : decode cX12_seed 1 = .ok (.ifCond .ge 17, 3) := by decide +kernel
theorem dX12_seed_4 : decode cX12_seed 4 = .ok (.aload_n 0, 1) := by decide +kernel
theorem dX12_seed_5 : decode cX12_seed 5 = .ok (.iconst 5, 1) := by decide +kernel
theorem dX12_seed_6 : decode cX12_seed 6 = .ok (.invokevirtual 247, 3) := by decide +kernel
theorem dX12_seed_9 : decode cX12_seed 9 = .ok (.ifCond .lt 7, 3) := by decide +kernel
theorem dX12_seed_12 : decode cX12_seed 12 = .ok (.iconst 1, 1) := by decide +kernel
theorem dX12_seed_13 : decode cX12_seed 13 = .ok (.goto 4, 3) := by decide +kernel
theorem dX12_seed_16 : decode cX12_seed 16 = .ok (.iconst 0, 1) := by decide +kernel
theorem dX12_seed_17 : decode cX12_seed 17 = .ok (.ireturn, 1) := by decide +kernel
theorem dX12_seed_18 : decode cX12_seed 18 = .ok (.aload_n 0, 1) := by decide +kernel
theorem dX12_seed_19 : decode cX12_seed 19 = .ok (.iload_n 1, 1) := by decide +kernel
theorem dX12_seed_20 : decode cX12_seed 20 = .ok (.i2l, 1) := by decide +kernel
theorem dX12_seed_21 : decode cX12_seed 21 = .ok (.putfield 174, 3) := by decide +kernel
theorem dX12_seed_24 : decode cX12_seed 24 = .ok (.iconst 1, 1) := by decide +kernel
theorem dX12_seed_25 : decode cX12_seed 25 = .ok (.ireturn, 1) := by decide +kernel
theorem dX12_kept_0 : decode cX12_kept 0 = .ok (.iload_n 1, 1) := by decide +kernel
theorem dX12_kept_1 : decode cX12_kept 1 = .ok (.iconst 0, 1) := by decide +kernel
theorem dX12_kept_2 : decode cX12_kept 2 = .ok (.aload_n 0, 1) := by decide +kernel
theorem dX12_kept_3 : decode cX12_kept 3 = .ok (.getfield 162, 3) := by decide +kernel
theorem dX12_kept_6 : decode cX12_kept 6 = .ok (.iconst 0, 1) := by decide +kernel
theorem dX12_kept_7 : decode cX12_kept 7 = .ok (.iaload, 1) := by decide +kernel
theorem dX12_kept_8 : decode cX12_kept 8 = .ok (.iconst 1, 1) := by decide +kernel
theorem dX12_kept_9 : decode cX12_kept 9 = .ok (.isub, 1) := by decide +kernel
theorem dX12_kept_10 : decode cX12_kept 10 = .ok (.invokestatic 323, 3) := by decide +kernel
theorem dX12_kept_13 : decode cX12_kept 13 = .ok (.ifCond .eq 25, 3) := by decide +kernel
theorem dX12_kept_16 : decode cX12_kept 16 = .ok (.iload_n 2, 1) := by decide +kernel
theorem dX12_kept_17 : decode cX12_kept 17 = .ok (.iconst 0, 1) := by decide +kernel
theorem dX12_kept_18 : decode cX12_kept 18 = .ok (.iconst 2, 1) := by decide +kernel
theorem dX12_kept_19 : decode cX12_kept 19 = .ok (.invokestatic 323, 3) := by decide +kernel
theorem dX12_kept_22 : decode cX12_kept 22 = .ok (.ifCond .eq 16, 3) := by decide +kernel
theorem dX12_kept_25 : decode cX12_kept 25 = .ok (.aload_n 0, 1) := by decide +kernel
theorem dX12_kept_26 : decode cX12_kept 26 = .ok (.getfield 165, 3) := by decide +kernel
theorem dX12_kept_29 : decode cX12_kept 29 = .ok (.iconst 3, 1) := by decide +kernel
theorem dX12_kept_30 : decode cX12_kept 30 = .ok (.iload_n 1, 1) := by decide +kernel
theorem dX12_kept_31 : decode cX12_kept 31 = .ok (.imul, 1) := by decide +kernel
theorem dX12_kept_32 : decode cX12_kept 32 = .ok (.iload_n 2, 1) := by decide +kernel
theorem dX12_kept_33 : decode cX12_kept 33 = .ok (.iadd, 1) := by decide +kernel
theorem dX12_kept_34 : decode cX12_kept 34 = .ok (.iaload, 1) := by decide +kernel
theorem dX12_kept_35 : decode cX12_kept 35 = .ok (.goto 4, 3) := by decide +kernel
theorem dX12_kept_38 : decode cX12_kept 38 = .ok (.iconst (-1), 1) := by decide +kernel
theorem dX12_kept_39 : decode cX12_kept 39 = .ok (.ireturn, 1) := by decide +kernel
theorem dX12_writes_0 : decode cX12_writes 0 = .ok (.aload_n 0, 1) := by decide +kernel
theorem dX12_writes_1 : decode cX12_writes 1 = .ok (.getfield 241, 3) := by decide +kernel
theorem dX12_writes_4 : decode cX12_writes 4 = .ok (.aload_n 0, 1) := by decide +kernel
theorem dX12_writes_5 : decode cX12_writes 5 = .ok (.getfield 244, 3) := by decide +kernel
theorem dX12_writes_8 : decode cX12_writes 8 = .ok (.iload_n 1, 1) := by decide +kernel
theorem dX12_writes_9 : decode cX12_writes 9 = .ok (.sipush 255, 3) := by decide +kernel
theorem dX12_writes_12 : decode cX12_writes 12 = .ok (.iand, 1) := by decide +kernel
theorem dX12_writes_13 : decode cX12_writes 13 = .ok (.iastore, 1) := by decide +kernel
theorem dX12_writes_14 : decode cX12_writes 14 = .ok (.aload_n 0, 1) := by decide +kernel
theorem dX12_writes_15 : decode cX12_writes 15 = .ok (.dup, 1) := by decide +kernel
theorem dX12_writes_16 : decode cX12_writes 16 = .ok (.getfield 244, 3) := by decide +kernel
theorem dX12_writes_19 : decode cX12_writes 19 = .ok (.iconst 1, 1) := by decide +kernel
theorem dX12_writes_20 : decode cX12_writes 20 = .ok (.iadd, 1) := by decide +kernel
theorem dX12_writes_21 : decode cX12_writes 21 = .ok (.putfield 244, 3) := by decide +kernel
theorem dX12_writes_24 : decode cX12_writes 24 = .ok (.return_, 1) := by decide +kernel
theorem dX12_image_0 : decode cX12_image 0 = .ok (.aload_n 0, 1) := by decide +kernel
theorem dX12_image_1 : decode cX12_image 1 = .ok (.iconst 0, 1) := by decide +kernel
theorem dX12_image_2 : decode cX12_image 2 = .ok (.putfield 244, 3) := by decide +kernel
theorem dX12_image_5 : decode cX12_image 5 = .ok (.aload_n 0, 1) := by decide +kernel
theorem dX12_image_6 : decode cX12_image 6 = .ok (.aload_n 0, 1) := by decide +kernel
theorem dX12_image_7 : decode cX12_image 7 = .ok (.getfield 144, 3) := by decide +kernel
theorem dX12_image_10 : decode cX12_image 10 = .ok (.iconst 0, 1) := by decide +kernel
theorem dX12_image_11 : decode cX12_image 11 = .ok (.iaload, 1) := by decide +kernel
theorem dX12_image_12 : decode cX12_image 12 = .ok (.bipush 8, 2) := by decide +kernel
theorem dX12_image_14 : decode cX12_image 14 = .ok (.ishr, 1) := by decide +kernel
theorem dX12_image_15 : decode cX12_image 15 = .ok (.invokevirtual 504, 3) := by decide +kernel
theorem dX12_image_18 : decode cX12_image 18 = .ok (.aload_n 0, 1) := by decide +kernel
theorem dX12_image_19 : decode cX12_image 19 = .ok (.aload_n 0, 1) := by decide +kernel
theorem dX12_image_20 : decode cX12_image 20 = .ok (.getfield 144, 3) := by decide +kernel
theorem dX12_image_23 : decode cX12_image 23 = .ok (.iconst 0, 1) := by decide +kernel
theorem dX12_image_24 : decode cX12_image 24 = .ok (.iaload, 1) := by decide +kernel
theorem dX12_image_25 : decode cX12_image 25 = .ok (.invokevirtual 504, 3) := by decide +kernel
theorem dX12_image_28 : decode cX12_image 28 = .ok (.iconst 0, 1) := by decide +kernel
theorem dX12_image_29 : decode cX12_image 29 = .ok (.istore_n 1, 1) := by decide +kernel
theorem dX12_image_30 : decode cX12_image 30 = .ok (.iload_n 1, 1) := by decide +kernel
theorem dX12_image_31 : decode cX12_image 31 = .ok (.bipush 64, 2) := by decide +kernel
theorem dX12_image_33 : decode cX12_image 33 = .ok (.if_icmp .ge 34, 3) := by decide +kernel
theorem dX12_image_36 : decode cX12_image 36 = .ok (.aload_n 0, 1) := by decide +kernel
theorem dX12_image_37 : decode cX12_image 37 = .ok (.iload_n 1, 1) := by decide +kernel
theorem dX12_image_38 : decode cX12_image 38 = .ok (.bipush 8, 2) := by decide +kernel
theorem dX12_image_40 : decode cX12_image 40 = .ok (.irem, 1) := by decide +kernel
theorem dX12_image_41 : decode cX12_image 41 = .ok (.iload_n 1, 1) := by decide +kernel
theorem dX12_image_42 : decode cX12_image 42 = .ok (.bipush 8, 2) := by decide +kernel
theorem dX12_image_44 : decode cX12_image 44 = .ok (.idiv, 1) := by decide +kernel
theorem dX12_image_45 : decode cX12_image 45 = .ok (.invokevirtual 437, 3) := by decide +kernel
theorem dX12_image_48 : decode cX12_image 48 = .ok (.ifCond .eq 13, 3) := by decide +kernel
theorem dX12_image_51 : decode cX12_image 51 = .ok (.aload_n 0, 1) := by decide +kernel
theorem dX12_image_52 : decode cX12_image 52 = .ok (.aload_n 0, 1) := by decide +kernel
theorem dX12_image_53 : decode cX12_image 53 = .ok (.getfield 147, 3) := by decide +kernel
theorem dX12_image_56 : decode cX12_image 56 = .ok (.iload_n 1, 1) := by decide +kernel
theorem dX12_image_57 : decode cX12_image 57 = .ok (.iaload, 1) := by decide +kernel
theorem dX12_image_58 : decode cX12_image 58 = .ok (.invokevirtual 504, 3) := by decide +kernel
theorem dX12_image_61 : decode cX12_image 61 = .ok (.iinc 1 1, 3) := by decide +kernel
theorem dX12_image_64 : decode cX12_image 64 = .ok (.goto (-34), 3) := by decide +kernel
theorem dX12_image_67 : decode cX12_image 67 = .ok (.iconst 0, 1) := by decide +kernel
theorem dX12_image_68 : decode cX12_image 68 = .ok (.istore_n 1, 1) := by decide +kernel
theorem dX12_image_69 : decode cX12_image 69 = .ok (.iload_n 1, 1) := by decide +kernel
theorem dX12_image_70 : decode cX12_image 70 = .ok (.aload_n 0, 1) := by decide +kernel
theorem dX12_image_71 : decode cX12_image 71 = .ok (.getfield 63, 3) := by decide +kernel
theorem dX12_image_74 : decode cX12_image 74 = .ok (.aload_n 0, 1) := by decide +kernel
theorem dX12_image_75 : decode cX12_image 75 = .ok (.getfield 51, 3) := by decide +kernel
theorem dX12_image_78 : decode cX12_image 78 = .ok (.iaload, 1) := by decide +kernel
theorem dX12_image_79 : decode cX12_image 79 = .ok (.if_icmp .ge 78, 3) := by decide +kernel
theorem dX12_image_82 : decode cX12_image 82 = .ok (.aload_n 0, 1) := by decide +kernel
theorem dX12_image_83 : decode cX12_image 83 = .ok (.aload_n 0, 1) := by decide +kernel
theorem dX12_image_84 : decode cX12_image 84 = .ok (.getfield 150, 3) := by decide +kernel
theorem dX12_image_87 : decode cX12_image 87 = .ok (.iload_n 1, 1) := by decide +kernel
theorem dX12_image_88 : decode cX12_image 88 = .ok (.iaload, 1) := by decide +kernel
theorem dX12_image_89 : decode cX12_image 89 = .ok (.bipush 8, 2) := by decide +kernel
theorem dX12_image_91 : decode cX12_image 91 = .ok (.irem, 1) := by decide +kernel
theorem dX12_image_92 : decode cX12_image 92 = .ok (.invokevirtual 504, 3) := by decide +kernel
theorem dX12_image_95 : decode cX12_image 95 = .ok (.aload_n 0, 1) := by decide +kernel
theorem dX12_image_96 : decode cX12_image 96 = .ok (.aload_n 0, 1) := by decide +kernel
theorem dX12_image_97 : decode cX12_image 97 = .ok (.getfield 150, 3) := by decide +kernel
theorem dX12_image_100 : decode cX12_image 100 = .ok (.iload_n 1, 1) := by decide +kernel
theorem dX12_image_101 : decode cX12_image 101 = .ok (.iaload, 1) := by decide +kernel
theorem dX12_image_102 : decode cX12_image 102 = .ok (.bipush 8, 2) := by decide +kernel
theorem dX12_image_104 : decode cX12_image 104 = .ok (.idiv, 1) := by decide +kernel
theorem dX12_image_105 : decode cX12_image 105 = .ok (.invokevirtual 504, 3) := by decide +kernel
theorem dX12_image_108 : decode cX12_image 108 = .ok (.aload_n 0, 1) := by decide +kernel
theorem dX12_image_109 : decode cX12_image 109 = .ok (.aload_n 0, 1) := by decide +kernel
theorem dX12_image_110 : decode cX12_image 110 = .ok (.getfield 153, 3) := by decide +kernel
theorem dX12_image_113 : decode cX12_image 113 = .ok (.iload_n 1, 1) := by decide +kernel
theorem dX12_image_114 : decode cX12_image 114 = .ok (.iaload, 1) := by decide +kernel
theorem dX12_image_115 : decode cX12_image 115 = .ok (.invokevirtual 504, 3) := by decide +kernel
theorem dX12_image_118 : decode cX12_image 118 = .ok (.aload_n 0, 1) := by decide +kernel
theorem dX12_image_119 : decode cX12_image 119 = .ok (.aload_n 0, 1) := by decide +kernel
theorem dX12_image_120 : decode cX12_image 120 = .ok (.getfield 156, 3) := by decide +kernel
theorem dX12_image_123 : decode cX12_image 123 = .ok (.iload_n 1, 1) := by decide +kernel
theorem dX12_image_124 : decode cX12_image 124 = .ok (.iaload, 1) := by decide +kernel
theorem dX12_image_125 : decode cX12_image 125 = .ok (.invokevirtual 504, 3) := by decide +kernel
theorem dX12_image_128 : decode cX12_image 128 = .ok (.aload_n 0, 1) := by decide +kernel
theorem dX12_image_129 : decode cX12_image 129 = .ok (.aload_n 0, 1) := by decide +kernel
theorem dX12_image_130 : decode cX12_image 130 = .ok (.getfield 159, 3) := by decide +kernel
theorem dX12_image_133 : decode cX12_image 133 = .ok (.iload_n 1, 1) := by decide +kernel
theorem dX12_image_134 : decode cX12_image 134 = .ok (.iaload, 1) := by decide +kernel
theorem dX12_image_135 : decode cX12_image 135 = .ok (.bipush 8, 2) := by decide +kernel
theorem dX12_image_137 : decode cX12_image 137 = .ok (.ishr, 1) := by decide +kernel
theorem dX12_image_138 : decode cX12_image 138 = .ok (.invokevirtual 504, 3) := by decide +kernel
theorem dX12_image_141 : decode cX12_image 141 = .ok (.aload_n 0, 1) := by decide +kernel
theorem dX12_image_142 : decode cX12_image 142 = .ok (.aload_n 0, 1) := by decide +kernel
theorem dX12_image_143 : decode cX12_image 143 = .ok (.getfield 159, 3) := by decide +kernel
theorem dX12_image_146 : decode cX12_image 146 = .ok (.iload_n 1, 1) := by decide +kernel
theorem dX12_image_147 : decode cX12_image 147 = .ok (.iaload, 1) := by decide +kernel
theorem dX12_image_148 : decode cX12_image 148 = .ok (.invokevirtual 504, 3) := by decide +kernel
theorem dX12_image_151 : decode cX12_image 151 = .ok (.iinc 1 1, 3) := by decide +kernel
theorem dX12_image_154 : decode cX12_image 154 = .ok (.goto (-85), 3) := by decide +kernel
theorem dX12_image_157 : decode cX12_image 157 = .ok (.sipush 223, 3) := by decide +kernel
theorem dX12_image_160 : decode cX12_image 160 = .ok (.istore_n 1, 1) := by decide +kernel
theorem dX12_image_161 : decode cX12_image 161 = .ok (.iconst 0, 1) := by decide +kernel
theorem dX12_image_162 : decode cX12_image 162 = .ok (.istore_n 2, 1) := by decide +kernel
theorem dX12_image_163 : decode cX12_image 163 = .ok (.iload_n 2, 1) := by decide +kernel
theorem dX12_image_164 : decode cX12_image 164 = .ok (.aload_n 0, 1) := by decide +kernel
theorem dX12_image_165 : decode cX12_image 165 = .ok (.getfield 244, 3) := by decide +kernel
theorem dX12_image_168 : decode cX12_image 168 = .ok (.if_icmp .ge 24, 3) := by decide +kernel
theorem dX12_image_171 : decode cX12_image 171 = .ok (.iconst 5, 1) := by decide +kernel
theorem dX12_image_172 : decode cX12_image 172 = .ok (.iload_n 1, 1) := by decide +kernel
theorem dX12_image_173 : decode cX12_image 173 = .ok (.imul, 1) := by decide +kernel
theorem dX12_image_174 : decode cX12_image 174 = .ok (.aload_n 0, 1) := by decide +kernel
theorem dX12_image_175 : decode cX12_image 175 = .ok (.getfield 241, 3) := by decide +kernel
theorem dX12_image_178 : decode cX12_image 178 = .ok (.iload_n 2, 1) := by decide +kernel
theorem dX12_image_179 : decode cX12_image 179 = .ok (.iaload, 1) := by decide +kernel
theorem dX12_image_180 : decode cX12_image 180 = .ok (.iadd, 1) := by decide +kernel
theorem dX12_image_181 : decode cX12_image 181 = .ok (.sipush 251, 3) := by decide +kernel
theorem dX12_image_184 : decode cX12_image 184 = .ok (.irem, 1) := by decide +kernel
theorem dX12_image_185 : decode cX12_image 185 = .ok (.istore_n 1, 1) := by decide +kernel
theorem dX12_image_186 : decode cX12_image 186 = .ok (.iinc 2 1, 3) := by decide +kernel
theorem dX12_image_189 : decode cX12_image 189 = .ok (.goto (-26), 3) := by decide +kernel
theorem dX12_image_192 : decode cX12_image 192 = .ok (.aload_n 0, 1) := by decide +kernel
theorem dX12_image_193 : decode cX12_image 193 = .ok (.iload_n 1, 1) := by decide +kernel
theorem dX12_image_194 : decode cX12_image 194 = .ok (.invokevirtual 504, 3) := by decide +kernel
theorem dX12_image_197 : decode cX12_image 197 = .ok (.aload_n 0, 1) := by decide +kernel
theorem dX12_image_198 : decode cX12_image 198 = .ok (.getfield 244, 3) := by decide +kernel
theorem dX12_image_201 : decode cX12_image 201 = .ok (.ireturn, 1) := by decide +kernel
theorem dX12_octet_0 : decode cX12_octet 0 = .ok (.iload_n 1, 1) := by decide +kernel
theorem dX12_octet_1 : decode cX12_octet 1 = .ok (.iconst 0, 1) := by decide +kernel
theorem dX12_octet_2 : decode cX12_octet 2 = .ok (.aload_n 0, 1) := by decide +kernel
theorem dX12_octet_3 : decode cX12_octet 3 = .ok (.getfield 244, 3) := by decide +kernel
theorem dX12_octet_6 : decode cX12_octet 6 = .ok (.iconst 1, 1) := by decide +kernel
theorem dX12_octet_7 : decode cX12_octet 7 = .ok (.isub, 1) := by decide +kernel
theorem dX12_octet_8 : decode cX12_octet 8 = .ok (.invokestatic 323, 3) := by decide +kernel
theorem dX12_octet_11 : decode cX12_octet 11 = .ok (.ifCond .eq 12, 3) := by decide +kernel
theorem dX12_octet_14 : decode cX12_octet 14 = .ok (.aload_n 0, 1) := by decide +kernel
theorem dX12_octet_15 : decode cX12_octet 15 = .ok (.getfield 241, 3) := by decide +kernel
theorem dX12_octet_18 : decode cX12_octet 18 = .ok (.iload_n 1, 1) := by decide +kernel
theorem dX12_octet_19 : decode cX12_octet 19 = .ok (.iaload, 1) := by decide +kernel
theorem dX12_octet_20 : decode cX12_octet 20 = .ok (.goto 4, 3) := by decide +kernel
theorem dX12_octet_23 : decode cX12_octet 23 = .ok (.iconst (-1), 1) := by decide +kernel
theorem dX12_octet_24 : decode cX12_octet 24 = .ok (.ireturn, 1) := by decide +kernel
theorem dX12_personOn_0 : decode cX12_personOn 0 = .ok (.aload_n 0, 1) := by decide +kernel
theorem dX12_personOn_1 : decode cX12_personOn 1 = .ok (.aload_n 0, 1) := by decide +kernel
theorem dX12_personOn_2 : decode cX12_personOn 2 = .ok (.getfield 7, 3) := by decide +kernel
theorem dX12_personOn_5 : decode cX12_personOn 5 = .ok (.iload_n 2, 1) := by decide +kernel
theorem dX12_personOn_6 : decode cX12_personOn 6 = .ok (.iaload, 1) := by decide +kernel
theorem dX12_personOn_7 : decode cX12_personOn 7 = .ok (.aload_n 0, 1) := by decide +kernel
theorem dX12_personOn_8 : decode cX12_personOn 8 = .ok (.getfield 7, 3) := by decide +kernel
theorem dX12_personOn_11 : decode cX12_personOn 11 = .ok (.iload_n 2, 1) := by decide +kernel
theorem dX12_personOn_12 : decode cX12_personOn 12 = .ok (.iconst 1, 1) := by decide +kernel
theorem dX12_personOn_13 : decode cX12_personOn 13 = .ok (.iadd, 1) := by decide +kernel
theorem dX12_personOn_14 : decode cX12_personOn 14 = .ok (.iaload, 1) := by decide +kernel
theorem dX12_personOn_15 : decode cX12_personOn 15 = .ok (.invokevirtual 437, 3) := by decide +kernel
theorem dX12_personOn_18 : decode cX12_personOn 18 = .ok (.ifCond .eq 33, 3) := by decide +kernel
theorem dX12_personOn_21 : decode cX12_personOn 21 = .ok (.aload_n 0, 1) := by decide +kernel
theorem dX12_personOn_22 : decode cX12_personOn 22 = .ok (.getfield 7, 3) := by decide +kernel
theorem dX12_personOn_25 : decode cX12_personOn 25 = .ok (.iload_n 2, 1) := by decide +kernel
theorem dX12_personOn_26 : decode cX12_personOn 26 = .ok (.iconst 2, 1) := by decide +kernel
theorem dX12_personOn_27 : decode cX12_personOn 27 = .ok (.iadd, 1) := by decide +kernel
theorem dX12_personOn_28 : decode cX12_personOn 28 = .ok (.iaload, 1) := by decide +kernel
theorem dX12_personOn_29 : decode cX12_personOn 29 = .ok (.bipush 9, 2) := by decide +kernel
theorem dX12_personOn_31 : decode cX12_personOn 31 = .ok (.if_icmp .ge 20, 3) := by decide +kernel
theorem dX12_personOn_34 : decode cX12_personOn 34 = .ok (.aload_n 0, 1) := by decide +kernel
theorem dX12_personOn_35 : decode cX12_personOn 35 = .ok (.getfield 7, 3) := by decide +kernel
theorem dX12_personOn_38 : decode cX12_personOn 38 = .ok (.iload_n 2, 1) := by decide +kernel
theorem dX12_personOn_39 : decode cX12_personOn 39 = .ok (.iconst 3, 1) := by decide +kernel
theorem dX12_personOn_40 : decode cX12_personOn 40 = .ok (.iadd, 1) := by decide +kernel
theorem dX12_personOn_41 : decode cX12_personOn 41 = .ok (.iaload, 1) := by decide +kernel
theorem dX12_personOn_42 : decode cX12_personOn 42 = .ok (.iconst 1, 1) := by decide +kernel
theorem dX12_personOn_43 : decode cX12_personOn 43 = .ok (.bipush 99, 2) := by decide +kernel
theorem dX12_personOn_45 : decode cX12_personOn 45 = .ok (.invokestatic 323, 3) := by decide +kernel
theorem dX12_personOn_48 : decode cX12_personOn 48 = .ok (.ifCond .ne 5, 3) := by decide +kernel
theorem dX12_personOn_51 : decode cX12_personOn 51 = .ok (.iconst 0, 1) := by decide +kernel
theorem dX12_personOn_52 : decode cX12_personOn 52 = .ok (.ireturn, 1) := by decide +kernel
theorem dX12_personOn_53 : decode cX12_personOn 53 = .ok (.aload_n 0, 1) := by decide +kernel
theorem dX12_personOn_54 : decode cX12_personOn 54 = .ok (.getfield 150, 3) := by decide +kernel
theorem dX12_personOn_57 : decode cX12_personOn 57 = .ok (.bipush 6, 2) := by decide +kernel
theorem dX12_personOn_59 : decode cX12_personOn 59 = .ok (.iload_n 1, 1) := by decide +kernel
theorem dX12_personOn_60 : decode cX12_personOn 60 = .ok (.iadd, 1) := by decide +kernel
theorem dX12_personOn_61 : decode cX12_personOn 61 = .ok (.bipush 8, 2) := by decide +kernel
theorem dX12_personOn_63 : decode cX12_personOn 63 = .ok (.aload_n 0, 1) := by decide +kernel
theorem dX12_personOn_64 : decode cX12_personOn 64 = .ok (.getfield 7, 3) := by decide +kernel
theorem dX12_personOn_67 : decode cX12_personOn 67 = .ok (.iload_n 2, 1) := by decide +kernel
theorem dX12_personOn_68 : decode cX12_personOn 68 = .ok (.iconst 1, 1) := by decide +kernel
theorem dX12_personOn_69 : decode cX12_personOn 69 = .ok (.iadd, 1) := by decide +kernel
theorem dX12_personOn_70 : decode cX12_personOn 70 = .ok (.iaload, 1) := by decide +kernel
theorem dX12_personOn_71 : decode cX12_personOn 71 = .ok (.imul, 1) := by decide +kernel
theorem dX12_personOn_72 : decode cX12_personOn 72 = .ok (.aload_n 0, 1) := by decide +kernel
theorem dX12_personOn_73 : decode cX12_personOn 73 = .ok (.getfield 7, 3) := by decide +kernel
theorem dX12_personOn_76 : decode cX12_personOn 76 = .ok (.iload_n 2, 1) := by decide +kernel
theorem dX12_personOn_77 : decode cX12_personOn 77 = .ok (.iaload, 1) := by decide +kernel
theorem dX12_personOn_78 : decode cX12_personOn 78 = .ok (.iadd, 1) := by decide +kernel
theorem dX12_personOn_79 : decode cX12_personOn 79 = .ok (.iastore, 1) := by decide +kernel
theorem dX12_personOn_80 : decode cX12_personOn 80 = .ok (.aload_n 0, 1) := by decide +kernel
theorem dX12_personOn_81 : decode cX12_personOn 81 = .ok (.getfield 153, 3) := by decide +kernel
theorem dX12_personOn_84 : decode cX12_personOn 84 = .ok (.bipush 6, 2) := by decide +kernel
theorem dX12_personOn_86 : decode cX12_personOn 86 = .ok (.iload_n 1, 1) := by decide +kernel
theorem dX12_personOn_87 : decode cX12_personOn 87 = .ok (.iadd, 1) := by decide +kernel
theorem dX12_personOn_88 : decode cX12_personOn 88 = .ok (.aload_n 0, 1) := by decide +kernel
theorem dX12_personOn_89 : decode cX12_personOn 89 = .ok (.getfield 7, 3) := by decide +kernel
theorem dX12_personOn_92 : decode cX12_personOn 92 = .ok (.iload_n 2, 1) := by decide +kernel
theorem dX12_personOn_93 : decode cX12_personOn 93 = .ok (.iconst 2, 1) := by decide +kernel
theorem dX12_personOn_94 : decode cX12_personOn 94 = .ok (.iadd, 1) := by decide +kernel
theorem dX12_personOn_95 : decode cX12_personOn 95 = .ok (.iaload, 1) := by decide +kernel
theorem dX12_personOn_96 : decode cX12_personOn 96 = .ok (.iastore, 1) := by decide +kernel
theorem dX12_personOn_97 : decode cX12_personOn 97 = .ok (.aload_n 0, 1) := by decide +kernel
theorem dX12_personOn_98 : decode cX12_personOn 98 = .ok (.getfield 156, 3) := by decide +kernel
theorem dX12_personOn_101 : decode cX12_personOn 101 = .ok (.bipush 6, 2) := by decide +kernel
theorem dX12_personOn_103 : decode cX12_personOn 103 = .ok (.iload_n 1, 1) := by decide +kernel
theorem dX12_personOn_104 : decode cX12_personOn 104 = .ok (.iadd, 1) := by decide +kernel
theorem dX12_personOn_105 : decode cX12_personOn 105 = .ok (.aload_n 0, 1) := by decide +kernel
theorem dX12_personOn_106 : decode cX12_personOn 106 = .ok (.getfield 7, 3) := by decide +kernel
theorem dX12_personOn_109 : decode cX12_personOn 109 = .ok (.iload_n 2, 1) := by decide +kernel
theorem dX12_personOn_110 : decode cX12_personOn 110 = .ok (.iconst 3, 1) := by decide +kernel
theorem dX12_personOn_111 : decode cX12_personOn 111 = .ok (.iadd, 1) := by decide +kernel
theorem dX12_personOn_112 : decode cX12_personOn 112 = .ok (.iaload, 1) := by decide +kernel
theorem dX12_personOn_113 : decode cX12_personOn 113 = .ok (.iastore, 1) := by decide +kernel
theorem dX12_personOn_114 : decode cX12_personOn 114 = .ok (.aload_n 0, 1) := by decide +kernel
theorem dX12_personOn_115 : decode cX12_personOn 115 = .ok (.getfield 159, 3) := by decide +kernel
theorem dX12_personOn_118 : decode cX12_personOn 118 = .ok (.bipush 6, 2) := by decide +kernel
theorem dX12_personOn_120 : decode cX12_personOn 120 = .ok (.iload_n 1, 1) := by decide +kernel
theorem dX12_personOn_121 : decode cX12_personOn 121 = .ok (.iadd, 1) := by decide +kernel
theorem dX12_personOn_122 : decode cX12_personOn 122 = .ok (.aload_n 0, 1) := by decide +kernel
theorem dX12_personOn_123 : decode cX12_personOn 123 = .ok (.getfield 7, 3) := by decide +kernel
theorem dX12_personOn_126 : decode cX12_personOn 126 = .ok (.iload_n 2, 1) := by decide +kernel
theorem dX12_personOn_127 : decode cX12_personOn 127 = .ok (.iconst 4, 1) := by decide +kernel
theorem dX12_personOn_128 : decode cX12_personOn 128 = .ok (.iadd, 1) := by decide +kernel
theorem dX12_personOn_129 : decode cX12_personOn 129 = .ok (.iaload, 1) := by decide +kernel
theorem dX12_personOn_130 : decode cX12_personOn 130 = .ok (.bipush 8, 2) := by decide +kernel
theorem dX12_personOn_132 : decode cX12_personOn 132 = .ok (.ishl, 1) := by decide +kernel
theorem dX12_personOn_133 : decode cX12_personOn 133 = .ok (.aload_n 0, 1) := by decide +kernel
theorem dX12_personOn_134 : decode cX12_personOn 134 = .ok (.getfield 7, 3) := by decide +kernel
theorem dX12_personOn_137 : decode cX12_personOn 137 = .ok (.iload_n 2, 1) := by decide +kernel
theorem dX12_personOn_138 : decode cX12_personOn 138 = .ok (.iconst 5, 1) := by decide +kernel
theorem dX12_personOn_139 : decode cX12_personOn 139 = .ok (.iadd, 1) := by decide +kernel
theorem dX12_personOn_140 : decode cX12_personOn 140 = .ok (.iaload, 1) := by decide +kernel
theorem dX12_personOn_141 : decode cX12_personOn 141 = .ok (.ior, 1) := by decide +kernel
theorem dX12_personOn_142 : decode cX12_personOn 142 = .ok (.iastore, 1) := by decide +kernel
theorem dX12_personOn_143 : decode cX12_personOn 143 = .ok (.aload_n 0, 1) := by decide +kernel
theorem dX12_personOn_144 : decode cX12_personOn 144 = .ok (.getfield 159, 3) := by decide +kernel
theorem dX12_personOn_147 : decode cX12_personOn 147 = .ok (.bipush 6, 2) := by decide +kernel
theorem dX12_personOn_149 : decode cX12_personOn 149 = .ok (.iload_n 1, 1) := by decide +kernel
theorem dX12_personOn_150 : decode cX12_personOn 150 = .ok (.iadd, 1) := by decide +kernel
theorem dX12_personOn_151 : decode cX12_personOn 151 = .ok (.iaload, 1) := by decide +kernel
theorem dX12_personOn_152 : decode cX12_personOn 152 = .ok (.sipush 999, 3) := by decide +kernel
theorem dX12_personOn_155 : decode cX12_personOn 155 = .ok (.if_icmp .gt 7, 3) := by decide +kernel
theorem dX12_personOn_158 : decode cX12_personOn 158 = .ok (.iconst 1, 1) := by decide +kernel
theorem dX12_personOn_159 : decode cX12_personOn 159 = .ok (.goto 4, 3) := by decide +kernel
theorem dX12_personOn_162 : decode cX12_personOn 162 = .ok (.iconst 0, 1) := by decide +kernel
theorem dX12_personOn_163 : decode cX12_personOn 163 = .ok (.ireturn, 1) := by decide +kernel
theorem dX12_comesOn_0 : decode cX12_comesOn 0 = .ok (.aload_n 0, 1) := by decide +kernel
theorem dX12_comesOn_1 : decode cX12_comesOn 1 = .ok (.getfield 54, 3) := by decide +kernel
theorem dX12_comesOn_4 : decode cX12_comesOn 4 = .ok (.aload_n 0, 1) := by decide +kernel
theorem dX12_comesOn_5 : decode cX12_comesOn 5 = .ok (.getfield 51, 3) := by decide +kernel
theorem dX12_comesOn_8 : decode cX12_comesOn 8 = .ok (.iaload, 1) := by decide +kernel
theorem dX12_comesOn_9 : decode cX12_comesOn 9 = .ok (.aload_n 0, 1) := by decide +kernel
theorem dX12_comesOn_10 : decode cX12_comesOn 10 = .ok (.getfield 57, 3) := by decide +kernel
theorem dX12_comesOn_13 : decode cX12_comesOn 13 = .ok (.aload_n 0, 1) := by decide +kernel
theorem dX12_comesOn_14 : decode cX12_comesOn 14 = .ok (.getfield 51, 3) := by decide +kernel
theorem dX12_comesOn_17 : decode cX12_comesOn 17 = .ok (.iaload, 1) := by decide +kernel
theorem dX12_comesOn_18 : decode cX12_comesOn 18 = .ok (.imul, 1) := by decide +kernel
theorem dX12_comesOn_19 : decode cX12_comesOn 19 = .ok (.istore_n 2, 1) := by decide +kernel
theorem dX12_comesOn_20 : decode cX12_comesOn 20 = .ok (.iload_n 1, 1) := by decide +kernel
theorem dX12_comesOn_21 : decode cX12_comesOn 21 = .ok (.iconst 3, 1) := by decide +kernel
theorem dX12_comesOn_22 : decode cX12_comesOn 22 = .ok (.iload_n 2, 1) := by decide +kernel
theorem dX12_comesOn_23 : decode cX12_comesOn 23 = .ok (.iadd, 1) := by decide +kernel
theorem dX12_comesOn_24 : decode cX12_comesOn 24 = .ok (.bipush 6, 2) := by decide +kernel
theorem dX12_comesOn_26 : decode cX12_comesOn 26 = .ok (.aload_n 0, 1) := by decide +kernel
theorem dX12_comesOn_27 : decode cX12_comesOn 27 = .ok (.getfield 63, 3) := by decide +kernel
theorem dX12_comesOn_30 : decode cX12_comesOn 30 = .ok (.aload_n 0, 1) := by decide +kernel
theorem dX12_comesOn_31 : decode cX12_comesOn 31 = .ok (.getfield 51, 3) := by decide +kernel
theorem dX12_comesOn_34 : decode cX12_comesOn 34 = .ok (.iaload, 1) := by decide +kernel
theorem dX12_comesOn_35 : decode cX12_comesOn 35 = .ok (.imul, 1) := by decide +kernel
theorem dX12_comesOn_36 : decode cX12_comesOn 36 = .ok (.iadd, 1) := by decide +kernel
theorem dX12_comesOn_37 : decode cX12_comesOn 37 = .ok (.if_icmp .ne 25, 3) := by decide +kernel
theorem dX12_comesOn_40 : decode cX12_comesOn 40 = .ok (.aload_n 0, 1) := by decide +kernel
theorem dX12_comesOn_41 : decode cX12_comesOn 41 = .ok (.getfield 7, 3) := by decide +kernel
theorem dX12_comesOn_44 : decode cX12_comesOn 44 = .ok (.iconst 0, 1) := by decide +kernel
theorem dX12_comesOn_45 : decode cX12_comesOn 45 = .ok (.iaload, 1) := by decide +kernel
theorem dX12_comesOn_46 : decode cX12_comesOn 46 = .ok (.bipush 8, 2) := by decide +kernel
theorem dX12_comesOn_48 : decode cX12_comesOn 48 = .ok (.ishl, 1) := by decide +kernel
theorem dX12_comesOn_49 : decode cX12_comesOn 49 = .ok (.aload_n 0, 1) := by decide +kernel
theorem dX12_comesOn_50 : decode cX12_comesOn 50 = .ok (.getfield 7, 3) := by decide +kernel
theorem dX12_comesOn_53 : decode cX12_comesOn 53 = .ok (.iconst 1, 1) := by decide +kernel
theorem dX12_comesOn_54 : decode cX12_comesOn 54 = .ok (.iaload, 1) := by decide +kernel
theorem dX12_comesOn_55 : decode cX12_comesOn 55 = .ok (.ior, 1) := by decide +kernel
theorem dX12_comesOn_56 : decode cX12_comesOn 56 = .ok (.sipush 999, 3) := by decide +kernel
theorem dX12_comesOn_59 : decode cX12_comesOn 59 = .ok (.if_icmp .le 5, 3) := by decide +kernel
theorem dX12_comesOn_62 : decode cX12_comesOn 62 = .ok (.iconst 0, 1) := by decide +kernel
theorem dX12_comesOn_63 : decode cX12_comesOn 63 = .ok (.ireturn, 1) := by decide +kernel
theorem dX12_comesOn_64 : decode cX12_comesOn 64 = .ok (.sipush 223, 3) := by decide +kernel
theorem dX12_comesOn_67 : decode cX12_comesOn 67 = .ok (.istore_n 3, 1) := by decide +kernel
theorem dX12_comesOn_68 : decode cX12_comesOn 68 = .ok (.iconst 0, 1) := by decide +kernel
theorem dX12_comesOn_69 : decode cX12_comesOn 69 = .ok (.istore 4, 2) := by decide +kernel
theorem dX12_comesOn_71 : decode cX12_comesOn 71 = .ok (.iload 4, 2) := by decide +kernel
theorem dX12_comesOn_73 : decode cX12_comesOn 73 = .ok (.iload_n 1, 1) := by decide +kernel
theorem dX12_comesOn_74 : decode cX12_comesOn 74 = .ok (.iconst 1, 1) := by decide +kernel
theorem dX12_comesOn_75 : decode cX12_comesOn 75 = .ok (.isub, 1) := by decide +kernel
theorem dX12_comesOn_76 : decode cX12_comesOn 76 = .ok (.if_icmp .ge 25, 3) := by decide +kernel
theorem dX12_comesOn_79 : decode cX12_comesOn 79 = .ok (.iconst 5, 1) := by decide +kernel
theorem dX12_comesOn_80 : decode cX12_comesOn 80 = .ok (.iload_n 3, 1) := by decide +kernel
theorem dX12_comesOn_81 : decode cX12_comesOn 81 = .ok (.imul, 1) := by decide +kernel
theorem dX12_comesOn_82 : decode cX12_comesOn 82 = .ok (.aload_n 0, 1) := by decide +kernel
theorem dX12_comesOn_83 : decode cX12_comesOn 83 = .ok (.getfield 7, 3) := by decide +kernel
theorem dX12_comesOn_86 : decode cX12_comesOn 86 = .ok (.iload 4, 2) := by decide +kernel
theorem dX12_comesOn_88 : decode cX12_comesOn 88 = .ok (.iaload, 1) := by decide +kernel
theorem dX12_comesOn_89 : decode cX12_comesOn 89 = .ok (.iadd, 1) := by decide +kernel
theorem dX12_comesOn_90 : decode cX12_comesOn 90 = .ok (.sipush 251, 3) := by decide +kernel
theorem dX12_comesOn_93 : decode cX12_comesOn 93 = .ok (.irem, 1) := by decide +kernel
theorem dX12_comesOn_94 : decode cX12_comesOn 94 = .ok (.istore_n 3, 1) := by decide +kernel
theorem dX12_comesOn_95 : decode cX12_comesOn 95 = .ok (.iinc 4 1, 3) := by decide +kernel
theorem dX12_comesOn_98 : decode cX12_comesOn 98 = .ok (.goto (-27), 3) := by decide +kernel
theorem dX12_comesOn_101 : decode cX12_comesOn 101 = .ok (.aload_n 0, 1) := by decide +kernel
theorem dX12_comesOn_102 : decode cX12_comesOn 102 = .ok (.getfield 7, 3) := by decide +kernel
theorem dX12_comesOn_105 : decode cX12_comesOn 105 = .ok (.iload_n 1, 1) := by decide +kernel
theorem dX12_comesOn_106 : decode cX12_comesOn 106 = .ok (.iconst 1, 1) := by decide +kernel
theorem dX12_comesOn_107 : decode cX12_comesOn 107 = .ok (.isub, 1) := by decide +kernel
theorem dX12_comesOn_108 : decode cX12_comesOn 108 = .ok (.iaload, 1) := by decide +kernel
theorem dX12_comesOn_109 : decode cX12_comesOn 109 = .ok (.iload_n 3, 1) := by decide +kernel
theorem dX12_comesOn_110 : decode cX12_comesOn 110 = .ok (.if_icmp .eq 5, 3) := by decide +kernel
theorem dX12_comesOn_113 : decode cX12_comesOn 113 = .ok (.iconst 0, 1) := by decide +kernel
theorem dX12_comesOn_114 : decode cX12_comesOn 114 = .ok (.ireturn, 1) := by decide +kernel
theorem dX12_comesOn_115 : decode cX12_comesOn 115 = .ok (.aload_n 0, 1) := by decide +kernel
theorem dX12_comesOn_116 : decode cX12_comesOn 116 = .ok (.iconst 1, 1) := by decide +kernel
theorem dX12_comesOn_117 : decode cX12_comesOn 117 = .ok (.iconst 0, 1) := by decide +kernel
theorem dX12_comesOn_118 : decode cX12_comesOn 118 = .ok (.invokevirtual 414, 3) := by decide +kernel
theorem dX12_comesOn_121 : decode cX12_comesOn 121 = .ok (.aload_n 0, 1) := by decide +kernel
theorem dX12_comesOn_122 : decode cX12_comesOn 122 = .ok (.getfield 144, 3) := by decide +kernel
theorem dX12_comesOn_125 : decode cX12_comesOn 125 = .ok (.iconst 1, 1) := by decide +kernel
theorem dX12_comesOn_126 : decode cX12_comesOn 126 = .ok (.aload_n 0, 1) := by decide +kernel
theorem dX12_comesOn_127 : decode cX12_comesOn 127 = .ok (.getfield 7, 3) := by decide +kernel
theorem dX12_comesOn_130 : decode cX12_comesOn 130 = .ok (.iconst 0, 1) := by decide +kernel
theorem dX12_comesOn_131 : decode cX12_comesOn 131 = .ok (.iaload, 1) := by decide +kernel
theorem dX12_comesOn_132 : decode cX12_comesOn 132 = .ok (.bipush 8, 2) := by decide +kernel
theorem dX12_comesOn_134 : decode cX12_comesOn 134 = .ok (.ishl, 1) := by decide +kernel
theorem dX12_comesOn_135 : decode cX12_comesOn 135 = .ok (.aload_n 0, 1) := by decide +kernel
theorem dX12_comesOn_136 : decode cX12_comesOn 136 = .ok (.getfield 7, 3) := by decide +kernel
theorem dX12_comesOn_139 : decode cX12_comesOn 139 = .ok (.iconst 1, 1) := by decide +kernel
theorem dX12_comesOn_140 : decode cX12_comesOn 140 = .ok (.iaload, 1) := by decide +kernel
theorem dX12_comesOn_141 : decode cX12_comesOn 141 = .ok (.ior, 1) := by decide +kernel
theorem dX12_comesOn_142 : decode cX12_comesOn 142 = .ok (.iastore, 1) := by decide +kernel
theorem dX12_comesOn_143 : decode cX12_comesOn 143 = .ok (.aload_n 0, 1) := by decide +kernel
theorem dX12_comesOn_144 : decode cX12_comesOn 144 = .ok (.getfield 162, 3) := by decide +kernel
theorem dX12_comesOn_147 : decode cX12_comesOn 147 = .ok (.iconst 1, 1) := by decide +kernel
theorem dX12_comesOn_148 : decode cX12_comesOn 148 = .ok (.iconst 0, 1) := by decide +kernel
theorem dX12_comesOn_149 : decode cX12_comesOn 149 = .ok (.iastore, 1) := by decide +kernel
theorem dX12_comesOn_150 : decode cX12_comesOn 150 = .ok (.iconst 0, 1) := by decide +kernel
theorem dX12_comesOn_151 : decode cX12_comesOn 151 = .ok (.istore 4, 2) := by decide +kernel
theorem dX12_comesOn_153 : decode cX12_comesOn 153 = .ok (.iload 4, 2) := by decide +kernel
theorem dX12_comesOn_155 : decode cX12_comesOn 155 = .ok (.iload_n 2, 1) := by decide +kernel
theorem dX12_comesOn_156 : decode cX12_comesOn 156 = .ok (.if_icmp .ge 70, 3) := by decide +kernel
theorem dX12_comesOn_159 : decode cX12_comesOn 159 = .ok (.aload_n 0, 1) := by decide +kernel
theorem dX12_comesOn_160 : decode cX12_comesOn 160 = .ok (.getfield 7, 3) := by decide +kernel
theorem dX12_comesOn_163 : decode cX12_comesOn 163 = .ok (.iconst 2, 1) := by decide +kernel
theorem dX12_comesOn_164 : decode cX12_comesOn 164 = .ok (.iload 4, 2) := by decide +kernel
theorem dX12_comesOn_166 : decode cX12_comesOn 166 = .ok (.iadd, 1) := by decide +kernel
theorem dX12_comesOn_167 : decode cX12_comesOn 167 = .ok (.iaload, 1) := by decide +kernel
theorem dX12_comesOn_168 : decode cX12_comesOn 168 = .ok (.bipush 99, 2) := by decide +kernel
theorem dX12_comesOn_170 : decode cX12_comesOn 170 = .ok (.if_icmp .le 5, 3) := by decide +kernel
theorem dX12_comesOn_173 : decode cX12_comesOn 173 = .ok (.iconst 0, 1) := by decide +kernel
theorem dX12_comesOn_174 : decode cX12_comesOn 174 = .ok (.ireturn, 1) := by decide +kernel
theorem dX12_comesOn_175 : decode cX12_comesOn 175 = .ok (.aload_n 0, 1) := by decide +kernel
theorem dX12_comesOn_176 : decode cX12_comesOn 176 = .ok (.getfield 147, 3) := by decide +kernel
theorem dX12_comesOn_179 : decode cX12_comesOn 179 = .ok (.bipush 64, 2) := by decide +kernel
theorem dX12_comesOn_181 : decode cX12_comesOn 181 = .ok (.bipush 8, 2) := by decide +kernel
theorem dX12_comesOn_183 : decode cX12_comesOn 183 = .ok (.iload 4, 2) := by decide +kernel
theorem dX12_comesOn_185 : decode cX12_comesOn 185 = .ok (.aload_n 0, 1) := by decide +kernel
theorem dX12_comesOn_186 : decode cX12_comesOn 186 = .ok (.getfield 54, 3) := by decide +kernel
theorem dX12_comesOn_189 : decode cX12_comesOn 189 = .ok (.aload_n 0, 1) := by decide +kernel
theorem dX12_comesOn_190 : decode cX12_comesOn 190 = .ok (.getfield 51, 3) := by decide +kernel
theorem dX12_comesOn_193 : decode cX12_comesOn 193 = .ok (.iaload, 1) := by decide +kernel
theorem dX12_comesOn_194 : decode cX12_comesOn 194 = .ok (.idiv, 1) := by decide +kernel
theorem dX12_comesOn_195 : decode cX12_comesOn 195 = .ok (.imul, 1) := by decide +kernel
theorem dX12_comesOn_196 : decode cX12_comesOn 196 = .ok (.iadd, 1) := by decide +kernel
theorem dX12_comesOn_197 : decode cX12_comesOn 197 = .ok (.iload 4, 2) := by decide +kernel
theorem dX12_comesOn_199 : decode cX12_comesOn 199 = .ok (.aload_n 0, 1) := by decide +kernel
theorem dX12_comesOn_200 : decode cX12_comesOn 200 = .ok (.getfield 54, 3) := by decide +kernel
theorem dX12_comesOn_203 : decode cX12_comesOn 203 = .ok (.aload_n 0, 1) := by decide +kernel
theorem dX12_comesOn_204 : decode cX12_comesOn 204 = .ok (.getfield 51, 3) := by decide +kernel
theorem dX12_comesOn_207 : decode cX12_comesOn 207 = .ok (.iaload, 1) := by decide +kernel
theorem dX12_comesOn_208 : decode cX12_comesOn 208 = .ok (.irem, 1) := by decide +kernel
theorem dX12_comesOn_209 : decode cX12_comesOn 209 = .ok (.iadd, 1) := by decide +kernel
theorem dX12_comesOn_210 : decode cX12_comesOn 210 = .ok (.aload_n 0, 1) := by decide +kernel
theorem dX12_comesOn_211 : decode cX12_comesOn 211 = .ok (.getfield 7, 3) := by decide +kernel
theorem dX12_comesOn_214 : decode cX12_comesOn 214 = .ok (.iconst 2, 1) := by decide +kernel
theorem dX12_comesOn_215 : decode cX12_comesOn 215 = .ok (.iload 4, 2) := by decide +kernel
theorem dX12_comesOn_217 : decode cX12_comesOn 217 = .ok (.iadd, 1) := by decide +kernel
theorem dX12_comesOn_218 : decode cX12_comesOn 218 = .ok (.iaload, 1) := by decide +kernel
theorem dX12_comesOn_219 : decode cX12_comesOn 219 = .ok (.iastore, 1) := by decide +kernel
theorem dX12_comesOn_220 : decode cX12_comesOn 220 = .ok (.iinc 4 1, 3) := by decide +kernel
theorem dX12_comesOn_223 : decode cX12_comesOn 223 = .ok (.goto (-70), 3) := by decide +kernel
theorem dX12_comesOn_226 : decode cX12_comesOn 226 = .ok (.iconst 0, 1) := by decide +kernel
theorem dX12_comesOn_227 : decode cX12_comesOn 227 = .ok (.istore 4, 2) := by decide +kernel
theorem dX12_comesOn_229 : decode cX12_comesOn 229 = .ok (.iload 4, 2) := by decide +kernel
theorem dX12_comesOn_231 : decode cX12_comesOn 231 = .ok (.aload_n 0, 1) := by decide +kernel
theorem dX12_comesOn_232 : decode cX12_comesOn 232 = .ok (.getfield 63, 3) := by decide +kernel
theorem dX12_comesOn_235 : decode cX12_comesOn 235 = .ok (.aload_n 0, 1) := by decide +kernel
theorem dX12_comesOn_236 : decode cX12_comesOn 236 = .ok (.getfield 51, 3) := by decide +kernel
theorem dX12_comesOn_239 : decode cX12_comesOn 239 = .ok (.iaload, 1) := by decide +kernel
theorem dX12_comesOn_240 : decode cX12_comesOn 240 = .ok (.if_icmp .ge 29, 3) := by decide +kernel
theorem dX12_comesOn_243 : decode cX12_comesOn 243 = .ok (.aload_n 0, 1) := by decide +kernel
theorem dX12_comesOn_244 : decode cX12_comesOn 244 = .ok (.iload 4, 2) := by decide +kernel
theorem dX12_comesOn_246 : decode cX12_comesOn 246 = .ok (.iconst 2, 1) := by decide +kernel
theorem dX12_comesOn_247 : decode cX12_comesOn 247 = .ok (.iload_n 2, 1) := by decide +kernel
theorem dX12_comesOn_248 : decode cX12_comesOn 248 = .ok (.iadd, 1) := by decide +kernel
theorem dX12_comesOn_249 : decode cX12_comesOn 249 = .ok (.bipush 6, 2) := by decide +kernel
theorem dX12_comesOn_251 : decode cX12_comesOn 251 = .ok (.iload 4, 2) := by decide +kernel
theorem dX12_comesOn_253 : decode cX12_comesOn 253 = .ok (.imul, 1) := by decide +kernel
theorem dX12_comesOn_254 : decode cX12_comesOn 254 = .ok (.iadd, 1) := by decide +kernel
theorem dX12_comesOn_255 : decode cX12_comesOn 255 = .ok (.invokevirtual 507, 3) := by decide +kernel
theorem dX12_comesOn_258 : decode cX12_comesOn 258 = .ok (.ifCond .ne 5, 3) := by decide +kernel
theorem dX12_comesOn_261 : decode cX12_comesOn 261 = .ok (.iconst 0, 1) := by decide +kernel
theorem dX12_comesOn_262 : decode cX12_comesOn 262 = .ok (.ireturn, 1) := by decide +kernel
theorem dX12_comesOn_263 : decode cX12_comesOn 263 = .ok (.iinc 4 1, 3) := by decide +kernel
theorem dX12_comesOn_266 : decode cX12_comesOn 266 = .ok (.goto (-37), 3) := by decide +kernel
theorem dX12_comesOn_269 : decode cX12_comesOn 269 = .ok (.iconst 1, 1) := by decide +kernel
theorem dX12_comesOn_270 : decode cX12_comesOn 270 = .ok (.ireturn, 1) := by decide +kernel
theorem dX12_on_0 : decode cX12_on 0 = .ok (.aload_n 0, 1) := by decide +kernel
theorem dX12_on_1 : decode cX12_on 1 = .ok (.getfield 13, 3) := by decide +kernel
theorem dX12_on_4 : decode cX12_on 4 = .ok (.istore_n 1, 1) := by decide +kernel
theorem dX12_on_5 : decode cX12_on 5 = .ok (.aload_n 0, 1) := by decide +kernel
theorem dX12_on_6 : decode cX12_on 6 = .ok (.iconst 0, 1) := by decide +kernel
theorem dX12_on_7 : decode cX12_on 7 = .ok (.putfield 13, 3) := by decide +kernel
theorem dX12_on_10 : decode cX12_on 10 = .ok (.aload_n 0, 1) := by decide +kernel
theorem dX12_on_11 : decode cX12_on 11 = .ok (.iload_n 1, 1) := by decide +kernel
theorem dX12_on_12 : decode cX12_on 12 = .ok (.invokevirtual 510, 3) := by decide +kernel
theorem dX12_on_15 : decode cX12_on 15 = .ok (.ifCond .ne 17, 3) := by decide +kernel
theorem dX12_on_18 : decode cX12_on 18 = .ok (.aload_n 0, 1) := by decide +kernel
theorem dX12_on_19 : decode cX12_on 19 = .ok (.iconst 5, 1) := by decide +kernel
theorem dX12_on_20 : decode cX12_on 20 = .ok (.invokevirtual 247, 3) := by decide +kernel
theorem dX12_on_23 : decode cX12_on 23 = .ok (.ifCond .lt 7, 3) := by decide +kernel
theorem dX12_on_26 : decode cX12_on 26 = .ok (.iconst 1, 1) := by decide +kernel
theorem dX12_on_27 : decode cX12_on 27 = .ok (.goto 4, 3) := by decide +kernel
theorem dX12_on_30 : decode cX12_on 30 = .ok (.iconst 0, 1) := by decide +kernel
theorem dX12_on_31 : decode cX12_on 31 = .ok (.ireturn, 1) := by decide +kernel
theorem dX12_on_32 : decode cX12_on 32 = .ok (.aload_n 0, 1) := by decide +kernel
theorem dX12_on_33 : decode cX12_on 33 = .ok (.iconst 0, 1) := by decide +kernel
theorem dX12_on_34 : decode cX12_on 34 = .ok (.iconst 1, 1) := by decide +kernel
theorem dX12_on_35 : decode cX12_on 35 = .ok (.invokevirtual 414, 3) := by decide +kernel
theorem dX12_on_38 : decode cX12_on 38 = .ok (.aload_n 0, 1) := by decide +kernel
theorem dX12_on_39 : decode cX12_on 39 = .ok (.iconst 0, 1) := by decide +kernel
theorem dX12_on_40 : decode cX12_on 40 = .ok (.putfield 171, 3) := by decide +kernel
theorem dX12_on_43 : decode cX12_on 43 = .ok (.iconst 1, 1) := by decide +kernel
theorem dX12_on_44 : decode cX12_on 44 = .ok (.ireturn, 1) := by decide +kernel
