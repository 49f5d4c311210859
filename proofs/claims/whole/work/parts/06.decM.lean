theorem dX12_init_0 : decode cX12_init 0 = .ok (.aload_n 0, 1) := by decide +kernel
theorem dX12_init_1 : decode cX12_init 1 = .ok (.invokespecial 1, 3) := by decide +kernel
theorem dX12_init_4 : decode cX12_init 4 = .ok (.aload_n 0, 1) := by decide +kernel
theorem dX12_init_5 : decode cX12_init 5 = .ok (.iconst 4, 1) := by decide +kernel
theorem dX12_init_6 : decode cX12_init 6 = .ok (.newarray .int, 2) := by decide +kernel
theorem dX12_init_8 : decode cX12_init 8 = .ok (.dup, 1) := by decide +kernel
theorem dX12_init_9 : decode cX12_init 9 = .ok (.iconst 0, 1) := by decide +kernel
theorem dX12_init_10 : decode cX12_init 10 = .ok (.bipush (-9), 2) := by decide +kernel
theorem dX12_init_12 : decode cX12_init 12 = .ok (.iastore, 1) := by decide +kernel
theorem dX12_init_13 : decode cX12_init 13 = .ok (.dup, 1) := by decide +kernel
theorem dX12_init_14 : decode cX12_init 14 = .ok (.iconst 1, 1) := by decide +kernel
theorem dX12_init_15 : decode cX12_init 15 = .ok (.bipush (-9), 2) := by decide +kernel
theorem dX12_init_17 : decode cX12_init 17 = .ok (.iastore, 1) := by decide +kernel
theorem dX12_init_18 : decode cX12_init 18 = .ok (.dup, 1) := by decide +kernel
theorem dX12_init_19 : decode cX12_init 19 = .ok (.iconst 2, 1) := by decide +kernel
theorem dX12_init_20 : decode cX12_init 20 = .ok (.bipush (-9), 2) := by decide +kernel
theorem dX12_init_22 : decode cX12_init 22 = .ok (.iastore, 1) := by decide +kernel
theorem dX12_init_23 : decode cX12_init 23 = .ok (.dup, 1) := by decide +kernel
theorem dX12_init_24 : decode cX12_init 24 = .ok (.iconst 3, 1) := by decide +kernel
theorem dX12_init_25 : decode cX12_init 25 = .ok (.bipush (-9), 2) := by decide +kernel
theorem dX12_init_27 : decode cX12_init 27 = .ok (.iastore, 1) := by decide +kernel
theorem dX12_init_28 : decode cX12_init 28 = .ok (.putfield 9, 3) := by decide +kernel
theorem dX12_init_31 : decode cX12_init 31 = .ok (.aload_n 0, 1) := by decide +kernel
theorem dX12_init_32 : decode cX12_init 32 = .ok (.iconst 4, 1) := by decide +kernel
theorem dX12_init_33 : decode cX12_init 33 = .ok (.newarray .int, 2) := by decide +kernel
theorem dX12_init_35 : decode cX12_init 35 = .ok (.putfield 13, 3) := by decide +kernel
theorem dX12_init_38 : decode cX12_init 38 = .ok (.aload_n 0, 1) := by decide +kernel
theorem dX12_init_39 : decode cX12_init 39 = .ok (.sipush 240, 3) := by decide +kernel
theorem dX12_init_42 : decode cX12_init 42 = .ok (.newarray .int, 2) := by decide +kernel
theorem dX12_init_44 : decode cX12_init 44 = .ok (.putfield 16, 3) := by decide +kernel
theorem dX12_init_47 : decode cX12_init 47 = .ok (.aload_n 0, 1) := by decide +kernel
theorem dX12_init_48 : decode cX12_init 48 = .ok (.bipush 7, 2) := by decide +kernel
theorem dX12_init_50 : decode cX12_init 50 = .ok (.newarray .int, 2) := by decide +kernel
theorem dX12_init_52 : decode cX12_init 52 = .ok (.putfield 19, 3) := by decide +kernel
theorem dX12_init_55 : decode cX12_init 55 = .ok (.aload_n 0, 1) := by decide +kernel
theorem dX12_init_56 : decode cX12_init 56 = .ok (.bipush 7, 2) := by decide +kernel
theorem dX12_init_58 : decode cX12_init 58 = .ok (.newarray .int, 2) := by decide +kernel
theorem dX12_init_60 : decode cX12_init 60 = .ok (.putfield 22, 3) := by decide +kernel
theorem dX12_init_63 : decode cX12_init 63 = .ok (.aload_n 0, 1) := by decide +kernel
theorem dX12_init_64 : decode cX12_init 64 = .ok (.bipush 7, 2) := by decide +kernel
theorem dX12_init_66 : decode cX12_init 66 = .ok (.newarray .int, 2) := by decide +kernel
theorem dX12_init_68 : decode cX12_init 68 = .ok (.putfield 25, 3) := by decide +kernel
theorem dX12_init_71 : decode cX12_init 71 = .ok (.aload_n 0, 1) := by decide +kernel
theorem dX12_init_72 : decode cX12_init 72 = .ok (.bipush 30, 2) := by decide +kernel
theorem dX12_init_74 : decode cX12_init 74 = .ok (.newarray .int, 2) := by decide +kernel
theorem dX12_init_76 : decode cX12_init 76 = .ok (.putfield 28, 3) := by decide +kernel
theorem dX12_init_79 : decode cX12_init 79 = .ok (.aload_n 0, 1) := by decide +kernel
theorem dX12_init_80 : decode cX12_init 80 = .ok (.bipush 30, 2) := by decide +kernel
theorem dX12_init_82 : decode cX12_init 82 = .ok (.newarray .int, 2) := by decide +kernel
theorem dX12_init_84 : decode cX12_init 84 = .ok (.putfield 31, 3) := by decide +kernel
theorem dX12_init_87 : decode cX12_init 87 = .ok (.aload_n 0, 1) := by decide +kernel
theorem dX12_init_88 : decode cX12_init 88 = .ok (.bipush 30, 2) := by decide +kernel
theorem dX12_init_90 : decode cX12_init 90 = .ok (.newarray .int, 2) := by decide +kernel
theorem dX12_init_92 : decode cX12_init 92 = .ok (.putfield 34, 3) := by decide +kernel
theorem dX12_init_95 : decode cX12_init 95 = .ok (.aload_n 0, 1) := by decide +kernel
theorem dX12_init_96 : decode cX12_init 96 = .ok (.bipush 30, 2) := by decide +kernel
theorem dX12_init_98 : decode cX12_init 98 = .ok (.newarray .int, 2) := by decide +kernel
theorem dX12_init_100 : decode cX12_init 100 = .ok (.putfield 37, 3) := by decide +kernel
theorem dX12_init_103 : decode cX12_init 103 = .ok (.aload_n 0, 1) := by decide +kernel
theorem dX12_init_104 : decode cX12_init 104 = .ok (.bipush 30, 2) := by decide +kernel
theorem dX12_init_106 : decode cX12_init 106 = .ok (.newarray .int, 2) := by decide +kernel
theorem dX12_init_108 : decode cX12_init 108 = .ok (.putfield 40, 3) := by decide +kernel
theorem dX12_init_111 : decode cX12_init 111 = .ok (.aload_n 0, 1) := by decide +kernel
theorem dX12_init_112 : decode cX12_init 112 = .ok (.bipush 13, 2) := by decide +kernel
theorem dX12_init_114 : decode cX12_init 114 = .ok (.newarray .int, 2) := by decide +kernel
theorem dX12_init_116 : decode cX12_init 116 = .ok (.putfield 43, 3) := by decide +kernel
theorem dX12_init_119 : decode cX12_init 119 = .ok (.aload_n 0, 1) := by decide +kernel
theorem dX12_init_120 : decode cX12_init 120 = .ok (.bipush 13, 2) := by decide +kernel
theorem dX12_init_122 : decode cX12_init 122 = .ok (.newarray .int, 2) := by decide +kernel
theorem dX12_init_124 : decode cX12_init 124 = .ok (.putfield 46, 3) := by decide +kernel
theorem dX12_init_127 : decode cX12_init 127 = .ok (.aload_n 0, 1) := by decide +kernel
theorem dX12_init_128 : decode cX12_init 128 = .ok (.bipush 13, 2) := by decide +kernel
theorem dX12_init_130 : decode cX12_init 130 = .ok (.newarray .int, 2) := by decide +kernel
theorem dX12_init_132 : decode cX12_init 132 = .ok (.putfield 49, 3) := by decide +kernel
theorem dX12_init_135 : decode cX12_init 135 = .ok (.aload_n 0, 1) := by decide +kernel
theorem dX12_init_136 : decode cX12_init 136 = .ok (.bipush 13, 2) := by decide +kernel
theorem dX12_init_138 : decode cX12_init 138 = .ok (.newarray .int, 2) := by decide +kernel
theorem dX12_init_140 : decode cX12_init 140 = .ok (.putfield 52, 3) := by decide +kernel
theorem dX12_init_143 : decode cX12_init 143 = .ok (.aload_n 0, 1) := by decide +kernel
theorem dX12_init_144 : decode cX12_init 144 = .ok (.bipush 13, 2) := by decide +kernel
theorem dX12_init_146 : decode cX12_init 146 = .ok (.newarray .int, 2) := by decide +kernel
theorem dX12_init_148 : decode cX12_init 148 = .ok (.putfield 55, 3) := by decide +kernel
theorem dX12_init_151 : decode cX12_init 151 = .ok (.aload_n 0, 1) := by decide +kernel
theorem dX12_init_152 : decode cX12_init 152 = .ok (.bipush 13, 2) := by decide +kernel
theorem dX12_init_154 : decode cX12_init 154 = .ok (.newarray .int, 2) := by decide +kernel
theorem dX12_init_156 : decode cX12_init 156 = .ok (.putfield 58, 3) := by decide +kernel
theorem dX12_init_159 : decode cX12_init 159 = .ok (.aload_n 0, 1) := by decide +kernel
theorem dX12_init_160 : decode cX12_init 160 = .ok (.bipush 13, 2) := by decide +kernel
theorem dX12_init_162 : decode cX12_init 162 = .ok (.newarray .int, 2) := by decide +kernel
theorem dX12_init_164 : decode cX12_init 164 = .ok (.putfield 61, 3) := by decide +kernel
theorem dX12_init_167 : decode cX12_init 167 = .ok (.aload_n 0, 1) := by decide +kernel
theorem dX12_init_168 : decode cX12_init 168 = .ok (.iconst 5, 1) := by decide +kernel
theorem dX12_init_169 : decode cX12_init 169 = .ok (.newarray .int, 2) := by decide +kernel
theorem dX12_init_171 : decode cX12_init 171 = .ok (.putfield 64, 3) := by decide +kernel
theorem dX12_init_174 : decode cX12_init 174 = .ok (.aload_n 0, 1) := by decide +kernel
theorem dX12_init_175 : decode cX12_init 175 = .ok (.iconst 3, 1) := by decide +kernel
theorem dX12_init_176 : decode cX12_init 176 = .ok (.newarray .int, 2) := by decide +kernel
theorem dX12_init_178 : decode cX12_init 178 = .ok (.dup, 1) := by decide +kernel
theorem dX12_init_179 : decode cX12_init 179 = .ok (.iconst 0, 1) := by decide +kernel
theorem dX12_init_180 : decode cX12_init 180 = .ok (.bipush 100, 2) := by decide +kernel
theorem dX12_init_182 : decode cX12_init 182 = .ok (.iastore, 1) := by decide +kernel
theorem dX12_init_183 : decode cX12_init 183 = .ok (.dup, 1) := by decide +kernel
theorem dX12_init_184 : decode cX12_init 184 = .ok (.iconst 1, 1) := by decide +kernel
theorem dX12_init_185 : decode cX12_init 185 = .ok (.bipush 120, 2) := by decide +kernel
theorem dX12_init_187 : decode cX12_init 187 = .ok (.iastore, 1) := by decide +kernel
theorem dX12_init_188 : decode cX12_init 188 = .ok (.dup, 1) := by decide +kernel
theorem dX12_init_189 : decode cX12_init 189 = .ok (.iconst 2, 1) := by decide +kernel
theorem dX12_init_190 : decode cX12_init 190 = .ok (.sipush 150, 3) := by decide +kernel
theorem dX12_init_193 : decode cX12_init 193 = .ok (.iastore, 1) := by decide +kernel
theorem dX12_init_194 : decode cX12_init 194 = .ok (.putfield 67, 3) := by decide +kernel
theorem dX12_init_197 : decode cX12_init 197 = .ok (.aload_n 0, 1) := by decide +kernel
theorem dX12_init_198 : decode cX12_init 198 = .ok (.bipush 25, 2) := by decide +kernel
theorem dX12_init_200 : decode cX12_init 200 = .ok (.putfield 70, 3) := by decide +kernel
theorem dX12_init_203 : decode cX12_init 203 = .ok (.aload_n 0, 1) := by decide +kernel
theorem dX12_init_204 : decode cX12_init 204 = .ok (.bipush 30, 2) := by decide +kernel
theorem dX12_init_206 : decode cX12_init 206 = .ok (.putfield 74, 3) := by decide +kernel
theorem dX12_init_209 : decode cX12_init 209 = .ok (.aload_n 0, 1) := by decide +kernel
theorem dX12_init_210 : decode cX12_init 210 = .ok (.bipush 30, 2) := by decide +kernel
theorem dX12_init_212 : decode cX12_init 212 = .ok (.newarray .int, 2) := by decide +kernel
theorem dX12_init_214 : decode cX12_init 214 = .ok (.putfield 77, 3) := by decide +kernel
theorem dX12_init_217 : decode cX12_init 217 = .ok (.aload_n 0, 1) := by decide +kernel
theorem dX12_init_218 : decode cX12_init 218 = .ok (.bipush 30, 2) := by decide +kernel
theorem dX12_init_220 : decode cX12_init 220 = .ok (.newarray .int, 2) := by decide +kernel
theorem dX12_init_222 : decode cX12_init 222 = .ok (.putfield 80, 3) := by decide +kernel
theorem dX12_init_225 : decode cX12_init 225 = .ok (.aload_n 0, 1) := by decide +kernel
theorem dX12_init_226 : decode cX12_init 226 = .ok (.bipush 30, 2) := by decide +kernel
theorem dX12_init_228 : decode cX12_init 228 = .ok (.newarray .int, 2) := by decide +kernel
theorem dX12_init_230 : decode cX12_init 230 = .ok (.putfield 83, 3) := by decide +kernel
theorem dX12_init_233 : decode cX12_init 233 = .ok (.aload_n 0, 1) := by decide +kernel
theorem dX12_init_234 : decode cX12_init 234 = .ok (.bipush 8, 2) := by decide +kernel
theorem dX12_init_236 : decode cX12_init 236 = .ok (.newarray .int, 2) := by decide +kernel
theorem dX12_init_238 : decode cX12_init 238 = .ok (.putfield 86, 3) := by decide +kernel
theorem dX12_init_241 : decode cX12_init 241 = .ok (.aload_n 0, 1) := by decide +kernel
theorem dX12_init_242 : decode cX12_init 242 = .ok (.bipush 8, 2) := by decide +kernel
theorem dX12_init_244 : decode cX12_init 244 = .ok (.newarray .int, 2) := by decide +kernel
theorem dX12_init_246 : decode cX12_init 246 = .ok (.putfield 89, 3) := by decide +kernel
theorem dX12_init_249 : decode cX12_init 249 = .ok (.aload_n 0, 1) := by decide +kernel
theorem dX12_init_250 : decode cX12_init 250 = .ok (.bipush 8, 2) := by decide +kernel
theorem dX12_init_252 : decode cX12_init 252 = .ok (.newarray .int, 2) := by decide +kernel
theorem dX12_init_254 : decode cX12_init 254 = .ok (.putfield 92, 3) := by decide +kernel
theorem dX12_init_257 : decode cX12_init 257 = .ok (.aload_n 0, 1) := by decide +kernel
theorem dX12_init_258 : decode cX12_init 258 = .ok (.bipush 8, 2) := by decide +kernel
theorem dX12_init_260 : decode cX12_init 260 = .ok (.newarray .int, 2) := by decide +kernel
theorem dX12_init_262 : decode cX12_init 262 = .ok (.putfield 95, 3) := by decide +kernel
theorem dX12_init_265 : decode cX12_init 265 = .ok (.aload_n 0, 1) := by decide +kernel
theorem dX12_init_266 : decode cX12_init 266 = .ok (.bipush 8, 2) := by decide +kernel
theorem dX12_init_268 : decode cX12_init 268 = .ok (.newarray .int, 2) := by decide +kernel
theorem dX12_init_270 : decode cX12_init 270 = .ok (.putfield 98, 3) := by decide +kernel
theorem dX12_init_273 : decode cX12_init 273 = .ok (.aload_n 0, 1) := by decide +kernel
theorem dX12_init_274 : decode cX12_init 274 = .ok (.bipush 8, 2) := by decide +kernel
theorem dX12_init_276 : decode cX12_init 276 = .ok (.newarray .int, 2) := by decide +kernel
theorem dX12_init_278 : decode cX12_init 278 = .ok (.putfield 101, 3) := by decide +kernel
theorem dX12_init_281 : decode cX12_init 281 = .ok (.aload_n 0, 1) := by decide +kernel
theorem dX12_init_282 : decode cX12_init 282 = .ok (.bipush 8, 2) := by decide +kernel
theorem dX12_init_284 : decode cX12_init 284 = .ok (.newarray .int, 2) := by decide +kernel
theorem dX12_init_286 : decode cX12_init 286 = .ok (.putfield 104, 3) := by decide +kernel
theorem dX12_init_289 : decode cX12_init 289 = .ok (.aload_n 0, 1) := by decide +kernel
theorem dX12_init_290 : decode cX12_init 290 = .ok (.bipush 8, 2) := by decide +kernel
theorem dX12_init_292 : decode cX12_init 292 = .ok (.newarray .int, 2) := by decide +kernel
theorem dX12_init_294 : decode cX12_init 294 = .ok (.putfield 107, 3) := by decide +kernel
theorem dX12_init_297 : decode cX12_init 297 = .ok (.aload_n 0, 1) := by decide +kernel
theorem dX12_init_298 : decode cX12_init 298 = .ok (.bipush 8, 2) := by decide +kernel
theorem dX12_init_300 : decode cX12_init 300 = .ok (.newarray .int, 2) := by decide +kernel
theorem dX12_init_302 : decode cX12_init 302 = .ok (.putfield 110, 3) := by decide +kernel
theorem dX12_init_305 : decode cX12_init 305 = .ok (.aload_n 0, 1) := by decide +kernel
theorem dX12_init_306 : decode cX12_init 306 = .ok (.iconst 1, 1) := by decide +kernel
theorem dX12_init_307 : decode cX12_init 307 = .ok (.putfield 113, 3) := by decide +kernel
theorem dX12_init_310 : decode cX12_init 310 = .ok (.aload_n 0, 1) := by decide +kernel
theorem dX12_init_311 : decode cX12_init 311 = .ok (.iconst 5, 1) := by decide +kernel
theorem dX12_init_312 : decode cX12_init 312 = .ok (.newarray .int, 2) := by decide +kernel
theorem dX12_init_314 : decode cX12_init 314 = .ok (.dup, 1) := by decide +kernel
theorem dX12_init_315 : decode cX12_init 315 = .ok (.iconst 0, 1) := by decide +kernel
theorem dX12_init_316 : decode cX12_init 316 = .ok (.iconst 1, 1) := by decide +kernel
theorem dX12_init_317 : decode cX12_init 317 = .ok (.iastore, 1) := by decide +kernel
theorem dX12_init_318 : decode cX12_init 318 = .ok (.dup, 1) := by decide +kernel
theorem dX12_init_319 : decode cX12_init 319 = .ok (.iconst 1, 1) := by decide +kernel
theorem dX12_init_320 : decode cX12_init 320 = .ok (.iconst 1, 1) := by decide +kernel
theorem dX12_init_321 : decode cX12_init 321 = .ok (.iastore, 1) := by decide +kernel
theorem dX12_init_322 : decode cX12_init 322 = .ok (.dup, 1) := by decide +kernel
theorem dX12_init_323 : decode cX12_init 323 = .ok (.iconst 2, 1) := by decide +kernel
theorem dX12_init_324 : decode cX12_init 324 = .ok (.iconst 1, 1) := by decide +kernel
theorem dX12_init_325 : decode cX12_init 325 = .ok (.iastore, 1) := by decide +kernel
theorem dX12_init_326 : decode cX12_init 326 = .ok (.dup, 1) := by decide +kernel
theorem dX12_init_327 : decode cX12_init 327 = .ok (.iconst 3, 1) := by decide +kernel
theorem dX12_init_328 : decode cX12_init 328 = .ok (.iconst 1, 1) := by decide +kernel
theorem dX12_init_329 : decode cX12_init 329 = .ok (.iastore, 1) := by decide +kernel
theorem dX12_init_330 : decode cX12_init 330 = .ok (.dup, 1) := by decide +kernel
theorem dX12_init_331 : decode cX12_init 331 = .ok (.iconst 4, 1) := by decide +kernel
theorem dX12_init_332 : decode cX12_init 332 = .ok (.iconst 1, 1) := by decide +kernel
theorem dX12_init_333 : decode cX12_init 333 = .ok (.iastore, 1) := by decide +kernel
theorem dX12_init_334 : decode cX12_init 334 = .ok (.putfield 116, 3) := by decide +kernel
theorem dX12_init_337 : decode cX12_init 337 = .ok (.aload_n 0, 1) := by decide +kernel
theorem dX12_init_338 : decode cX12_init 338 = .ok (.iconst 5, 1) := by decide +kernel
theorem dX12_init_339 : decode cX12_init 339 = .ok (.newarray .int, 2) := by decide +kernel
theorem dX12_init_341 : decode cX12_init 341 = .ok (.dup, 1) := by decide +kernel
theorem dX12_init_342 : decode cX12_init 342 = .ok (.iconst 0, 1) := by decide +kernel
theorem dX12_init_343 : decode cX12_init 343 = .ok (.iconst 1, 1) := by decide +kernel
theorem dX12_init_344 : decode cX12_init 344 = .ok (.iastore, 1) := by decide +kernel
theorem dX12_init_345 : decode cX12_init 345 = .ok (.dup, 1) := by decide +kernel
theorem dX12_init_346 : decode cX12_init 346 = .ok (.iconst 1, 1) := by decide +kernel
theorem dX12_init_347 : decode cX12_init 347 = .ok (.iconst 1, 1) := by decide +kernel
theorem dX12_init_348 : decode cX12_init 348 = .ok (.iastore, 1) := by decide +kernel
theorem dX12_init_349 : decode cX12_init 349 = .ok (.dup, 1) := by decide +kernel
theorem dX12_init_350 : decode cX12_init 350 = .ok (.iconst 2, 1) := by decide +kernel
theorem dX12_init_351 : decode cX12_init 351 = .ok (.iconst 1, 1) := by decide +kernel
theorem dX12_init_352 : decode cX12_init 352 = .ok (.iastore, 1) := by decide +kernel
theorem dX12_init_353 : decode cX12_init 353 = .ok (.dup, 1) := by decide +kernel
theorem dX12_init_354 : decode cX12_init 354 = .ok (.iconst 3, 1) := by decide +kernel
theorem dX12_init_355 : decode cX12_init 355 = .ok (.iconst 1, 1) := by decide +kernel
theorem dX12_init_356 : decode cX12_init 356 = .ok (.iastore, 1) := by decide +kernel
theorem dX12_init_357 : decode cX12_init 357 = .ok (.dup, 1) := by decide +kernel
theorem dX12_init_358 : decode cX12_init 358 = .ok (.iconst 4, 1) := by decide +kernel
theorem dX12_init_359 : decode cX12_init 359 = .ok (.iconst 1, 1) := by decide +kernel
theorem dX12_init_360 : decode cX12_init 360 = .ok (.iastore, 1) := by decide +kernel
theorem dX12_init_361 : decode cX12_init 361 = .ok (.putfield 119, 3) := by decide +kernel
theorem dX12_init_364 : decode cX12_init 364 = .ok (.aload_n 0, 1) := by decide +kernel
theorem dX12_init_365 : decode cX12_init 365 = .ok (.bipush 24, 2) := by decide +kernel
theorem dX12_init_367 : decode cX12_init 367 = .ok (.newarray .int, 2) := by decide +kernel
theorem dX12_init_369 : decode cX12_init 369 = .ok (.dup, 1) := by decide +kernel
theorem dX12_init_370 : decode cX12_init 370 = .ok (.iconst 0, 1) := by decide +kernel
theorem dX12_init_371 : decode cX12_init 371 = .ok (.bipush 100, 2) := by decide +kernel
theorem dX12_init_373 : decode cX12_init 373 = .ok (.iastore, 1) := by decide +kernel
theorem dX12_init_374 : decode cX12_init 374 = .ok (.dup, 1) := by decide +kernel
theorem dX12_init_375 : decode cX12_init 375 = .ok (.iconst 1, 1) := by decide +kernel
theorem dX12_init_376 : decode cX12_init 376 = .ok (.bipush 100, 2) := by decide +kernel
theorem dX12_init_378 : decode cX12_init 378 = .ok (.iastore, 1) := by decide +kernel
theorem dX12_init_379 : decode cX12_init 379 = .ok (.dup, 1) := by decide +kernel
theorem dX12_init_380 : decode cX12_init 380 = .ok (.iconst 2, 1) := by decide +kernel
theorem dX12_init_381 : decode cX12_init 381 = .ok (.bipush 100, 2) := by decide +kernel
theorem dX12_init_383 : decode cX12_init 383 = .ok (.iastore, 1) := by decide +kernel
theorem dX12_init_384 : decode cX12_init 384 = .ok (.dup, 1) := by decide +kernel
theorem dX12_init_385 : decode cX12_init 385 = .ok (.iconst 3, 1) := by decide +kernel
theorem dX12_init_386 : decode cX12_init 386 = .ok (.bipush 100, 2) := by decide +kernel
theorem dX12_init_388 : decode cX12_init 388 = .ok (.iastore, 1) := by decide +kernel
theorem dX12_init_389 : decode cX12_init 389 = .ok (.dup, 1) := by decide +kernel
theorem dX12_init_390 : decode cX12_init 390 = .ok (.iconst 4, 1) := by decide +kernel
theorem dX12_init_391 : decode cX12_init 391 = .ok (.bipush 100, 2) := by decide +kernel
theorem dX12_init_393 : decode cX12_init 393 = .ok (.iastore, 1) := by decide +kernel
theorem dX12_init_394 : decode cX12_init 394 = .ok (.dup, 1) := by decide +kernel
theorem dX12_init_395 : decode cX12_init 395 = .ok (.iconst 5, 1) := by decide +kernel
theorem dX12_init_396 : decode cX12_init 396 = .ok (.bipush 100, 2) := by decide +kernel
theorem dX12_init_398 : decode cX12_init 398 = .ok (.iastore, 1) := by decide +kernel
theorem dX12_init_399 : decode cX12_init 399 = .ok (.dup, 1) := by decide +kernel
theorem dX12_init_400 : decode cX12_init 400 = .ok (.bipush 6, 2) := by decide +kernel
theorem dX12_init_402 : decode cX12_init 402 = .ok (.bipush 100, 2) := by decide +kernel
theorem dX12_init_404 : decode cX12_init 404 = .ok (.iastore, 1) := by decide +kernel
theorem dX12_init_405 : decode cX12_init 405 = .ok (.dup, 1) := by decide +kernel
theorem dX12_init_406 : decode cX12_init 406 = .ok (.bipush 7, 2) := by decide +kernel
theorem dX12_init_408 : decode cX12_init 408 = .ok (.bipush 100, 2) := by decide +kernel
theorem dX12_init_410 : decode cX12_init 410 = .ok (.iastore, 1) := by decide +kernel
theorem dX12_init_411 : decode cX12_init 411 = .ok (.dup, 1) := by decide +kernel
theorem dX12_init_412 : decode cX12_init 412 = .ok (.bipush 8, 2) := by decide +kernel
theorem dX12_init_414 : decode cX12_init 414 = .ok (.bipush 100, 2) := by decide +kernel
theorem dX12_init_416 : decode cX12_init 416 = .ok (.iastore, 1) := by decide +kernel
theorem dX12_init_417 : decode cX12_init 417 = .ok (.dup, 1) := by decide +kernel
theorem dX12_init_418 : decode cX12_init 418 = .ok (.bipush 9, 2) := by decide +kernel
theorem dX12_init_420 : decode cX12_init 420 = .ok (.bipush 100, 2) := by decide +kernel
theorem dX12_init_422 : decode cX12_init 422 = .ok (.iastore, 1) := by decide +kernel
theorem dX12_init_423 : decode cX12_init 423 = .ok (.dup, 1) := by decide +kernel
theorem dX12_init_424 : decode cX12_init 424 = .ok (.bipush 10, 2) := by decide +kernel
theorem dX12_init_426 : decode cX12_init 426 = .ok (.bipush 100, 2) := by decide +kernel
theorem dX12_init_428 : decode cX12_init 428 = .ok (.iastore, 1) := by decide +kernel
theorem dX12_init_429 : decode cX12_init 429 = .ok (.dup, 1) := by decide +kernel
theorem dX12_init_430 : decode cX12_init 430 = .ok (.bipush 11, 2) := by decide +kernel
theorem dX12_init_432 : decode cX12_init 432 = .ok (.bipush 100, 2) := by decide +kernel
theorem dX12_init_434 : decode cX12_init 434 = .ok (.iastore, 1) := by decide +kernel
theorem dX12_init_435 : decode cX12_init 435 = .ok (.dup, 1) := by decide +kernel
theorem dX12_init_436 : decode cX12_init 436 = .ok (.bipush 12, 2) := by decide +kernel
theorem dX12_init_438 : decode cX12_init 438 = .ok (.bipush 100, 2) := by decide +kernel
theorem dX12_init_440 : decode cX12_init 440 = .ok (.iastore, 1) := by decide +kernel
theorem dX12_init_441 : decode cX12_init 441 = .ok (.dup, 1) := by decide +kernel
theorem dX12_init_442 : decode cX12_init 442 = .ok (.bipush 13, 2) := by decide +kernel
theorem dX12_init_444 : decode cX12_init 444 = .ok (.bipush 100, 2) := by decide +kernel
theorem dX12_init_446 : decode cX12_init 446 = .ok (.iastore, 1) := by decide +kernel
theorem dX12_init_447 : decode cX12_init 447 = .ok (.dup, 1) := by decide +kernel
theorem dX12_init_448 : decode cX12_init 448 = .ok (.bipush 14, 2) := by decide +kernel
theorem dX12_init_450 : decode cX12_init 450 = .ok (.bipush 100, 2) := by decide +kernel
theorem dX12_init_452 : decode cX12_init 452 = .ok (.iastore, 1) := by decide +kernel
theorem dX12_init_453 : decode cX12_init 453 = .ok (.dup, 1) := by decide +kernel
theorem dX12_init_454 : decode cX12_init 454 = .ok (.bipush 15, 2) := by decide +kernel
theorem dX12_init_456 : decode cX12_init 456 = .ok (.bipush 100, 2) := by decide +kernel
theorem dX12_init_458 : decode cX12_init 458 = .ok (.iastore, 1) := by decide +kernel
theorem dX12_init_459 : decode cX12_init 459 = .ok (.dup, 1) := by decide +kernel
theorem dX12_init_460 : decode cX12_init 460 = .ok (.bipush 16, 2) := by decide +kernel
theorem dX12_init_462 : decode cX12_init 462 = .ok (.bipush 100, 2) := by decide +kernel
theorem dX12_init_464 : decode cX12_init 464 = .ok (.iastore, 1) := by decide +kernel
theorem dX12_init_465 : decode cX12_init 465 = .ok (.dup, 1) := by decide +kernel
theorem dX12_init_466 : decode cX12_init 466 = .ok (.bipush 17, 2) := by decide +kernel
theorem dX12_init_468 : decode cX12_init 468 = .ok (.bipush 100, 2) := by decide +kernel
theorem dX12_init_470 : decode cX12_init 470 = .ok (.iastore, 1) := by decide +kernel
theorem dX12_init_471 : decode cX12_init 471 = .ok (.dup, 1) := by decide +kernel
theorem dX12_init_472 : decode cX12_init 472 = .ok (.bipush 18, 2) := by decide +kernel
theorem dX12_init_474 : decode cX12_init 474 = .ok (.bipush 100, 2) := by decide +kernel
theorem dX12_init_476 : decode cX12_init 476 = .ok (.iastore, 1) := by decide +kernel
theorem dX12_init_477 : decode cX12_init 477 = .ok (.dup, 1) := by decide +kernel
theorem dX12_init_478 : decode cX12_init 478 = .ok (.bipush 19, 2) := by decide +kernel
theorem dX12_init_480 : decode cX12_init 480 = .ok (.bipush 100, 2) := by decide +kernel
theorem dX12_init_482 : decode cX12_init 482 = .ok (.iastore, 1) := by decide +kernel
theorem dX12_init_483 : decode cX12_init 483 = .ok (.dup, 1) := by decide +kernel
theorem dX12_init_484 : decode cX12_init 484 = .ok (.bipush 20, 2) := by decide +kernel
theorem dX12_init_486 : decode cX12_init 486 = .ok (.bipush 100, 2) := by decide +kernel
theorem dX12_init_488 : decode cX12_init 488 = .ok (.iastore, 1) := by decide +kernel
theorem dX12_init_489 : decode cX12_init 489 = .ok (.dup, 1) := by decide +kernel
theorem dX12_init_490 : decode cX12_init 490 = .ok (.bipush 21, 2) := by decide +kernel
theorem dX12_init_492 : decode cX12_init 492 = .ok (.bipush 100, 2) := by decide +kernel
theorem dX12_init_494 : decode cX12_init 494 = .ok (.iastore, 1) := by decide +kernel
theorem dX12_init_495 : decode cX12_init 495 = .ok (.dup, 1) := by decide +kernel
theorem dX12_init_496 : decode cX12_init 496 = .ok (.bipush 22, 2) := by decide +kernel
theorem dX12_init_498 : decode cX12_init 498 = .ok (.bipush 100, 2) := by decide +kernel
theorem dX12_init_500 : decode cX12_init 500 = .ok (.iastore, 1) := by decide +kernel
theorem dX12_init_501 : decode cX12_init 501 = .ok (.dup, 1) := by decide +kernel
theorem dX12_init_502 : decode cX12_init 502 = .ok (.bipush 23, 2) := by decide +kernel
theorem dX12_init_504 : decode cX12_init 504 = .ok (.bipush 100, 2) := by decide +kernel
theorem dX12_init_506 : decode cX12_init 506 = .ok (.iastore, 1) := by decide +kernel
theorem dX12_init_507 : decode cX12_init 507 = .ok (.putfield 122, 3) := by decide +kernel
theorem dX12_init_510 : decode cX12_init 510 = .ok (.aload_n 0, 1) := by decide +kernel
theorem dX12_init_511 : decode cX12_init 511 = .ok (.bipush 12, 2) := by decide +kernel
theorem dX12_init_513 : decode cX12_init 513 = .ok (.newarray .int, 2) := by decide +kernel
theorem dX12_init_515 : decode cX12_init 515 = .ok (.putfield 125, 3) := by decide +kernel
theorem dX12_init_518 : decode cX12_init 518 = .ok (.aload_n 0, 1) := by decide +kernel
theorem dX12_init_519 : decode cX12_init 519 = .ok (.bipush 12, 2) := by decide +kernel
theorem dX12_init_521 : decode cX12_init 521 = .ok (.newarray .int, 2) := by decide +kernel
theorem dX12_init_523 : decode cX12_init 523 = .ok (.putfield 128, 3) := by decide +kernel
theorem dX12_init_526 : decode cX12_init 526 = .ok (.aload_n 0, 1) := by decide +kernel
theorem dX12_init_527 : decode cX12_init 527 = .ok (.bipush 12, 2) := by decide +kernel
theorem dX12_init_529 : decode cX12_init 529 = .ok (.newarray .int, 2) := by decide +kernel
theorem dX12_init_531 : decode cX12_init 531 = .ok (.putfield 131, 3) := by decide +kernel
theorem dX12_init_534 : decode cX12_init 534 = .ok (.aload_n 0, 1) := by decide +kernel
theorem dX12_init_535 : decode cX12_init 535 = .ok (.bipush 12, 2) := by decide +kernel
theorem dX12_init_537 : decode cX12_init 537 = .ok (.newarray .int, 2) := by decide +kernel
theorem dX12_init_539 : decode cX12_init 539 = .ok (.putfield 134, 3) := by decide +kernel
theorem dX12_init_542 : decode cX12_init 542 = .ok (.aload_n 0, 1) := by decide +kernel
theorem dX12_init_543 : decode cX12_init 543 = .ok (.iconst 3, 1) := by decide +kernel
theorem dX12_init_544 : decode cX12_init 544 = .ok (.newarray .int, 2) := by decide +kernel
theorem dX12_init_546 : decode cX12_init 546 = .ok (.putfield 137, 3) := by decide +kernel
theorem dX12_init_549 : decode cX12_init 549 = .ok (.aload_n 0, 1) := by decide +kernel
theorem dX12_init_550 : decode cX12_init 550 = .ok (.iconst 3, 1) := by decide +kernel
theorem dX12_init_551 : decode cX12_init 551 = .ok (.newarray .int, 2) := by decide +kernel
theorem dX12_init_553 : decode cX12_init 553 = .ok (.putfield 140, 3) := by decide +kernel
theorem dX12_init_556 : decode cX12_init 556 = .ok (.aload_n 0, 1) := by decide +kernel
theorem dX12_init_557 : decode cX12_init 557 = .ok (.iconst 3, 1) := by decide +kernel
theorem dX12_init_558 : decode cX12_init 558 = .ok (.newarray .int, 2) := by decide +kernel
theorem dX12_init_560 : decode cX12_init 560 = .ok (.putfield 143, 3) := by decide +kernel
theorem dX12_init_563 : decode cX12_init 563 = .ok (.aload_n 0, 1) := by decide +kernel
theorem dX12_init_564 : decode cX12_init 564 = .ok (.iconst 3, 1) := by decide +kernel
theorem dX12_init_565 : decode cX12_init 565 = .ok (.newarray .int, 2) := by decide +kernel
theorem dX12_init_567 : decode cX12_init 567 = .ok (.putfield 146, 3) := by decide +kernel
theorem dX12_init_570 : decode cX12_init 570 = .ok (.aload_n 0, 1) := by decide +kernel
theorem dX12_init_571 : decode cX12_init 571 = .ok (.bipush 7, 2) := by decide +kernel
theorem dX12_init_573 : decode cX12_init 573 = .ok (.newarray .int, 2) := by decide +kernel
theorem dX12_init_575 : decode cX12_init 575 = .ok (.putfield 149, 3) := by decide +kernel
theorem dX12_init_578 : decode cX12_init 578 = .ok (.aload_n 0, 1) := by decide +kernel
theorem dX12_init_579 : decode cX12_init 579 = .ok (.bipush 7, 2) := by decide +kernel
theorem dX12_init_581 : decode cX12_init 581 = .ok (.newarray .int, 2) := by decide +kernel
theorem dX12_init_583 : decode cX12_init 583 = .ok (.putfield 152, 3) := by decide +kernel
theorem dX12_init_586 : decode cX12_init 586 = .ok (.aload_n 0, 1) := by decide +kernel
theorem dX12_init_587 : decode cX12_init 587 = .ok (.bipush 21, 2) := by decide +kernel
theorem dX12_init_589 : decode cX12_init 589 = .ok (.newarray .int, 2) := by decide +kernel
theorem dX12_init_591 : decode cX12_init 591 = .ok (.putfield 155, 3) := by decide +kernel
theorem dX12_init_594 : decode cX12_init 594 = .ok (.aload_n 0, 1) := by decide +kernel
theorem dX12_init_595 : decode cX12_init 595 = .ok (.bipush 8, 2) := by decide +kernel
theorem dX12_init_597 : decode cX12_init 597 = .ok (.newarray .int, 2) := by decide +kernel
theorem dX12_init_599 : decode cX12_init 599 = .ok (.putfield 158, 3) := by decide +kernel
theorem dX12_init_602 : decode cX12_init 602 = .ok (.aload_n 0, 1) := by decide +kernel
theorem dX12_init_603 : decode cX12_init 603 = .ok (.bipush 8, 2) := by decide +kernel
theorem dX12_init_605 : decode cX12_init 605 = .ok (.newarray .int, 2) := by decide +kernel
theorem dX12_init_607 : decode cX12_init 607 = .ok (.putfield 161, 3) := by decide +kernel
theorem dX12_init_610 : decode cX12_init 610 = .ok (.aload_n 0, 1) := by decide +kernel
theorem dX12_init_611 : decode cX12_init 611 = .ok (.bipush 8, 2) := by decide +kernel
theorem dX12_init_613 : decode cX12_init 613 = .ok (.newarray .int, 2) := by decide +kernel
theorem dX12_init_615 : decode cX12_init 615 = .ok (.putfield 164, 3) := by decide +kernel
theorem dX12_init_618 : decode cX12_init 618 = .ok (.aload_n 0, 1) := by decide +kernel
theorem dX12_init_619 : decode cX12_init 619 = .ok (.bipush 8, 2) := by decide +kernel
theorem dX12_init_621 : decode cX12_init 621 = .ok (.newarray .boolean, 2) := by decide +kernel
theorem dX12_init_623 : decode cX12_init 623 = .ok (.putfield 167, 3) := by decide +kernel
theorem dX12_init_626 : decode cX12_init 626 = .ok (.aload_n 0, 1) := by decide +kernel
theorem dX12_init_627 : decode cX12_init 627 = .ok (.sipush 256, 3) := by decide +kernel
theorem dX12_init_630 : decode cX12_init 630 = .ok (.newarray .long, 2) := by decide +kernel
theorem dX12_init_632 : decode cX12_init 632 = .ok (.putfield 171, 3) := by decide +kernel
theorem dX12_init_635 : decode cX12_init 635 = .ok (.aload_n 0, 1) := by decide +kernel
theorem dX12_init_636 : decode cX12_init 636 = .ok (.bipush 7, 2) := by decide +kernel
theorem dX12_init_638 : decode cX12_init 638 = .ok (.newarray .int, 2) := by decide +kernel
theorem dX12_init_640 : decode cX12_init 640 = .ok (.putfield 175, 3) := by decide +kernel
theorem dX12_init_643 : decode cX12_init 643 = .ok (.aload_n 0, 1) := by decide +kernel
theorem dX12_init_644 : decode cX12_init 644 = .ok (.bipush 7, 2) := by decide +kernel
theorem dX12_init_646 : decode cX12_init 646 = .ok (.newarray .int, 2) := by decide +kernel
theorem dX12_init_648 : decode cX12_init 648 = .ok (.putfield 178, 3) := by decide +kernel
theorem dX12_init_651 : decode cX12_init 651 = .ok (.return_, 1) := by decide +kernel
theorem dX12_fails_0 : decode cX12_fails 0 = .ok (.aload_n 0, 1) := by decide +kernel
theorem dX12_fails_1 : decode cX12_fails 1 = .ok (.iload_n 1, 1) := by decide +kernel
theorem dX12_fails_2 : decode cX12_fails 2 = .ok (.putfield 181, 3) := by decide +kernel
theorem dX12_fails_5 : decode cX12_fails 5 = .ok (.bipush (-10), 2) := by decide +kernel
theorem dX12_fails_7 : decode cX12_fails 7 = .ok (.iload_n 1, 1) := by decide +kernel
theorem dX12_fails_8 : decode cX12_fails 8 = .ok (.isub, 1) := by decide +kernel
theorem dX12_fails_9 : decode cX12_fails 9 = .ok (.ireturn, 1) := by decide +kernel
theorem dX12_lostBeing_0 : decode cX12_lostBeing 0 = .ok (.aload_n 0, 1) := by decide +kernel
theorem dX12_lostBeing_1 : decode cX12_lostBeing 1 = .ok (.iload_n 1, 1) := by decide +kernel
theorem dX12_lostBeing_2 : decode cX12_lostBeing 2 = .ok (.putfield 181, 3) := by decide +kernel
theorem dX12_lostBeing_5 : decode cX12_lostBeing 5 = .ok (.ldc2_w 184, 3) := by decide +kernel
theorem dX12_lostBeing_8 : decode cX12_lostBeing 8 = .ok (.lreturn, 1) := by decide +kernel
theorem dX12_within_0 : decode cX12_within 0 = .ok (.iload_n 0, 1) := by decide +kernel
theorem dX12_within_1 : decode cX12_within 1 = .ok (.iload_n 1, 1) := by decide +kernel
theorem dX12_within_2 : decode cX12_within 2 = .ok (.if_icmp .lt 12, 3) := by decide +kernel
theorem dX12_within_5 : decode cX12_within 5 = .ok (.iload_n 0, 1) := by decide +kernel
theorem dX12_within_6 : decode cX12_within 6 = .ok (.iload_n 2, 1) := by decide +kernel
theorem dX12_within_7 : decode cX12_within 7 = .ok (.if_icmp .gt 7, 3) := by decide +kernel
theorem dX12_within_10 : decode cX12_within 10 = .ok (.iconst 1, 1) := by decide +kernel
theorem dX12_within_11 : decode cX12_within 11 = .ok (.goto 4, 3) := by decide +kernel
theorem dX12_within_14 : decode cX12_within 14 = .ok (.iconst 0, 1) := by decide +kernel
theorem dX12_within_15 : decode cX12_within 15 = .ok (.ireturn, 1) := by decide +kernel
theorem dX12_size_0 : decode cX12_size 0 = .ok (.iload_n 0, 1) := by decide +kernel
theorem dX12_size_1 : decode cX12_size 1 = .ok (.ifCond .ge 8, 3) := by decide +kernel
theorem dX12_size_4 : decode cX12_size 4 = .ok (.iload_n 0, 1) := by decide +kernel
theorem dX12_size_5 : decode cX12_size 5 = .ok (.ineg, 1) := by decide +kernel
theorem dX12_size_6 : decode cX12_size 6 = .ok (.goto 4, 3) := by decide +kernel
theorem dX12_size_9 : decode cX12_size 9 = .ok (.iload_n 0, 1) := by decide +kernel
theorem dX12_size_10 : decode cX12_size 10 = .ok (.ireturn, 1) := by decide +kernel
theorem dX12_isDay_0 : decode cX12_isDay 0 = .ok (.iload_n 0, 1) := by decide +kernel
theorem dX12_isDay_1 : decode cX12_isDay 1 = .ok (.iconst 0, 1) := by decide +kernel
theorem dX12_isDay_2 : decode cX12_isDay 2 = .ok (.sipush 399, 3) := by decide +kernel
theorem dX12_isDay_5 : decode cX12_isDay 5 = .ok (.invokestatic 186, 3) := by decide +kernel
theorem dX12_isDay_8 : decode cX12_isDay 8 = .ok (.ireturn, 1) := by decide +kernel
theorem dX12_isSheet_0 : decode cX12_isSheet 0 = .ok (.iload_n 0, 1) := by decide +kernel
theorem dX12_isSheet_1 : decode cX12_isSheet 1 = .ok (.iconst 0, 1) := by decide +kernel
theorem dX12_isSheet_2 : decode cX12_isSheet 2 = .ok (.iconst 3, 1) := by decide +kernel
theorem dX12_isSheet_3 : decode cX12_isSheet 3 = .ok (.invokestatic 186, 3) := by decide +kernel
theorem dX12_isSheet_6 : decode cX12_isSheet 6 = .ok (.ireturn, 1) := by decide +kernel
theorem dX12_isLane_0 : decode cX12_isLane 0 = .ok (.iload_n 0, 1) := by decide +kernel
theorem dX12_isLane_1 : decode cX12_isLane 1 = .ok (.iconst 0, 1) := by decide +kernel
theorem dX12_isLane_2 : decode cX12_isLane 2 = .ok (.iconst 2, 1) := by decide +kernel
theorem dX12_isLane_3 : decode cX12_isLane 3 = .ok (.invokestatic 186, 3) := by decide +kernel
theorem dX12_isLane_6 : decode cX12_isLane 6 = .ok (.ireturn, 1) := by decide +kernel
theorem dX12_against_0 : decode cX12_against 0 = .ok (.aload_n 0, 1) := by decide +kernel
theorem dX12_against_1 : decode cX12_against 1 = .ok (.getfield 9, 3) := by decide +kernel
theorem dX12_against_4 : decode cX12_against 4 = .ok (.iload_n 1, 1) := by decide +kernel
theorem dX12_against_5 : decode cX12_against 5 = .ok (.iaload, 1) := by decide +kernel
theorem dX12_against_6 : decode cX12_against 6 = .ok (.bipush (-9), 2) := by decide +kernel
theorem dX12_against_8 : decode cX12_against 8 = .ok (.if_icmp .eq 15, 3) := by decide +kernel
theorem dX12_against_11 : decode cX12_against 11 = .ok (.aload_n 0, 1) := by decide +kernel
theorem dX12_against_12 : decode cX12_against 12 = .ok (.getfield 9, 3) := by decide +kernel
theorem dX12_against_15 : decode cX12_against 15 = .ok (.iload_n 1, 1) := by decide +kernel
theorem dX12_against_16 : decode cX12_against 16 = .ok (.iaload, 1) := by decide +kernel
theorem dX12_against_17 : decode cX12_against 17 = .ok (.iload_n 2, 1) := by decide +kernel
theorem dX12_against_18 : decode cX12_against 18 = .ok (.if_icmp .eq 5, 3) := by decide +kernel
theorem dX12_against_21 : decode cX12_against 21 = .ok (.iconst 2, 1) := by decide +kernel
theorem dX12_against_22 : decode cX12_against 22 = .ok (.ireturn, 1) := by decide +kernel
theorem dX12_against_23 : decode cX12_against 23 = .ok (.aload_n 0, 1) := by decide +kernel
theorem dX12_against_24 : decode cX12_against 24 = .ok (.getfield 9, 3) := by decide +kernel
theorem dX12_against_27 : decode cX12_against 27 = .ok (.iload_n 1, 1) := by decide +kernel
theorem dX12_against_28 : decode cX12_against 28 = .ok (.iaload, 1) := by decide +kernel
theorem dX12_against_29 : decode cX12_against 29 = .ok (.bipush (-9), 2) := by decide +kernel
theorem dX12_against_31 : decode cX12_against 31 = .ok (.if_icmp .ne 5, 3) := by decide +kernel
theorem dX12_against_34 : decode cX12_against 34 = .ok (.iconst 1, 1) := by decide +kernel
theorem dX12_against_35 : decode cX12_against 35 = .ok (.ireturn, 1) := by decide +kernel
theorem dX12_against_36 : decode cX12_against 36 = .ok (.iload 4, 2) := by decide +kernel
theorem dX12_against_38 : decode cX12_against 38 = .ok (.ifCond .ge 5, 3) := by decide +kernel
theorem dX12_against_41 : decode cX12_against 41 = .ok (.iconst 4, 1) := by decide +kernel
theorem dX12_against_42 : decode cX12_against 42 = .ok (.ireturn, 1) := by decide +kernel
theorem dX12_against_43 : decode cX12_against 43 = .ok (.iload_n 3, 1) := by decide +kernel
theorem dX12_against_44 : decode cX12_against 44 = .ok (.ifCond .lt 26, 3) := by decide +kernel
theorem dX12_against_47 : decode cX12_against 47 = .ok (.iload_n 3, 1) := by decide +kernel
theorem dX12_against_48 : decode cX12_against 48 = .ok (.aload_n 0, 1) := by decide +kernel
theorem dX12_against_49 : decode cX12_against 49 = .ok (.getfield 13, 3) := by decide +kernel
theorem dX12_against_52 : decode cX12_against 52 = .ok (.iload_n 1, 1) := by decide +kernel
theorem dX12_against_53 : decode cX12_against 53 = .ok (.iaload, 1) := by decide +kernel
theorem dX12_against_54 : decode cX12_against 54 = .ok (.if_icmp .gt 16, 3) := by decide +kernel
theorem dX12_against_57 : decode cX12_against 57 = .ok (.iload 4, 2) := by decide +kernel
theorem dX12_against_59 : decode cX12_against 59 = .ok (.aload_n 0, 1) := by decide +kernel
theorem dX12_against_60 : decode cX12_against 60 = .ok (.getfield 13, 3) := by decide +kernel
theorem dX12_against_63 : decode cX12_against 63 = .ok (.iload_n 1, 1) := by decide +kernel
theorem dX12_against_64 : decode cX12_against 64 = .ok (.iaload, 1) := by decide +kernel
theorem dX12_against_65 : decode cX12_against 65 = .ok (.iload_n 3, 1) := by decide +kernel
theorem dX12_against_66 : decode cX12_against 66 = .ok (.isub, 1) := by decide +kernel
theorem dX12_against_67 : decode cX12_against 67 = .ok (.if_icmp .le 5, 3) := by decide +kernel
theorem dX12_against_70 : decode cX12_against 70 = .ok (.iconst 3, 1) := by decide +kernel
theorem dX12_against_71 : decode cX12_against 71 = .ok (.ireturn, 1) := by decide +kernel
theorem dX12_against_72 : decode cX12_against 72 = .ok (.iconst 0, 1) := by decide +kernel
theorem dX12_against_73 : decode cX12_against 73 = .ok (.ireturn, 1) := by decide +kernel
theorem dX12_isCamp_0 : decode cX12_isCamp 0 = .ok (.iload_n 1, 1) := by decide +kernel
theorem dX12_isCamp_1 : decode cX12_isCamp 1 = .ok (.ifCond .lt 15, 3) := by decide +kernel
theorem dX12_isCamp_4 : decode cX12_isCamp 4 = .ok (.iload_n 1, 1) := by decide +kernel
theorem dX12_isCamp_5 : decode cX12_isCamp 5 = .ok (.aload_n 0, 1) := by decide +kernel
theorem dX12_isCamp_6 : decode cX12_isCamp 6 = .ok (.getfield 190, 3) := by decide +kernel
theorem dX12_isCamp_9 : decode cX12_isCamp 9 = .ok (.if_icmp .ge 7, 3) := by decide +kernel
theorem dX12_isCamp_12 : decode cX12_isCamp 12 = .ok (.iconst 1, 1) := by decide +kernel
theorem dX12_isCamp_13 : decode cX12_isCamp 13 = .ok (.goto 4, 3) := by decide +kernel
theorem dX12_isCamp_16 : decode cX12_isCamp 16 = .ok (.iconst 0, 1) := by decide +kernel
theorem dX12_isCamp_17 : decode cX12_isCamp 17 = .ok (.ireturn, 1) := by decide +kernel
theorem dX12_isMan_0 : decode cX12_isMan 0 = .ok (.iload_n 1, 1) := by decide +kernel
theorem dX12_isMan_1 : decode cX12_isMan 1 = .ok (.ifCond .lt 15, 3) := by decide +kernel
theorem dX12_isMan_4 : decode cX12_isMan 4 = .ok (.iload_n 1, 1) := by decide +kernel
theorem dX12_isMan_5 : decode cX12_isMan 5 = .ok (.aload_n 0, 1) := by decide +kernel
theorem dX12_isMan_6 : decode cX12_isMan 6 = .ok (.getfield 193, 3) := by decide +kernel
theorem dX12_isMan_9 : decode cX12_isMan 9 = .ok (.if_icmp .ge 7, 3) := by decide +kernel
theorem dX12_isMan_12 : decode cX12_isMan 12 = .ok (.iconst 1, 1) := by decide +kernel
theorem dX12_isMan_13 : decode cX12_isMan 13 = .ok (.goto 4, 3) := by decide +kernel
theorem dX12_isMan_16 : decode cX12_isMan 16 = .ok (.iconst 0, 1) := by decide +kernel
theorem dX12_isMan_17 : decode cX12_isMan 17 = .ok (.ireturn, 1) := by decide +kernel
theorem dX12_isPost_0 : decode cX12_isPost 0 = .ok (.iload_n 1, 1) := by decide +kernel
theorem dX12_isPost_1 : decode cX12_isPost 1 = .ok (.ifCond .lt 15, 3) := by decide +kernel
theorem dX12_isPost_4 : decode cX12_isPost 4 = .ok (.iload_n 1, 1) := by decide +kernel
theorem dX12_isPost_5 : decode cX12_isPost 5 = .ok (.aload_n 0, 1) := by decide +kernel
theorem dX12_isPost_6 : decode cX12_isPost 6 = .ok (.getfield 196, 3) := by decide +kernel
theorem dX12_isPost_9 : decode cX12_isPost 9 = .ok (.if_icmp .ge 7, 3) := by decide +kernel
theorem dX12_isPost_12 : decode cX12_isPost 12 = .ok (.iconst 1, 1) := by decide +kernel
theorem dX12_isPost_13 : decode cX12_isPost 13 = .ok (.goto 4, 3) := by decide +kernel
theorem dX12_isPost_16 : decode cX12_isPost 16 = .ok (.iconst 0, 1) := by decide +kernel
theorem dX12_isPost_17 : decode cX12_isPost 17 = .ok (.ireturn, 1) := by decide +kernel
theorem dX12_isSpot_0 : decode cX12_isSpot 0 = .ok (.iload_n 0, 1) := by decide +kernel
theorem dX12_isSpot_1 : decode cX12_isSpot 1 = .ok (.iconst 0, 1) := by decide +kernel
theorem dX12_isSpot_2 : decode cX12_isSpot 2 = .ok (.bipush 40, 2) := by decide +kernel
theorem dX12_isSpot_4 : decode cX12_isSpot 4 = .ok (.invokestatic 186, 3) := by decide +kernel
theorem dX12_isSpot_7 : decode cX12_isSpot 7 = .ok (.ifCond .eq 17, 3) := by decide +kernel
theorem dX12_isSpot_10 : decode cX12_isSpot 10 = .ok (.iload_n 1, 1) := by decide +kernel
theorem dX12_isSpot_11 : decode cX12_isSpot 11 = .ok (.iconst 0, 1) := by decide +kernel
theorem dX12_isSpot_12 : decode cX12_isSpot 12 = .ok (.bipush 40, 2) := by decide +kernel
theorem dX12_isSpot_14 : decode cX12_isSpot 14 = .ok (.invokestatic 186, 3) := by decide +kernel
theorem dX12_isSpot_17 : decode cX12_isSpot 17 = .ok (.ifCond .eq 7, 3) := by decide +kernel
theorem dX12_isSpot_20 : decode cX12_isSpot 20 = .ok (.iconst 1, 1) := by decide +kernel
theorem dX12_isSpot_21 : decode cX12_isSpot 21 = .ok (.goto 4, 3) := by decide +kernel
theorem dX12_isSpot_24 : decode cX12_isSpot 24 = .ok (.iconst 0, 1) := by decide +kernel
theorem dX12_isSpot_25 : decode cX12_isSpot 25 = .ok (.ireturn, 1) := by decide +kernel
theorem dX12_camp_0 : decode cX12_camp 0 = .ok (.iload_n 1, 1) := by decide +kernel
theorem dX12_camp_1 : decode cX12_camp 1 = .ok (.iload_n 2, 1) := by decide +kernel
theorem dX12_camp_2 : decode cX12_camp 2 = .ok (.invokestatic 199, 3) := by decide +kernel
theorem dX12_camp_5 : decode cX12_camp 5 = .ok (.ifCond .eq 13, 3) := by decide +kernel
theorem dX12_camp_8 : decode cX12_camp 8 = .ok (.iload_n 3, 1) := by decide +kernel
theorem dX12_camp_9 : decode cX12_camp 9 = .ok (.iconst 1, 1) := by decide +kernel
theorem dX12_camp_10 : decode cX12_camp 10 = .ok (.bipush 9, 2) := by decide +kernel
theorem dX12_camp_12 : decode cX12_camp 12 = .ok (.invokestatic 186, 3) := by decide +kernel
theorem dX12_camp_15 : decode cX12_camp 15 = .ok (.ifCond .ne 6, 3) := by decide +kernel
theorem dX12_camp_18 : decode cX12_camp 18 = .ok (.bipush (-2), 2) := by decide +kernel
theorem dX12_camp_20 : decode cX12_camp 20 = .ok (.ireturn, 1) := by decide +kernel
theorem dX12_camp_21 : decode cX12_camp 21 = .ok (.aload_n 0, 1) := by decide +kernel
theorem dX12_camp_22 : decode cX12_camp 22 = .ok (.getfield 190, 3) := by decide +kernel
theorem dX12_camp_25 : decode cX12_camp 25 = .ok (.bipush 7, 2) := by decide +kernel
theorem dX12_camp_27 : decode cX12_camp 27 = .ok (.if_icmp .ne 6, 3) := by decide +kernel
theorem dX12_camp_30 : decode cX12_camp 30 = .ok (.bipush (-4), 2) := by decide +kernel
theorem dX12_camp_32 : decode cX12_camp 32 = .ok (.ireturn, 1) := by decide +kernel
theorem dX12_camp_33 : decode cX12_camp 33 = .ok (.aload_n 0, 1) := by decide +kernel
theorem dX12_camp_34 : decode cX12_camp 34 = .ok (.getfield 19, 3) := by decide +kernel
theorem dX12_camp_37 : decode cX12_camp 37 = .ok (.aload_n 0, 1) := by decide +kernel
theorem dX12_camp_38 : decode cX12_camp 38 = .ok (.getfield 190, 3) := by decide +kernel
theorem dX12_camp_41 : decode cX12_camp 41 = .ok (.iload_n 1, 1) := by decide +kernel
theorem dX12_camp_42 : decode cX12_camp 42 = .ok (.iastore, 1) := by decide +kernel
theorem dX12_camp_43 : decode cX12_camp 43 = .ok (.aload_n 0, 1) := by decide +kernel
theorem dX12_camp_44 : decode cX12_camp 44 = .ok (.getfield 22, 3) := by decide +kernel
theorem dX12_camp_47 : decode cX12_camp 47 = .ok (.aload_n 0, 1) := by decide +kernel
theorem dX12_camp_48 : decode cX12_camp 48 = .ok (.getfield 190, 3) := by decide +kernel
theorem dX12_camp_51 : decode cX12_camp 51 = .ok (.iload_n 2, 1) := by decide +kernel
theorem dX12_camp_52 : decode cX12_camp 52 = .ok (.iastore, 1) := by decide +kernel
theorem dX12_camp_53 : decode cX12_camp 53 = .ok (.aload_n 0, 1) := by decide +kernel
theorem dX12_camp_54 : decode cX12_camp 54 = .ok (.getfield 25, 3) := by decide +kernel
theorem dX12_camp_57 : decode cX12_camp 57 = .ok (.aload_n 0, 1) := by decide +kernel
theorem dX12_camp_58 : decode cX12_camp 58 = .ok (.getfield 190, 3) := by decide +kernel
theorem dX12_camp_61 : decode cX12_camp 61 = .ok (.iload_n 3, 1) := by decide +kernel
theorem dX12_camp_62 : decode cX12_camp 62 = .ok (.iastore, 1) := by decide +kernel
theorem dX12_camp_63 : decode cX12_camp 63 = .ok (.aload_n 0, 1) := by decide +kernel
theorem dX12_camp_64 : decode cX12_camp 64 = .ok (.getfield 149, 3) := by decide +kernel
theorem dX12_camp_67 : decode cX12_camp 67 = .ok (.aload_n 0, 1) := by decide +kernel
theorem dX12_camp_68 : decode cX12_camp 68 = .ok (.getfield 190, 3) := by decide +kernel
theorem dX12_camp_71 : decode cX12_camp 71 = .ok (.iconst 0, 1) := by decide +kernel
theorem dX12_camp_72 : decode cX12_camp 72 = .ok (.iastore, 1) := by decide +kernel
theorem dX12_camp_73 : decode cX12_camp 73 = .ok (.aload_n 0, 1) := by decide +kernel
theorem dX12_camp_74 : decode cX12_camp 74 = .ok (.dup, 1) := by decide +kernel
theorem dX12_camp_75 : decode cX12_camp 75 = .ok (.getfield 190, 3) := by decide +kernel
theorem dX12_camp_78 : decode cX12_camp 78 = .ok (.iconst 1, 1) := by decide +kernel
theorem dX12_camp_79 : decode cX12_camp 79 = .ok (.iadd, 1) := by decide +kernel
theorem dX12_camp_80 : decode cX12_camp 80 = .ok (.putfield 190, 3) := by decide +kernel
theorem dX12_camp_83 : decode cX12_camp 83 = .ok (.aload_n 0, 1) := by decide +kernel
theorem dX12_camp_84 : decode cX12_camp 84 = .ok (.getfield 190, 3) := by decide +kernel
theorem dX12_camp_87 : decode cX12_camp 87 = .ok (.iconst 1, 1) := by decide +kernel
theorem dX12_camp_88 : decode cX12_camp 88 = .ok (.isub, 1) := by decide +kernel
theorem dX12_camp_89 : decode cX12_camp 89 = .ok (.ireturn, 1) := by decide +kernel
theorem dX12_man_0 : decode cX12_man 0 = .ok (.aload_n 0, 1) := by decide +kernel
theorem dX12_man_1 : decode cX12_man 1 = .ok (.getfield 193, 3) := by decide +kernel
theorem dX12_man_4 : decode cX12_man 4 = .ok (.bipush 20, 2) := by decide +kernel
theorem dX12_man_6 : decode cX12_man 6 = .ok (.if_icmp .ne 6, 3) := by decide +kernel
theorem dX12_man_9 : decode cX12_man 9 = .ok (.bipush (-4), 2) := by decide +kernel
theorem dX12_man_11 : decode cX12_man 11 = .ok (.ireturn, 1) := by decide +kernel
theorem dX12_man_12 : decode cX12_man 12 = .ok (.aload_n 0, 1) := by decide +kernel
theorem dX12_man_13 : decode cX12_man 13 = .ok (.dup, 1) := by decide +kernel
theorem dX12_man_14 : decode cX12_man 14 = .ok (.getfield 193, 3) := by decide +kernel
theorem dX12_man_17 : decode cX12_man 17 = .ok (.iconst 1, 1) := by decide +kernel
theorem dX12_man_18 : decode cX12_man 18 = .ok (.iadd, 1) := by decide +kernel
theorem dX12_man_19 : decode cX12_man 19 = .ok (.putfield 193, 3) := by decide +kernel
theorem dX12_man_22 : decode cX12_man 22 = .ok (.aload_n 0, 1) := by decide +kernel
theorem dX12_man_23 : decode cX12_man 23 = .ok (.getfield 193, 3) := by decide +kernel
theorem dX12_man_26 : decode cX12_man 26 = .ok (.iconst 1, 1) := by decide +kernel
theorem dX12_man_27 : decode cX12_man 27 = .ok (.isub, 1) := by decide +kernel
theorem dX12_man_28 : decode cX12_man 28 = .ok (.ireturn, 1) := by decide +kernel
theorem dX12_areDays_0 : decode cX12_areDays 0 = .ok (.iload_n 0, 1) := by decide +kernel
theorem dX12_areDays_1 : decode cX12_areDays 1 = .ok (.invokestatic 203, 3) := by decide +kernel
theorem dX12_areDays_4 : decode cX12_areDays 4 = .ok (.ifCond .eq 19, 3) := by decide +kernel
theorem dX12_areDays_7 : decode cX12_areDays 7 = .ok (.iload_n 1, 1) := by decide +kernel
theorem dX12_areDays_8 : decode cX12_areDays 8 = .ok (.invokestatic 203, 3) := by decide +kernel
theorem dX12_areDays_11 : decode cX12_areDays 11 = .ok (.ifCond .eq 12, 3) := by decide +kernel
theorem dX12_areDays_14 : decode cX12_areDays 14 = .ok (.iload_n 0, 1) := by decide +kernel
theorem dX12_areDays_15 : decode cX12_areDays 15 = .ok (.iload_n 1, 1) := by decide +kernel
theorem dX12_areDays_16 : decode cX12_areDays 16 = .ok (.if_icmp .gt 7, 3) := by decide +kernel
theorem dX12_areDays_19 : decode cX12_areDays 19 = .ok (.iconst 1, 1) := by decide +kernel
theorem dX12_areDays_20 : decode cX12_areDays 20 = .ok (.goto 4, 3) := by decide +kernel
theorem dX12_areDays_23 : decode cX12_areDays 23 = .ok (.iconst 0, 1) := by decide +kernel
theorem dX12_areDays_24 : decode cX12_areDays 24 = .ok (.ireturn, 1) := by decide +kernel
theorem dX12_post_0 : decode cX12_post 0 = .ok (.aload_n 0, 1) := by decide +kernel
theorem dX12_post_1 : decode cX12_post 1 = .ok (.iload_n 2, 1) := by decide +kernel
theorem dX12_post_2 : decode cX12_post 2 = .ok (.invokevirtual 207, 3) := by decide +kernel
theorem dX12_post_5 : decode cX12_post 5 = .ok (.ifCond .eq 11, 3) := by decide +kernel
theorem dX12_post_8 : decode cX12_post 8 = .ok (.aload_n 0, 1) := by decide +kernel
theorem dX12_post_9 : decode cX12_post 9 = .ok (.iload_n 3, 1) := by decide +kernel
theorem dX12_post_10 : decode cX12_post 10 = .ok (.invokevirtual 210, 3) := by decide +kernel
theorem dX12_post_13 : decode cX12_post 13 = .ok (.ifCond .ne 5, 3) := by decide +kernel
theorem dX12_post_16 : decode cX12_post 16 = .ok (.iconst (-1), 1) := by decide +kernel
theorem dX12_post_17 : decode cX12_post 17 = .ok (.ireturn, 1) := by decide +kernel
theorem dX12_post_18 : decode cX12_post 18 = .ok (.iload_n 1, 1) := by decide +kernel
theorem dX12_post_19 : decode cX12_post 19 = .ok (.iconst 0, 1) := by decide +kernel
theorem dX12_post_20 : decode cX12_post 20 = .ok (.iconst 2, 1) := by decide +kernel
theorem dX12_post_21 : decode cX12_post 21 = .ok (.invokestatic 186, 3) := by decide +kernel
theorem dX12_post_24 : decode cX12_post 24 = .ok (.ifCond .eq 13, 3) := by decide +kernel
theorem dX12_post_27 : decode cX12_post 27 = .ok (.iload 4, 2) := by decide +kernel
theorem dX12_post_29 : decode cX12_post 29 = .ok (.iload 5, 2) := by decide +kernel
theorem dX12_post_31 : decode cX12_post 31 = .ok (.invokestatic 213, 3) := by decide +kernel
theorem dX12_post_34 : decode cX12_post 34 = .ok (.ifCond .ne 6, 3) := by decide +kernel
theorem dX12_post_37 : decode cX12_post 37 = .ok (.bipush (-2), 2) := by decide +kernel
theorem dX12_post_39 : decode cX12_post 39 = .ok (.ireturn, 1) := by decide +kernel
theorem dX12_post_40 : decode cX12_post 40 = .ok (.iconst 0, 1) := by decide +kernel
theorem dX12_post_41 : decode cX12_post 41 = .ok (.istore 6, 2) := by decide +kernel
theorem dX12_post_43 : decode cX12_post 43 = .ok (.iload 6, 2) := by decide +kernel
theorem dX12_post_45 : decode cX12_post 45 = .ok (.aload_n 0, 1) := by decide +kernel
theorem dX12_post_46 : decode cX12_post 46 = .ok (.getfield 196, 3) := by decide +kernel
theorem dX12_post_49 : decode cX12_post 49 = .ok (.if_icmp .ge 47, 3) := by decide +kernel
theorem dX12_post_52 : decode cX12_post 52 = .ok (.aload_n 0, 1) := by decide +kernel
theorem dX12_post_53 : decode cX12_post 53 = .ok (.getfield 31, 3) := by decide +kernel
theorem dX12_post_56 : decode cX12_post 56 = .ok (.iload 6, 2) := by decide +kernel
theorem dX12_post_58 : decode cX12_post 58 = .ok (.iaload, 1) := by decide +kernel
theorem dX12_post_59 : decode cX12_post 59 = .ok (.iload_n 2, 1) := by decide +kernel
theorem dX12_post_60 : decode cX12_post 60 = .ok (.if_icmp .ne 30, 3) := by decide +kernel
theorem dX12_post_63 : decode cX12_post 63 = .ok (.aload_n 0, 1) := by decide +kernel
theorem dX12_post_64 : decode cX12_post 64 = .ok (.getfield 37, 3) := by decide +kernel
theorem dX12_post_67 : decode cX12_post 67 = .ok (.iload 6, 2) := by decide +kernel
theorem dX12_post_69 : decode cX12_post 69 = .ok (.iaload, 1) := by decide +kernel
theorem dX12_post_70 : decode cX12_post 70 = .ok (.iload 5, 2) := by decide +kernel
theorem dX12_post_72 : decode cX12_post 72 = .ok (.if_icmp .gt 18, 3) := by decide +kernel
theorem dX12_post_75 : decode cX12_post 75 = .ok (.iload 4, 2) := by decide +kernel
theorem dX12_post_77 : decode cX12_post 77 = .ok (.aload_n 0, 1) := by decide +kernel
theorem dX12_post_78 : decode cX12_post 78 = .ok (.getfield 40, 3) := by decide +kernel
theorem dX12_post_81 : decode cX12_post 81 = .ok (.iload 6, 2) := by decide +kernel
theorem dX12_post_83 : decode cX12_post 83 = .ok (.iaload, 1) := by decide +kernel
theorem dX12_post_84 : decode cX12_post 84 = .ok (.if_icmp .gt 6, 3) := by decide +kernel
theorem dX12_post_87 : decode cX12_post 87 = .ok (.bipush (-3), 2) := by decide +kernel
theorem dX12_post_89 : decode cX12_post 89 = .ok (.ireturn, 1) := by decide +kernel
theorem dX12_post_90 : decode cX12_post 90 = .ok (.iinc 6 1, 3) := by decide +kernel
theorem dX12_post_93 : decode cX12_post 93 = .ok (.goto (-50), 3) := by decide +kernel
theorem dX12_post_96 : decode cX12_post 96 = .ok (.aload_n 0, 1) := by decide +kernel
theorem dX12_post_97 : decode cX12_post 97 = .ok (.getfield 196, 3) := by decide +kernel
theorem dX12_post_100 : decode cX12_post 100 = .ok (.bipush 30, 2) := by decide +kernel
theorem dX12_post_102 : decode cX12_post 102 = .ok (.if_icmp .ne 6, 3) := by decide +kernel
theorem dX12_post_105 : decode cX12_post 105 = .ok (.bipush (-4), 2) := by decide +kernel
theorem dX12_post_107 : decode cX12_post 107 = .ok (.ireturn, 1) := by decide +kernel
theorem dX12_post_108 : decode cX12_post 108 = .ok (.aload_n 0, 1) := by decide +kernel
theorem dX12_post_109 : decode cX12_post 109 = .ok (.getfield 28, 3) := by decide +kernel
theorem dX12_post_112 : decode cX12_post 112 = .ok (.aload_n 0, 1) := by decide +kernel
theorem dX12_post_113 : decode cX12_post 113 = .ok (.getfield 196, 3) := by decide +kernel
theorem dX12_post_116 : decode cX12_post 116 = .ok (.iload_n 1, 1) := by decide +kernel
theorem dX12_post_117 : decode cX12_post 117 = .ok (.iastore, 1) := by decide +kernel
theorem dX12_post_118 : decode cX12_post 118 = .ok (.aload_n 0, 1) := by decide +kernel
theorem dX12_post_119 : decode cX12_post 119 = .ok (.getfield 31, 3) := by decide +kernel
theorem dX12_post_122 : decode cX12_post 122 = .ok (.aload_n 0, 1) := by decide +kernel
theorem dX12_post_123 : decode cX12_post 123 = .ok (.getfield 196, 3) := by decide +kernel
theorem dX12_post_126 : decode cX12_post 126 = .ok (.iload_n 2, 1) := by decide +kernel
theorem dX12_post_127 : decode cX12_post 127 = .ok (.iastore, 1) := by decide +kernel
theorem dX12_post_128 : decode cX12_post 128 = .ok (.aload_n 0, 1) := by decide +kernel
theorem dX12_post_129 : decode cX12_post 129 = .ok (.getfield 34, 3) := by decide +kernel
theorem dX12_post_132 : decode cX12_post 132 = .ok (.aload_n 0, 1) := by decide +kernel
theorem dX12_post_133 : decode cX12_post 133 = .ok (.getfield 196, 3) := by decide +kernel
theorem dX12_post_136 : decode cX12_post 136 = .ok (.iload_n 3, 1) := by decide +kernel
theorem dX12_post_137 : decode cX12_post 137 = .ok (.iastore, 1) := by decide +kernel
theorem dX12_post_138 : decode cX12_post 138 = .ok (.aload_n 0, 1) := by decide +kernel
theorem dX12_post_139 : decode cX12_post 139 = .ok (.getfield 37, 3) := by decide +kernel
theorem dX12_post_142 : decode cX12_post 142 = .ok (.aload_n 0, 1) := by decide +kernel
theorem dX12_post_143 : decode cX12_post 143 = .ok (.getfield 196, 3) := by decide +kernel
theorem dX12_post_146 : decode cX12_post 146 = .ok (.iload 4, 2) := by decide +kernel
theorem dX12_post_148 : decode cX12_post 148 = .ok (.iastore, 1) := by decide +kernel
theorem dX12_post_149 : decode cX12_post 149 = .ok (.aload_n 0, 1) := by decide +kernel
theorem dX12_post_150 : decode cX12_post 150 = .ok (.getfield 40, 3) := by decide +kernel
theorem dX12_post_153 : decode cX12_post 153 = .ok (.aload_n 0, 1) := by decide +kernel
theorem dX12_post_154 : decode cX12_post 154 = .ok (.getfield 196, 3) := by decide +kernel
theorem dX12_post_157 : decode cX12_post 157 = .ok (.iload 5, 2) := by decide +kernel
theorem dX12_post_159 : decode cX12_post 159 = .ok (.iastore, 1) := by decide +kernel
theorem dX12_post_160 : decode cX12_post 160 = .ok (.aload_n 0, 1) := by decide +kernel
theorem dX12_post_161 : decode cX12_post 161 = .ok (.dup, 1) := by decide +kernel
theorem dX12_post_162 : decode cX12_post 162 = .ok (.getfield 196, 3) := by decide +kernel
theorem dX12_post_165 : decode cX12_post 165 = .ok (.iconst 1, 1) := by decide +kernel
theorem dX12_post_166 : decode cX12_post 166 = .ok (.iadd, 1) := by decide +kernel
theorem dX12_post_167 : decode cX12_post 167 = .ok (.putfield 196, 3) := by decide +kernel
theorem dX12_post_170 : decode cX12_post 170 = .ok (.aload_n 0, 1) := by decide +kernel
theorem dX12_post_171 : decode cX12_post 171 = .ok (.getfield 196, 3) := by decide +kernel
theorem dX12_post_174 : decode cX12_post 174 = .ok (.iconst 1, 1) := by decide +kernel
theorem dX12_post_175 : decode cX12_post 175 = .ok (.isub, 1) := by decide +kernel
theorem dX12_post_176 : decode cX12_post 176 = .ok (.ireturn, 1) := by decide +kernel
theorem dX12_postOn_0 : decode cX12_postOn 0 = .ok (.iconst 0, 1) := by decide +kernel
theorem dX12_postOn_1 : decode cX12_postOn 1 = .ok (.istore_n 3, 1) := by decide +kernel
theorem dX12_postOn_2 : decode cX12_postOn 2 = .ok (.iload_n 3, 1) := by decide +kernel
theorem dX12_postOn_3 : decode cX12_postOn 3 = .ok (.aload_n 0, 1) := by decide +kernel
theorem dX12_postOn_4 : decode cX12_postOn 4 = .ok (.getfield 196, 3) := by decide +kernel
theorem dX12_postOn_7 : decode cX12_postOn 7 = .ok (.if_icmp .ge 40, 3) := by decide +kernel
theorem dX12_postOn_10 : decode cX12_postOn 10 = .ok (.aload_n 0, 1) := by decide +kernel
theorem dX12_postOn_11 : decode cX12_postOn 11 = .ok (.getfield 31, 3) := by decide +kernel
theorem dX12_postOn_14 : decode cX12_postOn 14 = .ok (.iload_n 3, 1) := by decide +kernel
theorem dX12_postOn_15 : decode cX12_postOn 15 = .ok (.iaload, 1) := by decide +kernel
theorem dX12_postOn_16 : decode cX12_postOn 16 = .ok (.iload_n 1, 1) := by decide +kernel
theorem dX12_postOn_17 : decode cX12_postOn 17 = .ok (.if_icmp .ne 24, 3) := by decide +kernel
theorem dX12_postOn_20 : decode cX12_postOn 20 = .ok (.iload_n 2, 1) := by decide +kernel
theorem dX12_postOn_21 : decode cX12_postOn 21 = .ok (.aload_n 0, 1) := by decide +kernel
theorem dX12_postOn_22 : decode cX12_postOn 22 = .ok (.getfield 37, 3) := by decide +kernel
theorem dX12_postOn_25 : decode cX12_postOn 25 = .ok (.iload_n 3, 1) := by decide +kernel
theorem dX12_postOn_26 : decode cX12_postOn 26 = .ok (.iaload, 1) := by decide +kernel
theorem dX12_postOn_27 : decode cX12_postOn 27 = .ok (.aload_n 0, 1) := by decide +kernel
theorem dX12_postOn_28 : decode cX12_postOn 28 = .ok (.getfield 40, 3) := by decide +kernel
theorem dX12_postOn_31 : decode cX12_postOn 31 = .ok (.iload_n 3, 1) := by decide +kernel
theorem dX12_postOn_32 : decode cX12_postOn 32 = .ok (.iaload, 1) := by decide +kernel
theorem dX12_postOn_33 : decode cX12_postOn 33 = .ok (.invokestatic 186, 3) := by decide +kernel
theorem dX12_postOn_36 : decode cX12_postOn 36 = .ok (.ifCond .eq 5, 3) := by decide +kernel
theorem dX12_postOn_39 : decode cX12_postOn 39 = .ok (.iload_n 3, 1) := by decide +kernel
theorem dX12_postOn_40 : decode cX12_postOn 40 = .ok (.ireturn, 1) := by decide +kernel
theorem dX12_postOn_41 : decode cX12_postOn 41 = .ok (.iinc 3 1, 3) := by decide +kernel
theorem dX12_postOn_44 : decode cX12_postOn 44 = .ok (.goto (-42), 3) := by decide +kernel
theorem dX12_postOn_47 : decode cX12_postOn 47 = .ok (.bipush (-9), 2) := by decide +kernel
theorem dX12_postOn_49 : decode cX12_postOn 49 = .ok (.ireturn, 1) := by decide +kernel
theorem dX12_day_0 : decode cX12_day 0 = .ok (.aload_n 0, 1) := by decide +kernel
theorem dX12_day_1 : decode cX12_day 1 = .ok (.iload_n 1, 1) := by decide +kernel
theorem dX12_day_2 : decode cX12_day 2 = .ok (.invokevirtual 207, 3) := by decide +kernel
theorem dX12_day_5 : decode cX12_day 5 = .ok (.ifCond .ne 5, 3) := by decide +kernel
theorem dX12_day_8 : decode cX12_day 8 = .ok (.iconst (-1), 1) := by decide +kernel
theorem dX12_day_9 : decode cX12_day 9 = .ok (.ireturn, 1) := by decide +kernel
theorem dX12_day_10 : decode cX12_day 10 = .ok (.iload_n 2, 1) := by decide +kernel
theorem dX12_day_11 : decode cX12_day 11 = .ok (.invokestatic 203, 3) := by decide +kernel
theorem dX12_day_14 : decode cX12_day 14 = .ok (.ifCond .eq 12, 3) := by decide +kernel
theorem dX12_day_17 : decode cX12_day 17 = .ok (.aload_n 0, 1) := by decide +kernel
theorem dX12_day_18 : decode cX12_day 18 = .ok (.iload_n 1, 1) := by decide +kernel
theorem dX12_day_19 : decode cX12_day 19 = .ok (.iload_n 2, 1) := by decide +kernel
theorem dX12_day_20 : decode cX12_day 20 = .ok (.invokevirtual 216, 3) := by decide +kernel
theorem dX12_day_23 : decode cX12_day 23 = .ok (.goto 5, 3) := by decide +kernel
theorem dX12_day_26 : decode cX12_day 26 = .ok (.bipush (-2), 2) := by decide +kernel
theorem dX12_day_28 : decode cX12_day 28 = .ok (.ireturn, 1) := by decide +kernel
theorem dX12_menAt_0 : decode cX12_menAt 0 = .ok (.iconst 0, 1) := by decide +kernel
theorem dX12_menAt_1 : decode cX12_menAt 1 = .ok (.istore_n 3, 1) := by decide +kernel
theorem dX12_menAt_2 : decode cX12_menAt 2 = .ok (.iconst 0, 1) := by decide +kernel
theorem dX12_menAt_3 : decode cX12_menAt 3 = .ok (.istore 4, 2) := by decide +kernel
theorem dX12_menAt_5 : decode cX12_menAt 5 = .ok (.iload 4, 2) := by decide +kernel
theorem dX12_menAt_7 : decode cX12_menAt 7 = .ok (.aload_n 0, 1) := by decide +kernel
theorem dX12_menAt_8 : decode cX12_menAt 8 = .ok (.getfield 196, 3) := by decide +kernel
theorem dX12_menAt_11 : decode cX12_menAt 11 = .ok (.if_icmp .ge 49, 3) := by decide +kernel
theorem dX12_menAt_14 : decode cX12_menAt 14 = .ok (.iload_n 3, 1) := by decide +kernel
theorem dX12_menAt_15 : decode cX12_menAt 15 = .ok (.aload_n 0, 1) := by decide +kernel
theorem dX12_menAt_16 : decode cX12_menAt 16 = .ok (.getfield 34, 3) := by decide +kernel
theorem dX12_menAt_19 : decode cX12_menAt 19 = .ok (.iload 4, 2) := by decide +kernel
theorem dX12_menAt_21 : decode cX12_menAt 21 = .ok (.iaload, 1) := by decide +kernel
theorem dX12_menAt_22 : decode cX12_menAt 22 = .ok (.iload_n 1, 1) := by decide +kernel
theorem dX12_menAt_23 : decode cX12_menAt 23 = .ok (.if_icmp .ne 28, 3) := by decide +kernel
theorem dX12_menAt_26 : decode cX12_menAt 26 = .ok (.iload_n 2, 1) := by decide +kernel
theorem dX12_menAt_27 : decode cX12_menAt 27 = .ok (.aload_n 0, 1) := by decide +kernel
theorem dX12_menAt_28 : decode cX12_menAt 28 = .ok (.getfield 37, 3) := by decide +kernel
theorem dX12_menAt_31 : decode cX12_menAt 31 = .ok (.iload 4, 2) := by decide +kernel
theorem dX12_menAt_33 : decode cX12_menAt 33 = .ok (.iaload, 1) := by decide +kernel
theorem dX12_menAt_34 : decode cX12_menAt 34 = .ok (.aload_n 0, 1) := by decide +kernel
theorem dX12_menAt_35 : decode cX12_menAt 35 = .ok (.getfield 40, 3) := by decide +kernel
theorem dX12_menAt_38 : decode cX12_menAt 38 = .ok (.iload 4, 2) := by decide +kernel
theorem dX12_menAt_40 : decode cX12_menAt 40 = .ok (.iaload, 1) := by decide +kernel
theorem dX12_menAt_41 : decode cX12_menAt 41 = .ok (.invokestatic 186, 3) := by decide +kernel
theorem dX12_menAt_44 : decode cX12_menAt 44 = .ok (.ifCond .eq 7, 3) := by decide +kernel
theorem dX12_menAt_47 : decode cX12_menAt 47 = .ok (.iconst 1, 1) := by decide +kernel
theorem dX12_menAt_48 : decode cX12_menAt 48 = .ok (.goto 4, 3) := by decide +kernel
theorem dX12_menAt_51 : decode cX12_menAt 51 = .ok (.iconst 0, 1) := by decide +kernel
theorem dX12_menAt_52 : decode cX12_menAt 52 = .ok (.iadd, 1) := by decide +kernel
theorem dX12_menAt_53 : decode cX12_menAt 53 = .ok (.istore_n 3, 1) := by decide +kernel
theorem dX12_menAt_54 : decode cX12_menAt 54 = .ok (.iinc 4 1, 3) := by decide +kernel
theorem dX12_menAt_57 : decode cX12_menAt 57 = .ok (.goto (-52), 3) := by decide +kernel
theorem dX12_menAt_60 : decode cX12_menAt 60 = .ok (.iload_n 3, 1) := by decide +kernel
theorem dX12_menAt_61 : decode cX12_menAt 61 = .ok (.ireturn, 1) := by decide +kernel
theorem dX12_beds_0 : decode cX12_beds 0 = .ok (.aload_n 0, 1) := by decide +kernel
theorem dX12_beds_1 : decode cX12_beds 1 = .ok (.iload_n 1, 1) := by decide +kernel
theorem dX12_beds_2 : decode cX12_beds 2 = .ok (.invokevirtual 210, 3) := by decide +kernel
theorem dX12_beds_5 : decode cX12_beds 5 = .ok (.ifCond .ne 5, 3) := by decide +kernel
theorem dX12_beds_8 : decode cX12_beds 8 = .ok (.iconst (-1), 1) := by decide +kernel
theorem dX12_beds_9 : decode cX12_beds 9 = .ok (.ireturn, 1) := by decide +kernel
theorem dX12_beds_10 : decode cX12_beds 10 = .ok (.iload_n 2, 1) := by decide +kernel
theorem dX12_beds_11 : decode cX12_beds 11 = .ok (.invokestatic 203, 3) := by decide +kernel
theorem dX12_beds_14 : decode cX12_beds 14 = .ok (.ifCond .eq 12, 3) := by decide +kernel
theorem dX12_beds_17 : decode cX12_beds 17 = .ok (.aload_n 0, 1) := by decide +kernel
theorem dX12_beds_18 : decode cX12_beds 18 = .ok (.iload_n 1, 1) := by decide +kernel
theorem dX12_beds_19 : decode cX12_beds 19 = .ok (.iload_n 2, 1) := by decide +kernel
theorem dX12_beds_20 : decode cX12_beds 20 = .ok (.invokevirtual 220, 3) := by decide +kernel
theorem dX12_beds_23 : decode cX12_beds 23 = .ok (.goto 5, 3) := by decide +kernel
theorem dX12_beds_26 : decode cX12_beds 26 = .ok (.bipush (-2), 2) := by decide +kernel
theorem dX12_beds_28 : decode cX12_beds 28 = .ok (.ireturn, 1) := by decide +kernel
theorem dX12_over_0 : decode cX12_over 0 = .ok (.aload_n 0, 1) := by decide +kernel
theorem dX12_over_1 : decode cX12_over 1 = .ok (.iload_n 1, 1) := by decide +kernel
theorem dX12_over_2 : decode cX12_over 2 = .ok (.invokevirtual 210, 3) := by decide +kernel
theorem dX12_over_5 : decode cX12_over 5 = .ok (.ifCond .ne 5, 3) := by decide +kernel
theorem dX12_over_8 : decode cX12_over 8 = .ok (.iconst (-1), 1) := by decide +kernel
theorem dX12_over_9 : decode cX12_over 9 = .ok (.ireturn, 1) := by decide +kernel
theorem dX12_over_10 : decode cX12_over 10 = .ok (.iconst 0, 1) := by decide +kernel
theorem dX12_over_11 : decode cX12_over 11 = .ok (.istore_n 2, 1) := by decide +kernel
theorem dX12_over_12 : decode cX12_over 12 = .ok (.iload_n 2, 1) := by decide +kernel
theorem dX12_over_13 : decode cX12_over 13 = .ok (.sipush 399, 3) := by decide +kernel
theorem dX12_over_16 : decode cX12_over 16 = .ok (.if_icmp .gt 26, 3) := by decide +kernel
theorem dX12_over_19 : decode cX12_over 19 = .ok (.aload_n 0, 1) := by decide +kernel
theorem dX12_over_20 : decode cX12_over 20 = .ok (.iload_n 1, 1) := by decide +kernel
theorem dX12_over_21 : decode cX12_over 21 = .ok (.iload_n 2, 1) := by decide +kernel
theorem dX12_over_22 : decode cX12_over 22 = .ok (.invokevirtual 220, 3) := by decide +kernel
theorem dX12_over_25 : decode cX12_over 25 = .ok (.aload_n 0, 1) := by decide +kernel
theorem dX12_over_26 : decode cX12_over 26 = .ok (.getfield 25, 3) := by decide +kernel
theorem dX12_over_29 : decode cX12_over 29 = .ok (.iload_n 1, 1) := by decide +kernel
theorem dX12_over_30 : decode cX12_over 30 = .ok (.iaload, 1) := by decide +kernel
theorem dX12_over_31 : decode cX12_over 31 = .ok (.if_icmp .le 5, 3) := by decide +kernel
theorem dX12_over_34 : decode cX12_over 34 = .ok (.iload_n 2, 1) := by decide +kernel
theorem dX12_over_35 : decode cX12_over 35 = .ok (.ireturn, 1) := by decide +kernel
theorem dX12_over_36 : decode cX12_over 36 = .ok (.iinc 2 1, 3) := by decide +kernel
theorem dX12_over_39 : decode cX12_over 39 = .ok (.goto (-27), 3) := by decide +kernel
theorem dX12_over_42 : decode cX12_over 42 = .ok (.bipush (-9), 2) := by decide +kernel
theorem dX12_over_44 : decode cX12_over 44 = .ok (.ireturn, 1) := by decide +kernel
theorem dX12_isSign_0 : decode cX12_isSign 0 = .ok (.aload_n 0, 1) := by decide +kernel
theorem dX12_isSign_1 : decode cX12_isSign 1 = .ok (.getfield 223, 3) := by decide +kernel
theorem dX12_isSign_4 : decode cX12_isSign 4 = .ok (.aload_n 0, 1) := by decide +kernel
theorem dX12_isSign_5 : decode cX12_isSign 5 = .ok (.getfield 226, 3) := by decide +kernel
theorem dX12_isSign_8 : decode cX12_isSign 8 = .ok (.if_icmp .ge 28, 3) := by decide +kernel
theorem dX12_isSign_11 : decode cX12_isSign 11 = .ok (.aload_n 0, 1) := by decide +kernel
theorem dX12_isSign_12 : decode cX12_isSign 12 = .ok (.getfield 16, 3) := by decide +kernel
theorem dX12_isSign_15 : decode cX12_isSign 15 = .ok (.aload_n 0, 1) := by decide +kernel
theorem dX12_isSign_16 : decode cX12_isSign 16 = .ok (.getfield 223, 3) := by decide +kernel
theorem dX12_isSign_19 : decode cX12_isSign 19 = .ok (.iaload, 1) := by decide +kernel
theorem dX12_isSign_20 : decode cX12_isSign 20 = .ok (.iload_n 1, 1) := by decide +kernel
theorem dX12_isSign_21 : decode cX12_isSign 21 = .ok (.if_icmp .ne 15, 3) := by decide +kernel
theorem dX12_isSign_24 : decode cX12_isSign 24 = .ok (.aload_n 0, 1) := by decide +kernel
theorem dX12_isSign_25 : decode cX12_isSign 25 = .ok (.dup, 1) := by decide +kernel
theorem dX12_isSign_26 : decode cX12_isSign 26 = .ok (.getfield 223, 3) := by decide +kernel
theorem dX12_isSign_29 : decode cX12_isSign 29 = .ok (.iconst 1, 1) := by decide +kernel
theorem dX12_isSign_30 : decode cX12_isSign 30 = .ok (.iadd, 1) := by decide +kernel
theorem dX12_isSign_31 : decode cX12_isSign 31 = .ok (.putfield 223, 3) := by decide +kernel
theorem dX12_isSign_34 : decode cX12_isSign 34 = .ok (.iconst 1, 1) := by decide +kernel
theorem dX12_isSign_35 : decode cX12_isSign 35 = .ok (.ireturn, 1) := by decide +kernel
theorem dX12_isSign_36 : decode cX12_isSign 36 = .ok (.aload_n 0, 1) := by decide +kernel
theorem dX12_isSign_37 : decode cX12_isSign 37 = .ok (.aload_n 0, 1) := by decide +kernel
theorem dX12_isSign_38 : decode cX12_isSign 38 = .ok (.getfield 223, 3) := by decide +kernel
theorem dX12_isSign_41 : decode cX12_isSign 41 = .ok (.putfield 229, 3) := by decide +kernel
theorem dX12_isSign_44 : decode cX12_isSign 44 = .ok (.iconst 0, 1) := by decide +kernel
theorem dX12_isSign_45 : decode cX12_isSign 45 = .ok (.ireturn, 1) := by decide +kernel
theorem dX12_number_0 : decode cX12_number 0 = .ok (.aload_n 0, 1) := by decide +kernel
theorem dX12_number_1 : decode cX12_number 1 = .ok (.getfield 223, 3) := by decide +kernel
theorem dX12_number_4 : decode cX12_number 4 = .ok (.istore 4, 2) := by decide +kernel
theorem dX12_number_6 : decode cX12_number 6 = .ok (.iconst 0, 1) := by decide +kernel
theorem dX12_number_7 : decode cX12_number 7 = .ok (.istore 5, 2) := by decide +kernel
theorem dX12_number_9 : decode cX12_number 9 = .ok (.aload_n 0, 1) := by decide +kernel
theorem dX12_number_10 : decode cX12_number 10 = .ok (.getfield 223, 3) := by decide +kernel
theorem dX12_number_13 : decode cX12_number 13 = .ok (.aload_n 0, 1) := by decide +kernel
theorem dX12_number_14 : decode cX12_number 14 = .ok (.getfield 226, 3) := by decide +kernel
theorem dX12_number_17 : decode cX12_number 17 = .ok (.if_icmp .ge 66, 3) := by decide +kernel
theorem dX12_number_20 : decode cX12_number 20 = .ok (.aload_n 0, 1) := by decide +kernel
theorem dX12_number_21 : decode cX12_number 21 = .ok (.getfield 223, 3) := by decide +kernel
theorem dX12_number_24 : decode cX12_number 24 = .ok (.iload 4, 2) := by decide +kernel
theorem dX12_number_26 : decode cX12_number 26 = .ok (.iload_n 1, 1) := by decide +kernel
theorem dX12_number_27 : decode cX12_number 27 = .ok (.iadd, 1) := by decide +kernel
theorem dX12_number_28 : decode cX12_number 28 = .ok (.if_icmp .ge 55, 3) := by decide +kernel
theorem dX12_number_31 : decode cX12_number 31 = .ok (.aload_n 0, 1) := by decide +kernel
theorem dX12_number_32 : decode cX12_number 32 = .ok (.getfield 16, 3) := by decide +kernel
theorem dX12_number_35 : decode cX12_number 35 = .ok (.aload_n 0, 1) := by decide +kernel
theorem dX12_number_36 : decode cX12_number 36 = .ok (.getfield 223, 3) := by decide +kernel
theorem dX12_number_39 : decode cX12_number 39 = .ok (.iaload, 1) := by decide +kernel
theorem dX12_number_40 : decode cX12_number 40 = .ok (.bipush 48, 2) := by decide +kernel
theorem dX12_number_42 : decode cX12_number 42 = .ok (.bipush 57, 2) := by decide +kernel
theorem dX12_number_44 : decode cX12_number 44 = .ok (.invokestatic 186, 3) := by decide +kernel
theorem dX12_number_47 : decode cX12_number 47 = .ok (.ifCond .eq 36, 3) := by decide +kernel
theorem dX12_number_50 : decode cX12_number 50 = .ok (.bipush 10, 2) := by decide +kernel
theorem dX12_number_52 : decode cX12_number 52 = .ok (.iload 5, 2) := by decide +kernel
theorem dX12_number_54 : decode cX12_number 54 = .ok (.imul, 1) := by decide +kernel
theorem dX12_number_55 : decode cX12_number 55 = .ok (.aload_n 0, 1) := by decide +kernel
theorem dX12_number_56 : decode cX12_number 56 = .ok (.getfield 16, 3) := by decide +kernel
theorem dX12_number_59 : decode cX12_number 59 = .ok (.aload_n 0, 1) := by decide +kernel
theorem dX12_number_60 : decode cX12_number 60 = .ok (.getfield 223, 3) := by decide +kernel
theorem dX12_number_63 : decode cX12_number 63 = .ok (.iaload, 1) := by decide +kernel
theorem dX12_number_64 : decode cX12_number 64 = .ok (.iadd, 1) := by decide +kernel
theorem dX12_number_65 : decode cX12_number 65 = .ok (.bipush 48, 2) := by decide +kernel
theorem dX12_number_67 : decode cX12_number 67 = .ok (.isub, 1) := by decide +kernel
theorem dX12_number_68 : decode cX12_number 68 = .ok (.istore 5, 2) := by decide +kernel
theorem dX12_number_70 : decode cX12_number 70 = .ok (.aload_n 0, 1) := by decide +kernel
theorem dX12_number_71 : decode cX12_number 71 = .ok (.dup, 1) := by decide +kernel
theorem dX12_number_72 : decode cX12_number 72 = .ok (.getfield 223, 3) := by decide +kernel
theorem dX12_number_75 : decode cX12_number 75 = .ok (.iconst 1, 1) := by decide +kernel
theorem dX12_number_76 : decode cX12_number 76 = .ok (.iadd, 1) := by decide +kernel
theorem dX12_number_77 : decode cX12_number 77 = .ok (.putfield 223, 3) := by decide +kernel
theorem dX12_number_80 : decode cX12_number 80 = .ok (.goto (-71), 3) := by decide +kernel
theorem dX12_number_83 : decode cX12_number 83 = .ok (.aload_n 0, 1) := by decide +kernel
theorem dX12_number_84 : decode cX12_number 84 = .ok (.getfield 223, 3) := by decide +kernel
theorem dX12_number_87 : decode cX12_number 87 = .ok (.iload 4, 2) := by decide +kernel
theorem dX12_number_89 : decode cX12_number 89 = .ok (.if_icmp .eq 13, 3) := by decide +kernel
theorem dX12_number_92 : decode cX12_number 92 = .ok (.iload 5, 2) := by decide +kernel
theorem dX12_number_94 : decode cX12_number 94 = .ok (.iload_n 2, 1) := by decide +kernel
theorem dX12_number_95 : decode cX12_number 95 = .ok (.iload_n 3, 1) := by decide +kernel
theorem dX12_number_96 : decode cX12_number 96 = .ok (.invokestatic 186, 3) := by decide +kernel
theorem dX12_number_99 : decode cX12_number 99 = .ok (.ifCond .ne 11, 3) := by decide +kernel
theorem dX12_number_102 : decode cX12_number 102 = .ok (.aload_n 0, 1) := by decide +kernel
theorem dX12_number_103 : decode cX12_number 103 = .ok (.iload 4, 2) := by decide +kernel
theorem dX12_number_105 : decode cX12_number 105 = .ok (.putfield 229, 3) := by decide +kernel
theorem dX12_number_108 : decode cX12_number 108 = .ok (.iconst (-1), 1) := by decide +kernel
theorem dX12_number_109 : decode cX12_number 109 = .ok (.ireturn, 1) := by decide +kernel
theorem dX12_number_110 : decode cX12_number 110 = .ok (.iload 5, 2) := by decide +kernel
theorem dX12_number_112 : decode cX12_number 112 = .ok (.ireturn, 1) := by decide +kernel
theorem dX12_reads_0 : decode cX12_reads 0 = .ok (.aload_n 0, 1) := by decide +kernel
theorem dX12_reads_1 : decode cX12_reads 1 = .ok (.iload_n 1, 1) := by decide +kernel
theorem dX12_reads_2 : decode cX12_reads 2 = .ok (.putfield 223, 3) := by decide +kernel
theorem dX12_reads_5 : decode cX12_reads 5 = .ok (.aload_n 0, 1) := by decide +kernel
theorem dX12_reads_6 : decode cX12_reads 6 = .ok (.iload_n 1, 1) := by decide +kernel
theorem dX12_reads_7 : decode cX12_reads 7 = .ok (.iload_n 2, 1) := by decide +kernel
theorem dX12_reads_8 : decode cX12_reads 8 = .ok (.iadd, 1) := by decide +kernel
theorem dX12_reads_9 : decode cX12_reads 9 = .ok (.putfield 226, 3) := by decide +kernel
theorem dX12_reads_12 : decode cX12_reads 12 = .ok (.aload_n 0, 1) := by decide +kernel
theorem dX12_reads_13 : decode cX12_reads 13 = .ok (.bipush 111, 2) := by decide +kernel
theorem dX12_reads_15 : decode cX12_reads 15 = .ok (.invokevirtual 232, 3) := by decide +kernel
theorem dX12_reads_18 : decode cX12_reads 18 = .ok (.ifCond .ne 5, 3) := by decide +kernel
theorem dX12_reads_21 : decode cX12_reads 21 = .ok (.iconst 0, 1) := by decide +kernel
theorem dX12_reads_22 : decode cX12_reads 22 = .ok (.ireturn, 1) := by decide +kernel
theorem dX12_reads_23 : decode cX12_reads 23 = .ok (.aload_n 0, 1) := by decide +kernel
theorem dX12_reads_24 : decode cX12_reads 24 = .ok (.getfield 43, 3) := by decide +kernel
theorem dX12_reads_27 : decode cX12_reads 27 = .ok (.bipush 12, 2) := by decide +kernel
theorem dX12_reads_29 : decode cX12_reads 29 = .ok (.aload_n 0, 1) := by decide +kernel
theorem dX12_reads_30 : decode cX12_reads 30 = .ok (.iconst 1, 1) := by decide +kernel
theorem dX12_reads_31 : decode cX12_reads 31 = .ok (.iconst 0, 1) := by decide +kernel
theorem dX12_reads_32 : decode cX12_reads 32 = .ok (.iconst 4, 1) := by decide +kernel
theorem dX12_reads_33 : decode cX12_reads 33 = .ok (.invokevirtual 235, 3) := by decide +kernel
theorem dX12_reads_36 : decode cX12_reads 36 = .ok (.iastore, 1) := by decide +kernel
theorem dX12_reads_37 : decode cX12_reads 37 = .ok (.aload_n 0, 1) := by decide +kernel
theorem dX12_reads_38 : decode cX12_reads 38 = .ok (.getfield 43, 3) := by decide +kernel
theorem dX12_reads_41 : decode cX12_reads 41 = .ok (.bipush 12, 2) := by decide +kernel
theorem dX12_reads_43 : decode cX12_reads 43 = .ok (.iaload, 1) := by decide +kernel
theorem dX12_reads_44 : decode cX12_reads 44 = .ok (.ifCond .lt 12, 3) := by decide +kernel
theorem dX12_reads_47 : decode cX12_reads 47 = .ok (.aload_n 0, 1) := by decide +kernel
theorem dX12_reads_48 : decode cX12_reads 48 = .ok (.bipush 104, 2) := by decide +kernel
theorem dX12_reads_50 : decode cX12_reads 50 = .ok (.invokevirtual 232, 3) := by decide +kernel
theorem dX12_reads_53 : decode cX12_reads 53 = .ok (.ifCond .ne 5, 3) := by decide +kernel
theorem dX12_reads_56 : decode cX12_reads 56 = .ok (.iconst 0, 1) := by decide +kernel
theorem dX12_reads_57 : decode cX12_reads 57 = .ok (.ireturn, 1) := by decide +kernel
theorem dX12_reads_58 : decode cX12_reads 58 = .ok (.aload_n 0, 1) := by decide +kernel
theorem dX12_reads_59 : decode cX12_reads 59 = .ok (.getfield 46, 3) := by decide +kernel
theorem dX12_reads_62 : decode cX12_reads 62 = .ok (.bipush 12, 2) := by decide +kernel
theorem dX12_reads_64 : decode cX12_reads 64 = .ok (.aload_n 0, 1) := by decide +kernel
theorem dX12_reads_65 : decode cX12_reads 65 = .ok (.iconst 2, 1) := by decide +kernel
theorem dX12_reads_66 : decode cX12_reads 66 = .ok (.iconst 0, 1) := by decide +kernel
theorem dX12_reads_67 : decode cX12_reads 67 = .ok (.bipush 23, 2) := by decide +kernel
theorem dX12_reads_69 : decode cX12_reads 69 = .ok (.invokevirtual 235, 3) := by decide +kernel
theorem dX12_reads_72 : decode cX12_reads 72 = .ok (.iastore, 1) := by decide +kernel
theorem dX12_reads_73 : decode cX12_reads 73 = .ok (.aload_n 0, 1) := by decide +kernel
theorem dX12_reads_74 : decode cX12_reads 74 = .ok (.getfield 46, 3) := by decide +kernel
theorem dX12_reads_77 : decode cX12_reads 77 = .ok (.bipush 12, 2) := by decide +kernel
theorem dX12_reads_79 : decode cX12_reads 79 = .ok (.iaload, 1) := by decide +kernel
theorem dX12_reads_80 : decode cX12_reads 80 = .ok (.ifCond .lt 12, 3) := by decide +kernel
theorem dX12_reads_83 : decode cX12_reads 83 = .ok (.aload_n 0, 1) := by decide +kernel
theorem dX12_reads_84 : decode cX12_reads 84 = .ok (.bipush 45, 2) := by decide +kernel
theorem dX12_reads_86 : decode cX12_reads 86 = .ok (.invokevirtual 232, 3) := by decide +kernel
theorem dX12_reads_89 : decode cX12_reads 89 = .ok (.ifCond .ne 5, 3) := by decide +kernel
theorem dX12_reads_92 : decode cX12_reads 92 = .ok (.iconst 0, 1) := by decide +kernel
theorem dX12_reads_93 : decode cX12_reads 93 = .ok (.ireturn, 1) := by decide +kernel
theorem dX12_reads_94 : decode cX12_reads 94 = .ok (.aload_n 0, 1) := by decide +kernel
theorem dX12_reads_95 : decode cX12_reads 95 = .ok (.getfield 49, 3) := by decide +kernel
theorem dX12_reads_98 : decode cX12_reads 98 = .ok (.bipush 12, 2) := by decide +kernel
theorem dX12_reads_100 : decode cX12_reads 100 = .ok (.aload_n 0, 1) := by decide +kernel
theorem dX12_reads_101 : decode cX12_reads 101 = .ok (.iconst 2, 1) := by decide +kernel
theorem dX12_reads_102 : decode cX12_reads 102 = .ok (.aload_n 0, 1) := by decide +kernel
theorem dX12_reads_103 : decode cX12_reads 103 = .ok (.getfield 46, 3) := by decide +kernel
theorem dX12_reads_106 : decode cX12_reads 106 = .ok (.bipush 12, 2) := by decide +kernel
theorem dX12_reads_108 : decode cX12_reads 108 = .ok (.iaload, 1) := by decide +kernel
theorem dX12_reads_109 : decode cX12_reads 109 = .ok (.bipush 23, 2) := by decide +kernel
theorem dX12_reads_111 : decode cX12_reads 111 = .ok (.invokevirtual 235, 3) := by decide +kernel
theorem dX12_reads_114 : decode cX12_reads 114 = .ok (.iastore, 1) := by decide +kernel
theorem dX12_reads_115 : decode cX12_reads 115 = .ok (.aload_n 0, 1) := by decide +kernel
theorem dX12_reads_116 : decode cX12_reads 116 = .ok (.getfield 49, 3) := by decide +kernel
theorem dX12_reads_119 : decode cX12_reads 119 = .ok (.bipush 12, 2) := by decide +kernel
theorem dX12_reads_121 : decode cX12_reads 121 = .ok (.iaload, 1) := by decide +kernel
theorem dX12_reads_122 : decode cX12_reads 122 = .ok (.ifCond .lt 12, 3) := by decide +kernel
theorem dX12_reads_125 : decode cX12_reads 125 = .ok (.aload_n 0, 1) := by decide +kernel
theorem dX12_reads_126 : decode cX12_reads 126 = .ok (.bipush 64, 2) := by decide +kernel
theorem dX12_reads_128 : decode cX12_reads 128 = .ok (.invokevirtual 232, 3) := by decide +kernel
theorem dX12_reads_131 : decode cX12_reads 131 = .ok (.ifCond .ne 5, 3) := by decide +kernel
theorem dX12_reads_134 : decode cX12_reads 134 = .ok (.iconst 0, 1) := by decide +kernel
theorem dX12_reads_135 : decode cX12_reads 135 = .ok (.ireturn, 1) := by decide +kernel
theorem dX12_reads_136 : decode cX12_reads 136 = .ok (.aload_n 0, 1) := by decide +kernel
theorem dX12_reads_137 : decode cX12_reads 137 = .ok (.getfield 52, 3) := by decide +kernel
theorem dX12_reads_140 : decode cX12_reads 140 = .ok (.bipush 12, 2) := by decide +kernel
theorem dX12_reads_142 : decode cX12_reads 142 = .ok (.aload_n 0, 1) := by decide +kernel
theorem dX12_reads_143 : decode cX12_reads 143 = .ok (.iconst 3, 1) := by decide +kernel
theorem dX12_reads_144 : decode cX12_reads 144 = .ok (.iconst 0, 1) := by decide +kernel
theorem dX12_reads_145 : decode cX12_reads 145 = .ok (.sipush 399, 3) := by decide +kernel
theorem dX12_reads_148 : decode cX12_reads 148 = .ok (.invokevirtual 235, 3) := by decide +kernel
theorem dX12_reads_151 : decode cX12_reads 151 = .ok (.iastore, 1) := by decide +kernel
theorem dX12_reads_152 : decode cX12_reads 152 = .ok (.aload_n 0, 1) := by decide +kernel
theorem dX12_reads_153 : decode cX12_reads 153 = .ok (.getfield 52, 3) := by decide +kernel
theorem dX12_reads_156 : decode cX12_reads 156 = .ok (.bipush 12, 2) := by decide +kernel
theorem dX12_reads_158 : decode cX12_reads 158 = .ok (.iaload, 1) := by decide +kernel
theorem dX12_reads_159 : decode cX12_reads 159 = .ok (.ifCond .lt 12, 3) := by decide +kernel
theorem dX12_reads_162 : decode cX12_reads 162 = .ok (.aload_n 0, 1) := by decide +kernel
theorem dX12_reads_163 : decode cX12_reads 163 = .ok (.bipush 45, 2) := by decide +kernel
theorem dX12_reads_165 : decode cX12_reads 165 = .ok (.invokevirtual 232, 3) := by decide +kernel
theorem dX12_reads_168 : decode cX12_reads 168 = .ok (.ifCond .ne 5, 3) := by decide +kernel
theorem dX12_reads_171 : decode cX12_reads 171 = .ok (.iconst 0, 1) := by decide +kernel
theorem dX12_reads_172 : decode cX12_reads 172 = .ok (.ireturn, 1) := by decide +kernel
theorem dX12_reads_173 : decode cX12_reads 173 = .ok (.aload_n 0, 1) := by decide +kernel
theorem dX12_reads_174 : decode cX12_reads 174 = .ok (.getfield 55, 3) := by decide +kernel
theorem dX12_reads_177 : decode cX12_reads 177 = .ok (.bipush 12, 2) := by decide +kernel
theorem dX12_reads_179 : decode cX12_reads 179 = .ok (.aload_n 0, 1) := by decide +kernel
theorem dX12_reads_180 : decode cX12_reads 180 = .ok (.iconst 3, 1) := by decide +kernel
theorem dX12_reads_181 : decode cX12_reads 181 = .ok (.aload_n 0, 1) := by decide +kernel
theorem dX12_reads_182 : decode cX12_reads 182 = .ok (.getfield 52, 3) := by decide +kernel
theorem dX12_reads_185 : decode cX12_reads 185 = .ok (.bipush 12, 2) := by decide +kernel
theorem dX12_reads_187 : decode cX12_reads 187 = .ok (.iaload, 1) := by decide +kernel
theorem dX12_reads_188 : decode cX12_reads 188 = .ok (.sipush 399, 3) := by decide +kernel
theorem dX12_reads_191 : decode cX12_reads 191 = .ok (.invokevirtual 235, 3) := by decide +kernel
theorem dX12_reads_194 : decode cX12_reads 194 = .ok (.iastore, 1) := by decide +kernel
theorem dX12_reads_195 : decode cX12_reads 195 = .ok (.aload_n 0, 1) := by decide +kernel
theorem dX12_reads_196 : decode cX12_reads 196 = .ok (.getfield 55, 3) := by decide +kernel
theorem dX12_reads_199 : decode cX12_reads 199 = .ok (.bipush 12, 2) := by decide +kernel
theorem dX12_reads_201 : decode cX12_reads 201 = .ok (.iaload, 1) := by decide +kernel
theorem dX12_reads_202 : decode cX12_reads 202 = .ok (.ifCond .ge 5, 3) := by decide +kernel
theorem dX12_reads_205 : decode cX12_reads 205 = .ok (.iconst 0, 1) := by decide +kernel
theorem dX12_reads_206 : decode cX12_reads 206 = .ok (.ireturn, 1) := by decide +kernel
theorem dX12_reads_207 : decode cX12_reads 207 = .ok (.aload_n 0, 1) := by decide +kernel
theorem dX12_reads_208 : decode cX12_reads 208 = .ok (.getfield 58, 3) := by decide +kernel
theorem dX12_reads_211 : decode cX12_reads 211 = .ok (.bipush 12, 2) := by decide +kernel
theorem dX12_reads_213 : decode cX12_reads 213 = .ok (.iconst 0, 1) := by decide +kernel
theorem dX12_reads_214 : decode cX12_reads 214 = .ok (.iastore, 1) := by decide +kernel
theorem dX12_reads_215 : decode cX12_reads 215 = .ok (.aload_n 0, 1) := by decide +kernel
theorem dX12_reads_216 : decode cX12_reads 216 = .ok (.getfield 223, 3) := by decide +kernel
theorem dX12_reads_219 : decode cX12_reads 219 = .ok (.aload_n 0, 1) := by decide +kernel
theorem dX12_reads_220 : decode cX12_reads 220 = .ok (.getfield 226, 3) := by decide +kernel
theorem dX12_reads_223 : decode cX12_reads 223 = .ok (.if_icmp .ne 5, 3) := by decide +kernel
theorem dX12_reads_226 : decode cX12_reads 226 = .ok (.iconst 1, 1) := by decide +kernel
theorem dX12_reads_227 : decode cX12_reads 227 = .ok (.ireturn, 1) := by decide +kernel
theorem dX12_reads_228 : decode cX12_reads 228 = .ok (.aload_n 0, 1) := by decide +kernel
theorem dX12_reads_229 : decode cX12_reads 229 = .ok (.bipush 33, 2) := by decide +kernel
theorem dX12_reads_231 : decode cX12_reads 231 = .ok (.invokevirtual 232, 3) := by decide +kernel
theorem dX12_reads_234 : decode cX12_reads 234 = .ok (.ifCond .ne 5, 3) := by decide +kernel
theorem dX12_reads_237 : decode cX12_reads 237 = .ok (.iconst 0, 1) := by decide +kernel
theorem dX12_reads_238 : decode cX12_reads 238 = .ok (.ireturn, 1) := by decide +kernel
theorem dX12_reads_239 : decode cX12_reads 239 = .ok (.iconst 1, 1) := by decide +kernel
theorem dX12_reads_240 : decode cX12_reads 240 = .ok (.istore_n 3, 1) := by decide +kernel
theorem dX12_reads_241 : decode cX12_reads 241 = .ok (.iload_n 3, 1) := by decide +kernel
theorem dX12_reads_242 : decode cX12_reads 242 = .ok (.ifCond .eq 123, 3) := by decide +kernel
theorem dX12_reads_245 : decode cX12_reads 245 = .ok (.aload_n 0, 1) := by decide +kernel
theorem dX12_reads_246 : decode cX12_reads 246 = .ok (.getfield 223, 3) := by decide +kernel
theorem dX12_reads_249 : decode cX12_reads 249 = .ok (.aload_n 0, 1) := by decide +kernel
theorem dX12_reads_250 : decode cX12_reads 250 = .ok (.getfield 226, 3) := by decide +kernel
theorem dX12_reads_253 : decode cX12_reads 253 = .ok (.if_icmp .ge 18, 3) := by decide +kernel
theorem dX12_reads_256 : decode cX12_reads 256 = .ok (.aload_n 0, 1) := by decide +kernel
theorem dX12_reads_257 : decode cX12_reads 257 = .ok (.getfield 16, 3) := by decide +kernel
theorem dX12_reads_260 : decode cX12_reads 260 = .ok (.aload_n 0, 1) := by decide +kernel
theorem dX12_reads_261 : decode cX12_reads 261 = .ok (.getfield 223, 3) := by decide +kernel
theorem dX12_reads_264 : decode cX12_reads 264 = .ok (.iaload, 1) := by decide +kernel
theorem dX12_reads_265 : decode cX12_reads 265 = .ok (.bipush 48, 2) := by decide +kernel
theorem dX12_reads_267 : decode cX12_reads 267 = .ok (.isub, 1) := by decide +kernel
theorem dX12_reads_268 : decode cX12_reads 268 = .ok (.goto 5, 3) := by decide +kernel
theorem dX12_reads_271 : decode cX12_reads 271 = .ok (.bipush (-9), 2) := by decide +kernel
theorem dX12_reads_273 : decode cX12_reads 273 = .ok (.istore 4, 2) := by decide +kernel
theorem dX12_reads_275 : decode cX12_reads 275 = .ok (.iload 4, 2) := by decide +kernel
theorem dX12_reads_277 : decode cX12_reads 277 = .ok (.iconst 0, 1) := by decide +kernel
theorem dX12_reads_278 : decode cX12_reads 278 = .ok (.bipush 9, 2) := by decide +kernel
theorem dX12_reads_280 : decode cX12_reads 280 = .ok (.invokestatic 186, 3) := by decide +kernel
theorem dX12_reads_283 : decode cX12_reads 283 = .ok (.ifCond .eq 28, 3) := by decide +kernel
theorem dX12_reads_286 : decode cX12_reads 286 = .ok (.aload_n 0, 1) := by decide +kernel
theorem dX12_reads_287 : decode cX12_reads 287 = .ok (.iload 4, 2) := by decide +kernel
theorem dX12_reads_289 : decode cX12_reads 289 = .ok (.invokevirtual 210, 3) := by decide +kernel
theorem dX12_reads_292 : decode cX12_reads 292 = .ok (.ifCond .eq 19, 3) := by decide +kernel
theorem dX12_reads_295 : decode cX12_reads 295 = .ok (.aload_n 0, 1) := by decide +kernel
theorem dX12_reads_296 : decode cX12_reads 296 = .ok (.getfield 58, 3) := by decide +kernel
theorem dX12_reads_299 : decode cX12_reads 299 = .ok (.bipush 12, 2) := by decide +kernel
theorem dX12_reads_301 : decode cX12_reads 301 = .ok (.iaload, 1) := by decide +kernel
theorem dX12_reads_302 : decode cX12_reads 302 = .ok (.iload 4, 2) := by decide +kernel
theorem dX12_reads_304 : decode cX12_reads 304 = .ok (.ishr, 1) := by decide +kernel
theorem dX12_reads_305 : decode cX12_reads 305 = .ok (.iconst 1, 1) := by decide +kernel
theorem dX12_reads_306 : decode cX12_reads 306 = .ok (.iand, 1) := by decide +kernel
theorem dX12_reads_307 : decode cX12_reads 307 = .ok (.iconst 1, 1) := by decide +kernel
theorem dX12_reads_308 : decode cX12_reads 308 = .ok (.if_icmp .ne 13, 3) := by decide +kernel
theorem dX12_reads_311 : decode cX12_reads 311 = .ok (.aload_n 0, 1) := by decide +kernel
theorem dX12_reads_312 : decode cX12_reads 312 = .ok (.aload_n 0, 1) := by decide +kernel
theorem dX12_reads_313 : decode cX12_reads 313 = .ok (.getfield 223, 3) := by decide +kernel
theorem dX12_reads_316 : decode cX12_reads 316 = .ok (.putfield 229, 3) := by decide +kernel
theorem dX12_reads_319 : decode cX12_reads 319 = .ok (.iconst 0, 1) := by decide +kernel
theorem dX12_reads_320 : decode cX12_reads 320 = .ok (.ireturn, 1) := by decide +kernel
theorem dX12_reads_321 : decode cX12_reads 321 = .ok (.aload_n 0, 1) := by decide +kernel
theorem dX12_reads_322 : decode cX12_reads 322 = .ok (.getfield 58, 3) := by decide +kernel
theorem dX12_reads_325 : decode cX12_reads 325 = .ok (.bipush 12, 2) := by decide +kernel
theorem dX12_reads_327 : decode cX12_reads 327 = .ok (.dup2, 1) := by decide +kernel
theorem dX12_reads_328 : decode cX12_reads 328 = .ok (.iaload, 1) := by decide +kernel
theorem dX12_reads_329 : decode cX12_reads 329 = .ok (.iconst 1, 1) := by decide +kernel
theorem dX12_reads_330 : decode cX12_reads 330 = .ok (.iload 4, 2) := by decide +kernel
theorem dX12_reads_332 : decode cX12_reads 332 = .ok (.ishl, 1) := by decide +kernel
theorem dX12_reads_333 : decode cX12_reads 333 = .ok (.ior, 1) := by decide +kernel
theorem dX12_reads_334 : decode cX12_reads 334 = .ok (.iastore, 1) := by decide +kernel
theorem dX12_reads_335 : decode cX12_reads 335 = .ok (.aload_n 0, 1) := by decide +kernel
theorem dX12_reads_336 : decode cX12_reads 336 = .ok (.dup, 1) := by decide +kernel
theorem dX12_reads_337 : decode cX12_reads 337 = .ok (.getfield 223, 3) := by decide +kernel
theorem dX12_reads_340 : decode cX12_reads 340 = .ok (.iconst 1, 1) := by decide +kernel
theorem dX12_reads_341 : decode cX12_reads 341 = .ok (.iadd, 1) := by decide +kernel
theorem dX12_reads_342 : decode cX12_reads 342 = .ok (.putfield 223, 3) := by decide +kernel
theorem dX12_reads_345 : decode cX12_reads 345 = .ok (.aload_n 0, 1) := by decide +kernel
theorem dX12_reads_346 : decode cX12_reads 346 = .ok (.getfield 223, 3) := by decide +kernel
theorem dX12_reads_349 : decode cX12_reads 349 = .ok (.aload_n 0, 1) := by decide +kernel
theorem dX12_reads_350 : decode cX12_reads 350 = .ok (.getfield 226, 3) := by decide +kernel
theorem dX12_reads_353 : decode cX12_reads 353 = .ok (.if_icmp .ge 7, 3) := by decide +kernel
theorem dX12_reads_356 : decode cX12_reads 356 = .ok (.iconst 1, 1) := by decide +kernel
theorem dX12_reads_357 : decode cX12_reads 357 = .ok (.goto 4, 3) := by decide +kernel
theorem dX12_reads_360 : decode cX12_reads 360 = .ok (.iconst 0, 1) := by decide +kernel
theorem dX12_reads_361 : decode cX12_reads 361 = .ok (.istore_n 3, 1) := by decide +kernel
theorem dX12_reads_362 : decode cX12_reads 362 = .ok (.goto (-121), 3) := by decide +kernel
theorem dX12_reads_365 : decode cX12_reads 365 = .ok (.iconst 1, 1) := by decide +kernel
theorem dX12_reads_366 : decode cX12_reads 366 = .ok (.ireturn, 1) := by decide +kernel
theorem dX12_order_0 : decode cX12_order 0 = .ok (.aload_n 0, 1) := by decide +kernel
theorem dX12_order_1 : decode cX12_order 1 = .ok (.iconst 0, 1) := by decide +kernel
theorem dX12_order_2 : decode cX12_order 2 = .ok (.putfield 181, 3) := by decide +kernel
theorem dX12_order_5 : decode cX12_order 5 = .ok (.iload_n 2, 1) := by decide +kernel
theorem dX12_order_6 : decode cX12_order 6 = .ok (.invokestatic 239, 3) := by decide +kernel
theorem dX12_order_9 : decode cX12_order 9 = .ok (.ifCond .ne 5, 3) := by decide +kernel
theorem dX12_order_12 : decode cX12_order 12 = .ok (.iconst (-1), 1) := by decide +kernel
theorem dX12_order_13 : decode cX12_order 13 = .ok (.ireturn, 1) := by decide +kernel
theorem dX12_order_14 : decode cX12_order 14 = .ok (.iload_n 1, 1) := by decide +kernel
theorem dX12_order_15 : decode cX12_order 15 = .ok (.invokestatic 203, 3) := by decide +kernel
theorem dX12_order_18 : decode cX12_order 18 = .ok (.ifCond .eq 10, 3) := by decide +kernel
theorem dX12_order_21 : decode cX12_order 21 = .ok (.iload_n 3, 1) := by decide +kernel
theorem dX12_order_22 : decode cX12_order 22 = .ok (.invokestatic 242, 3) := by decide +kernel
theorem dX12_order_25 : decode cX12_order 25 = .ok (.ifCond .ne 6, 3) := by decide +kernel
theorem dX12_order_28 : decode cX12_order 28 = .ok (.bipush (-2), 2) := by decide +kernel
theorem dX12_order_30 : decode cX12_order 30 = .ok (.ireturn, 1) := by decide +kernel
theorem dX12_order_31 : decode cX12_order 31 = .ok (.aload_n 0, 1) := by decide +kernel
theorem dX12_order_32 : decode cX12_order 32 = .ok (.iload_n 2, 1) := by decide +kernel
theorem dX12_order_33 : decode cX12_order 33 = .ok (.iload_n 3, 1) := by decide +kernel
theorem dX12_order_34 : decode cX12_order 34 = .ok (.iload 4, 2) := by decide +kernel
theorem dX12_order_36 : decode cX12_order 36 = .ok (.iload 5, 2) := by decide +kernel
theorem dX12_order_38 : decode cX12_order 38 = .ok (.invokevirtual 245, 3) := by decide +kernel
theorem dX12_order_41 : decode cX12_order 41 = .ok (.istore 6, 2) := by decide +kernel
theorem dX12_order_43 : decode cX12_order 43 = .ok (.iload 6, 2) := by decide +kernel
theorem dX12_order_45 : decode cX12_order 45 = .ok (.ifCond .eq 10, 3) := by decide +kernel
theorem dX12_order_48 : decode cX12_order 48 = .ok (.aload_n 0, 1) := by decide +kernel
theorem dX12_order_49 : decode cX12_order 49 = .ok (.iload 6, 2) := by decide +kernel
theorem dX12_order_51 : decode cX12_order 51 = .ok (.invokevirtual 249, 3) := by decide +kernel
theorem dX12_order_54 : decode cX12_order 54 = .ok (.ireturn, 1) := by decide +kernel
theorem dX12_order_55 : decode cX12_order 55 = .ok (.bipush 60, 2) := by decide +kernel
theorem dX12_order_57 : decode cX12_order 57 = .ok (.iload_n 2, 1) := by decide +kernel
theorem dX12_order_58 : decode cX12_order 58 = .ok (.imul, 1) := by decide +kernel
theorem dX12_order_59 : decode cX12_order 59 = .ok (.iload 4, 2) := by decide +kernel
theorem dX12_order_61 : decode cX12_order 61 = .ok (.iadd, 1) := by decide +kernel
theorem dX12_order_62 : decode cX12_order 62 = .ok (.istore 7, 2) := by decide +kernel
theorem dX12_order_64 : decode cX12_order 64 = .ok (.aload_n 0, 1) := by decide +kernel
theorem dX12_order_65 : decode cX12_order 65 = .ok (.iload 7, 2) := by decide +kernel
theorem dX12_order_67 : decode cX12_order 67 = .ok (.iload 5, 2) := by decide +kernel
theorem dX12_order_69 : decode cX12_order 69 = .ok (.invokevirtual 253, 3) := by decide +kernel
theorem dX12_order_72 : decode cX12_order 72 = .ok (.ifCond .ne 14, 3) := by decide +kernel
theorem dX12_order_75 : decode cX12_order 75 = .ok (.bipush (-100), 2) := by decide +kernel
theorem dX12_order_77 : decode cX12_order 77 = .ok (.aload_n 0, 1) := by decide +kernel
theorem dX12_order_78 : decode cX12_order 78 = .ok (.getfield 229, 3) := by decide +kernel
theorem dX12_order_81 : decode cX12_order 81 = .ok (.iload 7, 2) := by decide +kernel
theorem dX12_order_83 : decode cX12_order 83 = .ok (.isub, 1) := by decide +kernel
theorem dX12_order_84 : decode cX12_order 84 = .ok (.isub, 1) := by decide +kernel
theorem dX12_order_85 : decode cX12_order 85 = .ok (.ireturn, 1) := by decide +kernel
theorem dX12_order_86 : decode cX12_order 86 = .ok (.aload_n 0, 1) := by decide +kernel
theorem dX12_order_87 : decode cX12_order 87 = .ok (.getfield 256, 3) := by decide +kernel
theorem dX12_order_90 : decode cX12_order 90 = .ok (.bipush 12, 2) := by decide +kernel
theorem dX12_order_92 : decode cX12_order 92 = .ok (.if_icmp .ne 6, 3) := by decide +kernel
theorem dX12_order_95 : decode cX12_order 95 = .ok (.bipush (-4), 2) := by decide +kernel
theorem dX12_order_97 : decode cX12_order 97 = .ok (.ireturn, 1) := by decide +kernel
theorem dX12_order_98 : decode cX12_order 98 = .ok (.aload_n 0, 1) := by decide +kernel
theorem dX12_order_99 : decode cX12_order 99 = .ok (.getfield 43, 3) := by decide +kernel
theorem dX12_order_102 : decode cX12_order 102 = .ok (.aload_n 0, 1) := by decide +kernel
theorem dX12_order_103 : decode cX12_order 103 = .ok (.getfield 256, 3) := by decide +kernel
theorem dX12_order_106 : decode cX12_order 106 = .ok (.aload_n 0, 1) := by decide +kernel
theorem dX12_order_107 : decode cX12_order 107 = .ok (.getfield 43, 3) := by decide +kernel
theorem dX12_order_110 : decode cX12_order 110 = .ok (.bipush 12, 2) := by decide +kernel
theorem dX12_order_112 : decode cX12_order 112 = .ok (.iaload, 1) := by decide +kernel
theorem dX12_order_113 : decode cX12_order 113 = .ok (.iastore, 1) := by decide +kernel
theorem dX12_order_114 : decode cX12_order 114 = .ok (.aload_n 0, 1) := by decide +kernel
theorem dX12_order_115 : decode cX12_order 115 = .ok (.getfield 46, 3) := by decide +kernel
theorem dX12_order_118 : decode cX12_order 118 = .ok (.aload_n 0, 1) := by decide +kernel
theorem dX12_order_119 : decode cX12_order 119 = .ok (.getfield 256, 3) := by decide +kernel
theorem dX12_order_122 : decode cX12_order 122 = .ok (.aload_n 0, 1) := by decide +kernel
theorem dX12_order_123 : decode cX12_order 123 = .ok (.getfield 46, 3) := by decide +kernel
theorem dX12_order_126 : decode cX12_order 126 = .ok (.bipush 12, 2) := by decide +kernel
theorem dX12_order_128 : decode cX12_order 128 = .ok (.iaload, 1) := by decide +kernel
theorem dX12_order_129 : decode cX12_order 129 = .ok (.iastore, 1) := by decide +kernel
theorem dX12_order_130 : decode cX12_order 130 = .ok (.aload_n 0, 1) := by decide +kernel
theorem dX12_order_131 : decode cX12_order 131 = .ok (.getfield 49, 3) := by decide +kernel
theorem dX12_order_134 : decode cX12_order 134 = .ok (.aload_n 0, 1) := by decide +kernel
theorem dX12_order_135 : decode cX12_order 135 = .ok (.getfield 256, 3) := by decide +kernel
theorem dX12_order_138 : decode cX12_order 138 = .ok (.aload_n 0, 1) := by decide +kernel
theorem dX12_order_139 : decode cX12_order 139 = .ok (.getfield 49, 3) := by decide +kernel
theorem dX12_order_142 : decode cX12_order 142 = .ok (.bipush 12, 2) := by decide +kernel
theorem dX12_order_144 : decode cX12_order 144 = .ok (.iaload, 1) := by decide +kernel
theorem dX12_order_145 : decode cX12_order 145 = .ok (.iastore, 1) := by decide +kernel
theorem dX12_order_146 : decode cX12_order 146 = .ok (.aload_n 0, 1) := by decide +kernel
theorem dX12_order_147 : decode cX12_order 147 = .ok (.getfield 52, 3) := by decide +kernel
theorem dX12_order_150 : decode cX12_order 150 = .ok (.aload_n 0, 1) := by decide +kernel
theorem dX12_order_151 : decode cX12_order 151 = .ok (.getfield 256, 3) := by decide +kernel
theorem dX12_order_154 : decode cX12_order 154 = .ok (.aload_n 0, 1) := by decide +kernel
theorem dX12_order_155 : decode cX12_order 155 = .ok (.getfield 52, 3) := by decide +kernel
theorem dX12_order_158 : decode cX12_order 158 = .ok (.bipush 12, 2) := by decide +kernel
theorem dX12_order_160 : decode cX12_order 160 = .ok (.iaload, 1) := by decide +kernel
theorem dX12_order_161 : decode cX12_order 161 = .ok (.iastore, 1) := by decide +kernel
theorem dX12_order_162 : decode cX12_order 162 = .ok (.aload_n 0, 1) := by decide +kernel
theorem dX12_order_163 : decode cX12_order 163 = .ok (.getfield 55, 3) := by decide +kernel
theorem dX12_order_166 : decode cX12_order 166 = .ok (.aload_n 0, 1) := by decide +kernel
theorem dX12_order_167 : decode cX12_order 167 = .ok (.getfield 256, 3) := by decide +kernel
theorem dX12_order_170 : decode cX12_order 170 = .ok (.aload_n 0, 1) := by decide +kernel
theorem dX12_order_171 : decode cX12_order 171 = .ok (.getfield 55, 3) := by decide +kernel
theorem dX12_order_174 : decode cX12_order 174 = .ok (.bipush 12, 2) := by decide +kernel
theorem dX12_order_176 : decode cX12_order 176 = .ok (.iaload, 1) := by decide +kernel
theorem dX12_order_177 : decode cX12_order 177 = .ok (.iastore, 1) := by decide +kernel
theorem dX12_order_178 : decode cX12_order 178 = .ok (.aload_n 0, 1) := by decide +kernel
theorem dX12_order_179 : decode cX12_order 179 = .ok (.getfield 58, 3) := by decide +kernel
theorem dX12_order_182 : decode cX12_order 182 = .ok (.aload_n 0, 1) := by decide +kernel
theorem dX12_order_183 : decode cX12_order 183 = .ok (.getfield 256, 3) := by decide +kernel
theorem dX12_order_186 : decode cX12_order 186 = .ok (.aload_n 0, 1) := by decide +kernel
theorem dX12_order_187 : decode cX12_order 187 = .ok (.getfield 58, 3) := by decide +kernel
theorem dX12_order_190 : decode cX12_order 190 = .ok (.bipush 12, 2) := by decide +kernel
theorem dX12_order_192 : decode cX12_order 192 = .ok (.iaload, 1) := by decide +kernel
theorem dX12_order_193 : decode cX12_order 193 = .ok (.iastore, 1) := by decide +kernel
theorem dX12_order_194 : decode cX12_order 194 = .ok (.aload_n 0, 1) := by decide +kernel
theorem dX12_order_195 : decode cX12_order 195 = .ok (.getfield 61, 3) := by decide +kernel
theorem dX12_order_198 : decode cX12_order 198 = .ok (.aload_n 0, 1) := by decide +kernel
theorem dX12_order_199 : decode cX12_order 199 = .ok (.getfield 256, 3) := by decide +kernel
theorem dX12_order_202 : decode cX12_order 202 = .ok (.iload_n 1, 1) := by decide +kernel
theorem dX12_order_203 : decode cX12_order 203 = .ok (.iastore, 1) := by decide +kernel
theorem dX12_order_204 : decode cX12_order 204 = .ok (.aload_n 0, 1) := by decide +kernel
theorem dX12_order_205 : decode cX12_order 205 = .ok (.dup, 1) := by decide +kernel
theorem dX12_order_206 : decode cX12_order 206 = .ok (.getfield 256, 3) := by decide +kernel
theorem dX12_order_209 : decode cX12_order 209 = .ok (.iconst 1, 1) := by decide +kernel
theorem dX12_order_210 : decode cX12_order 210 = .ok (.iadd, 1) := by decide +kernel
theorem dX12_order_211 : decode cX12_order 211 = .ok (.putfield 256, 3) := by decide +kernel
theorem dX12_order_214 : decode cX12_order 214 = .ok (.aload_n 0, 1) := by decide +kernel
theorem dX12_order_215 : decode cX12_order 215 = .ok (.getfield 256, 3) := by decide +kernel
theorem dX12_order_218 : decode cX12_order 218 = .ok (.iconst 1, 1) := by decide +kernel
theorem dX12_order_219 : decode cX12_order 219 = .ok (.isub, 1) := by decide +kernel
theorem dX12_order_220 : decode cX12_order 220 = .ok (.ireturn, 1) := by decide +kernel
theorem dX12_ofOrder_0 : decode cX12_ofOrder 0 = .ok (.iload_n 1, 1) := by decide +kernel
theorem dX12_ofOrder_1 : decode cX12_ofOrder 1 = .ok (.ifCond .lt 11, 3) := by decide +kernel
theorem dX12_ofOrder_4 : decode cX12_ofOrder 4 = .ok (.iload_n 1, 1) := by decide +kernel
theorem dX12_ofOrder_5 : decode cX12_ofOrder 5 = .ok (.aload_n 0, 1) := by decide +kernel
theorem dX12_ofOrder_6 : decode cX12_ofOrder 6 = .ok (.getfield 256, 3) := by decide +kernel
theorem dX12_ofOrder_9 : decode cX12_ofOrder 9 = .ok (.if_icmp .lt 5, 3) := by decide +kernel
theorem dX12_ofOrder_12 : decode cX12_ofOrder 12 = .ok (.iconst (-1), 1) := by decide +kernel
theorem dX12_ofOrder_13 : decode cX12_ofOrder 13 = .ok (.ireturn, 1) := by decide +kernel
theorem dX12_ofOrder_14 : decode cX12_ofOrder 14 = .ok (.iload_n 2, 1) := by decide +kernel
theorem dX12_ofOrder_15 : decode cX12_ofOrder 15 = .ok (.tableswitch 90 0 6 #[41, 48, 55, 62, 69, 76, 83], 41) := by decide +kernel
theorem dX12_ofOrder_56 : decode cX12_ofOrder 56 = .ok (.aload_n 0, 1) := by decide +kernel
theorem dX12_ofOrder_57 : decode cX12_ofOrder 57 = .ok (.getfield 43, 3) := by decide +kernel
theorem dX12_ofOrder_60 : decode cX12_ofOrder 60 = .ok (.iload_n 1, 1) := by decide +kernel
theorem dX12_ofOrder_61 : decode cX12_ofOrder 61 = .ok (.iaload, 1) := by decide +kernel
theorem dX12_ofOrder_62 : decode cX12_ofOrder 62 = .ok (.ireturn, 1) := by decide +kernel
theorem dX12_ofOrder_63 : decode cX12_ofOrder 63 = .ok (.aload_n 0, 1) := by decide +kernel
theorem dX12_ofOrder_64 : decode cX12_ofOrder 64 = .ok (.getfield 46, 3) := by decide +kernel
theorem dX12_ofOrder_67 : decode cX12_ofOrder 67 = .ok (.iload_n 1, 1) := by decide +kernel
theorem dX12_ofOrder_68 : decode cX12_ofOrder 68 = .ok (.iaload, 1) := by decide +kernel
theorem dX12_ofOrder_69 : decode cX12_ofOrder 69 = .ok (.ireturn, 1) := by decide +kernel
theorem dX12_ofOrder_70 : decode cX12_ofOrder 70 = .ok (.aload_n 0, 1) := by decide +kernel
theorem dX12_ofOrder_71 : decode cX12_ofOrder 71 = .ok (.getfield 49, 3) := by decide +kernel
theorem dX12_ofOrder_74 : decode cX12_ofOrder 74 = .ok (.iload_n 1, 1) := by decide +kernel
theorem dX12_ofOrder_75 : decode cX12_ofOrder 75 = .ok (.iaload, 1) := by decide +kernel
theorem dX12_ofOrder_76 : decode cX12_ofOrder 76 = .ok (.ireturn, 1) := by decide +kernel
theorem dX12_ofOrder_77 : decode cX12_ofOrder 77 = .ok (.aload_n 0, 1) := by decide +kernel
theorem dX12_ofOrder_78 : decode cX12_ofOrder 78 = .ok (.getfield 52, 3) := by decide +kernel
theorem dX12_ofOrder_81 : decode cX12_ofOrder 81 = .ok (.iload_n 1, 1) := by decide +kernel
theorem dX12_ofOrder_82 : decode cX12_ofOrder 82 = .ok (.iaload, 1) := by decide +kernel
theorem dX12_ofOrder_83 : decode cX12_ofOrder 83 = .ok (.ireturn, 1) := by decide +kernel
theorem dX12_ofOrder_84 : decode cX12_ofOrder 84 = .ok (.aload_n 0, 1) := by decide +kernel
theorem dX12_ofOrder_85 : decode cX12_ofOrder 85 = .ok (.getfield 55, 3) := by decide +kernel
theorem dX12_ofOrder_88 : decode cX12_ofOrder 88 = .ok (.iload_n 1, 1) := by decide +kernel
theorem dX12_ofOrder_89 : decode cX12_ofOrder 89 = .ok (.iaload, 1) := by decide +kernel
theorem dX12_ofOrder_90 : decode cX12_ofOrder 90 = .ok (.ireturn, 1) := by decide +kernel
theorem dX12_ofOrder_91 : decode cX12_ofOrder 91 = .ok (.aload_n 0, 1) := by decide +kernel
theorem dX12_ofOrder_92 : decode cX12_ofOrder 92 = .ok (.getfield 58, 3) := by decide +kernel
theorem dX12_ofOrder_95 : decode cX12_ofOrder 95 = .ok (.iload_n 1, 1) := by decide +kernel
theorem dX12_ofOrder_96 : decode cX12_ofOrder 96 = .ok (.iaload, 1) := by decide +kernel
theorem dX12_ofOrder_97 : decode cX12_ofOrder 97 = .ok (.ireturn, 1) := by decide +kernel
theorem dX12_ofOrder_98 : decode cX12_ofOrder 98 = .ok (.aload_n 0, 1) := by decide +kernel
theorem dX12_ofOrder_99 : decode cX12_ofOrder 99 = .ok (.getfield 61, 3) := by decide +kernel
theorem dX12_ofOrder_102 : decode cX12_ofOrder 102 = .ok (.iload_n 1, 1) := by decide +kernel
theorem dX12_ofOrder_103 : decode cX12_ofOrder 103 = .ok (.iaload, 1) := by decide +kernel
theorem dX12_ofOrder_104 : decode cX12_ofOrder 104 = .ok (.ireturn, 1) := by decide +kernel
theorem dX12_ofOrder_105 : decode cX12_ofOrder 105 = .ok (.bipush (-2), 2) := by decide +kernel
theorem dX12_ofOrder_107 : decode cX12_ofOrder 107 = .ok (.ireturn, 1) := by decide +kernel
theorem dX12_isOffice_0 : decode cX12_isOffice 0 = .ok (.iload_n 0, 1) := by decide +kernel
theorem dX12_isOffice_1 : decode cX12_isOffice 1 = .ok (.iconst 0, 1) := by decide +kernel
theorem dX12_isOffice_2 : decode cX12_isOffice 2 = .ok (.iconst 4, 1) := by decide +kernel
theorem dX12_isOffice_3 : decode cX12_isOffice 3 = .ok (.invokestatic 186, 3) := by decide +kernel
theorem dX12_isOffice_6 : decode cX12_isOffice 6 = .ok (.ireturn, 1) := by decide +kernel
theorem dX12_delay_0 : decode cX12_delay 0 = .ok (.iload_n 1, 1) := by decide +kernel
theorem dX12_delay_1 : decode cX12_delay 1 = .ok (.invokestatic 259, 3) := by decide +kernel
theorem dX12_delay_4 : decode cX12_delay 4 = .ok (.ifCond .ne 5, 3) := by decide +kernel
theorem dX12_delay_7 : decode cX12_delay 7 = .ok (.iconst (-1), 1) := by decide +kernel
theorem dX12_delay_8 : decode cX12_delay 8 = .ok (.ireturn, 1) := by decide +kernel
theorem dX12_delay_9 : decode cX12_delay 9 = .ok (.iload_n 2, 1) := by decide +kernel
theorem dX12_delay_10 : decode cX12_delay 10 = .ok (.iconst 0, 1) := by decide +kernel
theorem dX12_delay_11 : decode cX12_delay 11 = .ok (.bipush 30, 2) := by decide +kernel
theorem dX12_delay_13 : decode cX12_delay 13 = .ok (.invokestatic 186, 3) := by decide +kernel
theorem dX12_delay_16 : decode cX12_delay 16 = .ok (.ifCond .ne 6, 3) := by decide +kernel
theorem dX12_delay_19 : decode cX12_delay 19 = .ok (.bipush (-2), 2) := by decide +kernel
theorem dX12_delay_21 : decode cX12_delay 21 = .ok (.ireturn, 1) := by decide +kernel
theorem dX12_delay_22 : decode cX12_delay 22 = .ok (.aload_n 0, 1) := by decide +kernel
theorem dX12_delay_23 : decode cX12_delay 23 = .ok (.getfield 64, 3) := by decide +kernel
theorem dX12_delay_26 : decode cX12_delay 26 = .ok (.iload_n 1, 1) := by decide +kernel
theorem dX12_delay_27 : decode cX12_delay 27 = .ok (.iaload, 1) := by decide +kernel
theorem dX12_delay_28 : decode cX12_delay 28 = .ok (.istore_n 3, 1) := by decide +kernel
theorem dX12_delay_29 : decode cX12_delay 29 = .ok (.aload_n 0, 1) := by decide +kernel
theorem dX12_delay_30 : decode cX12_delay 30 = .ok (.getfield 64, 3) := by decide +kernel
theorem dX12_delay_33 : decode cX12_delay 33 = .ok (.iload_n 1, 1) := by decide +kernel
theorem dX12_delay_34 : decode cX12_delay 34 = .ok (.iload_n 2, 1) := by decide +kernel
theorem dX12_delay_35 : decode cX12_delay 35 = .ok (.iastore, 1) := by decide +kernel
theorem dX12_delay_36 : decode cX12_delay 36 = .ok (.iload_n 3, 1) := by decide +kernel
theorem dX12_delay_37 : decode cX12_delay 37 = .ok (.ireturn, 1) := by decide +kernel
theorem dX12_whyOf_0 : decode cX12_whyOf 0 = .ok (.bipush (-9), 2) := by decide +kernel
theorem dX12_whyOf_2 : decode cX12_whyOf 2 = .ok (.istore 5, 2) := by decide +kernel
theorem dX12_whyOf_4 : decode cX12_whyOf 4 = .ok (.iconst 0, 1) := by decide +kernel
theorem dX12_whyOf_5 : decode cX12_whyOf 5 = .ok (.istore 6, 2) := by decide +kernel
theorem dX12_whyOf_7 : decode cX12_whyOf 7 = .ok (.iload 6, 2) := by decide +kernel
theorem dX12_whyOf_9 : decode cX12_whyOf 9 = .ok (.aload_n 0, 1) := by decide +kernel
theorem dX12_whyOf_10 : decode cX12_whyOf 10 = .ok (.getfield 256, 3) := by decide +kernel
theorem dX12_whyOf_13 : decode cX12_whyOf 13 = .ok (.if_icmp .ge 117, 3) := by decide +kernel
theorem dX12_whyOf_16 : decode cX12_whyOf 16 = .ok (.iload_n 3, 1) := by decide +kernel
theorem dX12_whyOf_17 : decode cX12_whyOf 17 = .ok (.aload_n 0, 1) := by decide +kernel
theorem dX12_whyOf_18 : decode cX12_whyOf 18 = .ok (.getfield 61, 3) := by decide +kernel
theorem dX12_whyOf_21 : decode cX12_whyOf 21 = .ok (.iload 6, 2) := by decide +kernel
theorem dX12_whyOf_23 : decode cX12_whyOf 23 = .ok (.iaload, 1) := by decide +kernel
theorem dX12_whyOf_24 : decode cX12_whyOf 24 = .ok (.aload_n 0, 1) := by decide +kernel
theorem dX12_whyOf_25 : decode cX12_whyOf 25 = .ok (.getfield 64, 3) := by decide +kernel
theorem dX12_whyOf_28 : decode cX12_whyOf 28 = .ok (.iload 4, 2) := by decide +kernel
theorem dX12_whyOf_30 : decode cX12_whyOf 30 = .ok (.iaload, 1) := by decide +kernel
theorem dX12_whyOf_31 : decode cX12_whyOf 31 = .ok (.iadd, 1) := by decide +kernel
theorem dX12_whyOf_32 : decode cX12_whyOf 32 = .ok (.if_icmp .lt 7, 3) := by decide +kernel
theorem dX12_whyOf_35 : decode cX12_whyOf 35 = .ok (.iconst 1, 1) := by decide +kernel
theorem dX12_whyOf_36 : decode cX12_whyOf 36 = .ok (.goto 4, 3) := by decide +kernel
theorem dX12_whyOf_39 : decode cX12_whyOf 39 = .ok (.iconst 0, 1) := by decide +kernel
theorem dX12_whyOf_40 : decode cX12_whyOf 40 = .ok (.istore 7, 2) := by decide +kernel
theorem dX12_whyOf_42 : decode cX12_whyOf 42 = .ok (.iload_n 2, 1) := by decide +kernel
theorem dX12_whyOf_43 : decode cX12_whyOf 43 = .ok (.aload_n 0, 1) := by decide +kernel
theorem dX12_whyOf_44 : decode cX12_whyOf 44 = .ok (.getfield 46, 3) := by decide +kernel
theorem dX12_whyOf_47 : decode cX12_whyOf 47 = .ok (.iload 6, 2) := by decide +kernel
theorem dX12_whyOf_49 : decode cX12_whyOf 49 = .ok (.iaload, 1) := by decide +kernel
theorem dX12_whyOf_50 : decode cX12_whyOf 50 = .ok (.aload_n 0, 1) := by decide +kernel
theorem dX12_whyOf_51 : decode cX12_whyOf 51 = .ok (.getfield 49, 3) := by decide +kernel
theorem dX12_whyOf_54 : decode cX12_whyOf 54 = .ok (.iload 6, 2) := by decide +kernel
theorem dX12_whyOf_56 : decode cX12_whyOf 56 = .ok (.iaload, 1) := by decide +kernel
theorem dX12_whyOf_57 : decode cX12_whyOf 57 = .ok (.invokestatic 186, 3) := by decide +kernel
theorem dX12_whyOf_60 : decode cX12_whyOf 60 = .ok (.ifCond .eq 42, 3) := by decide +kernel
theorem dX12_whyOf_63 : decode cX12_whyOf 63 = .ok (.iload_n 3, 1) := by decide +kernel
theorem dX12_whyOf_64 : decode cX12_whyOf 64 = .ok (.aload_n 0, 1) := by decide +kernel
theorem dX12_whyOf_65 : decode cX12_whyOf 65 = .ok (.getfield 52, 3) := by decide +kernel
theorem dX12_whyOf_68 : decode cX12_whyOf 68 = .ok (.iload 6, 2) := by decide +kernel
theorem dX12_whyOf_70 : decode cX12_whyOf 70 = .ok (.iaload, 1) := by decide +kernel
theorem dX12_whyOf_71 : decode cX12_whyOf 71 = .ok (.aload_n 0, 1) := by decide +kernel
theorem dX12_whyOf_72 : decode cX12_whyOf 72 = .ok (.getfield 55, 3) := by decide +kernel
theorem dX12_whyOf_75 : decode cX12_whyOf 75 = .ok (.iload 6, 2) := by decide +kernel
theorem dX12_whyOf_77 : decode cX12_whyOf 77 = .ok (.iaload, 1) := by decide +kernel
theorem dX12_whyOf_78 : decode cX12_whyOf 78 = .ok (.invokestatic 186, 3) := by decide +kernel
theorem dX12_whyOf_81 : decode cX12_whyOf 81 = .ok (.ifCond .eq 21, 3) := by decide +kernel
theorem dX12_whyOf_84 : decode cX12_whyOf 84 = .ok (.aload_n 0, 1) := by decide +kernel
theorem dX12_whyOf_85 : decode cX12_whyOf 85 = .ok (.getfield 58, 3) := by decide +kernel
theorem dX12_whyOf_88 : decode cX12_whyOf 88 = .ok (.iload 6, 2) := by decide +kernel
theorem dX12_whyOf_90 : decode cX12_whyOf 90 = .ok (.iaload, 1) := by decide +kernel
theorem dX12_whyOf_91 : decode cX12_whyOf 91 = .ok (.iload_n 1, 1) := by decide +kernel
theorem dX12_whyOf_92 : decode cX12_whyOf 92 = .ok (.ishr, 1) := by decide +kernel
theorem dX12_whyOf_93 : decode cX12_whyOf 93 = .ok (.iconst 1, 1) := by decide +kernel
theorem dX12_whyOf_94 : decode cX12_whyOf 94 = .ok (.iand, 1) := by decide +kernel
theorem dX12_whyOf_95 : decode cX12_whyOf 95 = .ok (.ifCond .ne 7, 3) := by decide +kernel
theorem dX12_whyOf_98 : decode cX12_whyOf 98 = .ok (.iconst 1, 1) := by decide +kernel
theorem dX12_whyOf_99 : decode cX12_whyOf 99 = .ok (.goto 4, 3) := by decide +kernel
theorem dX12_whyOf_102 : decode cX12_whyOf 102 = .ok (.iconst 0, 1) := by decide +kernel
theorem dX12_whyOf_103 : decode cX12_whyOf 103 = .ok (.istore 8, 2) := by decide +kernel
theorem dX12_whyOf_105 : decode cX12_whyOf 105 = .ok (.iload 7, 2) := by decide +kernel
theorem dX12_whyOf_107 : decode cX12_whyOf 107 = .ok (.ifCond .eq 13, 3) := by decide +kernel
theorem dX12_whyOf_110 : decode cX12_whyOf 110 = .ok (.iload 8, 2) := by decide +kernel
theorem dX12_whyOf_112 : decode cX12_whyOf 112 = .ok (.ifCond .eq 8, 3) := by decide +kernel
theorem dX12_whyOf_115 : decode cX12_whyOf 115 = .ok (.iload 6, 2) := by decide +kernel
theorem dX12_whyOf_117 : decode cX12_whyOf 117 = .ok (.goto 5, 3) := by decide +kernel
theorem dX12_whyOf_120 : decode cX12_whyOf 120 = .ok (.iload 5, 2) := by decide +kernel
theorem dX12_whyOf_122 : decode cX12_whyOf 122 = .ok (.istore 5, 2) := by decide +kernel
theorem dX12_whyOf_124 : decode cX12_whyOf 124 = .ok (.iinc 6 1, 3) := by decide +kernel
theorem dX12_whyOf_127 : decode cX12_whyOf 127 = .ok (.goto (-120), 3) := by decide +kernel
theorem dX12_whyOf_130 : decode cX12_whyOf 130 = .ok (.iload 5, 2) := by decide +kernel
theorem dX12_whyOf_132 : decode cX12_whyOf 132 = .ok (.ireturn, 1) := by decide +kernel
theorem dX12_wordOf_0 : decode cX12_wordOf 0 = .ok (.aload_n 0, 1) := by decide +kernel
theorem dX12_wordOf_1 : decode cX12_wordOf 1 = .ok (.iload_n 1, 1) := by decide +kernel
theorem dX12_wordOf_2 : decode cX12_wordOf 2 = .ok (.iload_n 2, 1) := by decide +kernel
theorem dX12_wordOf_3 : decode cX12_wordOf 3 = .ok (.iload_n 3, 1) := by decide +kernel
theorem dX12_wordOf_4 : decode cX12_wordOf 4 = .ok (.iload 4, 2) := by decide +kernel
theorem dX12_wordOf_6 : decode cX12_wordOf 6 = .ok (.invokevirtual 262, 3) := by decide +kernel
theorem dX12_wordOf_9 : decode cX12_wordOf 9 = .ok (.istore 5, 2) := by decide +kernel
theorem dX12_wordOf_11 : decode cX12_wordOf 11 = .ok (.iload 5, 2) := by decide +kernel
theorem dX12_wordOf_13 : decode cX12_wordOf 13 = .ok (.bipush (-9), 2) := by decide +kernel
theorem dX12_wordOf_15 : decode cX12_wordOf 15 = .ok (.if_icmp .ne 8, 3) := by decide +kernel
theorem dX12_wordOf_18 : decode cX12_wordOf 18 = .ok (.bipush (-9), 2) := by decide +kernel
theorem dX12_wordOf_20 : decode cX12_wordOf 20 = .ok (.goto 10, 3) := by decide +kernel
theorem dX12_wordOf_23 : decode cX12_wordOf 23 = .ok (.aload_n 0, 1) := by decide +kernel
theorem dX12_wordOf_24 : decode cX12_wordOf 24 = .ok (.getfield 43, 3) := by decide +kernel
theorem dX12_wordOf_27 : decode cX12_wordOf 27 = .ok (.iload 5, 2) := by decide +kernel
theorem dX12_wordOf_29 : decode cX12_wordOf 29 = .ok (.iaload, 1) := by decide +kernel
theorem dX12_wordOf_30 : decode cX12_wordOf 30 = .ok (.ireturn, 1) := by decide +kernel
theorem dX12_word_0 : decode cX12_word 0 = .ok (.aload_n 0, 1) := by decide +kernel
theorem dX12_word_1 : decode cX12_word 1 = .ok (.iload_n 1, 1) := by decide +kernel
theorem dX12_word_2 : decode cX12_word 2 = .ok (.invokevirtual 210, 3) := by decide +kernel
theorem dX12_word_5 : decode cX12_word 5 = .ok (.ifCond .eq 11, 3) := by decide +kernel
theorem dX12_word_8 : decode cX12_word 8 = .ok (.iload 4, 2) := by decide +kernel
theorem dX12_word_10 : decode cX12_word 10 = .ok (.invokestatic 259, 3) := by decide +kernel
theorem dX12_word_13 : decode cX12_word 13 = .ok (.ifCond .ne 5, 3) := by decide +kernel
theorem dX12_word_16 : decode cX12_word 16 = .ok (.iconst (-1), 1) := by decide +kernel
theorem dX12_word_17 : decode cX12_word 17 = .ok (.ireturn, 1) := by decide +kernel
theorem dX12_word_18 : decode cX12_word 18 = .ok (.iload_n 2, 1) := by decide +kernel
theorem dX12_word_19 : decode cX12_word 19 = .ok (.iconst 0, 1) := by decide +kernel
theorem dX12_word_20 : decode cX12_word 20 = .ok (.bipush 23, 2) := by decide +kernel
theorem dX12_word_22 : decode cX12_word 22 = .ok (.invokestatic 186, 3) := by decide +kernel
theorem dX12_word_25 : decode cX12_word 25 = .ok (.ifCond .eq 22, 3) := by decide +kernel
theorem dX12_word_28 : decode cX12_word 28 = .ok (.iload_n 3, 1) := by decide +kernel
theorem dX12_word_29 : decode cX12_word 29 = .ok (.invokestatic 203, 3) := by decide +kernel
theorem dX12_word_32 : decode cX12_word 32 = .ok (.ifCond .eq 15, 3) := by decide +kernel
theorem dX12_word_35 : decode cX12_word 35 = .ok (.aload_n 0, 1) := by decide +kernel
theorem dX12_word_36 : decode cX12_word 36 = .ok (.iload_n 1, 1) := by decide +kernel
theorem dX12_word_37 : decode cX12_word 37 = .ok (.iload_n 2, 1) := by decide +kernel
theorem dX12_word_38 : decode cX12_word 38 = .ok (.iload_n 3, 1) := by decide +kernel
theorem dX12_word_39 : decode cX12_word 39 = .ok (.iload 4, 2) := by decide +kernel
theorem dX12_word_41 : decode cX12_word 41 = .ok (.invokevirtual 265, 3) := by decide +kernel
theorem dX12_word_44 : decode cX12_word 44 = .ok (.goto 5, 3) := by decide +kernel
theorem dX12_word_47 : decode cX12_word 47 = .ok (.bipush (-2), 2) := by decide +kernel
theorem dX12_word_49 : decode cX12_word 49 = .ok (.ireturn, 1) := by decide +kernel
theorem dX12_why_0 : decode cX12_why 0 = .ok (.aload_n 0, 1) := by decide +kernel
theorem dX12_why_1 : decode cX12_why 1 = .ok (.iload_n 1, 1) := by decide +kernel
theorem dX12_why_2 : decode cX12_why 2 = .ok (.invokevirtual 210, 3) := by decide +kernel
theorem dX12_why_5 : decode cX12_why 5 = .ok (.ifCond .eq 11, 3) := by decide +kernel
theorem dX12_why_8 : decode cX12_why 8 = .ok (.iload 4, 2) := by decide +kernel
theorem dX12_why_10 : decode cX12_why 10 = .ok (.invokestatic 259, 3) := by decide +kernel
theorem dX12_why_13 : decode cX12_why 13 = .ok (.ifCond .ne 5, 3) := by decide +kernel
theorem dX12_why_16 : decode cX12_why 16 = .ok (.iconst (-1), 1) := by decide +kernel
theorem dX12_why_17 : decode cX12_why 17 = .ok (.ireturn, 1) := by decide +kernel
theorem dX12_why_18 : decode cX12_why 18 = .ok (.iload_n 2, 1) := by decide +kernel
theorem dX12_why_19 : decode cX12_why 19 = .ok (.iconst 0, 1) := by decide +kernel
theorem dX12_why_20 : decode cX12_why 20 = .ok (.bipush 23, 2) := by decide +kernel
theorem dX12_why_22 : decode cX12_why 22 = .ok (.invokestatic 186, 3) := by decide +kernel
theorem dX12_why_25 : decode cX12_why 25 = .ok (.ifCond .eq 22, 3) := by decide +kernel
theorem dX12_why_28 : decode cX12_why 28 = .ok (.iload_n 3, 1) := by decide +kernel
theorem dX12_why_29 : decode cX12_why 29 = .ok (.invokestatic 203, 3) := by decide +kernel
theorem dX12_why_32 : decode cX12_why 32 = .ok (.ifCond .eq 15, 3) := by decide +kernel
theorem dX12_why_35 : decode cX12_why 35 = .ok (.aload_n 0, 1) := by decide +kernel
theorem dX12_why_36 : decode cX12_why 36 = .ok (.iload_n 1, 1) := by decide +kernel
theorem dX12_why_37 : decode cX12_why 37 = .ok (.iload_n 2, 1) := by decide +kernel
theorem dX12_why_38 : decode cX12_why 38 = .ok (.iload_n 3, 1) := by decide +kernel
theorem dX12_why_39 : decode cX12_why 39 = .ok (.iload 4, 2) := by decide +kernel
theorem dX12_why_41 : decode cX12_why 41 = .ok (.invokevirtual 262, 3) := by decide +kernel
theorem dX12_why_44 : decode cX12_why 44 = .ok (.goto 5, 3) := by decide +kernel
theorem dX12_why_47 : decode cX12_why 47 = .ok (.bipush (-2), 2) := by decide +kernel
theorem dX12_why_49 : decode cX12_why 49 = .ok (.ireturn, 1) := by decide +kernel
theorem dX12_quarrel_0 : decode cX12_quarrel 0 = .ok (.aload_n 0, 1) := by decide +kernel
theorem dX12_quarrel_1 : decode cX12_quarrel 1 = .ok (.iload_n 1, 1) := by decide +kernel
theorem dX12_quarrel_2 : decode cX12_quarrel 2 = .ok (.invokevirtual 210, 3) := by decide +kernel
theorem dX12_quarrel_5 : decode cX12_quarrel 5 = .ok (.ifCond .ne 5, 3) := by decide +kernel
theorem dX12_quarrel_8 : decode cX12_quarrel 8 = .ok (.iconst (-1), 1) := by decide +kernel
theorem dX12_quarrel_9 : decode cX12_quarrel 9 = .ok (.ireturn, 1) := by decide +kernel
theorem dX12_quarrel_10 : decode cX12_quarrel 10 = .ok (.iload_n 2, 1) := by decide +kernel
theorem dX12_quarrel_11 : decode cX12_quarrel 11 = .ok (.invokestatic 203, 3) := by decide +kernel
theorem dX12_quarrel_14 : decode cX12_quarrel 14 = .ok (.ifCond .ne 6, 3) := by decide +kernel
theorem dX12_quarrel_17 : decode cX12_quarrel 17 = .ok (.bipush (-2), 2) := by decide +kernel
theorem dX12_quarrel_19 : decode cX12_quarrel 19 = .ok (.ireturn, 1) := by decide +kernel
theorem dX12_quarrel_20 : decode cX12_quarrel 20 = .ok (.iconst 0, 1) := by decide +kernel
theorem dX12_quarrel_21 : decode cX12_quarrel 21 = .ok (.istore_n 3, 1) := by decide +kernel
theorem dX12_quarrel_22 : decode cX12_quarrel 22 = .ok (.iconst 0, 1) := by decide +kernel
theorem dX12_quarrel_23 : decode cX12_quarrel 23 = .ok (.istore 4, 2) := by decide +kernel
theorem dX12_quarrel_25 : decode cX12_quarrel 25 = .ok (.iload 4, 2) := by decide +kernel
theorem dX12_quarrel_27 : decode cX12_quarrel 27 = .ok (.bipush 24, 2) := by decide +kernel
theorem dX12_quarrel_29 : decode cX12_quarrel 29 = .ok (.if_icmp .ge 69, 3) := by decide +kernel
theorem dX12_quarrel_32 : decode cX12_quarrel 32 = .ok (.iconst 0, 1) := by decide +kernel
theorem dX12_quarrel_33 : decode cX12_quarrel 33 = .ok (.istore 5, 2) := by decide +kernel
theorem dX12_quarrel_35 : decode cX12_quarrel 35 = .ok (.iconst 0, 1) := by decide +kernel
theorem dX12_quarrel_36 : decode cX12_quarrel 36 = .ok (.istore 6, 2) := by decide +kernel
theorem dX12_quarrel_38 : decode cX12_quarrel 38 = .ok (.iload 6, 2) := by decide +kernel
theorem dX12_quarrel_40 : decode cX12_quarrel 40 = .ok (.iconst 5, 1) := by decide +kernel
theorem dX12_quarrel_41 : decode cX12_quarrel 41 = .ok (.if_icmp .ge 34, 3) := by decide +kernel
theorem dX12_quarrel_44 : decode cX12_quarrel 44 = .ok (.iload 5, 2) := by decide +kernel
theorem dX12_quarrel_46 : decode cX12_quarrel 46 = .ok (.aload_n 0, 1) := by decide +kernel
theorem dX12_quarrel_47 : decode cX12_quarrel 47 = .ok (.iload_n 1, 1) := by decide +kernel
theorem dX12_quarrel_48 : decode cX12_quarrel 48 = .ok (.iload 4, 2) := by decide +kernel
theorem dX12_quarrel_50 : decode cX12_quarrel 50 = .ok (.iload_n 2, 1) := by decide +kernel
theorem dX12_quarrel_51 : decode cX12_quarrel 51 = .ok (.iload 6, 2) := by decide +kernel
theorem dX12_quarrel_53 : decode cX12_quarrel 53 = .ok (.invokevirtual 265, 3) := by decide +kernel
theorem dX12_quarrel_56 : decode cX12_quarrel 56 = .ok (.iload 6, 2) := by decide +kernel
theorem dX12_quarrel_58 : decode cX12_quarrel 58 = .ok (.if_icmp .ne 7, 3) := by decide +kernel
theorem dX12_quarrel_61 : decode cX12_quarrel 61 = .ok (.iconst 1, 1) := by decide +kernel
theorem dX12_quarrel_62 : decode cX12_quarrel 62 = .ok (.goto 4, 3) := by decide +kernel
theorem dX12_quarrel_65 : decode cX12_quarrel 65 = .ok (.iconst 0, 1) := by decide +kernel
theorem dX12_quarrel_66 : decode cX12_quarrel 66 = .ok (.iadd, 1) := by decide +kernel
theorem dX12_quarrel_67 : decode cX12_quarrel 67 = .ok (.istore 5, 2) := by decide +kernel
theorem dX12_quarrel_69 : decode cX12_quarrel 69 = .ok (.iinc 6 1, 3) := by decide +kernel
theorem dX12_quarrel_72 : decode cX12_quarrel 72 = .ok (.goto (-34), 3) := by decide +kernel
theorem dX12_quarrel_75 : decode cX12_quarrel 75 = .ok (.iload_n 3, 1) := by decide +kernel
theorem dX12_quarrel_76 : decode cX12_quarrel 76 = .ok (.iload 5, 2) := by decide +kernel
theorem dX12_quarrel_78 : decode cX12_quarrel 78 = .ok (.iconst 1, 1) := by decide +kernel
theorem dX12_quarrel_79 : decode cX12_quarrel 79 = .ok (.if_icmp .le 10, 3) := by decide +kernel
theorem dX12_quarrel_82 : decode cX12_quarrel 82 = .ok (.iconst 1, 1) := by decide +kernel
theorem dX12_quarrel_83 : decode cX12_quarrel 83 = .ok (.iload 4, 2) := by decide +kernel
theorem dX12_quarrel_85 : decode cX12_quarrel 85 = .ok (.ishl, 1) := by decide +kernel
theorem dX12_quarrel_86 : decode cX12_quarrel 86 = .ok (.goto 4, 3) := by decide +kernel
theorem dX12_quarrel_89 : decode cX12_quarrel 89 = .ok (.iconst 0, 1) := by decide +kernel
theorem dX12_quarrel_90 : decode cX12_quarrel 90 = .ok (.ior, 1) := by decide +kernel
theorem dX12_quarrel_91 : decode cX12_quarrel 91 = .ok (.istore_n 3, 1) := by decide +kernel
theorem dX12_quarrel_92 : decode cX12_quarrel 92 = .ok (.iinc 4 1, 3) := by decide +kernel
theorem dX12_quarrel_95 : decode cX12_quarrel 95 = .ok (.goto (-70), 3) := by decide +kernel
theorem dX12_quarrel_98 : decode cX12_quarrel 98 = .ok (.iload_n 3, 1) := by decide +kernel
theorem dX12_quarrel_99 : decode cX12_quarrel 99 = .ok (.ireturn, 1) := by decide +kernel
theorem dX12_rate_0 : decode cX12_rate 0 = .ok (.iload_n 1, 1) := by decide +kernel
theorem dX12_rate_1 : decode cX12_rate 1 = .ok (.iconst 0, 1) := by decide +kernel
theorem dX12_rate_2 : decode cX12_rate 2 = .ok (.iconst 2, 1) := by decide +kernel
theorem dX12_rate_3 : decode cX12_rate 3 = .ok (.invokestatic 186, 3) := by decide +kernel
theorem dX12_rate_6 : decode cX12_rate 6 = .ok (.ifCond .eq 14, 3) := by decide +kernel
theorem dX12_rate_9 : decode cX12_rate 9 = .ok (.iload_n 2, 1) := by decide +kernel
theorem dX12_rate_10 : decode cX12_rate 10 = .ok (.iconst 0, 1) := by decide +kernel
theorem dX12_rate_11 : decode cX12_rate 11 = .ok (.sipush 999, 3) := by decide +kernel
theorem dX12_rate_14 : decode cX12_rate 14 = .ok (.invokestatic 186, 3) := by decide +kernel
theorem dX12_rate_17 : decode cX12_rate 17 = .ok (.ifCond .ne 6, 3) := by decide +kernel
theorem dX12_rate_20 : decode cX12_rate 20 = .ok (.bipush (-2), 2) := by decide +kernel
theorem dX12_rate_22 : decode cX12_rate 22 = .ok (.ireturn, 1) := by decide +kernel
theorem dX12_rate_23 : decode cX12_rate 23 = .ok (.aload_n 0, 1) := by decide +kernel
theorem dX12_rate_24 : decode cX12_rate 24 = .ok (.getfield 67, 3) := by decide +kernel
theorem dX12_rate_27 : decode cX12_rate 27 = .ok (.iload_n 1, 1) := by decide +kernel
theorem dX12_rate_28 : decode cX12_rate 28 = .ok (.iaload, 1) := by decide +kernel
theorem dX12_rate_29 : decode cX12_rate 29 = .ok (.istore_n 3, 1) := by decide +kernel
theorem dX12_rate_30 : decode cX12_rate 30 = .ok (.aload_n 0, 1) := by decide +kernel
theorem dX12_rate_31 : decode cX12_rate 31 = .ok (.getfield 67, 3) := by decide +kernel
theorem dX12_rate_34 : decode cX12_rate 34 = .ok (.iload_n 1, 1) := by decide +kernel
theorem dX12_rate_35 : decode cX12_rate 35 = .ok (.iload_n 2, 1) := by decide +kernel
theorem dX12_rate_36 : decode cX12_rate 36 = .ok (.iastore, 1) := by decide +kernel
theorem dX12_rate_37 : decode cX12_rate 37 = .ok (.iload_n 3, 1) := by decide +kernel
theorem dX12_rate_38 : decode cX12_rate 38 = .ok (.ireturn, 1) := by decide +kernel
theorem dX12_home_0 : decode cX12_home 0 = .ok (.iload_n 2, 1) := by decide +kernel
theorem dX12_home_1 : decode cX12_home 1 = .ok (.iconst 1, 1) := by decide +kernel
theorem dX12_home_2 : decode cX12_home 2 = .ok (.bipush 100, 2) := by decide +kernel
theorem dX12_home_4 : decode cX12_home 4 = .ok (.invokestatic 186, 3) := by decide +kernel
theorem dX12_home_7 : decode cX12_home 7 = .ok (.ifCond .eq 12, 3) := by decide +kernel
theorem dX12_home_10 : decode cX12_home 10 = .ok (.iload_n 1, 1) := by decide +kernel
theorem dX12_home_11 : decode cX12_home 11 = .ok (.iconst 0, 1) := by decide +kernel
theorem dX12_home_12 : decode cX12_home 12 = .ok (.iload_n 2, 1) := by decide +kernel
theorem dX12_home_13 : decode cX12_home 13 = .ok (.invokestatic 186, 3) := by decide +kernel
theorem dX12_home_16 : decode cX12_home 16 = .ok (.ifCond .ne 6, 3) := by decide +kernel
theorem dX12_home_19 : decode cX12_home 19 = .ok (.bipush (-2), 2) := by decide +kernel
theorem dX12_home_21 : decode cX12_home 21 = .ok (.ireturn, 1) := by decide +kernel
theorem dX12_home_22 : decode cX12_home 22 = .ok (.aload_n 0, 1) := by decide +kernel
theorem dX12_home_23 : decode cX12_home 23 = .ok (.getfield 70, 3) := by decide +kernel
theorem dX12_home_26 : decode cX12_home 26 = .ok (.iload_n 1, 1) := by decide +kernel
theorem dX12_home_27 : decode cX12_home 27 = .ok (.if_icmp .ne 15, 3) := by decide +kernel
theorem dX12_home_30 : decode cX12_home 30 = .ok (.aload_n 0, 1) := by decide +kernel
theorem dX12_home_31 : decode cX12_home 31 = .ok (.getfield 74, 3) := by decide +kernel
theorem dX12_home_34 : decode cX12_home 34 = .ok (.iload_n 2, 1) := by decide +kernel
theorem dX12_home_35 : decode cX12_home 35 = .ok (.if_icmp .ne 7, 3) := by decide +kernel
theorem dX12_home_38 : decode cX12_home 38 = .ok (.iconst 0, 1) := by decide +kernel
theorem dX12_home_39 : decode cX12_home 39 = .ok (.goto 4, 3) := by decide +kernel
theorem dX12_home_42 : decode cX12_home 42 = .ok (.iconst 1, 1) := by decide +kernel
theorem dX12_home_43 : decode cX12_home 43 = .ok (.istore_n 3, 1) := by decide +kernel
theorem dX12_home_44 : decode cX12_home 44 = .ok (.aload_n 0, 1) := by decide +kernel
theorem dX12_home_45 : decode cX12_home 45 = .ok (.iload_n 1, 1) := by decide +kernel
theorem dX12_home_46 : decode cX12_home 46 = .ok (.putfield 70, 3) := by decide +kernel
theorem dX12_home_49 : decode cX12_home 49 = .ok (.aload_n 0, 1) := by decide +kernel
theorem dX12_home_50 : decode cX12_home 50 = .ok (.iload_n 2, 1) := by decide +kernel
theorem dX12_home_51 : decode cX12_home 51 = .ok (.putfield 74, 3) := by decide +kernel
theorem dX12_home_54 : decode cX12_home 54 = .ok (.iload_n 3, 1) := by decide +kernel
theorem dX12_home_55 : decode cX12_home 55 = .ok (.ireturn, 1) := by decide +kernel
theorem dX12_fine_0 : decode cX12_fine 0 = .ok (.aload_n 0, 1) := by decide +kernel
theorem dX12_fine_1 : decode cX12_fine 1 = .ok (.iload_n 1, 1) := by decide +kernel
theorem dX12_fine_2 : decode cX12_fine 2 = .ok (.invokevirtual 207, 3) := by decide +kernel
theorem dX12_fine_5 : decode cX12_fine 5 = .ok (.ifCond .ne 5, 3) := by decide +kernel
theorem dX12_fine_8 : decode cX12_fine 8 = .ok (.iconst (-1), 1) := by decide +kernel
theorem dX12_fine_9 : decode cX12_fine 9 = .ok (.ireturn, 1) := by decide +kernel
theorem dX12_fine_10 : decode cX12_fine 10 = .ok (.iload_n 2, 1) := by decide +kernel
theorem dX12_fine_11 : decode cX12_fine 11 = .ok (.invokestatic 203, 3) := by decide +kernel
theorem dX12_fine_14 : decode cX12_fine 14 = .ok (.ifCond .eq 14, 3) := by decide +kernel
theorem dX12_fine_17 : decode cX12_fine 17 = .ok (.iload_n 3, 1) := by decide +kernel
theorem dX12_fine_18 : decode cX12_fine 18 = .ok (.iconst 1, 1) := by decide +kernel
theorem dX12_fine_19 : decode cX12_fine 19 = .ok (.sipush 9999, 3) := by decide +kernel
theorem dX12_fine_22 : decode cX12_fine 22 = .ok (.invokestatic 186, 3) := by decide +kernel
theorem dX12_fine_25 : decode cX12_fine 25 = .ok (.ifCond .ne 6, 3) := by decide +kernel
theorem dX12_fine_28 : decode cX12_fine 28 = .ok (.bipush (-2), 2) := by decide +kernel
theorem dX12_fine_30 : decode cX12_fine 30 = .ok (.ireturn, 1) := by decide +kernel
theorem dX12_fine_31 : decode cX12_fine 31 = .ok (.aload_n 0, 1) := by decide +kernel
theorem dX12_fine_32 : decode cX12_fine 32 = .ok (.getfield 268, 3) := by decide +kernel
theorem dX12_fine_35 : decode cX12_fine 35 = .ok (.bipush 30, 2) := by decide +kernel
theorem dX12_fine_37 : decode cX12_fine 37 = .ok (.if_icmp .ne 6, 3) := by decide +kernel
theorem dX12_fine_40 : decode cX12_fine 40 = .ok (.bipush (-4), 2) := by decide +kernel
theorem dX12_fine_42 : decode cX12_fine 42 = .ok (.ireturn, 1) := by decide +kernel
theorem dX12_fine_43 : decode cX12_fine 43 = .ok (.aload_n 0, 1) := by decide +kernel
theorem dX12_fine_44 : decode cX12_fine 44 = .ok (.getfield 77, 3) := by decide +kernel
theorem dX12_fine_47 : decode cX12_fine 47 = .ok (.aload_n 0, 1) := by decide +kernel
theorem dX12_fine_48 : decode cX12_fine 48 = .ok (.getfield 268, 3) := by decide +kernel
theorem dX12_fine_51 : decode cX12_fine 51 = .ok (.iload_n 1, 1) := by decide +kernel
theorem dX12_fine_52 : decode cX12_fine 52 = .ok (.iastore, 1) := by decide +kernel
theorem dX12_fine_53 : decode cX12_fine 53 = .ok (.aload_n 0, 1) := by decide +kernel
theorem dX12_fine_54 : decode cX12_fine 54 = .ok (.getfield 80, 3) := by decide +kernel
theorem dX12_fine_57 : decode cX12_fine 57 = .ok (.aload_n 0, 1) := by decide +kernel
theorem dX12_fine_58 : decode cX12_fine 58 = .ok (.getfield 268, 3) := by decide +kernel
theorem dX12_fine_61 : decode cX12_fine 61 = .ok (.iload_n 2, 1) := by decide +kernel
theorem dX12_fine_62 : decode cX12_fine 62 = .ok (.iastore, 1) := by decide +kernel
theorem dX12_fine_63 : decode cX12_fine 63 = .ok (.aload_n 0, 1) := by decide +kernel
theorem dX12_fine_64 : decode cX12_fine 64 = .ok (.getfield 83, 3) := by decide +kernel
theorem dX12_fine_67 : decode cX12_fine 67 = .ok (.aload_n 0, 1) := by decide +kernel
theorem dX12_fine_68 : decode cX12_fine 68 = .ok (.getfield 268, 3) := by decide +kernel
theorem dX12_fine_71 : decode cX12_fine 71 = .ok (.iload_n 3, 1) := by decide +kernel
theorem dX12_fine_72 : decode cX12_fine 72 = .ok (.iastore, 1) := by decide +kernel
theorem dX12_fine_73 : decode cX12_fine 73 = .ok (.aload_n 0, 1) := by decide +kernel
theorem dX12_fine_74 : decode cX12_fine 74 = .ok (.dup, 1) := by decide +kernel
theorem dX12_fine_75 : decode cX12_fine 75 = .ok (.getfield 268, 3) := by decide +kernel
theorem dX12_fine_78 : decode cX12_fine 78 = .ok (.iconst 1, 1) := by decide +kernel
theorem dX12_fine_79 : decode cX12_fine 79 = .ok (.iadd, 1) := by decide +kernel
theorem dX12_fine_80 : decode cX12_fine 80 = .ok (.putfield 268, 3) := by decide +kernel
theorem dX12_fine_83 : decode cX12_fine 83 = .ok (.aload_n 0, 1) := by decide +kernel
theorem dX12_fine_84 : decode cX12_fine 84 = .ok (.getfield 268, 3) := by decide +kernel
theorem dX12_fine_87 : decode cX12_fine 87 = .ok (.ireturn, 1) := by decide +kernel
theorem dX12_pay_0 : decode cX12_pay 0 = .ok (.aload_n 0, 1) := by decide +kernel
theorem dX12_pay_1 : decode cX12_pay 1 = .ok (.iload_n 1, 1) := by decide +kernel
theorem dX12_pay_2 : decode cX12_pay 2 = .ok (.invokevirtual 207, 3) := by decide +kernel
theorem dX12_pay_5 : decode cX12_pay 5 = .ok (.ifCond .ne 5, 3) := by decide +kernel
theorem dX12_pay_8 : decode cX12_pay 8 = .ok (.iconst (-1), 1) := by decide +kernel
theorem dX12_pay_9 : decode cX12_pay 9 = .ok (.ireturn, 1) := by decide +kernel
theorem dX12_pay_10 : decode cX12_pay 10 = .ok (.iload_n 2, 1) := by decide +kernel
theorem dX12_pay_11 : decode cX12_pay 11 = .ok (.iload_n 3, 1) := by decide +kernel
theorem dX12_pay_12 : decode cX12_pay 12 = .ok (.invokestatic 213, 3) := by decide +kernel
theorem dX12_pay_15 : decode cX12_pay 15 = .ok (.ifCond .eq 13, 3) := by decide +kernel
theorem dX12_pay_18 : decode cX12_pay 18 = .ok (.iload 4, 2) := by decide +kernel
theorem dX12_pay_20 : decode cX12_pay 20 = .ok (.iconst 0, 1) := by decide +kernel
theorem dX12_pay_21 : decode cX12_pay 21 = .ok (.iconst 4, 1) := by decide +kernel
theorem dX12_pay_22 : decode cX12_pay 22 = .ok (.invokestatic 186, 3) := by decide +kernel
theorem dX12_pay_25 : decode cX12_pay 25 = .ok (.ifCond .ne 6, 3) := by decide +kernel
theorem dX12_pay_28 : decode cX12_pay 28 = .ok (.bipush (-2), 2) := by decide +kernel
theorem dX12_pay_30 : decode cX12_pay 30 = .ok (.ireturn, 1) := by decide +kernel
theorem dX12_pay_31 : decode cX12_pay 31 = .ok (.iconst 0, 1) := by decide +kernel
theorem dX12_pay_32 : decode cX12_pay 32 = .ok (.istore 5, 2) := by decide +kernel
theorem dX12_pay_34 : decode cX12_pay 34 = .ok (.iload_n 2, 1) := by decide +kernel
theorem dX12_pay_35 : decode cX12_pay 35 = .ok (.istore 6, 2) := by decide +kernel
theorem dX12_pay_37 : decode cX12_pay 37 = .ok (.iload 6, 2) := by decide +kernel
theorem dX12_pay_39 : decode cX12_pay 39 = .ok (.iload_n 3, 1) := by decide +kernel
theorem dX12_pay_40 : decode cX12_pay 40 = .ok (.if_icmp .gt 46, 3) := by decide +kernel
theorem dX12_pay_43 : decode cX12_pay 43 = .ok (.aload_n 0, 1) := by decide +kernel
theorem dX12_pay_44 : decode cX12_pay 44 = .ok (.iload_n 1, 1) := by decide +kernel
theorem dX12_pay_45 : decode cX12_pay 45 = .ok (.iload 6, 2) := by decide +kernel
theorem dX12_pay_47 : decode cX12_pay 47 = .ok (.invokevirtual 216, 3) := by decide +kernel
theorem dX12_pay_50 : decode cX12_pay 50 = .ok (.istore 7, 2) := by decide +kernel
theorem dX12_pay_52 : decode cX12_pay 52 = .ok (.iload 5, 2) := by decide +kernel
theorem dX12_pay_54 : decode cX12_pay 54 = .ok (.iload 7, 2) := by decide +kernel
theorem dX12_pay_56 : decode cX12_pay 56 = .ok (.bipush (-9), 2) := by decide +kernel
theorem dX12_pay_58 : decode cX12_pay 58 = .ok (.if_icmp .ne 7, 3) := by decide +kernel
theorem dX12_pay_61 : decode cX12_pay 61 = .ok (.iconst 0, 1) := by decide +kernel
theorem dX12_pay_62 : decode cX12_pay 62 = .ok (.goto 15, 3) := by decide +kernel
theorem dX12_pay_65 : decode cX12_pay 65 = .ok (.aload_n 0, 1) := by decide +kernel
theorem dX12_pay_66 : decode cX12_pay 66 = .ok (.getfield 67, 3) := by decide +kernel
theorem dX12_pay_69 : decode cX12_pay 69 = .ok (.aload_n 0, 1) := by decide +kernel
theorem dX12_pay_70 : decode cX12_pay 70 = .ok (.getfield 28, 3) := by decide +kernel
theorem dX12_pay_73 : decode cX12_pay 73 = .ok (.iload 7, 2) := by decide +kernel
theorem dX12_pay_75 : decode cX12_pay 75 = .ok (.iaload, 1) := by decide +kernel
theorem dX12_pay_76 : decode cX12_pay 76 = .ok (.iaload, 1) := by decide +kernel
theorem dX12_pay_77 : decode cX12_pay 77 = .ok (.iadd, 1) := by decide +kernel
theorem dX12_pay_78 : decode cX12_pay 78 = .ok (.istore 5, 2) := by decide +kernel
theorem dX12_pay_80 : decode cX12_pay 80 = .ok (.iinc 6 1, 3) := by decide +kernel
theorem dX12_pay_83 : decode cX12_pay 83 = .ok (.goto (-46), 3) := by decide +kernel
theorem dX12_pay_86 : decode cX12_pay 86 = .ok (.iconst 0, 1) := by decide +kernel
theorem dX12_pay_87 : decode cX12_pay 87 = .ok (.istore 6, 2) := by decide +kernel
theorem dX12_pay_89 : decode cX12_pay 89 = .ok (.iconst 0, 1) := by decide +kernel
theorem dX12_pay_90 : decode cX12_pay 90 = .ok (.istore 7, 2) := by decide +kernel
theorem dX12_pay_92 : decode cX12_pay 92 = .ok (.iload 7, 2) := by decide +kernel
theorem dX12_pay_94 : decode cX12_pay 94 = .ok (.aload_n 0, 1) := by decide +kernel
theorem dX12_pay_95 : decode cX12_pay 95 = .ok (.getfield 268, 3) := by decide +kernel
theorem dX12_pay_98 : decode cX12_pay 98 = .ok (.if_icmp .ge 51, 3) := by decide +kernel
theorem dX12_pay_101 : decode cX12_pay 101 = .ok (.iload 6, 2) := by decide +kernel
theorem dX12_pay_103 : decode cX12_pay 103 = .ok (.aload_n 0, 1) := by decide +kernel
theorem dX12_pay_104 : decode cX12_pay 104 = .ok (.getfield 77, 3) := by decide +kernel
theorem dX12_pay_107 : decode cX12_pay 107 = .ok (.iload 7, 2) := by decide +kernel
theorem dX12_pay_109 : decode cX12_pay 109 = .ok (.iaload, 1) := by decide +kernel
theorem dX12_pay_110 : decode cX12_pay 110 = .ok (.iload_n 1, 1) := by decide +kernel
theorem dX12_pay_111 : decode cX12_pay 111 = .ok (.if_icmp .ne 28, 3) := by decide +kernel
theorem dX12_pay_114 : decode cX12_pay 114 = .ok (.aload_n 0, 1) := by decide +kernel
theorem dX12_pay_115 : decode cX12_pay 115 = .ok (.getfield 80, 3) := by decide +kernel
theorem dX12_pay_118 : decode cX12_pay 118 = .ok (.iload 7, 2) := by decide +kernel
theorem dX12_pay_120 : decode cX12_pay 120 = .ok (.iaload, 1) := by decide +kernel
theorem dX12_pay_121 : decode cX12_pay 121 = .ok (.iload_n 2, 1) := by decide +kernel
theorem dX12_pay_122 : decode cX12_pay 122 = .ok (.iload_n 3, 1) := by decide +kernel
theorem dX12_pay_123 : decode cX12_pay 123 = .ok (.invokestatic 186, 3) := by decide +kernel
theorem dX12_pay_126 : decode cX12_pay 126 = .ok (.ifCond .eq 13, 3) := by decide +kernel
theorem dX12_pay_129 : decode cX12_pay 129 = .ok (.aload_n 0, 1) := by decide +kernel
theorem dX12_pay_130 : decode cX12_pay 130 = .ok (.getfield 83, 3) := by decide +kernel
theorem dX12_pay_133 : decode cX12_pay 133 = .ok (.iload 7, 2) := by decide +kernel
theorem dX12_pay_135 : decode cX12_pay 135 = .ok (.iaload, 1) := by decide +kernel
theorem dX12_pay_136 : decode cX12_pay 136 = .ok (.goto 4, 3) := by decide +kernel
theorem dX12_pay_139 : decode cX12_pay 139 = .ok (.iconst 0, 1) := by decide +kernel
theorem dX12_pay_140 : decode cX12_pay 140 = .ok (.iadd, 1) := by decide +kernel
theorem dX12_pay_141 : decode cX12_pay 141 = .ok (.istore 6, 2) := by decide +kernel
theorem dX12_pay_143 : decode cX12_pay 143 = .ok (.iinc 7 1, 3) := by decide +kernel
theorem dX12_pay_146 : decode cX12_pay 146 = .ok (.goto (-54), 3) := by decide +kernel
theorem dX12_pay_149 : decode cX12_pay 149 = .ok (.iload 5, 2) := by decide +kernel
theorem dX12_pay_151 : decode cX12_pay 151 = .ok (.aload_n 0, 1) := by decide +kernel
theorem dX12_pay_152 : decode cX12_pay 152 = .ok (.getfield 70, 3) := by decide +kernel
theorem dX12_pay_155 : decode cX12_pay 155 = .ok (.imul, 1) := by decide +kernel
theorem dX12_pay_156 : decode cX12_pay 156 = .ok (.aload_n 0, 1) := by decide +kernel
theorem dX12_pay_157 : decode cX12_pay 157 = .ok (.getfield 74, 3) := by decide +kernel
theorem dX12_pay_160 : decode cX12_pay 160 = .ok (.idiv, 1) := by decide +kernel
theorem dX12_pay_161 : decode cX12_pay 161 = .ok (.istore 7, 2) := by decide +kernel
theorem dX12_pay_163 : decode cX12_pay 163 = .ok (.iload 6, 2) := by decide +kernel
theorem dX12_pay_165 : decode cX12_pay 165 = .ok (.iload 5, 2) := by decide +kernel
theorem dX12_pay_167 : decode cX12_pay 167 = .ok (.iload 7, 2) := by decide +kernel
theorem dX12_pay_169 : decode cX12_pay 169 = .ok (.isub, 1) := by decide +kernel
theorem dX12_pay_170 : decode cX12_pay 170 = .ok (.if_icmp .ge 8, 3) := by decide +kernel
theorem dX12_pay_173 : decode cX12_pay 173 = .ok (.iload 6, 2) := by decide +kernel
theorem dX12_pay_175 : decode cX12_pay 175 = .ok (.goto 8, 3) := by decide +kernel
theorem dX12_pay_178 : decode cX12_pay 178 = .ok (.iload 5, 2) := by decide +kernel
theorem dX12_pay_180 : decode cX12_pay 180 = .ok (.iload 7, 2) := by decide +kernel
theorem dX12_pay_182 : decode cX12_pay 182 = .ok (.isub, 1) := by decide +kernel
theorem dX12_pay_183 : decode cX12_pay 183 = .ok (.istore 8, 2) := by decide +kernel
theorem dX12_pay_185 : decode cX12_pay 185 = .ok (.iload 4, 2) := by decide +kernel
theorem dX12_pay_187 : decode cX12_pay 187 = .ok (.tableswitch 47 0 3 #[29, 32, 35, 38], 29) := by decide +kernel
theorem dX12_pay_216 : decode cX12_pay 216 = .ok (.iload 5, 2) := by decide +kernel
theorem dX12_pay_218 : decode cX12_pay 218 = .ok (.ireturn, 1) := by decide +kernel
theorem dX12_pay_219 : decode cX12_pay 219 = .ok (.iload 7, 2) := by decide +kernel
theorem dX12_pay_221 : decode cX12_pay 221 = .ok (.ireturn, 1) := by decide +kernel
theorem dX12_pay_222 : decode cX12_pay 222 = .ok (.iload 8, 2) := by decide +kernel
theorem dX12_pay_224 : decode cX12_pay 224 = .ok (.ireturn, 1) := by decide +kernel
theorem dX12_pay_225 : decode cX12_pay 225 = .ok (.iload 5, 2) := by decide +kernel
theorem dX12_pay_227 : decode cX12_pay 227 = .ok (.iload 7, 2) := by decide +kernel
theorem dX12_pay_229 : decode cX12_pay 229 = .ok (.isub, 1) := by decide +kernel
theorem dX12_pay_230 : decode cX12_pay 230 = .ok (.iload 8, 2) := by decide +kernel
theorem dX12_pay_232 : decode cX12_pay 232 = .ok (.isub, 1) := by decide +kernel
theorem dX12_pay_233 : decode cX12_pay 233 = .ok (.ireturn, 1) := by decide +kernel
theorem dX12_pay_234 : decode cX12_pay 234 = .ok (.iload 6, 2) := by decide +kernel
theorem dX12_pay_236 : decode cX12_pay 236 = .ok (.iload 8, 2) := by decide +kernel
theorem dX12_pay_238 : decode cX12_pay 238 = .ok (.isub, 1) := by decide +kernel
theorem dX12_pay_239 : decode cX12_pay 239 = .ok (.ireturn, 1) := by decide +kernel
theorem dX12_isWork_0 : decode cX12_isWork 0 = .ok (.iload_n 1, 1) := by decide +kernel
theorem dX12_isWork_1 : decode cX12_isWork 1 = .ok (.ifCond .lt 15, 3) := by decide +kernel
theorem dX12_isWork_4 : decode cX12_isWork 4 = .ok (.iload_n 1, 1) := by decide +kernel
theorem dX12_isWork_5 : decode cX12_isWork 5 = .ok (.aload_n 0, 1) := by decide +kernel
theorem dX12_isWork_6 : decode cX12_isWork 6 = .ok (.getfield 271, 3) := by decide +kernel
theorem dX12_isWork_9 : decode cX12_isWork 9 = .ok (.if_icmp .ge 7, 3) := by decide +kernel
theorem dX12_isWork_12 : decode cX12_isWork 12 = .ok (.iconst 1, 1) := by decide +kernel
theorem dX12_isWork_13 : decode cX12_isWork 13 = .ok (.goto 4, 3) := by decide +kernel
theorem dX12_isWork_16 : decode cX12_isWork 16 = .ok (.iconst 0, 1) := by decide +kernel
theorem dX12_isWork_17 : decode cX12_isWork 17 = .ok (.ireturn, 1) := by decide +kernel
theorem dX12_work_0 : decode cX12_work 0 = .ok (.aload_n 0, 1) := by decide +kernel
theorem dX12_work_1 : decode cX12_work 1 = .ok (.iload_n 1, 1) := by decide +kernel
theorem dX12_work_2 : decode cX12_work 2 = .ok (.invokevirtual 210, 3) := by decide +kernel
theorem dX12_work_5 : decode cX12_work 5 = .ok (.ifCond .ne 5, 3) := by decide +kernel
theorem dX12_work_8 : decode cX12_work 8 = .ok (.iconst (-1), 1) := by decide +kernel
theorem dX12_work_9 : decode cX12_work 9 = .ok (.ireturn, 1) := by decide +kernel
theorem dX12_work_10 : decode cX12_work 10 = .ok (.iload_n 2, 1) := by decide +kernel
theorem dX12_work_11 : decode cX12_work 11 = .ok (.iconst 1, 1) := by decide +kernel
theorem dX12_work_12 : decode cX12_work 12 = .ok (.sipush 9999, 3) := by decide +kernel
theorem dX12_work_15 : decode cX12_work 15 = .ok (.invokestatic 186, 3) := by decide +kernel
theorem dX12_work_18 : decode cX12_work 18 = .ok (.ifCond .eq 13, 3) := by decide +kernel
theorem dX12_work_21 : decode cX12_work 21 = .ok (.iload_n 3, 1) := by decide +kernel
theorem dX12_work_22 : decode cX12_work 22 = .ok (.iconst 0, 1) := by decide +kernel
theorem dX12_work_23 : decode cX12_work 23 = .ok (.bipush 20, 2) := by decide +kernel
theorem dX12_work_25 : decode cX12_work 25 = .ok (.invokestatic 186, 3) := by decide +kernel
theorem dX12_work_28 : decode cX12_work 28 = .ok (.ifCond .ne 6, 3) := by decide +kernel
theorem dX12_work_31 : decode cX12_work 31 = .ok (.bipush (-2), 2) := by decide +kernel
theorem dX12_work_33 : decode cX12_work 33 = .ok (.ireturn, 1) := by decide +kernel
theorem dX12_work_34 : decode cX12_work 34 = .ok (.aload_n 0, 1) := by decide +kernel
theorem dX12_work_35 : decode cX12_work 35 = .ok (.getfield 271, 3) := by decide +kernel
theorem dX12_work_38 : decode cX12_work 38 = .ok (.bipush 8, 2) := by decide +kernel
theorem dX12_work_40 : decode cX12_work 40 = .ok (.if_icmp .ne 6, 3) := by decide +kernel
theorem dX12_work_43 : decode cX12_work 43 = .ok (.bipush (-4), 2) := by decide +kernel
theorem dX12_work_45 : decode cX12_work 45 = .ok (.ireturn, 1) := by decide +kernel
theorem dX12_work_46 : decode cX12_work 46 = .ok (.aload_n 0, 1) := by decide +kernel
theorem dX12_work_47 : decode cX12_work 47 = .ok (.getfield 86, 3) := by decide +kernel
theorem dX12_work_50 : decode cX12_work 50 = .ok (.aload_n 0, 1) := by decide +kernel
theorem dX12_work_51 : decode cX12_work 51 = .ok (.getfield 271, 3) := by decide +kernel
theorem dX12_work_54 : decode cX12_work 54 = .ok (.iload_n 1, 1) := by decide +kernel
theorem dX12_work_55 : decode cX12_work 55 = .ok (.iastore, 1) := by decide +kernel
theorem dX12_work_56 : decode cX12_work 56 = .ok (.aload_n 0, 1) := by decide +kernel
theorem dX12_work_57 : decode cX12_work 57 = .ok (.getfield 89, 3) := by decide +kernel
theorem dX12_work_60 : decode cX12_work 60 = .ok (.aload_n 0, 1) := by decide +kernel
theorem dX12_work_61 : decode cX12_work 61 = .ok (.getfield 271, 3) := by decide +kernel
theorem dX12_work_64 : decode cX12_work 64 = .ok (.iload_n 2, 1) := by decide +kernel
theorem dX12_work_65 : decode cX12_work 65 = .ok (.iastore, 1) := by decide +kernel
theorem dX12_work_66 : decode cX12_work 66 = .ok (.aload_n 0, 1) := by decide +kernel
theorem dX12_work_67 : decode cX12_work 67 = .ok (.getfield 92, 3) := by decide +kernel
theorem dX12_work_70 : decode cX12_work 70 = .ok (.aload_n 0, 1) := by decide +kernel
theorem dX12_work_71 : decode cX12_work 71 = .ok (.getfield 271, 3) := by decide +kernel
theorem dX12_work_74 : decode cX12_work 74 = .ok (.iconst 0, 1) := by decide +kernel
theorem dX12_work_75 : decode cX12_work 75 = .ok (.iastore, 1) := by decide +kernel
theorem dX12_work_76 : decode cX12_work 76 = .ok (.aload_n 0, 1) := by decide +kernel
theorem dX12_work_77 : decode cX12_work 77 = .ok (.getfield 95, 3) := by decide +kernel
theorem dX12_work_80 : decode cX12_work 80 = .ok (.aload_n 0, 1) := by decide +kernel
theorem dX12_work_81 : decode cX12_work 81 = .ok (.getfield 271, 3) := by decide +kernel
theorem dX12_work_84 : decode cX12_work 84 = .ok (.iload_n 3, 1) := by decide +kernel
theorem dX12_work_85 : decode cX12_work 85 = .ok (.iastore, 1) := by decide +kernel
theorem dX12_work_86 : decode cX12_work 86 = .ok (.aload_n 0, 1) := by decide +kernel
theorem dX12_work_87 : decode cX12_work 87 = .ok (.getfield 98, 3) := by decide +kernel
theorem dX12_work_90 : decode cX12_work 90 = .ok (.aload_n 0, 1) := by decide +kernel
theorem dX12_work_91 : decode cX12_work 91 = .ok (.getfield 271, 3) := by decide +kernel
theorem dX12_work_94 : decode cX12_work 94 = .ok (.iconst 0, 1) := by decide +kernel
theorem dX12_work_95 : decode cX12_work 95 = .ok (.iastore, 1) := by decide +kernel
theorem dX12_work_96 : decode cX12_work 96 = .ok (.aload_n 0, 1) := by decide +kernel
theorem dX12_work_97 : decode cX12_work 97 = .ok (.getfield 101, 3) := by decide +kernel
theorem dX12_work_100 : decode cX12_work 100 = .ok (.aload_n 0, 1) := by decide +kernel
theorem dX12_work_101 : decode cX12_work 101 = .ok (.getfield 271, 3) := by decide +kernel
theorem dX12_work_104 : decode cX12_work 104 = .ok (.iconst 0, 1) := by decide +kernel
theorem dX12_work_105 : decode cX12_work 105 = .ok (.iastore, 1) := by decide +kernel
theorem dX12_work_106 : decode cX12_work 106 = .ok (.aload_n 0, 1) := by decide +kernel
theorem dX12_work_107 : decode cX12_work 107 = .ok (.getfield 104, 3) := by decide +kernel
theorem dX12_work_110 : decode cX12_work 110 = .ok (.aload_n 0, 1) := by decide +kernel
theorem dX12_work_111 : decode cX12_work 111 = .ok (.getfield 271, 3) := by decide +kernel
theorem dX12_work_114 : decode cX12_work 114 = .ok (.iconst 0, 1) := by decide +kernel
theorem dX12_work_115 : decode cX12_work 115 = .ok (.iastore, 1) := by decide +kernel
theorem dX12_work_116 : decode cX12_work 116 = .ok (.aload_n 0, 1) := by decide +kernel
theorem dX12_work_117 : decode cX12_work 117 = .ok (.getfield 107, 3) := by decide +kernel
theorem dX12_work_120 : decode cX12_work 120 = .ok (.aload_n 0, 1) := by decide +kernel
theorem dX12_work_121 : decode cX12_work 121 = .ok (.getfield 271, 3) := by decide +kernel
theorem dX12_work_124 : decode cX12_work 124 = .ok (.iconst 0, 1) := by decide +kernel
theorem dX12_work_125 : decode cX12_work 125 = .ok (.iastore, 1) := by decide +kernel
theorem dX12_work_126 : decode cX12_work 126 = .ok (.aload_n 0, 1) := by decide +kernel
theorem dX12_work_127 : decode cX12_work 127 = .ok (.dup, 1) := by decide +kernel
theorem dX12_work_128 : decode cX12_work 128 = .ok (.getfield 271, 3) := by decide +kernel
theorem dX12_work_131 : decode cX12_work 131 = .ok (.iconst 1, 1) := by decide +kernel
theorem dX12_work_132 : decode cX12_work 132 = .ok (.iadd, 1) := by decide +kernel
theorem dX12_work_133 : decode cX12_work 133 = .ok (.putfield 271, 3) := by decide +kernel
theorem dX12_work_136 : decode cX12_work 136 = .ok (.aload_n 0, 1) := by decide +kernel
theorem dX12_work_137 : decode cX12_work 137 = .ok (.getfield 271, 3) := by decide +kernel
theorem dX12_work_140 : decode cX12_work 140 = .ok (.iconst 1, 1) := by decide +kernel
theorem dX12_work_141 : decode cX12_work 141 = .ok (.isub, 1) := by decide +kernel
theorem dX12_work_142 : decode cX12_work 142 = .ok (.ireturn, 1) := by decide +kernel
theorem dX12_hands_0 : decode cX12_hands 0 = .ok (.aload_n 0, 1) := by decide +kernel
theorem dX12_hands_1 : decode cX12_hands 1 = .ok (.iload_n 1, 1) := by decide +kernel
theorem dX12_hands_2 : decode cX12_hands 2 = .ok (.invokevirtual 274, 3) := by decide +kernel
theorem dX12_hands_5 : decode cX12_hands 5 = .ok (.ifCond .ne 5, 3) := by decide +kernel
theorem dX12_hands_8 : decode cX12_hands 8 = .ok (.iconst (-1), 1) := by decide +kernel
theorem dX12_hands_9 : decode cX12_hands 9 = .ok (.ireturn, 1) := by decide +kernel
theorem dX12_hands_10 : decode cX12_hands 10 = .ok (.iload_n 2, 1) := by decide +kernel
theorem dX12_hands_11 : decode cX12_hands 11 = .ok (.iconst 0, 1) := by decide +kernel
theorem dX12_hands_12 : decode cX12_hands 12 = .ok (.iconst 1, 1) := by decide +kernel
theorem dX12_hands_13 : decode cX12_hands 13 = .ok (.invokestatic 186, 3) := by decide +kernel
theorem dX12_hands_16 : decode cX12_hands 16 = .ok (.ifCond .eq 13, 3) := by decide +kernel
theorem dX12_hands_19 : decode cX12_hands 19 = .ok (.iload_n 3, 1) := by decide +kernel
theorem dX12_hands_20 : decode cX12_hands 20 = .ok (.iconst 0, 1) := by decide +kernel
theorem dX12_hands_21 : decode cX12_hands 21 = .ok (.bipush 20, 2) := by decide +kernel
theorem dX12_hands_23 : decode cX12_hands 23 = .ok (.invokestatic 186, 3) := by decide +kernel
theorem dX12_hands_26 : decode cX12_hands 26 = .ok (.ifCond .ne 6, 3) := by decide +kernel
theorem dX12_hands_29 : decode cX12_hands 29 = .ok (.bipush (-2), 2) := by decide +kernel
theorem dX12_hands_31 : decode cX12_hands 31 = .ok (.ireturn, 1) := by decide +kernel
theorem dX12_hands_32 : decode cX12_hands 32 = .ok (.iload_n 2, 1) := by decide +kernel
theorem dX12_hands_33 : decode cX12_hands 33 = .ok (.ifCond .ne 12, 3) := by decide +kernel
theorem dX12_hands_36 : decode cX12_hands 36 = .ok (.aload_n 0, 1) := by decide +kernel
theorem dX12_hands_37 : decode cX12_hands 37 = .ok (.getfield 98, 3) := by decide +kernel
theorem dX12_hands_40 : decode cX12_hands 40 = .ok (.iload_n 1, 1) := by decide +kernel
theorem dX12_hands_41 : decode cX12_hands 41 = .ok (.iaload, 1) := by decide +kernel
theorem dX12_hands_42 : decode cX12_hands 42 = .ok (.goto 9, 3) := by decide +kernel
theorem dX12_hands_45 : decode cX12_hands 45 = .ok (.aload_n 0, 1) := by decide +kernel
theorem dX12_hands_46 : decode cX12_hands 46 = .ok (.getfield 95, 3) := by decide +kernel
theorem dX12_hands_49 : decode cX12_hands 49 = .ok (.iload_n 1, 1) := by decide +kernel
theorem dX12_hands_50 : decode cX12_hands 50 = .ok (.iaload, 1) := by decide +kernel
theorem dX12_hands_51 : decode cX12_hands 51 = .ok (.istore 4, 2) := by decide +kernel
theorem dX12_hands_53 : decode cX12_hands 53 = .ok (.iload_n 2, 1) := by decide +kernel
theorem dX12_hands_54 : decode cX12_hands 54 = .ok (.ifCond .ne 13, 3) := by decide +kernel
theorem dX12_hands_57 : decode cX12_hands 57 = .ok (.aload_n 0, 1) := by decide +kernel
theorem dX12_hands_58 : decode cX12_hands 58 = .ok (.getfield 98, 3) := by decide +kernel
theorem dX12_hands_61 : decode cX12_hands 61 = .ok (.iload_n 1, 1) := by decide +kernel
theorem dX12_hands_62 : decode cX12_hands 62 = .ok (.iload_n 3, 1) := by decide +kernel
theorem dX12_hands_63 : decode cX12_hands 63 = .ok (.iastore, 1) := by decide +kernel
theorem dX12_hands_64 : decode cX12_hands 64 = .ok (.goto 10, 3) := by decide +kernel
theorem dX12_hands_67 : decode cX12_hands 67 = .ok (.aload_n 0, 1) := by decide +kernel
theorem dX12_hands_68 : decode cX12_hands 68 = .ok (.getfield 95, 3) := by decide +kernel
theorem dX12_hands_71 : decode cX12_hands 71 = .ok (.iload_n 1, 1) := by decide +kernel
theorem dX12_hands_72 : decode cX12_hands 72 = .ok (.iload_n 3, 1) := by decide +kernel
theorem dX12_hands_73 : decode cX12_hands 73 = .ok (.iastore, 1) := by decide +kernel
theorem dX12_hands_74 : decode cX12_hands 74 = .ok (.iload 4, 2) := by decide +kernel
theorem dX12_hands_76 : decode cX12_hands 76 = .ok (.ireturn, 1) := by decide +kernel
theorem dX12_row_0 : decode cX12_row 0 = .ok (.aload_n 0, 1) := by decide +kernel
theorem dX12_row_1 : decode cX12_row 1 = .ok (.iconst 0, 1) := by decide +kernel
theorem dX12_row_2 : decode cX12_row 2 = .ok (.putfield 181, 3) := by decide +kernel
theorem dX12_row_5 : decode cX12_row 5 = .ok (.iload_n 2, 1) := by decide +kernel
theorem dX12_row_6 : decode cX12_row 6 = .ok (.invokestatic 239, 3) := by decide +kernel
theorem dX12_row_9 : decode cX12_row 9 = .ok (.ifCond .ne 5, 3) := by decide +kernel
theorem dX12_row_12 : decode cX12_row 12 = .ok (.iconst (-1), 1) := by decide +kernel
theorem dX12_row_13 : decode cX12_row 13 = .ok (.ireturn, 1) := by decide +kernel
theorem dX12_row_14 : decode cX12_row 14 = .ok (.iload_n 1, 1) := by decide +kernel
theorem dX12_row_15 : decode cX12_row 15 = .ok (.iconst 0, 1) := by decide +kernel
theorem dX12_row_16 : decode cX12_row 16 = .ok (.iconst 1, 1) := by decide +kernel
theorem dX12_row_17 : decode cX12_row 17 = .ok (.invokestatic 186, 3) := by decide +kernel
theorem dX12_row_20 : decode cX12_row 20 = .ok (.ifCond .eq 10, 3) := by decide +kernel
theorem dX12_row_23 : decode cX12_row 23 = .ok (.iload_n 3, 1) := by decide +kernel
theorem dX12_row_24 : decode cX12_row 24 = .ok (.invokestatic 242, 3) := by decide +kernel
theorem dX12_row_27 : decode cX12_row 27 = .ok (.ifCond .ne 6, 3) := by decide +kernel
theorem dX12_row_30 : decode cX12_row 30 = .ok (.bipush (-2), 2) := by decide +kernel
theorem dX12_row_32 : decode cX12_row 32 = .ok (.ireturn, 1) := by decide +kernel
theorem dX12_row_33 : decode cX12_row 33 = .ok (.aload_n 0, 1) := by decide +kernel
theorem dX12_row_34 : decode cX12_row 34 = .ok (.iload_n 2, 1) := by decide +kernel
theorem dX12_row_35 : decode cX12_row 35 = .ok (.iload_n 3, 1) := by decide +kernel
theorem dX12_row_36 : decode cX12_row 36 = .ok (.iload 4, 2) := by decide +kernel
theorem dX12_row_38 : decode cX12_row 38 = .ok (.iload 5, 2) := by decide +kernel
theorem dX12_row_40 : decode cX12_row 40 = .ok (.invokevirtual 245, 3) := by decide +kernel
theorem dX12_row_43 : decode cX12_row 43 = .ok (.istore 6, 2) := by decide +kernel
theorem dX12_row_45 : decode cX12_row 45 = .ok (.iload 6, 2) := by decide +kernel
theorem dX12_row_47 : decode cX12_row 47 = .ok (.ifCond .eq 10, 3) := by decide +kernel
theorem dX12_row_50 : decode cX12_row 50 = .ok (.aload_n 0, 1) := by decide +kernel
theorem dX12_row_51 : decode cX12_row 51 = .ok (.iload 6, 2) := by decide +kernel
theorem dX12_row_53 : decode cX12_row 53 = .ok (.invokevirtual 249, 3) := by decide +kernel
theorem dX12_row_56 : decode cX12_row 56 = .ok (.ireturn, 1) := by decide +kernel
theorem dX12_row_57 : decode cX12_row 57 = .ok (.iload_n 1, 1) := by decide +kernel
theorem dX12_row_58 : decode cX12_row 58 = .ok (.ifCond .ne 17, 3) := by decide +kernel
theorem dX12_row_61 : decode cX12_row 61 = .ok (.iload 5, 2) := by decide +kernel
theorem dX12_row_63 : decode cX12_row 63 = .ok (.iconst 1, 1) := by decide +kernel
theorem dX12_row_64 : decode cX12_row 64 = .ok (.bipush 8, 2) := by decide +kernel
theorem dX12_row_66 : decode cX12_row 66 = .ok (.invokestatic 186, 3) := by decide +kernel
theorem dX12_row_69 : decode cX12_row 69 = .ok (.ifCond .ne 16, 3) := by decide +kernel
theorem dX12_row_72 : decode cX12_row 72 = .ok (.goto 10, 3) := by decide +kernel
theorem dX12_row_75 : decode cX12_row 75 = .ok (.iload 5, 2) := by decide +kernel
theorem dX12_row_77 : decode cX12_row 77 = .ok (.bipush 24, 2) := by decide +kernel
theorem dX12_row_79 : decode cX12_row 79 = .ok (.if_icmp .eq 6, 3) := by decide +kernel
theorem dX12_row_82 : decode cX12_row 82 = .ok (.bipush (-2), 2) := by decide +kernel
theorem dX12_row_84 : decode cX12_row 84 = .ok (.ireturn, 1) := by decide +kernel
theorem dX12_row_85 : decode cX12_row 85 = .ok (.bipush 60, 2) := by decide +kernel
theorem dX12_row_87 : decode cX12_row 87 = .ok (.iload_n 2, 1) := by decide +kernel
theorem dX12_row_88 : decode cX12_row 88 = .ok (.imul, 1) := by decide +kernel
theorem dX12_row_89 : decode cX12_row 89 = .ok (.iload 4, 2) := by decide +kernel
theorem dX12_row_91 : decode cX12_row 91 = .ok (.iadd, 1) := by decide +kernel
theorem dX12_row_92 : decode cX12_row 92 = .ok (.istore 7, 2) := by decide +kernel
theorem dX12_row_94 : decode cX12_row 94 = .ok (.iconst 0, 1) := by decide +kernel
theorem dX12_row_95 : decode cX12_row 95 = .ok (.istore 8, 2) := by decide +kernel
theorem dX12_row_97 : decode cX12_row 97 = .ok (.iload 8, 2) := by decide +kernel
theorem dX12_row_99 : decode cX12_row 99 = .ok (.iload 5, 2) := by decide +kernel
theorem dX12_row_101 : decode cX12_row 101 = .ok (.if_icmp .ge 39, 3) := by decide +kernel
theorem dX12_row_104 : decode cX12_row 104 = .ok (.aload_n 0, 1) := by decide +kernel
theorem dX12_row_105 : decode cX12_row 105 = .ok (.getfield 16, 3) := by decide +kernel
theorem dX12_row_108 : decode cX12_row 108 = .ok (.iload 7, 2) := by decide +kernel
theorem dX12_row_110 : decode cX12_row 110 = .ok (.iload 8, 2) := by decide +kernel
theorem dX12_row_112 : decode cX12_row 112 = .ok (.iadd, 1) := by decide +kernel
theorem dX12_row_113 : decode cX12_row 113 = .ok (.iaload, 1) := by decide +kernel
theorem dX12_row_114 : decode cX12_row 114 = .ok (.iconst 0, 1) := by decide +kernel
theorem dX12_row_115 : decode cX12_row 115 = .ok (.iload_n 1, 1) := by decide +kernel
theorem dX12_row_116 : decode cX12_row 116 = .ok (.ifCond .ne 7, 3) := by decide +kernel
theorem dX12_row_119 : decode cX12_row 119 = .ok (.iconst 2, 1) := by decide +kernel
theorem dX12_row_120 : decode cX12_row 120 = .ok (.goto 5, 3) := by decide +kernel
theorem dX12_row_123 : decode cX12_row 123 = .ok (.bipush 100, 2) := by decide +kernel
theorem dX12_row_125 : decode cX12_row 125 = .ok (.invokestatic 186, 3) := by decide +kernel
theorem dX12_row_128 : decode cX12_row 128 = .ok (.ifCond .ne 6, 3) := by decide +kernel
theorem dX12_row_131 : decode cX12_row 131 = .ok (.bipush (-2), 2) := by decide +kernel
theorem dX12_row_133 : decode cX12_row 133 = .ok (.ireturn, 1) := by decide +kernel
theorem dX12_row_134 : decode cX12_row 134 = .ok (.iinc 8 1, 3) := by decide +kernel
theorem dX12_row_137 : decode cX12_row 137 = .ok (.goto (-40), 3) := by decide +kernel
theorem dX12_row_140 : decode cX12_row 140 = .ok (.aload_n 0, 1) := by decide +kernel
theorem dX12_row_141 : decode cX12_row 141 = .ok (.iload_n 1, 1) := by decide +kernel
theorem dX12_row_142 : decode cX12_row 142 = .ok (.ifCond .ne 8, 3) := by decide +kernel
theorem dX12_row_145 : decode cX12_row 145 = .ok (.iload 5, 2) := by decide +kernel
theorem dX12_row_147 : decode cX12_row 147 = .ok (.goto 7, 3) := by decide +kernel
theorem dX12_row_150 : decode cX12_row 150 = .ok (.aload_n 0, 1) := by decide +kernel
theorem dX12_row_151 : decode cX12_row 151 = .ok (.getfield 113, 3) := by decide +kernel
theorem dX12_row_154 : decode cX12_row 154 = .ok (.putfield 113, 3) := by decide +kernel
theorem dX12_row_157 : decode cX12_row 157 = .ok (.iconst 0, 1) := by decide +kernel
theorem dX12_row_158 : decode cX12_row 158 = .ok (.istore 8, 2) := by decide +kernel
theorem dX12_row_160 : decode cX12_row 160 = .ok (.iload 8, 2) := by decide +kernel
theorem dX12_row_162 : decode cX12_row 162 = .ok (.iload 5, 2) := by decide +kernel
theorem dX12_row_164 : decode cX12_row 164 = .ok (.if_icmp .ge 50, 3) := by decide +kernel
theorem dX12_row_167 : decode cX12_row 167 = .ok (.iload_n 1, 1) := by decide +kernel
theorem dX12_row_168 : decode cX12_row 168 = .ok (.ifCond .ne 23, 3) := by decide +kernel
theorem dX12_row_171 : decode cX12_row 171 = .ok (.aload_n 0, 1) := by decide +kernel
theorem dX12_row_172 : decode cX12_row 172 = .ok (.getfield 110, 3) := by decide +kernel
theorem dX12_row_175 : decode cX12_row 175 = .ok (.iload 8, 2) := by decide +kernel
theorem dX12_row_177 : decode cX12_row 177 = .ok (.aload_n 0, 1) := by decide +kernel
theorem dX12_row_178 : decode cX12_row 178 = .ok (.getfield 16, 3) := by decide +kernel
theorem dX12_row_181 : decode cX12_row 181 = .ok (.iload 7, 2) := by decide +kernel
theorem dX12_row_183 : decode cX12_row 183 = .ok (.iload 8, 2) := by decide +kernel
theorem dX12_row_185 : decode cX12_row 185 = .ok (.iadd, 1) := by decide +kernel
theorem dX12_row_186 : decode cX12_row 186 = .ok (.iaload, 1) := by decide +kernel
theorem dX12_row_187 : decode cX12_row 187 = .ok (.iastore, 1) := by decide +kernel
theorem dX12_row_188 : decode cX12_row 188 = .ok (.goto 20, 3) := by decide +kernel
theorem dX12_row_191 : decode cX12_row 191 = .ok (.aload_n 0, 1) := by decide +kernel
theorem dX12_row_192 : decode cX12_row 192 = .ok (.getfield 122, 3) := by decide +kernel
theorem dX12_row_195 : decode cX12_row 195 = .ok (.iload 8, 2) := by decide +kernel
theorem dX12_row_197 : decode cX12_row 197 = .ok (.aload_n 0, 1) := by decide +kernel
theorem dX12_row_198 : decode cX12_row 198 = .ok (.getfield 16, 3) := by decide +kernel
theorem dX12_row_201 : decode cX12_row 201 = .ok (.iload 7, 2) := by decide +kernel
theorem dX12_row_203 : decode cX12_row 203 = .ok (.iload 8, 2) := by decide +kernel
theorem dX12_row_205 : decode cX12_row 205 = .ok (.iadd, 1) := by decide +kernel
theorem dX12_row_206 : decode cX12_row 206 = .ok (.iaload, 1) := by decide +kernel
theorem dX12_row_207 : decode cX12_row 207 = .ok (.iastore, 1) := by decide +kernel
theorem dX12_row_208 : decode cX12_row 208 = .ok (.iinc 8 1, 3) := by decide +kernel
theorem dX12_row_211 : decode cX12_row 211 = .ok (.goto (-51), 3) := by decide +kernel
theorem dX12_row_214 : decode cX12_row 214 = .ok (.iload 5, 2) := by decide +kernel
theorem dX12_row_216 : decode cX12_row 216 = .ok (.ireturn, 1) := by decide +kernel
theorem dX12_week_0 : decode cX12_week 0 = .ok (.aload_n 0, 1) := by decide +kernel
theorem dX12_week_1 : decode cX12_week 1 = .ok (.getfield 110, 3) := by decide +kernel
theorem dX12_week_4 : decode cX12_week 4 = .ok (.aload_n 0, 1) := by decide +kernel
theorem dX12_week_5 : decode cX12_week 5 = .ok (.getfield 277, 3) := by decide +kernel
theorem dX12_week_8 : decode cX12_week 8 = .ok (.aload_n 0, 1) := by decide +kernel
theorem dX12_week_9 : decode cX12_week 9 = .ok (.getfield 113, 3) := by decide +kernel
theorem dX12_week_12 : decode cX12_week 12 = .ok (.irem, 1) := by decide +kernel
theorem dX12_week_13 : decode cX12_week 13 = .ok (.iaload, 1) := by decide +kernel
theorem dX12_week_14 : decode cX12_week 14 = .ok (.istore_n 1, 1) := by decide +kernel
theorem dX12_week_15 : decode cX12_week 15 = .ok (.iconst 0, 1) := by decide +kernel
theorem dX12_week_16 : decode cX12_week 16 = .ok (.istore_n 2, 1) := by decide +kernel
theorem dX12_week_17 : decode cX12_week 17 = .ok (.iconst 0, 1) := by decide +kernel
theorem dX12_week_18 : decode cX12_week 18 = .ok (.istore_n 3, 1) := by decide +kernel
theorem dX12_week_19 : decode cX12_week 19 = .ok (.iload_n 3, 1) := by decide +kernel
theorem dX12_week_20 : decode cX12_week 20 = .ok (.aload_n 0, 1) := by decide +kernel
theorem dX12_week_21 : decode cX12_week 21 = .ok (.getfield 271, 3) := by decide +kernel
theorem dX12_week_24 : decode cX12_week 24 = .ok (.if_icmp .ge 192, 3) := by decide +kernel
theorem dX12_week_27 : decode cX12_week 27 = .ok (.aload_n 0, 1) := by decide +kernel
theorem dX12_week_28 : decode cX12_week 28 = .ok (.getfield 92, 3) := by decide +kernel
theorem dX12_week_31 : decode cX12_week 31 = .ok (.iload_n 3, 1) := by decide +kernel
theorem dX12_week_32 : decode cX12_week 32 = .ok (.iaload, 1) := by decide +kernel
theorem dX12_week_33 : decode cX12_week 33 = .ok (.aload_n 0, 1) := by decide +kernel
theorem dX12_week_34 : decode cX12_week 34 = .ok (.getfield 89, 3) := by decide +kernel
theorem dX12_week_37 : decode cX12_week 37 = .ok (.iload_n 3, 1) := by decide +kernel
theorem dX12_week_38 : decode cX12_week 38 = .ok (.iaload, 1) := by decide +kernel
theorem dX12_week_39 : decode cX12_week 39 = .ok (.if_icmp .lt 6, 3) := by decide +kernel
theorem dX12_week_42 : decode cX12_week 42 = .ok (.goto 168, 3) := by decide +kernel
theorem dX12_week_45 : decode cX12_week 45 = .ok (.aload_n 0, 1) := by decide +kernel
theorem dX12_week_46 : decode cX12_week 46 = .ok (.getfield 98, 3) := by decide +kernel
theorem dX12_week_49 : decode cX12_week 49 = .ok (.iload_n 3, 1) := by decide +kernel
theorem dX12_week_50 : decode cX12_week 50 = .ok (.iaload, 1) := by decide +kernel
theorem dX12_week_51 : decode cX12_week 51 = .ok (.aload_n 0, 1) := by decide +kernel
theorem dX12_week_52 : decode cX12_week 52 = .ok (.getfield 95, 3) := by decide +kernel
theorem dX12_week_55 : decode cX12_week 55 = .ok (.iload_n 3, 1) := by decide +kernel
theorem dX12_week_56 : decode cX12_week 56 = .ok (.iaload, 1) := by decide +kernel
theorem dX12_week_57 : decode cX12_week 57 = .ok (.if_icmp .ge 12, 3) := by decide +kernel
theorem dX12_week_60 : decode cX12_week 60 = .ok (.aload_n 0, 1) := by decide +kernel
theorem dX12_week_61 : decode cX12_week 61 = .ok (.getfield 98, 3) := by decide +kernel
theorem dX12_week_64 : decode cX12_week 64 = .ok (.iload_n 3, 1) := by decide +kernel
theorem dX12_week_65 : decode cX12_week 65 = .ok (.iaload, 1) := by decide +kernel
theorem dX12_week_66 : decode cX12_week 66 = .ok (.goto 9, 3) := by decide +kernel
theorem dX12_week_69 : decode cX12_week 69 = .ok (.aload_n 0, 1) := by decide +kernel
theorem dX12_week_70 : decode cX12_week 70 = .ok (.getfield 95, 3) := by decide +kernel
theorem dX12_week_73 : decode cX12_week 73 = .ok (.iload_n 3, 1) := by decide +kernel
theorem dX12_week_74 : decode cX12_week 74 = .ok (.iaload, 1) := by decide +kernel
theorem dX12_week_75 : decode cX12_week 75 = .ok (.istore 4, 2) := by decide +kernel
theorem dX12_week_77 : decode cX12_week 77 = .ok (.iload 4, 2) := by decide +kernel
theorem dX12_week_79 : decode cX12_week 79 = .ok (.iload_n 1, 1) := by decide +kernel
theorem dX12_week_80 : decode cX12_week 80 = .ok (.ifCond .ne 7, 3) := by decide +kernel
theorem dX12_week_83 : decode cX12_week 83 = .ok (.iconst 4, 1) := by decide +kernel
theorem dX12_week_84 : decode cX12_week 84 = .ok (.goto 13, 3) := by decide +kernel
theorem dX12_week_87 : decode cX12_week 87 = .ok (.iload_n 1, 1) := by decide +kernel
theorem dX12_week_88 : decode cX12_week 88 = .ok (.iconst 1, 1) := by decide +kernel
theorem dX12_week_89 : decode cX12_week 89 = .ok (.if_icmp .ne 7, 3) := by decide +kernel
theorem dX12_week_92 : decode cX12_week 92 = .ok (.iconst 2, 1) := by decide +kernel
theorem dX12_week_93 : decode cX12_week 93 = .ok (.goto 4, 3) := by decide +kernel
theorem dX12_week_96 : decode cX12_week 96 = .ok (.iconst 0, 1) := by decide +kernel
theorem dX12_week_97 : decode cX12_week 97 = .ok (.imul, 1) := by decide +kernel
theorem dX12_week_98 : decode cX12_week 98 = .ok (.istore 5, 2) := by decide +kernel
theorem dX12_week_100 : decode cX12_week 100 = .ok (.aload_n 0, 1) := by decide +kernel
theorem dX12_week_101 : decode cX12_week 101 = .ok (.getfield 101, 3) := by decide +kernel
theorem dX12_week_104 : decode cX12_week 104 = .ok (.iload_n 3, 1) := by decide +kernel
theorem dX12_week_105 : decode cX12_week 105 = .ok (.dup2, 1) := by decide +kernel
theorem dX12_week_106 : decode cX12_week 106 = .ok (.iaload, 1) := by decide +kernel
theorem dX12_week_107 : decode cX12_week 107 = .ok (.iconst 4, 1) := by decide +kernel
theorem dX12_week_108 : decode cX12_week 108 = .ok (.aload_n 0, 1) := by decide +kernel
theorem dX12_week_109 : decode cX12_week 109 = .ok (.getfield 98, 3) := by decide +kernel
theorem dX12_week_112 : decode cX12_week 112 = .ok (.iload_n 3, 1) := by decide +kernel
theorem dX12_week_113 : decode cX12_week 113 = .ok (.iaload, 1) := by decide +kernel
theorem dX12_week_114 : decode cX12_week 114 = .ok (.iload 4, 2) := by decide +kernel
theorem dX12_week_116 : decode cX12_week 116 = .ok (.isub, 1) := by decide +kernel
theorem dX12_week_117 : decode cX12_week 117 = .ok (.imul, 1) := by decide +kernel
theorem dX12_week_118 : decode cX12_week 118 = .ok (.iadd, 1) := by decide +kernel
theorem dX12_week_119 : decode cX12_week 119 = .ok (.iastore, 1) := by decide +kernel
theorem dX12_week_120 : decode cX12_week 120 = .ok (.aload_n 0, 1) := by decide +kernel
theorem dX12_week_121 : decode cX12_week 121 = .ok (.getfield 104, 3) := by decide +kernel
theorem dX12_week_124 : decode cX12_week 124 = .ok (.iload_n 3, 1) := by decide +kernel
theorem dX12_week_125 : decode cX12_week 125 = .ok (.dup2, 1) := by decide +kernel
theorem dX12_week_126 : decode cX12_week 126 = .ok (.iaload, 1) := by decide +kernel
theorem dX12_week_127 : decode cX12_week 127 = .ok (.iconst 4, 1) := by decide +kernel
theorem dX12_week_128 : decode cX12_week 128 = .ok (.iload 4, 2) := by decide +kernel
theorem dX12_week_130 : decode cX12_week 130 = .ok (.imul, 1) := by decide +kernel
theorem dX12_week_131 : decode cX12_week 131 = .ok (.iload 5, 2) := by decide +kernel
theorem dX12_week_133 : decode cX12_week 133 = .ok (.isub, 1) := by decide +kernel
theorem dX12_week_134 : decode cX12_week 134 = .ok (.iadd, 1) := by decide +kernel
theorem dX12_week_135 : decode cX12_week 135 = .ok (.iastore, 1) := by decide +kernel
theorem dX12_week_136 : decode cX12_week 136 = .ok (.iload 5, 2) := by decide +kernel
theorem dX12_week_138 : decode cX12_week 138 = .ok (.aload_n 0, 1) := by decide +kernel
theorem dX12_week_139 : decode cX12_week 139 = .ok (.getfield 89, 3) := by decide +kernel
theorem dX12_week_142 : decode cX12_week 142 = .ok (.iload_n 3, 1) := by decide +kernel
theorem dX12_week_143 : decode cX12_week 143 = .ok (.iaload, 1) := by decide +kernel
theorem dX12_week_144 : decode cX12_week 144 = .ok (.aload_n 0, 1) := by decide +kernel
theorem dX12_week_145 : decode cX12_week 145 = .ok (.getfield 92, 3) := by decide +kernel
theorem dX12_week_148 : decode cX12_week 148 = .ok (.iload_n 3, 1) := by decide +kernel
theorem dX12_week_149 : decode cX12_week 149 = .ok (.iaload, 1) := by decide +kernel
theorem dX12_week_150 : decode cX12_week 150 = .ok (.isub, 1) := by decide +kernel
theorem dX12_week_151 : decode cX12_week 151 = .ok (.if_icmp .ge 8, 3) := by decide +kernel
theorem dX12_week_154 : decode cX12_week 154 = .ok (.iload 5, 2) := by decide +kernel
theorem dX12_week_156 : decode cX12_week 156 = .ok (.goto 16, 3) := by decide +kernel
theorem dX12_week_159 : decode cX12_week 159 = .ok (.aload_n 0, 1) := by decide +kernel
theorem dX12_week_160 : decode cX12_week 160 = .ok (.getfield 89, 3) := by decide +kernel
theorem dX12_week_163 : decode cX12_week 163 = .ok (.iload_n 3, 1) := by decide +kernel
theorem dX12_week_164 : decode cX12_week 164 = .ok (.iaload, 1) := by decide +kernel
theorem dX12_week_165 : decode cX12_week 165 = .ok (.aload_n 0, 1) := by decide +kernel
theorem dX12_week_166 : decode cX12_week 166 = .ok (.getfield 92, 3) := by decide +kernel
theorem dX12_week_169 : decode cX12_week 169 = .ok (.iload_n 3, 1) := by decide +kernel
theorem dX12_week_170 : decode cX12_week 170 = .ok (.iaload, 1) := by decide +kernel
theorem dX12_week_171 : decode cX12_week 171 = .ok (.isub, 1) := by decide +kernel
theorem dX12_week_172 : decode cX12_week 172 = .ok (.istore 5, 2) := by decide +kernel
theorem dX12_week_174 : decode cX12_week 174 = .ok (.aload_n 0, 1) := by decide +kernel
theorem dX12_week_175 : decode cX12_week 175 = .ok (.getfield 92, 3) := by decide +kernel
theorem dX12_week_178 : decode cX12_week 178 = .ok (.iload_n 3, 1) := by decide +kernel
theorem dX12_week_179 : decode cX12_week 179 = .ok (.dup2, 1) := by decide +kernel
theorem dX12_week_180 : decode cX12_week 180 = .ok (.iaload, 1) := by decide +kernel
theorem dX12_week_181 : decode cX12_week 181 = .ok (.iload 5, 2) := by decide +kernel
theorem dX12_week_183 : decode cX12_week 183 = .ok (.iadd, 1) := by decide +kernel
theorem dX12_week_184 : decode cX12_week 184 = .ok (.iastore, 1) := by decide +kernel
theorem dX12_week_185 : decode cX12_week 185 = .ok (.aload_n 0, 1) := by decide +kernel
theorem dX12_week_186 : decode cX12_week 186 = .ok (.getfield 107, 3) := by decide +kernel
theorem dX12_week_189 : decode cX12_week 189 = .ok (.iload_n 3, 1) := by decide +kernel
theorem dX12_week_190 : decode cX12_week 190 = .ok (.dup2, 1) := by decide +kernel
theorem dX12_week_191 : decode cX12_week 191 = .ok (.iaload, 1) := by decide +kernel
theorem dX12_week_192 : decode cX12_week 192 = .ok (.iload 5, 2) := by decide +kernel
theorem dX12_week_194 : decode cX12_week 194 = .ok (.bipush 9, 2) := by decide +kernel
theorem dX12_week_196 : decode cX12_week 196 = .ok (.iadd, 1) := by decide +kernel
theorem dX12_week_197 : decode cX12_week 197 = .ok (.bipush 10, 2) := by decide +kernel
theorem dX12_week_199 : decode cX12_week 199 = .ok (.idiv, 1) := by decide +kernel
theorem dX12_week_200 : decode cX12_week 200 = .ok (.bipush 10, 2) := by decide +kernel
theorem dX12_week_202 : decode cX12_week 202 = .ok (.imul, 1) := by decide +kernel
theorem dX12_week_203 : decode cX12_week 203 = .ok (.iadd, 1) := by decide +kernel
theorem dX12_week_204 : decode cX12_week 204 = .ok (.iastore, 1) := by decide +kernel
theorem dX12_week_205 : decode cX12_week 205 = .ok (.iload_n 2, 1) := by decide +kernel
theorem dX12_week_206 : decode cX12_week 206 = .ok (.iload 5, 2) := by decide +kernel
theorem dX12_week_208 : decode cX12_week 208 = .ok (.iadd, 1) := by decide +kernel
theorem dX12_week_209 : decode cX12_week 209 = .ok (.istore_n 2, 1) := by decide +kernel
theorem dX12_week_210 : decode cX12_week 210 = .ok (.iinc 3 1, 3) := by decide +kernel
theorem dX12_week_213 : decode cX12_week 213 = .ok (.goto (-194), 3) := by decide +kernel
theorem dX12_week_216 : decode cX12_week 216 = .ok (.aload_n 0, 1) := by decide +kernel
theorem dX12_week_217 : decode cX12_week 217 = .ok (.dup, 1) := by decide +kernel
theorem dX12_week_218 : decode cX12_week 218 = .ok (.getfield 277, 3) := by decide +kernel
theorem dX12_week_221 : decode cX12_week 221 = .ok (.iconst 1, 1) := by decide +kernel
theorem dX12_week_222 : decode cX12_week 222 = .ok (.iadd, 1) := by decide +kernel
theorem dX12_week_223 : decode cX12_week 223 = .ok (.putfield 277, 3) := by decide +kernel
theorem dX12_week_226 : decode cX12_week 226 = .ok (.iload_n 2, 1) := by decide +kernel
theorem dX12_week_227 : decode cX12_week 227 = .ok (.ireturn, 1) := by decide +kernel
theorem dX12_ofWork_0 : decode cX12_ofWork 0 = .ok (.aload_n 0, 1) := by decide +kernel
theorem dX12_ofWork_1 : decode cX12_ofWork 1 = .ok (.iload_n 1, 1) := by decide +kernel
theorem dX12_ofWork_2 : decode cX12_ofWork 2 = .ok (.invokevirtual 274, 3) := by decide +kernel
theorem dX12_ofWork_5 : decode cX12_ofWork 5 = .ok (.ifCond .ne 5, 3) := by decide +kernel
theorem dX12_ofWork_8 : decode cX12_ofWork 8 = .ok (.iconst (-1), 1) := by decide +kernel
theorem dX12_ofWork_9 : decode cX12_ofWork 9 = .ok (.ireturn, 1) := by decide +kernel
theorem dX12_ofWork_10 : decode cX12_ofWork 10 = .ok (.iload_n 2, 1) := by decide +kernel
theorem dX12_ofWork_11 : decode cX12_ofWork 11 = .ok (.tableswitch 79 0 5 #[37, 44, 51, 58, 65, 72], 37) := by decide +kernel
theorem dX12_ofWork_48 : decode cX12_ofWork 48 = .ok (.aload_n 0, 1) := by decide +kernel
theorem dX12_ofWork_49 : decode cX12_ofWork 49 = .ok (.getfield 86, 3) := by decide +kernel
theorem dX12_ofWork_52 : decode cX12_ofWork 52 = .ok (.iload_n 1, 1) := by decide +kernel
theorem dX12_ofWork_53 : decode cX12_ofWork 53 = .ok (.iaload, 1) := by decide +kernel
theorem dX12_ofWork_54 : decode cX12_ofWork 54 = .ok (.ireturn, 1) := by decide +kernel
theorem dX12_ofWork_55 : decode cX12_ofWork 55 = .ok (.aload_n 0, 1) := by decide +kernel
theorem dX12_ofWork_56 : decode cX12_ofWork 56 = .ok (.getfield 89, 3) := by decide +kernel
theorem dX12_ofWork_59 : decode cX12_ofWork 59 = .ok (.iload_n 1, 1) := by decide +kernel
theorem dX12_ofWork_60 : decode cX12_ofWork 60 = .ok (.iaload, 1) := by decide +kernel
theorem dX12_ofWork_61 : decode cX12_ofWork 61 = .ok (.ireturn, 1) := by decide +kernel
theorem dX12_ofWork_62 : decode cX12_ofWork 62 = .ok (.aload_n 0, 1) := by decide +kernel
theorem dX12_ofWork_63 : decode cX12_ofWork 63 = .ok (.getfield 92, 3) := by decide +kernel
theorem dX12_ofWork_66 : decode cX12_ofWork 66 = .ok (.iload_n 1, 1) := by decide +kernel
theorem dX12_ofWork_67 : decode cX12_ofWork 67 = .ok (.iaload, 1) := by decide +kernel
theorem dX12_ofWork_68 : decode cX12_ofWork 68 = .ok (.ireturn, 1) := by decide +kernel
theorem dX12_ofWork_69 : decode cX12_ofWork 69 = .ok (.aload_n 0, 1) := by decide +kernel
theorem dX12_ofWork_70 : decode cX12_ofWork 70 = .ok (.getfield 101, 3) := by decide +kernel
theorem dX12_ofWork_73 : decode cX12_ofWork 73 = .ok (.iload_n 1, 1) := by decide +kernel
theorem dX12_ofWork_74 : decode cX12_ofWork 74 = .ok (.iaload, 1) := by decide +kernel
theorem dX12_ofWork_75 : decode cX12_ofWork 75 = .ok (.ireturn, 1) := by decide +kernel
theorem dX12_ofWork_76 : decode cX12_ofWork 76 = .ok (.aload_n 0, 1) := by decide +kernel
theorem dX12_ofWork_77 : decode cX12_ofWork 77 = .ok (.getfield 104, 3) := by decide +kernel
theorem dX12_ofWork_80 : decode cX12_ofWork 80 = .ok (.iload_n 1, 1) := by decide +kernel
theorem dX12_ofWork_81 : decode cX12_ofWork 81 = .ok (.iaload, 1) := by decide +kernel
theorem dX12_ofWork_82 : decode cX12_ofWork 82 = .ok (.ireturn, 1) := by decide +kernel
theorem dX12_ofWork_83 : decode cX12_ofWork 83 = .ok (.aload_n 0, 1) := by decide +kernel
theorem dX12_ofWork_84 : decode cX12_ofWork 84 = .ok (.getfield 107, 3) := by decide +kernel
theorem dX12_ofWork_87 : decode cX12_ofWork 87 = .ok (.iload_n 1, 1) := by decide +kernel
theorem dX12_ofWork_88 : decode cX12_ofWork 88 = .ok (.iaload, 1) := by decide +kernel
theorem dX12_ofWork_89 : decode cX12_ofWork 89 = .ok (.ireturn, 1) := by decide +kernel
theorem dX12_ofWork_90 : decode cX12_ofWork 90 = .ok (.bipush (-2), 2) := by decide +kernel
theorem dX12_ofWork_92 : decode cX12_ofWork 92 = .ok (.ireturn, 1) := by decide +kernel
theorem dX12_level_0 : decode cX12_level 0 = .ok (.iload_n 1, 1) := by decide +kernel
theorem dX12_level_1 : decode cX12_level 1 = .ok (.iconst 0, 1) := by decide +kernel
theorem dX12_level_2 : decode cX12_level 2 = .ok (.iconst 4, 1) := by decide +kernel
theorem dX12_level_3 : decode cX12_level 3 = .ok (.invokestatic 186, 3) := by decide +kernel
theorem dX12_level_6 : decode cX12_level 6 = .ok (.ifCond .eq 23, 3) := by decide +kernel
theorem dX12_level_9 : decode cX12_level 9 = .ok (.iload_n 2, 1) := by decide +kernel
theorem dX12_level_10 : decode cX12_level 10 = .ok (.iconst 0, 1) := by decide +kernel
theorem dX12_level_11 : decode cX12_level 11 = .ok (.bipush 99, 2) := by decide +kernel
theorem dX12_level_13 : decode cX12_level 13 = .ok (.invokestatic 186, 3) := by decide +kernel
theorem dX12_level_16 : decode cX12_level 16 = .ok (.ifCond .eq 13, 3) := by decide +kernel
theorem dX12_level_19 : decode cX12_level 19 = .ok (.iload_n 3, 1) := by decide +kernel
theorem dX12_level_20 : decode cX12_level 20 = .ok (.iconst 1, 1) := by decide +kernel
theorem dX12_level_21 : decode cX12_level 21 = .ok (.bipush 99, 2) := by decide +kernel
theorem dX12_level_23 : decode cX12_level 23 = .ok (.invokestatic 186, 3) := by decide +kernel
theorem dX12_level_26 : decode cX12_level 26 = .ok (.ifCond .ne 6, 3) := by decide +kernel
theorem dX12_level_29 : decode cX12_level 29 = .ok (.bipush (-2), 2) := by decide +kernel
theorem dX12_level_31 : decode cX12_level 31 = .ok (.ireturn, 1) := by decide +kernel
theorem dX12_level_32 : decode cX12_level 32 = .ok (.aload_n 0, 1) := by decide +kernel
theorem dX12_level_33 : decode cX12_level 33 = .ok (.getfield 116, 3) := by decide +kernel
theorem dX12_level_36 : decode cX12_level 36 = .ok (.iload_n 1, 1) := by decide +kernel
theorem dX12_level_37 : decode cX12_level 37 = .ok (.iaload, 1) := by decide +kernel
theorem dX12_level_38 : decode cX12_level 38 = .ok (.iload_n 2, 1) := by decide +kernel
theorem dX12_level_39 : decode cX12_level 39 = .ok (.if_icmp .ne 17, 3) := by decide +kernel
theorem dX12_level_42 : decode cX12_level 42 = .ok (.aload_n 0, 1) := by decide +kernel
theorem dX12_level_43 : decode cX12_level 43 = .ok (.getfield 119, 3) := by decide +kernel
theorem dX12_level_46 : decode cX12_level 46 = .ok (.iload_n 1, 1) := by decide +kernel
theorem dX12_level_47 : decode cX12_level 47 = .ok (.iaload, 1) := by decide +kernel
theorem dX12_level_48 : decode cX12_level 48 = .ok (.iload_n 3, 1) := by decide +kernel
theorem dX12_level_49 : decode cX12_level 49 = .ok (.if_icmp .ne 7, 3) := by decide +kernel
theorem dX12_level_52 : decode cX12_level 52 = .ok (.iconst 0, 1) := by decide +kernel
theorem dX12_level_53 : decode cX12_level 53 = .ok (.goto 4, 3) := by decide +kernel
theorem dX12_level_56 : decode cX12_level 56 = .ok (.iconst 1, 1) := by decide +kernel
theorem dX12_level_57 : decode cX12_level 57 = .ok (.istore 4, 2) := by decide +kernel
theorem dX12_level_59 : decode cX12_level 59 = .ok (.aload_n 0, 1) := by decide +kernel
theorem dX12_level_60 : decode cX12_level 60 = .ok (.getfield 116, 3) := by decide +kernel
theorem dX12_level_63 : decode cX12_level 63 = .ok (.iload_n 1, 1) := by decide +kernel
theorem dX12_level_64 : decode cX12_level 64 = .ok (.iload_n 2, 1) := by decide +kernel
theorem dX12_level_65 : decode cX12_level 65 = .ok (.iastore, 1) := by decide +kernel
theorem dX12_level_66 : decode cX12_level 66 = .ok (.aload_n 0, 1) := by decide +kernel
theorem dX12_level_67 : decode cX12_level 67 = .ok (.getfield 119, 3) := by decide +kernel
theorem dX12_level_70 : decode cX12_level 70 = .ok (.iload_n 1, 1) := by decide +kernel
theorem dX12_level_71 : decode cX12_level 71 = .ok (.iload_n 3, 1) := by decide +kernel
theorem dX12_level_72 : decode cX12_level 72 = .ok (.iastore, 1) := by decide +kernel
theorem dX12_level_73 : decode cX12_level 73 = .ok (.iload 4, 2) := by decide +kernel
theorem dX12_level_75 : decode cX12_level 75 = .ok (.ireturn, 1) := by decide +kernel
theorem dX12_toldBy_0 : decode cX12_toldBy 0 = .ok (.aload_n 0, 1) := by decide +kernel
theorem dX12_toldBy_1 : decode cX12_toldBy 1 = .ok (.getfield 107, 3) := by decide +kernel
theorem dX12_toldBy_4 : decode cX12_toldBy 4 = .ok (.iload_n 1, 1) := by decide +kernel
theorem dX12_toldBy_5 : decode cX12_toldBy 5 = .ok (.iaload, 1) := by decide +kernel
theorem dX12_toldBy_6 : decode cX12_toldBy 6 = .ok (.i2l, 1) := by decide +kernel
theorem dX12_toldBy_7 : decode cX12_toldBy 7 = .ok (.lstore_n 3, 1) := by decide +kernel
theorem dX12_toldBy_8 : decode cX12_toldBy 8 = .ok (.iconst 0, 1) := by decide +kernel
theorem dX12_toldBy_9 : decode cX12_toldBy 9 = .ok (.istore 5, 2) := by decide +kernel
theorem dX12_toldBy_11 : decode cX12_toldBy 11 = .ok (.iload 5, 2) := by decide +kernel
theorem dX12_toldBy_13 : decode cX12_toldBy 13 = .ok (.iload_n 2, 1) := by decide +kernel
theorem dX12_toldBy_14 : decode cX12_toldBy 14 = .ok (.if_icmp .gt 55, 3) := by decide +kernel
theorem dX12_toldBy_17 : decode cX12_toldBy 17 = .ok (.lload_n 3, 1) := by decide +kernel
theorem dX12_toldBy_18 : decode cX12_toldBy 18 = .ok (.aload_n 0, 1) := by decide +kernel
theorem dX12_toldBy_19 : decode cX12_toldBy 19 = .ok (.getfield 116, 3) := by decide +kernel
theorem dX12_toldBy_22 : decode cX12_toldBy 22 = .ok (.iload 5, 2) := by decide +kernel
theorem dX12_toldBy_24 : decode cX12_toldBy 24 = .ok (.iaload, 1) := by decide +kernel
theorem dX12_toldBy_25 : decode cX12_toldBy 25 = .ok (.i2l, 1) := by decide +kernel
theorem dX12_toldBy_26 : decode cX12_toldBy 26 = .ok (.lmul, 1) := by decide +kernel
theorem dX12_toldBy_27 : decode cX12_toldBy 27 = .ok (.lstore 6, 2) := by decide +kernel
theorem dX12_toldBy_29 : decode cX12_toldBy 29 = .ok (.lload 6, 2) := by decide +kernel
theorem dX12_toldBy_31 : decode cX12_toldBy 31 = .ok (.aload_n 0, 1) := by decide +kernel
theorem dX12_toldBy_32 : decode cX12_toldBy 32 = .ok (.getfield 119, 3) := by decide +kernel
theorem dX12_toldBy_35 : decode cX12_toldBy 35 = .ok (.iload 5, 2) := by decide +kernel
theorem dX12_toldBy_37 : decode cX12_toldBy 37 = .ok (.iaload, 1) := by decide +kernel
theorem dX12_toldBy_38 : decode cX12_toldBy 38 = .ok (.i2l, 1) := by decide +kernel
theorem dX12_toldBy_39 : decode cX12_toldBy 39 = .ok (.ldiv, 1) := by decide +kernel
theorem dX12_toldBy_40 : decode cX12_toldBy 40 = .ok (.lload 6, 2) := by decide +kernel
theorem dX12_toldBy_42 : decode cX12_toldBy 42 = .ok (.aload_n 0, 1) := by decide +kernel
theorem dX12_toldBy_43 : decode cX12_toldBy 43 = .ok (.getfield 119, 3) := by decide +kernel
theorem dX12_toldBy_46 : decode cX12_toldBy 46 = .ok (.iload 5, 2) := by decide +kernel
theorem dX12_toldBy_48 : decode cX12_toldBy 48 = .ok (.iaload, 1) := by decide +kernel
theorem dX12_toldBy_49 : decode cX12_toldBy 49 = .ok (.i2l, 1) := by decide +kernel
theorem dX12_toldBy_50 : decode cX12_toldBy 50 = .ok (.lrem, 1) := by decide +kernel
theorem dX12_toldBy_51 : decode cX12_toldBy 51 = .ok (.lconst 0, 1) := by decide +kernel
theorem dX12_toldBy_52 : decode cX12_toldBy 52 = .ok (.lcmp, 1) := by decide +kernel
theorem dX12_toldBy_53 : decode cX12_toldBy 53 = .ok (.ifCond .le 7, 3) := by decide +kernel
theorem dX12_toldBy_56 : decode cX12_toldBy 56 = .ok (.lconst 1, 1) := by decide +kernel
theorem dX12_toldBy_57 : decode cX12_toldBy 57 = .ok (.goto 4, 3) := by decide +kernel
theorem dX12_toldBy_60 : decode cX12_toldBy 60 = .ok (.lconst 0, 1) := by decide +kernel
theorem dX12_toldBy_61 : decode cX12_toldBy 61 = .ok (.ladd, 1) := by decide +kernel
theorem dX12_toldBy_62 : decode cX12_toldBy 62 = .ok (.lstore_n 3, 1) := by decide +kernel
theorem dX12_toldBy_63 : decode cX12_toldBy 63 = .ok (.iinc 5 1, 3) := by decide +kernel
theorem dX12_toldBy_66 : decode cX12_toldBy 66 = .ok (.goto (-55), 3) := by decide +kernel
theorem dX12_toldBy_69 : decode cX12_toldBy 69 = .ok (.lload_n 3, 1) := by decide +kernel
theorem dX12_toldBy_70 : decode cX12_toldBy 70 = .ok (.lreturn, 1) := by decide +kernel
theorem dX12_told_0 : decode cX12_told 0 = .ok (.aload_n 0, 1) := by decide +kernel
theorem dX12_told_1 : decode cX12_told 1 = .ok (.iload_n 1, 1) := by decide +kernel
theorem dX12_told_2 : decode cX12_told 2 = .ok (.invokevirtual 274, 3) := by decide +kernel
theorem dX12_told_5 : decode cX12_told 5 = .ok (.ifCond .eq 21, 3) := by decide +kernel
theorem dX12_told_8 : decode cX12_told 8 = .ok (.iload_n 2, 1) := by decide +kernel
theorem dX12_told_9 : decode cX12_told 9 = .ok (.iconst (-1), 1) := by decide +kernel
theorem dX12_told_10 : decode cX12_told 10 = .ok (.iconst 4, 1) := by decide +kernel
theorem dX12_told_11 : decode cX12_told 11 = .ok (.invokestatic 186, 3) := by decide +kernel
theorem dX12_told_14 : decode cX12_told 14 = .ok (.ifCond .eq 12, 3) := by decide +kernel
theorem dX12_told_17 : decode cX12_told 17 = .ok (.aload_n 0, 1) := by decide +kernel
theorem dX12_told_18 : decode cX12_told 18 = .ok (.iload_n 1, 1) := by decide +kernel
theorem dX12_told_19 : decode cX12_told 19 = .ok (.iload_n 2, 1) := by decide +kernel
theorem dX12_told_20 : decode cX12_told 20 = .ok (.invokevirtual 280, 3) := by decide +kernel
theorem dX12_told_23 : decode cX12_told 23 = .ok (.goto 6, 3) := by decide +kernel
theorem dX12_told_26 : decode cX12_told 26 = .ok (.ldc2_w 184, 3) := by decide +kernel
theorem dX12_told_29 : decode cX12_told 29 = .ok (.lreturn, 1) := by decide +kernel
theorem dX12_grew_0 : decode cX12_grew 0 = .ok (.aload_n 0, 1) := by decide +kernel
theorem dX12_grew_1 : decode cX12_grew 1 = .ok (.iload_n 1, 1) := by decide +kernel
theorem dX12_grew_2 : decode cX12_grew 2 = .ok (.invokevirtual 274, 3) := by decide +kernel
theorem dX12_grew_5 : decode cX12_grew 5 = .ok (.ifCond .ne 5, 3) := by decide +kernel
theorem dX12_grew_8 : decode cX12_grew 8 = .ok (.iconst (-1), 1) := by decide +kernel
theorem dX12_grew_9 : decode cX12_grew 9 = .ok (.ireturn, 1) := by decide +kernel
theorem dX12_grew_10 : decode cX12_grew 10 = .ok (.bipush (-9), 2) := by decide +kernel
theorem dX12_grew_12 : decode cX12_grew 12 = .ok (.istore_n 2, 1) := by decide +kernel
theorem dX12_grew_13 : decode cX12_grew 13 = .ok (.lconst 0, 1) := by decide +kernel
theorem dX12_grew_14 : decode cX12_grew 14 = .ok (.lstore_n 3, 1) := by decide +kernel
theorem dX12_grew_15 : decode cX12_grew 15 = .ok (.iconst 0, 1) := by decide +kernel
theorem dX12_grew_16 : decode cX12_grew 16 = .ok (.istore 5, 2) := by decide +kernel
theorem dX12_grew_18 : decode cX12_grew 18 = .ok (.iload 5, 2) := by decide +kernel
theorem dX12_grew_20 : decode cX12_grew 20 = .ok (.iconst 5, 1) := by decide +kernel
theorem dX12_grew_21 : decode cX12_grew 21 = .ok (.if_icmp .ge 41, 3) := by decide +kernel
theorem dX12_grew_24 : decode cX12_grew 24 = .ok (.aload_n 0, 1) := by decide +kernel
theorem dX12_grew_25 : decode cX12_grew 25 = .ok (.iload_n 1, 1) := by decide +kernel
theorem dX12_grew_26 : decode cX12_grew 26 = .ok (.iload 5, 2) := by decide +kernel
theorem dX12_grew_28 : decode cX12_grew 28 = .ok (.invokevirtual 280, 3) := by decide +kernel
theorem dX12_grew_31 : decode cX12_grew 31 = .ok (.aload_n 0, 1) := by decide +kernel
theorem dX12_grew_32 : decode cX12_grew 32 = .ok (.iload_n 1, 1) := by decide +kernel
theorem dX12_grew_33 : decode cX12_grew 33 = .ok (.iload 5, 2) := by decide +kernel
theorem dX12_grew_35 : decode cX12_grew 35 = .ok (.iconst 1, 1) := by decide +kernel
theorem dX12_grew_36 : decode cX12_grew 36 = .ok (.isub, 1) := by decide +kernel
theorem dX12_grew_37 : decode cX12_grew 37 = .ok (.invokevirtual 280, 3) := by decide +kernel
theorem dX12_grew_40 : decode cX12_grew 40 = .ok (.lsub, 1) := by decide +kernel
theorem dX12_grew_41 : decode cX12_grew 41 = .ok (.lstore 6, 2) := by decide +kernel
theorem dX12_grew_43 : decode cX12_grew 43 = .ok (.lload 6, 2) := by decide +kernel
theorem dX12_grew_45 : decode cX12_grew 45 = .ok (.lload_n 3, 1) := by decide +kernel
theorem dX12_grew_46 : decode cX12_grew 46 = .ok (.lcmp, 1) := by decide +kernel
theorem dX12_grew_47 : decode cX12_grew 47 = .ok (.ifCond .le 9, 3) := by decide +kernel
theorem dX12_grew_50 : decode cX12_grew 50 = .ok (.iload 5, 2) := by decide +kernel
theorem dX12_grew_52 : decode cX12_grew 52 = .ok (.istore_n 2, 1) := by decide +kernel
theorem dX12_grew_53 : decode cX12_grew 53 = .ok (.lload 6, 2) := by decide +kernel
theorem dX12_grew_55 : decode cX12_grew 55 = .ok (.lstore_n 3, 1) := by decide +kernel
theorem dX12_grew_56 : decode cX12_grew 56 = .ok (.iinc 5 1, 3) := by decide +kernel
theorem dX12_grew_59 : decode cX12_grew 59 = .ok (.goto (-41), 3) := by decide +kernel
theorem dX12_grew_62 : decode cX12_grew 62 = .ok (.iload_n 2, 1) := by decide +kernel
theorem dX12_grew_63 : decode cX12_grew 63 = .ok (.ireturn, 1) := by decide +kernel
theorem dX12_stand_0 : decode cX12_stand 0 = .ok (.iload_n 1, 1) := by decide +kernel
theorem dX12_stand_1 : decode cX12_stand 1 = .ok (.iconst 0, 1) := by decide +kernel
theorem dX12_stand_2 : decode cX12_stand 2 = .ok (.iconst 3, 1) := by decide +kernel
theorem dX12_stand_3 : decode cX12_stand 3 = .ok (.invokestatic 186, 3) := by decide +kernel
theorem dX12_stand_6 : decode cX12_stand 6 = .ok (.ifCond .eq 34, 3) := by decide +kernel
theorem dX12_stand_9 : decode cX12_stand 9 = .ok (.iload_n 2, 1) := by decide +kernel
theorem dX12_stand_10 : decode cX12_stand 10 = .ok (.iconst 0, 1) := by decide +kernel
theorem dX12_stand_11 : decode cX12_stand 11 = .ok (.iconst 2, 1) := by decide +kernel
theorem dX12_stand_12 : decode cX12_stand 12 = .ok (.invokestatic 186, 3) := by decide +kernel
theorem dX12_stand_15 : decode cX12_stand 15 = .ok (.ifCond .eq 25, 3) := by decide +kernel
theorem dX12_stand_18 : decode cX12_stand 18 = .ok (.iload_n 3, 1) := by decide +kernel
theorem dX12_stand_19 : decode cX12_stand 19 = .ok (.iconst 1, 1) := by decide +kernel
theorem dX12_stand_20 : decode cX12_stand 20 = .ok (.ldc_w 284, 3) := by decide +kernel
theorem dX12_stand_23 : decode cX12_stand 23 = .ok (.invokestatic 186, 3) := by decide +kernel
theorem dX12_stand_26 : decode cX12_stand 26 = .ok (.ifCond .eq 14, 3) := by decide +kernel
theorem dX12_stand_29 : decode cX12_stand 29 = .ok (.iload 4, 2) := by decide +kernel
theorem dX12_stand_31 : decode cX12_stand 31 = .ok (.iconst 0, 1) := by decide +kernel
theorem dX12_stand_32 : decode cX12_stand 32 = .ok (.bipush 60, 2) := by decide +kernel
theorem dX12_stand_34 : decode cX12_stand 34 = .ok (.invokestatic 186, 3) := by decide +kernel
theorem dX12_stand_37 : decode cX12_stand 37 = .ok (.ifCond .ne 6, 3) := by decide +kernel
theorem dX12_stand_40 : decode cX12_stand 40 = .ok (.bipush (-2), 2) := by decide +kernel
theorem dX12_stand_42 : decode cX12_stand 42 = .ok (.ireturn, 1) := by decide +kernel
theorem dX12_stand_43 : decode cX12_stand 43 = .ok (.aload_n 0, 1) := by decide +kernel
theorem dX12_stand_44 : decode cX12_stand 44 = .ok (.getfield 285, 3) := by decide +kernel
theorem dX12_stand_47 : decode cX12_stand 47 = .ok (.bipush 12, 2) := by decide +kernel
theorem dX12_stand_49 : decode cX12_stand 49 = .ok (.if_icmp .ne 6, 3) := by decide +kernel
theorem dX12_stand_52 : decode cX12_stand 52 = .ok (.bipush (-4), 2) := by decide +kernel
theorem dX12_stand_54 : decode cX12_stand 54 = .ok (.ireturn, 1) := by decide +kernel
theorem dX12_stand_55 : decode cX12_stand 55 = .ok (.aload_n 0, 1) := by decide +kernel
theorem dX12_stand_56 : decode cX12_stand 56 = .ok (.getfield 125, 3) := by decide +kernel
theorem dX12_stand_59 : decode cX12_stand 59 = .ok (.aload_n 0, 1) := by decide +kernel
theorem dX12_stand_60 : decode cX12_stand 60 = .ok (.getfield 285, 3) := by decide +kernel
theorem dX12_stand_63 : decode cX12_stand 63 = .ok (.iload_n 1, 1) := by decide +kernel
theorem dX12_stand_64 : decode cX12_stand 64 = .ok (.iastore, 1) := by decide +kernel
theorem dX12_stand_65 : decode cX12_stand 65 = .ok (.aload_n 0, 1) := by decide +kernel
theorem dX12_stand_66 : decode cX12_stand 66 = .ok (.getfield 128, 3) := by decide +kernel
theorem dX12_stand_69 : decode cX12_stand 69 = .ok (.aload_n 0, 1) := by decide +kernel
theorem dX12_stand_70 : decode cX12_stand 70 = .ok (.getfield 285, 3) := by decide +kernel
theorem dX12_stand_73 : decode cX12_stand 73 = .ok (.iload_n 2, 1) := by decide +kernel
theorem dX12_stand_74 : decode cX12_stand 74 = .ok (.iastore, 1) := by decide +kernel
theorem dX12_stand_75 : decode cX12_stand 75 = .ok (.aload_n 0, 1) := by decide +kernel
theorem dX12_stand_76 : decode cX12_stand 76 = .ok (.getfield 131, 3) := by decide +kernel
theorem dX12_stand_79 : decode cX12_stand 79 = .ok (.aload_n 0, 1) := by decide +kernel
theorem dX12_stand_80 : decode cX12_stand 80 = .ok (.getfield 285, 3) := by decide +kernel
theorem dX12_stand_83 : decode cX12_stand 83 = .ok (.iload_n 3, 1) := by decide +kernel
theorem dX12_stand_84 : decode cX12_stand 84 = .ok (.iastore, 1) := by decide +kernel
theorem dX12_stand_85 : decode cX12_stand 85 = .ok (.aload_n 0, 1) := by decide +kernel
theorem dX12_stand_86 : decode cX12_stand 86 = .ok (.getfield 134, 3) := by decide +kernel
theorem dX12_stand_89 : decode cX12_stand 89 = .ok (.aload_n 0, 1) := by decide +kernel
theorem dX12_stand_90 : decode cX12_stand 90 = .ok (.getfield 285, 3) := by decide +kernel
theorem dX12_stand_93 : decode cX12_stand 93 = .ok (.iload 4, 2) := by decide +kernel
theorem dX12_stand_95 : decode cX12_stand 95 = .ok (.iastore, 1) := by decide +kernel
theorem dX12_stand_96 : decode cX12_stand 96 = .ok (.aload_n 0, 1) := by decide +kernel
theorem dX12_stand_97 : decode cX12_stand 97 = .ok (.dup, 1) := by decide +kernel
theorem dX12_stand_98 : decode cX12_stand 98 = .ok (.getfield 285, 3) := by decide +kernel
theorem dX12_stand_101 : decode cX12_stand 101 = .ok (.iconst 1, 1) := by decide +kernel
theorem dX12_stand_102 : decode cX12_stand 102 = .ok (.iadd, 1) := by decide +kernel
theorem dX12_stand_103 : decode cX12_stand 103 = .ok (.putfield 285, 3) := by decide +kernel
theorem dX12_stand_106 : decode cX12_stand 106 = .ok (.aload_n 0, 1) := by decide +kernel
theorem dX12_stand_107 : decode cX12_stand 107 = .ok (.getfield 285, 3) := by decide +kernel
theorem dX12_stand_110 : decode cX12_stand 110 = .ok (.iconst 1, 1) := by decide +kernel
theorem dX12_stand_111 : decode cX12_stand 111 = .ok (.isub, 1) := by decide +kernel
theorem dX12_stand_112 : decode cX12_stand 112 = .ok (.ireturn, 1) := by decide +kernel
theorem dX12_liveOf_0 : decode cX12_liveOf 0 = .ok (.iload_n 2, 1) := by decide +kernel
theorem dX12_liveOf_1 : decode cX12_liveOf 1 = .ok (.aload_n 0, 1) := by decide +kernel
theorem dX12_liveOf_2 : decode cX12_liveOf 2 = .ok (.getfield 134, 3) := by decide +kernel
theorem dX12_liveOf_5 : decode cX12_liveOf 5 = .ok (.iload_n 1, 1) := by decide +kernel
theorem dX12_liveOf_6 : decode cX12_liveOf 6 = .ok (.iaload, 1) := by decide +kernel
theorem dX12_liveOf_7 : decode cX12_liveOf 7 = .ok (.if_icmp .ge 5, 3) := by decide +kernel
theorem dX12_liveOf_10 : decode cX12_liveOf 10 = .ok (.iconst 0, 1) := by decide +kernel
theorem dX12_liveOf_11 : decode cX12_liveOf 11 = .ok (.ireturn, 1) := by decide +kernel
theorem dX12_liveOf_12 : decode cX12_liveOf 12 = .ok (.aload_n 0, 1) := by decide +kernel
theorem dX12_liveOf_13 : decode cX12_liveOf 13 = .ok (.getfield 131, 3) := by decide +kernel
theorem dX12_liveOf_16 : decode cX12_liveOf 16 = .ok (.iload_n 1, 1) := by decide +kernel
theorem dX12_liveOf_17 : decode cX12_liveOf 17 = .ok (.iaload, 1) := by decide +kernel
theorem dX12_liveOf_18 : decode cX12_liveOf 18 = .ok (.istore_n 3, 1) := by decide +kernel
theorem dX12_liveOf_19 : decode cX12_liveOf 19 = .ok (.bipush 6, 2) := by decide +kernel
theorem dX12_liveOf_21 : decode cX12_liveOf 21 = .ok (.aload_n 0, 1) := by decide +kernel
theorem dX12_liveOf_22 : decode cX12_liveOf 22 = .ok (.getfield 125, 3) := by decide +kernel
theorem dX12_liveOf_25 : decode cX12_liveOf 25 = .ok (.iload_n 1, 1) := by decide +kernel
theorem dX12_liveOf_26 : decode cX12_liveOf 26 = .ok (.iaload, 1) := by decide +kernel
theorem dX12_liveOf_27 : decode cX12_liveOf 27 = .ok (.imul, 1) := by decide +kernel
theorem dX12_liveOf_28 : decode cX12_liveOf 28 = .ok (.iconst 2, 1) := by decide +kernel
theorem dX12_liveOf_29 : decode cX12_liveOf 29 = .ok (.aload_n 0, 1) := by decide +kernel
theorem dX12_liveOf_30 : decode cX12_liveOf 30 = .ok (.getfield 128, 3) := by decide +kernel
theorem dX12_liveOf_33 : decode cX12_liveOf 33 = .ok (.iload_n 1, 1) := by decide +kernel
theorem dX12_liveOf_34 : decode cX12_liveOf 34 = .ok (.iaload, 1) := by decide +kernel
theorem dX12_liveOf_35 : decode cX12_liveOf 35 = .ok (.imul, 1) := by decide +kernel
theorem dX12_liveOf_36 : decode cX12_liveOf 36 = .ok (.iadd, 1) := by decide +kernel
theorem dX12_liveOf_37 : decode cX12_liveOf 37 = .ok (.istore 4, 2) := by decide +kernel
theorem dX12_liveOf_39 : decode cX12_liveOf 39 = .ok (.aload_n 0, 1) := by decide +kernel
theorem dX12_liveOf_40 : decode cX12_liveOf 40 = .ok (.getfield 134, 3) := by decide +kernel
theorem dX12_liveOf_43 : decode cX12_liveOf 43 = .ok (.iload_n 1, 1) := by decide +kernel
theorem dX12_liveOf_44 : decode cX12_liveOf 44 = .ok (.iaload, 1) := by decide +kernel
theorem dX12_liveOf_45 : decode cX12_liveOf 45 = .ok (.iconst 1, 1) := by decide +kernel
theorem dX12_liveOf_46 : decode cX12_liveOf 46 = .ok (.iadd, 1) := by decide +kernel
theorem dX12_liveOf_47 : decode cX12_liveOf 47 = .ok (.istore 5, 2) := by decide +kernel
theorem dX12_liveOf_49 : decode cX12_liveOf 49 = .ok (.iload 5, 2) := by decide +kernel
theorem dX12_liveOf_51 : decode cX12_liveOf 51 = .ok (.iload_n 2, 1) := by decide +kernel
theorem dX12_liveOf_52 : decode cX12_liveOf 52 = .ok (.if_icmp .gt 42, 3) := by decide +kernel
theorem dX12_liveOf_55 : decode cX12_liveOf 55 = .ok (.iload_n 3, 1) := by decide +kernel
theorem dX12_liveOf_56 : decode cX12_liveOf 56 = .ok (.aload_n 0, 1) := by decide +kernel
theorem dX12_liveOf_57 : decode cX12_liveOf 57 = .ok (.getfield 122, 3) := by decide +kernel
theorem dX12_liveOf_60 : decode cX12_liveOf 60 = .ok (.iload 5, 2) := by decide +kernel
theorem dX12_liveOf_62 : decode cX12_liveOf 62 = .ok (.aload_n 0, 1) := by decide +kernel
theorem dX12_liveOf_63 : decode cX12_liveOf 63 = .ok (.getfield 134, 3) := by decide +kernel
theorem dX12_liveOf_66 : decode cX12_liveOf 66 = .ok (.iload_n 1, 1) := by decide +kernel
theorem dX12_liveOf_67 : decode cX12_liveOf 67 = .ok (.iaload, 1) := by decide +kernel
theorem dX12_liveOf_68 : decode cX12_liveOf 68 = .ok (.iconst 1, 1) := by decide +kernel
theorem dX12_liveOf_69 : decode cX12_liveOf 69 = .ok (.iadd, 1) := by decide +kernel
theorem dX12_liveOf_70 : decode cX12_liveOf 70 = .ok (.if_icmp .ne 8, 3) := by decide +kernel
theorem dX12_liveOf_73 : decode cX12_liveOf 73 = .ok (.iload 4, 2) := by decide +kernel
theorem dX12_liveOf_75 : decode cX12_liveOf 75 = .ok (.goto 7, 3) := by decide +kernel
theorem dX12_liveOf_78 : decode cX12_liveOf 78 = .ok (.iload 4, 2) := by decide +kernel
theorem dX12_liveOf_80 : decode cX12_liveOf 80 = .ok (.iconst 1, 1) := by decide +kernel
theorem dX12_liveOf_81 : decode cX12_liveOf 81 = .ok (.iadd, 1) := by decide +kernel
theorem dX12_liveOf_82 : decode cX12_liveOf 82 = .ok (.iaload, 1) := by decide +kernel
theorem dX12_liveOf_83 : decode cX12_liveOf 83 = .ok (.imul, 1) := by decide +kernel
theorem dX12_liveOf_84 : decode cX12_liveOf 84 = .ok (.bipush 100, 2) := by decide +kernel
theorem dX12_liveOf_86 : decode cX12_liveOf 86 = .ok (.idiv, 1) := by decide +kernel
theorem dX12_liveOf_87 : decode cX12_liveOf 87 = .ok (.istore_n 3, 1) := by decide +kernel
theorem dX12_liveOf_88 : decode cX12_liveOf 88 = .ok (.iinc 5 1, 3) := by decide +kernel
theorem dX12_liveOf_91 : decode cX12_liveOf 91 = .ok (.goto (-42), 3) := by decide +kernel
theorem dX12_liveOf_94 : decode cX12_liveOf 94 = .ok (.iload_n 3, 1) := by decide +kernel
theorem dX12_liveOf_95 : decode cX12_liveOf 95 = .ok (.ireturn, 1) := by decide +kernel
theorem dX12_live_0 : decode cX12_live 0 = .ok (.iload_n 1, 1) := by decide +kernel
theorem dX12_live_1 : decode cX12_live 1 = .ok (.ifCond .lt 11, 3) := by decide +kernel
theorem dX12_live_4 : decode cX12_live 4 = .ok (.iload_n 1, 1) := by decide +kernel
theorem dX12_live_5 : decode cX12_live 5 = .ok (.aload_n 0, 1) := by decide +kernel
theorem dX12_live_6 : decode cX12_live 6 = .ok (.getfield 285, 3) := by decide +kernel
theorem dX12_live_9 : decode cX12_live 9 = .ok (.if_icmp .lt 5, 3) := by decide +kernel
theorem dX12_live_12 : decode cX12_live 12 = .ok (.iconst (-1), 1) := by decide +kernel
theorem dX12_live_13 : decode cX12_live 13 = .ok (.ireturn, 1) := by decide +kernel
theorem dX12_live_14 : decode cX12_live 14 = .ok (.iload_n 2, 1) := by decide +kernel
theorem dX12_live_15 : decode cX12_live 15 = .ok (.iconst 0, 1) := by decide +kernel
theorem dX12_live_16 : decode cX12_live 16 = .ok (.bipush 99, 2) := by decide +kernel
theorem dX12_live_18 : decode cX12_live 18 = .ok (.invokestatic 186, 3) := by decide +kernel
theorem dX12_live_21 : decode cX12_live 21 = .ok (.ifCond .eq 12, 3) := by decide +kernel
theorem dX12_live_24 : decode cX12_live 24 = .ok (.aload_n 0, 1) := by decide +kernel
theorem dX12_live_25 : decode cX12_live 25 = .ok (.iload_n 1, 1) := by decide +kernel
theorem dX12_live_26 : decode cX12_live 26 = .ok (.iload_n 2, 1) := by decide +kernel
theorem dX12_live_27 : decode cX12_live 27 = .ok (.invokevirtual 288, 3) := by decide +kernel
theorem dX12_live_30 : decode cX12_live 30 = .ok (.goto 5, 3) := by decide +kernel
theorem dX12_live_33 : decode cX12_live 33 = .ok (.bipush (-2), 2) := by decide +kernel
theorem dX12_live_35 : decode cX12_live 35 = .ok (.ireturn, 1) := by decide +kernel
theorem dX12_forest_0 : decode cX12_forest 0 = .ok (.iload_n 1, 1) := by decide +kernel
theorem dX12_forest_1 : decode cX12_forest 1 = .ok (.iconst 0, 1) := by decide +kernel
theorem dX12_forest_2 : decode cX12_forest 2 = .ok (.iconst 4, 1) := by decide +kernel
theorem dX12_forest_3 : decode cX12_forest 3 = .ok (.invokestatic 186, 3) := by decide +kernel
theorem dX12_forest_6 : decode cX12_forest 6 = .ok (.ifCond .eq 13, 3) := by decide +kernel
theorem dX12_forest_9 : decode cX12_forest 9 = .ok (.iload_n 2, 1) := by decide +kernel
theorem dX12_forest_10 : decode cX12_forest 10 = .ok (.iconst 0, 1) := by decide +kernel
theorem dX12_forest_11 : decode cX12_forest 11 = .ok (.bipush 99, 2) := by decide +kernel
theorem dX12_forest_13 : decode cX12_forest 13 = .ok (.invokestatic 186, 3) := by decide +kernel
theorem dX12_forest_16 : decode cX12_forest 16 = .ok (.ifCond .ne 7, 3) := by decide +kernel
theorem dX12_forest_19 : decode cX12_forest 19 = .ok (.ldc2_w 184, 3) := by decide +kernel
theorem dX12_forest_22 : decode cX12_forest 22 = .ok (.lreturn, 1) := by decide +kernel
theorem dX12_forest_23 : decode cX12_forest 23 = .ok (.lconst 0, 1) := by decide +kernel
theorem dX12_forest_24 : decode cX12_forest 24 = .ok (.lstore_n 3, 1) := by decide +kernel
theorem dX12_forest_25 : decode cX12_forest 25 = .ok (.iconst 0, 1) := by decide +kernel
theorem dX12_forest_26 : decode cX12_forest 26 = .ok (.istore 5, 2) := by decide +kernel
theorem dX12_forest_28 : decode cX12_forest 28 = .ok (.iload 5, 2) := by decide +kernel
theorem dX12_forest_30 : decode cX12_forest 30 = .ok (.aload_n 0, 1) := by decide +kernel
theorem dX12_forest_31 : decode cX12_forest 31 = .ok (.getfield 285, 3) := by decide +kernel
theorem dX12_forest_34 : decode cX12_forest 34 = .ok (.if_icmp .ge 40, 3) := by decide +kernel
theorem dX12_forest_37 : decode cX12_forest 37 = .ok (.lload_n 3, 1) := by decide +kernel
theorem dX12_forest_38 : decode cX12_forest 38 = .ok (.iload_n 1, 1) := by decide +kernel
theorem dX12_forest_39 : decode cX12_forest 39 = .ok (.iconst 4, 1) := by decide +kernel
theorem dX12_forest_40 : decode cX12_forest 40 = .ok (.if_icmp .eq 14, 3) := by decide +kernel
theorem dX12_forest_43 : decode cX12_forest 43 = .ok (.aload_n 0, 1) := by decide +kernel
theorem dX12_forest_44 : decode cX12_forest 44 = .ok (.getfield 125, 3) := by decide +kernel
theorem dX12_forest_47 : decode cX12_forest 47 = .ok (.iload 5, 2) := by decide +kernel
theorem dX12_forest_49 : decode cX12_forest 49 = .ok (.iaload, 1) := by decide +kernel
theorem dX12_forest_50 : decode cX12_forest 50 = .ok (.iload_n 1, 1) := by decide +kernel
theorem dX12_forest_51 : decode cX12_forest 51 = .ok (.if_icmp .ne 14, 3) := by decide +kernel
theorem dX12_forest_54 : decode cX12_forest 54 = .ok (.aload_n 0, 1) := by decide +kernel
theorem dX12_forest_55 : decode cX12_forest 55 = .ok (.iload 5, 2) := by decide +kernel
theorem dX12_forest_57 : decode cX12_forest 57 = .ok (.iload_n 2, 1) := by decide +kernel
theorem dX12_forest_58 : decode cX12_forest 58 = .ok (.invokevirtual 288, 3) := by decide +kernel
theorem dX12_forest_61 : decode cX12_forest 61 = .ok (.i2l, 1) := by decide +kernel
theorem dX12_forest_62 : decode cX12_forest 62 = .ok (.goto 4, 3) := by decide +kernel
theorem dX12_forest_65 : decode cX12_forest 65 = .ok (.lconst 0, 1) := by decide +kernel
theorem dX12_forest_66 : decode cX12_forest 66 = .ok (.ladd, 1) := by decide +kernel
theorem dX12_forest_67 : decode cX12_forest 67 = .ok (.lstore_n 3, 1) := by decide +kernel
theorem dX12_forest_68 : decode cX12_forest 68 = .ok (.iinc 5 1, 3) := by decide +kernel
theorem dX12_forest_71 : decode cX12_forest 71 = .ok (.goto (-43), 3) := by decide +kernel
theorem dX12_forest_74 : decode cX12_forest 74 = .ok (.lload_n 3, 1) := by decide +kernel
theorem dX12_forest_75 : decode cX12_forest 75 = .ok (.lreturn, 1) := by decide +kernel
theorem dX12_fire_0 : decode cX12_fire 0 = .ok (.iload_n 1, 1) := by decide +kernel
theorem dX12_fire_1 : decode cX12_fire 1 = .ok (.iload_n 2, 1) := by decide +kernel
theorem dX12_fire_2 : decode cX12_fire 2 = .ok (.invokestatic 199, 3) := by decide +kernel
theorem dX12_fire_5 : decode cX12_fire 5 = .ok (.ifCond .eq 24, 3) := by decide +kernel
theorem dX12_fire_8 : decode cX12_fire 8 = .ok (.iload_n 3, 1) := by decide +kernel
theorem dX12_fire_9 : decode cX12_fire 9 = .ok (.iconst 1, 1) := by decide +kernel
theorem dX12_fire_10 : decode cX12_fire 10 = .ok (.bipush 60, 2) := by decide +kernel
theorem dX12_fire_12 : decode cX12_fire 12 = .ok (.invokestatic 186, 3) := by decide +kernel
theorem dX12_fire_15 : decode cX12_fire 15 = .ok (.ifCond .eq 14, 3) := by decide +kernel
theorem dX12_fire_18 : decode cX12_fire 18 = .ok (.iload 4, 2) := by decide +kernel
theorem dX12_fire_20 : decode cX12_fire 20 = .ok (.iconst 1, 1) := by decide +kernel
theorem dX12_fire_21 : decode cX12_fire 21 = .ok (.bipush 99, 2) := by decide +kernel
theorem dX12_fire_23 : decode cX12_fire 23 = .ok (.invokestatic 186, 3) := by decide +kernel
theorem dX12_fire_26 : decode cX12_fire 26 = .ok (.ifCond .ne 6, 3) := by decide +kernel
theorem dX12_fire_29 : decode cX12_fire 29 = .ok (.bipush (-2), 2) := by decide +kernel
theorem dX12_fire_31 : decode cX12_fire 31 = .ok (.ireturn, 1) := by decide +kernel
theorem dX12_fire_32 : decode cX12_fire 32 = .ok (.aload_n 0, 1) := by decide +kernel
theorem dX12_fire_33 : decode cX12_fire 33 = .ok (.getfield 291, 3) := by decide +kernel
theorem dX12_fire_36 : decode cX12_fire 36 = .ok (.iconst 3, 1) := by decide +kernel
theorem dX12_fire_37 : decode cX12_fire 37 = .ok (.if_icmp .ne 6, 3) := by decide +kernel
theorem dX12_fire_40 : decode cX12_fire 40 = .ok (.bipush (-4), 2) := by decide +kernel
theorem dX12_fire_42 : decode cX12_fire 42 = .ok (.ireturn, 1) := by decide +kernel
theorem dX12_fire_43 : decode cX12_fire 43 = .ok (.aload_n 0, 1) := by decide +kernel
theorem dX12_fire_44 : decode cX12_fire 44 = .ok (.getfield 137, 3) := by decide +kernel
theorem dX12_fire_47 : decode cX12_fire 47 = .ok (.aload_n 0, 1) := by decide +kernel
theorem dX12_fire_48 : decode cX12_fire 48 = .ok (.getfield 291, 3) := by decide +kernel
theorem dX12_fire_51 : decode cX12_fire 51 = .ok (.iload_n 1, 1) := by decide +kernel
theorem dX12_fire_52 : decode cX12_fire 52 = .ok (.iastore, 1) := by decide +kernel
theorem dX12_fire_53 : decode cX12_fire 53 = .ok (.aload_n 0, 1) := by decide +kernel
theorem dX12_fire_54 : decode cX12_fire 54 = .ok (.getfield 140, 3) := by decide +kernel
theorem dX12_fire_57 : decode cX12_fire 57 = .ok (.aload_n 0, 1) := by decide +kernel
theorem dX12_fire_58 : decode cX12_fire 58 = .ok (.getfield 291, 3) := by decide +kernel
theorem dX12_fire_61 : decode cX12_fire 61 = .ok (.iload_n 2, 1) := by decide +kernel
theorem dX12_fire_62 : decode cX12_fire 62 = .ok (.iastore, 1) := by decide +kernel
theorem dX12_fire_63 : decode cX12_fire 63 = .ok (.aload_n 0, 1) := by decide +kernel
theorem dX12_fire_64 : decode cX12_fire 64 = .ok (.getfield 143, 3) := by decide +kernel
theorem dX12_fire_67 : decode cX12_fire 67 = .ok (.aload_n 0, 1) := by decide +kernel
theorem dX12_fire_68 : decode cX12_fire 68 = .ok (.getfield 291, 3) := by decide +kernel
theorem dX12_fire_71 : decode cX12_fire 71 = .ok (.iload_n 3, 1) := by decide +kernel
theorem dX12_fire_72 : decode cX12_fire 72 = .ok (.iastore, 1) := by decide +kernel
theorem dX12_fire_73 : decode cX12_fire 73 = .ok (.aload_n 0, 1) := by decide +kernel
theorem dX12_fire_74 : decode cX12_fire 74 = .ok (.getfield 146, 3) := by decide +kernel
theorem dX12_fire_77 : decode cX12_fire 77 = .ok (.aload_n 0, 1) := by decide +kernel
theorem dX12_fire_78 : decode cX12_fire 78 = .ok (.getfield 291, 3) := by decide +kernel
theorem dX12_fire_81 : decode cX12_fire 81 = .ok (.iload 4, 2) := by decide +kernel
theorem dX12_fire_83 : decode cX12_fire 83 = .ok (.iastore, 1) := by decide +kernel
theorem dX12_fire_84 : decode cX12_fire 84 = .ok (.aload_n 0, 1) := by decide +kernel
theorem dX12_fire_85 : decode cX12_fire 85 = .ok (.dup, 1) := by decide +kernel
theorem dX12_fire_86 : decode cX12_fire 86 = .ok (.getfield 291, 3) := by decide +kernel
theorem dX12_fire_89 : decode cX12_fire 89 = .ok (.iconst 1, 1) := by decide +kernel
theorem dX12_fire_90 : decode cX12_fire 90 = .ok (.iadd, 1) := by decide +kernel
theorem dX12_fire_91 : decode cX12_fire 91 = .ok (.putfield 291, 3) := by decide +kernel
theorem dX12_fire_94 : decode cX12_fire 94 = .ok (.aload_n 0, 1) := by decide +kernel
theorem dX12_fire_95 : decode cX12_fire 95 = .ok (.getfield 291, 3) := by decide +kernel
theorem dX12_fire_98 : decode cX12_fire 98 = .ok (.iconst 1, 1) := by decide +kernel
theorem dX12_fire_99 : decode cX12_fire 99 = .ok (.isub, 1) := by decide +kernel
theorem dX12_fire_100 : decode cX12_fire 100 = .ok (.ireturn, 1) := by decide +kernel
theorem dX12_crew_0 : decode cX12_crew 0 = .ok (.aload_n 0, 1) := by decide +kernel
theorem dX12_crew_1 : decode cX12_crew 1 = .ok (.iload_n 1, 1) := by decide +kernel
theorem dX12_crew_2 : decode cX12_crew 2 = .ok (.invokevirtual 210, 3) := by decide +kernel
theorem dX12_crew_5 : decode cX12_crew 5 = .ok (.ifCond .ne 5, 3) := by decide +kernel
theorem dX12_crew_8 : decode cX12_crew 8 = .ok (.iconst (-1), 1) := by decide +kernel
theorem dX12_crew_9 : decode cX12_crew 9 = .ok (.ireturn, 1) := by decide +kernel
theorem dX12_crew_10 : decode cX12_crew 10 = .ok (.iload_n 2, 1) := by decide +kernel
theorem dX12_crew_11 : decode cX12_crew 11 = .ok (.iconst 0, 1) := by decide +kernel
theorem dX12_crew_12 : decode cX12_crew 12 = .ok (.bipush 9, 2) := by decide +kernel
theorem dX12_crew_14 : decode cX12_crew 14 = .ok (.invokestatic 186, 3) := by decide +kernel
theorem dX12_crew_17 : decode cX12_crew 17 = .ok (.ifCond .ne 6, 3) := by decide +kernel
theorem dX12_crew_20 : decode cX12_crew 20 = .ok (.bipush (-2), 2) := by decide +kernel
theorem dX12_crew_22 : decode cX12_crew 22 = .ok (.ireturn, 1) := by decide +kernel
theorem dX12_crew_23 : decode cX12_crew 23 = .ok (.aload_n 0, 1) := by decide +kernel
theorem dX12_crew_24 : decode cX12_crew 24 = .ok (.getfield 149, 3) := by decide +kernel
theorem dX12_crew_27 : decode cX12_crew 27 = .ok (.iload_n 1, 1) := by decide +kernel
theorem dX12_crew_28 : decode cX12_crew 28 = .ok (.iaload, 1) := by decide +kernel
theorem dX12_crew_29 : decode cX12_crew 29 = .ok (.istore_n 3, 1) := by decide +kernel
theorem dX12_crew_30 : decode cX12_crew 30 = .ok (.aload_n 0, 1) := by decide +kernel
theorem dX12_crew_31 : decode cX12_crew 31 = .ok (.getfield 149, 3) := by decide +kernel
theorem dX12_crew_34 : decode cX12_crew 34 = .ok (.iload_n 1, 1) := by decide +kernel
theorem dX12_crew_35 : decode cX12_crew 35 = .ok (.iload_n 2, 1) := by decide +kernel
theorem dX12_crew_36 : decode cX12_crew 36 = .ok (.iastore, 1) := by decide +kernel
theorem dX12_crew_37 : decode cX12_crew 37 = .ok (.iload_n 3, 1) := by decide +kernel
theorem dX12_crew_38 : decode cX12_crew 38 = .ok (.ireturn, 1) := by decide +kernel
theorem dX12_layHours_0 : decode cX12_layHours 0 = .ok (.iconst 0, 1) := by decide +kernel
theorem dX12_layHours_1 : decode cX12_layHours 1 = .ok (.istore_n 1, 1) := by decide +kernel
theorem dX12_layHours_2 : decode cX12_layHours 2 = .ok (.iload_n 1, 1) := by decide +kernel
theorem dX12_layHours_3 : decode cX12_layHours 3 = .ok (.aload_n 0, 1) := by decide +kernel
theorem dX12_layHours_4 : decode cX12_layHours 4 = .ok (.getfield 190, 3) := by decide +kernel
theorem dX12_layHours_7 : decode cX12_layHours 7 = .ok (.if_icmp .ge 74, 3) := by decide +kernel
theorem dX12_layHours_10 : decode cX12_layHours 10 = .ok (.iconst 0, 1) := by decide +kernel
theorem dX12_layHours_11 : decode cX12_layHours 11 = .ok (.istore_n 2, 1) := by decide +kernel
theorem dX12_layHours_12 : decode cX12_layHours 12 = .ok (.iload_n 2, 1) := by decide +kernel
theorem dX12_layHours_13 : decode cX12_layHours 13 = .ok (.aload_n 0, 1) := by decide +kernel
theorem dX12_layHours_14 : decode cX12_layHours 14 = .ok (.getfield 291, 3) := by decide +kernel
theorem dX12_layHours_17 : decode cX12_layHours 17 = .ok (.if_icmp .ge 58, 3) := by decide +kernel
theorem dX12_layHours_20 : decode cX12_layHours 20 = .ok (.aload_n 0, 1) := by decide +kernel
theorem dX12_layHours_21 : decode cX12_layHours 21 = .ok (.getfield 155, 3) := by decide +kernel
theorem dX12_layHours_24 : decode cX12_layHours 24 = .ok (.iconst 3, 1) := by decide +kernel
theorem dX12_layHours_25 : decode cX12_layHours 25 = .ok (.iload_n 1, 1) := by decide +kernel
theorem dX12_layHours_26 : decode cX12_layHours 26 = .ok (.imul, 1) := by decide +kernel
theorem dX12_layHours_27 : decode cX12_layHours 27 = .ok (.iload_n 2, 1) := by decide +kernel
theorem dX12_layHours_28 : decode cX12_layHours 28 = .ok (.iadd, 1) := by decide +kernel
theorem dX12_layHours_29 : decode cX12_layHours 29 = .ok (.aload_n 0, 1) := by decide +kernel
theorem dX12_layHours_30 : decode cX12_layHours 30 = .ok (.getfield 19, 3) := by decide +kernel
theorem dX12_layHours_33 : decode cX12_layHours 33 = .ok (.iload_n 1, 1) := by decide +kernel
theorem dX12_layHours_34 : decode cX12_layHours 34 = .ok (.iaload, 1) := by decide +kernel
theorem dX12_layHours_35 : decode cX12_layHours 35 = .ok (.aload_n 0, 1) := by decide +kernel
theorem dX12_layHours_36 : decode cX12_layHours 36 = .ok (.getfield 137, 3) := by decide +kernel
theorem dX12_layHours_39 : decode cX12_layHours 39 = .ok (.iload_n 2, 1) := by decide +kernel
theorem dX12_layHours_40 : decode cX12_layHours 40 = .ok (.iaload, 1) := by decide +kernel
theorem dX12_layHours_41 : decode cX12_layHours 41 = .ok (.isub, 1) := by decide +kernel
theorem dX12_layHours_42 : decode cX12_layHours 42 = .ok (.invokestatic 294, 3) := by decide +kernel
theorem dX12_layHours_45 : decode cX12_layHours 45 = .ok (.aload_n 0, 1) := by decide +kernel
theorem dX12_layHours_46 : decode cX12_layHours 46 = .ok (.getfield 22, 3) := by decide +kernel
theorem dX12_layHours_49 : decode cX12_layHours 49 = .ok (.iload_n 1, 1) := by decide +kernel
theorem dX12_layHours_50 : decode cX12_layHours 50 = .ok (.iaload, 1) := by decide +kernel
theorem dX12_layHours_51 : decode cX12_layHours 51 = .ok (.aload_n 0, 1) := by decide +kernel
theorem dX12_layHours_52 : decode cX12_layHours 52 = .ok (.getfield 140, 3) := by decide +kernel
theorem dX12_layHours_55 : decode cX12_layHours 55 = .ok (.iload_n 2, 1) := by decide +kernel
theorem dX12_layHours_56 : decode cX12_layHours 56 = .ok (.iaload, 1) := by decide +kernel
theorem dX12_layHours_57 : decode cX12_layHours 57 = .ok (.isub, 1) := by decide +kernel
theorem dX12_layHours_58 : decode cX12_layHours 58 = .ok (.invokestatic 294, 3) := by decide +kernel
theorem dX12_layHours_61 : decode cX12_layHours 61 = .ok (.iadd, 1) := by decide +kernel
theorem dX12_layHours_62 : decode cX12_layHours 62 = .ok (.bipush 7, 2) := by decide +kernel
theorem dX12_layHours_64 : decode cX12_layHours 64 = .ok (.iadd, 1) := by decide +kernel
theorem dX12_layHours_65 : decode cX12_layHours 65 = .ok (.bipush 8, 2) := by decide +kernel
theorem dX12_layHours_67 : decode cX12_layHours 67 = .ok (.idiv, 1) := by decide +kernel
theorem dX12_layHours_68 : decode cX12_layHours 68 = .ok (.iastore, 1) := by decide +kernel
theorem dX12_layHours_69 : decode cX12_layHours 69 = .ok (.iinc 2 1, 3) := by decide +kernel
theorem dX12_layHours_72 : decode cX12_layHours 72 = .ok (.goto (-60), 3) := by decide +kernel
theorem dX12_layHours_75 : decode cX12_layHours 75 = .ok (.iinc 1 1, 3) := by decide +kernel
theorem dX12_layHours_78 : decode cX12_layHours 78 = .ok (.goto (-76), 3) := by decide +kernel
theorem dX12_layHours_81 : decode cX12_layHours 81 = .ok (.return_, 1) := by decide +kernel
theorem dX12_calls_0 : decode cX12_calls 0 = .ok (.iconst 1, 1) := by decide +kernel
theorem dX12_calls_1 : decode cX12_calls 1 = .ok (.istore_n 1, 1) := by decide +kernel
theorem dX12_calls_2 : decode cX12_calls 2 = .ok (.iconst 0, 1) := by decide +kernel
theorem dX12_calls_3 : decode cX12_calls 3 = .ok (.istore_n 2, 1) := by decide +kernel
theorem dX12_calls_4 : decode cX12_calls 4 = .ok (.iload_n 2, 1) := by decide +kernel
theorem dX12_calls_5 : decode cX12_calls 5 = .ok (.aload_n 0, 1) := by decide +kernel
theorem dX12_calls_6 : decode cX12_calls 6 = .ok (.getfield 190, 3) := by decide +kernel
theorem dX12_calls_9 : decode cX12_calls 9 = .ok (.if_icmp .ge 18, 3) := by decide +kernel
theorem dX12_calls_12 : decode cX12_calls 12 = .ok (.iload_n 1, 1) := by decide +kernel
theorem dX12_calls_13 : decode cX12_calls 13 = .ok (.aload_n 0, 1) := by decide +kernel
theorem dX12_calls_14 : decode cX12_calls 14 = .ok (.getfield 291, 3) := by decide +kernel
theorem dX12_calls_17 : decode cX12_calls 17 = .ok (.iconst 1, 1) := by decide +kernel
theorem dX12_calls_18 : decode cX12_calls 18 = .ok (.iadd, 1) := by decide +kernel
theorem dX12_calls_19 : decode cX12_calls 19 = .ok (.imul, 1) := by decide +kernel
theorem dX12_calls_20 : decode cX12_calls 20 = .ok (.istore_n 1, 1) := by decide +kernel
theorem dX12_calls_21 : decode cX12_calls 21 = .ok (.iinc 2 1, 3) := by decide +kernel
theorem dX12_calls_24 : decode cX12_calls 24 = .ok (.goto (-20), 3) := by decide +kernel
theorem dX12_calls_27 : decode cX12_calls 27 = .ok (.iload_n 1, 1) := by decide +kernel
theorem dX12_calls_28 : decode cX12_calls 28 = .ok (.ireturn, 1) := by decide +kernel
theorem dX12_layCall_0 : decode cX12_layCall 0 = .ok (.iload_n 1, 1) := by decide +kernel
theorem dX12_layCall_1 : decode cX12_layCall 1 = .ok (.istore_n 2, 1) := by decide +kernel
theorem dX12_layCall_2 : decode cX12_layCall 2 = .ok (.aload_n 0, 1) := by decide +kernel
theorem dX12_layCall_3 : decode cX12_layCall 3 = .ok (.getfield 190, 3) := by decide +kernel
theorem dX12_layCall_6 : decode cX12_layCall 6 = .ok (.iconst 1, 1) := by decide +kernel
theorem dX12_layCall_7 : decode cX12_layCall 7 = .ok (.isub, 1) := by decide +kernel
theorem dX12_layCall_8 : decode cX12_layCall 8 = .ok (.istore_n 3, 1) := by decide +kernel
theorem dX12_layCall_9 : decode cX12_layCall 9 = .ok (.iload_n 3, 1) := by decide +kernel
theorem dX12_layCall_10 : decode cX12_layCall 10 = .ok (.ifCond .lt 32, 3) := by decide +kernel
theorem dX12_layCall_13 : decode cX12_layCall 13 = .ok (.aload_n 0, 1) := by decide +kernel
theorem dX12_layCall_14 : decode cX12_layCall 14 = .ok (.getfield 152, 3) := by decide +kernel
theorem dX12_layCall_17 : decode cX12_layCall 17 = .ok (.iload_n 3, 1) := by decide +kernel
theorem dX12_layCall_18 : decode cX12_layCall 18 = .ok (.iload_n 2, 1) := by decide +kernel
theorem dX12_layCall_19 : decode cX12_layCall 19 = .ok (.aload_n 0, 1) := by decide +kernel
theorem dX12_layCall_20 : decode cX12_layCall 20 = .ok (.getfield 291, 3) := by decide +kernel
theorem dX12_layCall_23 : decode cX12_layCall 23 = .ok (.iconst 1, 1) := by decide +kernel
theorem dX12_layCall_24 : decode cX12_layCall 24 = .ok (.iadd, 1) := by decide +kernel
theorem dX12_layCall_25 : decode cX12_layCall 25 = .ok (.irem, 1) := by decide +kernel
theorem dX12_layCall_26 : decode cX12_layCall 26 = .ok (.iastore, 1) := by decide +kernel
theorem dX12_layCall_27 : decode cX12_layCall 27 = .ok (.iload_n 2, 1) := by decide +kernel
theorem dX12_layCall_28 : decode cX12_layCall 28 = .ok (.aload_n 0, 1) := by decide +kernel
theorem dX12_layCall_29 : decode cX12_layCall 29 = .ok (.getfield 291, 3) := by decide +kernel
theorem dX12_layCall_32 : decode cX12_layCall 32 = .ok (.iconst 1, 1) := by decide +kernel
theorem dX12_layCall_33 : decode cX12_layCall 33 = .ok (.iadd, 1) := by decide +kernel
theorem dX12_layCall_34 : decode cX12_layCall 34 = .ok (.idiv, 1) := by decide +kernel
theorem dX12_layCall_35 : decode cX12_layCall 35 = .ok (.istore_n 2, 1) := by decide +kernel
theorem dX12_layCall_36 : decode cX12_layCall 36 = .ok (.iinc 3 (-1), 3) := by decide +kernel
theorem dX12_layCall_39 : decode cX12_layCall 39 = .ok (.goto (-30), 3) := by decide +kernel
theorem dX12_layCall_42 : decode cX12_layCall 42 = .ok (.return_, 1) := by decide +kernel
theorem dX12_heldIn_0 : decode cX12_heldIn 0 = .ok (.iconst 0, 1) := by decide +kernel
theorem dX12_heldIn_1 : decode cX12_heldIn 1 = .ok (.istore_n 2, 1) := by decide +kernel
theorem dX12_heldIn_2 : decode cX12_heldIn 2 = .ok (.iconst 0, 1) := by decide +kernel
theorem dX12_heldIn_3 : decode cX12_heldIn 3 = .ok (.istore_n 3, 1) := by decide +kernel
theorem dX12_heldIn_4 : decode cX12_heldIn 4 = .ok (.iload_n 3, 1) := by decide +kernel
theorem dX12_heldIn_5 : decode cX12_heldIn 5 = .ok (.aload_n 0, 1) := by decide +kernel
theorem dX12_heldIn_6 : decode cX12_heldIn 6 = .ok (.getfield 190, 3) := by decide +kernel
theorem dX12_heldIn_9 : decode cX12_heldIn 9 = .ok (.if_icmp .ge 34, 3) := by decide +kernel
theorem dX12_heldIn_12 : decode cX12_heldIn 12 = .ok (.iload_n 2, 1) := by decide +kernel
theorem dX12_heldIn_13 : decode cX12_heldIn 13 = .ok (.aload_n 0, 1) := by decide +kernel
theorem dX12_heldIn_14 : decode cX12_heldIn 14 = .ok (.getfield 152, 3) := by decide +kernel
theorem dX12_heldIn_17 : decode cX12_heldIn 17 = .ok (.iload_n 3, 1) := by decide +kernel
theorem dX12_heldIn_18 : decode cX12_heldIn 18 = .ok (.iaload, 1) := by decide +kernel
theorem dX12_heldIn_19 : decode cX12_heldIn 19 = .ok (.iload_n 1, 1) := by decide +kernel
theorem dX12_heldIn_20 : decode cX12_heldIn 20 = .ok (.iconst 1, 1) := by decide +kernel
theorem dX12_heldIn_21 : decode cX12_heldIn 21 = .ok (.iadd, 1) := by decide +kernel
theorem dX12_heldIn_22 : decode cX12_heldIn 22 = .ok (.if_icmp .ne 12, 3) := by decide +kernel
theorem dX12_heldIn_25 : decode cX12_heldIn 25 = .ok (.aload_n 0, 1) := by decide +kernel
theorem dX12_heldIn_26 : decode cX12_heldIn 26 = .ok (.getfield 149, 3) := by decide +kernel
theorem dX12_heldIn_29 : decode cX12_heldIn 29 = .ok (.iload_n 3, 1) := by decide +kernel
theorem dX12_heldIn_30 : decode cX12_heldIn 30 = .ok (.iaload, 1) := by decide +kernel
theorem dX12_heldIn_31 : decode cX12_heldIn 31 = .ok (.goto 4, 3) := by decide +kernel
theorem dX12_heldIn_34 : decode cX12_heldIn 34 = .ok (.iconst 0, 1) := by decide +kernel
theorem dX12_heldIn_35 : decode cX12_heldIn 35 = .ok (.iadd, 1) := by decide +kernel
theorem dX12_heldIn_36 : decode cX12_heldIn 36 = .ok (.istore_n 2, 1) := by decide +kernel
theorem dX12_heldIn_37 : decode cX12_heldIn 37 = .ok (.iinc 3 1, 3) := by decide +kernel
theorem dX12_heldIn_40 : decode cX12_heldIn 40 = .ok (.goto (-36), 3) := by decide +kernel
theorem dX12_heldIn_43 : decode cX12_heldIn 43 = .ok (.iconst 0, 1) := by decide +kernel
theorem dX12_heldIn_44 : decode cX12_heldIn 44 = .ok (.istore_n 3, 1) := by decide +kernel
theorem dX12_heldIn_45 : decode cX12_heldIn 45 = .ok (.iload_n 3, 1) := by decide +kernel
theorem dX12_heldIn_46 : decode cX12_heldIn 46 = .ok (.bipush 24, 2) := by decide +kernel
theorem dX12_heldIn_48 : decode cX12_heldIn 48 = .ok (.if_icmp .ge 97, 3) := by decide +kernel
theorem dX12_heldIn_51 : decode cX12_heldIn 51 = .ok (.iload_n 2, 1) := by decide +kernel
theorem dX12_heldIn_52 : decode cX12_heldIn 52 = .ok (.aload_n 0, 1) := by decide +kernel
theorem dX12_heldIn_53 : decode cX12_heldIn 53 = .ok (.getfield 143, 3) := by decide +kernel
theorem dX12_heldIn_56 : decode cX12_heldIn 56 = .ok (.iload_n 1, 1) := by decide +kernel
theorem dX12_heldIn_57 : decode cX12_heldIn 57 = .ok (.iaload, 1) := by decide +kernel
theorem dX12_heldIn_58 : decode cX12_heldIn 58 = .ok (.if_icmp .lt 87, 3) := by decide +kernel
theorem dX12_heldIn_61 : decode cX12_heldIn 61 = .ok (.iconst 0, 1) := by decide +kernel
theorem dX12_heldIn_62 : decode cX12_heldIn 62 = .ok (.istore 4, 2) := by decide +kernel
theorem dX12_heldIn_64 : decode cX12_heldIn 64 = .ok (.iconst 0, 1) := by decide +kernel
theorem dX12_heldIn_65 : decode cX12_heldIn 65 = .ok (.istore 5, 2) := by decide +kernel
theorem dX12_heldIn_67 : decode cX12_heldIn 67 = .ok (.iload 5, 2) := by decide +kernel
theorem dX12_heldIn_69 : decode cX12_heldIn 69 = .ok (.aload_n 0, 1) := by decide +kernel
theorem dX12_heldIn_70 : decode cX12_heldIn 70 = .ok (.getfield 190, 3) := by decide +kernel
theorem dX12_heldIn_73 : decode cX12_heldIn 73 = .ok (.if_icmp .ge 53, 3) := by decide +kernel
theorem dX12_heldIn_76 : decode cX12_heldIn 76 = .ok (.iload 4, 2) := by decide +kernel
theorem dX12_heldIn_78 : decode cX12_heldIn 78 = .ok (.aload_n 0, 1) := by decide +kernel
theorem dX12_heldIn_79 : decode cX12_heldIn 79 = .ok (.getfield 152, 3) := by decide +kernel
theorem dX12_heldIn_82 : decode cX12_heldIn 82 = .ok (.iload 5, 2) := by decide +kernel
theorem dX12_heldIn_84 : decode cX12_heldIn 84 = .ok (.iaload, 1) := by decide +kernel
theorem dX12_heldIn_85 : decode cX12_heldIn 85 = .ok (.iload_n 1, 1) := by decide +kernel
theorem dX12_heldIn_86 : decode cX12_heldIn 86 = .ok (.iconst 1, 1) := by decide +kernel
theorem dX12_heldIn_87 : decode cX12_heldIn 87 = .ok (.iadd, 1) := by decide +kernel
theorem dX12_heldIn_88 : decode cX12_heldIn 88 = .ok (.if_icmp .ne 28, 3) := by decide +kernel
theorem dX12_heldIn_91 : decode cX12_heldIn 91 = .ok (.aload_n 0, 1) := by decide +kernel
theorem dX12_heldIn_92 : decode cX12_heldIn 92 = .ok (.getfield 155, 3) := by decide +kernel
theorem dX12_heldIn_95 : decode cX12_heldIn 95 = .ok (.iconst 3, 1) := by decide +kernel
theorem dX12_heldIn_96 : decode cX12_heldIn 96 = .ok (.iload 5, 2) := by decide +kernel
theorem dX12_heldIn_98 : decode cX12_heldIn 98 = .ok (.imul, 1) := by decide +kernel
theorem dX12_heldIn_99 : decode cX12_heldIn 99 = .ok (.iload_n 1, 1) := by decide +kernel
theorem dX12_heldIn_100 : decode cX12_heldIn 100 = .ok (.iadd, 1) := by decide +kernel
theorem dX12_heldIn_101 : decode cX12_heldIn 101 = .ok (.iaload, 1) := by decide +kernel
theorem dX12_heldIn_102 : decode cX12_heldIn 102 = .ok (.iload_n 3, 1) := by decide +kernel
theorem dX12_heldIn_103 : decode cX12_heldIn 103 = .ok (.if_icmp .gt 13, 3) := by decide +kernel
theorem dX12_heldIn_106 : decode cX12_heldIn 106 = .ok (.aload_n 0, 1) := by decide +kernel
theorem dX12_heldIn_107 : decode cX12_heldIn 107 = .ok (.getfield 149, 3) := by decide +kernel
theorem dX12_heldIn_110 : decode cX12_heldIn 110 = .ok (.iload 5, 2) := by decide +kernel
theorem dX12_heldIn_112 : decode cX12_heldIn 112 = .ok (.iaload, 1) := by decide +kernel
theorem dX12_heldIn_113 : decode cX12_heldIn 113 = .ok (.goto 4, 3) := by decide +kernel
theorem dX12_heldIn_116 : decode cX12_heldIn 116 = .ok (.iconst 0, 1) := by decide +kernel
theorem dX12_heldIn_117 : decode cX12_heldIn 117 = .ok (.iadd, 1) := by decide +kernel
theorem dX12_heldIn_118 : decode cX12_heldIn 118 = .ok (.istore 4, 2) := by decide +kernel
theorem dX12_heldIn_120 : decode cX12_heldIn 120 = .ok (.iinc 5 1, 3) := by decide +kernel
theorem dX12_heldIn_123 : decode cX12_heldIn 123 = .ok (.goto (-56), 3) := by decide +kernel
theorem dX12_heldIn_126 : decode cX12_heldIn 126 = .ok (.iload 4, 2) := by decide +kernel
theorem dX12_heldIn_128 : decode cX12_heldIn 128 = .ok (.aload_n 0, 1) := by decide +kernel
theorem dX12_heldIn_129 : decode cX12_heldIn 129 = .ok (.getfield 143, 3) := by decide +kernel
theorem dX12_heldIn_132 : decode cX12_heldIn 132 = .ok (.iload_n 1, 1) := by decide +kernel
theorem dX12_heldIn_133 : decode cX12_heldIn 133 = .ok (.iaload, 1) := by decide +kernel
theorem dX12_heldIn_134 : decode cX12_heldIn 134 = .ok (.if_icmp .lt 5, 3) := by decide +kernel
theorem dX12_heldIn_137 : decode cX12_heldIn 137 = .ok (.iload_n 3, 1) := by decide +kernel
theorem dX12_heldIn_138 : decode cX12_heldIn 138 = .ok (.ireturn, 1) := by decide +kernel
theorem dX12_heldIn_139 : decode cX12_heldIn 139 = .ok (.iinc 3 1, 3) := by decide +kernel
theorem dX12_heldIn_142 : decode cX12_heldIn 142 = .ok (.goto (-97), 3) := by decide +kernel
theorem dX12_heldIn_145 : decode cX12_heldIn 145 = .ok (.bipush 24, 2) := by decide +kernel
theorem dX12_heldIn_147 : decode cX12_heldIn 147 = .ok (.ireturn, 1) := by decide +kernel
theorem dX12_lostBy_0 : decode cX12_lostBy 0 = .ok (.aload_n 0, 1) := by decide +kernel
theorem dX12_lostBy_1 : decode cX12_lostBy 1 = .ok (.iload_n 1, 1) := by decide +kernel
theorem dX12_lostBy_2 : decode cX12_lostBy 2 = .ok (.invokevirtual 297, 3) := by decide +kernel
theorem dX12_lostBy_5 : decode cX12_lostBy 5 = .ok (.iconst 0, 1) := by decide +kernel
theorem dX12_lostBy_6 : decode cX12_lostBy 6 = .ok (.istore_n 2, 1) := by decide +kernel
theorem dX12_lostBy_7 : decode cX12_lostBy 7 = .ok (.iconst 0, 1) := by decide +kernel
theorem dX12_lostBy_8 : decode cX12_lostBy 8 = .ok (.istore_n 3, 1) := by decide +kernel
theorem dX12_lostBy_9 : decode cX12_lostBy 9 = .ok (.iload_n 3, 1) := by decide +kernel
theorem dX12_lostBy_10 : decode cX12_lostBy 10 = .ok (.aload_n 0, 1) := by decide +kernel
theorem dX12_lostBy_11 : decode cX12_lostBy 11 = .ok (.getfield 291, 3) := by decide +kernel
theorem dX12_lostBy_14 : decode cX12_lostBy 14 = .ok (.if_icmp .ge 24, 3) := by decide +kernel
theorem dX12_lostBy_17 : decode cX12_lostBy 17 = .ok (.iload_n 2, 1) := by decide +kernel
theorem dX12_lostBy_18 : decode cX12_lostBy 18 = .ok (.aload_n 0, 1) := by decide +kernel
theorem dX12_lostBy_19 : decode cX12_lostBy 19 = .ok (.getfield 146, 3) := by decide +kernel
theorem dX12_lostBy_22 : decode cX12_lostBy 22 = .ok (.iload_n 3, 1) := by decide +kernel
theorem dX12_lostBy_23 : decode cX12_lostBy 23 = .ok (.iaload, 1) := by decide +kernel
theorem dX12_lostBy_24 : decode cX12_lostBy 24 = .ok (.aload_n 0, 1) := by decide +kernel
theorem dX12_lostBy_25 : decode cX12_lostBy 25 = .ok (.iload_n 3, 1) := by decide +kernel
theorem dX12_lostBy_26 : decode cX12_lostBy 26 = .ok (.invokevirtual 301, 3) := by decide +kernel
theorem dX12_lostBy_29 : decode cX12_lostBy 29 = .ok (.imul, 1) := by decide +kernel
theorem dX12_lostBy_30 : decode cX12_lostBy 30 = .ok (.iadd, 1) := by decide +kernel
theorem dX12_lostBy_31 : decode cX12_lostBy 31 = .ok (.istore_n 2, 1) := by decide +kernel
theorem dX12_lostBy_32 : decode cX12_lostBy 32 = .ok (.iinc 3 1, 3) := by decide +kernel
theorem dX12_lostBy_35 : decode cX12_lostBy 35 = .ok (.goto (-26), 3) := by decide +kernel
theorem dX12_lostBy_38 : decode cX12_lostBy 38 = .ok (.iload_n 2, 1) := by decide +kernel
theorem dX12_lostBy_39 : decode cX12_lostBy 39 = .ok (.ireturn, 1) := by decide +kernel
theorem dX12_handsThatGo_0 : decode cX12_handsThatGo 0 = .ok (.iconst 0, 1) := by decide +kernel
theorem dX12_handsThatGo_1 : decode cX12_handsThatGo 1 = .ok (.istore_n 1, 1) := by decide +kernel
theorem dX12_handsThatGo_2 : decode cX12_handsThatGo 2 = .ok (.iconst 0, 1) := by decide +kernel
theorem dX12_handsThatGo_3 : decode cX12_handsThatGo 3 = .ok (.istore_n 2, 1) := by decide +kernel
theorem dX12_handsThatGo_4 : decode cX12_handsThatGo 4 = .ok (.iload_n 2, 1) := by decide +kernel
theorem dX12_handsThatGo_5 : decode cX12_handsThatGo 5 = .ok (.aload_n 0, 1) := by decide +kernel
theorem dX12_handsThatGo_6 : decode cX12_handsThatGo 6 = .ok (.getfield 190, 3) := by decide +kernel
theorem dX12_handsThatGo_9 : decode cX12_handsThatGo 9 = .ok (.if_icmp .ge 31, 3) := by decide +kernel
theorem dX12_handsThatGo_12 : decode cX12_handsThatGo 12 = .ok (.iload_n 1, 1) := by decide +kernel
theorem dX12_handsThatGo_13 : decode cX12_handsThatGo 13 = .ok (.aload_n 0, 1) := by decide +kernel
theorem dX12_handsThatGo_14 : decode cX12_handsThatGo 14 = .ok (.getfield 152, 3) := by decide +kernel
theorem dX12_handsThatGo_17 : decode cX12_handsThatGo 17 = .ok (.iload_n 2, 1) := by decide +kernel
theorem dX12_handsThatGo_18 : decode cX12_handsThatGo 18 = .ok (.iaload, 1) := by decide +kernel
theorem dX12_handsThatGo_19 : decode cX12_handsThatGo 19 = .ok (.ifCond .le 12, 3) := by decide +kernel
theorem dX12_handsThatGo_22 : decode cX12_handsThatGo 22 = .ok (.aload_n 0, 1) := by decide +kernel
theorem dX12_handsThatGo_23 : decode cX12_handsThatGo 23 = .ok (.getfield 149, 3) := by decide +kernel
theorem dX12_handsThatGo_26 : decode cX12_handsThatGo 26 = .ok (.iload_n 2, 1) := by decide +kernel
theorem dX12_handsThatGo_27 : decode cX12_handsThatGo 27 = .ok (.iaload, 1) := by decide +kernel
theorem dX12_handsThatGo_28 : decode cX12_handsThatGo 28 = .ok (.goto 4, 3) := by decide +kernel
theorem dX12_handsThatGo_31 : decode cX12_handsThatGo 31 = .ok (.iconst 0, 1) := by decide +kernel
theorem dX12_handsThatGo_32 : decode cX12_handsThatGo 32 = .ok (.iadd, 1) := by decide +kernel
theorem dX12_handsThatGo_33 : decode cX12_handsThatGo 33 = .ok (.istore_n 1, 1) := by decide +kernel
theorem dX12_handsThatGo_34 : decode cX12_handsThatGo 34 = .ok (.iinc 2 1, 3) := by decide +kernel
theorem dX12_handsThatGo_37 : decode cX12_handsThatGo 37 = .ok (.goto (-33), 3) := by decide +kernel
theorem dX12_handsThatGo_40 : decode cX12_handsThatGo 40 = .ok (.iload_n 1, 1) := by decide +kernel
theorem dX12_handsThatGo_41 : decode cX12_handsThatGo 41 = .ok (.ireturn, 1) := by decide +kernel
theorem dX12_lost_0 : decode cX12_lost 0 = .ok (.aload_n 0, 1) := by decide +kernel
theorem dX12_lost_1 : decode cX12_lost 1 = .ok (.invokevirtual 304, 3) := by decide +kernel
theorem dX12_lost_4 : decode cX12_lost 4 = .ok (.iload_n 1, 1) := by decide +kernel
theorem dX12_lost_5 : decode cX12_lost 5 = .ok (.ifCond .lt 11, 3) := by decide +kernel
theorem dX12_lost_8 : decode cX12_lost 8 = .ok (.iload_n 1, 1) := by decide +kernel
theorem dX12_lost_9 : decode cX12_lost 9 = .ok (.aload_n 0, 1) := by decide +kernel
theorem dX12_lost_10 : decode cX12_lost 10 = .ok (.invokevirtual 307, 3) := by decide +kernel
theorem dX12_lost_13 : decode cX12_lost 13 = .ok (.if_icmp .lt 8, 3) := by decide +kernel
theorem dX12_lost_16 : decode cX12_lost 16 = .ok (.bipush (-2), 2) := by decide +kernel
theorem dX12_lost_18 : decode cX12_lost 18 = .ok (.goto 8, 3) := by decide +kernel
theorem dX12_lost_21 : decode cX12_lost 21 = .ok (.aload_n 0, 1) := by decide +kernel
theorem dX12_lost_22 : decode cX12_lost 22 = .ok (.iload_n 1, 1) := by decide +kernel
theorem dX12_lost_23 : decode cX12_lost 23 = .ok (.invokevirtual 311, 3) := by decide +kernel
theorem dX12_lost_26 : decode cX12_lost 26 = .ok (.ireturn, 1) := by decide +kernel
theorem dX12_call_0 : decode cX12_call 0 = .ok (.iload_n 1, 1) := by decide +kernel
theorem dX12_call_1 : decode cX12_call 1 = .ok (.bipush (-2), 2) := by decide +kernel
theorem dX12_call_3 : decode cX12_call 3 = .ok (.aload_n 0, 1) := by decide +kernel
theorem dX12_call_4 : decode cX12_call 4 = .ok (.getfield 190, 3) := by decide +kernel
theorem dX12_call_7 : decode cX12_call 7 = .ok (.iconst 1, 1) := by decide +kernel
theorem dX12_call_8 : decode cX12_call 8 = .ok (.isub, 1) := by decide +kernel
theorem dX12_call_9 : decode cX12_call 9 = .ok (.invokestatic 186, 3) := by decide +kernel
theorem dX12_call_12 : decode cX12_call 12 = .ok (.ifCond .ne 5, 3) := by decide +kernel
theorem dX12_call_15 : decode cX12_call 15 = .ok (.iconst (-1), 1) := by decide +kernel
theorem dX12_call_16 : decode cX12_call 16 = .ok (.ireturn, 1) := by decide +kernel
theorem dX12_call_17 : decode cX12_call 17 = .ok (.iconst 0, 1) := by decide +kernel
theorem dX12_call_18 : decode cX12_call 18 = .ok (.istore_n 2, 1) := by decide +kernel
theorem dX12_call_19 : decode cX12_call 19 = .ok (.iconst 0, 1) := by decide +kernel
theorem dX12_call_20 : decode cX12_call 20 = .ok (.istore_n 3, 1) := by decide +kernel
theorem dX12_call_21 : decode cX12_call 21 = .ok (.iconst 0, 1) := by decide +kernel
theorem dX12_call_22 : decode cX12_call 22 = .ok (.istore 4, 2) := by decide +kernel
theorem dX12_call_24 : decode cX12_call 24 = .ok (.aload_n 0, 1) := by decide +kernel
theorem dX12_call_25 : decode cX12_call 25 = .ok (.invokevirtual 307, 3) := by decide +kernel
theorem dX12_call_28 : decode cX12_call 28 = .ok (.istore 5, 2) := by decide +kernel
theorem dX12_call_30 : decode cX12_call 30 = .ok (.aload_n 0, 1) := by decide +kernel
theorem dX12_call_31 : decode cX12_call 31 = .ok (.invokevirtual 304, 3) := by decide +kernel
theorem dX12_call_34 : decode cX12_call 34 = .ok (.iconst 0, 1) := by decide +kernel
theorem dX12_call_35 : decode cX12_call 35 = .ok (.istore 6, 2) := by decide +kernel
theorem dX12_call_37 : decode cX12_call 37 = .ok (.iload 6, 2) := by decide +kernel
theorem dX12_call_39 : decode cX12_call 39 = .ok (.iload 5, 2) := by decide +kernel
theorem dX12_call_41 : decode cX12_call 41 = .ok (.if_icmp .ge 57, 3) := by decide +kernel
theorem dX12_call_44 : decode cX12_call 44 = .ok (.aload_n 0, 1) := by decide +kernel
theorem dX12_call_45 : decode cX12_call 45 = .ok (.iload 6, 2) := by decide +kernel
theorem dX12_call_47 : decode cX12_call 47 = .ok (.invokevirtual 311, 3) := by decide +kernel
theorem dX12_call_50 : decode cX12_call 50 = .ok (.istore 7, 2) := by decide +kernel
theorem dX12_call_52 : decode cX12_call 52 = .ok (.aload_n 0, 1) := by decide +kernel
theorem dX12_call_53 : decode cX12_call 53 = .ok (.invokevirtual 314, 3) := by decide +kernel
theorem dX12_call_56 : decode cX12_call 56 = .ok (.istore 8, 2) := by decide +kernel
theorem dX12_call_58 : decode cX12_call 58 = .ok (.iload 6, 2) := by decide +kernel
theorem dX12_call_60 : decode cX12_call 60 = .ok (.ifCond .eq 22, 3) := by decide +kernel
theorem dX12_call_63 : decode cX12_call 63 = .ok (.iload 7, 2) := by decide +kernel
theorem dX12_call_65 : decode cX12_call 65 = .ok (.iload_n 3, 1) := by decide +kernel
theorem dX12_call_66 : decode cX12_call 66 = .ok (.if_icmp .lt 16, 3) := by decide +kernel
theorem dX12_call_69 : decode cX12_call 69 = .ok (.iload 7, 2) := by decide +kernel
theorem dX12_call_71 : decode cX12_call 71 = .ok (.iload_n 3, 1) := by decide +kernel
theorem dX12_call_72 : decode cX12_call 72 = .ok (.if_icmp .ne 20, 3) := by decide +kernel
theorem dX12_call_75 : decode cX12_call 75 = .ok (.iload 8, 2) := by decide +kernel
theorem dX12_call_77 : decode cX12_call 77 = .ok (.iload 4, 2) := by decide +kernel
theorem dX12_call_79 : decode cX12_call 79 = .ok (.if_icmp .ge 13, 3) := by decide +kernel
theorem dX12_call_82 : decode cX12_call 82 = .ok (.iload 6, 2) := by decide +kernel
theorem dX12_call_84 : decode cX12_call 84 = .ok (.istore_n 2, 1) := by decide +kernel
theorem dX12_call_85 : decode cX12_call 85 = .ok (.iload 7, 2) := by decide +kernel
theorem dX12_call_87 : decode cX12_call 87 = .ok (.istore_n 3, 1) := by decide +kernel
theorem dX12_call_88 : decode cX12_call 88 = .ok (.iload 8, 2) := by decide +kernel
theorem dX12_call_90 : decode cX12_call 90 = .ok (.istore 4, 2) := by decide +kernel
theorem dX12_call_92 : decode cX12_call 92 = .ok (.iinc 6 1, 3) := by decide +kernel
theorem dX12_call_95 : decode cX12_call 95 = .ok (.goto (-58), 3) := by decide +kernel
theorem dX12_call_98 : decode cX12_call 98 = .ok (.iload_n 1, 1) := by decide +kernel
theorem dX12_call_99 : decode cX12_call 99 = .ok (.iconst (-1), 1) := by decide +kernel
theorem dX12_call_100 : decode cX12_call 100 = .ok (.if_icmp .ne 5, 3) := by decide +kernel
theorem dX12_call_103 : decode cX12_call 103 = .ok (.iload_n 3, 1) := by decide +kernel
theorem dX12_call_104 : decode cX12_call 104 = .ok (.ireturn, 1) := by decide +kernel
theorem dX12_call_105 : decode cX12_call 105 = .ok (.iload_n 1, 1) := by decide +kernel
theorem dX12_call_106 : decode cX12_call 106 = .ok (.bipush (-2), 2) := by decide +kernel
theorem dX12_call_108 : decode cX12_call 108 = .ok (.if_icmp .ne 6, 3) := by decide +kernel
theorem dX12_call_111 : decode cX12_call 111 = .ok (.iload 4, 2) := by decide +kernel
theorem dX12_call_113 : decode cX12_call 113 = .ok (.ireturn, 1) := by decide +kernel
theorem dX12_call_114 : decode cX12_call 114 = .ok (.aload_n 0, 1) := by decide +kernel
theorem dX12_call_115 : decode cX12_call 115 = .ok (.iload_n 2, 1) := by decide +kernel
theorem dX12_call_116 : decode cX12_call 116 = .ok (.invokevirtual 297, 3) := by decide +kernel
theorem dX12_call_119 : decode cX12_call 119 = .ok (.aload_n 0, 1) := by decide +kernel
theorem dX12_call_120 : decode cX12_call 120 = .ok (.getfield 152, 3) := by decide +kernel
theorem dX12_call_123 : decode cX12_call 123 = .ok (.iload_n 1, 1) := by decide +kernel
theorem dX12_call_124 : decode cX12_call 124 = .ok (.iaload, 1) := by decide +kernel
theorem dX12_call_125 : decode cX12_call 125 = .ok (.ireturn, 1) := by decide +kernel
theorem dX12_place_0 : decode cX12_place 0 = .ok (.iload_n 1, 1) := by decide +kernel
theorem dX12_place_1 : decode cX12_place 1 = .ok (.iload_n 2, 1) := by decide +kernel
theorem dX12_place_2 : decode cX12_place 2 = .ok (.invokestatic 199, 3) := by decide +kernel
theorem dX12_place_5 : decode cX12_place 5 = .ok (.ifCond .eq 14, 3) := by decide +kernel
theorem dX12_place_8 : decode cX12_place 8 = .ok (.iload_n 3, 1) := by decide +kernel
theorem dX12_place_9 : decode cX12_place 9 = .ok (.iconst 0, 1) := by decide +kernel
theorem dX12_place_10 : decode cX12_place 10 = .ok (.sipush 999, 3) := by decide +kernel
theorem dX12_place_13 : decode cX12_place 13 = .ok (.invokestatic 186, 3) := by decide +kernel
theorem dX12_place_16 : decode cX12_place 16 = .ok (.ifCond .ne 6, 3) := by decide +kernel
theorem dX12_place_19 : decode cX12_place 19 = .ok (.bipush (-2), 2) := by decide +kernel
theorem dX12_place_21 : decode cX12_place 21 = .ok (.ireturn, 1) := by decide +kernel
theorem dX12_place_22 : decode cX12_place 22 = .ok (.aload_n 0, 1) := by decide +kernel
theorem dX12_place_23 : decode cX12_place 23 = .ok (.getfield 317, 3) := by decide +kernel
theorem dX12_place_26 : decode cX12_place 26 = .ok (.bipush 8, 2) := by decide +kernel
theorem dX12_place_28 : decode cX12_place 28 = .ok (.if_icmp .ne 6, 3) := by decide +kernel
theorem dX12_place_31 : decode cX12_place 31 = .ok (.bipush (-4), 2) := by decide +kernel
theorem dX12_place_33 : decode cX12_place 33 = .ok (.ireturn, 1) := by decide +kernel
theorem dX12_place_34 : decode cX12_place 34 = .ok (.aload_n 0, 1) := by decide +kernel
theorem dX12_place_35 : decode cX12_place 35 = .ok (.getfield 158, 3) := by decide +kernel
theorem dX12_place_38 : decode cX12_place 38 = .ok (.aload_n 0, 1) := by decide +kernel
theorem dX12_place_39 : decode cX12_place 39 = .ok (.getfield 317, 3) := by decide +kernel
theorem dX12_place_42 : decode cX12_place 42 = .ok (.iload_n 1, 1) := by decide +kernel
theorem dX12_place_43 : decode cX12_place 43 = .ok (.iastore, 1) := by decide +kernel
theorem dX12_place_44 : decode cX12_place 44 = .ok (.aload_n 0, 1) := by decide +kernel
theorem dX12_place_45 : decode cX12_place 45 = .ok (.getfield 161, 3) := by decide +kernel
theorem dX12_place_48 : decode cX12_place 48 = .ok (.aload_n 0, 1) := by decide +kernel
theorem dX12_place_49 : decode cX12_place 49 = .ok (.getfield 317, 3) := by decide +kernel
theorem dX12_place_52 : decode cX12_place 52 = .ok (.iload_n 2, 1) := by decide +kernel
theorem dX12_place_53 : decode cX12_place 53 = .ok (.iastore, 1) := by decide +kernel
theorem dX12_place_54 : decode cX12_place 54 = .ok (.aload_n 0, 1) := by decide +kernel
theorem dX12_place_55 : decode cX12_place 55 = .ok (.getfield 164, 3) := by decide +kernel
theorem dX12_place_58 : decode cX12_place 58 = .ok (.aload_n 0, 1) := by decide +kernel
theorem dX12_place_59 : decode cX12_place 59 = .ok (.getfield 317, 3) := by decide +kernel
theorem dX12_place_62 : decode cX12_place 62 = .ok (.iload_n 3, 1) := by decide +kernel
theorem dX12_place_63 : decode cX12_place 63 = .ok (.iastore, 1) := by decide +kernel
theorem dX12_place_64 : decode cX12_place 64 = .ok (.aload_n 0, 1) := by decide +kernel
theorem dX12_place_65 : decode cX12_place 65 = .ok (.getfield 167, 3) := by decide +kernel
theorem dX12_place_68 : decode cX12_place 68 = .ok (.aload_n 0, 1) := by decide +kernel
theorem dX12_place_69 : decode cX12_place 69 = .ok (.getfield 317, 3) := by decide +kernel
theorem dX12_place_72 : decode cX12_place 72 = .ok (.iload 4, 2) := by decide +kernel
theorem dX12_place_74 : decode cX12_place 74 = .ok (.bastore, 1) := by decide +kernel
theorem dX12_place_75 : decode cX12_place 75 = .ok (.aload_n 0, 1) := by decide +kernel
theorem dX12_place_76 : decode cX12_place 76 = .ok (.dup, 1) := by decide +kernel
theorem dX12_place_77 : decode cX12_place 77 = .ok (.getfield 317, 3) := by decide +kernel
theorem dX12_place_80 : decode cX12_place 80 = .ok (.iconst 1, 1) := by decide +kernel
theorem dX12_place_81 : decode cX12_place 81 = .ok (.iadd, 1) := by decide +kernel
theorem dX12_place_82 : decode cX12_place 82 = .ok (.putfield 317, 3) := by decide +kernel
theorem dX12_place_85 : decode cX12_place 85 = .ok (.aload_n 0, 1) := by decide +kernel
theorem dX12_place_86 : decode cX12_place 86 = .ok (.getfield 317, 3) := by decide +kernel
theorem dX12_place_89 : decode cX12_place 89 = .ok (.iconst 1, 1) := by decide +kernel
theorem dX12_place_90 : decode cX12_place 90 = .ok (.isub, 1) := by decide +kernel
theorem dX12_place_91 : decode cX12_place 91 = .ok (.ireturn, 1) := by decide +kernel
theorem dX12_bitsOf_0 : decode cX12_bitsOf 0 = .ok (.iconst 0, 1) := by decide +kernel
theorem dX12_bitsOf_1 : decode cX12_bitsOf 1 = .ok (.istore_n 1, 1) := by decide +kernel
theorem dX12_bitsOf_2 : decode cX12_bitsOf 2 = .ok (.iconst 0, 1) := by decide +kernel
theorem dX12_bitsOf_3 : decode cX12_bitsOf 3 = .ok (.istore_n 2, 1) := by decide +kernel
theorem dX12_bitsOf_4 : decode cX12_bitsOf 4 = .ok (.iload_n 2, 1) := by decide +kernel
theorem dX12_bitsOf_5 : decode cX12_bitsOf 5 = .ok (.bipush 8, 2) := by decide +kernel
theorem dX12_bitsOf_7 : decode cX12_bitsOf 7 = .ok (.if_icmp .ge 17, 3) := by decide +kernel
theorem dX12_bitsOf_10 : decode cX12_bitsOf 10 = .ok (.iload_n 1, 1) := by decide +kernel
theorem dX12_bitsOf_11 : decode cX12_bitsOf 11 = .ok (.iload_n 0, 1) := by decide +kernel
theorem dX12_bitsOf_12 : decode cX12_bitsOf 12 = .ok (.iload_n 2, 1) := by decide +kernel
theorem dX12_bitsOf_13 : decode cX12_bitsOf 13 = .ok (.ishr, 1) := by decide +kernel
theorem dX12_bitsOf_14 : decode cX12_bitsOf 14 = .ok (.iconst 1, 1) := by decide +kernel
theorem dX12_bitsOf_15 : decode cX12_bitsOf 15 = .ok (.iand, 1) := by decide +kernel
theorem dX12_bitsOf_16 : decode cX12_bitsOf 16 = .ok (.iadd, 1) := by decide +kernel
theorem dX12_bitsOf_17 : decode cX12_bitsOf 17 = .ok (.istore_n 1, 1) := by decide +kernel
theorem dX12_bitsOf_18 : decode cX12_bitsOf 18 = .ok (.iinc 2 1, 3) := by decide +kernel
theorem dX12_bitsOf_21 : decode cX12_bitsOf 21 = .ok (.goto (-17), 3) := by decide +kernel
theorem dX12_bitsOf_24 : decode cX12_bitsOf 24 = .ok (.iload_n 1, 1) := by decide +kernel
theorem dX12_bitsOf_25 : decode cX12_bitsOf 25 = .ok (.ireturn, 1) := by decide +kernel
theorem dX12_gainOf_0 : decode cX12_gainOf 0 = .ok (.aload_n 0, 1) := by decide +kernel
theorem dX12_gainOf_1 : decode cX12_gainOf 1 = .ok (.getfield 164, 3) := by decide +kernel
theorem dX12_gainOf_4 : decode cX12_gainOf 4 = .ok (.iload_n 2, 1) := by decide +kernel
theorem dX12_gainOf_5 : decode cX12_gainOf 5 = .ok (.iaload, 1) := by decide +kernel
theorem dX12_gainOf_6 : decode cX12_gainOf 6 = .ok (.aload_n 0, 1) := by decide +kernel
theorem dX12_gainOf_7 : decode cX12_gainOf 7 = .ok (.getfield 19, 3) := by decide +kernel
theorem dX12_gainOf_10 : decode cX12_gainOf 10 = .ok (.iload_n 1, 1) := by decide +kernel
theorem dX12_gainOf_11 : decode cX12_gainOf 11 = .ok (.iaload, 1) := by decide +kernel
theorem dX12_gainOf_12 : decode cX12_gainOf 12 = .ok (.aload_n 0, 1) := by decide +kernel
theorem dX12_gainOf_13 : decode cX12_gainOf 13 = .ok (.getfield 158, 3) := by decide +kernel
theorem dX12_gainOf_16 : decode cX12_gainOf 16 = .ok (.iload_n 2, 1) := by decide +kernel
theorem dX12_gainOf_17 : decode cX12_gainOf 17 = .ok (.iaload, 1) := by decide +kernel
theorem dX12_gainOf_18 : decode cX12_gainOf 18 = .ok (.isub, 1) := by decide +kernel
theorem dX12_gainOf_19 : decode cX12_gainOf 19 = .ok (.invokestatic 294, 3) := by decide +kernel
theorem dX12_gainOf_22 : decode cX12_gainOf 22 = .ok (.isub, 1) := by decide +kernel
theorem dX12_gainOf_23 : decode cX12_gainOf 23 = .ok (.aload_n 0, 1) := by decide +kernel
theorem dX12_gainOf_24 : decode cX12_gainOf 24 = .ok (.getfield 22, 3) := by decide +kernel
theorem dX12_gainOf_27 : decode cX12_gainOf 27 = .ok (.iload_n 1, 1) := by decide +kernel
theorem dX12_gainOf_28 : decode cX12_gainOf 28 = .ok (.iaload, 1) := by decide +kernel
theorem dX12_gainOf_29 : decode cX12_gainOf 29 = .ok (.aload_n 0, 1) := by decide +kernel
theorem dX12_gainOf_30 : decode cX12_gainOf 30 = .ok (.getfield 161, 3) := by decide +kernel
theorem dX12_gainOf_33 : decode cX12_gainOf 33 = .ok (.iload_n 2, 1) := by decide +kernel
theorem dX12_gainOf_34 : decode cX12_gainOf 34 = .ok (.iaload, 1) := by decide +kernel
theorem dX12_gainOf_35 : decode cX12_gainOf 35 = .ok (.isub, 1) := by decide +kernel
theorem dX12_gainOf_36 : decode cX12_gainOf 36 = .ok (.invokestatic 294, 3) := by decide +kernel
theorem dX12_gainOf_39 : decode cX12_gainOf 39 = .ok (.isub, 1) := by decide +kernel
theorem dX12_gainOf_40 : decode cX12_gainOf 40 = .ok (.i2l, 1) := by decide +kernel
theorem dX12_gainOf_41 : decode cX12_gainOf 41 = .ok (.lreturn, 1) := by decide +kernel
theorem dX12_layMoves_0 : decode cX12_layMoves 0 = .ok (.iconst 1, 1) := by decide +kernel
theorem dX12_layMoves_1 : decode cX12_layMoves 1 = .ok (.aload_n 0, 1) := by decide +kernel
theorem dX12_layMoves_2 : decode cX12_layMoves 2 = .ok (.getfield 317, 3) := by decide +kernel
theorem dX12_layMoves_5 : decode cX12_layMoves 5 = .ok (.ishl, 1) := by decide +kernel
theorem dX12_layMoves_6 : decode cX12_layMoves 6 = .ok (.iconst 1, 1) := by decide +kernel
theorem dX12_layMoves_7 : decode cX12_layMoves 7 = .ok (.isub, 1) := by decide +kernel
theorem dX12_layMoves_8 : decode cX12_layMoves 8 = .ok (.istore_n 1, 1) := by decide +kernel
theorem dX12_layMoves_9 : decode cX12_layMoves 9 = .ok (.iload_n 1, 1) := by decide +kernel
theorem dX12_layMoves_10 : decode cX12_layMoves 10 = .ok (.ifCond .lt 158, 3) := by decide +kernel
theorem dX12_layMoves_13 : decode cX12_layMoves 13 = .ok (.iload_n 1, 1) := by decide +kernel
theorem dX12_layMoves_14 : decode cX12_layMoves 14 = .ok (.invokestatic 320, 3) := by decide +kernel
theorem dX12_layMoves_17 : decode cX12_layMoves 17 = .ok (.istore_n 2, 1) := by decide +kernel
theorem dX12_layMoves_18 : decode cX12_layMoves 18 = .ok (.aload_n 0, 1) := by decide +kernel
theorem dX12_layMoves_19 : decode cX12_layMoves 19 = .ok (.getfield 171, 3) := by decide +kernel
theorem dX12_layMoves_22 : decode cX12_layMoves 22 = .ok (.iload_n 1, 1) := by decide +kernel
theorem dX12_layMoves_23 : decode cX12_layMoves 23 = .ok (.iload_n 2, 1) := by decide +kernel
theorem dX12_layMoves_24 : decode cX12_layMoves 24 = .ok (.aload_n 0, 1) := by decide +kernel
theorem dX12_layMoves_25 : decode cX12_layMoves 25 = .ok (.getfield 190, 3) := by decide +kernel
theorem dX12_layMoves_28 : decode cX12_layMoves 28 = .ok (.if_icmp .ne 7, 3) := by decide +kernel
theorem dX12_layMoves_31 : decode cX12_layMoves 31 = .ok (.lconst 0, 1) := by decide +kernel
theorem dX12_layMoves_32 : decode cX12_layMoves 32 = .ok (.goto 6, 3) := by decide +kernel
theorem dX12_layMoves_35 : decode cX12_layMoves 35 = .ok (.ldc2_w 184, 3) := by decide +kernel
theorem dX12_layMoves_38 : decode cX12_layMoves 38 = .ok (.lastore, 1) := by decide +kernel
theorem dX12_layMoves_39 : decode cX12_layMoves 39 = .ok (.iconst 0, 1) := by decide +kernel
theorem dX12_layMoves_40 : decode cX12_layMoves 40 = .ok (.istore_n 3, 1) := by decide +kernel
theorem dX12_layMoves_41 : decode cX12_layMoves 41 = .ok (.iload_n 3, 1) := by decide +kernel
theorem dX12_layMoves_42 : decode cX12_layMoves 42 = .ok (.aload_n 0, 1) := by decide +kernel
theorem dX12_layMoves_43 : decode cX12_layMoves 43 = .ok (.getfield 317, 3) := by decide +kernel
theorem dX12_layMoves_46 : decode cX12_layMoves 46 = .ok (.if_icmp .ge 116, 3) := by decide +kernel
theorem dX12_layMoves_49 : decode cX12_layMoves 49 = .ok (.iload_n 2, 1) := by decide +kernel
theorem dX12_layMoves_50 : decode cX12_layMoves 50 = .ok (.aload_n 0, 1) := by decide +kernel
theorem dX12_layMoves_51 : decode cX12_layMoves 51 = .ok (.getfield 190, 3) := by decide +kernel
theorem dX12_layMoves_54 : decode cX12_layMoves 54 = .ok (.if_icmp .ge 108, 3) := by decide +kernel
theorem dX12_layMoves_57 : decode cX12_layMoves 57 = .ok (.iload_n 1, 1) := by decide +kernel
theorem dX12_layMoves_58 : decode cX12_layMoves 58 = .ok (.iload_n 3, 1) := by decide +kernel
theorem dX12_layMoves_59 : decode cX12_layMoves 59 = .ok (.ishr, 1) := by decide +kernel
theorem dX12_layMoves_60 : decode cX12_layMoves 60 = .ok (.iconst 1, 1) := by decide +kernel
theorem dX12_layMoves_61 : decode cX12_layMoves 61 = .ok (.iand, 1) := by decide +kernel
theorem dX12_layMoves_62 : decode cX12_layMoves 62 = .ok (.iconst 1, 1) := by decide +kernel
theorem dX12_layMoves_63 : decode cX12_layMoves 63 = .ok (.if_icmp .eq 93, 3) := by decide +kernel
theorem dX12_layMoves_66 : decode cX12_layMoves 66 = .ok (.aload_n 0, 1) := by decide +kernel
theorem dX12_layMoves_67 : decode cX12_layMoves 67 = .ok (.getfield 167, 3) := by decide +kernel
theorem dX12_layMoves_70 : decode cX12_layMoves 70 = .ok (.iload_n 3, 1) := by decide +kernel
theorem dX12_layMoves_71 : decode cX12_layMoves 71 = .ok (.baload, 1) := by decide +kernel
theorem dX12_layMoves_72 : decode cX12_layMoves 72 = .ok (.ifCond .eq 84, 3) := by decide +kernel
theorem dX12_layMoves_75 : decode cX12_layMoves 75 = .ok (.aload_n 0, 1) := by decide +kernel
theorem dX12_layMoves_76 : decode cX12_layMoves 76 = .ok (.getfield 171, 3) := by decide +kernel
theorem dX12_layMoves_79 : decode cX12_layMoves 79 = .ok (.iload_n 1, 1) := by decide +kernel
theorem dX12_layMoves_80 : decode cX12_layMoves 80 = .ok (.iconst 1, 1) := by decide +kernel
theorem dX12_layMoves_81 : decode cX12_layMoves 81 = .ok (.iload_n 3, 1) := by decide +kernel
theorem dX12_layMoves_82 : decode cX12_layMoves 82 = .ok (.ishl, 1) := by decide +kernel
theorem dX12_layMoves_83 : decode cX12_layMoves 83 = .ok (.ior, 1) := by decide +kernel
theorem dX12_layMoves_84 : decode cX12_layMoves 84 = .ok (.laload, 1) := by decide +kernel
theorem dX12_layMoves_85 : decode cX12_layMoves 85 = .ok (.ldc2_w 184, 3) := by decide +kernel
theorem dX12_layMoves_88 : decode cX12_layMoves 88 = .ok (.lcmp, 1) := by decide +kernel
theorem dX12_layMoves_89 : decode cX12_layMoves 89 = .ok (.ifCond .ne 6, 3) := by decide +kernel
theorem dX12_layMoves_92 : decode cX12_layMoves 92 = .ok (.goto 64, 3) := by decide +kernel
theorem dX12_layMoves_95 : decode cX12_layMoves 95 = .ok (.aload_n 0, 1) := by decide +kernel
theorem dX12_layMoves_96 : decode cX12_layMoves 96 = .ok (.iload_n 2, 1) := by decide +kernel
theorem dX12_layMoves_97 : decode cX12_layMoves 97 = .ok (.iload_n 3, 1) := by decide +kernel
theorem dX12_layMoves_98 : decode cX12_layMoves 98 = .ok (.invokevirtual 323, 3) := by decide +kernel
theorem dX12_layMoves_101 : decode cX12_layMoves 101 = .ok (.aload_n 0, 1) := by decide +kernel
theorem dX12_layMoves_102 : decode cX12_layMoves 102 = .ok (.getfield 171, 3) := by decide +kernel
theorem dX12_layMoves_105 : decode cX12_layMoves 105 = .ok (.iload_n 1, 1) := by decide +kernel
theorem dX12_layMoves_106 : decode cX12_layMoves 106 = .ok (.iconst 1, 1) := by decide +kernel
theorem dX12_layMoves_107 : decode cX12_layMoves 107 = .ok (.iload_n 3, 1) := by decide +kernel
theorem dX12_layMoves_108 : decode cX12_layMoves 108 = .ok (.ishl, 1) := by decide +kernel
theorem dX12_layMoves_109 : decode cX12_layMoves 109 = .ok (.ior, 1) := by decide +kernel
theorem dX12_layMoves_110 : decode cX12_layMoves 110 = .ok (.laload, 1) := by decide +kernel
theorem dX12_layMoves_111 : decode cX12_layMoves 111 = .ok (.ladd, 1) := by decide +kernel
theorem dX12_layMoves_112 : decode cX12_layMoves 112 = .ok (.lstore 4, 2) := by decide +kernel
theorem dX12_layMoves_114 : decode cX12_layMoves 114 = .ok (.aload_n 0, 1) := by decide +kernel
theorem dX12_layMoves_115 : decode cX12_layMoves 115 = .ok (.getfield 171, 3) := by decide +kernel
theorem dX12_layMoves_118 : decode cX12_layMoves 118 = .ok (.iload_n 1, 1) := by decide +kernel
theorem dX12_layMoves_119 : decode cX12_layMoves 119 = .ok (.aload_n 0, 1) := by decide +kernel
theorem dX12_layMoves_120 : decode cX12_layMoves 120 = .ok (.getfield 171, 3) := by decide +kernel
theorem dX12_layMoves_123 : decode cX12_layMoves 123 = .ok (.iload_n 1, 1) := by decide +kernel
theorem dX12_layMoves_124 : decode cX12_layMoves 124 = .ok (.laload, 1) := by decide +kernel
theorem dX12_layMoves_125 : decode cX12_layMoves 125 = .ok (.ldc2_w 184, 3) := by decide +kernel
theorem dX12_layMoves_128 : decode cX12_layMoves 128 = .ok (.lcmp, 1) := by decide +kernel
theorem dX12_layMoves_129 : decode cX12_layMoves 129 = .ok (.ifCond .eq 15, 3) := by decide +kernel
theorem dX12_layMoves_132 : decode cX12_layMoves 132 = .ok (.lload 4, 2) := by decide +kernel
theorem dX12_layMoves_134 : decode cX12_layMoves 134 = .ok (.aload_n 0, 1) := by decide +kernel
theorem dX12_layMoves_135 : decode cX12_layMoves 135 = .ok (.getfield 171, 3) := by decide +kernel
theorem dX12_layMoves_138 : decode cX12_layMoves 138 = .ok (.iload_n 1, 1) := by decide +kernel
theorem dX12_layMoves_139 : decode cX12_layMoves 139 = .ok (.laload, 1) := by decide +kernel
theorem dX12_layMoves_140 : decode cX12_layMoves 140 = .ok (.lcmp, 1) := by decide +kernel
theorem dX12_layMoves_141 : decode cX12_layMoves 141 = .ok (.ifCond .le 8, 3) := by decide +kernel
theorem dX12_layMoves_144 : decode cX12_layMoves 144 = .ok (.lload 4, 2) := by decide +kernel
theorem dX12_layMoves_146 : decode cX12_layMoves 146 = .ok (.goto 9, 3) := by decide +kernel
theorem dX12_layMoves_149 : decode cX12_layMoves 149 = .ok (.aload_n 0, 1) := by decide +kernel
theorem dX12_layMoves_150 : decode cX12_layMoves 150 = .ok (.getfield 171, 3) := by decide +kernel
theorem dX12_layMoves_153 : decode cX12_layMoves 153 = .ok (.iload_n 1, 1) := by decide +kernel
theorem dX12_layMoves_154 : decode cX12_layMoves 154 = .ok (.laload, 1) := by decide +kernel
theorem dX12_layMoves_155 : decode cX12_layMoves 155 = .ok (.lastore, 1) := by decide +kernel
theorem dX12_layMoves_156 : decode cX12_layMoves 156 = .ok (.iinc 3 1, 3) := by decide +kernel
theorem dX12_layMoves_159 : decode cX12_layMoves 159 = .ok (.goto (-118), 3) := by decide +kernel
theorem dX12_layMoves_162 : decode cX12_layMoves 162 = .ok (.iinc 1 (-1), 3) := by decide +kernel
theorem dX12_layMoves_165 : decode cX12_layMoves 165 = .ok (.goto (-156), 3) := by decide +kernel
theorem dX12_layMoves_168 : decode cX12_layMoves 168 = .ok (.return_, 1) := by decide +kernel
theorem dX12_placeOf_0 : decode cX12_placeOf 0 = .ok (.iconst 0, 1) := by decide +kernel
theorem dX12_placeOf_1 : decode cX12_placeOf 1 = .ok (.istore_n 2, 1) := by decide +kernel
theorem dX12_placeOf_2 : decode cX12_placeOf 2 = .ok (.iconst 0, 1) := by decide +kernel
theorem dX12_placeOf_3 : decode cX12_placeOf 3 = .ok (.istore_n 3, 1) := by decide +kernel
theorem dX12_placeOf_4 : decode cX12_placeOf 4 = .ok (.iconst 0, 1) := by decide +kernel
theorem dX12_placeOf_5 : decode cX12_placeOf 5 = .ok (.istore 4, 2) := by decide +kernel
theorem dX12_placeOf_7 : decode cX12_placeOf 7 = .ok (.iload 4, 2) := by decide +kernel
theorem dX12_placeOf_9 : decode cX12_placeOf 9 = .ok (.iload_n 1, 1) := by decide +kernel
theorem dX12_placeOf_10 : decode cX12_placeOf 10 = .ok (.if_icmp .gt 96, 3) := by decide +kernel
theorem dX12_placeOf_13 : decode cX12_placeOf 13 = .ok (.iconst 0, 1) := by decide +kernel
theorem dX12_placeOf_14 : decode cX12_placeOf 14 = .ok (.istore 5, 2) := by decide +kernel
theorem dX12_placeOf_16 : decode cX12_placeOf 16 = .ok (.iload_n 2, 1) := by decide +kernel
theorem dX12_placeOf_17 : decode cX12_placeOf 17 = .ok (.iload 5, 2) := by decide +kernel
theorem dX12_placeOf_19 : decode cX12_placeOf 19 = .ok (.ishr, 1) := by decide +kernel
theorem dX12_placeOf_20 : decode cX12_placeOf 20 = .ok (.iconst 1, 1) := by decide +kernel
theorem dX12_placeOf_21 : decode cX12_placeOf 21 = .ok (.iand, 1) := by decide +kernel
theorem dX12_placeOf_22 : decode cX12_placeOf 22 = .ok (.iconst 1, 1) := by decide +kernel
theorem dX12_placeOf_23 : decode cX12_placeOf 23 = .ok (.if_icmp .eq 61, 3) := by decide +kernel
theorem dX12_placeOf_26 : decode cX12_placeOf 26 = .ok (.aload_n 0, 1) := by decide +kernel
theorem dX12_placeOf_27 : decode cX12_placeOf 27 = .ok (.getfield 167, 3) := by decide +kernel
theorem dX12_placeOf_30 : decode cX12_placeOf 30 = .ok (.iload 5, 2) := by decide +kernel
theorem dX12_placeOf_32 : decode cX12_placeOf 32 = .ok (.baload, 1) := by decide +kernel
theorem dX12_placeOf_33 : decode cX12_placeOf 33 = .ok (.ifCond .eq 51, 3) := by decide +kernel
theorem dX12_placeOf_36 : decode cX12_placeOf 36 = .ok (.aload_n 0, 1) := by decide +kernel
theorem dX12_placeOf_37 : decode cX12_placeOf 37 = .ok (.getfield 171, 3) := by decide +kernel
theorem dX12_placeOf_40 : decode cX12_placeOf 40 = .ok (.iload_n 2, 1) := by decide +kernel
theorem dX12_placeOf_41 : decode cX12_placeOf 41 = .ok (.iconst 1, 1) := by decide +kernel
theorem dX12_placeOf_42 : decode cX12_placeOf 42 = .ok (.iload 5, 2) := by decide +kernel
theorem dX12_placeOf_44 : decode cX12_placeOf 44 = .ok (.ishl, 1) := by decide +kernel
theorem dX12_placeOf_45 : decode cX12_placeOf 45 = .ok (.ior, 1) := by decide +kernel
theorem dX12_placeOf_46 : decode cX12_placeOf 46 = .ok (.laload, 1) := by decide +kernel
theorem dX12_placeOf_47 : decode cX12_placeOf 47 = .ok (.ldc2_w 184, 3) := by decide +kernel
theorem dX12_placeOf_50 : decode cX12_placeOf 50 = .ok (.lcmp, 1) := by decide +kernel
theorem dX12_placeOf_51 : decode cX12_placeOf 51 = .ok (.ifCond .eq 33, 3) := by decide +kernel
theorem dX12_placeOf_54 : decode cX12_placeOf 54 = .ok (.aload_n 0, 1) := by decide +kernel
theorem dX12_placeOf_55 : decode cX12_placeOf 55 = .ok (.iload 4, 2) := by decide +kernel
theorem dX12_placeOf_57 : decode cX12_placeOf 57 = .ok (.iload 5, 2) := by decide +kernel
theorem dX12_placeOf_59 : decode cX12_placeOf 59 = .ok (.invokevirtual 323, 3) := by decide +kernel
theorem dX12_placeOf_62 : decode cX12_placeOf 62 = .ok (.aload_n 0, 1) := by decide +kernel
theorem dX12_placeOf_63 : decode cX12_placeOf 63 = .ok (.getfield 171, 3) := by decide +kernel
theorem dX12_placeOf_66 : decode cX12_placeOf 66 = .ok (.iload_n 2, 1) := by decide +kernel
theorem dX12_placeOf_67 : decode cX12_placeOf 67 = .ok (.iconst 1, 1) := by decide +kernel
theorem dX12_placeOf_68 : decode cX12_placeOf 68 = .ok (.iload 5, 2) := by decide +kernel
theorem dX12_placeOf_70 : decode cX12_placeOf 70 = .ok (.ishl, 1) := by decide +kernel
theorem dX12_placeOf_71 : decode cX12_placeOf 71 = .ok (.ior, 1) := by decide +kernel
theorem dX12_placeOf_72 : decode cX12_placeOf 72 = .ok (.laload, 1) := by decide +kernel
theorem dX12_placeOf_73 : decode cX12_placeOf 73 = .ok (.ladd, 1) := by decide +kernel
theorem dX12_placeOf_74 : decode cX12_placeOf 74 = .ok (.aload_n 0, 1) := by decide +kernel
theorem dX12_placeOf_75 : decode cX12_placeOf 75 = .ok (.getfield 171, 3) := by decide +kernel
theorem dX12_placeOf_78 : decode cX12_placeOf 78 = .ok (.iload_n 2, 1) := by decide +kernel
theorem dX12_placeOf_79 : decode cX12_placeOf 79 = .ok (.laload, 1) := by decide +kernel
theorem dX12_placeOf_80 : decode cX12_placeOf 80 = .ok (.lcmp, 1) := by decide +kernel
theorem dX12_placeOf_81 : decode cX12_placeOf 81 = .ok (.ifCond .eq 9, 3) := by decide +kernel
theorem dX12_placeOf_84 : decode cX12_placeOf 84 = .ok (.iinc 5 1, 3) := by decide +kernel
theorem dX12_placeOf_87 : decode cX12_placeOf 87 = .ok (.goto (-71), 3) := by decide +kernel
theorem dX12_placeOf_90 : decode cX12_placeOf 90 = .ok (.iload_n 2, 1) := by decide +kernel
theorem dX12_placeOf_91 : decode cX12_placeOf 91 = .ok (.iconst 1, 1) := by decide +kernel
theorem dX12_placeOf_92 : decode cX12_placeOf 92 = .ok (.iload 5, 2) := by decide +kernel
theorem dX12_placeOf_94 : decode cX12_placeOf 94 = .ok (.ishl, 1) := by decide +kernel
theorem dX12_placeOf_95 : decode cX12_placeOf 95 = .ok (.ior, 1) := by decide +kernel
theorem dX12_placeOf_96 : decode cX12_placeOf 96 = .ok (.istore_n 2, 1) := by decide +kernel
theorem dX12_placeOf_97 : decode cX12_placeOf 97 = .ok (.iload 5, 2) := by decide +kernel
theorem dX12_placeOf_99 : decode cX12_placeOf 99 = .ok (.istore_n 3, 1) := by decide +kernel
theorem dX12_placeOf_100 : decode cX12_placeOf 100 = .ok (.iinc 4 1, 3) := by decide +kernel
theorem dX12_placeOf_103 : decode cX12_placeOf 103 = .ok (.goto (-96), 3) := by decide +kernel
theorem dX12_placeOf_106 : decode cX12_placeOf 106 = .ok (.iload_n 3, 1) := by decide +kernel
theorem dX12_placeOf_107 : decode cX12_placeOf 107 = .ok (.ireturn, 1) := by decide +kernel
theorem dX12_move_0 : decode cX12_move 0 = .ok (.iload_n 1, 1) := by decide +kernel
theorem dX12_move_1 : decode cX12_move 1 = .ok (.iconst (-1), 1) := by decide +kernel
theorem dX12_move_2 : decode cX12_move 2 = .ok (.aload_n 0, 1) := by decide +kernel
theorem dX12_move_3 : decode cX12_move 3 = .ok (.getfield 190, 3) := by decide +kernel
theorem dX12_move_6 : decode cX12_move 6 = .ok (.iconst 1, 1) := by decide +kernel
theorem dX12_move_7 : decode cX12_move 7 = .ok (.isub, 1) := by decide +kernel
theorem dX12_move_8 : decode cX12_move 8 = .ok (.invokestatic 186, 3) := by decide +kernel
theorem dX12_move_11 : decode cX12_move 11 = .ok (.ifCond .ne 7, 3) := by decide +kernel
theorem dX12_move_14 : decode cX12_move 14 = .ok (.ldc2_w 184, 3) := by decide +kernel
theorem dX12_move_17 : decode cX12_move 17 = .ok (.lreturn, 1) := by decide +kernel
theorem dX12_move_18 : decode cX12_move 18 = .ok (.aload_n 0, 1) := by decide +kernel
theorem dX12_move_19 : decode cX12_move 19 = .ok (.invokevirtual 326, 3) := by decide +kernel
theorem dX12_move_22 : decode cX12_move 22 = .ok (.iload_n 1, 1) := by decide +kernel
theorem dX12_move_23 : decode cX12_move 23 = .ok (.iconst (-1), 1) := by decide +kernel
theorem dX12_move_24 : decode cX12_move 24 = .ok (.if_icmp .ne 10, 3) := by decide +kernel
theorem dX12_move_27 : decode cX12_move 27 = .ok (.aload_n 0, 1) := by decide +kernel
theorem dX12_move_28 : decode cX12_move 28 = .ok (.getfield 171, 3) := by decide +kernel
theorem dX12_move_31 : decode cX12_move 31 = .ok (.iconst 0, 1) := by decide +kernel
theorem dX12_move_32 : decode cX12_move 32 = .ok (.laload, 1) := by decide +kernel
theorem dX12_move_33 : decode cX12_move 33 = .ok (.lreturn, 1) := by decide +kernel
theorem dX12_move_34 : decode cX12_move 34 = .ok (.aload_n 0, 1) := by decide +kernel
theorem dX12_move_35 : decode cX12_move 35 = .ok (.getfield 171, 3) := by decide +kernel
theorem dX12_move_38 : decode cX12_move 38 = .ok (.iconst 0, 1) := by decide +kernel
theorem dX12_move_39 : decode cX12_move 39 = .ok (.laload, 1) := by decide +kernel
theorem dX12_move_40 : decode cX12_move 40 = .ok (.ldc2_w 184, 3) := by decide +kernel
theorem dX12_move_43 : decode cX12_move 43 = .ok (.lcmp, 1) := by decide +kernel
theorem dX12_move_44 : decode cX12_move 44 = .ok (.ifCond .ne 9, 3) := by decide +kernel
theorem dX12_move_47 : decode cX12_move 47 = .ok (.ldc2_w 329, 3) := by decide +kernel
theorem dX12_move_50 : decode cX12_move 50 = .ok (.goto 9, 3) := by decide +kernel
theorem dX12_move_53 : decode cX12_move 53 = .ok (.aload_n 0, 1) := by decide +kernel
theorem dX12_move_54 : decode cX12_move 54 = .ok (.iload_n 1, 1) := by decide +kernel
theorem dX12_move_55 : decode cX12_move 55 = .ok (.invokevirtual 331, 3) := by decide +kernel
theorem dX12_move_58 : decode cX12_move 58 = .ok (.i2l, 1) := by decide +kernel
theorem dX12_move_59 : decode cX12_move 59 = .ok (.lreturn, 1) := by decide +kernel
theorem dX12_gain_0 : decode cX12_gain 0 = .ok (.aload_n 0, 1) := by decide +kernel
theorem dX12_gain_1 : decode cX12_gain 1 = .ok (.iconst 0, 1) := by decide +kernel
theorem dX12_gain_2 : decode cX12_gain 2 = .ok (.putfield 181, 3) := by decide +kernel
theorem dX12_gain_5 : decode cX12_gain 5 = .ok (.iload_n 1, 1) := by decide +kernel
theorem dX12_gain_6 : decode cX12_gain 6 = .ok (.invokestatic 239, 3) := by decide +kernel
theorem dX12_gain_9 : decode cX12_gain 9 = .ok (.ifCond .eq 10, 3) := by decide +kernel
theorem dX12_gain_12 : decode cX12_gain 12 = .ok (.iload_n 2, 1) := by decide +kernel
theorem dX12_gain_13 : decode cX12_gain 13 = .ok (.invokestatic 242, 3) := by decide +kernel
theorem dX12_gain_16 : decode cX12_gain 16 = .ok (.ifCond .ne 7, 3) := by decide +kernel
theorem dX12_gain_19 : decode cX12_gain 19 = .ok (.ldc2_w 184, 3) := by decide +kernel
theorem dX12_gain_22 : decode cX12_gain 22 = .ok (.lreturn, 1) := by decide +kernel
theorem dX12_gain_23 : decode cX12_gain 23 = .ok (.aload_n 0, 1) := by decide +kernel
theorem dX12_gain_24 : decode cX12_gain 24 = .ok (.iload_n 1, 1) := by decide +kernel
theorem dX12_gain_25 : decode cX12_gain 25 = .ok (.iload_n 2, 1) := by decide +kernel
theorem dX12_gain_26 : decode cX12_gain 26 = .ok (.iload_n 3, 1) := by decide +kernel
theorem dX12_gain_27 : decode cX12_gain 27 = .ok (.iload 4, 2) := by decide +kernel
theorem dX12_gain_29 : decode cX12_gain 29 = .ok (.invokevirtual 245, 3) := by decide +kernel
theorem dX12_gain_32 : decode cX12_gain 32 = .ok (.istore 5, 2) := by decide +kernel
theorem dX12_gain_34 : decode cX12_gain 34 = .ok (.iload 5, 2) := by decide +kernel
theorem dX12_gain_36 : decode cX12_gain 36 = .ok (.ifCond .eq 10, 3) := by decide +kernel
theorem dX12_gain_39 : decode cX12_gain 39 = .ok (.aload_n 0, 1) := by decide +kernel
theorem dX12_gain_40 : decode cX12_gain 40 = .ok (.iload 5, 2) := by decide +kernel
theorem dX12_gain_42 : decode cX12_gain 42 = .ok (.invokevirtual 334, 3) := by decide +kernel
theorem dX12_gain_45 : decode cX12_gain 45 = .ok (.lreturn, 1) := by decide +kernel
theorem dX12_gain_46 : decode cX12_gain 46 = .ok (.iload 4, 2) := by decide +kernel
theorem dX12_gain_48 : decode cX12_gain 48 = .ok (.aload_n 0, 1) := by decide +kernel
theorem dX12_gain_49 : decode cX12_gain 49 = .ok (.getfield 190, 3) := by decide +kernel
theorem dX12_gain_52 : decode cX12_gain 52 = .ok (.if_icmp .eq 7, 3) := by decide +kernel
theorem dX12_gain_55 : decode cX12_gain 55 = .ok (.ldc2_w 184, 3) := by decide +kernel
theorem dX12_gain_58 : decode cX12_gain 58 = .ok (.lreturn, 1) := by decide +kernel
theorem dX12_gain_59 : decode cX12_gain 59 = .ok (.bipush 60, 2) := by decide +kernel
theorem dX12_gain_61 : decode cX12_gain 61 = .ok (.iload_n 1, 1) := by decide +kernel
theorem dX12_gain_62 : decode cX12_gain 62 = .ok (.imul, 1) := by decide +kernel
theorem dX12_gain_63 : decode cX12_gain 63 = .ok (.iload_n 3, 1) := by decide +kernel
theorem dX12_gain_64 : decode cX12_gain 64 = .ok (.iadd, 1) := by decide +kernel
theorem dX12_gain_65 : decode cX12_gain 65 = .ok (.istore 6, 2) := by decide +kernel
theorem dX12_gain_67 : decode cX12_gain 67 = .ok (.iconst 0, 1) := by decide +kernel
theorem dX12_gain_68 : decode cX12_gain 68 = .ok (.istore 7, 2) := by decide +kernel
theorem dX12_gain_70 : decode cX12_gain 70 = .ok (.lconst 0, 1) := by decide +kernel
theorem dX12_gain_71 : decode cX12_gain 71 = .ok (.lstore 8, 2) := by decide +kernel
theorem dX12_gain_73 : decode cX12_gain 73 = .ok (.iconst 0, 1) := by decide +kernel
theorem dX12_gain_74 : decode cX12_gain 74 = .ok (.istore 10, 2) := by decide +kernel
theorem dX12_gain_76 : decode cX12_gain 76 = .ok (.iload 10, 2) := by decide +kernel
theorem dX12_gain_78 : decode cX12_gain 78 = .ok (.iload 4, 2) := by decide +kernel
theorem dX12_gain_80 : decode cX12_gain 80 = .ok (.if_icmp .ge 83, 3) := by decide +kernel
theorem dX12_gain_83 : decode cX12_gain 83 = .ok (.aload_n 0, 1) := by decide +kernel
theorem dX12_gain_84 : decode cX12_gain 84 = .ok (.getfield 16, 3) := by decide +kernel
theorem dX12_gain_87 : decode cX12_gain 87 = .ok (.iload 6, 2) := by decide +kernel
theorem dX12_gain_89 : decode cX12_gain 89 = .ok (.iload 10, 2) := by decide +kernel
theorem dX12_gain_91 : decode cX12_gain 91 = .ok (.iadd, 1) := by decide +kernel
theorem dX12_gain_92 : decode cX12_gain 92 = .ok (.iaload, 1) := by decide +kernel
theorem dX12_gain_93 : decode cX12_gain 93 = .ok (.istore 11, 2) := by decide +kernel
theorem dX12_gain_95 : decode cX12_gain 95 = .ok (.iload 11, 2) := by decide +kernel
theorem dX12_gain_97 : decode cX12_gain 97 = .ok (.iconst 0, 1) := by decide +kernel
theorem dX12_gain_98 : decode cX12_gain 98 = .ok (.aload_n 0, 1) := by decide +kernel
theorem dX12_gain_99 : decode cX12_gain 99 = .ok (.getfield 317, 3) := by decide +kernel
theorem dX12_gain_102 : decode cX12_gain 102 = .ok (.iconst 1, 1) := by decide +kernel
theorem dX12_gain_103 : decode cX12_gain 103 = .ok (.isub, 1) := by decide +kernel
theorem dX12_gain_104 : decode cX12_gain 104 = .ok (.invokestatic 186, 3) := by decide +kernel
theorem dX12_gain_107 : decode cX12_gain 107 = .ok (.ifCond .eq 24, 3) := by decide +kernel
theorem dX12_gain_110 : decode cX12_gain 110 = .ok (.aload_n 0, 1) := by decide +kernel
theorem dX12_gain_111 : decode cX12_gain 111 = .ok (.getfield 167, 3) := by decide +kernel
theorem dX12_gain_114 : decode cX12_gain 114 = .ok (.iload 11, 2) := by decide +kernel
theorem dX12_gain_116 : decode cX12_gain 116 = .ok (.baload, 1) := by decide +kernel
theorem dX12_gain_117 : decode cX12_gain 117 = .ok (.ifCond .eq 14, 3) := by decide +kernel
theorem dX12_gain_120 : decode cX12_gain 120 = .ok (.iload 7, 2) := by decide +kernel
theorem dX12_gain_122 : decode cX12_gain 122 = .ok (.iload 11, 2) := by decide +kernel
theorem dX12_gain_124 : decode cX12_gain 124 = .ok (.ishr, 1) := by decide +kernel
theorem dX12_gain_125 : decode cX12_gain 125 = .ok (.iconst 1, 1) := by decide +kernel
theorem dX12_gain_126 : decode cX12_gain 126 = .ok (.iand, 1) := by decide +kernel
theorem dX12_gain_127 : decode cX12_gain 127 = .ok (.iconst 1, 1) := by decide +kernel
theorem dX12_gain_128 : decode cX12_gain 128 = .ok (.if_icmp .ne 7, 3) := by decide +kernel
theorem dX12_gain_131 : decode cX12_gain 131 = .ok (.ldc2_w 184, 3) := by decide +kernel
theorem dX12_gain_134 : decode cX12_gain 134 = .ok (.lreturn, 1) := by decide +kernel
theorem dX12_gain_135 : decode cX12_gain 135 = .ok (.iload 7, 2) := by decide +kernel
theorem dX12_gain_137 : decode cX12_gain 137 = .ok (.iconst 1, 1) := by decide +kernel
theorem dX12_gain_138 : decode cX12_gain 138 = .ok (.iload 11, 2) := by decide +kernel
theorem dX12_gain_140 : decode cX12_gain 140 = .ok (.ishl, 1) := by decide +kernel
theorem dX12_gain_141 : decode cX12_gain 141 = .ok (.ior, 1) := by decide +kernel
theorem dX12_gain_142 : decode cX12_gain 142 = .ok (.istore 7, 2) := by decide +kernel
theorem dX12_gain_144 : decode cX12_gain 144 = .ok (.lload 8, 2) := by decide +kernel
theorem dX12_gain_146 : decode cX12_gain 146 = .ok (.aload_n 0, 1) := by decide +kernel
theorem dX12_gain_147 : decode cX12_gain 147 = .ok (.iload 10, 2) := by decide +kernel
theorem dX12_gain_149 : decode cX12_gain 149 = .ok (.iload 11, 2) := by decide +kernel
theorem dX12_gain_151 : decode cX12_gain 151 = .ok (.invokevirtual 323, 3) := by decide +kernel
theorem dX12_gain_154 : decode cX12_gain 154 = .ok (.ladd, 1) := by decide +kernel
theorem dX12_gain_155 : decode cX12_gain 155 = .ok (.lstore 8, 2) := by decide +kernel
theorem dX12_gain_157 : decode cX12_gain 157 = .ok (.iinc 10 1, 3) := by decide +kernel
theorem dX12_gain_160 : decode cX12_gain 160 = .ok (.goto (-84), 3) := by decide +kernel
theorem dX12_gain_163 : decode cX12_gain 163 = .ok (.lload 8, 2) := by decide +kernel
theorem dX12_gain_165 : decode cX12_gain 165 = .ok (.lreturn, 1) := by decide +kernel
theorem dX12_go_0 : decode cX12_go 0 = .ok (.aload_n 0, 1) := by decide +kernel
theorem dX12_go_1 : decode cX12_go 1 = .ok (.invokevirtual 326, 3) := by decide +kernel
theorem dX12_go_4 : decode cX12_go 4 = .ok (.aload_n 0, 1) := by decide +kernel
theorem dX12_go_5 : decode cX12_go 5 = .ok (.getfield 171, 3) := by decide +kernel
theorem dX12_go_8 : decode cX12_go 8 = .ok (.iconst 0, 1) := by decide +kernel
theorem dX12_go_9 : decode cX12_go 9 = .ok (.laload, 1) := by decide +kernel
theorem dX12_go_10 : decode cX12_go 10 = .ok (.ldc2_w 184, 3) := by decide +kernel
theorem dX12_go_13 : decode cX12_go 13 = .ok (.lcmp, 1) := by decide +kernel
theorem dX12_go_14 : decode cX12_go 14 = .ok (.ifCond .ne 6, 3) := by decide +kernel
theorem dX12_go_17 : decode cX12_go 17 = .ok (.bipush (-3), 2) := by decide +kernel
theorem dX12_go_19 : decode cX12_go 19 = .ok (.ireturn, 1) := by decide +kernel
theorem dX12_go_20 : decode cX12_go 20 = .ok (.iconst 0, 1) := by decide +kernel
theorem dX12_go_21 : decode cX12_go 21 = .ok (.istore_n 1, 1) := by decide +kernel
theorem dX12_go_22 : decode cX12_go 22 = .ok (.iload_n 1, 1) := by decide +kernel
theorem dX12_go_23 : decode cX12_go 23 = .ok (.aload_n 0, 1) := by decide +kernel
theorem dX12_go_24 : decode cX12_go 24 = .ok (.getfield 190, 3) := by decide +kernel
theorem dX12_go_27 : decode cX12_go 27 = .ok (.if_icmp .ge 39, 3) := by decide +kernel
theorem dX12_go_30 : decode cX12_go 30 = .ok (.aload_n 0, 1) := by decide +kernel
theorem dX12_go_31 : decode cX12_go 31 = .ok (.iload_n 1, 1) := by decide +kernel
theorem dX12_go_32 : decode cX12_go 32 = .ok (.invokevirtual 331, 3) := by decide +kernel
theorem dX12_go_35 : decode cX12_go 35 = .ok (.istore_n 2, 1) := by decide +kernel
theorem dX12_go_36 : decode cX12_go 36 = .ok (.aload_n 0, 1) := by decide +kernel
theorem dX12_go_37 : decode cX12_go 37 = .ok (.getfield 175, 3) := by decide +kernel
theorem dX12_go_40 : decode cX12_go 40 = .ok (.iload_n 1, 1) := by decide +kernel
theorem dX12_go_41 : decode cX12_go 41 = .ok (.aload_n 0, 1) := by decide +kernel
theorem dX12_go_42 : decode cX12_go 42 = .ok (.getfield 158, 3) := by decide +kernel
theorem dX12_go_45 : decode cX12_go 45 = .ok (.iload_n 2, 1) := by decide +kernel
theorem dX12_go_46 : decode cX12_go 46 = .ok (.iaload, 1) := by decide +kernel
theorem dX12_go_47 : decode cX12_go 47 = .ok (.iastore, 1) := by decide +kernel
theorem dX12_go_48 : decode cX12_go 48 = .ok (.aload_n 0, 1) := by decide +kernel
theorem dX12_go_49 : decode cX12_go 49 = .ok (.getfield 178, 3) := by decide +kernel
theorem dX12_go_52 : decode cX12_go 52 = .ok (.iload_n 1, 1) := by decide +kernel
theorem dX12_go_53 : decode cX12_go 53 = .ok (.aload_n 0, 1) := by decide +kernel
theorem dX12_go_54 : decode cX12_go 54 = .ok (.getfield 161, 3) := by decide +kernel
theorem dX12_go_57 : decode cX12_go 57 = .ok (.iload_n 2, 1) := by decide +kernel
theorem dX12_go_58 : decode cX12_go 58 = .ok (.iaload, 1) := by decide +kernel
theorem dX12_go_59 : decode cX12_go 59 = .ok (.iastore, 1) := by decide +kernel
theorem dX12_go_60 : decode cX12_go 60 = .ok (.iinc 1 1, 3) := by decide +kernel
theorem dX12_go_63 : decode cX12_go 63 = .ok (.goto (-41), 3) := by decide +kernel
theorem dX12_go_66 : decode cX12_go 66 = .ok (.iconst 0, 1) := by decide +kernel
theorem dX12_go_67 : decode cX12_go 67 = .ok (.istore_n 1, 1) := by decide +kernel
theorem dX12_go_68 : decode cX12_go 68 = .ok (.iload_n 1, 1) := by decide +kernel
theorem dX12_go_69 : decode cX12_go 69 = .ok (.aload_n 0, 1) := by decide +kernel
theorem dX12_go_70 : decode cX12_go 70 = .ok (.getfield 190, 3) := by decide +kernel
theorem dX12_go_73 : decode cX12_go 73 = .ok (.if_icmp .ge 33, 3) := by decide +kernel
theorem dX12_go_76 : decode cX12_go 76 = .ok (.aload_n 0, 1) := by decide +kernel
theorem dX12_go_77 : decode cX12_go 77 = .ok (.getfield 19, 3) := by decide +kernel
theorem dX12_go_80 : decode cX12_go 80 = .ok (.iload_n 1, 1) := by decide +kernel
theorem dX12_go_81 : decode cX12_go 81 = .ok (.aload_n 0, 1) := by decide +kernel
theorem dX12_go_82 : decode cX12_go 82 = .ok (.getfield 175, 3) := by decide +kernel
theorem dX12_go_85 : decode cX12_go 85 = .ok (.iload_n 1, 1) := by decide +kernel
theorem dX12_go_86 : decode cX12_go 86 = .ok (.iaload, 1) := by decide +kernel
theorem dX12_go_87 : decode cX12_go 87 = .ok (.iastore, 1) := by decide +kernel
theorem dX12_go_88 : decode cX12_go 88 = .ok (.aload_n 0, 1) := by decide +kernel
theorem dX12_go_89 : decode cX12_go 89 = .ok (.getfield 22, 3) := by decide +kernel
theorem dX12_go_92 : decode cX12_go 92 = .ok (.iload_n 1, 1) := by decide +kernel
theorem dX12_go_93 : decode cX12_go 93 = .ok (.aload_n 0, 1) := by decide +kernel
theorem dX12_go_94 : decode cX12_go 94 = .ok (.getfield 178, 3) := by decide +kernel
theorem dX12_go_97 : decode cX12_go 97 = .ok (.iload_n 1, 1) := by decide +kernel
theorem dX12_go_98 : decode cX12_go 98 = .ok (.iaload, 1) := by decide +kernel
theorem dX12_go_99 : decode cX12_go 99 = .ok (.iastore, 1) := by decide +kernel
theorem dX12_go_100 : decode cX12_go 100 = .ok (.iinc 1 1, 3) := by decide +kernel
theorem dX12_go_103 : decode cX12_go 103 = .ok (.goto (-35), 3) := by decide +kernel
theorem dX12_go_106 : decode cX12_go 106 = .ok (.iconst 1, 1) := by decide +kernel
theorem dX12_go_107 : decode cX12_go 107 = .ok (.ireturn, 1) := by decide +kernel
theorem dX12_spot_0 : decode cX12_spot 0 = .ok (.aload_n 0, 1) := by decide +kernel
theorem dX12_spot_1 : decode cX12_spot 1 = .ok (.iload_n 1, 1) := by decide +kernel
theorem dX12_spot_2 : decode cX12_spot 2 = .ok (.invokevirtual 210, 3) := by decide +kernel
theorem dX12_spot_5 : decode cX12_spot 5 = .ok (.ifCond .ne 5, 3) := by decide +kernel
theorem dX12_spot_8 : decode cX12_spot 8 = .ok (.iconst (-1), 1) := by decide +kernel
theorem dX12_spot_9 : decode cX12_spot 9 = .ok (.ireturn, 1) := by decide +kernel
theorem dX12_spot_10 : decode cX12_spot 10 = .ok (.iload_n 2, 1) := by decide +kernel
theorem dX12_spot_11 : decode cX12_spot 11 = .ok (.ifCond .ne 12, 3) := by decide +kernel
theorem dX12_spot_14 : decode cX12_spot 14 = .ok (.aload_n 0, 1) := by decide +kernel
theorem dX12_spot_15 : decode cX12_spot 15 = .ok (.getfield 19, 3) := by decide +kernel
theorem dX12_spot_18 : decode cX12_spot 18 = .ok (.iload_n 1, 1) := by decide +kernel
theorem dX12_spot_19 : decode cX12_spot 19 = .ok (.iaload, 1) := by decide +kernel
theorem dX12_spot_20 : decode cX12_spot 20 = .ok (.goto 19, 3) := by decide +kernel
theorem dX12_spot_23 : decode cX12_spot 23 = .ok (.iload_n 2, 1) := by decide +kernel
theorem dX12_spot_24 : decode cX12_spot 24 = .ok (.iconst 1, 1) := by decide +kernel
theorem dX12_spot_25 : decode cX12_spot 25 = .ok (.if_icmp .ne 12, 3) := by decide +kernel
theorem dX12_spot_28 : decode cX12_spot 28 = .ok (.aload_n 0, 1) := by decide +kernel
theorem dX12_spot_29 : decode cX12_spot 29 = .ok (.getfield 22, 3) := by decide +kernel
theorem dX12_spot_32 : decode cX12_spot 32 = .ok (.iload_n 1, 1) := by decide +kernel
theorem dX12_spot_33 : decode cX12_spot 33 = .ok (.iaload, 1) := by decide +kernel
theorem dX12_spot_34 : decode cX12_spot 34 = .ok (.goto 5, 3) := by decide +kernel
theorem dX12_spot_37 : decode cX12_spot 37 = .ok (.bipush (-2), 2) := by decide +kernel
theorem dX12_spot_39 : decode cX12_spot 39 = .ok (.ireturn, 1) := by decide +kernel
theorem dX12_sheet_0 : decode cX12_sheet 0 = .ok (.aload_n 0, 1) := by decide +kernel
theorem dX12_sheet_1 : decode cX12_sheet 1 = .ok (.iconst 0, 1) := by decide +kernel
theorem dX12_sheet_2 : decode cX12_sheet 2 = .ok (.putfield 181, 3) := by decide +kernel
theorem dX12_sheet_5 : decode cX12_sheet 5 = .ok (.iload_n 1, 1) := by decide +kernel
theorem dX12_sheet_6 : decode cX12_sheet 6 = .ok (.invokestatic 239, 3) := by decide +kernel
theorem dX12_sheet_9 : decode cX12_sheet 9 = .ok (.ifCond .ne 5, 3) := by decide +kernel
theorem dX12_sheet_12 : decode cX12_sheet 12 = .ok (.iconst (-1), 1) := by decide +kernel
theorem dX12_sheet_13 : decode cX12_sheet 13 = .ok (.ireturn, 1) := by decide +kernel
theorem dX12_sheet_14 : decode cX12_sheet 14 = .ok (.iload_n 2, 1) := by decide +kernel
theorem dX12_sheet_15 : decode cX12_sheet 15 = .ok (.invokestatic 242, 3) := by decide +kernel
theorem dX12_sheet_18 : decode cX12_sheet 18 = .ok (.ifCond .eq 9, 3) := by decide +kernel
theorem dX12_sheet_21 : decode cX12_sheet 21 = .ok (.iload_n 3, 1) := by decide +kernel
theorem dX12_sheet_22 : decode cX12_sheet 22 = .ok (.bipush 60, 2) := by decide +kernel
theorem dX12_sheet_24 : decode cX12_sheet 24 = .ok (.if_icmp .le 6, 3) := by decide +kernel
theorem dX12_sheet_27 : decode cX12_sheet 27 = .ok (.bipush (-2), 2) := by decide +kernel
theorem dX12_sheet_29 : decode cX12_sheet 29 = .ok (.ireturn, 1) := by decide +kernel
theorem dX12_sheet_30 : decode cX12_sheet 30 = .ok (.iload_n 3, 1) := by decide +kernel
theorem dX12_sheet_31 : decode cX12_sheet 31 = .ok (.ifCond .ge 9, 3) := by decide +kernel
theorem dX12_sheet_34 : decode cX12_sheet 34 = .ok (.aload_n 0, 1) := by decide +kernel
theorem dX12_sheet_35 : decode cX12_sheet 35 = .ok (.iconst 4, 1) := by decide +kernel
theorem dX12_sheet_36 : decode cX12_sheet 36 = .ok (.invokevirtual 249, 3) := by decide +kernel
theorem dX12_sheet_39 : decode cX12_sheet 39 = .ok (.ireturn, 1) := by decide +kernel
theorem dX12_sheet_40 : decode cX12_sheet 40 = .ok (.aload_n 0, 1) := by decide +kernel
theorem dX12_sheet_41 : decode cX12_sheet 41 = .ok (.getfield 9, 3) := by decide +kernel
theorem dX12_sheet_44 : decode cX12_sheet 44 = .ok (.iload_n 1, 1) := by decide +kernel
theorem dX12_sheet_45 : decode cX12_sheet 45 = .ok (.iload_n 2, 1) := by decide +kernel
theorem dX12_sheet_46 : decode cX12_sheet 46 = .ok (.iastore, 1) := by decide +kernel
theorem dX12_sheet_47 : decode cX12_sheet 47 = .ok (.aload_n 0, 1) := by decide +kernel
theorem dX12_sheet_48 : decode cX12_sheet 48 = .ok (.getfield 13, 3) := by decide +kernel
theorem dX12_sheet_51 : decode cX12_sheet 51 = .ok (.iload_n 1, 1) := by decide +kernel
theorem dX12_sheet_52 : decode cX12_sheet 52 = .ok (.iload_n 3, 1) := by decide +kernel
theorem dX12_sheet_53 : decode cX12_sheet 53 = .ok (.iastore, 1) := by decide +kernel
theorem dX12_sheet_54 : decode cX12_sheet 54 = .ok (.iconst 0, 1) := by decide +kernel
theorem dX12_sheet_55 : decode cX12_sheet 55 = .ok (.istore 4, 2) := by decide +kernel
theorem dX12_sheet_57 : decode cX12_sheet 57 = .ok (.iload 4, 2) := by decide +kernel
theorem dX12_sheet_59 : decode cX12_sheet 59 = .ok (.bipush 60, 2) := by decide +kernel
theorem dX12_sheet_61 : decode cX12_sheet 61 = .ok (.if_icmp .ge 22, 3) := by decide +kernel
theorem dX12_sheet_64 : decode cX12_sheet 64 = .ok (.aload_n 0, 1) := by decide +kernel
theorem dX12_sheet_65 : decode cX12_sheet 65 = .ok (.getfield 16, 3) := by decide +kernel
theorem dX12_sheet_68 : decode cX12_sheet 68 = .ok (.bipush 60, 2) := by decide +kernel
theorem dX12_sheet_70 : decode cX12_sheet 70 = .ok (.iload_n 1, 1) := by decide +kernel
theorem dX12_sheet_71 : decode cX12_sheet 71 = .ok (.imul, 1) := by decide +kernel
theorem dX12_sheet_72 : decode cX12_sheet 72 = .ok (.iload 4, 2) := by decide +kernel
theorem dX12_sheet_74 : decode cX12_sheet 74 = .ok (.iadd, 1) := by decide +kernel
theorem dX12_sheet_75 : decode cX12_sheet 75 = .ok (.iconst 0, 1) := by decide +kernel
theorem dX12_sheet_76 : decode cX12_sheet 76 = .ok (.iastore, 1) := by decide +kernel
theorem dX12_sheet_77 : decode cX12_sheet 77 = .ok (.iinc 4 1, 3) := by decide +kernel
theorem dX12_sheet_80 : decode cX12_sheet 80 = .ok (.goto (-23), 3) := by decide +kernel
theorem dX12_sheet_83 : decode cX12_sheet 83 = .ok (.iconst 1, 1) := by decide +kernel
theorem dX12_sheet_84 : decode cX12_sheet 84 = .ok (.ireturn, 1) := by decide +kernel
theorem dX12_lose_0 : decode cX12_lose 0 = .ok (.iload_n 1, 1) := by decide +kernel
theorem dX12_lose_1 : decode cX12_lose 1 = .ok (.invokestatic 239, 3) := by decide +kernel
theorem dX12_lose_4 : decode cX12_lose 4 = .ok (.ifCond .ne 5, 3) := by decide +kernel
theorem dX12_lose_7 : decode cX12_lose 7 = .ok (.iconst (-1), 1) := by decide +kernel
theorem dX12_lose_8 : decode cX12_lose 8 = .ok (.ireturn, 1) := by decide +kernel
theorem dX12_lose_9 : decode cX12_lose 9 = .ok (.aload_n 0, 1) := by decide +kernel
theorem dX12_lose_10 : decode cX12_lose 10 = .ok (.getfield 9, 3) := by decide +kernel
theorem dX12_lose_13 : decode cX12_lose 13 = .ok (.iload_n 1, 1) := by decide +kernel
theorem dX12_lose_14 : decode cX12_lose 14 = .ok (.iaload, 1) := by decide +kernel
theorem dX12_lose_15 : decode cX12_lose 15 = .ok (.bipush (-9), 2) := by decide +kernel
theorem dX12_lose_17 : decode cX12_lose 17 = .ok (.if_icmp .ne 7, 3) := by decide +kernel
theorem dX12_lose_20 : decode cX12_lose 20 = .ok (.iconst 0, 1) := by decide +kernel
theorem dX12_lose_21 : decode cX12_lose 21 = .ok (.goto 4, 3) := by decide +kernel
theorem dX12_lose_24 : decode cX12_lose 24 = .ok (.iconst 1, 1) := by decide +kernel
theorem dX12_lose_25 : decode cX12_lose 25 = .ok (.istore_n 2, 1) := by decide +kernel
theorem dX12_lose_26 : decode cX12_lose 26 = .ok (.aload_n 0, 1) := by decide +kernel
theorem dX12_lose_27 : decode cX12_lose 27 = .ok (.getfield 9, 3) := by decide +kernel
theorem dX12_lose_30 : decode cX12_lose 30 = .ok (.iload_n 1, 1) := by decide +kernel
theorem dX12_lose_31 : decode cX12_lose 31 = .ok (.bipush (-9), 2) := by decide +kernel
theorem dX12_lose_33 : decode cX12_lose 33 = .ok (.iastore, 1) := by decide +kernel
theorem dX12_lose_34 : decode cX12_lose 34 = .ok (.iload_n 2, 1) := by decide +kernel
theorem dX12_lose_35 : decode cX12_lose 35 = .ok (.ireturn, 1) := by decide +kernel
theorem dX12_put_0 : decode cX12_put 0 = .ok (.aload_n 0, 1) := by decide +kernel
theorem dX12_put_1 : decode cX12_put 1 = .ok (.iconst 0, 1) := by decide +kernel
theorem dX12_put_2 : decode cX12_put 2 = .ok (.putfield 181, 3) := by decide +kernel
theorem dX12_put_5 : decode cX12_put 5 = .ok (.iload_n 1, 1) := by decide +kernel
theorem dX12_put_6 : decode cX12_put 6 = .ok (.invokestatic 239, 3) := by decide +kernel
theorem dX12_put_9 : decode cX12_put 9 = .ok (.ifCond .ne 5, 3) := by decide +kernel
theorem dX12_put_12 : decode cX12_put 12 = .ok (.iconst (-1), 1) := by decide +kernel
theorem dX12_put_13 : decode cX12_put 13 = .ok (.ireturn, 1) := by decide +kernel
theorem dX12_put_14 : decode cX12_put 14 = .ok (.aload_n 0, 1) := by decide +kernel
theorem dX12_put_15 : decode cX12_put 15 = .ok (.getfield 9, 3) := by decide +kernel
theorem dX12_put_18 : decode cX12_put 18 = .ok (.iload_n 1, 1) := by decide +kernel
theorem dX12_put_19 : decode cX12_put 19 = .ok (.iaload, 1) := by decide +kernel
theorem dX12_put_20 : decode cX12_put 20 = .ok (.bipush (-9), 2) := by decide +kernel
theorem dX12_put_22 : decode cX12_put 22 = .ok (.if_icmp .ne 9, 3) := by decide +kernel
theorem dX12_put_25 : decode cX12_put 25 = .ok (.aload_n 0, 1) := by decide +kernel
theorem dX12_put_26 : decode cX12_put 26 = .ok (.iconst 1, 1) := by decide +kernel
theorem dX12_put_27 : decode cX12_put 27 = .ok (.invokevirtual 249, 3) := by decide +kernel
theorem dX12_put_30 : decode cX12_put 30 = .ok (.ireturn, 1) := by decide +kernel
theorem dX12_put_31 : decode cX12_put 31 = .ok (.iload_n 2, 1) := by decide +kernel
theorem dX12_put_32 : decode cX12_put 32 = .ok (.iconst 0, 1) := by decide +kernel
theorem dX12_put_33 : decode cX12_put 33 = .ok (.aload_n 0, 1) := by decide +kernel
theorem dX12_put_34 : decode cX12_put 34 = .ok (.getfield 13, 3) := by decide +kernel
theorem dX12_put_37 : decode cX12_put 37 = .ok (.iload_n 1, 1) := by decide +kernel
theorem dX12_put_38 : decode cX12_put 38 = .ok (.iaload, 1) := by decide +kernel
theorem dX12_put_39 : decode cX12_put 39 = .ok (.iconst 1, 1) := by decide +kernel
theorem dX12_put_40 : decode cX12_put 40 = .ok (.isub, 1) := by decide +kernel
theorem dX12_put_41 : decode cX12_put 41 = .ok (.invokestatic 186, 3) := by decide +kernel
theorem dX12_put_44 : decode cX12_put 44 = .ok (.ifCond .ne 9, 3) := by decide +kernel
theorem dX12_put_47 : decode cX12_put 47 = .ok (.aload_n 0, 1) := by decide +kernel
theorem dX12_put_48 : decode cX12_put 48 = .ok (.iconst 3, 1) := by decide +kernel
theorem dX12_put_49 : decode cX12_put 49 = .ok (.invokevirtual 249, 3) := by decide +kernel
theorem dX12_put_52 : decode cX12_put 52 = .ok (.ireturn, 1) := by decide +kernel
theorem dX12_put_53 : decode cX12_put 53 = .ok (.aload_n 0, 1) := by decide +kernel
theorem dX12_put_54 : decode cX12_put 54 = .ok (.getfield 16, 3) := by decide +kernel
theorem dX12_put_57 : decode cX12_put 57 = .ok (.bipush 60, 2) := by decide +kernel
theorem dX12_put_59 : decode cX12_put 59 = .ok (.iload_n 1, 1) := by decide +kernel
theorem dX12_put_60 : decode cX12_put 60 = .ok (.imul, 1) := by decide +kernel
theorem dX12_put_61 : decode cX12_put 61 = .ok (.iload_n 2, 1) := by decide +kernel
theorem dX12_put_62 : decode cX12_put 62 = .ok (.iadd, 1) := by decide +kernel
theorem dX12_put_63 : decode cX12_put 63 = .ok (.aload_n 0, 1) := by decide +kernel
theorem dX12_put_64 : decode cX12_put 64 = .ok (.getfield 9, 3) := by decide +kernel
theorem dX12_put_67 : decode cX12_put 67 = .ok (.iload_n 1, 1) := by decide +kernel
theorem dX12_put_68 : decode cX12_put 68 = .ok (.iaload, 1) := by decide +kernel
theorem dX12_put_69 : decode cX12_put 69 = .ok (.ifCond .ne 8, 3) := by decide +kernel
theorem dX12_put_72 : decode cX12_put 72 = .ok (.iload_n 3, 1) := by decide +kernel
theorem dX12_put_73 : decode cX12_put 73 = .ok (.i2b, 1) := by decide +kernel
theorem dX12_put_74 : decode cX12_put 74 = .ok (.goto 19, 3) := by decide +kernel
theorem dX12_put_77 : decode cX12_put 77 = .ok (.aload_n 0, 1) := by decide +kernel
theorem dX12_put_78 : decode cX12_put 78 = .ok (.getfield 9, 3) := by decide +kernel
theorem dX12_put_81 : decode cX12_put 81 = .ok (.iload_n 1, 1) := by decide +kernel
theorem dX12_put_82 : decode cX12_put 82 = .ok (.iaload, 1) := by decide +kernel
theorem dX12_put_83 : decode cX12_put 83 = .ok (.iconst 1, 1) := by decide +kernel
theorem dX12_put_84 : decode cX12_put 84 = .ok (.if_icmp .ne 8, 3) := by decide +kernel
theorem dX12_put_87 : decode cX12_put 87 = .ok (.iload_n 3, 1) := by decide +kernel
theorem dX12_put_88 : decode cX12_put 88 = .ok (.i2s, 1) := by decide +kernel
theorem dX12_put_89 : decode cX12_put 89 = .ok (.goto 4, 3) := by decide +kernel
theorem dX12_put_92 : decode cX12_put 92 = .ok (.iload_n 3, 1) := by decide +kernel
theorem dX12_put_93 : decode cX12_put 93 = .ok (.iastore, 1) := by decide +kernel
theorem dX12_put_94 : decode cX12_put 94 = .ok (.iconst 1, 1) := by decide +kernel
theorem dX12_put_95 : decode cX12_put 95 = .ok (.ireturn, 1) := by decide +kernel
theorem dX12_cell_0 : decode cX12_cell 0 = .ok (.aload_n 0, 1) := by decide +kernel
theorem dX12_cell_1 : decode cX12_cell 1 = .ok (.iconst 0, 1) := by decide +kernel
theorem dX12_cell_2 : decode cX12_cell 2 = .ok (.putfield 181, 3) := by decide +kernel
theorem dX12_cell_5 : decode cX12_cell 5 = .ok (.iload_n 1, 1) := by decide +kernel
theorem dX12_cell_6 : decode cX12_cell 6 = .ok (.invokestatic 239, 3) := by decide +kernel
theorem dX12_cell_9 : decode cX12_cell 9 = .ok (.ifCond .eq 10, 3) := by decide +kernel
theorem dX12_cell_12 : decode cX12_cell 12 = .ok (.iload_n 3, 1) := by decide +kernel
theorem dX12_cell_13 : decode cX12_cell 13 = .ok (.invokestatic 242, 3) := by decide +kernel
theorem dX12_cell_16 : decode cX12_cell 16 = .ok (.ifCond .ne 7, 3) := by decide +kernel
theorem dX12_cell_19 : decode cX12_cell 19 = .ok (.ldc2_w 184, 3) := by decide +kernel
theorem dX12_cell_22 : decode cX12_cell 22 = .ok (.lreturn, 1) := by decide +kernel
theorem dX12_cell_23 : decode cX12_cell 23 = .ok (.aload_n 0, 1) := by decide +kernel
theorem dX12_cell_24 : decode cX12_cell 24 = .ok (.getfield 9, 3) := by decide +kernel
theorem dX12_cell_27 : decode cX12_cell 27 = .ok (.iload_n 1, 1) := by decide +kernel
theorem dX12_cell_28 : decode cX12_cell 28 = .ok (.iaload, 1) := by decide +kernel
theorem dX12_cell_29 : decode cX12_cell 29 = .ok (.bipush (-9), 2) := by decide +kernel
theorem dX12_cell_31 : decode cX12_cell 31 = .ok (.if_icmp .eq 19, 3) := by decide +kernel
theorem dX12_cell_34 : decode cX12_cell 34 = .ok (.aload_n 0, 1) := by decide +kernel
theorem dX12_cell_35 : decode cX12_cell 35 = .ok (.getfield 9, 3) := by decide +kernel
theorem dX12_cell_38 : decode cX12_cell 38 = .ok (.iload_n 1, 1) := by decide +kernel
theorem dX12_cell_39 : decode cX12_cell 39 = .ok (.iaload, 1) := by decide +kernel
theorem dX12_cell_40 : decode cX12_cell 40 = .ok (.iload_n 3, 1) := by decide +kernel
theorem dX12_cell_41 : decode cX12_cell 41 = .ok (.if_icmp .eq 9, 3) := by decide +kernel
theorem dX12_cell_44 : decode cX12_cell 44 = .ok (.aload_n 0, 1) := by decide +kernel
theorem dX12_cell_45 : decode cX12_cell 45 = .ok (.iconst 2, 1) := by decide +kernel
theorem dX12_cell_46 : decode cX12_cell 46 = .ok (.invokevirtual 334, 3) := by decide +kernel
theorem dX12_cell_49 : decode cX12_cell 49 = .ok (.lreturn, 1) := by decide +kernel
theorem dX12_cell_50 : decode cX12_cell 50 = .ok (.aload_n 0, 1) := by decide +kernel
theorem dX12_cell_51 : decode cX12_cell 51 = .ok (.getfield 9, 3) := by decide +kernel
theorem dX12_cell_54 : decode cX12_cell 54 = .ok (.iload_n 1, 1) := by decide +kernel
theorem dX12_cell_55 : decode cX12_cell 55 = .ok (.iaload, 1) := by decide +kernel
theorem dX12_cell_56 : decode cX12_cell 56 = .ok (.bipush (-9), 2) := by decide +kernel
theorem dX12_cell_58 : decode cX12_cell 58 = .ok (.if_icmp .ne 9, 3) := by decide +kernel
theorem dX12_cell_61 : decode cX12_cell 61 = .ok (.aload_n 0, 1) := by decide +kernel
theorem dX12_cell_62 : decode cX12_cell 62 = .ok (.iconst 1, 1) := by decide +kernel
theorem dX12_cell_63 : decode cX12_cell 63 = .ok (.invokevirtual 334, 3) := by decide +kernel
theorem dX12_cell_66 : decode cX12_cell 66 = .ok (.lreturn, 1) := by decide +kernel
theorem dX12_cell_67 : decode cX12_cell 67 = .ok (.iload_n 2, 1) := by decide +kernel
theorem dX12_cell_68 : decode cX12_cell 68 = .ok (.iconst 0, 1) := by decide +kernel
theorem dX12_cell_69 : decode cX12_cell 69 = .ok (.aload_n 0, 1) := by decide +kernel
theorem dX12_cell_70 : decode cX12_cell 70 = .ok (.getfield 13, 3) := by decide +kernel
theorem dX12_cell_73 : decode cX12_cell 73 = .ok (.iload_n 1, 1) := by decide +kernel
theorem dX12_cell_74 : decode cX12_cell 74 = .ok (.iaload, 1) := by decide +kernel
theorem dX12_cell_75 : decode cX12_cell 75 = .ok (.iconst 1, 1) := by decide +kernel
theorem dX12_cell_76 : decode cX12_cell 76 = .ok (.isub, 1) := by decide +kernel
theorem dX12_cell_77 : decode cX12_cell 77 = .ok (.invokestatic 186, 3) := by decide +kernel
theorem dX12_cell_80 : decode cX12_cell 80 = .ok (.ifCond .ne 9, 3) := by decide +kernel
theorem dX12_cell_83 : decode cX12_cell 83 = .ok (.aload_n 0, 1) := by decide +kernel
theorem dX12_cell_84 : decode cX12_cell 84 = .ok (.iconst 3, 1) := by decide +kernel
theorem dX12_cell_85 : decode cX12_cell 85 = .ok (.invokevirtual 334, 3) := by decide +kernel
theorem dX12_cell_88 : decode cX12_cell 88 = .ok (.lreturn, 1) := by decide +kernel
theorem dX12_cell_89 : decode cX12_cell 89 = .ok (.aload_n 0, 1) := by decide +kernel
theorem dX12_cell_90 : decode cX12_cell 90 = .ok (.getfield 16, 3) := by decide +kernel
theorem dX12_cell_93 : decode cX12_cell 93 = .ok (.bipush 60, 2) := by decide +kernel
theorem dX12_cell_95 : decode cX12_cell 95 = .ok (.iload_n 1, 1) := by decide +kernel
theorem dX12_cell_96 : decode cX12_cell 96 = .ok (.imul, 1) := by decide +kernel
theorem dX12_cell_97 : decode cX12_cell 97 = .ok (.iload_n 2, 1) := by decide +kernel
theorem dX12_cell_98 : decode cX12_cell 98 = .ok (.iadd, 1) := by decide +kernel
theorem dX12_cell_99 : decode cX12_cell 99 = .ok (.iaload, 1) := by decide +kernel
theorem dX12_cell_100 : decode cX12_cell 100 = .ok (.i2l, 1) := by decide +kernel
theorem dX12_cell_101 : decode cX12_cell 101 = .ok (.lreturn, 1) := by decide +kernel
theorem dX12_begins_0 : decode cX12_begins 0 = .ok (.aload_n 0, 1) := by decide +kernel
theorem dX12_begins_1 : decode cX12_begins 1 = .ok (.bipush 31, 2) := by decide +kernel
theorem dX12_begins_3 : decode cX12_begins 3 = .ok (.aload_n 0, 1) := by decide +kernel
theorem dX12_begins_4 : decode cX12_begins 4 = .ok (.getfield 338, 3) := by decide +kernel
theorem dX12_begins_7 : decode cX12_begins 7 = .ok (.imul, 1) := by decide +kernel
theorem dX12_begins_8 : decode cX12_begins 8 = .ok (.iload_n 1, 1) := by decide +kernel
theorem dX12_begins_9 : decode cX12_begins 9 = .ok (.iadd, 1) := by decide +kernel
theorem dX12_begins_10 : decode cX12_begins 10 = .ok (.putfield 338, 3) := by decide +kernel
theorem dX12_begins_13 : decode cX12_begins 13 = .ok (.return_, 1) := by decide +kernel
theorem dX12_tell_0 : decode cX12_tell 0 = .ok (.aload_n 0, 1) := by decide +kernel
theorem dX12_tell_1 : decode cX12_tell 1 = .ok (.iload_n 1, 1) := by decide +kernel
theorem dX12_tell_2 : decode cX12_tell 2 = .ok (.invokevirtual 341, 3) := by decide +kernel
theorem dX12_tell_5 : decode cX12_tell 5 = .ok (.ifCond .ne 5, 3) := by decide +kernel
theorem dX12_tell_8 : decode cX12_tell 8 = .ok (.iconst (-1), 1) := by decide +kernel
theorem dX12_tell_9 : decode cX12_tell 9 = .ok (.ireturn, 1) := by decide +kernel
theorem dX12_tell_10 : decode cX12_tell 10 = .ok (.aload_n 0, 1) := by decide +kernel
theorem dX12_tell_11 : decode cX12_tell 11 = .ok (.getfield 40, 3) := by decide +kernel
theorem dX12_tell_14 : decode cX12_tell 14 = .ok (.iload_n 1, 1) := by decide +kernel
theorem dX12_tell_15 : decode cX12_tell 15 = .ok (.iaload, 1) := by decide +kernel
theorem dX12_tell_16 : decode cX12_tell 16 = .ok (.aload_n 0, 1) := by decide +kernel
theorem dX12_tell_17 : decode cX12_tell 17 = .ok (.getfield 37, 3) := by decide +kernel
theorem dX12_tell_20 : decode cX12_tell 20 = .ok (.iload_n 1, 1) := by decide +kernel
theorem dX12_tell_21 : decode cX12_tell 21 = .ok (.iaload, 1) := by decide +kernel
theorem dX12_tell_22 : decode cX12_tell 22 = .ok (.isub, 1) := by decide +kernel
theorem dX12_tell_23 : decode cX12_tell 23 = .ok (.iconst 1, 1) := by decide +kernel
theorem dX12_tell_24 : decode cX12_tell 24 = .ok (.iadd, 1) := by decide +kernel
theorem dX12_tell_25 : decode cX12_tell 25 = .ok (.istore_n 2, 1) := by decide +kernel
theorem dX12_tell_26 : decode cX12_tell 26 = .ok (.aload_n 0, 1) := by decide +kernel
theorem dX12_tell_27 : decode cX12_tell 27 = .ok (.getfield 28, 3) := by decide +kernel
theorem dX12_tell_30 : decode cX12_tell 30 = .ok (.iload_n 1, 1) := by decide +kernel
theorem dX12_tell_31 : decode cX12_tell 31 = .ok (.iaload, 1) := by decide +kernel
theorem dX12_tell_32 : decode cX12_tell 32 = .ok (.lookupswitch 70 #[(1, 28), (2, 43)], 28) := by decide +kernel
theorem dX12_tell_60 : decode cX12_tell 60 = .ok (.aload_n 0, 1) := by decide +kernel
theorem dX12_tell_61 : decode cX12_tell 61 = .ok (.iconst 2, 1) := by decide +kernel
theorem dX12_tell_62 : decode cX12_tell 62 = .ok (.invokevirtual 344, 3) := by decide +kernel
theorem dX12_tell_65 : decode cX12_tell 65 = .ok (.aload_n 0, 1) := by decide +kernel
theorem dX12_tell_66 : decode cX12_tell 66 = .ok (.iconst 1, 1) := by decide +kernel
theorem dX12_tell_67 : decode cX12_tell 67 = .ok (.invokevirtual 344, 3) := by decide +kernel
theorem dX12_tell_70 : decode cX12_tell 70 = .ok (.iload_n 2, 1) := by decide +kernel
theorem dX12_tell_71 : decode cX12_tell 71 = .ok (.bipush 8, 2) := by decide +kernel
theorem dX12_tell_73 : decode cX12_tell 73 = .ok (.iadd, 1) := by decide +kernel
theorem dX12_tell_74 : decode cX12_tell 74 = .ok (.ireturn, 1) := by decide +kernel
theorem dX12_tell_75 : decode cX12_tell 75 = .ok (.aload_n 0, 1) := by decide +kernel
theorem dX12_tell_76 : decode cX12_tell 76 = .ok (.iconst 3, 1) := by decide +kernel
theorem dX12_tell_77 : decode cX12_tell 77 = .ok (.invokevirtual 344, 3) := by decide +kernel
theorem dX12_tell_80 : decode cX12_tell 80 = .ok (.aload_n 0, 1) := by decide +kernel
theorem dX12_tell_81 : decode cX12_tell 81 = .ok (.iconst 2, 1) := by decide +kernel
theorem dX12_tell_82 : decode cX12_tell 82 = .ok (.invokevirtual 344, 3) := by decide +kernel
theorem dX12_tell_85 : decode cX12_tell 85 = .ok (.aload_n 0, 1) := by decide +kernel
theorem dX12_tell_86 : decode cX12_tell 86 = .ok (.iconst 1, 1) := by decide +kernel
theorem dX12_tell_87 : decode cX12_tell 87 = .ok (.invokevirtual 344, 3) := by decide +kernel
theorem dX12_tell_90 : decode cX12_tell 90 = .ok (.aload_n 0, 1) := by decide +kernel
theorem dX12_tell_91 : decode cX12_tell 91 = .ok (.iconst 1, 1) := by decide +kernel
theorem dX12_tell_92 : decode cX12_tell 92 = .ok (.invokevirtual 344, 3) := by decide +kernel
theorem dX12_tell_95 : decode cX12_tell 95 = .ok (.iconst 2, 1) := by decide +kernel
theorem dX12_tell_96 : decode cX12_tell 96 = .ok (.iload_n 2, 1) := by decide +kernel
theorem dX12_tell_97 : decode cX12_tell 97 = .ok (.imul, 1) := by decide +kernel
theorem dX12_tell_98 : decode cX12_tell 98 = .ok (.bipush 8, 2) := by decide +kernel
theorem dX12_tell_100 : decode cX12_tell 100 = .ok (.iadd, 1) := by decide +kernel
theorem dX12_tell_101 : decode cX12_tell 101 = .ok (.ireturn, 1) := by decide +kernel
theorem dX12_tell_102 : decode cX12_tell 102 = .ok (.aload_n 0, 1) := by decide +kernel
theorem dX12_tell_103 : decode cX12_tell 103 = .ok (.iconst 1, 1) := by decide +kernel
theorem dX12_tell_104 : decode cX12_tell 104 = .ok (.invokevirtual 344, 3) := by decide +kernel
theorem dX12_tell_107 : decode cX12_tell 107 = .ok (.iload_n 2, 1) := by decide +kernel
theorem dX12_tell_108 : decode cX12_tell 108 = .ok (.ireturn, 1) := by decide +kernel
theorem dX12_roll_0 : decode cX12_roll 0 = .ok (.aload_n 0, 1) := by decide +kernel
theorem dX12_roll_1 : decode cX12_roll 1 = .ok (.iload_n 1, 1) := by decide +kernel
theorem dX12_roll_2 : decode cX12_roll 2 = .ok (.invokevirtual 341, 3) := by decide +kernel
theorem dX12_roll_5 : decode cX12_roll 5 = .ok (.ifCond .ne 5, 3) := by decide +kernel
theorem dX12_roll_8 : decode cX12_roll 8 = .ok (.iconst (-1), 1) := by decide +kernel
theorem dX12_roll_9 : decode cX12_roll 9 = .ok (.ireturn, 1) := by decide +kernel
theorem dX12_roll_10 : decode cX12_roll 10 = .ok (.aload_n 0, 1) := by decide +kernel
theorem dX12_roll_11 : decode cX12_roll 11 = .ok (.aload_n 0, 1) := by decide +kernel
theorem dX12_roll_12 : decode cX12_roll 12 = .ok (.getfield 28, 3) := by decide +kernel
theorem dX12_roll_15 : decode cX12_roll 15 = .ok (.iload_n 1, 1) := by decide +kernel
theorem dX12_roll_16 : decode cX12_roll 16 = .ok (.iaload, 1) := by decide +kernel
theorem dX12_roll_17 : decode cX12_roll 17 = .ok (.iconst 2, 1) := by decide +kernel
theorem dX12_roll_18 : decode cX12_roll 18 = .ok (.if_icmp .ne 7, 3) := by decide +kernel
theorem dX12_roll_21 : decode cX12_roll 21 = .ok (.iconst 5, 1) := by decide +kernel
theorem dX12_roll_22 : decode cX12_roll 22 = .ok (.goto 4, 3) := by decide +kernel
theorem dX12_roll_25 : decode cX12_roll 25 = .ok (.iconst 4, 1) := by decide +kernel
theorem dX12_roll_26 : decode cX12_roll 26 = .ok (.invokevirtual 344, 3) := by decide +kernel
theorem dX12_roll_29 : decode cX12_roll 29 = .ok (.aload_n 0, 1) := by decide +kernel
theorem dX12_roll_30 : decode cX12_roll 30 = .ok (.getfield 28, 3) := by decide +kernel
theorem dX12_roll_33 : decode cX12_roll 33 = .ok (.iload_n 1, 1) := by decide +kernel
theorem dX12_roll_34 : decode cX12_roll 34 = .ok (.iaload, 1) := by decide +kernel
theorem dX12_roll_35 : decode cX12_roll 35 = .ok (.iconst 2, 1) := by decide +kernel
theorem dX12_roll_36 : decode cX12_roll 36 = .ok (.if_icmp .ne 8, 3) := by decide +kernel
theorem dX12_roll_39 : decode cX12_roll 39 = .ok (.bipush 66, 2) := by decide +kernel
theorem dX12_roll_41 : decode cX12_roll 41 = .ok (.goto 4, 3) := by decide +kernel
theorem dX12_roll_44 : decode cX12_roll 44 = .ok (.iload_n 1, 1) := by decide +kernel
theorem dX12_roll_45 : decode cX12_roll 45 = .ok (.ireturn, 1) := by decide +kernel
theorem dX12_as_0 : decode cX12_as 0 = .ok (.aload_n 0, 1) := by decide +kernel
theorem dX12_as_1 : decode cX12_as 1 = .ok (.iconst 0, 1) := by decide +kernel
theorem dX12_as_2 : decode cX12_as 2 = .ok (.putfield 181, 3) := by decide +kernel
theorem dX12_as_5 : decode cX12_as 5 = .ok (.aload_n 0, 1) := by decide +kernel
theorem dX12_as_6 : decode cX12_as 6 = .ok (.iload_n 1, 1) := by decide +kernel
theorem dX12_as_7 : decode cX12_as 7 = .ok (.invokevirtual 341, 3) := by decide +kernel
theorem dX12_as_10 : decode cX12_as 10 = .ok (.ifCond .ne 5, 3) := by decide +kernel
theorem dX12_as_13 : decode cX12_as 13 = .ok (.iconst (-1), 1) := by decide +kernel
theorem dX12_as_14 : decode cX12_as 14 = .ok (.ireturn, 1) := by decide +kernel
theorem dX12_as_15 : decode cX12_as 15 = .ok (.iload_n 2, 1) := by decide +kernel
theorem dX12_as_16 : decode cX12_as 16 = .ok (.iconst 0, 1) := by decide +kernel
theorem dX12_as_17 : decode cX12_as 17 = .ok (.iconst 2, 1) := by decide +kernel
theorem dX12_as_18 : decode cX12_as 18 = .ok (.invokestatic 186, 3) := by decide +kernel
theorem dX12_as_21 : decode cX12_as 21 = .ok (.ifCond .ne 6, 3) := by decide +kernel
theorem dX12_as_24 : decode cX12_as 24 = .ok (.bipush (-2), 2) := by decide +kernel
theorem dX12_as_26 : decode cX12_as 26 = .ok (.ireturn, 1) := by decide +kernel
theorem dX12_as_27 : decode cX12_as 27 = .ok (.aload_n 0, 1) := by decide +kernel
theorem dX12_as_28 : decode cX12_as 28 = .ok (.getfield 28, 3) := by decide +kernel
theorem dX12_as_31 : decode cX12_as 31 = .ok (.iload_n 1, 1) := by decide +kernel
theorem dX12_as_32 : decode cX12_as 32 = .ok (.iaload, 1) := by decide +kernel
theorem dX12_as_33 : decode cX12_as 33 = .ok (.iload_n 2, 1) := by decide +kernel
theorem dX12_as_34 : decode cX12_as 34 = .ok (.if_icmp .lt 7, 3) := by decide +kernel
theorem dX12_as_37 : decode cX12_as 37 = .ok (.iconst 1, 1) := by decide +kernel
theorem dX12_as_38 : decode cX12_as 38 = .ok (.goto 8, 3) := by decide +kernel
theorem dX12_as_41 : decode cX12_as 41 = .ok (.aload_n 0, 1) := by decide +kernel
theorem dX12_as_42 : decode cX12_as 42 = .ok (.iconst 2, 1) := by decide +kernel
theorem dX12_as_43 : decode cX12_as 43 = .ok (.invokevirtual 249, 3) := by decide +kernel
theorem dX12_as_46 : decode cX12_as 46 = .ok (.ireturn, 1) := by decide +kernel
theorem dX12_trace_0 : decode cX12_trace 0 = .ok (.aload_n 0, 1) := by decide +kernel
theorem dX12_trace_1 : decode cX12_trace 1 = .ok (.getfield 338, 3) := by decide +kernel
theorem dX12_trace_4 : decode cX12_trace 4 = .ok (.ireturn, 1) := by decide +kernel
theorem dX12_fault_0 : decode cX12_fault 0 = .ok (.aload_n 0, 1) := by decide +kernel
theorem dX12_fault_1 : decode cX12_fault 1 = .ok (.getfield 181, 3) := by decide +kernel
theorem dX12_fault_4 : decode cX12_fault 4 = .ok (.ireturn, 1) := by decide +kernel
theorem dX12_many_0 : decode cX12_many 0 = .ok (.iload_n 1, 1) := by decide +kernel
theorem dX12_many_1 : decode cX12_many 1 = .ok (.tableswitch 105 0 9 #[55, 60, 65, 70, 75, 80, 85, 90, 95, 100], 55) := by decide +kernel
theorem dX12_many_56 : decode cX12_many 56 = .ok (.aload_n 0, 1) := by decide +kernel
theorem dX12_many_57 : decode cX12_many 57 = .ok (.getfield 190, 3) := by decide +kernel
theorem dX12_many_60 : decode cX12_many 60 = .ok (.ireturn, 1) := by decide +kernel
theorem dX12_many_61 : decode cX12_many 61 = .ok (.aload_n 0, 1) := by decide +kernel
theorem dX12_many_62 : decode cX12_many 62 = .ok (.getfield 193, 3) := by decide +kernel
theorem dX12_many_65 : decode cX12_many 65 = .ok (.ireturn, 1) := by decide +kernel
theorem dX12_many_66 : decode cX12_many 66 = .ok (.aload_n 0, 1) := by decide +kernel
theorem dX12_many_67 : decode cX12_many 67 = .ok (.getfield 196, 3) := by decide +kernel
theorem dX12_many_70 : decode cX12_many 70 = .ok (.ireturn, 1) := by decide +kernel
theorem dX12_many_71 : decode cX12_many 71 = .ok (.aload_n 0, 1) := by decide +kernel
theorem dX12_many_72 : decode cX12_many 72 = .ok (.getfield 256, 3) := by decide +kernel
theorem dX12_many_75 : decode cX12_many 75 = .ok (.ireturn, 1) := by decide +kernel
theorem dX12_many_76 : decode cX12_many 76 = .ok (.aload_n 0, 1) := by decide +kernel
theorem dX12_many_77 : decode cX12_many 77 = .ok (.getfield 268, 3) := by decide +kernel
theorem dX12_many_80 : decode cX12_many 80 = .ok (.ireturn, 1) := by decide +kernel
theorem dX12_many_81 : decode cX12_many 81 = .ok (.aload_n 0, 1) := by decide +kernel
theorem dX12_many_82 : decode cX12_many 82 = .ok (.getfield 271, 3) := by decide +kernel
theorem dX12_many_85 : decode cX12_many 85 = .ok (.ireturn, 1) := by decide +kernel
theorem dX12_many_86 : decode cX12_many 86 = .ok (.aload_n 0, 1) := by decide +kernel
theorem dX12_many_87 : decode cX12_many 87 = .ok (.getfield 277, 3) := by decide +kernel
theorem dX12_many_90 : decode cX12_many 90 = .ok (.ireturn, 1) := by decide +kernel
theorem dX12_many_91 : decode cX12_many 91 = .ok (.aload_n 0, 1) := by decide +kernel
theorem dX12_many_92 : decode cX12_many 92 = .ok (.getfield 285, 3) := by decide +kernel
theorem dX12_many_95 : decode cX12_many 95 = .ok (.ireturn, 1) := by decide +kernel
theorem dX12_many_96 : decode cX12_many 96 = .ok (.aload_n 0, 1) := by decide +kernel
theorem dX12_many_97 : decode cX12_many 97 = .ok (.getfield 291, 3) := by decide +kernel
theorem dX12_many_100 : decode cX12_many 100 = .ok (.ireturn, 1) := by decide +kernel
theorem dX12_many_101 : decode cX12_many 101 = .ok (.aload_n 0, 1) := by decide +kernel
theorem dX12_many_102 : decode cX12_many 102 = .ok (.getfield 317, 3) := by decide +kernel
theorem dX12_many_105 : decode cX12_many 105 = .ok (.ireturn, 1) := by decide +kernel
theorem dX12_many_106 : decode cX12_many 106 = .ok (.bipush (-2), 2) := by decide +kernel
theorem dX12_many_108 : decode cX12_many 108 = .ok (.ireturn, 1) := by decide +kernel
