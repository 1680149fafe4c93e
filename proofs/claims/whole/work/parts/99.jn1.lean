/-! THE LAW: its instructions, 1 -/
theorem dl_0 : decode code 0 = .ok (.new 8, 3) := by decide +kernel
theorem dl_3 : decode code 3 = .ok (.dup, 1) := by decide +kernel
theorem dl_4 : decode code 4 = .ok (.invokespecial 61, 3) := by decide +kernel
theorem dl_7 : decode code 7 = .ok (.astore_n 1, 1) := by decide +kernel
theorem dl_8 : decode code 8 = .ok (.new 62, 3) := by decide +kernel
theorem dl_11 : decode code 11 = .ok (.dup, 1) := by decide +kernel
theorem dl_12 : decode code 12 = .ok (.invokespecial 64, 3) := by decide +kernel
theorem dl_15 : decode code 15 = .ok (.astore_n 2, 1) := by decide +kernel
theorem dl_16 : decode code 16 = .ok (.iconst 1, 1) := by decide +kernel
theorem dl_17 : decode code 17 = .ok (.newarray .long, 2) := by decide +kernel
theorem dl_19 : decode code 19 = .ok (.astore_n 3, 1) := by decide +kernel
theorem dl_20 : decode code 20 = .ok (.iconst 0, 1) := by decide +kernel
theorem dl_21 : decode code 21 = .ok (.istore 4, 2) := by decide +kernel
theorem dl_23 : decode code 23 = .ok (.iload 4, 2) := by decide +kernel
theorem dl_25 : decode code 25 = .ok (.aload_n 0, 1) := by decide +kernel
theorem dl_26 : decode code 26 = .ok (.arraylength, 1) := by decide +kernel
theorem dl_27 : decode code 27 = .ok (.iconst 4, 1) := by decide +kernel
theorem dl_28 : decode code 28 = .ok (.isub, 1) := by decide +kernel
theorem dl_29 : decode code 29 = .ok (.if_icmp .gt 1103, 3) := by decide +kernel
theorem dl_32 : decode code 32 = .ok (.aload_n 0, 1) := by decide +kernel
theorem dl_33 : decode code 33 = .ok (.iload 4, 2) := by decide +kernel
theorem dl_35 : decode code 35 = .ok (.iaload, 1) := by decide +kernel
theorem dl_36 : decode code 36 = .ok (.bipush 31, 2) := by decide +kernel
theorem dl_38 : decode code 38 = .ok (.iand, 1) := by decide +kernel
theorem dl_39 : decode code 39 = .ok (.tableswitch 1087 0 16 #[81, 139, 152, 220, 304, 372, 452, 520, 576, 632, 700, 780, 836, 920, 976, 1013, 1050], 81) := by decide +kernel
theorem dl_120 : decode code 120 = .ok (.aload_n 1, 1) := by decide +kernel
theorem dl_121 : decode code 121 = .ok (.aload_n 0, 1) := by decide +kernel
theorem dl_122 : decode code 122 = .ok (.iload 4, 2) := by decide +kernel
theorem dl_124 : decode code 124 = .ok (.iconst 1, 1) := by decide +kernel
theorem dl_125 : decode code 125 = .ok (.iadd, 1) := by decide +kernel
theorem dl_126 : decode code 126 = .ok (.iaload, 1) := by decide +kernel
theorem dl_127 : decode code 127 = .ok (.i2c, 1) := by decide +kernel
theorem dl_128 : decode code 128 = .ok (.aload_n 3, 1) := by decide +kernel
theorem dl_129 : decode code 129 = .ok (.invokestatic 65, 3) := by decide +kernel
theorem dl_132 : decode code 132 = .ok (.istore 5, 2) := by decide +kernel
theorem dl_134 : decode code 134 = .ok (.aload_n 2, 1) := by decide +kernel
theorem dl_135 : decode code 135 = .ok (.aload_n 0, 1) := by decide +kernel
theorem dl_136 : decode code 136 = .ok (.iload 4, 2) := by decide +kernel
theorem dl_138 : decode code 138 = .ok (.iconst 1, 1) := by decide +kernel
theorem dl_139 : decode code 139 = .ok (.iadd, 1) := by decide +kernel
theorem dl_140 : decode code 140 = .ok (.iaload, 1) := by decide +kernel
theorem dl_141 : decode code 141 = .ok (.i2c, 1) := by decide +kernel
theorem dl_142 : decode code 142 = .ok (.invokevirtual 70, 3) := by decide +kernel
theorem dl_145 : decode code 145 = .ok (.istore 6, 2) := by decide +kernel
theorem dl_147 : decode code 147 = .ok (.aload_n 2, 1) := by decide +kernel
theorem dl_148 : decode code 148 = .ok (.invokevirtual 71, 3) := by decide +kernel
theorem dl_151 : decode code 151 = .ok (.iload 5, 2) := by decide +kernel
theorem dl_153 : decode code 153 = .ok (.if_icmp .eq 5, 3) := by decide +kernel
theorem dl_158 : decode code 158 = .ok (.iload 5, 2) := by decide +kernel
theorem dl_160 : decode code 160 = .ok (.ifCond .ne 15, 3) := by decide +kernel
theorem dl_163 : decode code 163 = .ok (.aload_n 3, 1) := by decide +kernel
theorem dl_164 : decode code 164 = .ok (.iconst 0, 1) := by decide +kernel
theorem dl_165 : decode code 165 = .ok (.laload, 1) := by decide +kernel
theorem dl_166 : decode code 166 = .ok (.iload 6, 2) := by decide +kernel
theorem dl_168 : decode code 168 = .ok (.i2l, 1) := by decide +kernel
theorem dl_169 : decode code 169 = .ok (.lcmp, 1) := by decide +kernel
theorem dl_170 : decode code 170 = .ok (.ifCond .eq 5, 3) := by decide +kernel
theorem dl_175 : decode code 175 = .ok (.goto 951, 3) := by decide +kernel
theorem dl_178 : decode code 178 = .ok (.aload_n 1, 1) := by decide +kernel
theorem dl_179 : decode code 179 = .ok (.invokevirtual 75, 3) := by decide +kernel
theorem dl_182 : decode code 182 = .ok (.aload_n 2, 1) := by decide +kernel
theorem dl_183 : decode code 183 = .ok (.invokevirtual 78, 3) := by decide +kernel
theorem dl_186 : decode code 186 = .ok (.if_icmp .eq 940, 3) := by decide +kernel
theorem dl_191 : decode code 191 = .ok (.aload_n 1, 1) := by decide +kernel
theorem dl_192 : decode code 192 = .ok (.aload_n 0, 1) := by decide +kernel
theorem dl_193 : decode code 193 = .ok (.iload 4, 2) := by decide +kernel
theorem dl_195 : decode code 195 = .ok (.iconst 1, 1) := by decide +kernel
theorem dl_196 : decode code 196 = .ok (.iadd, 1) := by decide +kernel
theorem dl_197 : decode code 197 = .ok (.iaload, 1) := by decide +kernel
theorem dl_198 : decode code 198 = .ok (.aload_n 0, 1) := by decide +kernel
theorem dl_199 : decode code 199 = .ok (.iload 4, 2) := by decide +kernel
theorem dl_201 : decode code 201 = .ok (.iconst 2, 1) := by decide +kernel
theorem dl_202 : decode code 202 = .ok (.iadd, 1) := by decide +kernel
theorem dl_203 : decode code 203 = .ok (.iaload, 1) := by decide +kernel
theorem dl_204 : decode code 204 = .ok (.aload_n 3, 1) := by decide +kernel
theorem dl_205 : decode code 205 = .ok (.invokestatic 79, 3) := by decide +kernel
theorem dl_208 : decode code 208 = .ok (.istore 5, 2) := by decide +kernel
theorem dl_210 : decode code 210 = .ok (.aload_n 2, 1) := by decide +kernel
theorem dl_211 : decode code 211 = .ok (.aload_n 0, 1) := by decide +kernel
theorem dl_212 : decode code 212 = .ok (.iload 4, 2) := by decide +kernel
theorem dl_214 : decode code 214 = .ok (.iconst 1, 1) := by decide +kernel
theorem dl_215 : decode code 215 = .ok (.iadd, 1) := by decide +kernel
theorem dl_216 : decode code 216 = .ok (.iaload, 1) := by decide +kernel
theorem dl_217 : decode code 217 = .ok (.aload_n 0, 1) := by decide +kernel
theorem dl_218 : decode code 218 = .ok (.iload 4, 2) := by decide +kernel
theorem dl_220 : decode code 220 = .ok (.iconst 2, 1) := by decide +kernel
theorem dl_221 : decode code 221 = .ok (.iadd, 1) := by decide +kernel
theorem dl_222 : decode code 222 = .ok (.iaload, 1) := by decide +kernel
theorem dl_223 : decode code 223 = .ok (.invokevirtual 82, 3) := by decide +kernel
theorem dl_226 : decode code 226 = .ok (.istore 6, 2) := by decide +kernel
theorem dl_228 : decode code 228 = .ok (.aload_n 2, 1) := by decide +kernel
theorem dl_229 : decode code 229 = .ok (.invokevirtual 71, 3) := by decide +kernel
theorem dl_232 : decode code 232 = .ok (.iload 5, 2) := by decide +kernel
theorem dl_234 : decode code 234 = .ok (.if_icmp .eq 5, 3) := by decide +kernel
theorem dl_239 : decode code 239 = .ok (.iload 5, 2) := by decide +kernel
theorem dl_241 : decode code 241 = .ok (.ifCond .ne 15, 3) := by decide +kernel
theorem dl_244 : decode code 244 = .ok (.aload_n 3, 1) := by decide +kernel
theorem dl_245 : decode code 245 = .ok (.iconst 0, 1) := by decide +kernel
theorem dl_246 : decode code 246 = .ok (.laload, 1) := by decide +kernel
theorem dl_247 : decode code 247 = .ok (.iload 6, 2) := by decide +kernel
theorem dl_249 : decode code 249 = .ok (.i2l, 1) := by decide +kernel
theorem dl_250 : decode code 250 = .ok (.lcmp, 1) := by decide +kernel
theorem dl_251 : decode code 251 = .ok (.ifCond .eq 5, 3) := by decide +kernel
theorem dl_256 : decode code 256 = .ok (.goto 870, 3) := by decide +kernel
theorem dl_259 : decode code 259 = .ok (.aload_n 1, 1) := by decide +kernel
theorem dl_260 : decode code 260 = .ok (.aload_n 0, 1) := by decide +kernel
theorem dl_261 : decode code 261 = .ok (.iload 4, 2) := by decide +kernel
theorem dl_263 : decode code 263 = .ok (.iconst 1, 1) := by decide +kernel
theorem dl_264 : decode code 264 = .ok (.iadd, 1) := by decide +kernel
theorem dl_265 : decode code 265 = .ok (.iaload, 1) := by decide +kernel
theorem dl_266 : decode code 266 = .ok (.aload_n 0, 1) := by decide +kernel
theorem dl_267 : decode code 267 = .ok (.iload 4, 2) := by decide +kernel
theorem dl_269 : decode code 269 = .ok (.iconst 2, 1) := by decide +kernel
theorem dl_270 : decode code 270 = .ok (.iadd, 1) := by decide +kernel
theorem dl_271 : decode code 271 = .ok (.iaload, 1) := by decide +kernel
theorem dl_272 : decode code 272 = .ok (.ifCond .eq 7, 3) := by decide +kernel
theorem dl_275 : decode code 275 = .ok (.iconst 1, 1) := by decide +kernel
theorem dl_276 : decode code 276 = .ok (.goto 4, 3) := by decide +kernel
theorem dl_279 : decode code 279 = .ok (.iconst 0, 1) := by decide +kernel
theorem dl_280 : decode code 280 = .ok (.aload_n 3, 1) := by decide +kernel
theorem dl_281 : decode code 281 = .ok (.invokestatic 83, 3) := by decide +kernel
theorem dl_284 : decode code 284 = .ok (.istore 5, 2) := by decide +kernel
theorem dl_286 : decode code 286 = .ok (.aload_n 2, 1) := by decide +kernel
theorem dl_287 : decode code 287 = .ok (.aload_n 0, 1) := by decide +kernel
theorem dl_288 : decode code 288 = .ok (.iload 4, 2) := by decide +kernel
theorem dl_290 : decode code 290 = .ok (.iconst 1, 1) := by decide +kernel
theorem dl_291 : decode code 291 = .ok (.iadd, 1) := by decide +kernel
theorem dl_292 : decode code 292 = .ok (.iaload, 1) := by decide +kernel
theorem dl_293 : decode code 293 = .ok (.aload_n 0, 1) := by decide +kernel
theorem dl_294 : decode code 294 = .ok (.iload 4, 2) := by decide +kernel
theorem dl_296 : decode code 296 = .ok (.iconst 2, 1) := by decide +kernel
theorem dl_297 : decode code 297 = .ok (.iadd, 1) := by decide +kernel
theorem dl_298 : decode code 298 = .ok (.iaload, 1) := by decide +kernel
theorem dl_299 : decode code 299 = .ok (.ifCond .eq 7, 3) := by decide +kernel
theorem dl_302 : decode code 302 = .ok (.iconst 1, 1) := by decide +kernel
theorem dl_303 : decode code 303 = .ok (.goto 4, 3) := by decide +kernel
theorem dl_306 : decode code 306 = .ok (.iconst 0, 1) := by decide +kernel
theorem dl_307 : decode code 307 = .ok (.invokevirtual 86, 3) := by decide +kernel
theorem dl_310 : decode code 310 = .ok (.istore 6, 2) := by decide +kernel
theorem dl_312 : decode code 312 = .ok (.aload_n 2, 1) := by decide +kernel
theorem dl_313 : decode code 313 = .ok (.invokevirtual 71, 3) := by decide +kernel
theorem dl_316 : decode code 316 = .ok (.iload 5, 2) := by decide +kernel
theorem dl_318 : decode code 318 = .ok (.if_icmp .eq 5, 3) := by decide +kernel
theorem dl_323 : decode code 323 = .ok (.iload 5, 2) := by decide +kernel
theorem dl_325 : decode code 325 = .ok (.ifCond .ne 15, 3) := by decide +kernel
theorem dl_328 : decode code 328 = .ok (.aload_n 3, 1) := by decide +kernel
theorem dl_329 : decode code 329 = .ok (.iconst 0, 1) := by decide +kernel
theorem dl_330 : decode code 330 = .ok (.laload, 1) := by decide +kernel
theorem dl_331 : decode code 331 = .ok (.iload 6, 2) := by decide +kernel
theorem dl_333 : decode code 333 = .ok (.i2l, 1) := by decide +kernel
theorem dl_334 : decode code 334 = .ok (.lcmp, 1) := by decide +kernel
theorem dl_335 : decode code 335 = .ok (.ifCond .eq 5, 3) := by decide +kernel
theorem dl_340 : decode code 340 = .ok (.goto 786, 3) := by decide +kernel
theorem dl_343 : decode code 343 = .ok (.aload_n 1, 1) := by decide +kernel
theorem dl_344 : decode code 344 = .ok (.aload_n 0, 1) := by decide +kernel
theorem dl_345 : decode code 345 = .ok (.iload 4, 2) := by decide +kernel
theorem dl_347 : decode code 347 = .ok (.iconst 1, 1) := by decide +kernel
theorem dl_348 : decode code 348 = .ok (.iadd, 1) := by decide +kernel
theorem dl_349 : decode code 349 = .ok (.iaload, 1) := by decide +kernel
theorem dl_350 : decode code 350 = .ok (.aload_n 0, 1) := by decide +kernel
theorem dl_351 : decode code 351 = .ok (.iload 4, 2) := by decide +kernel
theorem dl_353 : decode code 353 = .ok (.iconst 2, 1) := by decide +kernel
theorem dl_354 : decode code 354 = .ok (.iadd, 1) := by decide +kernel
theorem dl_355 : decode code 355 = .ok (.iaload, 1) := by decide +kernel
theorem dl_356 : decode code 356 = .ok (.aload_n 3, 1) := by decide +kernel
theorem dl_357 : decode code 357 = .ok (.invokestatic 87, 3) := by decide +kernel
theorem dl_360 : decode code 360 = .ok (.istore 5, 2) := by decide +kernel
theorem dl_362 : decode code 362 = .ok (.aload_n 2, 1) := by decide +kernel
theorem dl_363 : decode code 363 = .ok (.aload_n 0, 1) := by decide +kernel
theorem dl_364 : decode code 364 = .ok (.iload 4, 2) := by decide +kernel
theorem dl_366 : decode code 366 = .ok (.iconst 1, 1) := by decide +kernel
theorem dl_367 : decode code 367 = .ok (.iadd, 1) := by decide +kernel
theorem dl_368 : decode code 368 = .ok (.iaload, 1) := by decide +kernel
theorem dl_369 : decode code 369 = .ok (.aload_n 0, 1) := by decide +kernel
theorem dl_370 : decode code 370 = .ok (.iload 4, 2) := by decide +kernel
theorem dl_372 : decode code 372 = .ok (.iconst 2, 1) := by decide +kernel
theorem dl_373 : decode code 373 = .ok (.iadd, 1) := by decide +kernel
theorem dl_374 : decode code 374 = .ok (.iaload, 1) := by decide +kernel
theorem dl_375 : decode code 375 = .ok (.invokevirtual 89, 3) := by decide +kernel
theorem dl_378 : decode code 378 = .ok (.istore 6, 2) := by decide +kernel
theorem dl_380 : decode code 380 = .ok (.aload_n 2, 1) := by decide +kernel
theorem dl_381 : decode code 381 = .ok (.invokevirtual 71, 3) := by decide +kernel
theorem dl_384 : decode code 384 = .ok (.iload 5, 2) := by decide +kernel
theorem dl_386 : decode code 386 = .ok (.if_icmp .eq 5, 3) := by decide +kernel
theorem dl_391 : decode code 391 = .ok (.iload 5, 2) := by decide +kernel
theorem dl_393 : decode code 393 = .ok (.ifCond .ne 15, 3) := by decide +kernel
theorem dl_396 : decode code 396 = .ok (.aload_n 3, 1) := by decide +kernel
theorem dl_397 : decode code 397 = .ok (.iconst 0, 1) := by decide +kernel
theorem dl_398 : decode code 398 = .ok (.laload, 1) := by decide +kernel
theorem dl_399 : decode code 399 = .ok (.iload 6, 2) := by decide +kernel
theorem dl_401 : decode code 401 = .ok (.i2l, 1) := by decide +kernel
theorem dl_402 : decode code 402 = .ok (.lcmp, 1) := by decide +kernel
theorem dl_403 : decode code 403 = .ok (.ifCond .eq 5, 3) := by decide +kernel
theorem dl_408 : decode code 408 = .ok (.goto 718, 3) := by decide +kernel
theorem dl_411 : decode code 411 = .ok (.aload_n 1, 1) := by decide +kernel
theorem dl_412 : decode code 412 = .ok (.aload_n 0, 1) := by decide +kernel
theorem dl_413 : decode code 413 = .ok (.iload 4, 2) := by decide +kernel
theorem dl_415 : decode code 415 = .ok (.iconst 1, 1) := by decide +kernel
theorem dl_416 : decode code 416 = .ok (.iadd, 1) := by decide +kernel
theorem dl_417 : decode code 417 = .ok (.iaload, 1) := by decide +kernel
theorem dl_418 : decode code 418 = .ok (.aload_n 0, 1) := by decide +kernel
theorem dl_419 : decode code 419 = .ok (.iload 4, 2) := by decide +kernel
theorem dl_421 : decode code 421 = .ok (.iconst 2, 1) := by decide +kernel
theorem dl_422 : decode code 422 = .ok (.iadd, 1) := by decide +kernel
theorem dl_423 : decode code 423 = .ok (.iaload, 1) := by decide +kernel
theorem dl_424 : decode code 424 = .ok (.aload_n 0, 1) := by decide +kernel
theorem dl_425 : decode code 425 = .ok (.iload 4, 2) := by decide +kernel
theorem dl_427 : decode code 427 = .ok (.iconst 3, 1) := by decide +kernel
theorem dl_428 : decode code 428 = .ok (.iadd, 1) := by decide +kernel
theorem dl_429 : decode code 429 = .ok (.iaload, 1) := by decide +kernel
