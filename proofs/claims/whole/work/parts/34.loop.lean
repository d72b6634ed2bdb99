theorem dL_law_23 : decode cL_law 23 = .ok (.iload 4, 2) := by decide +kernel
theorem dL_law_25 : decode cL_law 25 = .ok (.aload_n 0, 1) := by decide +kernel
theorem dL_law_26 : decode cL_law 26 = .ok (.arraylength, 1) := by decide +kernel
theorem dL_law_27 : decode cL_law 27 = .ok (.iconst 4, 1) := by decide +kernel
theorem dL_law_28 : decode cL_law 28 = .ok (.isub, 1) := by decide +kernel
theorem dL_law_29 : decode cL_law 29 = .ok (.if_icmp .gt 1202, 3) := by decide +kernel
theorem dL_law_32 : decode cL_law 32 = .ok (.aload_n 0, 1) := by decide +kernel
theorem dL_law_33 : decode cL_law 33 = .ok (.iload 4, 2) := by decide +kernel
theorem dL_law_35 : decode cL_law 35 = .ok (.iaload, 1) := by decide +kernel
theorem dL_law_36 : decode cL_law 36 = .ok (.bipush 31, 2) := by decide +kernel
theorem dL_law_38 : decode cL_law 38 = .ok (.iand, 1) := by decide +kernel
theorem dL_law_39 : decode cL_law 39 = .ok (.tableswitch 1186 0 19 #[93, 149, 229, 313, 381, 461, 474, 542, 578, 658, 714, 727, 795, 863, 931, 999, 1067, 1147, 1160, 1173], 93) := by decide +kernel
theorem dL_law_132 : decode cL_law 132 = .ok (.aload_n 1, 1) := by decide +kernel
theorem dL_law_133 : decode cL_law 133 = .ok (.aload_n 0, 1) := by decide +kernel
theorem dL_law_134 : decode cL_law 134 = .ok (.iload 4, 2) := by decide +kernel
theorem dL_law_136 : decode cL_law 136 = .ok (.iconst 1, 1) := by decide +kernel
theorem dL_law_137 : decode cL_law 137 = .ok (.iadd, 1) := by decide +kernel
theorem dL_law_138 : decode cL_law 138 = .ok (.iaload, 1) := by decide +kernel
theorem dL_law_139 : decode cL_law 139 = .ok (.aload_n 3, 1) := by decide +kernel
theorem dL_law_140 : decode cL_law 140 = .ok (.invokestatic 69, 3) := by decide +kernel
theorem dL_law_143 : decode cL_law 143 = .ok (.istore 5, 2) := by decide +kernel
theorem dL_law_145 : decode cL_law 145 = .ok (.aload_n 2, 1) := by decide +kernel
theorem dL_law_146 : decode cL_law 146 = .ok (.aload_n 0, 1) := by decide +kernel
theorem dL_law_147 : decode cL_law 147 = .ok (.iload 4, 2) := by decide +kernel
theorem dL_law_149 : decode cL_law 149 = .ok (.iconst 1, 1) := by decide +kernel
theorem dL_law_150 : decode cL_law 150 = .ok (.iadd, 1) := by decide +kernel
theorem dL_law_151 : decode cL_law 151 = .ok (.iaload, 1) := by decide +kernel
theorem dL_law_152 : decode cL_law 152 = .ok (.invokevirtual 74, 3) := by decide +kernel
theorem dL_law_155 : decode cL_law 155 = .ok (.istore 6, 2) := by decide +kernel
theorem dL_law_157 : decode cL_law 157 = .ok (.aload_n 2, 1) := by decide +kernel
theorem dL_law_158 : decode cL_law 158 = .ok (.invokevirtual 75, 3) := by decide +kernel
theorem dL_law_161 : decode cL_law 161 = .ok (.iload 5, 2) := by decide +kernel
theorem dL_law_163 : decode cL_law 163 = .ok (.if_icmp .eq 5, 3) := by decide +kernel
theorem dL_law_166 : decode cL_law 166 = .ok (.iconst 0, 1) := by decide +kernel
theorem dL_law_167 : decode cL_law 167 = .ok (.ireturn, 1) := by decide +kernel
theorem dL_law_168 : decode cL_law 168 = .ok (.iload 5, 2) := by decide +kernel
theorem dL_law_170 : decode cL_law 170 = .ok (.ifCond .ne 15, 3) := by decide +kernel
theorem dL_law_173 : decode cL_law 173 = .ok (.aload_n 3, 1) := by decide +kernel
theorem dL_law_174 : decode cL_law 174 = .ok (.iconst 0, 1) := by decide +kernel
theorem dL_law_175 : decode cL_law 175 = .ok (.laload, 1) := by decide +kernel
theorem dL_law_176 : decode cL_law 176 = .ok (.iload 6, 2) := by decide +kernel
theorem dL_law_178 : decode cL_law 178 = .ok (.i2l, 1) := by decide +kernel
theorem dL_law_179 : decode cL_law 179 = .ok (.lcmp, 1) := by decide +kernel
theorem dL_law_180 : decode cL_law 180 = .ok (.ifCond .eq 5, 3) := by decide +kernel
theorem dL_law_183 : decode cL_law 183 = .ok (.iconst 0, 1) := by decide +kernel
theorem dL_law_184 : decode cL_law 184 = .ok (.ireturn, 1) := by decide +kernel
theorem dL_law_185 : decode cL_law 185 = .ok (.goto 1040, 3) := by decide +kernel
theorem dL_law_188 : decode cL_law 188 = .ok (.aload_n 1, 1) := by decide +kernel
theorem dL_law_189 : decode cL_law 189 = .ok (.aload_n 0, 1) := by decide +kernel
theorem dL_law_190 : decode cL_law 190 = .ok (.iload 4, 2) := by decide +kernel
theorem dL_law_192 : decode cL_law 192 = .ok (.iconst 1, 1) := by decide +kernel
theorem dL_law_193 : decode cL_law 193 = .ok (.iadd, 1) := by decide +kernel
theorem dL_law_194 : decode cL_law 194 = .ok (.iaload, 1) := by decide +kernel
theorem dL_law_195 : decode cL_law 195 = .ok (.aload_n 0, 1) := by decide +kernel
theorem dL_law_196 : decode cL_law 196 = .ok (.iload 4, 2) := by decide +kernel
theorem dL_law_198 : decode cL_law 198 = .ok (.iconst 2, 1) := by decide +kernel
theorem dL_law_199 : decode cL_law 199 = .ok (.iadd, 1) := by decide +kernel
theorem dL_law_200 : decode cL_law 200 = .ok (.iaload, 1) := by decide +kernel
theorem dL_law_201 : decode cL_law 201 = .ok (.aload_n 0, 1) := by decide +kernel
theorem dL_law_202 : decode cL_law 202 = .ok (.iload 4, 2) := by decide +kernel
theorem dL_law_204 : decode cL_law 204 = .ok (.iconst 3, 1) := by decide +kernel
theorem dL_law_205 : decode cL_law 205 = .ok (.iadd, 1) := by decide +kernel
theorem dL_law_206 : decode cL_law 206 = .ok (.iaload, 1) := by decide +kernel
theorem dL_law_207 : decode cL_law 207 = .ok (.aload_n 3, 1) := by decide +kernel
theorem dL_law_208 : decode cL_law 208 = .ok (.invokestatic 79, 3) := by decide +kernel
theorem dL_law_211 : decode cL_law 211 = .ok (.istore 5, 2) := by decide +kernel
theorem dL_law_213 : decode cL_law 213 = .ok (.aload_n 2, 1) := by decide +kernel
theorem dL_law_214 : decode cL_law 214 = .ok (.aload_n 0, 1) := by decide +kernel
theorem dL_law_215 : decode cL_law 215 = .ok (.iload 4, 2) := by decide +kernel
theorem dL_law_217 : decode cL_law 217 = .ok (.iconst 1, 1) := by decide +kernel
theorem dL_law_218 : decode cL_law 218 = .ok (.iadd, 1) := by decide +kernel
theorem dL_law_219 : decode cL_law 219 = .ok (.iaload, 1) := by decide +kernel
theorem dL_law_220 : decode cL_law 220 = .ok (.aload_n 0, 1) := by decide +kernel
theorem dL_law_221 : decode cL_law 221 = .ok (.iload 4, 2) := by decide +kernel
theorem dL_law_223 : decode cL_law 223 = .ok (.iconst 2, 1) := by decide +kernel
theorem dL_law_224 : decode cL_law 224 = .ok (.iadd, 1) := by decide +kernel
theorem dL_law_225 : decode cL_law 225 = .ok (.iaload, 1) := by decide +kernel
theorem dL_law_226 : decode cL_law 226 = .ok (.aload_n 0, 1) := by decide +kernel
theorem dL_law_227 : decode cL_law 227 = .ok (.iload 4, 2) := by decide +kernel
theorem dL_law_229 : decode cL_law 229 = .ok (.iconst 3, 1) := by decide +kernel
theorem dL_law_230 : decode cL_law 230 = .ok (.iadd, 1) := by decide +kernel
theorem dL_law_231 : decode cL_law 231 = .ok (.iaload, 1) := by decide +kernel
theorem dL_law_232 : decode cL_law 232 = .ok (.invokevirtual 82, 3) := by decide +kernel
theorem dL_law_235 : decode cL_law 235 = .ok (.istore 6, 2) := by decide +kernel
theorem dL_law_237 : decode cL_law 237 = .ok (.aload_n 2, 1) := by decide +kernel
theorem dL_law_238 : decode cL_law 238 = .ok (.invokevirtual 75, 3) := by decide +kernel
theorem dL_law_241 : decode cL_law 241 = .ok (.iload 5, 2) := by decide +kernel
theorem dL_law_243 : decode cL_law 243 = .ok (.if_icmp .eq 5, 3) := by decide +kernel
theorem dL_law_246 : decode cL_law 246 = .ok (.iconst 0, 1) := by decide +kernel
theorem dL_law_247 : decode cL_law 247 = .ok (.ireturn, 1) := by decide +kernel
theorem dL_law_248 : decode cL_law 248 = .ok (.iload 5, 2) := by decide +kernel
theorem dL_law_250 : decode cL_law 250 = .ok (.ifCond .ne 15, 3) := by decide +kernel
theorem dL_law_253 : decode cL_law 253 = .ok (.aload_n 3, 1) := by decide +kernel
theorem dL_law_254 : decode cL_law 254 = .ok (.iconst 0, 1) := by decide +kernel
theorem dL_law_255 : decode cL_law 255 = .ok (.laload, 1) := by decide +kernel
theorem dL_law_256 : decode cL_law 256 = .ok (.iload 6, 2) := by decide +kernel
theorem dL_law_258 : decode cL_law 258 = .ok (.i2l, 1) := by decide +kernel
theorem dL_law_259 : decode cL_law 259 = .ok (.lcmp, 1) := by decide +kernel
theorem dL_law_260 : decode cL_law 260 = .ok (.ifCond .eq 5, 3) := by decide +kernel
theorem dL_law_263 : decode cL_law 263 = .ok (.iconst 0, 1) := by decide +kernel
theorem dL_law_264 : decode cL_law 264 = .ok (.ireturn, 1) := by decide +kernel
theorem dL_law_265 : decode cL_law 265 = .ok (.goto 960, 3) := by decide +kernel
theorem dL_law_268 : decode cL_law 268 = .ok (.aload_n 1, 1) := by decide +kernel
theorem dL_law_269 : decode cL_law 269 = .ok (.aload_n 0, 1) := by decide +kernel
theorem dL_law_270 : decode cL_law 270 = .ok (.iload 4, 2) := by decide +kernel
theorem dL_law_272 : decode cL_law 272 = .ok (.iconst 1, 1) := by decide +kernel
theorem dL_law_273 : decode cL_law 273 = .ok (.iadd, 1) := by decide +kernel
theorem dL_law_274 : decode cL_law 274 = .ok (.iaload, 1) := by decide +kernel
theorem dL_law_275 : decode cL_law 275 = .ok (.aload_n 0, 1) := by decide +kernel
theorem dL_law_276 : decode cL_law 276 = .ok (.iload 4, 2) := by decide +kernel
theorem dL_law_278 : decode cL_law 278 = .ok (.iconst 2, 1) := by decide +kernel
theorem dL_law_279 : decode cL_law 279 = .ok (.iadd, 1) := by decide +kernel
theorem dL_law_280 : decode cL_law 280 = .ok (.iaload, 1) := by decide +kernel
theorem dL_law_281 : decode cL_law 281 = .ok (.ifCond .eq 7, 3) := by decide +kernel
theorem dL_law_284 : decode cL_law 284 = .ok (.iconst 1, 1) := by decide +kernel
theorem dL_law_285 : decode cL_law 285 = .ok (.goto 4, 3) := by decide +kernel
theorem dL_law_288 : decode cL_law 288 = .ok (.iconst 0, 1) := by decide +kernel
theorem dL_law_289 : decode cL_law 289 = .ok (.aload_n 3, 1) := by decide +kernel
theorem dL_law_290 : decode cL_law 290 = .ok (.invokestatic 83, 3) := by decide +kernel
theorem dL_law_293 : decode cL_law 293 = .ok (.istore 5, 2) := by decide +kernel
theorem dL_law_295 : decode cL_law 295 = .ok (.aload_n 2, 1) := by decide +kernel
theorem dL_law_296 : decode cL_law 296 = .ok (.aload_n 0, 1) := by decide +kernel
theorem dL_law_297 : decode cL_law 297 = .ok (.iload 4, 2) := by decide +kernel
theorem dL_law_299 : decode cL_law 299 = .ok (.iconst 1, 1) := by decide +kernel
theorem dL_law_300 : decode cL_law 300 = .ok (.iadd, 1) := by decide +kernel
theorem dL_law_301 : decode cL_law 301 = .ok (.iaload, 1) := by decide +kernel
theorem dL_law_302 : decode cL_law 302 = .ok (.aload_n 0, 1) := by decide +kernel
theorem dL_law_303 : decode cL_law 303 = .ok (.iload 4, 2) := by decide +kernel
theorem dL_law_305 : decode cL_law 305 = .ok (.iconst 2, 1) := by decide +kernel
theorem dL_law_306 : decode cL_law 306 = .ok (.iadd, 1) := by decide +kernel
theorem dL_law_307 : decode cL_law 307 = .ok (.iaload, 1) := by decide +kernel
theorem dL_law_308 : decode cL_law 308 = .ok (.ifCond .eq 7, 3) := by decide +kernel
theorem dL_law_311 : decode cL_law 311 = .ok (.iconst 1, 1) := by decide +kernel
theorem dL_law_312 : decode cL_law 312 = .ok (.goto 4, 3) := by decide +kernel
theorem dL_law_315 : decode cL_law 315 = .ok (.iconst 0, 1) := by decide +kernel
theorem dL_law_316 : decode cL_law 316 = .ok (.invokevirtual 86, 3) := by decide +kernel
theorem dL_law_319 : decode cL_law 319 = .ok (.istore 6, 2) := by decide +kernel
theorem dL_law_321 : decode cL_law 321 = .ok (.aload_n 2, 1) := by decide +kernel
theorem dL_law_322 : decode cL_law 322 = .ok (.invokevirtual 75, 3) := by decide +kernel
theorem dL_law_325 : decode cL_law 325 = .ok (.iload 5, 2) := by decide +kernel
theorem dL_law_327 : decode cL_law 327 = .ok (.if_icmp .eq 5, 3) := by decide +kernel
theorem dL_law_330 : decode cL_law 330 = .ok (.iconst 0, 1) := by decide +kernel
theorem dL_law_331 : decode cL_law 331 = .ok (.ireturn, 1) := by decide +kernel
theorem dL_law_332 : decode cL_law 332 = .ok (.iload 5, 2) := by decide +kernel
theorem dL_law_334 : decode cL_law 334 = .ok (.ifCond .ne 15, 3) := by decide +kernel
theorem dL_law_337 : decode cL_law 337 = .ok (.aload_n 3, 1) := by decide +kernel
theorem dL_law_338 : decode cL_law 338 = .ok (.iconst 0, 1) := by decide +kernel
theorem dL_law_339 : decode cL_law 339 = .ok (.laload, 1) := by decide +kernel
theorem dL_law_340 : decode cL_law 340 = .ok (.iload 6, 2) := by decide +kernel
theorem dL_law_342 : decode cL_law 342 = .ok (.i2l, 1) := by decide +kernel
theorem dL_law_343 : decode cL_law 343 = .ok (.lcmp, 1) := by decide +kernel
theorem dL_law_344 : decode cL_law 344 = .ok (.ifCond .eq 5, 3) := by decide +kernel
theorem dL_law_347 : decode cL_law 347 = .ok (.iconst 0, 1) := by decide +kernel
theorem dL_law_348 : decode cL_law 348 = .ok (.ireturn, 1) := by decide +kernel
theorem dL_law_349 : decode cL_law 349 = .ok (.goto 876, 3) := by decide +kernel
theorem dL_law_352 : decode cL_law 352 = .ok (.aload_n 1, 1) := by decide +kernel
theorem dL_law_353 : decode cL_law 353 = .ok (.aload_n 0, 1) := by decide +kernel
theorem dL_law_354 : decode cL_law 354 = .ok (.iload 4, 2) := by decide +kernel
theorem dL_law_356 : decode cL_law 356 = .ok (.iconst 1, 1) := by decide +kernel
theorem dL_law_357 : decode cL_law 357 = .ok (.iadd, 1) := by decide +kernel
theorem dL_law_358 : decode cL_law 358 = .ok (.iaload, 1) := by decide +kernel
theorem dL_law_359 : decode cL_law 359 = .ok (.aload_n 0, 1) := by decide +kernel
theorem dL_law_360 : decode cL_law 360 = .ok (.iload 4, 2) := by decide +kernel
theorem dL_law_362 : decode cL_law 362 = .ok (.iconst 2, 1) := by decide +kernel
theorem dL_law_363 : decode cL_law 363 = .ok (.iadd, 1) := by decide +kernel
theorem dL_law_364 : decode cL_law 364 = .ok (.iaload, 1) := by decide +kernel
theorem dL_law_365 : decode cL_law 365 = .ok (.aload_n 3, 1) := by decide +kernel
theorem dL_law_366 : decode cL_law 366 = .ok (.invokestatic 87, 3) := by decide +kernel
theorem dL_law_369 : decode cL_law 369 = .ok (.istore 5, 2) := by decide +kernel
theorem dL_law_371 : decode cL_law 371 = .ok (.aload_n 2, 1) := by decide +kernel
theorem dL_law_372 : decode cL_law 372 = .ok (.aload_n 0, 1) := by decide +kernel
theorem dL_law_373 : decode cL_law 373 = .ok (.iload 4, 2) := by decide +kernel
theorem dL_law_375 : decode cL_law 375 = .ok (.iconst 1, 1) := by decide +kernel
theorem dL_law_376 : decode cL_law 376 = .ok (.iadd, 1) := by decide +kernel
theorem dL_law_377 : decode cL_law 377 = .ok (.iaload, 1) := by decide +kernel
theorem dL_law_378 : decode cL_law 378 = .ok (.aload_n 0, 1) := by decide +kernel
theorem dL_law_379 : decode cL_law 379 = .ok (.iload 4, 2) := by decide +kernel
theorem dL_law_381 : decode cL_law 381 = .ok (.iconst 2, 1) := by decide +kernel
theorem dL_law_382 : decode cL_law 382 = .ok (.iadd, 1) := by decide +kernel
theorem dL_law_383 : decode cL_law 383 = .ok (.iaload, 1) := by decide +kernel
theorem dL_law_384 : decode cL_law 384 = .ok (.invokevirtual 90, 3) := by decide +kernel
theorem dL_law_387 : decode cL_law 387 = .ok (.istore 6, 2) := by decide +kernel
theorem dL_law_389 : decode cL_law 389 = .ok (.aload_n 2, 1) := by decide +kernel
theorem dL_law_390 : decode cL_law 390 = .ok (.invokevirtual 75, 3) := by decide +kernel
theorem dL_law_393 : decode cL_law 393 = .ok (.iload 5, 2) := by decide +kernel
theorem dL_law_395 : decode cL_law 395 = .ok (.if_icmp .eq 5, 3) := by decide +kernel
theorem dL_law_398 : decode cL_law 398 = .ok (.iconst 0, 1) := by decide +kernel
theorem dL_law_399 : decode cL_law 399 = .ok (.ireturn, 1) := by decide +kernel
theorem dL_law_400 : decode cL_law 400 = .ok (.iload 5, 2) := by decide +kernel
theorem dL_law_402 : decode cL_law 402 = .ok (.ifCond .ne 15, 3) := by decide +kernel
theorem dL_law_405 : decode cL_law 405 = .ok (.aload_n 3, 1) := by decide +kernel
theorem dL_law_406 : decode cL_law 406 = .ok (.iconst 0, 1) := by decide +kernel
theorem dL_law_407 : decode cL_law 407 = .ok (.laload, 1) := by decide +kernel
theorem dL_law_408 : decode cL_law 408 = .ok (.iload 6, 2) := by decide +kernel
theorem dL_law_410 : decode cL_law 410 = .ok (.i2l, 1) := by decide +kernel
theorem dL_law_411 : decode cL_law 411 = .ok (.lcmp, 1) := by decide +kernel
theorem dL_law_412 : decode cL_law 412 = .ok (.ifCond .eq 5, 3) := by decide +kernel
theorem dL_law_415 : decode cL_law 415 = .ok (.iconst 0, 1) := by decide +kernel
theorem dL_law_416 : decode cL_law 416 = .ok (.ireturn, 1) := by decide +kernel
theorem dL_law_417 : decode cL_law 417 = .ok (.goto 808, 3) := by decide +kernel
theorem dL_law_420 : decode cL_law 420 = .ok (.aload_n 1, 1) := by decide +kernel
theorem dL_law_421 : decode cL_law 421 = .ok (.aload_n 0, 1) := by decide +kernel
theorem dL_law_422 : decode cL_law 422 = .ok (.iload 4, 2) := by decide +kernel
theorem dL_law_424 : decode cL_law 424 = .ok (.iconst 1, 1) := by decide +kernel
theorem dL_law_425 : decode cL_law 425 = .ok (.iadd, 1) := by decide +kernel
theorem dL_law_426 : decode cL_law 426 = .ok (.iaload, 1) := by decide +kernel
theorem dL_law_427 : decode cL_law 427 = .ok (.aload_n 0, 1) := by decide +kernel
theorem dL_law_428 : decode cL_law 428 = .ok (.iload 4, 2) := by decide +kernel
theorem dL_law_430 : decode cL_law 430 = .ok (.iconst 2, 1) := by decide +kernel
theorem dL_law_431 : decode cL_law 431 = .ok (.iadd, 1) := by decide +kernel
theorem dL_law_432 : decode cL_law 432 = .ok (.iaload, 1) := by decide +kernel
theorem dL_law_433 : decode cL_law 433 = .ok (.aload_n 0, 1) := by decide +kernel
theorem dL_law_434 : decode cL_law 434 = .ok (.iload 4, 2) := by decide +kernel
theorem dL_law_436 : decode cL_law 436 = .ok (.iconst 3, 1) := by decide +kernel
theorem dL_law_437 : decode cL_law 437 = .ok (.iadd, 1) := by decide +kernel
theorem dL_law_438 : decode cL_law 438 = .ok (.iaload, 1) := by decide +kernel
theorem dL_law_439 : decode cL_law 439 = .ok (.aload_n 3, 1) := by decide +kernel
theorem dL_law_440 : decode cL_law 440 = .ok (.invokestatic 91, 3) := by decide +kernel
theorem dL_law_443 : decode cL_law 443 = .ok (.istore 5, 2) := by decide +kernel
theorem dL_law_445 : decode cL_law 445 = .ok (.aload_n 2, 1) := by decide +kernel
theorem dL_law_446 : decode cL_law 446 = .ok (.aload_n 0, 1) := by decide +kernel
theorem dL_law_447 : decode cL_law 447 = .ok (.iload 4, 2) := by decide +kernel
theorem dL_law_449 : decode cL_law 449 = .ok (.iconst 1, 1) := by decide +kernel
theorem dL_law_450 : decode cL_law 450 = .ok (.iadd, 1) := by decide +kernel
theorem dL_law_451 : decode cL_law 451 = .ok (.iaload, 1) := by decide +kernel
theorem dL_law_452 : decode cL_law 452 = .ok (.aload_n 0, 1) := by decide +kernel
theorem dL_law_453 : decode cL_law 453 = .ok (.iload 4, 2) := by decide +kernel
theorem dL_law_455 : decode cL_law 455 = .ok (.iconst 2, 1) := by decide +kernel
theorem dL_law_456 : decode cL_law 456 = .ok (.iadd, 1) := by decide +kernel
theorem dL_law_457 : decode cL_law 457 = .ok (.iaload, 1) := by decide +kernel
theorem dL_law_458 : decode cL_law 458 = .ok (.aload_n 0, 1) := by decide +kernel
theorem dL_law_459 : decode cL_law 459 = .ok (.iload 4, 2) := by decide +kernel
theorem dL_law_461 : decode cL_law 461 = .ok (.iconst 3, 1) := by decide +kernel
theorem dL_law_462 : decode cL_law 462 = .ok (.iadd, 1) := by decide +kernel
theorem dL_law_463 : decode cL_law 463 = .ok (.iaload, 1) := by decide +kernel
theorem dL_law_464 : decode cL_law 464 = .ok (.invokevirtual 93, 3) := by decide +kernel
theorem dL_law_467 : decode cL_law 467 = .ok (.istore 6, 2) := by decide +kernel
theorem dL_law_469 : decode cL_law 469 = .ok (.aload_n 2, 1) := by decide +kernel
theorem dL_law_470 : decode cL_law 470 = .ok (.invokevirtual 75, 3) := by decide +kernel
theorem dL_law_473 : decode cL_law 473 = .ok (.iload 5, 2) := by decide +kernel
theorem dL_law_475 : decode cL_law 475 = .ok (.if_icmp .eq 5, 3) := by decide +kernel
theorem dL_law_478 : decode cL_law 478 = .ok (.iconst 0, 1) := by decide +kernel
theorem dL_law_479 : decode cL_law 479 = .ok (.ireturn, 1) := by decide +kernel
theorem dL_law_480 : decode cL_law 480 = .ok (.iload 5, 2) := by decide +kernel
theorem dL_law_482 : decode cL_law 482 = .ok (.ifCond .ne 15, 3) := by decide +kernel
theorem dL_law_485 : decode cL_law 485 = .ok (.aload_n 3, 1) := by decide +kernel
theorem dL_law_486 : decode cL_law 486 = .ok (.iconst 0, 1) := by decide +kernel
theorem dL_law_487 : decode cL_law 487 = .ok (.laload, 1) := by decide +kernel
theorem dL_law_488 : decode cL_law 488 = .ok (.iload 6, 2) := by decide +kernel
theorem dL_law_490 : decode cL_law 490 = .ok (.i2l, 1) := by decide +kernel
theorem dL_law_491 : decode cL_law 491 = .ok (.lcmp, 1) := by decide +kernel
theorem dL_law_492 : decode cL_law 492 = .ok (.ifCond .eq 5, 3) := by decide +kernel
theorem dL_law_495 : decode cL_law 495 = .ok (.iconst 0, 1) := by decide +kernel
theorem dL_law_496 : decode cL_law 496 = .ok (.ireturn, 1) := by decide +kernel
theorem dL_law_497 : decode cL_law 497 = .ok (.goto 728, 3) := by decide +kernel
theorem dL_law_500 : decode cL_law 500 = .ok (.aload_n 1, 1) := by decide +kernel
theorem dL_law_501 : decode cL_law 501 = .ok (.invokevirtual 94, 3) := by decide +kernel
theorem dL_law_504 : decode cL_law 504 = .ok (.aload_n 2, 1) := by decide +kernel
theorem dL_law_505 : decode cL_law 505 = .ok (.invokevirtual 97, 3) := by decide +kernel
theorem dL_law_508 : decode cL_law 508 = .ok (.if_icmp .eq 717, 3) := by decide +kernel
theorem dL_law_511 : decode cL_law 511 = .ok (.iconst 0, 1) := by decide +kernel
theorem dL_law_512 : decode cL_law 512 = .ok (.ireturn, 1) := by decide +kernel
theorem dL_law_513 : decode cL_law 513 = .ok (.aload_n 1, 1) := by decide +kernel
theorem dL_law_514 : decode cL_law 514 = .ok (.aload_n 0, 1) := by decide +kernel
theorem dL_law_515 : decode cL_law 515 = .ok (.iload 4, 2) := by decide +kernel
theorem dL_law_517 : decode cL_law 517 = .ok (.iconst 1, 1) := by decide +kernel
theorem dL_law_518 : decode cL_law 518 = .ok (.iadd, 1) := by decide +kernel
theorem dL_law_519 : decode cL_law 519 = .ok (.iaload, 1) := by decide +kernel
theorem dL_law_520 : decode cL_law 520 = .ok (.aload_n 0, 1) := by decide +kernel
theorem dL_law_521 : decode cL_law 521 = .ok (.iload 4, 2) := by decide +kernel
theorem dL_law_523 : decode cL_law 523 = .ok (.iconst 2, 1) := by decide +kernel
theorem dL_law_524 : decode cL_law 524 = .ok (.iadd, 1) := by decide +kernel
theorem dL_law_525 : decode cL_law 525 = .ok (.iaload, 1) := by decide +kernel
theorem dL_law_526 : decode cL_law 526 = .ok (.aload_n 3, 1) := by decide +kernel
theorem dL_law_527 : decode cL_law 527 = .ok (.invokestatic 98, 3) := by decide +kernel
theorem dL_law_530 : decode cL_law 530 = .ok (.istore 5, 2) := by decide +kernel
theorem dL_law_532 : decode cL_law 532 = .ok (.aload_n 2, 1) := by decide +kernel
theorem dL_law_533 : decode cL_law 533 = .ok (.aload_n 0, 1) := by decide +kernel
theorem dL_law_534 : decode cL_law 534 = .ok (.iload 4, 2) := by decide +kernel
theorem dL_law_536 : decode cL_law 536 = .ok (.iconst 1, 1) := by decide +kernel
theorem dL_law_537 : decode cL_law 537 = .ok (.iadd, 1) := by decide +kernel
theorem dL_law_538 : decode cL_law 538 = .ok (.iaload, 1) := by decide +kernel
theorem dL_law_539 : decode cL_law 539 = .ok (.aload_n 0, 1) := by decide +kernel
theorem dL_law_540 : decode cL_law 540 = .ok (.iload 4, 2) := by decide +kernel
theorem dL_law_542 : decode cL_law 542 = .ok (.iconst 2, 1) := by decide +kernel
theorem dL_law_543 : decode cL_law 543 = .ok (.iadd, 1) := by decide +kernel
theorem dL_law_544 : decode cL_law 544 = .ok (.iaload, 1) := by decide +kernel
theorem dL_law_545 : decode cL_law 545 = .ok (.invokevirtual 100, 3) := by decide +kernel
theorem dL_law_548 : decode cL_law 548 = .ok (.istore 6, 2) := by decide +kernel
theorem dL_law_550 : decode cL_law 550 = .ok (.aload_n 2, 1) := by decide +kernel
theorem dL_law_551 : decode cL_law 551 = .ok (.invokevirtual 75, 3) := by decide +kernel
theorem dL_law_554 : decode cL_law 554 = .ok (.iload 5, 2) := by decide +kernel
theorem dL_law_556 : decode cL_law 556 = .ok (.if_icmp .eq 5, 3) := by decide +kernel
theorem dL_law_559 : decode cL_law 559 = .ok (.iconst 0, 1) := by decide +kernel
theorem dL_law_560 : decode cL_law 560 = .ok (.ireturn, 1) := by decide +kernel
theorem dL_law_561 : decode cL_law 561 = .ok (.iload 5, 2) := by decide +kernel
theorem dL_law_563 : decode cL_law 563 = .ok (.ifCond .ne 15, 3) := by decide +kernel
theorem dL_law_566 : decode cL_law 566 = .ok (.aload_n 3, 1) := by decide +kernel
theorem dL_law_567 : decode cL_law 567 = .ok (.iconst 0, 1) := by decide +kernel
theorem dL_law_568 : decode cL_law 568 = .ok (.laload, 1) := by decide +kernel
theorem dL_law_569 : decode cL_law 569 = .ok (.iload 6, 2) := by decide +kernel
theorem dL_law_571 : decode cL_law 571 = .ok (.i2l, 1) := by decide +kernel
theorem dL_law_572 : decode cL_law 572 = .ok (.lcmp, 1) := by decide +kernel
theorem dL_law_573 : decode cL_law 573 = .ok (.ifCond .eq 5, 3) := by decide +kernel
theorem dL_law_576 : decode cL_law 576 = .ok (.iconst 0, 1) := by decide +kernel
theorem dL_law_577 : decode cL_law 577 = .ok (.ireturn, 1) := by decide +kernel
theorem dL_law_578 : decode cL_law 578 = .ok (.goto 647, 3) := by decide +kernel
theorem dL_law_581 : decode cL_law 581 = .ok (.aload_n 1, 1) := by decide +kernel
theorem dL_law_582 : decode cL_law 582 = .ok (.aload_n 0, 1) := by decide +kernel
theorem dL_law_583 : decode cL_law 583 = .ok (.iload 4, 2) := by decide +kernel
theorem dL_law_585 : decode cL_law 585 = .ok (.iconst 1, 1) := by decide +kernel
theorem dL_law_586 : decode cL_law 586 = .ok (.iadd, 1) := by decide +kernel
theorem dL_law_587 : decode cL_law 587 = .ok (.iaload, 1) := by decide +kernel
theorem dL_law_588 : decode cL_law 588 = .ok (.invokestatic 101, 3) := by decide +kernel
theorem dL_law_591 : decode cL_law 591 = .ok (.istore 5, 2) := by decide +kernel
theorem dL_law_593 : decode cL_law 593 = .ok (.aload_n 2, 1) := by decide +kernel
theorem dL_law_594 : decode cL_law 594 = .ok (.aload_n 0, 1) := by decide +kernel
theorem dL_law_595 : decode cL_law 595 = .ok (.iload 4, 2) := by decide +kernel
theorem dL_law_597 : decode cL_law 597 = .ok (.iconst 1, 1) := by decide +kernel
theorem dL_law_598 : decode cL_law 598 = .ok (.iadd, 1) := by decide +kernel
theorem dL_law_599 : decode cL_law 599 = .ok (.iaload, 1) := by decide +kernel
theorem dL_law_600 : decode cL_law 600 = .ok (.invokevirtual 104, 3) := by decide +kernel
theorem dL_law_603 : decode cL_law 603 = .ok (.aload_n 2, 1) := by decide +kernel
theorem dL_law_604 : decode cL_law 604 = .ok (.invokevirtual 75, 3) := by decide +kernel
theorem dL_law_607 : decode cL_law 607 = .ok (.iload 5, 2) := by decide +kernel
theorem dL_law_609 : decode cL_law 609 = .ok (.if_icmp .eq 5, 3) := by decide +kernel
theorem dL_law_612 : decode cL_law 612 = .ok (.iconst 0, 1) := by decide +kernel
theorem dL_law_613 : decode cL_law 613 = .ok (.ireturn, 1) := by decide +kernel
theorem dL_law_614 : decode cL_law 614 = .ok (.goto 611, 3) := by decide +kernel
theorem dL_law_617 : decode cL_law 617 = .ok (.aload_n 1, 1) := by decide +kernel
theorem dL_law_618 : decode cL_law 618 = .ok (.aload_n 0, 1) := by decide +kernel
theorem dL_law_619 : decode cL_law 619 = .ok (.iload 4, 2) := by decide +kernel
theorem dL_law_621 : decode cL_law 621 = .ok (.iconst 1, 1) := by decide +kernel
theorem dL_law_622 : decode cL_law 622 = .ok (.iadd, 1) := by decide +kernel
theorem dL_law_623 : decode cL_law 623 = .ok (.iaload, 1) := by decide +kernel
theorem dL_law_624 : decode cL_law 624 = .ok (.aload_n 0, 1) := by decide +kernel
theorem dL_law_625 : decode cL_law 625 = .ok (.iload 4, 2) := by decide +kernel
theorem dL_law_627 : decode cL_law 627 = .ok (.iconst 2, 1) := by decide +kernel
theorem dL_law_628 : decode cL_law 628 = .ok (.iadd, 1) := by decide +kernel
theorem dL_law_629 : decode cL_law 629 = .ok (.iaload, 1) := by decide +kernel
theorem dL_law_630 : decode cL_law 630 = .ok (.aload_n 0, 1) := by decide +kernel
theorem dL_law_631 : decode cL_law 631 = .ok (.iload 4, 2) := by decide +kernel
theorem dL_law_633 : decode cL_law 633 = .ok (.iconst 3, 1) := by decide +kernel
theorem dL_law_634 : decode cL_law 634 = .ok (.iadd, 1) := by decide +kernel
theorem dL_law_635 : decode cL_law 635 = .ok (.iaload, 1) := by decide +kernel
theorem dL_law_636 : decode cL_law 636 = .ok (.aload_n 3, 1) := by decide +kernel
theorem dL_law_637 : decode cL_law 637 = .ok (.invokestatic 105, 3) := by decide +kernel
theorem dL_law_640 : decode cL_law 640 = .ok (.istore 5, 2) := by decide +kernel
theorem dL_law_642 : decode cL_law 642 = .ok (.aload_n 2, 1) := by decide +kernel
theorem dL_law_643 : decode cL_law 643 = .ok (.aload_n 0, 1) := by decide +kernel
theorem dL_law_644 : decode cL_law 644 = .ok (.iload 4, 2) := by decide +kernel
theorem dL_law_646 : decode cL_law 646 = .ok (.iconst 1, 1) := by decide +kernel
theorem dL_law_647 : decode cL_law 647 = .ok (.iadd, 1) := by decide +kernel
theorem dL_law_648 : decode cL_law 648 = .ok (.iaload, 1) := by decide +kernel
theorem dL_law_649 : decode cL_law 649 = .ok (.aload_n 0, 1) := by decide +kernel
theorem dL_law_650 : decode cL_law 650 = .ok (.iload 4, 2) := by decide +kernel
theorem dL_law_652 : decode cL_law 652 = .ok (.iconst 2, 1) := by decide +kernel
theorem dL_law_653 : decode cL_law 653 = .ok (.iadd, 1) := by decide +kernel
theorem dL_law_654 : decode cL_law 654 = .ok (.iaload, 1) := by decide +kernel
theorem dL_law_655 : decode cL_law 655 = .ok (.aload_n 0, 1) := by decide +kernel
theorem dL_law_656 : decode cL_law 656 = .ok (.iload 4, 2) := by decide +kernel
theorem dL_law_658 : decode cL_law 658 = .ok (.iconst 3, 1) := by decide +kernel
theorem dL_law_659 : decode cL_law 659 = .ok (.iadd, 1) := by decide +kernel
theorem dL_law_660 : decode cL_law 660 = .ok (.iaload, 1) := by decide +kernel
theorem dL_law_661 : decode cL_law 661 = .ok (.invokevirtual 107, 3) := by decide +kernel
theorem dL_law_664 : decode cL_law 664 = .ok (.istore 6, 2) := by decide +kernel
theorem dL_law_666 : decode cL_law 666 = .ok (.aload_n 2, 1) := by decide +kernel
theorem dL_law_667 : decode cL_law 667 = .ok (.invokevirtual 75, 3) := by decide +kernel
theorem dL_law_670 : decode cL_law 670 = .ok (.iload 5, 2) := by decide +kernel
theorem dL_law_672 : decode cL_law 672 = .ok (.if_icmp .eq 5, 3) := by decide +kernel
theorem dL_law_675 : decode cL_law 675 = .ok (.iconst 0, 1) := by decide +kernel
theorem dL_law_676 : decode cL_law 676 = .ok (.ireturn, 1) := by decide +kernel
theorem dL_law_677 : decode cL_law 677 = .ok (.iload 5, 2) := by decide +kernel
theorem dL_law_679 : decode cL_law 679 = .ok (.ifCond .ne 15, 3) := by decide +kernel
theorem dL_law_682 : decode cL_law 682 = .ok (.aload_n 3, 1) := by decide +kernel
theorem dL_law_683 : decode cL_law 683 = .ok (.iconst 0, 1) := by decide +kernel
theorem dL_law_684 : decode cL_law 684 = .ok (.laload, 1) := by decide +kernel
theorem dL_law_685 : decode cL_law 685 = .ok (.iload 6, 2) := by decide +kernel
theorem dL_law_687 : decode cL_law 687 = .ok (.i2l, 1) := by decide +kernel
theorem dL_law_688 : decode cL_law 688 = .ok (.lcmp, 1) := by decide +kernel
theorem dL_law_689 : decode cL_law 689 = .ok (.ifCond .eq 5, 3) := by decide +kernel
theorem dL_law_692 : decode cL_law 692 = .ok (.iconst 0, 1) := by decide +kernel
theorem dL_law_693 : decode cL_law 693 = .ok (.ireturn, 1) := by decide +kernel
theorem dL_law_694 : decode cL_law 694 = .ok (.goto 531, 3) := by decide +kernel
theorem dL_law_697 : decode cL_law 697 = .ok (.aload_n 1, 1) := by decide +kernel
theorem dL_law_698 : decode cL_law 698 = .ok (.aload_n 0, 1) := by decide +kernel
theorem dL_law_699 : decode cL_law 699 = .ok (.iload 4, 2) := by decide +kernel
theorem dL_law_701 : decode cL_law 701 = .ok (.iconst 1, 1) := by decide +kernel
theorem dL_law_702 : decode cL_law 702 = .ok (.iadd, 1) := by decide +kernel
theorem dL_law_703 : decode cL_law 703 = .ok (.iaload, 1) := by decide +kernel
theorem dL_law_704 : decode cL_law 704 = .ok (.aload_n 3, 1) := by decide +kernel
theorem dL_law_705 : decode cL_law 705 = .ok (.invokestatic 108, 3) := by decide +kernel
theorem dL_law_708 : decode cL_law 708 = .ok (.istore 5, 2) := by decide +kernel
theorem dL_law_710 : decode cL_law 710 = .ok (.aload_n 2, 1) := by decide +kernel
theorem dL_law_711 : decode cL_law 711 = .ok (.aload_n 0, 1) := by decide +kernel
theorem dL_law_712 : decode cL_law 712 = .ok (.iload 4, 2) := by decide +kernel
theorem dL_law_714 : decode cL_law 714 = .ok (.iconst 1, 1) := by decide +kernel
theorem dL_law_715 : decode cL_law 715 = .ok (.iadd, 1) := by decide +kernel
theorem dL_law_716 : decode cL_law 716 = .ok (.iaload, 1) := by decide +kernel
theorem dL_law_717 : decode cL_law 717 = .ok (.invokevirtual 110, 3) := by decide +kernel
theorem dL_law_720 : decode cL_law 720 = .ok (.istore 6, 2) := by decide +kernel
theorem dL_law_722 : decode cL_law 722 = .ok (.aload_n 2, 1) := by decide +kernel
theorem dL_law_723 : decode cL_law 723 = .ok (.invokevirtual 75, 3) := by decide +kernel
theorem dL_law_726 : decode cL_law 726 = .ok (.iload 5, 2) := by decide +kernel
theorem dL_law_728 : decode cL_law 728 = .ok (.if_icmp .eq 5, 3) := by decide +kernel
theorem dL_law_731 : decode cL_law 731 = .ok (.iconst 0, 1) := by decide +kernel
theorem dL_law_732 : decode cL_law 732 = .ok (.ireturn, 1) := by decide +kernel
theorem dL_law_733 : decode cL_law 733 = .ok (.iload 5, 2) := by decide +kernel
theorem dL_law_735 : decode cL_law 735 = .ok (.ifCond .ne 15, 3) := by decide +kernel
theorem dL_law_738 : decode cL_law 738 = .ok (.aload_n 3, 1) := by decide +kernel
theorem dL_law_739 : decode cL_law 739 = .ok (.iconst 0, 1) := by decide +kernel
theorem dL_law_740 : decode cL_law 740 = .ok (.laload, 1) := by decide +kernel
theorem dL_law_741 : decode cL_law 741 = .ok (.iload 6, 2) := by decide +kernel
theorem dL_law_743 : decode cL_law 743 = .ok (.i2l, 1) := by decide +kernel
theorem dL_law_744 : decode cL_law 744 = .ok (.lcmp, 1) := by decide +kernel
theorem dL_law_745 : decode cL_law 745 = .ok (.ifCond .eq 5, 3) := by decide +kernel
theorem dL_law_748 : decode cL_law 748 = .ok (.iconst 0, 1) := by decide +kernel
theorem dL_law_749 : decode cL_law 749 = .ok (.ireturn, 1) := by decide +kernel
theorem dL_law_750 : decode cL_law 750 = .ok (.goto 475, 3) := by decide +kernel
theorem dL_law_753 : decode cL_law 753 = .ok (.aload_n 1, 1) := by decide +kernel
theorem dL_law_754 : decode cL_law 754 = .ok (.invokevirtual 111, 3) := by decide +kernel
theorem dL_law_757 : decode cL_law 757 = .ok (.aload_n 2, 1) := by decide +kernel
theorem dL_law_758 : decode cL_law 758 = .ok (.invokevirtual 114, 3) := by decide +kernel
theorem dL_law_761 : decode cL_law 761 = .ok (.if_icmp .eq 464, 3) := by decide +kernel
theorem dL_law_764 : decode cL_law 764 = .ok (.iconst 0, 1) := by decide +kernel
theorem dL_law_765 : decode cL_law 765 = .ok (.ireturn, 1) := by decide +kernel
theorem dL_law_766 : decode cL_law 766 = .ok (.aload_n 1, 1) := by decide +kernel
theorem dL_law_767 : decode cL_law 767 = .ok (.aload_n 0, 1) := by decide +kernel
theorem dL_law_768 : decode cL_law 768 = .ok (.iload 4, 2) := by decide +kernel
theorem dL_law_770 : decode cL_law 770 = .ok (.iconst 1, 1) := by decide +kernel
theorem dL_law_771 : decode cL_law 771 = .ok (.iadd, 1) := by decide +kernel
theorem dL_law_772 : decode cL_law 772 = .ok (.iaload, 1) := by decide +kernel
theorem dL_law_773 : decode cL_law 773 = .ok (.aload_n 0, 1) := by decide +kernel
theorem dL_law_774 : decode cL_law 774 = .ok (.iload 4, 2) := by decide +kernel
theorem dL_law_776 : decode cL_law 776 = .ok (.iconst 2, 1) := by decide +kernel
theorem dL_law_777 : decode cL_law 777 = .ok (.iadd, 1) := by decide +kernel
theorem dL_law_778 : decode cL_law 778 = .ok (.iaload, 1) := by decide +kernel
theorem dL_law_779 : decode cL_law 779 = .ok (.aload_n 3, 1) := by decide +kernel
theorem dL_law_780 : decode cL_law 780 = .ok (.invokestatic 115, 3) := by decide +kernel
theorem dL_law_783 : decode cL_law 783 = .ok (.istore 5, 2) := by decide +kernel
theorem dL_law_785 : decode cL_law 785 = .ok (.aload_n 2, 1) := by decide +kernel
theorem dL_law_786 : decode cL_law 786 = .ok (.aload_n 0, 1) := by decide +kernel
theorem dL_law_787 : decode cL_law 787 = .ok (.iload 4, 2) := by decide +kernel
theorem dL_law_789 : decode cL_law 789 = .ok (.iconst 1, 1) := by decide +kernel
theorem dL_law_790 : decode cL_law 790 = .ok (.iadd, 1) := by decide +kernel
theorem dL_law_791 : decode cL_law 791 = .ok (.iaload, 1) := by decide +kernel
theorem dL_law_792 : decode cL_law 792 = .ok (.aload_n 0, 1) := by decide +kernel
theorem dL_law_793 : decode cL_law 793 = .ok (.iload 4, 2) := by decide +kernel
theorem dL_law_795 : decode cL_law 795 = .ok (.iconst 2, 1) := by decide +kernel
theorem dL_law_796 : decode cL_law 796 = .ok (.iadd, 1) := by decide +kernel
theorem dL_law_797 : decode cL_law 797 = .ok (.iaload, 1) := by decide +kernel
theorem dL_law_798 : decode cL_law 798 = .ok (.invokevirtual 117, 3) := by decide +kernel
theorem dL_law_801 : decode cL_law 801 = .ok (.istore 6, 2) := by decide +kernel
theorem dL_law_803 : decode cL_law 803 = .ok (.aload_n 2, 1) := by decide +kernel
theorem dL_law_804 : decode cL_law 804 = .ok (.invokevirtual 75, 3) := by decide +kernel
theorem dL_law_807 : decode cL_law 807 = .ok (.iload 5, 2) := by decide +kernel
theorem dL_law_809 : decode cL_law 809 = .ok (.if_icmp .eq 5, 3) := by decide +kernel
theorem dL_law_812 : decode cL_law 812 = .ok (.iconst 0, 1) := by decide +kernel
theorem dL_law_813 : decode cL_law 813 = .ok (.ireturn, 1) := by decide +kernel
theorem dL_law_814 : decode cL_law 814 = .ok (.iload 5, 2) := by decide +kernel
theorem dL_law_816 : decode cL_law 816 = .ok (.ifCond .ne 15, 3) := by decide +kernel
theorem dL_law_819 : decode cL_law 819 = .ok (.aload_n 3, 1) := by decide +kernel
theorem dL_law_820 : decode cL_law 820 = .ok (.iconst 0, 1) := by decide +kernel
theorem dL_law_821 : decode cL_law 821 = .ok (.laload, 1) := by decide +kernel
theorem dL_law_822 : decode cL_law 822 = .ok (.iload 6, 2) := by decide +kernel
theorem dL_law_824 : decode cL_law 824 = .ok (.i2l, 1) := by decide +kernel
theorem dL_law_825 : decode cL_law 825 = .ok (.lcmp, 1) := by decide +kernel
theorem dL_law_826 : decode cL_law 826 = .ok (.ifCond .eq 5, 3) := by decide +kernel
theorem dL_law_829 : decode cL_law 829 = .ok (.iconst 0, 1) := by decide +kernel
theorem dL_law_830 : decode cL_law 830 = .ok (.ireturn, 1) := by decide +kernel
theorem dL_law_831 : decode cL_law 831 = .ok (.goto 394, 3) := by decide +kernel
theorem dL_law_834 : decode cL_law 834 = .ok (.aload_n 1, 1) := by decide +kernel
theorem dL_law_835 : decode cL_law 835 = .ok (.aload_n 0, 1) := by decide +kernel
theorem dL_law_836 : decode cL_law 836 = .ok (.iload 4, 2) := by decide +kernel
theorem dL_law_838 : decode cL_law 838 = .ok (.iconst 1, 1) := by decide +kernel
theorem dL_law_839 : decode cL_law 839 = .ok (.iadd, 1) := by decide +kernel
theorem dL_law_840 : decode cL_law 840 = .ok (.iaload, 1) := by decide +kernel
theorem dL_law_841 : decode cL_law 841 = .ok (.aload_n 0, 1) := by decide +kernel
theorem dL_law_842 : decode cL_law 842 = .ok (.iload 4, 2) := by decide +kernel
theorem dL_law_844 : decode cL_law 844 = .ok (.iconst 2, 1) := by decide +kernel
theorem dL_law_845 : decode cL_law 845 = .ok (.iadd, 1) := by decide +kernel
theorem dL_law_846 : decode cL_law 846 = .ok (.iaload, 1) := by decide +kernel
theorem dL_law_847 : decode cL_law 847 = .ok (.aload_n 3, 1) := by decide +kernel
theorem dL_law_848 : decode cL_law 848 = .ok (.invokestatic 118, 3) := by decide +kernel
theorem dL_law_851 : decode cL_law 851 = .ok (.istore 5, 2) := by decide +kernel
theorem dL_law_853 : decode cL_law 853 = .ok (.aload_n 2, 1) := by decide +kernel
theorem dL_law_854 : decode cL_law 854 = .ok (.aload_n 0, 1) := by decide +kernel
theorem dL_law_855 : decode cL_law 855 = .ok (.iload 4, 2) := by decide +kernel
theorem dL_law_857 : decode cL_law 857 = .ok (.iconst 1, 1) := by decide +kernel
theorem dL_law_858 : decode cL_law 858 = .ok (.iadd, 1) := by decide +kernel
theorem dL_law_859 : decode cL_law 859 = .ok (.iaload, 1) := by decide +kernel
theorem dL_law_860 : decode cL_law 860 = .ok (.aload_n 0, 1) := by decide +kernel
theorem dL_law_861 : decode cL_law 861 = .ok (.iload 4, 2) := by decide +kernel
theorem dL_law_863 : decode cL_law 863 = .ok (.iconst 2, 1) := by decide +kernel
theorem dL_law_864 : decode cL_law 864 = .ok (.iadd, 1) := by decide +kernel
theorem dL_law_865 : decode cL_law 865 = .ok (.iaload, 1) := by decide +kernel
theorem dL_law_866 : decode cL_law 866 = .ok (.invokevirtual 120, 3) := by decide +kernel
theorem dL_law_869 : decode cL_law 869 = .ok (.istore 6, 2) := by decide +kernel
theorem dL_law_871 : decode cL_law 871 = .ok (.aload_n 2, 1) := by decide +kernel
theorem dL_law_872 : decode cL_law 872 = .ok (.invokevirtual 75, 3) := by decide +kernel
theorem dL_law_875 : decode cL_law 875 = .ok (.iload 5, 2) := by decide +kernel
theorem dL_law_877 : decode cL_law 877 = .ok (.if_icmp .eq 5, 3) := by decide +kernel
theorem dL_law_880 : decode cL_law 880 = .ok (.iconst 0, 1) := by decide +kernel
theorem dL_law_881 : decode cL_law 881 = .ok (.ireturn, 1) := by decide +kernel
theorem dL_law_882 : decode cL_law 882 = .ok (.iload 5, 2) := by decide +kernel
theorem dL_law_884 : decode cL_law 884 = .ok (.ifCond .ne 15, 3) := by decide +kernel
theorem dL_law_887 : decode cL_law 887 = .ok (.aload_n 3, 1) := by decide +kernel
theorem dL_law_888 : decode cL_law 888 = .ok (.iconst 0, 1) := by decide +kernel
theorem dL_law_889 : decode cL_law 889 = .ok (.laload, 1) := by decide +kernel
theorem dL_law_890 : decode cL_law 890 = .ok (.iload 6, 2) := by decide +kernel
theorem dL_law_892 : decode cL_law 892 = .ok (.i2l, 1) := by decide +kernel
theorem dL_law_893 : decode cL_law 893 = .ok (.lcmp, 1) := by decide +kernel
theorem dL_law_894 : decode cL_law 894 = .ok (.ifCond .eq 5, 3) := by decide +kernel
theorem dL_law_897 : decode cL_law 897 = .ok (.iconst 0, 1) := by decide +kernel
theorem dL_law_898 : decode cL_law 898 = .ok (.ireturn, 1) := by decide +kernel
theorem dL_law_899 : decode cL_law 899 = .ok (.goto 326, 3) := by decide +kernel
theorem dL_law_902 : decode cL_law 902 = .ok (.aload_n 1, 1) := by decide +kernel
theorem dL_law_903 : decode cL_law 903 = .ok (.aload_n 0, 1) := by decide +kernel
theorem dL_law_904 : decode cL_law 904 = .ok (.iload 4, 2) := by decide +kernel
theorem dL_law_906 : decode cL_law 906 = .ok (.iconst 1, 1) := by decide +kernel
theorem dL_law_907 : decode cL_law 907 = .ok (.iadd, 1) := by decide +kernel
theorem dL_law_908 : decode cL_law 908 = .ok (.iaload, 1) := by decide +kernel
theorem dL_law_909 : decode cL_law 909 = .ok (.aload_n 0, 1) := by decide +kernel
theorem dL_law_910 : decode cL_law 910 = .ok (.iload 4, 2) := by decide +kernel
theorem dL_law_912 : decode cL_law 912 = .ok (.iconst 2, 1) := by decide +kernel
theorem dL_law_913 : decode cL_law 913 = .ok (.iadd, 1) := by decide +kernel
theorem dL_law_914 : decode cL_law 914 = .ok (.iaload, 1) := by decide +kernel
theorem dL_law_915 : decode cL_law 915 = .ok (.aload_n 3, 1) := by decide +kernel
theorem dL_law_916 : decode cL_law 916 = .ok (.invokestatic 121, 3) := by decide +kernel
theorem dL_law_919 : decode cL_law 919 = .ok (.istore 5, 2) := by decide +kernel
theorem dL_law_921 : decode cL_law 921 = .ok (.aload_n 2, 1) := by decide +kernel
theorem dL_law_922 : decode cL_law 922 = .ok (.aload_n 0, 1) := by decide +kernel
theorem dL_law_923 : decode cL_law 923 = .ok (.iload 4, 2) := by decide +kernel
theorem dL_law_925 : decode cL_law 925 = .ok (.iconst 1, 1) := by decide +kernel
theorem dL_law_926 : decode cL_law 926 = .ok (.iadd, 1) := by decide +kernel
theorem dL_law_927 : decode cL_law 927 = .ok (.iaload, 1) := by decide +kernel
theorem dL_law_928 : decode cL_law 928 = .ok (.aload_n 0, 1) := by decide +kernel
theorem dL_law_929 : decode cL_law 929 = .ok (.iload 4, 2) := by decide +kernel
theorem dL_law_931 : decode cL_law 931 = .ok (.iconst 2, 1) := by decide +kernel
theorem dL_law_932 : decode cL_law 932 = .ok (.iadd, 1) := by decide +kernel
theorem dL_law_933 : decode cL_law 933 = .ok (.iaload, 1) := by decide +kernel
theorem dL_law_934 : decode cL_law 934 = .ok (.invokevirtual 123, 3) := by decide +kernel
theorem dL_law_937 : decode cL_law 937 = .ok (.istore 6, 2) := by decide +kernel
theorem dL_law_939 : decode cL_law 939 = .ok (.aload_n 2, 1) := by decide +kernel
theorem dL_law_940 : decode cL_law 940 = .ok (.invokevirtual 75, 3) := by decide +kernel
theorem dL_law_943 : decode cL_law 943 = .ok (.iload 5, 2) := by decide +kernel
theorem dL_law_945 : decode cL_law 945 = .ok (.if_icmp .eq 5, 3) := by decide +kernel
theorem dL_law_948 : decode cL_law 948 = .ok (.iconst 0, 1) := by decide +kernel
theorem dL_law_949 : decode cL_law 949 = .ok (.ireturn, 1) := by decide +kernel
theorem dL_law_950 : decode cL_law 950 = .ok (.iload 5, 2) := by decide +kernel
theorem dL_law_952 : decode cL_law 952 = .ok (.ifCond .ne 15, 3) := by decide +kernel
theorem dL_law_955 : decode cL_law 955 = .ok (.aload_n 3, 1) := by decide +kernel
theorem dL_law_956 : decode cL_law 956 = .ok (.iconst 0, 1) := by decide +kernel
theorem dL_law_957 : decode cL_law 957 = .ok (.laload, 1) := by decide +kernel
theorem dL_law_958 : decode cL_law 958 = .ok (.iload 6, 2) := by decide +kernel
theorem dL_law_960 : decode cL_law 960 = .ok (.i2l, 1) := by decide +kernel
theorem dL_law_961 : decode cL_law 961 = .ok (.lcmp, 1) := by decide +kernel
theorem dL_law_962 : decode cL_law 962 = .ok (.ifCond .eq 5, 3) := by decide +kernel
theorem dL_law_965 : decode cL_law 965 = .ok (.iconst 0, 1) := by decide +kernel
theorem dL_law_966 : decode cL_law 966 = .ok (.ireturn, 1) := by decide +kernel
theorem dL_law_967 : decode cL_law 967 = .ok (.goto 258, 3) := by decide +kernel
theorem dL_law_970 : decode cL_law 970 = .ok (.aload_n 1, 1) := by decide +kernel
theorem dL_law_971 : decode cL_law 971 = .ok (.aload_n 0, 1) := by decide +kernel
theorem dL_law_972 : decode cL_law 972 = .ok (.iload 4, 2) := by decide +kernel
theorem dL_law_974 : decode cL_law 974 = .ok (.iconst 1, 1) := by decide +kernel
theorem dL_law_975 : decode cL_law 975 = .ok (.iadd, 1) := by decide +kernel
theorem dL_law_976 : decode cL_law 976 = .ok (.iaload, 1) := by decide +kernel
theorem dL_law_977 : decode cL_law 977 = .ok (.aload_n 0, 1) := by decide +kernel
theorem dL_law_978 : decode cL_law 978 = .ok (.iload 4, 2) := by decide +kernel
theorem dL_law_980 : decode cL_law 980 = .ok (.iconst 2, 1) := by decide +kernel
theorem dL_law_981 : decode cL_law 981 = .ok (.iadd, 1) := by decide +kernel
theorem dL_law_982 : decode cL_law 982 = .ok (.iaload, 1) := by decide +kernel
theorem dL_law_983 : decode cL_law 983 = .ok (.aload_n 3, 1) := by decide +kernel
theorem dL_law_984 : decode cL_law 984 = .ok (.invokestatic 124, 3) := by decide +kernel
theorem dL_law_987 : decode cL_law 987 = .ok (.istore 5, 2) := by decide +kernel
theorem dL_law_989 : decode cL_law 989 = .ok (.aload_n 2, 1) := by decide +kernel
theorem dL_law_990 : decode cL_law 990 = .ok (.aload_n 0, 1) := by decide +kernel
theorem dL_law_991 : decode cL_law 991 = .ok (.iload 4, 2) := by decide +kernel
theorem dL_law_993 : decode cL_law 993 = .ok (.iconst 1, 1) := by decide +kernel
theorem dL_law_994 : decode cL_law 994 = .ok (.iadd, 1) := by decide +kernel
theorem dL_law_995 : decode cL_law 995 = .ok (.iaload, 1) := by decide +kernel
theorem dL_law_996 : decode cL_law 996 = .ok (.aload_n 0, 1) := by decide +kernel
theorem dL_law_997 : decode cL_law 997 = .ok (.iload 4, 2) := by decide +kernel
theorem dL_law_999 : decode cL_law 999 = .ok (.iconst 2, 1) := by decide +kernel
theorem dL_law_1000 : decode cL_law 1000 = .ok (.iadd, 1) := by decide +kernel
theorem dL_law_1001 : decode cL_law 1001 = .ok (.iaload, 1) := by decide +kernel
theorem dL_law_1002 : decode cL_law 1002 = .ok (.invokevirtual 126, 3) := by decide +kernel
theorem dL_law_1005 : decode cL_law 1005 = .ok (.istore 6, 2) := by decide +kernel
theorem dL_law_1007 : decode cL_law 1007 = .ok (.aload_n 2, 1) := by decide +kernel
theorem dL_law_1008 : decode cL_law 1008 = .ok (.invokevirtual 75, 3) := by decide +kernel
theorem dL_law_1011 : decode cL_law 1011 = .ok (.iload 5, 2) := by decide +kernel
theorem dL_law_1013 : decode cL_law 1013 = .ok (.if_icmp .eq 5, 3) := by decide +kernel
theorem dL_law_1016 : decode cL_law 1016 = .ok (.iconst 0, 1) := by decide +kernel
theorem dL_law_1017 : decode cL_law 1017 = .ok (.ireturn, 1) := by decide +kernel
theorem dL_law_1018 : decode cL_law 1018 = .ok (.iload 5, 2) := by decide +kernel
theorem dL_law_1020 : decode cL_law 1020 = .ok (.ifCond .ne 15, 3) := by decide +kernel
theorem dL_law_1023 : decode cL_law 1023 = .ok (.aload_n 3, 1) := by decide +kernel
theorem dL_law_1024 : decode cL_law 1024 = .ok (.iconst 0, 1) := by decide +kernel
theorem dL_law_1025 : decode cL_law 1025 = .ok (.laload, 1) := by decide +kernel
theorem dL_law_1026 : decode cL_law 1026 = .ok (.iload 6, 2) := by decide +kernel
theorem dL_law_1028 : decode cL_law 1028 = .ok (.i2l, 1) := by decide +kernel
theorem dL_law_1029 : decode cL_law 1029 = .ok (.lcmp, 1) := by decide +kernel
theorem dL_law_1030 : decode cL_law 1030 = .ok (.ifCond .eq 5, 3) := by decide +kernel
theorem dL_law_1033 : decode cL_law 1033 = .ok (.iconst 0, 1) := by decide +kernel
theorem dL_law_1034 : decode cL_law 1034 = .ok (.ireturn, 1) := by decide +kernel
theorem dL_law_1035 : decode cL_law 1035 = .ok (.goto 190, 3) := by decide +kernel
theorem dL_law_1038 : decode cL_law 1038 = .ok (.aload_n 1, 1) := by decide +kernel
theorem dL_law_1039 : decode cL_law 1039 = .ok (.aload_n 0, 1) := by decide +kernel
theorem dL_law_1040 : decode cL_law 1040 = .ok (.iload 4, 2) := by decide +kernel
theorem dL_law_1042 : decode cL_law 1042 = .ok (.iconst 1, 1) := by decide +kernel
theorem dL_law_1043 : decode cL_law 1043 = .ok (.iadd, 1) := by decide +kernel
theorem dL_law_1044 : decode cL_law 1044 = .ok (.iaload, 1) := by decide +kernel
theorem dL_law_1045 : decode cL_law 1045 = .ok (.aload_n 0, 1) := by decide +kernel
theorem dL_law_1046 : decode cL_law 1046 = .ok (.iload 4, 2) := by decide +kernel
theorem dL_law_1048 : decode cL_law 1048 = .ok (.iconst 2, 1) := by decide +kernel
theorem dL_law_1049 : decode cL_law 1049 = .ok (.iadd, 1) := by decide +kernel
theorem dL_law_1050 : decode cL_law 1050 = .ok (.iaload, 1) := by decide +kernel
theorem dL_law_1051 : decode cL_law 1051 = .ok (.aload_n 3, 1) := by decide +kernel
theorem dL_law_1052 : decode cL_law 1052 = .ok (.invokestatic 127, 3) := by decide +kernel
theorem dL_law_1055 : decode cL_law 1055 = .ok (.istore 5, 2) := by decide +kernel
theorem dL_law_1057 : decode cL_law 1057 = .ok (.aload_n 2, 1) := by decide +kernel
theorem dL_law_1058 : decode cL_law 1058 = .ok (.aload_n 0, 1) := by decide +kernel
theorem dL_law_1059 : decode cL_law 1059 = .ok (.iload 4, 2) := by decide +kernel
theorem dL_law_1061 : decode cL_law 1061 = .ok (.iconst 1, 1) := by decide +kernel
theorem dL_law_1062 : decode cL_law 1062 = .ok (.iadd, 1) := by decide +kernel
theorem dL_law_1063 : decode cL_law 1063 = .ok (.iaload, 1) := by decide +kernel
theorem dL_law_1064 : decode cL_law 1064 = .ok (.aload_n 0, 1) := by decide +kernel
theorem dL_law_1065 : decode cL_law 1065 = .ok (.iload 4, 2) := by decide +kernel
theorem dL_law_1067 : decode cL_law 1067 = .ok (.iconst 2, 1) := by decide +kernel
theorem dL_law_1068 : decode cL_law 1068 = .ok (.iadd, 1) := by decide +kernel
theorem dL_law_1069 : decode cL_law 1069 = .ok (.iaload, 1) := by decide +kernel
theorem dL_law_1070 : decode cL_law 1070 = .ok (.invokevirtual 129, 3) := by decide +kernel
theorem dL_law_1073 : decode cL_law 1073 = .ok (.istore 6, 2) := by decide +kernel
theorem dL_law_1075 : decode cL_law 1075 = .ok (.aload_n 2, 1) := by decide +kernel
theorem dL_law_1076 : decode cL_law 1076 = .ok (.invokevirtual 75, 3) := by decide +kernel
theorem dL_law_1079 : decode cL_law 1079 = .ok (.iload 5, 2) := by decide +kernel
theorem dL_law_1081 : decode cL_law 1081 = .ok (.if_icmp .eq 5, 3) := by decide +kernel
theorem dL_law_1084 : decode cL_law 1084 = .ok (.iconst 0, 1) := by decide +kernel
theorem dL_law_1085 : decode cL_law 1085 = .ok (.ireturn, 1) := by decide +kernel
theorem dL_law_1086 : decode cL_law 1086 = .ok (.iload 5, 2) := by decide +kernel
theorem dL_law_1088 : decode cL_law 1088 = .ok (.ifCond .ne 15, 3) := by decide +kernel
theorem dL_law_1091 : decode cL_law 1091 = .ok (.aload_n 3, 1) := by decide +kernel
theorem dL_law_1092 : decode cL_law 1092 = .ok (.iconst 0, 1) := by decide +kernel
theorem dL_law_1093 : decode cL_law 1093 = .ok (.laload, 1) := by decide +kernel
theorem dL_law_1094 : decode cL_law 1094 = .ok (.iload 6, 2) := by decide +kernel
theorem dL_law_1096 : decode cL_law 1096 = .ok (.i2l, 1) := by decide +kernel
theorem dL_law_1097 : decode cL_law 1097 = .ok (.lcmp, 1) := by decide +kernel
theorem dL_law_1098 : decode cL_law 1098 = .ok (.ifCond .eq 5, 3) := by decide +kernel
theorem dL_law_1101 : decode cL_law 1101 = .ok (.iconst 0, 1) := by decide +kernel
theorem dL_law_1102 : decode cL_law 1102 = .ok (.ireturn, 1) := by decide +kernel
theorem dL_law_1103 : decode cL_law 1103 = .ok (.goto 122, 3) := by decide +kernel
theorem dL_law_1106 : decode cL_law 1106 = .ok (.aload_n 1, 1) := by decide +kernel
theorem dL_law_1107 : decode cL_law 1107 = .ok (.aload_n 0, 1) := by decide +kernel
theorem dL_law_1108 : decode cL_law 1108 = .ok (.iload 4, 2) := by decide +kernel
theorem dL_law_1110 : decode cL_law 1110 = .ok (.iconst 1, 1) := by decide +kernel
theorem dL_law_1111 : decode cL_law 1111 = .ok (.iadd, 1) := by decide +kernel
theorem dL_law_1112 : decode cL_law 1112 = .ok (.iaload, 1) := by decide +kernel
theorem dL_law_1113 : decode cL_law 1113 = .ok (.aload_n 0, 1) := by decide +kernel
theorem dL_law_1114 : decode cL_law 1114 = .ok (.iload 4, 2) := by decide +kernel
theorem dL_law_1116 : decode cL_law 1116 = .ok (.iconst 2, 1) := by decide +kernel
theorem dL_law_1117 : decode cL_law 1117 = .ok (.iadd, 1) := by decide +kernel
theorem dL_law_1118 : decode cL_law 1118 = .ok (.iaload, 1) := by decide +kernel
theorem dL_law_1119 : decode cL_law 1119 = .ok (.aload_n 0, 1) := by decide +kernel
theorem dL_law_1120 : decode cL_law 1120 = .ok (.iload 4, 2) := by decide +kernel
theorem dL_law_1122 : decode cL_law 1122 = .ok (.iconst 3, 1) := by decide +kernel
theorem dL_law_1123 : decode cL_law 1123 = .ok (.iadd, 1) := by decide +kernel
theorem dL_law_1124 : decode cL_law 1124 = .ok (.iaload, 1) := by decide +kernel
theorem dL_law_1125 : decode cL_law 1125 = .ok (.aload_n 3, 1) := by decide +kernel
theorem dL_law_1126 : decode cL_law 1126 = .ok (.invokestatic 130, 3) := by decide +kernel
theorem dL_law_1129 : decode cL_law 1129 = .ok (.istore 5, 2) := by decide +kernel
theorem dL_law_1131 : decode cL_law 1131 = .ok (.aload_n 2, 1) := by decide +kernel
theorem dL_law_1132 : decode cL_law 1132 = .ok (.aload_n 0, 1) := by decide +kernel
theorem dL_law_1133 : decode cL_law 1133 = .ok (.iload 4, 2) := by decide +kernel
theorem dL_law_1135 : decode cL_law 1135 = .ok (.iconst 1, 1) := by decide +kernel
theorem dL_law_1136 : decode cL_law 1136 = .ok (.iadd, 1) := by decide +kernel
theorem dL_law_1137 : decode cL_law 1137 = .ok (.iaload, 1) := by decide +kernel
theorem dL_law_1138 : decode cL_law 1138 = .ok (.aload_n 0, 1) := by decide +kernel
theorem dL_law_1139 : decode cL_law 1139 = .ok (.iload 4, 2) := by decide +kernel
theorem dL_law_1141 : decode cL_law 1141 = .ok (.iconst 2, 1) := by decide +kernel
theorem dL_law_1142 : decode cL_law 1142 = .ok (.iadd, 1) := by decide +kernel
theorem dL_law_1143 : decode cL_law 1143 = .ok (.iaload, 1) := by decide +kernel
theorem dL_law_1144 : decode cL_law 1144 = .ok (.aload_n 0, 1) := by decide +kernel
theorem dL_law_1145 : decode cL_law 1145 = .ok (.iload 4, 2) := by decide +kernel
theorem dL_law_1147 : decode cL_law 1147 = .ok (.iconst 3, 1) := by decide +kernel
theorem dL_law_1148 : decode cL_law 1148 = .ok (.iadd, 1) := by decide +kernel
theorem dL_law_1149 : decode cL_law 1149 = .ok (.iaload, 1) := by decide +kernel
theorem dL_law_1150 : decode cL_law 1150 = .ok (.invokevirtual 132, 3) := by decide +kernel
theorem dL_law_1153 : decode cL_law 1153 = .ok (.istore 6, 2) := by decide +kernel
theorem dL_law_1155 : decode cL_law 1155 = .ok (.aload_n 2, 1) := by decide +kernel
theorem dL_law_1156 : decode cL_law 1156 = .ok (.invokevirtual 75, 3) := by decide +kernel
theorem dL_law_1159 : decode cL_law 1159 = .ok (.iload 5, 2) := by decide +kernel
theorem dL_law_1161 : decode cL_law 1161 = .ok (.if_icmp .eq 5, 3) := by decide +kernel
theorem dL_law_1164 : decode cL_law 1164 = .ok (.iconst 0, 1) := by decide +kernel
theorem dL_law_1165 : decode cL_law 1165 = .ok (.ireturn, 1) := by decide +kernel
theorem dL_law_1166 : decode cL_law 1166 = .ok (.iload 5, 2) := by decide +kernel
theorem dL_law_1168 : decode cL_law 1168 = .ok (.ifCond .ne 15, 3) := by decide +kernel
theorem dL_law_1171 : decode cL_law 1171 = .ok (.aload_n 3, 1) := by decide +kernel
theorem dL_law_1172 : decode cL_law 1172 = .ok (.iconst 0, 1) := by decide +kernel
theorem dL_law_1173 : decode cL_law 1173 = .ok (.laload, 1) := by decide +kernel
theorem dL_law_1174 : decode cL_law 1174 = .ok (.iload 6, 2) := by decide +kernel
theorem dL_law_1176 : decode cL_law 1176 = .ok (.i2l, 1) := by decide +kernel
theorem dL_law_1177 : decode cL_law 1177 = .ok (.lcmp, 1) := by decide +kernel
theorem dL_law_1178 : decode cL_law 1178 = .ok (.ifCond .eq 5, 3) := by decide +kernel
theorem dL_law_1181 : decode cL_law 1181 = .ok (.iconst 0, 1) := by decide +kernel
theorem dL_law_1182 : decode cL_law 1182 = .ok (.ireturn, 1) := by decide +kernel
theorem dL_law_1183 : decode cL_law 1183 = .ok (.goto 42, 3) := by decide +kernel
theorem dL_law_1186 : decode cL_law 1186 = .ok (.aload_n 1, 1) := by decide +kernel
theorem dL_law_1187 : decode cL_law 1187 = .ok (.invokevirtual 133, 3) := by decide +kernel
theorem dL_law_1190 : decode cL_law 1190 = .ok (.aload_n 2, 1) := by decide +kernel
theorem dL_law_1191 : decode cL_law 1191 = .ok (.invokevirtual 136, 3) := by decide +kernel
theorem dL_law_1194 : decode cL_law 1194 = .ok (.if_icmp .eq 31, 3) := by decide +kernel
theorem dL_law_1197 : decode cL_law 1197 = .ok (.iconst 0, 1) := by decide +kernel
theorem dL_law_1198 : decode cL_law 1198 = .ok (.ireturn, 1) := by decide +kernel
theorem dL_law_1199 : decode cL_law 1199 = .ok (.aload_n 1, 1) := by decide +kernel
theorem dL_law_1200 : decode cL_law 1200 = .ok (.invokevirtual 137, 3) := by decide +kernel
theorem dL_law_1203 : decode cL_law 1203 = .ok (.aload_n 2, 1) := by decide +kernel
theorem dL_law_1204 : decode cL_law 1204 = .ok (.invokevirtual 140, 3) := by decide +kernel
theorem dL_law_1207 : decode cL_law 1207 = .ok (.if_icmp .eq 18, 3) := by decide +kernel
theorem dL_law_1210 : decode cL_law 1210 = .ok (.iconst 0, 1) := by decide +kernel
theorem dL_law_1211 : decode cL_law 1211 = .ok (.ireturn, 1) := by decide +kernel
theorem dL_law_1212 : decode cL_law 1212 = .ok (.aload_n 1, 1) := by decide +kernel
theorem dL_law_1213 : decode cL_law 1213 = .ok (.invokevirtual 141, 3) := by decide +kernel
theorem dL_law_1216 : decode cL_law 1216 = .ok (.aload_n 2, 1) := by decide +kernel
theorem dL_law_1217 : decode cL_law 1217 = .ok (.invokevirtual 144, 3) := by decide +kernel
theorem dL_law_1220 : decode cL_law 1220 = .ok (.if_icmp .eq 5, 3) := by decide +kernel
theorem dL_law_1223 : decode cL_law 1223 = .ok (.iconst 0, 1) := by decide +kernel
theorem dL_law_1224 : decode cL_law 1224 = .ok (.ireturn, 1) := by decide +kernel
theorem dL_law_1225 : decode cL_law 1225 = .ok (.iinc 4 4, 3) := by decide +kernel
theorem dL_law_1228 : decode cL_law 1228 = .ok (.goto (-1205), 3) := by decide +kernel
theorem dL_law_1231 : decode cL_law 1231 = .ok (.iconst 1, 1) := by decide +kernel
theorem dL_law_1232 : decode cL_law 1232 = .ok (.ireturn, 1) := by decide +kernel
theorem sw_19 {x : Int32} (h : ¬ (x.toInt < 0 ∨ 19 < x.toInt)) : x = 0 ∨ x = 1 ∨ x = 2 ∨ x = 3 ∨ x = 4 ∨ x = 5 ∨ x = 6 ∨ x = 7 ∨ x = 8 ∨ x = 9 ∨ x = 10 ∨ x = 11 ∨ x = 12 ∨ x = 13 ∨ x = 14 ∨ x = 15 ∨ x = 16 ∨ x = 17 ∨ x = 18 ∨ x = 19 := by
  obtain ⟨j, hj, rfl⟩ := i32_cases 19 (by decide) h
  have : j = 0 ∨ j = 1 ∨ j = 2 ∨ j = 3 ∨ j = 4 ∨ j = 5 ∨ j = 6 ∨ j = 7 ∨ j = 8 ∨ j = 9 ∨ j = 10 ∨ j = 11 ∨ j = 12 ∨ j = 13 ∨ j = 14 ∨ j = 15 ∨ j = 16 ∨ j = 17 ∨ j = 18 ∨ j = 19 := by omega
  rcases this with rfl | rfl | rfl | rfl | rfl | rfl | rfl | rfl | rfl | rfl | rfl | rfl | rfl | rfl | rfl | rfl | rfl | rfl | rfl | rfl <;> simp [nI]
theorem cv_L_74 : CV RL 74 yX8_node cX8_node 2 (some .int) 1 := ⟨Or.inl (om_tbl 1036 (by decide +kernel) rfl), (om_tbl 1037 (by decide +kernel) rfl), (om_tbl 1038 (by decide +kernel) rfl), (om_tbl 71 (by decide +kernel) rfl), (om_tbl 1039 (by decide +kernel) rfl), by decide +kernel, by decide +kernel, by decide +kernel⟩
theorem cv_L_75 : CV RL 75 yX8_thrown cX8_thrown 1 (some .int) 0 := ⟨Or.inl (om_tbl 1032 (by decide +kernel) rfl), (om_tbl 1033 (by decide +kernel) rfl), (om_tbl 1034 (by decide +kernel) rfl), (om_tbl 71 (by decide +kernel) rfl), (om_tbl 1035 (by decide +kernel) rfl), by decide +kernel, by decide +kernel, by decide +kernel⟩
theorem cv_L_82 : CV RL 82 yX8_link cX8_link 6 (some .int) 3 := ⟨Or.inl (om_tbl 1047 (by decide +kernel) rfl), (om_tbl 1048 (by decide +kernel) rfl), (om_tbl 1049 (by decide +kernel) rfl), (om_tbl 71 (by decide +kernel) rfl), (om_tbl 1050 (by decide +kernel) rfl), by decide +kernel, by decide +kernel, by decide +kernel⟩
theorem cv_L_86 : CV RL 86 yX8_fail cX8_fail 5 (some .int) 2 := ⟨Or.inl (om_tbl 1229 (by decide +kernel) rfl), (om_tbl 1230 (by decide +kernel) rfl), (om_tbl 1231 (by decide +kernel) rfl), (om_tbl 71 (by decide +kernel) rfl), (om_tbl 1232 (by decide +kernel) rfl), by decide +kernel, by decide +kernel, by decide +kernel⟩
theorem cv_L_90 : CV RL 90 yX8_part cX8_part 5 (some .int) 2 := ⟨Or.inl (om_tbl 1059 (by decide +kernel) rfl), (om_tbl 1060 (by decide +kernel) rfl), (om_tbl 1061 (by decide +kernel) rfl), (om_tbl 71 (by decide +kernel) rfl), (om_tbl 1062 (by decide +kernel) rfl), by decide +kernel, by decide +kernel, by decide +kernel⟩
theorem cv_L_93 : CV RL 93 yX8_line cX8_line 8 (some .int) 3 := ⟨Or.inl (om_tbl 1063 (by decide +kernel) rfl), (om_tbl 1064 (by decide +kernel) rfl), (om_tbl 1065 (by decide +kernel) rfl), (om_tbl 71 (by decide +kernel) rfl), (om_tbl 1066 (by decide +kernel) rfl), by decide +kernel, by decide +kernel, by decide +kernel⟩
theorem cv_L_94 : CV RL 94 yX7_clear cX7_clear 1 (some .int) 0 := ⟨Or.inl (om_tbl 366 (by decide +kernel) rfl), (om_tbl 367 (by decide +kernel) rfl), (om_tbl 368 (by decide +kernel) rfl), (om_tbl 63 (by decide +kernel) rfl), (om_tbl 369 (by decide +kernel) rfl), by decide +kernel, by decide +kernel, by decide +kernel⟩
theorem cv_L_97 : CV RL 97 yX8_clear cX8_clear 2 (some .int) 0 := ⟨Or.inl (om_tbl 1071 (by decide +kernel) rfl), (om_tbl 1072 (by decide +kernel) rfl), (om_tbl 1073 (by decide +kernel) rfl), (om_tbl 71 (by decide +kernel) rfl), (om_tbl 1074 (by decide +kernel) rfl), by decide +kernel, by decide +kernel, by decide +kernel⟩
theorem cv_L_100 : CV RL 100 yX8_place cX8_place 6 (some .int) 2 := ⟨Or.inl (om_tbl 1075 (by decide +kernel) rfl), (om_tbl 1076 (by decide +kernel) rfl), (om_tbl 1077 (by decide +kernel) rfl), (om_tbl 71 (by decide +kernel) rfl), (om_tbl 1078 (by decide +kernel) rfl), by decide +kernel, by decide +kernel, by decide +kernel⟩
theorem cv_L_104 : CV RL 104 yX8_end_ cX8_end_ 3 none 1 := ⟨Or.inl (om_tbl 1185 (by decide +kernel) rfl), (om_tbl 1186 (by decide +kernel) rfl), (om_tbl 1187 (by decide +kernel) rfl), (om_tbl 71 (by decide +kernel) rfl), (om_tbl 1188 (by decide +kernel) rfl), by decide +kernel, by decide +kernel, by decide +kernel⟩
theorem cv_L_107 : CV RL 107 yX8_move cX8_move 5 (some .int) 3 := ⟨Or.inl (om_tbl 1197 (by decide +kernel) rfl), (om_tbl 1198 (by decide +kernel) rfl), (om_tbl 1199 (by decide +kernel) rfl), (om_tbl 71 (by decide +kernel) rfl), (om_tbl 1200 (by decide +kernel) rfl), by decide +kernel, by decide +kernel, by decide +kernel⟩
theorem cv_L_110 : CV RL 110 yX8_pass cX8_pass 3 (some .int) 1 := ⟨Or.inl (om_tbl 1193 (by decide +kernel) rfl), (om_tbl 1194 (by decide +kernel) rfl), (om_tbl 1195 (by decide +kernel) rfl), (om_tbl 71 (by decide +kernel) rfl), (om_tbl 1196 (by decide +kernel) rfl), by decide +kernel, by decide +kernel, by decide +kernel⟩
theorem cv_L_111 : CV RL 111 yX7_now cX7_now 1 (some .int) 0 := ⟨Or.inl (om_tbl 378 (by decide +kernel) rfl), (om_tbl 379 (by decide +kernel) rfl), (om_tbl 380 (by decide +kernel) rfl), (om_tbl 63 (by decide +kernel) rfl), (om_tbl 381 (by decide +kernel) rfl), by decide +kernel, by decide +kernel, by decide +kernel⟩
theorem cv_L_114 : CV RL 114 yX8_now cX8_now 1 (some .int) 0 := ⟨Or.inl (om_tbl 1249 (by decide +kernel) rfl), (om_tbl 1250 (by decide +kernel) rfl), (om_tbl 1251 (by decide +kernel) rfl), (om_tbl 71 (by decide +kernel) rfl), (om_tbl 1252 (by decide +kernel) rfl), by decide +kernel, by decide +kernel, by decide +kernel⟩
theorem cv_L_117 : CV RL 117 yX8_ofNode cX8_ofNode 5 (some .int) 2 := ⟨Or.inl (om_tbl 1253 (by decide +kernel) rfl), (om_tbl 1254 (by decide +kernel) rfl), (om_tbl 1255 (by decide +kernel) rfl), (om_tbl 71 (by decide +kernel) rfl), (om_tbl 1256 (by decide +kernel) rfl), by decide +kernel, by decide +kernel, by decide +kernel⟩
theorem cv_L_120 : CV RL 120 yX8_ofLink cX8_ofLink 3 (some .int) 2 := ⟨Or.inl (om_tbl 1257 (by decide +kernel) rfl), (om_tbl 1258 (by decide +kernel) rfl), (om_tbl 1259 (by decide +kernel) rfl), (om_tbl 71 (by decide +kernel) rfl), (om_tbl 1260 (by decide +kernel) rfl), by decide +kernel, by decide +kernel, by decide +kernel⟩
theorem cv_L_123 : CV RL 123 yX8_load cX8_load 8 (some .int) 2 := ⟨Or.inl (om_tbl 1261 (by decide +kernel) rfl), (om_tbl 1262 (by decide +kernel) rfl), (om_tbl 1263 (by decide +kernel) rfl), (om_tbl 71 (by decide +kernel) rfl), (om_tbl 1264 (by decide +kernel) rfl), by decide +kernel, by decide +kernel, by decide +kernel⟩
theorem cv_L_126 : CV RL 126 yX8_told cX8_told 3 (some .int) 2 := ⟨Or.inl (om_tbl 1265 (by decide +kernel) rfl), (om_tbl 1266 (by decide +kernel) rfl), (om_tbl 1267 (by decide +kernel) rfl), (om_tbl 71 (by decide +kernel) rfl), (om_tbl 1268 (by decide +kernel) rfl), by decide +kernel, by decide +kernel, by decide +kernel⟩
theorem cv_L_129 : CV RL 129 yX8_at cX8_at 4 (some .int) 2 := ⟨Or.inl (om_tbl 1273 (by decide +kernel) rfl), (om_tbl 1274 (by decide +kernel) rfl), (om_tbl 1275 (by decide +kernel) rfl), (om_tbl 71 (by decide +kernel) rfl), (om_tbl 1276 (by decide +kernel) rfl), by decide +kernel, by decide +kernel, by decide +kernel⟩
theorem cv_L_132 : CV RL 132 yX8_way cX8_way 6 (some .int) 3 := ⟨Or.inl (om_tbl 1277 (by decide +kernel) rfl), (om_tbl 1278 (by decide +kernel) rfl), (om_tbl 1279 (by decide +kernel) rfl), (om_tbl 71 (by decide +kernel) rfl), (om_tbl 1280 (by decide +kernel) rfl), by decide +kernel, by decide +kernel, by decide +kernel⟩
theorem cv_L_133 : CV RL 133 yX7_least cX7_least 1 (some .int) 0 := ⟨Or.inl (om_tbl 382 (by decide +kernel) rfl), (om_tbl 383 (by decide +kernel) rfl), (om_tbl 384 (by decide +kernel) rfl), (om_tbl 63 (by decide +kernel) rfl), (om_tbl 385 (by decide +kernel) rfl), by decide +kernel, by decide +kernel, by decide +kernel⟩
theorem cv_L_136 : CV RL 136 yX8_least cX8_least 1 (some .int) 0 := ⟨Or.inl (om_tbl 1281 (by decide +kernel) rfl), (om_tbl 1282 (by decide +kernel) rfl), (om_tbl 1283 (by decide +kernel) rfl), (om_tbl 71 (by decide +kernel) rfl), (om_tbl 1284 (by decide +kernel) rfl), by decide +kernel, by decide +kernel, by decide +kernel⟩
theorem cv_L_137 : CV RL 137 yX7_leastAnew cX7_leastAnew 1 (some .int) 0 := ⟨Or.inl (om_tbl 461 (by decide +kernel) rfl), (om_tbl 462 (by decide +kernel) rfl), (om_tbl 463 (by decide +kernel) rfl), (om_tbl 63 (by decide +kernel) rfl), (om_tbl 464 (by decide +kernel) rfl), by decide +kernel, by decide +kernel, by decide +kernel⟩
theorem cv_L_140 : CV RL 140 yX8_leastAnew cX8_leastAnew 1 (some .int) 0 := ⟨Or.inl (om_tbl 1289 (by decide +kernel) rfl), (om_tbl 1290 (by decide +kernel) rfl), (om_tbl 1291 (by decide +kernel) rfl), (om_tbl 71 (by decide +kernel) rfl), (om_tbl 1292 (by decide +kernel) rfl), by decide +kernel, by decide +kernel, by decide +kernel⟩
theorem cv_L_141 : CV RL 141 yX7_freeing cX7_freeing 5 (some .int) 0 := ⟨Or.inl (om_tbl 465 (by decide +kernel) rfl), (om_tbl 466 (by decide +kernel) rfl), (om_tbl 467 (by decide +kernel) rfl), (om_tbl 63 (by decide +kernel) rfl), (om_tbl 468 (by decide +kernel) rfl), by decide +kernel, by decide +kernel, by decide +kernel⟩
theorem cv_L_144 : CV RL 144 yX8_freeing cX8_freeing 8 (some .int) 0 := ⟨Or.inl (om_tbl 1221 (by decide +kernel) rfl), (om_tbl 1222 (by decide +kernel) rfl), (om_tbl 1223 (by decide +kernel) rfl), (om_tbl 71 (by decide +kernel) rfl), (om_tbl 1224 (by decide +kernel) rfl), by decide +kernel, by decide +kernel, by decide +kernel⟩
theorem ch_L_node : CH RL 69 yL_node cL_node 4 (some .int) [(0, 9, 12, 13), (0, 9, 15, 15)] 3 := ⟨(om_tbl 520 (by decide +kernel) rfl), (om_tbl 521 (by decide +kernel) rfl), (om_tbl 62 (by decide +kernel) rfl), (om_tbl 522 (by decide +kernel) rfl), by decide +kernel, by decide +kernel, by decide +kernel⟩
theorem ch_L_link : CH RL 79 yL_link cL_link 6 (some .int) [(0, 12, 15, 21), (0, 12, 19, 13), (0, 12, 23, 15)] 5 := ⟨(om_tbl 617 (by decide +kernel) rfl), (om_tbl 618 (by decide +kernel) rfl), (om_tbl 62 (by decide +kernel) rfl), (om_tbl 619 (by decide +kernel) rfl), by decide +kernel, by decide +kernel, by decide +kernel⟩
theorem ch_L_fail : CH RL 83 yL_fail cL_fail 5 (some .int) [(0, 10, 13, 21)] 4 := ⟨(om_tbl 668 (by decide +kernel) rfl), (om_tbl 669 (by decide +kernel) rfl), (om_tbl 62 (by decide +kernel) rfl), (om_tbl 670 (by decide +kernel) rfl), by decide +kernel, by decide +kernel, by decide +kernel⟩
theorem ch_L_part : CH RL 87 yL_part cL_part 5 (some .int) [(0, 10, 13, 13), (0, 10, 17, 15)] 4 := ⟨(om_tbl 696 (by decide +kernel) rfl), (om_tbl 697 (by decide +kernel) rfl), (om_tbl 62 (by decide +kernel) rfl), (om_tbl 698 (by decide +kernel) rfl), by decide +kernel, by decide +kernel, by decide +kernel⟩
theorem ch_L_line : CH RL 91 yL_line cL_line 6 (some .int) [(0, 12, 15, 21), (0, 12, 19, 13), (0, 12, 23, 15)] 5 := ⟨(om_tbl 709 (by decide +kernel) rfl), (om_tbl 710 (by decide +kernel) rfl), (om_tbl 62 (by decide +kernel) rfl), (om_tbl 711 (by decide +kernel) rfl), by decide +kernel, by decide +kernel, by decide +kernel⟩
theorem ch_L_place : CH RL 98 yL_place cL_place 5 (some .int) [(0, 10, 13, 13), (0, 10, 17, 15)] 4 := ⟨(om_tbl 732 (by decide +kernel) rfl), (om_tbl 733 (by decide +kernel) rfl), (om_tbl 62 (by decide +kernel) rfl), (om_tbl 734 (by decide +kernel) rfl), by decide +kernel, by decide +kernel, by decide +kernel⟩
theorem ch_L_end : CH RL 101 yL_end cL_end 3 (some .int) [(0, 5, 8, 21), (0, 5, 11, 15)] 2 := ⟨(om_tbl 809 (by decide +kernel) rfl), (om_tbl 810 (by decide +kernel) rfl), (om_tbl 62 (by decide +kernel) rfl), (om_tbl 811 (by decide +kernel) rfl), by decide +kernel, by decide +kernel, by decide +kernel⟩
theorem ch_L_move : CH RL 105 yL_move cL_move 6 (some .int) [(0, 12, 15, 21), (0, 12, 19, 13), (0, 12, 23, 15)] 5 := ⟨(om_tbl 827 (by decide +kernel) rfl), (om_tbl 828 (by decide +kernel) rfl), (om_tbl 62 (by decide +kernel) rfl), (om_tbl 829 (by decide +kernel) rfl), by decide +kernel, by decide +kernel, by decide +kernel⟩
theorem ch_L_pass : CH RL 108 yL_pass cL_pass 4 (some .int) [(0, 9, 12, 13)] 3 := ⟨(om_tbl 842 (by decide +kernel) rfl), (om_tbl 843 (by decide +kernel) rfl), (om_tbl 62 (by decide +kernel) rfl), (om_tbl 844 (by decide +kernel) rfl), by decide +kernel, by decide +kernel, by decide +kernel⟩
theorem ch_L_ofNode : CH RL 115 yL_ofNode cL_ofNode 5 (some .int) [(0, 10, 13, 21), (0, 10, 17, 13)] 4 := ⟨(om_tbl 850 (by decide +kernel) rfl), (om_tbl 851 (by decide +kernel) rfl), (om_tbl 62 (by decide +kernel) rfl), (om_tbl 852 (by decide +kernel) rfl), by decide +kernel, by decide +kernel, by decide +kernel⟩
theorem ch_L_ofLink : CH RL 118 yL_ofLink cL_ofLink 5 (some .int) [(0, 10, 13, 21), (0, 10, 17, 13)] 4 := ⟨(om_tbl 859 (by decide +kernel) rfl), (om_tbl 860 (by decide +kernel) rfl), (om_tbl 62 (by decide +kernel) rfl), (om_tbl 861 (by decide +kernel) rfl), by decide +kernel, by decide +kernel, by decide +kernel⟩
theorem ch_L_load : CH RL 121 yL_load cL_load 5 (some .int) [(0, 10, 13, 21), (0, 10, 17, 13)] 4 := ⟨(om_tbl 867 (by decide +kernel) rfl), (om_tbl 868 (by decide +kernel) rfl), (om_tbl 62 (by decide +kernel) rfl), (om_tbl 869 (by decide +kernel) rfl), by decide +kernel, by decide +kernel, by decide +kernel⟩
theorem ch_L_told : CH RL 124 yL_told cL_told 5 (some .int) [(0, 10, 13, 21), (0, 10, 17, 13)] 4 := ⟨(om_tbl 880 (by decide +kernel) rfl), (om_tbl 881 (by decide +kernel) rfl), (om_tbl 62 (by decide +kernel) rfl), (om_tbl 882 (by decide +kernel) rfl), by decide +kernel, by decide +kernel, by decide +kernel⟩
theorem ch_L_at : CH RL 127 yL_at cL_at 5 (some .int) [(0, 10, 13, 21)] 4 := ⟨(om_tbl 895 (by decide +kernel) rfl), (om_tbl 896 (by decide +kernel) rfl), (om_tbl 62 (by decide +kernel) rfl), (om_tbl 897 (by decide +kernel) rfl), by decide +kernel, by decide +kernel, by decide +kernel⟩
theorem ch_L_way : CH RL 130 yL_way cL_way 6 (some .int) [(0, 12, 15, 21), (0, 12, 19, 13)] 5 := ⟨(om_tbl 903 (by decide +kernel) rfl), (om_tbl 904 (by decide +kernel) rfl), (om_tbl 62 (by decide +kernel) rfl), (om_tbl 905 (by decide +kernel) rfl), by decide +kernel, by decide +kernel, by decide +kernel⟩
def F_law_0 (K : Int32 → Mm → Prop) (L : Nat) (xs : Nat → Int32) (x4 : Int32) (μ : Mm) : Prop :=
  vp_in (x4 + (1 : Int32)) L ∧ Wp_L_node (xs ((x4 + (1 : Int32))).toNatClampNeg) μ (fun z2 μ1 => vp_in (x4 + (1 : Int32)) L ∧ Wp_X8_node (xs ((x4 + (1 : Int32))).toNatClampNeg) μ1 (fun z4 μ3 => Wp_X8_thrown  μ3 (fun z6 μ5 => ((z6 = z2 → ((¬ (z2 = 0) → K (x4 + (4 : Int32)) μ5) ∧ (z2 = 0 → (((lg_cmp ((μ5 p_OUT 0).toInt64) (z4.toInt64)) = 0 → K (x4 + (4 : Int32)) μ5) ∧ (¬ ((lg_cmp ((μ5 p_OUT 0).toInt64) (z4.toInt64)) = 0) → False))))) ∧ (¬ (z6 = z2) → False)))))
set_option maxHeartbeats 2000000 in
theorem b_law_0 {g : GE} {f : FE} {b L : Nat} {xs : Nat → Int32} (lx : LX g f b L xs) {kc ks : Nat} (cx : Cx g f code 7 "MeshLodgerLaw" 2048 84000 kc ks) (cx1 : Cx g f code 7 "MeshLodgerLaw" 2048 84000 (kc + 1) (ks + 6)) (hk : kc + 1 ≤ 619652) (hs : ks + 6 ≤ 7237147) {x4 : Int32} {μ : Mm} (h : F_law_0 (fun y μ2 => KW g f 7 (kc + 1) (ks + 6) 23 [some (.ref p_SCR), some (.ref p_ML), some (.ref p_MO), some (.ref p_OUT), some (.int y), none, none] [] μ2) L xs x4 μ) : KW g f 7 kc ks 132 [some (.ref p_SCR), some (.ref p_ML), some (.ref p_MO), some (.ref p_OUT), some (.int x4), none, none] [] μ := by
  unfold F_law_0 at h
  refine k_aload_n cx dL_law_132 rfl rfl ?_
  refine k_aload_n cx dL_law_133 rfl rfl ?_
  refine k_iload cx dL_law_134 rfl ?_
  refine k_iconst (v := (1 : Int32)) cx dL_law_136 (by decide +kernel) ?_
  refine k_iadd cx dL_law_137 ?_
  obtain ⟨hi, h⟩ := h
  refine k_sld cx lx hi dL_law_138 ?_
  refine k_aload_n cx dL_law_139 rfl rfl ?_
  refine k_callH (As := [.ref p_ML, .int (xs ((x4 + (1 : Int32))).toNatClampNeg), .ref p_OUT]) (rest := []) cx lx hk hs (m_L_node lx.2.2.1 h) ch_L_node rfl rfl (Nat.le_of_ble_eq_true rfl) ⟨Nat.le_of_ble_eq_true rfl, Nat.le_of_ble_eq_true rfl⟩ dL_law_140 (fun v μ1 hq => ?_)
  obtain ⟨z2, rfl, h⟩ := hq
  refine k_istore cx1 dL_law_143 (by decide) ?_
  refine k_aload_n cx1 dL_law_145 rfl rfl ?_
  refine k_aload_n cx1 dL_law_146 rfl rfl ?_
  refine k_iload cx1 dL_law_147 rfl ?_
  refine k_iconst (v := (1 : Int32)) cx1 dL_law_149 (by decide +kernel) ?_
  refine k_iadd cx1 dL_law_150 ?_
  obtain ⟨hi, h⟩ := h
  refine k_sld cx1 lx hi dL_law_151 ?_
  refine k_callV (As := [.int (xs ((x4 + (1 : Int32))).toNatClampNeg)]) (rest := []) cx1 (m_X8_node h) cv_L_74 ob_MO rfl rfl rfl rfl (Nat.le_of_ble_eq_true rfl) ⟨Nat.le_of_ble_eq_true rfl, Nat.le_of_ble_eq_true rfl⟩ dL_law_152 (fun v μ3 hq => ?_)
  obtain ⟨z4, rfl, h⟩ := hq
  refine k_istore cx1 dL_law_155 (by decide) ?_
  refine k_aload_n cx1 dL_law_157 rfl rfl ?_
  refine k_callV (As := []) (rest := []) cx1 (m_X8_thrown h) cv_L_75 ob_MO rfl rfl rfl rfl (Nat.le_of_ble_eq_true rfl) ⟨Nat.le_of_ble_eq_true rfl, Nat.le_of_ble_eq_true rfl⟩ dL_law_158 (fun v μ5 hq => ?_)
  obtain ⟨z6, rfl, h⟩ := hq
  refine k_iload cx1 dL_law_161 rfl ?_
  refine k_icmp_eq (tgt := 168) cx1 dL_law_163 (by decide) (fun hc => ?_) (fun hc => ?_)
  · replace h := h.1 hc
    refine k_iload cx1 dL_law_168 rfl ?_
    refine k_if_ne (tgt := 185) cx1 dL_law_170 (by decide) (fun hc => ?_) (fun hc => ?_)
    · replace h := h.1 hc
      refine k_goto (tgt := 1225) cx1 dL_law_185 (by decide) ?_
      refine k_iinc (v := (x4 + (4 : Int32))) cx1 dL_law_1225 rfl rfl (by decide) ?_
      refine k_goto (tgt := 23) cx1 dL_law_1228 (by decide) ?_
      exact k_widen (by omega) (by omega) (k_weak h (lsLe.keep (lsLe.keep (lsLe.keep (lsLe.keep (lsLe.keep (lsLe.drop (lsLe.drop lsLe.nil))))))))
    · replace h := h.2 hc
      refine k_aload_n cx1 dL_law_173 rfl rfl ?_
      refine k_iconst (v := (0 : Int32)) cx1 dL_law_174 (by decide +kernel) ?_
      refine k_lald cx1 ar_OUT vp_00 dL_law_175 ?_
      refine k_iload cx1 dL_law_176 rfl ?_
      refine k_i2l cx1 dL_law_178 ?_
      refine k_lcmp cx1 dL_law_179 ?_
      refine k_if_eq (tgt := 185) cx1 dL_law_180 (by decide) (fun hc => ?_) (fun hc => ?_)
      · replace h := h.1 hc
        refine k_goto (tgt := 1225) cx1 dL_law_185 (by decide) ?_
        refine k_iinc (v := (x4 + (4 : Int32))) cx1 dL_law_1225 rfl rfl (by decide) ?_
        refine k_goto (tgt := 23) cx1 dL_law_1228 (by decide) ?_
        exact k_widen (by omega) (by omega) (k_weak h (lsLe.keep (lsLe.keep (lsLe.keep (lsLe.keep (lsLe.keep (lsLe.drop (lsLe.drop lsLe.nil))))))))
      · replace h := h.2 hc
        refine k_iconst (v := (0 : Int32)) cx1 dL_law_183 (by decide +kernel) ?_
        exact h.elim
  · replace h := h.2 hc
    refine k_iconst (v := (0 : Int32)) cx1 dL_law_166 (by decide +kernel) ?_
    exact h.elim
def F_law_1 (K : Int32 → Mm → Prop) (L : Nat) (xs : Nat → Int32) (x4 : Int32) (μ : Mm) : Prop :=
  vp_in (x4 + (1 : Int32)) L ∧ vp_in (x4 + (2 : Int32)) L ∧ vp_in (x4 + (3 : Int32)) L ∧ Wp_L_link (xs ((x4 + (1 : Int32))).toNatClampNeg) (xs ((x4 + (2 : Int32))).toNatClampNeg) (xs ((x4 + (3 : Int32))).toNatClampNeg) μ (fun z2 μ1 => vp_in (x4 + (1 : Int32)) L ∧ vp_in (x4 + (2 : Int32)) L ∧ vp_in (x4 + (3 : Int32)) L ∧ Wp_X8_link (xs ((x4 + (1 : Int32))).toNatClampNeg) (xs ((x4 + (2 : Int32))).toNatClampNeg) (xs ((x4 + (3 : Int32))).toNatClampNeg) μ1 (fun z4 μ3 => Wp_X8_thrown  μ3 (fun z6 μ5 => ((z6 = z2 → ((¬ (z2 = 0) → K (x4 + (4 : Int32)) μ5) ∧ (z2 = 0 → (((lg_cmp ((μ5 p_OUT 0).toInt64) (z4.toInt64)) = 0 → K (x4 + (4 : Int32)) μ5) ∧ (¬ ((lg_cmp ((μ5 p_OUT 0).toInt64) (z4.toInt64)) = 0) → False))))) ∧ (¬ (z6 = z2) → False)))))
set_option maxHeartbeats 2000000 in
theorem b_law_1 {g : GE} {f : FE} {b L : Nat} {xs : Nat → Int32} (lx : LX g f b L xs) {kc ks : Nat} (cx : Cx g f code 7 "MeshLodgerLaw" 2048 84000 kc ks) (cx1 : Cx g f code 7 "MeshLodgerLaw" 2048 84000 (kc + 1) (ks + 6)) (hk : kc + 1 ≤ 619652) (hs : ks + 6 ≤ 7237147) {x4 : Int32} {μ : Mm} (h : F_law_1 (fun y μ2 => KW g f 7 (kc + 1) (ks + 6) 23 [some (.ref p_SCR), some (.ref p_ML), some (.ref p_MO), some (.ref p_OUT), some (.int y), none, none] [] μ2) L xs x4 μ) : KW g f 7 kc ks 188 [some (.ref p_SCR), some (.ref p_ML), some (.ref p_MO), some (.ref p_OUT), some (.int x4), none, none] [] μ := by
  unfold F_law_1 at h
  refine k_aload_n cx dL_law_188 rfl rfl ?_
  refine k_aload_n cx dL_law_189 rfl rfl ?_
  refine k_iload cx dL_law_190 rfl ?_
  refine k_iconst (v := (1 : Int32)) cx dL_law_192 (by decide +kernel) ?_
  refine k_iadd cx dL_law_193 ?_
  obtain ⟨hi, h⟩ := h
  refine k_sld cx lx hi dL_law_194 ?_
  refine k_aload_n cx dL_law_195 rfl rfl ?_
  refine k_iload cx dL_law_196 rfl ?_
  refine k_iconst (v := (2 : Int32)) cx dL_law_198 (by decide +kernel) ?_
  refine k_iadd cx dL_law_199 ?_
  obtain ⟨hi, h⟩ := h
  refine k_sld cx lx hi dL_law_200 ?_
  refine k_aload_n cx dL_law_201 rfl rfl ?_
  refine k_iload cx dL_law_202 rfl ?_
  refine k_iconst (v := (3 : Int32)) cx dL_law_204 (by decide +kernel) ?_
  refine k_iadd cx dL_law_205 ?_
  obtain ⟨hi, h⟩ := h
  refine k_sld cx lx hi dL_law_206 ?_
  refine k_aload_n cx dL_law_207 rfl rfl ?_
  refine k_callH (As := [.ref p_ML, .int (xs ((x4 + (1 : Int32))).toNatClampNeg), .int (xs ((x4 + (2 : Int32))).toNatClampNeg), .int (xs ((x4 + (3 : Int32))).toNatClampNeg), .ref p_OUT]) (rest := []) cx lx hk hs (m_L_link lx.2.2.1 h) ch_L_link rfl rfl (Nat.le_of_ble_eq_true rfl) ⟨Nat.le_of_ble_eq_true rfl, Nat.le_of_ble_eq_true rfl⟩ dL_law_208 (fun v μ1 hq => ?_)
  obtain ⟨z2, rfl, h⟩ := hq
  refine k_istore cx1 dL_law_211 (by decide) ?_
  refine k_aload_n cx1 dL_law_213 rfl rfl ?_
  refine k_aload_n cx1 dL_law_214 rfl rfl ?_
  refine k_iload cx1 dL_law_215 rfl ?_
  refine k_iconst (v := (1 : Int32)) cx1 dL_law_217 (by decide +kernel) ?_
  refine k_iadd cx1 dL_law_218 ?_
  obtain ⟨hi, h⟩ := h
  refine k_sld cx1 lx hi dL_law_219 ?_
  refine k_aload_n cx1 dL_law_220 rfl rfl ?_
  refine k_iload cx1 dL_law_221 rfl ?_
  refine k_iconst (v := (2 : Int32)) cx1 dL_law_223 (by decide +kernel) ?_
  refine k_iadd cx1 dL_law_224 ?_
  obtain ⟨hi, h⟩ := h
  refine k_sld cx1 lx hi dL_law_225 ?_
  refine k_aload_n cx1 dL_law_226 rfl rfl ?_
  refine k_iload cx1 dL_law_227 rfl ?_
  refine k_iconst (v := (3 : Int32)) cx1 dL_law_229 (by decide +kernel) ?_
  refine k_iadd cx1 dL_law_230 ?_
  obtain ⟨hi, h⟩ := h
  refine k_sld cx1 lx hi dL_law_231 ?_
  refine k_callV (As := [.int (xs ((x4 + (1 : Int32))).toNatClampNeg), .int (xs ((x4 + (2 : Int32))).toNatClampNeg), .int (xs ((x4 + (3 : Int32))).toNatClampNeg)]) (rest := []) cx1 (m_X8_link h) cv_L_82 ob_MO rfl rfl rfl rfl (Nat.le_of_ble_eq_true rfl) ⟨Nat.le_of_ble_eq_true rfl, Nat.le_of_ble_eq_true rfl⟩ dL_law_232 (fun v μ3 hq => ?_)
  obtain ⟨z4, rfl, h⟩ := hq
  refine k_istore cx1 dL_law_235 (by decide) ?_
  refine k_aload_n cx1 dL_law_237 rfl rfl ?_
  refine k_callV (As := []) (rest := []) cx1 (m_X8_thrown h) cv_L_75 ob_MO rfl rfl rfl rfl (Nat.le_of_ble_eq_true rfl) ⟨Nat.le_of_ble_eq_true rfl, Nat.le_of_ble_eq_true rfl⟩ dL_law_238 (fun v μ5 hq => ?_)
  obtain ⟨z6, rfl, h⟩ := hq
  refine k_iload cx1 dL_law_241 rfl ?_
  refine k_icmp_eq (tgt := 248) cx1 dL_law_243 (by decide) (fun hc => ?_) (fun hc => ?_)
  · replace h := h.1 hc
    refine k_iload cx1 dL_law_248 rfl ?_
    refine k_if_ne (tgt := 265) cx1 dL_law_250 (by decide) (fun hc => ?_) (fun hc => ?_)
    · replace h := h.1 hc
      refine k_goto (tgt := 1225) cx1 dL_law_265 (by decide) ?_
      refine k_iinc (v := (x4 + (4 : Int32))) cx1 dL_law_1225 rfl rfl (by decide) ?_
      refine k_goto (tgt := 23) cx1 dL_law_1228 (by decide) ?_
      exact k_widen (by omega) (by omega) (k_weak h (lsLe.keep (lsLe.keep (lsLe.keep (lsLe.keep (lsLe.keep (lsLe.drop (lsLe.drop lsLe.nil))))))))
    · replace h := h.2 hc
      refine k_aload_n cx1 dL_law_253 rfl rfl ?_
      refine k_iconst (v := (0 : Int32)) cx1 dL_law_254 (by decide +kernel) ?_
      refine k_lald cx1 ar_OUT vp_00 dL_law_255 ?_
      refine k_iload cx1 dL_law_256 rfl ?_
      refine k_i2l cx1 dL_law_258 ?_
      refine k_lcmp cx1 dL_law_259 ?_
      refine k_if_eq (tgt := 265) cx1 dL_law_260 (by decide) (fun hc => ?_) (fun hc => ?_)
      · replace h := h.1 hc
        refine k_goto (tgt := 1225) cx1 dL_law_265 (by decide) ?_
        refine k_iinc (v := (x4 + (4 : Int32))) cx1 dL_law_1225 rfl rfl (by decide) ?_
        refine k_goto (tgt := 23) cx1 dL_law_1228 (by decide) ?_
        exact k_widen (by omega) (by omega) (k_weak h (lsLe.keep (lsLe.keep (lsLe.keep (lsLe.keep (lsLe.keep (lsLe.drop (lsLe.drop lsLe.nil))))))))
      · replace h := h.2 hc
        refine k_iconst (v := (0 : Int32)) cx1 dL_law_263 (by decide +kernel) ?_
        exact h.elim
  · replace h := h.2 hc
    refine k_iconst (v := (0 : Int32)) cx1 dL_law_246 (by decide +kernel) ?_
    exact h.elim
def F_law_2 (K : Int32 → Mm → Prop) (L : Nat) (xs : Nat → Int32) (x4 : Int32) (μ : Mm) : Prop :=
  vp_in (x4 + (1 : Int32)) L ∧ vp_in (x4 + (2 : Int32)) L ∧ (((xs ((x4 + (2 : Int32))).toNatClampNeg) = 0 → Wp_L_fail (xs ((x4 + (1 : Int32))).toNatClampNeg) (0 : Int32) μ (fun z2 μ1 => vp_in (x4 + (1 : Int32)) L ∧ vp_in (x4 + (2 : Int32)) L ∧ (((xs ((x4 + (2 : Int32))).toNatClampNeg) = 0 → Wp_X8_fail (xs ((x4 + (1 : Int32))).toNatClampNeg) (0 : Int32) μ1 (fun z4 μ3 => Wp_X8_thrown  μ3 (fun z6 μ5 => ((z6 = z2 → ((¬ (z2 = 0) → K (x4 + (4 : Int32)) μ5) ∧ (z2 = 0 → (((lg_cmp ((μ5 p_OUT 0).toInt64) (z4.toInt64)) = 0 → K (x4 + (4 : Int32)) μ5) ∧ (¬ ((lg_cmp ((μ5 p_OUT 0).toInt64) (z4.toInt64)) = 0) → False))))) ∧ (¬ (z6 = z2) → False))))) ∧ (¬ ((xs ((x4 + (2 : Int32))).toNatClampNeg) = 0) → Wp_X8_fail (xs ((x4 + (1 : Int32))).toNatClampNeg) (1 : Int32) μ1 (fun z8 μ7 => Wp_X8_thrown  μ7 (fun z10 μ9 => ((z10 = z2 → ((¬ (z2 = 0) → K (x4 + (4 : Int32)) μ9) ∧ (z2 = 0 → (((lg_cmp ((μ9 p_OUT 0).toInt64) (z8.toInt64)) = 0 → K (x4 + (4 : Int32)) μ9) ∧ (¬ ((lg_cmp ((μ9 p_OUT 0).toInt64) (z8.toInt64)) = 0) → False))))) ∧ (¬ (z10 = z2) → False)))))))) ∧ (¬ ((xs ((x4 + (2 : Int32))).toNatClampNeg) = 0) → Wp_L_fail (xs ((x4 + (1 : Int32))).toNatClampNeg) (1 : Int32) μ (fun z12 μ11 => vp_in (x4 + (1 : Int32)) L ∧ vp_in (x4 + (2 : Int32)) L ∧ (((xs ((x4 + (2 : Int32))).toNatClampNeg) = 0 → Wp_X8_fail (xs ((x4 + (1 : Int32))).toNatClampNeg) (0 : Int32) μ11 (fun z14 μ13 => Wp_X8_thrown  μ13 (fun z16 μ15 => ((z16 = z12 → ((¬ (z12 = 0) → K (x4 + (4 : Int32)) μ15) ∧ (z12 = 0 → (((lg_cmp ((μ15 p_OUT 0).toInt64) (z14.toInt64)) = 0 → K (x4 + (4 : Int32)) μ15) ∧ (¬ ((lg_cmp ((μ15 p_OUT 0).toInt64) (z14.toInt64)) = 0) → False))))) ∧ (¬ (z16 = z12) → False))))) ∧ (¬ ((xs ((x4 + (2 : Int32))).toNatClampNeg) = 0) → Wp_X8_fail (xs ((x4 + (1 : Int32))).toNatClampNeg) (1 : Int32) μ11 (fun z18 μ17 => Wp_X8_thrown  μ17 (fun z20 μ19 => ((z20 = z12 → ((¬ (z12 = 0) → K (x4 + (4 : Int32)) μ19) ∧ (z12 = 0 → (((lg_cmp ((μ19 p_OUT 0).toInt64) (z18.toInt64)) = 0 → K (x4 + (4 : Int32)) μ19) ∧ (¬ ((lg_cmp ((μ19 p_OUT 0).toInt64) (z18.toInt64)) = 0) → False))))) ∧ (¬ (z20 = z12) → False)))))))))
set_option maxHeartbeats 2000000 in
theorem b_law_2 {g : GE} {f : FE} {b L : Nat} {xs : Nat → Int32} (lx : LX g f b L xs) {kc ks : Nat} (cx : Cx g f code 7 "MeshLodgerLaw" 2048 84000 kc ks) (cx1 : Cx g f code 7 "MeshLodgerLaw" 2048 84000 (kc + 1) (ks + 6)) (hk : kc + 1 ≤ 619652) (hs : ks + 6 ≤ 7237147) {x4 : Int32} {μ : Mm} (h : F_law_2 (fun y μ2 => KW g f 7 (kc + 1) (ks + 6) 23 [some (.ref p_SCR), some (.ref p_ML), some (.ref p_MO), some (.ref p_OUT), some (.int y), none, none] [] μ2) L xs x4 μ) : KW g f 7 kc ks 268 [some (.ref p_SCR), some (.ref p_ML), some (.ref p_MO), some (.ref p_OUT), some (.int x4), none, none] [] μ := by
  unfold F_law_2 at h
  refine k_aload_n cx dL_law_268 rfl rfl ?_
  refine k_aload_n cx dL_law_269 rfl rfl ?_
  refine k_iload cx dL_law_270 rfl ?_
  refine k_iconst (v := (1 : Int32)) cx dL_law_272 (by decide +kernel) ?_
  refine k_iadd cx dL_law_273 ?_
  obtain ⟨hi, h⟩ := h
  refine k_sld cx lx hi dL_law_274 ?_
  refine k_aload_n cx dL_law_275 rfl rfl ?_
  refine k_iload cx dL_law_276 rfl ?_
  refine k_iconst (v := (2 : Int32)) cx dL_law_278 (by decide +kernel) ?_
  refine k_iadd cx dL_law_279 ?_
  obtain ⟨hi, h⟩ := h
  refine k_sld cx lx hi dL_law_280 ?_
  refine k_if_eq (tgt := 288) cx dL_law_281 (by decide) (fun hc => ?_) (fun hc => ?_)
  · replace h := h.1 hc
    refine k_iconst (v := (0 : Int32)) cx dL_law_288 (by decide +kernel) ?_
    refine k_aload_n cx dL_law_289 rfl rfl ?_
    refine k_callH (As := [.ref p_ML, .int (xs ((x4 + (1 : Int32))).toNatClampNeg), .int (0 : Int32), .ref p_OUT]) (rest := []) cx lx hk hs (m_L_fail lx.2.2.1 h) ch_L_fail rfl rfl (Nat.le_of_ble_eq_true rfl) ⟨Nat.le_of_ble_eq_true rfl, Nat.le_of_ble_eq_true rfl⟩ dL_law_290 (fun v μ1 hq => ?_)
    obtain ⟨z2, rfl, h⟩ := hq
    refine k_istore cx1 dL_law_293 (by decide) ?_
    refine k_aload_n cx1 dL_law_295 rfl rfl ?_
    refine k_aload_n cx1 dL_law_296 rfl rfl ?_
    refine k_iload cx1 dL_law_297 rfl ?_
    refine k_iconst (v := (1 : Int32)) cx1 dL_law_299 (by decide +kernel) ?_
    refine k_iadd cx1 dL_law_300 ?_
    obtain ⟨hi, h⟩ := h
    refine k_sld cx1 lx hi dL_law_301 ?_
    refine k_aload_n cx1 dL_law_302 rfl rfl ?_
    refine k_iload cx1 dL_law_303 rfl ?_
    refine k_iconst (v := (2 : Int32)) cx1 dL_law_305 (by decide +kernel) ?_
    refine k_iadd cx1 dL_law_306 ?_
    obtain ⟨hi, h⟩ := h
    refine k_sld cx1 lx hi dL_law_307 ?_
    refine k_if_eq (tgt := 315) cx1 dL_law_308 (by decide) (fun hc => ?_) (fun hc => ?_)
    · replace h := h.1 hc
      refine k_iconst (v := (0 : Int32)) cx1 dL_law_315 (by decide +kernel) ?_
      refine k_callV (As := [.int (xs ((x4 + (1 : Int32))).toNatClampNeg), .int (0 : Int32)]) (rest := []) cx1 (m_X8_fail h) cv_L_86 ob_MO rfl rfl rfl rfl (Nat.le_of_ble_eq_true rfl) ⟨Nat.le_of_ble_eq_true rfl, Nat.le_of_ble_eq_true rfl⟩ dL_law_316 (fun v μ3 hq => ?_)
      obtain ⟨z4, rfl, h⟩ := hq
      refine k_istore cx1 dL_law_319 (by decide) ?_
      refine k_aload_n cx1 dL_law_321 rfl rfl ?_
      refine k_callV (As := []) (rest := []) cx1 (m_X8_thrown h) cv_L_75 ob_MO rfl rfl rfl rfl (Nat.le_of_ble_eq_true rfl) ⟨Nat.le_of_ble_eq_true rfl, Nat.le_of_ble_eq_true rfl⟩ dL_law_322 (fun v μ5 hq => ?_)
      obtain ⟨z6, rfl, h⟩ := hq
      refine k_iload cx1 dL_law_325 rfl ?_
      refine k_icmp_eq (tgt := 332) cx1 dL_law_327 (by decide) (fun hc => ?_) (fun hc => ?_)
      · replace h := h.1 hc
        refine k_iload cx1 dL_law_332 rfl ?_
        refine k_if_ne (tgt := 349) cx1 dL_law_334 (by decide) (fun hc => ?_) (fun hc => ?_)
        · replace h := h.1 hc
          refine k_goto (tgt := 1225) cx1 dL_law_349 (by decide) ?_
          refine k_iinc (v := (x4 + (4 : Int32))) cx1 dL_law_1225 rfl rfl (by decide) ?_
          refine k_goto (tgt := 23) cx1 dL_law_1228 (by decide) ?_
          exact k_widen (by omega) (by omega) (k_weak h (lsLe.keep (lsLe.keep (lsLe.keep (lsLe.keep (lsLe.keep (lsLe.drop (lsLe.drop lsLe.nil))))))))
        · replace h := h.2 hc
          refine k_aload_n cx1 dL_law_337 rfl rfl ?_
          refine k_iconst (v := (0 : Int32)) cx1 dL_law_338 (by decide +kernel) ?_
          refine k_lald cx1 ar_OUT vp_00 dL_law_339 ?_
          refine k_iload cx1 dL_law_340 rfl ?_
          refine k_i2l cx1 dL_law_342 ?_
          refine k_lcmp cx1 dL_law_343 ?_
          refine k_if_eq (tgt := 349) cx1 dL_law_344 (by decide) (fun hc => ?_) (fun hc => ?_)
          · replace h := h.1 hc
            refine k_goto (tgt := 1225) cx1 dL_law_349 (by decide) ?_
            refine k_iinc (v := (x4 + (4 : Int32))) cx1 dL_law_1225 rfl rfl (by decide) ?_
            refine k_goto (tgt := 23) cx1 dL_law_1228 (by decide) ?_
            exact k_widen (by omega) (by omega) (k_weak h (lsLe.keep (lsLe.keep (lsLe.keep (lsLe.keep (lsLe.keep (lsLe.drop (lsLe.drop lsLe.nil))))))))
          · replace h := h.2 hc
            refine k_iconst (v := (0 : Int32)) cx1 dL_law_347 (by decide +kernel) ?_
            exact h.elim
      · replace h := h.2 hc
        refine k_iconst (v := (0 : Int32)) cx1 dL_law_330 (by decide +kernel) ?_
        exact h.elim
    · replace h := h.2 hc
      refine k_iconst (v := (1 : Int32)) cx1 dL_law_311 (by decide +kernel) ?_
      refine k_goto (tgt := 316) cx1 dL_law_312 (by decide) ?_
      refine k_callV (As := [.int (xs ((x4 + (1 : Int32))).toNatClampNeg), .int (1 : Int32)]) (rest := []) cx1 (m_X8_fail h) cv_L_86 ob_MO rfl rfl rfl rfl (Nat.le_of_ble_eq_true rfl) ⟨Nat.le_of_ble_eq_true rfl, Nat.le_of_ble_eq_true rfl⟩ dL_law_316 (fun v μ7 hq => ?_)
      obtain ⟨z8, rfl, h⟩ := hq
      refine k_istore cx1 dL_law_319 (by decide) ?_
      refine k_aload_n cx1 dL_law_321 rfl rfl ?_
      refine k_callV (As := []) (rest := []) cx1 (m_X8_thrown h) cv_L_75 ob_MO rfl rfl rfl rfl (Nat.le_of_ble_eq_true rfl) ⟨Nat.le_of_ble_eq_true rfl, Nat.le_of_ble_eq_true rfl⟩ dL_law_322 (fun v μ9 hq => ?_)
      obtain ⟨z10, rfl, h⟩ := hq
      refine k_iload cx1 dL_law_325 rfl ?_
      refine k_icmp_eq (tgt := 332) cx1 dL_law_327 (by decide) (fun hc => ?_) (fun hc => ?_)
      · replace h := h.1 hc
        refine k_iload cx1 dL_law_332 rfl ?_
        refine k_if_ne (tgt := 349) cx1 dL_law_334 (by decide) (fun hc => ?_) (fun hc => ?_)
        · replace h := h.1 hc
          refine k_goto (tgt := 1225) cx1 dL_law_349 (by decide) ?_
          refine k_iinc (v := (x4 + (4 : Int32))) cx1 dL_law_1225 rfl rfl (by decide) ?_
          refine k_goto (tgt := 23) cx1 dL_law_1228 (by decide) ?_
          exact k_widen (by omega) (by omega) (k_weak h (lsLe.keep (lsLe.keep (lsLe.keep (lsLe.keep (lsLe.keep (lsLe.drop (lsLe.drop lsLe.nil))))))))
        · replace h := h.2 hc
          refine k_aload_n cx1 dL_law_337 rfl rfl ?_
          refine k_iconst (v := (0 : Int32)) cx1 dL_law_338 (by decide +kernel) ?_
          refine k_lald cx1 ar_OUT vp_00 dL_law_339 ?_
          refine k_iload cx1 dL_law_340 rfl ?_
          refine k_i2l cx1 dL_law_342 ?_
          refine k_lcmp cx1 dL_law_343 ?_
          refine k_if_eq (tgt := 349) cx1 dL_law_344 (by decide) (fun hc => ?_) (fun hc => ?_)
          · replace h := h.1 hc
            refine k_goto (tgt := 1225) cx1 dL_law_349 (by decide) ?_
            refine k_iinc (v := (x4 + (4 : Int32))) cx1 dL_law_1225 rfl rfl (by decide) ?_
            refine k_goto (tgt := 23) cx1 dL_law_1228 (by decide) ?_
            exact k_widen (by omega) (by omega) (k_weak h (lsLe.keep (lsLe.keep (lsLe.keep (lsLe.keep (lsLe.keep (lsLe.drop (lsLe.drop lsLe.nil))))))))
          · replace h := h.2 hc
            refine k_iconst (v := (0 : Int32)) cx1 dL_law_347 (by decide +kernel) ?_
            exact h.elim
      · replace h := h.2 hc
        refine k_iconst (v := (0 : Int32)) cx1 dL_law_330 (by decide +kernel) ?_
        exact h.elim
  · replace h := h.2 hc
    refine k_iconst (v := (1 : Int32)) cx dL_law_284 (by decide +kernel) ?_
    refine k_goto (tgt := 289) cx dL_law_285 (by decide) ?_
    refine k_aload_n cx dL_law_289 rfl rfl ?_
    refine k_callH (As := [.ref p_ML, .int (xs ((x4 + (1 : Int32))).toNatClampNeg), .int (1 : Int32), .ref p_OUT]) (rest := []) cx lx hk hs (m_L_fail lx.2.2.1 h) ch_L_fail rfl rfl (Nat.le_of_ble_eq_true rfl) ⟨Nat.le_of_ble_eq_true rfl, Nat.le_of_ble_eq_true rfl⟩ dL_law_290 (fun v μ11 hq => ?_)
    obtain ⟨z12, rfl, h⟩ := hq
    refine k_istore cx1 dL_law_293 (by decide) ?_
    refine k_aload_n cx1 dL_law_295 rfl rfl ?_
    refine k_aload_n cx1 dL_law_296 rfl rfl ?_
    refine k_iload cx1 dL_law_297 rfl ?_
    refine k_iconst (v := (1 : Int32)) cx1 dL_law_299 (by decide +kernel) ?_
    refine k_iadd cx1 dL_law_300 ?_
    obtain ⟨hi, h⟩ := h
    refine k_sld cx1 lx hi dL_law_301 ?_
    refine k_aload_n cx1 dL_law_302 rfl rfl ?_
    refine k_iload cx1 dL_law_303 rfl ?_
    refine k_iconst (v := (2 : Int32)) cx1 dL_law_305 (by decide +kernel) ?_
    refine k_iadd cx1 dL_law_306 ?_
    obtain ⟨hi, h⟩ := h
    refine k_sld cx1 lx hi dL_law_307 ?_
    refine k_if_eq (tgt := 315) cx1 dL_law_308 (by decide) (fun hc => ?_) (fun hc => ?_)
    · replace h := h.1 hc
      refine k_iconst (v := (0 : Int32)) cx1 dL_law_315 (by decide +kernel) ?_
      refine k_callV (As := [.int (xs ((x4 + (1 : Int32))).toNatClampNeg), .int (0 : Int32)]) (rest := []) cx1 (m_X8_fail h) cv_L_86 ob_MO rfl rfl rfl rfl (Nat.le_of_ble_eq_true rfl) ⟨Nat.le_of_ble_eq_true rfl, Nat.le_of_ble_eq_true rfl⟩ dL_law_316 (fun v μ13 hq => ?_)
      obtain ⟨z14, rfl, h⟩ := hq
      refine k_istore cx1 dL_law_319 (by decide) ?_
      refine k_aload_n cx1 dL_law_321 rfl rfl ?_
      refine k_callV (As := []) (rest := []) cx1 (m_X8_thrown h) cv_L_75 ob_MO rfl rfl rfl rfl (Nat.le_of_ble_eq_true rfl) ⟨Nat.le_of_ble_eq_true rfl, Nat.le_of_ble_eq_true rfl⟩ dL_law_322 (fun v μ15 hq => ?_)
      obtain ⟨z16, rfl, h⟩ := hq
      refine k_iload cx1 dL_law_325 rfl ?_
      refine k_icmp_eq (tgt := 332) cx1 dL_law_327 (by decide) (fun hc => ?_) (fun hc => ?_)
      · replace h := h.1 hc
        refine k_iload cx1 dL_law_332 rfl ?_
        refine k_if_ne (tgt := 349) cx1 dL_law_334 (by decide) (fun hc => ?_) (fun hc => ?_)
        · replace h := h.1 hc
          refine k_goto (tgt := 1225) cx1 dL_law_349 (by decide) ?_
          refine k_iinc (v := (x4 + (4 : Int32))) cx1 dL_law_1225 rfl rfl (by decide) ?_
          refine k_goto (tgt := 23) cx1 dL_law_1228 (by decide) ?_
          exact k_widen (by omega) (by omega) (k_weak h (lsLe.keep (lsLe.keep (lsLe.keep (lsLe.keep (lsLe.keep (lsLe.drop (lsLe.drop lsLe.nil))))))))
        · replace h := h.2 hc
          refine k_aload_n cx1 dL_law_337 rfl rfl ?_
          refine k_iconst (v := (0 : Int32)) cx1 dL_law_338 (by decide +kernel) ?_
          refine k_lald cx1 ar_OUT vp_00 dL_law_339 ?_
          refine k_iload cx1 dL_law_340 rfl ?_
          refine k_i2l cx1 dL_law_342 ?_
          refine k_lcmp cx1 dL_law_343 ?_
          refine k_if_eq (tgt := 349) cx1 dL_law_344 (by decide) (fun hc => ?_) (fun hc => ?_)
          · replace h := h.1 hc
            refine k_goto (tgt := 1225) cx1 dL_law_349 (by decide) ?_
            refine k_iinc (v := (x4 + (4 : Int32))) cx1 dL_law_1225 rfl rfl (by decide) ?_
            refine k_goto (tgt := 23) cx1 dL_law_1228 (by decide) ?_
            exact k_widen (by omega) (by omega) (k_weak h (lsLe.keep (lsLe.keep (lsLe.keep (lsLe.keep (lsLe.keep (lsLe.drop (lsLe.drop lsLe.nil))))))))
          · replace h := h.2 hc
            refine k_iconst (v := (0 : Int32)) cx1 dL_law_347 (by decide +kernel) ?_
            exact h.elim
      · replace h := h.2 hc
        refine k_iconst (v := (0 : Int32)) cx1 dL_law_330 (by decide +kernel) ?_
        exact h.elim
    · replace h := h.2 hc
      refine k_iconst (v := (1 : Int32)) cx1 dL_law_311 (by decide +kernel) ?_
      refine k_goto (tgt := 316) cx1 dL_law_312 (by decide) ?_
      refine k_callV (As := [.int (xs ((x4 + (1 : Int32))).toNatClampNeg), .int (1 : Int32)]) (rest := []) cx1 (m_X8_fail h) cv_L_86 ob_MO rfl rfl rfl rfl (Nat.le_of_ble_eq_true rfl) ⟨Nat.le_of_ble_eq_true rfl, Nat.le_of_ble_eq_true rfl⟩ dL_law_316 (fun v μ17 hq => ?_)
      obtain ⟨z18, rfl, h⟩ := hq
      refine k_istore cx1 dL_law_319 (by decide) ?_
      refine k_aload_n cx1 dL_law_321 rfl rfl ?_
      refine k_callV (As := []) (rest := []) cx1 (m_X8_thrown h) cv_L_75 ob_MO rfl rfl rfl rfl (Nat.le_of_ble_eq_true rfl) ⟨Nat.le_of_ble_eq_true rfl, Nat.le_of_ble_eq_true rfl⟩ dL_law_322 (fun v μ19 hq => ?_)
      obtain ⟨z20, rfl, h⟩ := hq
      refine k_iload cx1 dL_law_325 rfl ?_
      refine k_icmp_eq (tgt := 332) cx1 dL_law_327 (by decide) (fun hc => ?_) (fun hc => ?_)
      · replace h := h.1 hc
        refine k_iload cx1 dL_law_332 rfl ?_
        refine k_if_ne (tgt := 349) cx1 dL_law_334 (by decide) (fun hc => ?_) (fun hc => ?_)
        · replace h := h.1 hc
          refine k_goto (tgt := 1225) cx1 dL_law_349 (by decide) ?_
          refine k_iinc (v := (x4 + (4 : Int32))) cx1 dL_law_1225 rfl rfl (by decide) ?_
          refine k_goto (tgt := 23) cx1 dL_law_1228 (by decide) ?_
          exact k_widen (by omega) (by omega) (k_weak h (lsLe.keep (lsLe.keep (lsLe.keep (lsLe.keep (lsLe.keep (lsLe.drop (lsLe.drop lsLe.nil))))))))
        · replace h := h.2 hc
          refine k_aload_n cx1 dL_law_337 rfl rfl ?_
          refine k_iconst (v := (0 : Int32)) cx1 dL_law_338 (by decide +kernel) ?_
          refine k_lald cx1 ar_OUT vp_00 dL_law_339 ?_
          refine k_iload cx1 dL_law_340 rfl ?_
          refine k_i2l cx1 dL_law_342 ?_
          refine k_lcmp cx1 dL_law_343 ?_
          refine k_if_eq (tgt := 349) cx1 dL_law_344 (by decide) (fun hc => ?_) (fun hc => ?_)
          · replace h := h.1 hc
            refine k_goto (tgt := 1225) cx1 dL_law_349 (by decide) ?_
            refine k_iinc (v := (x4 + (4 : Int32))) cx1 dL_law_1225 rfl rfl (by decide) ?_
            refine k_goto (tgt := 23) cx1 dL_law_1228 (by decide) ?_
            exact k_widen (by omega) (by omega) (k_weak h (lsLe.keep (lsLe.keep (lsLe.keep (lsLe.keep (lsLe.keep (lsLe.drop (lsLe.drop lsLe.nil))))))))
          · replace h := h.2 hc
            refine k_iconst (v := (0 : Int32)) cx1 dL_law_347 (by decide +kernel) ?_
            exact h.elim
      · replace h := h.2 hc
        refine k_iconst (v := (0 : Int32)) cx1 dL_law_330 (by decide +kernel) ?_
        exact h.elim
def F_law_3 (K : Int32 → Mm → Prop) (L : Nat) (xs : Nat → Int32) (x4 : Int32) (μ : Mm) : Prop :=
  vp_in (x4 + (1 : Int32)) L ∧ vp_in (x4 + (2 : Int32)) L ∧ Wp_L_part (xs ((x4 + (1 : Int32))).toNatClampNeg) (xs ((x4 + (2 : Int32))).toNatClampNeg) μ (fun z2 μ1 => vp_in (x4 + (1 : Int32)) L ∧ vp_in (x4 + (2 : Int32)) L ∧ Wp_X8_part (xs ((x4 + (1 : Int32))).toNatClampNeg) (xs ((x4 + (2 : Int32))).toNatClampNeg) μ1 (fun z4 μ3 => Wp_X8_thrown  μ3 (fun z6 μ5 => ((z6 = z2 → ((¬ (z2 = 0) → K (x4 + (4 : Int32)) μ5) ∧ (z2 = 0 → (((lg_cmp ((μ5 p_OUT 0).toInt64) (z4.toInt64)) = 0 → K (x4 + (4 : Int32)) μ5) ∧ (¬ ((lg_cmp ((μ5 p_OUT 0).toInt64) (z4.toInt64)) = 0) → False))))) ∧ (¬ (z6 = z2) → False)))))
set_option maxHeartbeats 2000000 in
theorem b_law_3 {g : GE} {f : FE} {b L : Nat} {xs : Nat → Int32} (lx : LX g f b L xs) {kc ks : Nat} (cx : Cx g f code 7 "MeshLodgerLaw" 2048 84000 kc ks) (cx1 : Cx g f code 7 "MeshLodgerLaw" 2048 84000 (kc + 1) (ks + 6)) (hk : kc + 1 ≤ 619652) (hs : ks + 6 ≤ 7237147) {x4 : Int32} {μ : Mm} (h : F_law_3 (fun y μ2 => KW g f 7 (kc + 1) (ks + 6) 23 [some (.ref p_SCR), some (.ref p_ML), some (.ref p_MO), some (.ref p_OUT), some (.int y), none, none] [] μ2) L xs x4 μ) : KW g f 7 kc ks 352 [some (.ref p_SCR), some (.ref p_ML), some (.ref p_MO), some (.ref p_OUT), some (.int x4), none, none] [] μ := by
  unfold F_law_3 at h
  refine k_aload_n cx dL_law_352 rfl rfl ?_
  refine k_aload_n cx dL_law_353 rfl rfl ?_
  refine k_iload cx dL_law_354 rfl ?_
  refine k_iconst (v := (1 : Int32)) cx dL_law_356 (by decide +kernel) ?_
  refine k_iadd cx dL_law_357 ?_
  obtain ⟨hi, h⟩ := h
  refine k_sld cx lx hi dL_law_358 ?_
  refine k_aload_n cx dL_law_359 rfl rfl ?_
  refine k_iload cx dL_law_360 rfl ?_
  refine k_iconst (v := (2 : Int32)) cx dL_law_362 (by decide +kernel) ?_
  refine k_iadd cx dL_law_363 ?_
  obtain ⟨hi, h⟩ := h
  refine k_sld cx lx hi dL_law_364 ?_
  refine k_aload_n cx dL_law_365 rfl rfl ?_
  refine k_callH (As := [.ref p_ML, .int (xs ((x4 + (1 : Int32))).toNatClampNeg), .int (xs ((x4 + (2 : Int32))).toNatClampNeg), .ref p_OUT]) (rest := []) cx lx hk hs (m_L_part lx.2.2.1 h) ch_L_part rfl rfl (Nat.le_of_ble_eq_true rfl) ⟨Nat.le_of_ble_eq_true rfl, Nat.le_of_ble_eq_true rfl⟩ dL_law_366 (fun v μ1 hq => ?_)
  obtain ⟨z2, rfl, h⟩ := hq
  refine k_istore cx1 dL_law_369 (by decide) ?_
  refine k_aload_n cx1 dL_law_371 rfl rfl ?_
  refine k_aload_n cx1 dL_law_372 rfl rfl ?_
  refine k_iload cx1 dL_law_373 rfl ?_
  refine k_iconst (v := (1 : Int32)) cx1 dL_law_375 (by decide +kernel) ?_
  refine k_iadd cx1 dL_law_376 ?_
  obtain ⟨hi, h⟩ := h
  refine k_sld cx1 lx hi dL_law_377 ?_
  refine k_aload_n cx1 dL_law_378 rfl rfl ?_
  refine k_iload cx1 dL_law_379 rfl ?_
  refine k_iconst (v := (2 : Int32)) cx1 dL_law_381 (by decide +kernel) ?_
  refine k_iadd cx1 dL_law_382 ?_
  obtain ⟨hi, h⟩ := h
  refine k_sld cx1 lx hi dL_law_383 ?_
  refine k_callV (As := [.int (xs ((x4 + (1 : Int32))).toNatClampNeg), .int (xs ((x4 + (2 : Int32))).toNatClampNeg)]) (rest := []) cx1 (m_X8_part h) cv_L_90 ob_MO rfl rfl rfl rfl (Nat.le_of_ble_eq_true rfl) ⟨Nat.le_of_ble_eq_true rfl, Nat.le_of_ble_eq_true rfl⟩ dL_law_384 (fun v μ3 hq => ?_)
  obtain ⟨z4, rfl, h⟩ := hq
  refine k_istore cx1 dL_law_387 (by decide) ?_
  refine k_aload_n cx1 dL_law_389 rfl rfl ?_
  refine k_callV (As := []) (rest := []) cx1 (m_X8_thrown h) cv_L_75 ob_MO rfl rfl rfl rfl (Nat.le_of_ble_eq_true rfl) ⟨Nat.le_of_ble_eq_true rfl, Nat.le_of_ble_eq_true rfl⟩ dL_law_390 (fun v μ5 hq => ?_)
  obtain ⟨z6, rfl, h⟩ := hq
  refine k_iload cx1 dL_law_393 rfl ?_
  refine k_icmp_eq (tgt := 400) cx1 dL_law_395 (by decide) (fun hc => ?_) (fun hc => ?_)
  · replace h := h.1 hc
    refine k_iload cx1 dL_law_400 rfl ?_
    refine k_if_ne (tgt := 417) cx1 dL_law_402 (by decide) (fun hc => ?_) (fun hc => ?_)
    · replace h := h.1 hc
      refine k_goto (tgt := 1225) cx1 dL_law_417 (by decide) ?_
      refine k_iinc (v := (x4 + (4 : Int32))) cx1 dL_law_1225 rfl rfl (by decide) ?_
      refine k_goto (tgt := 23) cx1 dL_law_1228 (by decide) ?_
      exact k_widen (by omega) (by omega) (k_weak h (lsLe.keep (lsLe.keep (lsLe.keep (lsLe.keep (lsLe.keep (lsLe.drop (lsLe.drop lsLe.nil))))))))
    · replace h := h.2 hc
      refine k_aload_n cx1 dL_law_405 rfl rfl ?_
      refine k_iconst (v := (0 : Int32)) cx1 dL_law_406 (by decide +kernel) ?_
      refine k_lald cx1 ar_OUT vp_00 dL_law_407 ?_
      refine k_iload cx1 dL_law_408 rfl ?_
      refine k_i2l cx1 dL_law_410 ?_
      refine k_lcmp cx1 dL_law_411 ?_
      refine k_if_eq (tgt := 417) cx1 dL_law_412 (by decide) (fun hc => ?_) (fun hc => ?_)
      · replace h := h.1 hc
        refine k_goto (tgt := 1225) cx1 dL_law_417 (by decide) ?_
        refine k_iinc (v := (x4 + (4 : Int32))) cx1 dL_law_1225 rfl rfl (by decide) ?_
        refine k_goto (tgt := 23) cx1 dL_law_1228 (by decide) ?_
        exact k_widen (by omega) (by omega) (k_weak h (lsLe.keep (lsLe.keep (lsLe.keep (lsLe.keep (lsLe.keep (lsLe.drop (lsLe.drop lsLe.nil))))))))
      · replace h := h.2 hc
        refine k_iconst (v := (0 : Int32)) cx1 dL_law_415 (by decide +kernel) ?_
        exact h.elim
  · replace h := h.2 hc
    refine k_iconst (v := (0 : Int32)) cx1 dL_law_398 (by decide +kernel) ?_
    exact h.elim
def F_law_4 (K : Int32 → Mm → Prop) (L : Nat) (xs : Nat → Int32) (x4 : Int32) (μ : Mm) : Prop :=
  vp_in (x4 + (1 : Int32)) L ∧ vp_in (x4 + (2 : Int32)) L ∧ vp_in (x4 + (3 : Int32)) L ∧ Wp_L_line (xs ((x4 + (1 : Int32))).toNatClampNeg) (xs ((x4 + (2 : Int32))).toNatClampNeg) (xs ((x4 + (3 : Int32))).toNatClampNeg) μ (fun z2 μ1 => vp_in (x4 + (1 : Int32)) L ∧ vp_in (x4 + (2 : Int32)) L ∧ vp_in (x4 + (3 : Int32)) L ∧ Wp_X8_line (xs ((x4 + (1 : Int32))).toNatClampNeg) (xs ((x4 + (2 : Int32))).toNatClampNeg) (xs ((x4 + (3 : Int32))).toNatClampNeg) μ1 (fun z4 μ3 => Wp_X8_thrown  μ3 (fun z6 μ5 => ((z6 = z2 → ((¬ (z2 = 0) → K (x4 + (4 : Int32)) μ5) ∧ (z2 = 0 → (((lg_cmp ((μ5 p_OUT 0).toInt64) (z4.toInt64)) = 0 → K (x4 + (4 : Int32)) μ5) ∧ (¬ ((lg_cmp ((μ5 p_OUT 0).toInt64) (z4.toInt64)) = 0) → False))))) ∧ (¬ (z6 = z2) → False)))))
set_option maxHeartbeats 2000000 in
theorem b_law_4 {g : GE} {f : FE} {b L : Nat} {xs : Nat → Int32} (lx : LX g f b L xs) {kc ks : Nat} (cx : Cx g f code 7 "MeshLodgerLaw" 2048 84000 kc ks) (cx1 : Cx g f code 7 "MeshLodgerLaw" 2048 84000 (kc + 1) (ks + 6)) (hk : kc + 1 ≤ 619652) (hs : ks + 6 ≤ 7237147) {x4 : Int32} {μ : Mm} (h : F_law_4 (fun y μ2 => KW g f 7 (kc + 1) (ks + 6) 23 [some (.ref p_SCR), some (.ref p_ML), some (.ref p_MO), some (.ref p_OUT), some (.int y), none, none] [] μ2) L xs x4 μ) : KW g f 7 kc ks 420 [some (.ref p_SCR), some (.ref p_ML), some (.ref p_MO), some (.ref p_OUT), some (.int x4), none, none] [] μ := by
  unfold F_law_4 at h
  refine k_aload_n cx dL_law_420 rfl rfl ?_
  refine k_aload_n cx dL_law_421 rfl rfl ?_
  refine k_iload cx dL_law_422 rfl ?_
  refine k_iconst (v := (1 : Int32)) cx dL_law_424 (by decide +kernel) ?_
  refine k_iadd cx dL_law_425 ?_
  obtain ⟨hi, h⟩ := h
  refine k_sld cx lx hi dL_law_426 ?_
  refine k_aload_n cx dL_law_427 rfl rfl ?_
  refine k_iload cx dL_law_428 rfl ?_
  refine k_iconst (v := (2 : Int32)) cx dL_law_430 (by decide +kernel) ?_
  refine k_iadd cx dL_law_431 ?_
  obtain ⟨hi, h⟩ := h
  refine k_sld cx lx hi dL_law_432 ?_
  refine k_aload_n cx dL_law_433 rfl rfl ?_
  refine k_iload cx dL_law_434 rfl ?_
  refine k_iconst (v := (3 : Int32)) cx dL_law_436 (by decide +kernel) ?_
  refine k_iadd cx dL_law_437 ?_
  obtain ⟨hi, h⟩ := h
  refine k_sld cx lx hi dL_law_438 ?_
  refine k_aload_n cx dL_law_439 rfl rfl ?_
  refine k_callH (As := [.ref p_ML, .int (xs ((x4 + (1 : Int32))).toNatClampNeg), .int (xs ((x4 + (2 : Int32))).toNatClampNeg), .int (xs ((x4 + (3 : Int32))).toNatClampNeg), .ref p_OUT]) (rest := []) cx lx hk hs (m_L_line lx.2.2.1 h) ch_L_line rfl rfl (Nat.le_of_ble_eq_true rfl) ⟨Nat.le_of_ble_eq_true rfl, Nat.le_of_ble_eq_true rfl⟩ dL_law_440 (fun v μ1 hq => ?_)
  obtain ⟨z2, rfl, h⟩ := hq
  refine k_istore cx1 dL_law_443 (by decide) ?_
  refine k_aload_n cx1 dL_law_445 rfl rfl ?_
  refine k_aload_n cx1 dL_law_446 rfl rfl ?_
  refine k_iload cx1 dL_law_447 rfl ?_
  refine k_iconst (v := (1 : Int32)) cx1 dL_law_449 (by decide +kernel) ?_
  refine k_iadd cx1 dL_law_450 ?_
  obtain ⟨hi, h⟩ := h
  refine k_sld cx1 lx hi dL_law_451 ?_
  refine k_aload_n cx1 dL_law_452 rfl rfl ?_
  refine k_iload cx1 dL_law_453 rfl ?_
  refine k_iconst (v := (2 : Int32)) cx1 dL_law_455 (by decide +kernel) ?_
  refine k_iadd cx1 dL_law_456 ?_
  obtain ⟨hi, h⟩ := h
  refine k_sld cx1 lx hi dL_law_457 ?_
  refine k_aload_n cx1 dL_law_458 rfl rfl ?_
  refine k_iload cx1 dL_law_459 rfl ?_
  refine k_iconst (v := (3 : Int32)) cx1 dL_law_461 (by decide +kernel) ?_
  refine k_iadd cx1 dL_law_462 ?_
  obtain ⟨hi, h⟩ := h
  refine k_sld cx1 lx hi dL_law_463 ?_
  refine k_callV (As := [.int (xs ((x4 + (1 : Int32))).toNatClampNeg), .int (xs ((x4 + (2 : Int32))).toNatClampNeg), .int (xs ((x4 + (3 : Int32))).toNatClampNeg)]) (rest := []) cx1 (m_X8_line h) cv_L_93 ob_MO rfl rfl rfl rfl (Nat.le_of_ble_eq_true rfl) ⟨Nat.le_of_ble_eq_true rfl, Nat.le_of_ble_eq_true rfl⟩ dL_law_464 (fun v μ3 hq => ?_)
  obtain ⟨z4, rfl, h⟩ := hq
  refine k_istore cx1 dL_law_467 (by decide) ?_
  refine k_aload_n cx1 dL_law_469 rfl rfl ?_
  refine k_callV (As := []) (rest := []) cx1 (m_X8_thrown h) cv_L_75 ob_MO rfl rfl rfl rfl (Nat.le_of_ble_eq_true rfl) ⟨Nat.le_of_ble_eq_true rfl, Nat.le_of_ble_eq_true rfl⟩ dL_law_470 (fun v μ5 hq => ?_)
  obtain ⟨z6, rfl, h⟩ := hq
  refine k_iload cx1 dL_law_473 rfl ?_
  refine k_icmp_eq (tgt := 480) cx1 dL_law_475 (by decide) (fun hc => ?_) (fun hc => ?_)
  · replace h := h.1 hc
    refine k_iload cx1 dL_law_480 rfl ?_
    refine k_if_ne (tgt := 497) cx1 dL_law_482 (by decide) (fun hc => ?_) (fun hc => ?_)
    · replace h := h.1 hc
      refine k_goto (tgt := 1225) cx1 dL_law_497 (by decide) ?_
      refine k_iinc (v := (x4 + (4 : Int32))) cx1 dL_law_1225 rfl rfl (by decide) ?_
      refine k_goto (tgt := 23) cx1 dL_law_1228 (by decide) ?_
      exact k_widen (by omega) (by omega) (k_weak h (lsLe.keep (lsLe.keep (lsLe.keep (lsLe.keep (lsLe.keep (lsLe.drop (lsLe.drop lsLe.nil))))))))
    · replace h := h.2 hc
      refine k_aload_n cx1 dL_law_485 rfl rfl ?_
      refine k_iconst (v := (0 : Int32)) cx1 dL_law_486 (by decide +kernel) ?_
      refine k_lald cx1 ar_OUT vp_00 dL_law_487 ?_
      refine k_iload cx1 dL_law_488 rfl ?_
      refine k_i2l cx1 dL_law_490 ?_
      refine k_lcmp cx1 dL_law_491 ?_
      refine k_if_eq (tgt := 497) cx1 dL_law_492 (by decide) (fun hc => ?_) (fun hc => ?_)
      · replace h := h.1 hc
        refine k_goto (tgt := 1225) cx1 dL_law_497 (by decide) ?_
        refine k_iinc (v := (x4 + (4 : Int32))) cx1 dL_law_1225 rfl rfl (by decide) ?_
        refine k_goto (tgt := 23) cx1 dL_law_1228 (by decide) ?_
        exact k_widen (by omega) (by omega) (k_weak h (lsLe.keep (lsLe.keep (lsLe.keep (lsLe.keep (lsLe.keep (lsLe.drop (lsLe.drop lsLe.nil))))))))
      · replace h := h.2 hc
        refine k_iconst (v := (0 : Int32)) cx1 dL_law_495 (by decide +kernel) ?_
        exact h.elim
  · replace h := h.2 hc
    refine k_iconst (v := (0 : Int32)) cx1 dL_law_478 (by decide +kernel) ?_
    exact h.elim
def F_law_5 (K : Int32 → Mm → Prop) (L : Nat) (xs : Nat → Int32) (x4 : Int32) (μ : Mm) : Prop :=
  Wp_X7_clear  μ (fun z2 μ1 => Wp_X8_clear  μ1 (fun z4 μ3 => ((z2 = z4 → K (x4 + (4 : Int32)) μ3) ∧ (¬ (z2 = z4) → False))))
set_option maxHeartbeats 2000000 in
theorem b_law_5 {g : GE} {f : FE} {b L : Nat} {xs : Nat → Int32} (lx : LX g f b L xs) {kc ks : Nat} (cx : Cx g f code 7 "MeshLodgerLaw" 2048 84000 kc ks) (cx1 : Cx g f code 7 "MeshLodgerLaw" 2048 84000 (kc + 1) (ks + 6)) (hk : kc + 1 ≤ 619652) (hs : ks + 6 ≤ 7237147) {x4 : Int32} {μ : Mm} (h : F_law_5 (fun y μ2 => KW g f 7 (kc + 1) (ks + 6) 23 [some (.ref p_SCR), some (.ref p_ML), some (.ref p_MO), some (.ref p_OUT), some (.int y), none, none] [] μ2) L xs x4 μ) : KW g f 7 kc ks 500 [some (.ref p_SCR), some (.ref p_ML), some (.ref p_MO), some (.ref p_OUT), some (.int x4), none, none] [] μ := by
  unfold F_law_5 at h
  refine k_aload_n cx dL_law_500 rfl rfl ?_
  refine k_callV (As := []) (rest := []) cx (m_X7_clear h) cv_L_94 ob_ML rfl rfl rfl rfl (Nat.le_of_ble_eq_true rfl) ⟨Nat.le_of_ble_eq_true rfl, Nat.le_of_ble_eq_true rfl⟩ dL_law_501 (fun v μ1 hq => ?_)
  obtain ⟨z2, rfl, h⟩ := hq
  refine k_aload_n cx dL_law_504 rfl rfl ?_
  refine k_callV (As := []) (rest := [.int z2]) cx (m_X8_clear h) cv_L_97 ob_MO rfl rfl rfl rfl (Nat.le_of_ble_eq_true rfl) ⟨Nat.le_of_ble_eq_true rfl, Nat.le_of_ble_eq_true rfl⟩ dL_law_505 (fun v μ3 hq => ?_)
  obtain ⟨z4, rfl, h⟩ := hq
  refine k_icmp_eq (tgt := 1225) cx dL_law_508 (by decide) (fun hc => ?_) (fun hc => ?_)
  · replace h := h.1 hc
    refine k_iinc (v := (x4 + (4 : Int32))) cx dL_law_1225 rfl rfl (by decide) ?_
    refine k_goto (tgt := 23) cx dL_law_1228 (by decide) ?_
    exact k_widen (by omega) (by omega) (k_weak h (lsLe.keep (lsLe.keep (lsLe.keep (lsLe.keep (lsLe.keep (lsLe.keep (lsLe.keep lsLe.nil))))))))
  · replace h := h.2 hc
    refine k_iconst (v := (0 : Int32)) cx dL_law_511 (by decide +kernel) ?_
    exact h.elim
def F_law_6 (K : Int32 → Mm → Prop) (L : Nat) (xs : Nat → Int32) (x4 : Int32) (μ : Mm) : Prop :=
  vp_in (x4 + (1 : Int32)) L ∧ vp_in (x4 + (2 : Int32)) L ∧ Wp_L_place (xs ((x4 + (1 : Int32))).toNatClampNeg) (xs ((x4 + (2 : Int32))).toNatClampNeg) μ (fun z2 μ1 => vp_in (x4 + (1 : Int32)) L ∧ vp_in (x4 + (2 : Int32)) L ∧ Wp_X8_place (xs ((x4 + (1 : Int32))).toNatClampNeg) (xs ((x4 + (2 : Int32))).toNatClampNeg) μ1 (fun z4 μ3 => Wp_X8_thrown  μ3 (fun z6 μ5 => ((z6 = z2 → ((¬ (z2 = 0) → K (x4 + (4 : Int32)) μ5) ∧ (z2 = 0 → (((lg_cmp ((μ5 p_OUT 0).toInt64) (z4.toInt64)) = 0 → K (x4 + (4 : Int32)) μ5) ∧ (¬ ((lg_cmp ((μ5 p_OUT 0).toInt64) (z4.toInt64)) = 0) → False))))) ∧ (¬ (z6 = z2) → False)))))
set_option maxHeartbeats 2000000 in
theorem b_law_6 {g : GE} {f : FE} {b L : Nat} {xs : Nat → Int32} (lx : LX g f b L xs) {kc ks : Nat} (cx : Cx g f code 7 "MeshLodgerLaw" 2048 84000 kc ks) (cx1 : Cx g f code 7 "MeshLodgerLaw" 2048 84000 (kc + 1) (ks + 6)) (hk : kc + 1 ≤ 619652) (hs : ks + 6 ≤ 7237147) {x4 : Int32} {μ : Mm} (h : F_law_6 (fun y μ2 => KW g f 7 (kc + 1) (ks + 6) 23 [some (.ref p_SCR), some (.ref p_ML), some (.ref p_MO), some (.ref p_OUT), some (.int y), none, none] [] μ2) L xs x4 μ) : KW g f 7 kc ks 513 [some (.ref p_SCR), some (.ref p_ML), some (.ref p_MO), some (.ref p_OUT), some (.int x4), none, none] [] μ := by
  unfold F_law_6 at h
  refine k_aload_n cx dL_law_513 rfl rfl ?_
  refine k_aload_n cx dL_law_514 rfl rfl ?_
  refine k_iload cx dL_law_515 rfl ?_
  refine k_iconst (v := (1 : Int32)) cx dL_law_517 (by decide +kernel) ?_
  refine k_iadd cx dL_law_518 ?_
  obtain ⟨hi, h⟩ := h
  refine k_sld cx lx hi dL_law_519 ?_
  refine k_aload_n cx dL_law_520 rfl rfl ?_
  refine k_iload cx dL_law_521 rfl ?_
  refine k_iconst (v := (2 : Int32)) cx dL_law_523 (by decide +kernel) ?_
  refine k_iadd cx dL_law_524 ?_
  obtain ⟨hi, h⟩ := h
  refine k_sld cx lx hi dL_law_525 ?_
  refine k_aload_n cx dL_law_526 rfl rfl ?_
  refine k_callH (As := [.ref p_ML, .int (xs ((x4 + (1 : Int32))).toNatClampNeg), .int (xs ((x4 + (2 : Int32))).toNatClampNeg), .ref p_OUT]) (rest := []) cx lx hk hs (m_L_place lx.2.2.1 h) ch_L_place rfl rfl (Nat.le_of_ble_eq_true rfl) ⟨Nat.le_of_ble_eq_true rfl, Nat.le_of_ble_eq_true rfl⟩ dL_law_527 (fun v μ1 hq => ?_)
  obtain ⟨z2, rfl, h⟩ := hq
  refine k_istore cx1 dL_law_530 (by decide) ?_
  refine k_aload_n cx1 dL_law_532 rfl rfl ?_
  refine k_aload_n cx1 dL_law_533 rfl rfl ?_
  refine k_iload cx1 dL_law_534 rfl ?_
  refine k_iconst (v := (1 : Int32)) cx1 dL_law_536 (by decide +kernel) ?_
  refine k_iadd cx1 dL_law_537 ?_
  obtain ⟨hi, h⟩ := h
  refine k_sld cx1 lx hi dL_law_538 ?_
  refine k_aload_n cx1 dL_law_539 rfl rfl ?_
  refine k_iload cx1 dL_law_540 rfl ?_
  refine k_iconst (v := (2 : Int32)) cx1 dL_law_542 (by decide +kernel) ?_
  refine k_iadd cx1 dL_law_543 ?_
  obtain ⟨hi, h⟩ := h
  refine k_sld cx1 lx hi dL_law_544 ?_
  refine k_callV (As := [.int (xs ((x4 + (1 : Int32))).toNatClampNeg), .int (xs ((x4 + (2 : Int32))).toNatClampNeg)]) (rest := []) cx1 (m_X8_place h) cv_L_100 ob_MO rfl rfl rfl rfl (Nat.le_of_ble_eq_true rfl) ⟨Nat.le_of_ble_eq_true rfl, Nat.le_of_ble_eq_true rfl⟩ dL_law_545 (fun v μ3 hq => ?_)
  obtain ⟨z4, rfl, h⟩ := hq
  refine k_istore cx1 dL_law_548 (by decide) ?_
  refine k_aload_n cx1 dL_law_550 rfl rfl ?_
  refine k_callV (As := []) (rest := []) cx1 (m_X8_thrown h) cv_L_75 ob_MO rfl rfl rfl rfl (Nat.le_of_ble_eq_true rfl) ⟨Nat.le_of_ble_eq_true rfl, Nat.le_of_ble_eq_true rfl⟩ dL_law_551 (fun v μ5 hq => ?_)
  obtain ⟨z6, rfl, h⟩ := hq
  refine k_iload cx1 dL_law_554 rfl ?_
  refine k_icmp_eq (tgt := 561) cx1 dL_law_556 (by decide) (fun hc => ?_) (fun hc => ?_)
  · replace h := h.1 hc
    refine k_iload cx1 dL_law_561 rfl ?_
    refine k_if_ne (tgt := 578) cx1 dL_law_563 (by decide) (fun hc => ?_) (fun hc => ?_)
    · replace h := h.1 hc
      refine k_goto (tgt := 1225) cx1 dL_law_578 (by decide) ?_
      refine k_iinc (v := (x4 + (4 : Int32))) cx1 dL_law_1225 rfl rfl (by decide) ?_
      refine k_goto (tgt := 23) cx1 dL_law_1228 (by decide) ?_
      exact k_widen (by omega) (by omega) (k_weak h (lsLe.keep (lsLe.keep (lsLe.keep (lsLe.keep (lsLe.keep (lsLe.drop (lsLe.drop lsLe.nil))))))))
    · replace h := h.2 hc
      refine k_aload_n cx1 dL_law_566 rfl rfl ?_
      refine k_iconst (v := (0 : Int32)) cx1 dL_law_567 (by decide +kernel) ?_
      refine k_lald cx1 ar_OUT vp_00 dL_law_568 ?_
      refine k_iload cx1 dL_law_569 rfl ?_
      refine k_i2l cx1 dL_law_571 ?_
      refine k_lcmp cx1 dL_law_572 ?_
      refine k_if_eq (tgt := 578) cx1 dL_law_573 (by decide) (fun hc => ?_) (fun hc => ?_)
      · replace h := h.1 hc
        refine k_goto (tgt := 1225) cx1 dL_law_578 (by decide) ?_
        refine k_iinc (v := (x4 + (4 : Int32))) cx1 dL_law_1225 rfl rfl (by decide) ?_
        refine k_goto (tgt := 23) cx1 dL_law_1228 (by decide) ?_
        exact k_widen (by omega) (by omega) (k_weak h (lsLe.keep (lsLe.keep (lsLe.keep (lsLe.keep (lsLe.keep (lsLe.drop (lsLe.drop lsLe.nil))))))))
      · replace h := h.2 hc
        refine k_iconst (v := (0 : Int32)) cx1 dL_law_576 (by decide +kernel) ?_
        exact h.elim
  · replace h := h.2 hc
    refine k_iconst (v := (0 : Int32)) cx1 dL_law_559 (by decide +kernel) ?_
    exact h.elim
def F_law_7 (K : Int32 → Mm → Prop) (L : Nat) (xs : Nat → Int32) (x4 : Int32) (μ : Mm) : Prop :=
  vp_in (x4 + (1 : Int32)) L ∧ Wp_L_end (xs ((x4 + (1 : Int32))).toNatClampNeg) μ (fun z2 μ1 => vp_in (x4 + (1 : Int32)) L ∧ Wp_X8_end_ (xs ((x4 + (1 : Int32))).toNatClampNeg) μ1 (fun μ3 => Wp_X8_thrown  μ3 (fun z5 μ4 => ((z5 = z2 → K (x4 + (4 : Int32)) μ4) ∧ (¬ (z5 = z2) → False)))))
set_option maxHeartbeats 2000000 in
theorem b_law_7 {g : GE} {f : FE} {b L : Nat} {xs : Nat → Int32} (lx : LX g f b L xs) {kc ks : Nat} (cx : Cx g f code 7 "MeshLodgerLaw" 2048 84000 kc ks) (cx1 : Cx g f code 7 "MeshLodgerLaw" 2048 84000 (kc + 1) (ks + 6)) (hk : kc + 1 ≤ 619652) (hs : ks + 6 ≤ 7237147) {x4 : Int32} {μ : Mm} (h : F_law_7 (fun y μ2 => KW g f 7 (kc + 1) (ks + 6) 23 [some (.ref p_SCR), some (.ref p_ML), some (.ref p_MO), some (.ref p_OUT), some (.int y), none, none] [] μ2) L xs x4 μ) : KW g f 7 kc ks 581 [some (.ref p_SCR), some (.ref p_ML), some (.ref p_MO), some (.ref p_OUT), some (.int x4), none, none] [] μ := by
  unfold F_law_7 at h
  refine k_aload_n cx dL_law_581 rfl rfl ?_
  refine k_aload_n cx dL_law_582 rfl rfl ?_
  refine k_iload cx dL_law_583 rfl ?_
  refine k_iconst (v := (1 : Int32)) cx dL_law_585 (by decide +kernel) ?_
  refine k_iadd cx dL_law_586 ?_
  obtain ⟨hi, h⟩ := h
  refine k_sld cx lx hi dL_law_587 ?_
  refine k_callH (As := [.ref p_ML, .int (xs ((x4 + (1 : Int32))).toNatClampNeg)]) (rest := []) cx lx hk hs (m_L_end lx.2.2.1 h) ch_L_end rfl rfl (Nat.le_of_ble_eq_true rfl) ⟨Nat.le_of_ble_eq_true rfl, Nat.le_of_ble_eq_true rfl⟩ dL_law_588 (fun v μ1 hq => ?_)
  obtain ⟨z2, rfl, h⟩ := hq
  refine k_istore cx1 dL_law_591 (by decide) ?_
  refine k_aload_n cx1 dL_law_593 rfl rfl ?_
  refine k_aload_n cx1 dL_law_594 rfl rfl ?_
  refine k_iload cx1 dL_law_595 rfl ?_
  refine k_iconst (v := (1 : Int32)) cx1 dL_law_597 (by decide +kernel) ?_
  refine k_iadd cx1 dL_law_598 ?_
  obtain ⟨hi, h⟩ := h
  refine k_sld cx1 lx hi dL_law_599 ?_
  refine k_callV (As := [.int (xs ((x4 + (1 : Int32))).toNatClampNeg)]) (rest := []) cx1 (m_X8_end_ h) cv_L_104 ob_MO rfl rfl rfl rfl (Nat.le_of_ble_eq_true rfl) ⟨Nat.le_of_ble_eq_true rfl, Nat.le_of_ble_eq_true rfl⟩ dL_law_600 (fun v μ3 hq => ?_)
  obtain ⟨rfl, h⟩ := hq
  refine k_aload_n cx1 dL_law_603 rfl rfl ?_
  refine k_callV (As := []) (rest := []) cx1 (m_X8_thrown h) cv_L_75 ob_MO rfl rfl rfl rfl (Nat.le_of_ble_eq_true rfl) ⟨Nat.le_of_ble_eq_true rfl, Nat.le_of_ble_eq_true rfl⟩ dL_law_604 (fun v μ4 hq => ?_)
  obtain ⟨z5, rfl, h⟩ := hq
  refine k_iload cx1 dL_law_607 rfl ?_
  refine k_icmp_eq (tgt := 614) cx1 dL_law_609 (by decide) (fun hc => ?_) (fun hc => ?_)
  · replace h := h.1 hc
    refine k_goto (tgt := 1225) cx1 dL_law_614 (by decide) ?_
    refine k_iinc (v := (x4 + (4 : Int32))) cx1 dL_law_1225 rfl rfl (by decide) ?_
    refine k_goto (tgt := 23) cx1 dL_law_1228 (by decide) ?_
    exact k_widen (by omega) (by omega) (k_weak h (lsLe.keep (lsLe.keep (lsLe.keep (lsLe.keep (lsLe.keep (lsLe.drop (lsLe.keep lsLe.nil))))))))
  · replace h := h.2 hc
    refine k_iconst (v := (0 : Int32)) cx1 dL_law_612 (by decide +kernel) ?_
    exact h.elim
def F_law_8 (K : Int32 → Mm → Prop) (L : Nat) (xs : Nat → Int32) (x4 : Int32) (μ : Mm) : Prop :=
  vp_in (x4 + (1 : Int32)) L ∧ vp_in (x4 + (2 : Int32)) L ∧ vp_in (x4 + (3 : Int32)) L ∧ Wp_L_move (xs ((x4 + (1 : Int32))).toNatClampNeg) (xs ((x4 + (2 : Int32))).toNatClampNeg) (xs ((x4 + (3 : Int32))).toNatClampNeg) μ (fun z2 μ1 => vp_in (x4 + (1 : Int32)) L ∧ vp_in (x4 + (2 : Int32)) L ∧ vp_in (x4 + (3 : Int32)) L ∧ Wp_X8_move (xs ((x4 + (1 : Int32))).toNatClampNeg) (xs ((x4 + (2 : Int32))).toNatClampNeg) (xs ((x4 + (3 : Int32))).toNatClampNeg) μ1 (fun z4 μ3 => Wp_X8_thrown  μ3 (fun z6 μ5 => ((z6 = z2 → ((¬ (z2 = 0) → K (x4 + (4 : Int32)) μ5) ∧ (z2 = 0 → (((lg_cmp ((μ5 p_OUT 0).toInt64) (z4.toInt64)) = 0 → K (x4 + (4 : Int32)) μ5) ∧ (¬ ((lg_cmp ((μ5 p_OUT 0).toInt64) (z4.toInt64)) = 0) → False))))) ∧ (¬ (z6 = z2) → False)))))
set_option maxHeartbeats 2000000 in
theorem b_law_8 {g : GE} {f : FE} {b L : Nat} {xs : Nat → Int32} (lx : LX g f b L xs) {kc ks : Nat} (cx : Cx g f code 7 "MeshLodgerLaw" 2048 84000 kc ks) (cx1 : Cx g f code 7 "MeshLodgerLaw" 2048 84000 (kc + 1) (ks + 6)) (hk : kc + 1 ≤ 619652) (hs : ks + 6 ≤ 7237147) {x4 : Int32} {μ : Mm} (h : F_law_8 (fun y μ2 => KW g f 7 (kc + 1) (ks + 6) 23 [some (.ref p_SCR), some (.ref p_ML), some (.ref p_MO), some (.ref p_OUT), some (.int y), none, none] [] μ2) L xs x4 μ) : KW g f 7 kc ks 617 [some (.ref p_SCR), some (.ref p_ML), some (.ref p_MO), some (.ref p_OUT), some (.int x4), none, none] [] μ := by
  unfold F_law_8 at h
  refine k_aload_n cx dL_law_617 rfl rfl ?_
  refine k_aload_n cx dL_law_618 rfl rfl ?_
  refine k_iload cx dL_law_619 rfl ?_
  refine k_iconst (v := (1 : Int32)) cx dL_law_621 (by decide +kernel) ?_
  refine k_iadd cx dL_law_622 ?_
  obtain ⟨hi, h⟩ := h
  refine k_sld cx lx hi dL_law_623 ?_
  refine k_aload_n cx dL_law_624 rfl rfl ?_
  refine k_iload cx dL_law_625 rfl ?_
  refine k_iconst (v := (2 : Int32)) cx dL_law_627 (by decide +kernel) ?_
  refine k_iadd cx dL_law_628 ?_
  obtain ⟨hi, h⟩ := h
  refine k_sld cx lx hi dL_law_629 ?_
  refine k_aload_n cx dL_law_630 rfl rfl ?_
  refine k_iload cx dL_law_631 rfl ?_
  refine k_iconst (v := (3 : Int32)) cx dL_law_633 (by decide +kernel) ?_
  refine k_iadd cx dL_law_634 ?_
  obtain ⟨hi, h⟩ := h
  refine k_sld cx lx hi dL_law_635 ?_
  refine k_aload_n cx dL_law_636 rfl rfl ?_
  refine k_callH (As := [.ref p_ML, .int (xs ((x4 + (1 : Int32))).toNatClampNeg), .int (xs ((x4 + (2 : Int32))).toNatClampNeg), .int (xs ((x4 + (3 : Int32))).toNatClampNeg), .ref p_OUT]) (rest := []) cx lx hk hs (m_L_move lx.2.2.1 h) ch_L_move rfl rfl (Nat.le_of_ble_eq_true rfl) ⟨Nat.le_of_ble_eq_true rfl, Nat.le_of_ble_eq_true rfl⟩ dL_law_637 (fun v μ1 hq => ?_)
  obtain ⟨z2, rfl, h⟩ := hq
  refine k_istore cx1 dL_law_640 (by decide) ?_
  refine k_aload_n cx1 dL_law_642 rfl rfl ?_
  refine k_aload_n cx1 dL_law_643 rfl rfl ?_
  refine k_iload cx1 dL_law_644 rfl ?_
  refine k_iconst (v := (1 : Int32)) cx1 dL_law_646 (by decide +kernel) ?_
  refine k_iadd cx1 dL_law_647 ?_
  obtain ⟨hi, h⟩ := h
  refine k_sld cx1 lx hi dL_law_648 ?_
  refine k_aload_n cx1 dL_law_649 rfl rfl ?_
  refine k_iload cx1 dL_law_650 rfl ?_
  refine k_iconst (v := (2 : Int32)) cx1 dL_law_652 (by decide +kernel) ?_
  refine k_iadd cx1 dL_law_653 ?_
  obtain ⟨hi, h⟩ := h
  refine k_sld cx1 lx hi dL_law_654 ?_
  refine k_aload_n cx1 dL_law_655 rfl rfl ?_
  refine k_iload cx1 dL_law_656 rfl ?_
  refine k_iconst (v := (3 : Int32)) cx1 dL_law_658 (by decide +kernel) ?_
  refine k_iadd cx1 dL_law_659 ?_
  obtain ⟨hi, h⟩ := h
  refine k_sld cx1 lx hi dL_law_660 ?_
  refine k_callV (As := [.int (xs ((x4 + (1 : Int32))).toNatClampNeg), .int (xs ((x4 + (2 : Int32))).toNatClampNeg), .int (xs ((x4 + (3 : Int32))).toNatClampNeg)]) (rest := []) cx1 (m_X8_move h) cv_L_107 ob_MO rfl rfl rfl rfl (Nat.le_of_ble_eq_true rfl) ⟨Nat.le_of_ble_eq_true rfl, Nat.le_of_ble_eq_true rfl⟩ dL_law_661 (fun v μ3 hq => ?_)
  obtain ⟨z4, rfl, h⟩ := hq
  refine k_istore cx1 dL_law_664 (by decide) ?_
  refine k_aload_n cx1 dL_law_666 rfl rfl ?_
  refine k_callV (As := []) (rest := []) cx1 (m_X8_thrown h) cv_L_75 ob_MO rfl rfl rfl rfl (Nat.le_of_ble_eq_true rfl) ⟨Nat.le_of_ble_eq_true rfl, Nat.le_of_ble_eq_true rfl⟩ dL_law_667 (fun v μ5 hq => ?_)
  obtain ⟨z6, rfl, h⟩ := hq
  refine k_iload cx1 dL_law_670 rfl ?_
  refine k_icmp_eq (tgt := 677) cx1 dL_law_672 (by decide) (fun hc => ?_) (fun hc => ?_)
  · replace h := h.1 hc
    refine k_iload cx1 dL_law_677 rfl ?_
    refine k_if_ne (tgt := 694) cx1 dL_law_679 (by decide) (fun hc => ?_) (fun hc => ?_)
    · replace h := h.1 hc
      refine k_goto (tgt := 1225) cx1 dL_law_694 (by decide) ?_
      refine k_iinc (v := (x4 + (4 : Int32))) cx1 dL_law_1225 rfl rfl (by decide) ?_
      refine k_goto (tgt := 23) cx1 dL_law_1228 (by decide) ?_
      exact k_widen (by omega) (by omega) (k_weak h (lsLe.keep (lsLe.keep (lsLe.keep (lsLe.keep (lsLe.keep (lsLe.drop (lsLe.drop lsLe.nil))))))))
    · replace h := h.2 hc
      refine k_aload_n cx1 dL_law_682 rfl rfl ?_
      refine k_iconst (v := (0 : Int32)) cx1 dL_law_683 (by decide +kernel) ?_
      refine k_lald cx1 ar_OUT vp_00 dL_law_684 ?_
      refine k_iload cx1 dL_law_685 rfl ?_
      refine k_i2l cx1 dL_law_687 ?_
      refine k_lcmp cx1 dL_law_688 ?_
      refine k_if_eq (tgt := 694) cx1 dL_law_689 (by decide) (fun hc => ?_) (fun hc => ?_)
      · replace h := h.1 hc
        refine k_goto (tgt := 1225) cx1 dL_law_694 (by decide) ?_
        refine k_iinc (v := (x4 + (4 : Int32))) cx1 dL_law_1225 rfl rfl (by decide) ?_
        refine k_goto (tgt := 23) cx1 dL_law_1228 (by decide) ?_
        exact k_widen (by omega) (by omega) (k_weak h (lsLe.keep (lsLe.keep (lsLe.keep (lsLe.keep (lsLe.keep (lsLe.drop (lsLe.drop lsLe.nil))))))))
      · replace h := h.2 hc
        refine k_iconst (v := (0 : Int32)) cx1 dL_law_692 (by decide +kernel) ?_
        exact h.elim
  · replace h := h.2 hc
    refine k_iconst (v := (0 : Int32)) cx1 dL_law_675 (by decide +kernel) ?_
    exact h.elim
def F_law_9 (K : Int32 → Mm → Prop) (L : Nat) (xs : Nat → Int32) (x4 : Int32) (μ : Mm) : Prop :=
  vp_in (x4 + (1 : Int32)) L ∧ Wp_L_pass (xs ((x4 + (1 : Int32))).toNatClampNeg) μ (fun z2 μ1 => vp_in (x4 + (1 : Int32)) L ∧ Wp_X8_pass (xs ((x4 + (1 : Int32))).toNatClampNeg) μ1 (fun z4 μ3 => Wp_X8_thrown  μ3 (fun z6 μ5 => ((z6 = z2 → ((¬ (z2 = 0) → K (x4 + (4 : Int32)) μ5) ∧ (z2 = 0 → (((lg_cmp ((μ5 p_OUT 0).toInt64) (z4.toInt64)) = 0 → K (x4 + (4 : Int32)) μ5) ∧ (¬ ((lg_cmp ((μ5 p_OUT 0).toInt64) (z4.toInt64)) = 0) → False))))) ∧ (¬ (z6 = z2) → False)))))
set_option maxHeartbeats 2000000 in
theorem b_law_9 {g : GE} {f : FE} {b L : Nat} {xs : Nat → Int32} (lx : LX g f b L xs) {kc ks : Nat} (cx : Cx g f code 7 "MeshLodgerLaw" 2048 84000 kc ks) (cx1 : Cx g f code 7 "MeshLodgerLaw" 2048 84000 (kc + 1) (ks + 6)) (hk : kc + 1 ≤ 619652) (hs : ks + 6 ≤ 7237147) {x4 : Int32} {μ : Mm} (h : F_law_9 (fun y μ2 => KW g f 7 (kc + 1) (ks + 6) 23 [some (.ref p_SCR), some (.ref p_ML), some (.ref p_MO), some (.ref p_OUT), some (.int y), none, none] [] μ2) L xs x4 μ) : KW g f 7 kc ks 697 [some (.ref p_SCR), some (.ref p_ML), some (.ref p_MO), some (.ref p_OUT), some (.int x4), none, none] [] μ := by
  unfold F_law_9 at h
  refine k_aload_n cx dL_law_697 rfl rfl ?_
  refine k_aload_n cx dL_law_698 rfl rfl ?_
  refine k_iload cx dL_law_699 rfl ?_
  refine k_iconst (v := (1 : Int32)) cx dL_law_701 (by decide +kernel) ?_
  refine k_iadd cx dL_law_702 ?_
  obtain ⟨hi, h⟩ := h
  refine k_sld cx lx hi dL_law_703 ?_
  refine k_aload_n cx dL_law_704 rfl rfl ?_
  refine k_callH (As := [.ref p_ML, .int (xs ((x4 + (1 : Int32))).toNatClampNeg), .ref p_OUT]) (rest := []) cx lx hk hs (m_L_pass lx.2.2.1 h) ch_L_pass rfl rfl (Nat.le_of_ble_eq_true rfl) ⟨Nat.le_of_ble_eq_true rfl, Nat.le_of_ble_eq_true rfl⟩ dL_law_705 (fun v μ1 hq => ?_)
  obtain ⟨z2, rfl, h⟩ := hq
  refine k_istore cx1 dL_law_708 (by decide) ?_
  refine k_aload_n cx1 dL_law_710 rfl rfl ?_
  refine k_aload_n cx1 dL_law_711 rfl rfl ?_
  refine k_iload cx1 dL_law_712 rfl ?_
  refine k_iconst (v := (1 : Int32)) cx1 dL_law_714 (by decide +kernel) ?_
  refine k_iadd cx1 dL_law_715 ?_
  obtain ⟨hi, h⟩ := h
  refine k_sld cx1 lx hi dL_law_716 ?_
  refine k_callV (As := [.int (xs ((x4 + (1 : Int32))).toNatClampNeg)]) (rest := []) cx1 (m_X8_pass h) cv_L_110 ob_MO rfl rfl rfl rfl (Nat.le_of_ble_eq_true rfl) ⟨Nat.le_of_ble_eq_true rfl, Nat.le_of_ble_eq_true rfl⟩ dL_law_717 (fun v μ3 hq => ?_)
  obtain ⟨z4, rfl, h⟩ := hq
  refine k_istore cx1 dL_law_720 (by decide) ?_
  refine k_aload_n cx1 dL_law_722 rfl rfl ?_
  refine k_callV (As := []) (rest := []) cx1 (m_X8_thrown h) cv_L_75 ob_MO rfl rfl rfl rfl (Nat.le_of_ble_eq_true rfl) ⟨Nat.le_of_ble_eq_true rfl, Nat.le_of_ble_eq_true rfl⟩ dL_law_723 (fun v μ5 hq => ?_)
  obtain ⟨z6, rfl, h⟩ := hq
  refine k_iload cx1 dL_law_726 rfl ?_
  refine k_icmp_eq (tgt := 733) cx1 dL_law_728 (by decide) (fun hc => ?_) (fun hc => ?_)
  · replace h := h.1 hc
    refine k_iload cx1 dL_law_733 rfl ?_
    refine k_if_ne (tgt := 750) cx1 dL_law_735 (by decide) (fun hc => ?_) (fun hc => ?_)
    · replace h := h.1 hc
      refine k_goto (tgt := 1225) cx1 dL_law_750 (by decide) ?_
      refine k_iinc (v := (x4 + (4 : Int32))) cx1 dL_law_1225 rfl rfl (by decide) ?_
      refine k_goto (tgt := 23) cx1 dL_law_1228 (by decide) ?_
      exact k_widen (by omega) (by omega) (k_weak h (lsLe.keep (lsLe.keep (lsLe.keep (lsLe.keep (lsLe.keep (lsLe.drop (lsLe.drop lsLe.nil))))))))
    · replace h := h.2 hc
      refine k_aload_n cx1 dL_law_738 rfl rfl ?_
      refine k_iconst (v := (0 : Int32)) cx1 dL_law_739 (by decide +kernel) ?_
      refine k_lald cx1 ar_OUT vp_00 dL_law_740 ?_
      refine k_iload cx1 dL_law_741 rfl ?_
      refine k_i2l cx1 dL_law_743 ?_
      refine k_lcmp cx1 dL_law_744 ?_
      refine k_if_eq (tgt := 750) cx1 dL_law_745 (by decide) (fun hc => ?_) (fun hc => ?_)
      · replace h := h.1 hc
        refine k_goto (tgt := 1225) cx1 dL_law_750 (by decide) ?_
        refine k_iinc (v := (x4 + (4 : Int32))) cx1 dL_law_1225 rfl rfl (by decide) ?_
        refine k_goto (tgt := 23) cx1 dL_law_1228 (by decide) ?_
        exact k_widen (by omega) (by omega) (k_weak h (lsLe.keep (lsLe.keep (lsLe.keep (lsLe.keep (lsLe.keep (lsLe.drop (lsLe.drop lsLe.nil))))))))
      · replace h := h.2 hc
        refine k_iconst (v := (0 : Int32)) cx1 dL_law_748 (by decide +kernel) ?_
        exact h.elim
  · replace h := h.2 hc
    refine k_iconst (v := (0 : Int32)) cx1 dL_law_731 (by decide +kernel) ?_
    exact h.elim
def F_law_10 (K : Int32 → Mm → Prop) (L : Nat) (xs : Nat → Int32) (x4 : Int32) (μ : Mm) : Prop :=
  Wp_X7_now  μ (fun z2 μ1 => Wp_X8_now  μ1 (fun z4 μ3 => ((z2 = z4 → K (x4 + (4 : Int32)) μ3) ∧ (¬ (z2 = z4) → False))))
set_option maxHeartbeats 2000000 in
theorem b_law_10 {g : GE} {f : FE} {b L : Nat} {xs : Nat → Int32} (lx : LX g f b L xs) {kc ks : Nat} (cx : Cx g f code 7 "MeshLodgerLaw" 2048 84000 kc ks) (cx1 : Cx g f code 7 "MeshLodgerLaw" 2048 84000 (kc + 1) (ks + 6)) (hk : kc + 1 ≤ 619652) (hs : ks + 6 ≤ 7237147) {x4 : Int32} {μ : Mm} (h : F_law_10 (fun y μ2 => KW g f 7 (kc + 1) (ks + 6) 23 [some (.ref p_SCR), some (.ref p_ML), some (.ref p_MO), some (.ref p_OUT), some (.int y), none, none] [] μ2) L xs x4 μ) : KW g f 7 kc ks 753 [some (.ref p_SCR), some (.ref p_ML), some (.ref p_MO), some (.ref p_OUT), some (.int x4), none, none] [] μ := by
  unfold F_law_10 at h
  refine k_aload_n cx dL_law_753 rfl rfl ?_
  refine k_callV (As := []) (rest := []) cx (m_X7_now h) cv_L_111 ob_ML rfl rfl rfl rfl (Nat.le_of_ble_eq_true rfl) ⟨Nat.le_of_ble_eq_true rfl, Nat.le_of_ble_eq_true rfl⟩ dL_law_754 (fun v μ1 hq => ?_)
  obtain ⟨z2, rfl, h⟩ := hq
  refine k_aload_n cx dL_law_757 rfl rfl ?_
  refine k_callV (As := []) (rest := [.int z2]) cx (m_X8_now h) cv_L_114 ob_MO rfl rfl rfl rfl (Nat.le_of_ble_eq_true rfl) ⟨Nat.le_of_ble_eq_true rfl, Nat.le_of_ble_eq_true rfl⟩ dL_law_758 (fun v μ3 hq => ?_)
  obtain ⟨z4, rfl, h⟩ := hq
  refine k_icmp_eq (tgt := 1225) cx dL_law_761 (by decide) (fun hc => ?_) (fun hc => ?_)
  · replace h := h.1 hc
    refine k_iinc (v := (x4 + (4 : Int32))) cx dL_law_1225 rfl rfl (by decide) ?_
    refine k_goto (tgt := 23) cx dL_law_1228 (by decide) ?_
    exact k_widen (by omega) (by omega) (k_weak h (lsLe.keep (lsLe.keep (lsLe.keep (lsLe.keep (lsLe.keep (lsLe.keep (lsLe.keep lsLe.nil))))))))
  · replace h := h.2 hc
    refine k_iconst (v := (0 : Int32)) cx dL_law_764 (by decide +kernel) ?_
    exact h.elim
def F_law_11 (K : Int32 → Mm → Prop) (L : Nat) (xs : Nat → Int32) (x4 : Int32) (μ : Mm) : Prop :=
  vp_in (x4 + (1 : Int32)) L ∧ vp_in (x4 + (2 : Int32)) L ∧ Wp_L_ofNode (xs ((x4 + (1 : Int32))).toNatClampNeg) (xs ((x4 + (2 : Int32))).toNatClampNeg) μ (fun z2 μ1 => vp_in (x4 + (1 : Int32)) L ∧ vp_in (x4 + (2 : Int32)) L ∧ Wp_X8_ofNode (xs ((x4 + (1 : Int32))).toNatClampNeg) (xs ((x4 + (2 : Int32))).toNatClampNeg) μ1 (fun z4 μ3 => Wp_X8_thrown  μ3 (fun z6 μ5 => ((z6 = z2 → ((¬ (z2 = 0) → K (x4 + (4 : Int32)) μ5) ∧ (z2 = 0 → (((lg_cmp ((μ5 p_OUT 0).toInt64) (z4.toInt64)) = 0 → K (x4 + (4 : Int32)) μ5) ∧ (¬ ((lg_cmp ((μ5 p_OUT 0).toInt64) (z4.toInt64)) = 0) → False))))) ∧ (¬ (z6 = z2) → False)))))
set_option maxHeartbeats 2000000 in
theorem b_law_11 {g : GE} {f : FE} {b L : Nat} {xs : Nat → Int32} (lx : LX g f b L xs) {kc ks : Nat} (cx : Cx g f code 7 "MeshLodgerLaw" 2048 84000 kc ks) (cx1 : Cx g f code 7 "MeshLodgerLaw" 2048 84000 (kc + 1) (ks + 6)) (hk : kc + 1 ≤ 619652) (hs : ks + 6 ≤ 7237147) {x4 : Int32} {μ : Mm} (h : F_law_11 (fun y μ2 => KW g f 7 (kc + 1) (ks + 6) 23 [some (.ref p_SCR), some (.ref p_ML), some (.ref p_MO), some (.ref p_OUT), some (.int y), none, none] [] μ2) L xs x4 μ) : KW g f 7 kc ks 766 [some (.ref p_SCR), some (.ref p_ML), some (.ref p_MO), some (.ref p_OUT), some (.int x4), none, none] [] μ := by
  unfold F_law_11 at h
  refine k_aload_n cx dL_law_766 rfl rfl ?_
  refine k_aload_n cx dL_law_767 rfl rfl ?_
  refine k_iload cx dL_law_768 rfl ?_
  refine k_iconst (v := (1 : Int32)) cx dL_law_770 (by decide +kernel) ?_
  refine k_iadd cx dL_law_771 ?_
  obtain ⟨hi, h⟩ := h
  refine k_sld cx lx hi dL_law_772 ?_
  refine k_aload_n cx dL_law_773 rfl rfl ?_
  refine k_iload cx dL_law_774 rfl ?_
  refine k_iconst (v := (2 : Int32)) cx dL_law_776 (by decide +kernel) ?_
  refine k_iadd cx dL_law_777 ?_
  obtain ⟨hi, h⟩ := h
  refine k_sld cx lx hi dL_law_778 ?_
  refine k_aload_n cx dL_law_779 rfl rfl ?_
  refine k_callH (As := [.ref p_ML, .int (xs ((x4 + (1 : Int32))).toNatClampNeg), .int (xs ((x4 + (2 : Int32))).toNatClampNeg), .ref p_OUT]) (rest := []) cx lx hk hs (m_L_ofNode lx.2.2.1 h) ch_L_ofNode rfl rfl (Nat.le_of_ble_eq_true rfl) ⟨Nat.le_of_ble_eq_true rfl, Nat.le_of_ble_eq_true rfl⟩ dL_law_780 (fun v μ1 hq => ?_)
  obtain ⟨z2, rfl, h⟩ := hq
  refine k_istore cx1 dL_law_783 (by decide) ?_
  refine k_aload_n cx1 dL_law_785 rfl rfl ?_
  refine k_aload_n cx1 dL_law_786 rfl rfl ?_
  refine k_iload cx1 dL_law_787 rfl ?_
  refine k_iconst (v := (1 : Int32)) cx1 dL_law_789 (by decide +kernel) ?_
  refine k_iadd cx1 dL_law_790 ?_
  obtain ⟨hi, h⟩ := h
  refine k_sld cx1 lx hi dL_law_791 ?_
  refine k_aload_n cx1 dL_law_792 rfl rfl ?_
  refine k_iload cx1 dL_law_793 rfl ?_
  refine k_iconst (v := (2 : Int32)) cx1 dL_law_795 (by decide +kernel) ?_
  refine k_iadd cx1 dL_law_796 ?_
  obtain ⟨hi, h⟩ := h
  refine k_sld cx1 lx hi dL_law_797 ?_
  refine k_callV (As := [.int (xs ((x4 + (1 : Int32))).toNatClampNeg), .int (xs ((x4 + (2 : Int32))).toNatClampNeg)]) (rest := []) cx1 (m_X8_ofNode h) cv_L_117 ob_MO rfl rfl rfl rfl (Nat.le_of_ble_eq_true rfl) ⟨Nat.le_of_ble_eq_true rfl, Nat.le_of_ble_eq_true rfl⟩ dL_law_798 (fun v μ3 hq => ?_)
  obtain ⟨z4, rfl, h⟩ := hq
  refine k_istore cx1 dL_law_801 (by decide) ?_
  refine k_aload_n cx1 dL_law_803 rfl rfl ?_
  refine k_callV (As := []) (rest := []) cx1 (m_X8_thrown h) cv_L_75 ob_MO rfl rfl rfl rfl (Nat.le_of_ble_eq_true rfl) ⟨Nat.le_of_ble_eq_true rfl, Nat.le_of_ble_eq_true rfl⟩ dL_law_804 (fun v μ5 hq => ?_)
  obtain ⟨z6, rfl, h⟩ := hq
  refine k_iload cx1 dL_law_807 rfl ?_
  refine k_icmp_eq (tgt := 814) cx1 dL_law_809 (by decide) (fun hc => ?_) (fun hc => ?_)
  · replace h := h.1 hc
    refine k_iload cx1 dL_law_814 rfl ?_
    refine k_if_ne (tgt := 831) cx1 dL_law_816 (by decide) (fun hc => ?_) (fun hc => ?_)
    · replace h := h.1 hc
      refine k_goto (tgt := 1225) cx1 dL_law_831 (by decide) ?_
      refine k_iinc (v := (x4 + (4 : Int32))) cx1 dL_law_1225 rfl rfl (by decide) ?_
      refine k_goto (tgt := 23) cx1 dL_law_1228 (by decide) ?_
      exact k_widen (by omega) (by omega) (k_weak h (lsLe.keep (lsLe.keep (lsLe.keep (lsLe.keep (lsLe.keep (lsLe.drop (lsLe.drop lsLe.nil))))))))
    · replace h := h.2 hc
      refine k_aload_n cx1 dL_law_819 rfl rfl ?_
      refine k_iconst (v := (0 : Int32)) cx1 dL_law_820 (by decide +kernel) ?_
      refine k_lald cx1 ar_OUT vp_00 dL_law_821 ?_
      refine k_iload cx1 dL_law_822 rfl ?_
      refine k_i2l cx1 dL_law_824 ?_
      refine k_lcmp cx1 dL_law_825 ?_
      refine k_if_eq (tgt := 831) cx1 dL_law_826 (by decide) (fun hc => ?_) (fun hc => ?_)
      · replace h := h.1 hc
        refine k_goto (tgt := 1225) cx1 dL_law_831 (by decide) ?_
        refine k_iinc (v := (x4 + (4 : Int32))) cx1 dL_law_1225 rfl rfl (by decide) ?_
        refine k_goto (tgt := 23) cx1 dL_law_1228 (by decide) ?_
        exact k_widen (by omega) (by omega) (k_weak h (lsLe.keep (lsLe.keep (lsLe.keep (lsLe.keep (lsLe.keep (lsLe.drop (lsLe.drop lsLe.nil))))))))
      · replace h := h.2 hc
        refine k_iconst (v := (0 : Int32)) cx1 dL_law_829 (by decide +kernel) ?_
        exact h.elim
  · replace h := h.2 hc
    refine k_iconst (v := (0 : Int32)) cx1 dL_law_812 (by decide +kernel) ?_
    exact h.elim
def F_law_12 (K : Int32 → Mm → Prop) (L : Nat) (xs : Nat → Int32) (x4 : Int32) (μ : Mm) : Prop :=
  vp_in (x4 + (1 : Int32)) L ∧ vp_in (x4 + (2 : Int32)) L ∧ Wp_L_ofLink (xs ((x4 + (1 : Int32))).toNatClampNeg) (xs ((x4 + (2 : Int32))).toNatClampNeg) μ (fun z2 μ1 => vp_in (x4 + (1 : Int32)) L ∧ vp_in (x4 + (2 : Int32)) L ∧ Wp_X8_ofLink (xs ((x4 + (1 : Int32))).toNatClampNeg) (xs ((x4 + (2 : Int32))).toNatClampNeg) μ1 (fun z4 μ3 => Wp_X8_thrown  μ3 (fun z6 μ5 => ((z6 = z2 → ((¬ (z2 = 0) → K (x4 + (4 : Int32)) μ5) ∧ (z2 = 0 → (((lg_cmp ((μ5 p_OUT 0).toInt64) (z4.toInt64)) = 0 → K (x4 + (4 : Int32)) μ5) ∧ (¬ ((lg_cmp ((μ5 p_OUT 0).toInt64) (z4.toInt64)) = 0) → False))))) ∧ (¬ (z6 = z2) → False)))))
set_option maxHeartbeats 2000000 in
theorem b_law_12 {g : GE} {f : FE} {b L : Nat} {xs : Nat → Int32} (lx : LX g f b L xs) {kc ks : Nat} (cx : Cx g f code 7 "MeshLodgerLaw" 2048 84000 kc ks) (cx1 : Cx g f code 7 "MeshLodgerLaw" 2048 84000 (kc + 1) (ks + 6)) (hk : kc + 1 ≤ 619652) (hs : ks + 6 ≤ 7237147) {x4 : Int32} {μ : Mm} (h : F_law_12 (fun y μ2 => KW g f 7 (kc + 1) (ks + 6) 23 [some (.ref p_SCR), some (.ref p_ML), some (.ref p_MO), some (.ref p_OUT), some (.int y), none, none] [] μ2) L xs x4 μ) : KW g f 7 kc ks 834 [some (.ref p_SCR), some (.ref p_ML), some (.ref p_MO), some (.ref p_OUT), some (.int x4), none, none] [] μ := by
  unfold F_law_12 at h
  refine k_aload_n cx dL_law_834 rfl rfl ?_
  refine k_aload_n cx dL_law_835 rfl rfl ?_
  refine k_iload cx dL_law_836 rfl ?_
  refine k_iconst (v := (1 : Int32)) cx dL_law_838 (by decide +kernel) ?_
  refine k_iadd cx dL_law_839 ?_
  obtain ⟨hi, h⟩ := h
  refine k_sld cx lx hi dL_law_840 ?_
  refine k_aload_n cx dL_law_841 rfl rfl ?_
  refine k_iload cx dL_law_842 rfl ?_
  refine k_iconst (v := (2 : Int32)) cx dL_law_844 (by decide +kernel) ?_
  refine k_iadd cx dL_law_845 ?_
  obtain ⟨hi, h⟩ := h
  refine k_sld cx lx hi dL_law_846 ?_
  refine k_aload_n cx dL_law_847 rfl rfl ?_
  refine k_callH (As := [.ref p_ML, .int (xs ((x4 + (1 : Int32))).toNatClampNeg), .int (xs ((x4 + (2 : Int32))).toNatClampNeg), .ref p_OUT]) (rest := []) cx lx hk hs (m_L_ofLink lx.2.2.1 h) ch_L_ofLink rfl rfl (Nat.le_of_ble_eq_true rfl) ⟨Nat.le_of_ble_eq_true rfl, Nat.le_of_ble_eq_true rfl⟩ dL_law_848 (fun v μ1 hq => ?_)
  obtain ⟨z2, rfl, h⟩ := hq
  refine k_istore cx1 dL_law_851 (by decide) ?_
  refine k_aload_n cx1 dL_law_853 rfl rfl ?_
  refine k_aload_n cx1 dL_law_854 rfl rfl ?_
  refine k_iload cx1 dL_law_855 rfl ?_
  refine k_iconst (v := (1 : Int32)) cx1 dL_law_857 (by decide +kernel) ?_
  refine k_iadd cx1 dL_law_858 ?_
  obtain ⟨hi, h⟩ := h
  refine k_sld cx1 lx hi dL_law_859 ?_
  refine k_aload_n cx1 dL_law_860 rfl rfl ?_
  refine k_iload cx1 dL_law_861 rfl ?_
  refine k_iconst (v := (2 : Int32)) cx1 dL_law_863 (by decide +kernel) ?_
  refine k_iadd cx1 dL_law_864 ?_
  obtain ⟨hi, h⟩ := h
  refine k_sld cx1 lx hi dL_law_865 ?_
  refine k_callV (As := [.int (xs ((x4 + (1 : Int32))).toNatClampNeg), .int (xs ((x4 + (2 : Int32))).toNatClampNeg)]) (rest := []) cx1 (m_X8_ofLink h) cv_L_120 ob_MO rfl rfl rfl rfl (Nat.le_of_ble_eq_true rfl) ⟨Nat.le_of_ble_eq_true rfl, Nat.le_of_ble_eq_true rfl⟩ dL_law_866 (fun v μ3 hq => ?_)
  obtain ⟨z4, rfl, h⟩ := hq
  refine k_istore cx1 dL_law_869 (by decide) ?_
  refine k_aload_n cx1 dL_law_871 rfl rfl ?_
  refine k_callV (As := []) (rest := []) cx1 (m_X8_thrown h) cv_L_75 ob_MO rfl rfl rfl rfl (Nat.le_of_ble_eq_true rfl) ⟨Nat.le_of_ble_eq_true rfl, Nat.le_of_ble_eq_true rfl⟩ dL_law_872 (fun v μ5 hq => ?_)
  obtain ⟨z6, rfl, h⟩ := hq
  refine k_iload cx1 dL_law_875 rfl ?_
  refine k_icmp_eq (tgt := 882) cx1 dL_law_877 (by decide) (fun hc => ?_) (fun hc => ?_)
  · replace h := h.1 hc
    refine k_iload cx1 dL_law_882 rfl ?_
    refine k_if_ne (tgt := 899) cx1 dL_law_884 (by decide) (fun hc => ?_) (fun hc => ?_)
    · replace h := h.1 hc
      refine k_goto (tgt := 1225) cx1 dL_law_899 (by decide) ?_
      refine k_iinc (v := (x4 + (4 : Int32))) cx1 dL_law_1225 rfl rfl (by decide) ?_
      refine k_goto (tgt := 23) cx1 dL_law_1228 (by decide) ?_
      exact k_widen (by omega) (by omega) (k_weak h (lsLe.keep (lsLe.keep (lsLe.keep (lsLe.keep (lsLe.keep (lsLe.drop (lsLe.drop lsLe.nil))))))))
    · replace h := h.2 hc
      refine k_aload_n cx1 dL_law_887 rfl rfl ?_
      refine k_iconst (v := (0 : Int32)) cx1 dL_law_888 (by decide +kernel) ?_
      refine k_lald cx1 ar_OUT vp_00 dL_law_889 ?_
      refine k_iload cx1 dL_law_890 rfl ?_
      refine k_i2l cx1 dL_law_892 ?_
      refine k_lcmp cx1 dL_law_893 ?_
      refine k_if_eq (tgt := 899) cx1 dL_law_894 (by decide) (fun hc => ?_) (fun hc => ?_)
      · replace h := h.1 hc
        refine k_goto (tgt := 1225) cx1 dL_law_899 (by decide) ?_
        refine k_iinc (v := (x4 + (4 : Int32))) cx1 dL_law_1225 rfl rfl (by decide) ?_
        refine k_goto (tgt := 23) cx1 dL_law_1228 (by decide) ?_
        exact k_widen (by omega) (by omega) (k_weak h (lsLe.keep (lsLe.keep (lsLe.keep (lsLe.keep (lsLe.keep (lsLe.drop (lsLe.drop lsLe.nil))))))))
      · replace h := h.2 hc
        refine k_iconst (v := (0 : Int32)) cx1 dL_law_897 (by decide +kernel) ?_
        exact h.elim
  · replace h := h.2 hc
    refine k_iconst (v := (0 : Int32)) cx1 dL_law_880 (by decide +kernel) ?_
    exact h.elim
def F_law_13 (K : Int32 → Mm → Prop) (L : Nat) (xs : Nat → Int32) (x4 : Int32) (μ : Mm) : Prop :=
  vp_in (x4 + (1 : Int32)) L ∧ vp_in (x4 + (2 : Int32)) L ∧ Wp_L_load (xs ((x4 + (1 : Int32))).toNatClampNeg) (xs ((x4 + (2 : Int32))).toNatClampNeg) μ (fun z2 μ1 => vp_in (x4 + (1 : Int32)) L ∧ vp_in (x4 + (2 : Int32)) L ∧ Wp_X8_load (xs ((x4 + (1 : Int32))).toNatClampNeg) (xs ((x4 + (2 : Int32))).toNatClampNeg) μ1 (fun z4 μ3 => Wp_X8_thrown  μ3 (fun z6 μ5 => ((z6 = z2 → ((¬ (z2 = 0) → K (x4 + (4 : Int32)) μ5) ∧ (z2 = 0 → (((lg_cmp ((μ5 p_OUT 0).toInt64) (z4.toInt64)) = 0 → K (x4 + (4 : Int32)) μ5) ∧ (¬ ((lg_cmp ((μ5 p_OUT 0).toInt64) (z4.toInt64)) = 0) → False))))) ∧ (¬ (z6 = z2) → False)))))
set_option maxHeartbeats 2000000 in
theorem b_law_13 {g : GE} {f : FE} {b L : Nat} {xs : Nat → Int32} (lx : LX g f b L xs) {kc ks : Nat} (cx : Cx g f code 7 "MeshLodgerLaw" 2048 84000 kc ks) (cx1 : Cx g f code 7 "MeshLodgerLaw" 2048 84000 (kc + 1) (ks + 6)) (hk : kc + 1 ≤ 619652) (hs : ks + 6 ≤ 7237147) {x4 : Int32} {μ : Mm} (h : F_law_13 (fun y μ2 => KW g f 7 (kc + 1) (ks + 6) 23 [some (.ref p_SCR), some (.ref p_ML), some (.ref p_MO), some (.ref p_OUT), some (.int y), none, none] [] μ2) L xs x4 μ) : KW g f 7 kc ks 902 [some (.ref p_SCR), some (.ref p_ML), some (.ref p_MO), some (.ref p_OUT), some (.int x4), none, none] [] μ := by
  unfold F_law_13 at h
  refine k_aload_n cx dL_law_902 rfl rfl ?_
  refine k_aload_n cx dL_law_903 rfl rfl ?_
  refine k_iload cx dL_law_904 rfl ?_
  refine k_iconst (v := (1 : Int32)) cx dL_law_906 (by decide +kernel) ?_
  refine k_iadd cx dL_law_907 ?_
  obtain ⟨hi, h⟩ := h
  refine k_sld cx lx hi dL_law_908 ?_
  refine k_aload_n cx dL_law_909 rfl rfl ?_
  refine k_iload cx dL_law_910 rfl ?_
  refine k_iconst (v := (2 : Int32)) cx dL_law_912 (by decide +kernel) ?_
  refine k_iadd cx dL_law_913 ?_
  obtain ⟨hi, h⟩ := h
  refine k_sld cx lx hi dL_law_914 ?_
  refine k_aload_n cx dL_law_915 rfl rfl ?_
  refine k_callH (As := [.ref p_ML, .int (xs ((x4 + (1 : Int32))).toNatClampNeg), .int (xs ((x4 + (2 : Int32))).toNatClampNeg), .ref p_OUT]) (rest := []) cx lx hk hs (m_L_load lx.2.2.1 h) ch_L_load rfl rfl (Nat.le_of_ble_eq_true rfl) ⟨Nat.le_of_ble_eq_true rfl, Nat.le_of_ble_eq_true rfl⟩ dL_law_916 (fun v μ1 hq => ?_)
  obtain ⟨z2, rfl, h⟩ := hq
  refine k_istore cx1 dL_law_919 (by decide) ?_
  refine k_aload_n cx1 dL_law_921 rfl rfl ?_
  refine k_aload_n cx1 dL_law_922 rfl rfl ?_
  refine k_iload cx1 dL_law_923 rfl ?_
  refine k_iconst (v := (1 : Int32)) cx1 dL_law_925 (by decide +kernel) ?_
  refine k_iadd cx1 dL_law_926 ?_
  obtain ⟨hi, h⟩ := h
  refine k_sld cx1 lx hi dL_law_927 ?_
  refine k_aload_n cx1 dL_law_928 rfl rfl ?_
  refine k_iload cx1 dL_law_929 rfl ?_
  refine k_iconst (v := (2 : Int32)) cx1 dL_law_931 (by decide +kernel) ?_
  refine k_iadd cx1 dL_law_932 ?_
  obtain ⟨hi, h⟩ := h
  refine k_sld cx1 lx hi dL_law_933 ?_
  refine k_callV (As := [.int (xs ((x4 + (1 : Int32))).toNatClampNeg), .int (xs ((x4 + (2 : Int32))).toNatClampNeg)]) (rest := []) cx1 (m_X8_load h) cv_L_123 ob_MO rfl rfl rfl rfl (Nat.le_of_ble_eq_true rfl) ⟨Nat.le_of_ble_eq_true rfl, Nat.le_of_ble_eq_true rfl⟩ dL_law_934 (fun v μ3 hq => ?_)
  obtain ⟨z4, rfl, h⟩ := hq
  refine k_istore cx1 dL_law_937 (by decide) ?_
  refine k_aload_n cx1 dL_law_939 rfl rfl ?_
  refine k_callV (As := []) (rest := []) cx1 (m_X8_thrown h) cv_L_75 ob_MO rfl rfl rfl rfl (Nat.le_of_ble_eq_true rfl) ⟨Nat.le_of_ble_eq_true rfl, Nat.le_of_ble_eq_true rfl⟩ dL_law_940 (fun v μ5 hq => ?_)
  obtain ⟨z6, rfl, h⟩ := hq
  refine k_iload cx1 dL_law_943 rfl ?_
  refine k_icmp_eq (tgt := 950) cx1 dL_law_945 (by decide) (fun hc => ?_) (fun hc => ?_)
  · replace h := h.1 hc
    refine k_iload cx1 dL_law_950 rfl ?_
    refine k_if_ne (tgt := 967) cx1 dL_law_952 (by decide) (fun hc => ?_) (fun hc => ?_)
    · replace h := h.1 hc
      refine k_goto (tgt := 1225) cx1 dL_law_967 (by decide) ?_
      refine k_iinc (v := (x4 + (4 : Int32))) cx1 dL_law_1225 rfl rfl (by decide) ?_
      refine k_goto (tgt := 23) cx1 dL_law_1228 (by decide) ?_
      exact k_widen (by omega) (by omega) (k_weak h (lsLe.keep (lsLe.keep (lsLe.keep (lsLe.keep (lsLe.keep (lsLe.drop (lsLe.drop lsLe.nil))))))))
    · replace h := h.2 hc
      refine k_aload_n cx1 dL_law_955 rfl rfl ?_
      refine k_iconst (v := (0 : Int32)) cx1 dL_law_956 (by decide +kernel) ?_
      refine k_lald cx1 ar_OUT vp_00 dL_law_957 ?_
      refine k_iload cx1 dL_law_958 rfl ?_
      refine k_i2l cx1 dL_law_960 ?_
      refine k_lcmp cx1 dL_law_961 ?_
      refine k_if_eq (tgt := 967) cx1 dL_law_962 (by decide) (fun hc => ?_) (fun hc => ?_)
      · replace h := h.1 hc
        refine k_goto (tgt := 1225) cx1 dL_law_967 (by decide) ?_
        refine k_iinc (v := (x4 + (4 : Int32))) cx1 dL_law_1225 rfl rfl (by decide) ?_
        refine k_goto (tgt := 23) cx1 dL_law_1228 (by decide) ?_
        exact k_widen (by omega) (by omega) (k_weak h (lsLe.keep (lsLe.keep (lsLe.keep (lsLe.keep (lsLe.keep (lsLe.drop (lsLe.drop lsLe.nil))))))))
      · replace h := h.2 hc
        refine k_iconst (v := (0 : Int32)) cx1 dL_law_965 (by decide +kernel) ?_
        exact h.elim
  · replace h := h.2 hc
    refine k_iconst (v := (0 : Int32)) cx1 dL_law_948 (by decide +kernel) ?_
    exact h.elim
def F_law_14 (K : Int32 → Mm → Prop) (L : Nat) (xs : Nat → Int32) (x4 : Int32) (μ : Mm) : Prop :=
  vp_in (x4 + (1 : Int32)) L ∧ vp_in (x4 + (2 : Int32)) L ∧ Wp_L_told (xs ((x4 + (1 : Int32))).toNatClampNeg) (xs ((x4 + (2 : Int32))).toNatClampNeg) μ (fun z2 μ1 => vp_in (x4 + (1 : Int32)) L ∧ vp_in (x4 + (2 : Int32)) L ∧ Wp_X8_told (xs ((x4 + (1 : Int32))).toNatClampNeg) (xs ((x4 + (2 : Int32))).toNatClampNeg) μ1 (fun z4 μ3 => Wp_X8_thrown  μ3 (fun z6 μ5 => ((z6 = z2 → ((¬ (z2 = 0) → K (x4 + (4 : Int32)) μ5) ∧ (z2 = 0 → (((lg_cmp ((μ5 p_OUT 0).toInt64) (z4.toInt64)) = 0 → K (x4 + (4 : Int32)) μ5) ∧ (¬ ((lg_cmp ((μ5 p_OUT 0).toInt64) (z4.toInt64)) = 0) → False))))) ∧ (¬ (z6 = z2) → False)))))
set_option maxHeartbeats 2000000 in
theorem b_law_14 {g : GE} {f : FE} {b L : Nat} {xs : Nat → Int32} (lx : LX g f b L xs) {kc ks : Nat} (cx : Cx g f code 7 "MeshLodgerLaw" 2048 84000 kc ks) (cx1 : Cx g f code 7 "MeshLodgerLaw" 2048 84000 (kc + 1) (ks + 6)) (hk : kc + 1 ≤ 619652) (hs : ks + 6 ≤ 7237147) {x4 : Int32} {μ : Mm} (h : F_law_14 (fun y μ2 => KW g f 7 (kc + 1) (ks + 6) 23 [some (.ref p_SCR), some (.ref p_ML), some (.ref p_MO), some (.ref p_OUT), some (.int y), none, none] [] μ2) L xs x4 μ) : KW g f 7 kc ks 970 [some (.ref p_SCR), some (.ref p_ML), some (.ref p_MO), some (.ref p_OUT), some (.int x4), none, none] [] μ := by
  unfold F_law_14 at h
  refine k_aload_n cx dL_law_970 rfl rfl ?_
  refine k_aload_n cx dL_law_971 rfl rfl ?_
  refine k_iload cx dL_law_972 rfl ?_
  refine k_iconst (v := (1 : Int32)) cx dL_law_974 (by decide +kernel) ?_
  refine k_iadd cx dL_law_975 ?_
  obtain ⟨hi, h⟩ := h
  refine k_sld cx lx hi dL_law_976 ?_
  refine k_aload_n cx dL_law_977 rfl rfl ?_
  refine k_iload cx dL_law_978 rfl ?_
  refine k_iconst (v := (2 : Int32)) cx dL_law_980 (by decide +kernel) ?_
  refine k_iadd cx dL_law_981 ?_
  obtain ⟨hi, h⟩ := h
  refine k_sld cx lx hi dL_law_982 ?_
  refine k_aload_n cx dL_law_983 rfl rfl ?_
  refine k_callH (As := [.ref p_ML, .int (xs ((x4 + (1 : Int32))).toNatClampNeg), .int (xs ((x4 + (2 : Int32))).toNatClampNeg), .ref p_OUT]) (rest := []) cx lx hk hs (m_L_told lx.2.2.1 h) ch_L_told rfl rfl (Nat.le_of_ble_eq_true rfl) ⟨Nat.le_of_ble_eq_true rfl, Nat.le_of_ble_eq_true rfl⟩ dL_law_984 (fun v μ1 hq => ?_)
  obtain ⟨z2, rfl, h⟩ := hq
  refine k_istore cx1 dL_law_987 (by decide) ?_
  refine k_aload_n cx1 dL_law_989 rfl rfl ?_
  refine k_aload_n cx1 dL_law_990 rfl rfl ?_
  refine k_iload cx1 dL_law_991 rfl ?_
  refine k_iconst (v := (1 : Int32)) cx1 dL_law_993 (by decide +kernel) ?_
  refine k_iadd cx1 dL_law_994 ?_
  obtain ⟨hi, h⟩ := h
  refine k_sld cx1 lx hi dL_law_995 ?_
  refine k_aload_n cx1 dL_law_996 rfl rfl ?_
  refine k_iload cx1 dL_law_997 rfl ?_
  refine k_iconst (v := (2 : Int32)) cx1 dL_law_999 (by decide +kernel) ?_
  refine k_iadd cx1 dL_law_1000 ?_
  obtain ⟨hi, h⟩ := h
  refine k_sld cx1 lx hi dL_law_1001 ?_
  refine k_callV (As := [.int (xs ((x4 + (1 : Int32))).toNatClampNeg), .int (xs ((x4 + (2 : Int32))).toNatClampNeg)]) (rest := []) cx1 (m_X8_told h) cv_L_126 ob_MO rfl rfl rfl rfl (Nat.le_of_ble_eq_true rfl) ⟨Nat.le_of_ble_eq_true rfl, Nat.le_of_ble_eq_true rfl⟩ dL_law_1002 (fun v μ3 hq => ?_)
  obtain ⟨z4, rfl, h⟩ := hq
  refine k_istore cx1 dL_law_1005 (by decide) ?_
  refine k_aload_n cx1 dL_law_1007 rfl rfl ?_
  refine k_callV (As := []) (rest := []) cx1 (m_X8_thrown h) cv_L_75 ob_MO rfl rfl rfl rfl (Nat.le_of_ble_eq_true rfl) ⟨Nat.le_of_ble_eq_true rfl, Nat.le_of_ble_eq_true rfl⟩ dL_law_1008 (fun v μ5 hq => ?_)
  obtain ⟨z6, rfl, h⟩ := hq
  refine k_iload cx1 dL_law_1011 rfl ?_
  refine k_icmp_eq (tgt := 1018) cx1 dL_law_1013 (by decide) (fun hc => ?_) (fun hc => ?_)
  · replace h := h.1 hc
    refine k_iload cx1 dL_law_1018 rfl ?_
    refine k_if_ne (tgt := 1035) cx1 dL_law_1020 (by decide) (fun hc => ?_) (fun hc => ?_)
    · replace h := h.1 hc
      refine k_goto (tgt := 1225) cx1 dL_law_1035 (by decide) ?_
      refine k_iinc (v := (x4 + (4 : Int32))) cx1 dL_law_1225 rfl rfl (by decide) ?_
      refine k_goto (tgt := 23) cx1 dL_law_1228 (by decide) ?_
      exact k_widen (by omega) (by omega) (k_weak h (lsLe.keep (lsLe.keep (lsLe.keep (lsLe.keep (lsLe.keep (lsLe.drop (lsLe.drop lsLe.nil))))))))
    · replace h := h.2 hc
      refine k_aload_n cx1 dL_law_1023 rfl rfl ?_
      refine k_iconst (v := (0 : Int32)) cx1 dL_law_1024 (by decide +kernel) ?_
      refine k_lald cx1 ar_OUT vp_00 dL_law_1025 ?_
      refine k_iload cx1 dL_law_1026 rfl ?_
      refine k_i2l cx1 dL_law_1028 ?_
      refine k_lcmp cx1 dL_law_1029 ?_
      refine k_if_eq (tgt := 1035) cx1 dL_law_1030 (by decide) (fun hc => ?_) (fun hc => ?_)
      · replace h := h.1 hc
        refine k_goto (tgt := 1225) cx1 dL_law_1035 (by decide) ?_
        refine k_iinc (v := (x4 + (4 : Int32))) cx1 dL_law_1225 rfl rfl (by decide) ?_
        refine k_goto (tgt := 23) cx1 dL_law_1228 (by decide) ?_
        exact k_widen (by omega) (by omega) (k_weak h (lsLe.keep (lsLe.keep (lsLe.keep (lsLe.keep (lsLe.keep (lsLe.drop (lsLe.drop lsLe.nil))))))))
      · replace h := h.2 hc
        refine k_iconst (v := (0 : Int32)) cx1 dL_law_1033 (by decide +kernel) ?_
        exact h.elim
  · replace h := h.2 hc
    refine k_iconst (v := (0 : Int32)) cx1 dL_law_1016 (by decide +kernel) ?_
    exact h.elim
def F_law_15 (K : Int32 → Mm → Prop) (L : Nat) (xs : Nat → Int32) (x4 : Int32) (μ : Mm) : Prop :=
  vp_in (x4 + (1 : Int32)) L ∧ vp_in (x4 + (2 : Int32)) L ∧ Wp_L_at (xs ((x4 + (1 : Int32))).toNatClampNeg) (xs ((x4 + (2 : Int32))).toNatClampNeg) μ (fun z2 μ1 => vp_in (x4 + (1 : Int32)) L ∧ vp_in (x4 + (2 : Int32)) L ∧ Wp_X8_at (xs ((x4 + (1 : Int32))).toNatClampNeg) (xs ((x4 + (2 : Int32))).toNatClampNeg) μ1 (fun z4 μ3 => Wp_X8_thrown  μ3 (fun z6 μ5 => ((z6 = z2 → ((¬ (z2 = 0) → K (x4 + (4 : Int32)) μ5) ∧ (z2 = 0 → (((lg_cmp ((μ5 p_OUT 0).toInt64) (z4.toInt64)) = 0 → K (x4 + (4 : Int32)) μ5) ∧ (¬ ((lg_cmp ((μ5 p_OUT 0).toInt64) (z4.toInt64)) = 0) → False))))) ∧ (¬ (z6 = z2) → False)))))
set_option maxHeartbeats 2000000 in
theorem b_law_15 {g : GE} {f : FE} {b L : Nat} {xs : Nat → Int32} (lx : LX g f b L xs) {kc ks : Nat} (cx : Cx g f code 7 "MeshLodgerLaw" 2048 84000 kc ks) (cx1 : Cx g f code 7 "MeshLodgerLaw" 2048 84000 (kc + 1) (ks + 6)) (hk : kc + 1 ≤ 619652) (hs : ks + 6 ≤ 7237147) {x4 : Int32} {μ : Mm} (h : F_law_15 (fun y μ2 => KW g f 7 (kc + 1) (ks + 6) 23 [some (.ref p_SCR), some (.ref p_ML), some (.ref p_MO), some (.ref p_OUT), some (.int y), none, none] [] μ2) L xs x4 μ) : KW g f 7 kc ks 1038 [some (.ref p_SCR), some (.ref p_ML), some (.ref p_MO), some (.ref p_OUT), some (.int x4), none, none] [] μ := by
  unfold F_law_15 at h
  refine k_aload_n cx dL_law_1038 rfl rfl ?_
  refine k_aload_n cx dL_law_1039 rfl rfl ?_
  refine k_iload cx dL_law_1040 rfl ?_
  refine k_iconst (v := (1 : Int32)) cx dL_law_1042 (by decide +kernel) ?_
  refine k_iadd cx dL_law_1043 ?_
  obtain ⟨hi, h⟩ := h
  refine k_sld cx lx hi dL_law_1044 ?_
  refine k_aload_n cx dL_law_1045 rfl rfl ?_
  refine k_iload cx dL_law_1046 rfl ?_
  refine k_iconst (v := (2 : Int32)) cx dL_law_1048 (by decide +kernel) ?_
  refine k_iadd cx dL_law_1049 ?_
  obtain ⟨hi, h⟩ := h
  refine k_sld cx lx hi dL_law_1050 ?_
  refine k_aload_n cx dL_law_1051 rfl rfl ?_
  refine k_callH (As := [.ref p_ML, .int (xs ((x4 + (1 : Int32))).toNatClampNeg), .int (xs ((x4 + (2 : Int32))).toNatClampNeg), .ref p_OUT]) (rest := []) cx lx hk hs (m_L_at lx.2.2.1 h) ch_L_at rfl rfl (Nat.le_of_ble_eq_true rfl) ⟨Nat.le_of_ble_eq_true rfl, Nat.le_of_ble_eq_true rfl⟩ dL_law_1052 (fun v μ1 hq => ?_)
  obtain ⟨z2, rfl, h⟩ := hq
  refine k_istore cx1 dL_law_1055 (by decide) ?_
  refine k_aload_n cx1 dL_law_1057 rfl rfl ?_
  refine k_aload_n cx1 dL_law_1058 rfl rfl ?_
  refine k_iload cx1 dL_law_1059 rfl ?_
  refine k_iconst (v := (1 : Int32)) cx1 dL_law_1061 (by decide +kernel) ?_
  refine k_iadd cx1 dL_law_1062 ?_
  obtain ⟨hi, h⟩ := h
  refine k_sld cx1 lx hi dL_law_1063 ?_
  refine k_aload_n cx1 dL_law_1064 rfl rfl ?_
  refine k_iload cx1 dL_law_1065 rfl ?_
  refine k_iconst (v := (2 : Int32)) cx1 dL_law_1067 (by decide +kernel) ?_
  refine k_iadd cx1 dL_law_1068 ?_
  obtain ⟨hi, h⟩ := h
  refine k_sld cx1 lx hi dL_law_1069 ?_
  refine k_callV (As := [.int (xs ((x4 + (1 : Int32))).toNatClampNeg), .int (xs ((x4 + (2 : Int32))).toNatClampNeg)]) (rest := []) cx1 (m_X8_at h) cv_L_129 ob_MO rfl rfl rfl rfl (Nat.le_of_ble_eq_true rfl) ⟨Nat.le_of_ble_eq_true rfl, Nat.le_of_ble_eq_true rfl⟩ dL_law_1070 (fun v μ3 hq => ?_)
  obtain ⟨z4, rfl, h⟩ := hq
  refine k_istore cx1 dL_law_1073 (by decide) ?_
  refine k_aload_n cx1 dL_law_1075 rfl rfl ?_
  refine k_callV (As := []) (rest := []) cx1 (m_X8_thrown h) cv_L_75 ob_MO rfl rfl rfl rfl (Nat.le_of_ble_eq_true rfl) ⟨Nat.le_of_ble_eq_true rfl, Nat.le_of_ble_eq_true rfl⟩ dL_law_1076 (fun v μ5 hq => ?_)
  obtain ⟨z6, rfl, h⟩ := hq
  refine k_iload cx1 dL_law_1079 rfl ?_
  refine k_icmp_eq (tgt := 1086) cx1 dL_law_1081 (by decide) (fun hc => ?_) (fun hc => ?_)
  · replace h := h.1 hc
    refine k_iload cx1 dL_law_1086 rfl ?_
    refine k_if_ne (tgt := 1103) cx1 dL_law_1088 (by decide) (fun hc => ?_) (fun hc => ?_)
    · replace h := h.1 hc
      refine k_goto (tgt := 1225) cx1 dL_law_1103 (by decide) ?_
      refine k_iinc (v := (x4 + (4 : Int32))) cx1 dL_law_1225 rfl rfl (by decide) ?_
      refine k_goto (tgt := 23) cx1 dL_law_1228 (by decide) ?_
      exact k_widen (by omega) (by omega) (k_weak h (lsLe.keep (lsLe.keep (lsLe.keep (lsLe.keep (lsLe.keep (lsLe.drop (lsLe.drop lsLe.nil))))))))
    · replace h := h.2 hc
      refine k_aload_n cx1 dL_law_1091 rfl rfl ?_
      refine k_iconst (v := (0 : Int32)) cx1 dL_law_1092 (by decide +kernel) ?_
      refine k_lald cx1 ar_OUT vp_00 dL_law_1093 ?_
      refine k_iload cx1 dL_law_1094 rfl ?_
      refine k_i2l cx1 dL_law_1096 ?_
      refine k_lcmp cx1 dL_law_1097 ?_
      refine k_if_eq (tgt := 1103) cx1 dL_law_1098 (by decide) (fun hc => ?_) (fun hc => ?_)
      · replace h := h.1 hc
        refine k_goto (tgt := 1225) cx1 dL_law_1103 (by decide) ?_
        refine k_iinc (v := (x4 + (4 : Int32))) cx1 dL_law_1225 rfl rfl (by decide) ?_
        refine k_goto (tgt := 23) cx1 dL_law_1228 (by decide) ?_
        exact k_widen (by omega) (by omega) (k_weak h (lsLe.keep (lsLe.keep (lsLe.keep (lsLe.keep (lsLe.keep (lsLe.drop (lsLe.drop lsLe.nil))))))))
      · replace h := h.2 hc
        refine k_iconst (v := (0 : Int32)) cx1 dL_law_1101 (by decide +kernel) ?_
        exact h.elim
  · replace h := h.2 hc
    refine k_iconst (v := (0 : Int32)) cx1 dL_law_1084 (by decide +kernel) ?_
    exact h.elim
def F_law_16 (K : Int32 → Mm → Prop) (L : Nat) (xs : Nat → Int32) (x4 : Int32) (μ : Mm) : Prop :=
  vp_in (x4 + (1 : Int32)) L ∧ vp_in (x4 + (2 : Int32)) L ∧ vp_in (x4 + (3 : Int32)) L ∧ Wp_L_way (xs ((x4 + (1 : Int32))).toNatClampNeg) (xs ((x4 + (2 : Int32))).toNatClampNeg) (xs ((x4 + (3 : Int32))).toNatClampNeg) μ (fun z2 μ1 => vp_in (x4 + (1 : Int32)) L ∧ vp_in (x4 + (2 : Int32)) L ∧ vp_in (x4 + (3 : Int32)) L ∧ Wp_X8_way (xs ((x4 + (1 : Int32))).toNatClampNeg) (xs ((x4 + (2 : Int32))).toNatClampNeg) (xs ((x4 + (3 : Int32))).toNatClampNeg) μ1 (fun z4 μ3 => Wp_X8_thrown  μ3 (fun z6 μ5 => ((z6 = z2 → ((¬ (z2 = 0) → K (x4 + (4 : Int32)) μ5) ∧ (z2 = 0 → (((lg_cmp ((μ5 p_OUT 0).toInt64) (z4.toInt64)) = 0 → K (x4 + (4 : Int32)) μ5) ∧ (¬ ((lg_cmp ((μ5 p_OUT 0).toInt64) (z4.toInt64)) = 0) → False))))) ∧ (¬ (z6 = z2) → False)))))
set_option maxHeartbeats 2000000 in
theorem b_law_16 {g : GE} {f : FE} {b L : Nat} {xs : Nat → Int32} (lx : LX g f b L xs) {kc ks : Nat} (cx : Cx g f code 7 "MeshLodgerLaw" 2048 84000 kc ks) (cx1 : Cx g f code 7 "MeshLodgerLaw" 2048 84000 (kc + 1) (ks + 6)) (hk : kc + 1 ≤ 619652) (hs : ks + 6 ≤ 7237147) {x4 : Int32} {μ : Mm} (h : F_law_16 (fun y μ2 => KW g f 7 (kc + 1) (ks + 6) 23 [some (.ref p_SCR), some (.ref p_ML), some (.ref p_MO), some (.ref p_OUT), some (.int y), none, none] [] μ2) L xs x4 μ) : KW g f 7 kc ks 1106 [some (.ref p_SCR), some (.ref p_ML), some (.ref p_MO), some (.ref p_OUT), some (.int x4), none, none] [] μ := by
  unfold F_law_16 at h
  refine k_aload_n cx dL_law_1106 rfl rfl ?_
  refine k_aload_n cx dL_law_1107 rfl rfl ?_
  refine k_iload cx dL_law_1108 rfl ?_
  refine k_iconst (v := (1 : Int32)) cx dL_law_1110 (by decide +kernel) ?_
  refine k_iadd cx dL_law_1111 ?_
  obtain ⟨hi, h⟩ := h
  refine k_sld cx lx hi dL_law_1112 ?_
  refine k_aload_n cx dL_law_1113 rfl rfl ?_
  refine k_iload cx dL_law_1114 rfl ?_
  refine k_iconst (v := (2 : Int32)) cx dL_law_1116 (by decide +kernel) ?_
  refine k_iadd cx dL_law_1117 ?_
  obtain ⟨hi, h⟩ := h
  refine k_sld cx lx hi dL_law_1118 ?_
  refine k_aload_n cx dL_law_1119 rfl rfl ?_
  refine k_iload cx dL_law_1120 rfl ?_
  refine k_iconst (v := (3 : Int32)) cx dL_law_1122 (by decide +kernel) ?_
  refine k_iadd cx dL_law_1123 ?_
  obtain ⟨hi, h⟩ := h
  refine k_sld cx lx hi dL_law_1124 ?_
  refine k_aload_n cx dL_law_1125 rfl rfl ?_
  refine k_callH (As := [.ref p_ML, .int (xs ((x4 + (1 : Int32))).toNatClampNeg), .int (xs ((x4 + (2 : Int32))).toNatClampNeg), .int (xs ((x4 + (3 : Int32))).toNatClampNeg), .ref p_OUT]) (rest := []) cx lx hk hs (m_L_way lx.2.2.1 h) ch_L_way rfl rfl (Nat.le_of_ble_eq_true rfl) ⟨Nat.le_of_ble_eq_true rfl, Nat.le_of_ble_eq_true rfl⟩ dL_law_1126 (fun v μ1 hq => ?_)
  obtain ⟨z2, rfl, h⟩ := hq
  refine k_istore cx1 dL_law_1129 (by decide) ?_
  refine k_aload_n cx1 dL_law_1131 rfl rfl ?_
  refine k_aload_n cx1 dL_law_1132 rfl rfl ?_
  refine k_iload cx1 dL_law_1133 rfl ?_
  refine k_iconst (v := (1 : Int32)) cx1 dL_law_1135 (by decide +kernel) ?_
  refine k_iadd cx1 dL_law_1136 ?_
  obtain ⟨hi, h⟩ := h
  refine k_sld cx1 lx hi dL_law_1137 ?_
  refine k_aload_n cx1 dL_law_1138 rfl rfl ?_
  refine k_iload cx1 dL_law_1139 rfl ?_
  refine k_iconst (v := (2 : Int32)) cx1 dL_law_1141 (by decide +kernel) ?_
  refine k_iadd cx1 dL_law_1142 ?_
  obtain ⟨hi, h⟩ := h
  refine k_sld cx1 lx hi dL_law_1143 ?_
  refine k_aload_n cx1 dL_law_1144 rfl rfl ?_
  refine k_iload cx1 dL_law_1145 rfl ?_
  refine k_iconst (v := (3 : Int32)) cx1 dL_law_1147 (by decide +kernel) ?_
  refine k_iadd cx1 dL_law_1148 ?_
  obtain ⟨hi, h⟩ := h
  refine k_sld cx1 lx hi dL_law_1149 ?_
  refine k_callV (As := [.int (xs ((x4 + (1 : Int32))).toNatClampNeg), .int (xs ((x4 + (2 : Int32))).toNatClampNeg), .int (xs ((x4 + (3 : Int32))).toNatClampNeg)]) (rest := []) cx1 (m_X8_way h) cv_L_132 ob_MO rfl rfl rfl rfl (Nat.le_of_ble_eq_true rfl) ⟨Nat.le_of_ble_eq_true rfl, Nat.le_of_ble_eq_true rfl⟩ dL_law_1150 (fun v μ3 hq => ?_)
  obtain ⟨z4, rfl, h⟩ := hq
  refine k_istore cx1 dL_law_1153 (by decide) ?_
  refine k_aload_n cx1 dL_law_1155 rfl rfl ?_
  refine k_callV (As := []) (rest := []) cx1 (m_X8_thrown h) cv_L_75 ob_MO rfl rfl rfl rfl (Nat.le_of_ble_eq_true rfl) ⟨Nat.le_of_ble_eq_true rfl, Nat.le_of_ble_eq_true rfl⟩ dL_law_1156 (fun v μ5 hq => ?_)
  obtain ⟨z6, rfl, h⟩ := hq
  refine k_iload cx1 dL_law_1159 rfl ?_
  refine k_icmp_eq (tgt := 1166) cx1 dL_law_1161 (by decide) (fun hc => ?_) (fun hc => ?_)
  · replace h := h.1 hc
    refine k_iload cx1 dL_law_1166 rfl ?_
    refine k_if_ne (tgt := 1183) cx1 dL_law_1168 (by decide) (fun hc => ?_) (fun hc => ?_)
    · replace h := h.1 hc
      refine k_goto (tgt := 1225) cx1 dL_law_1183 (by decide) ?_
      refine k_iinc (v := (x4 + (4 : Int32))) cx1 dL_law_1225 rfl rfl (by decide) ?_
      refine k_goto (tgt := 23) cx1 dL_law_1228 (by decide) ?_
      exact k_widen (by omega) (by omega) (k_weak h (lsLe.keep (lsLe.keep (lsLe.keep (lsLe.keep (lsLe.keep (lsLe.drop (lsLe.drop lsLe.nil))))))))
    · replace h := h.2 hc
      refine k_aload_n cx1 dL_law_1171 rfl rfl ?_
      refine k_iconst (v := (0 : Int32)) cx1 dL_law_1172 (by decide +kernel) ?_
      refine k_lald cx1 ar_OUT vp_00 dL_law_1173 ?_
      refine k_iload cx1 dL_law_1174 rfl ?_
      refine k_i2l cx1 dL_law_1176 ?_
      refine k_lcmp cx1 dL_law_1177 ?_
      refine k_if_eq (tgt := 1183) cx1 dL_law_1178 (by decide) (fun hc => ?_) (fun hc => ?_)
      · replace h := h.1 hc
        refine k_goto (tgt := 1225) cx1 dL_law_1183 (by decide) ?_
        refine k_iinc (v := (x4 + (4 : Int32))) cx1 dL_law_1225 rfl rfl (by decide) ?_
        refine k_goto (tgt := 23) cx1 dL_law_1228 (by decide) ?_
        exact k_widen (by omega) (by omega) (k_weak h (lsLe.keep (lsLe.keep (lsLe.keep (lsLe.keep (lsLe.keep (lsLe.drop (lsLe.drop lsLe.nil))))))))
      · replace h := h.2 hc
        refine k_iconst (v := (0 : Int32)) cx1 dL_law_1181 (by decide +kernel) ?_
        exact h.elim
  · replace h := h.2 hc
    refine k_iconst (v := (0 : Int32)) cx1 dL_law_1164 (by decide +kernel) ?_
    exact h.elim
def F_law_17 (K : Int32 → Mm → Prop) (L : Nat) (xs : Nat → Int32) (x4 : Int32) (μ : Mm) : Prop :=
  Wp_X7_least  μ (fun z2 μ1 => Wp_X8_least  μ1 (fun z4 μ3 => ((z2 = z4 → K (x4 + (4 : Int32)) μ3) ∧ (¬ (z2 = z4) → False))))
set_option maxHeartbeats 2000000 in
theorem b_law_17 {g : GE} {f : FE} {b L : Nat} {xs : Nat → Int32} (lx : LX g f b L xs) {kc ks : Nat} (cx : Cx g f code 7 "MeshLodgerLaw" 2048 84000 kc ks) (cx1 : Cx g f code 7 "MeshLodgerLaw" 2048 84000 (kc + 1) (ks + 6)) (hk : kc + 1 ≤ 619652) (hs : ks + 6 ≤ 7237147) {x4 : Int32} {μ : Mm} (h : F_law_17 (fun y μ2 => KW g f 7 (kc + 1) (ks + 6) 23 [some (.ref p_SCR), some (.ref p_ML), some (.ref p_MO), some (.ref p_OUT), some (.int y), none, none] [] μ2) L xs x4 μ) : KW g f 7 kc ks 1186 [some (.ref p_SCR), some (.ref p_ML), some (.ref p_MO), some (.ref p_OUT), some (.int x4), none, none] [] μ := by
  unfold F_law_17 at h
  refine k_aload_n cx dL_law_1186 rfl rfl ?_
  refine k_callV (As := []) (rest := []) cx (m_X7_least h) cv_L_133 ob_ML rfl rfl rfl rfl (Nat.le_of_ble_eq_true rfl) ⟨Nat.le_of_ble_eq_true rfl, Nat.le_of_ble_eq_true rfl⟩ dL_law_1187 (fun v μ1 hq => ?_)
  obtain ⟨z2, rfl, h⟩ := hq
  refine k_aload_n cx dL_law_1190 rfl rfl ?_
  refine k_callV (As := []) (rest := [.int z2]) cx (m_X8_least h) cv_L_136 ob_MO rfl rfl rfl rfl (Nat.le_of_ble_eq_true rfl) ⟨Nat.le_of_ble_eq_true rfl, Nat.le_of_ble_eq_true rfl⟩ dL_law_1191 (fun v μ3 hq => ?_)
  obtain ⟨z4, rfl, h⟩ := hq
  refine k_icmp_eq (tgt := 1225) cx dL_law_1194 (by decide) (fun hc => ?_) (fun hc => ?_)
  · replace h := h.1 hc
    refine k_iinc (v := (x4 + (4 : Int32))) cx dL_law_1225 rfl rfl (by decide) ?_
    refine k_goto (tgt := 23) cx dL_law_1228 (by decide) ?_
    exact k_widen (by omega) (by omega) (k_weak h (lsLe.keep (lsLe.keep (lsLe.keep (lsLe.keep (lsLe.keep (lsLe.keep (lsLe.keep lsLe.nil))))))))
  · replace h := h.2 hc
    refine k_iconst (v := (0 : Int32)) cx dL_law_1197 (by decide +kernel) ?_
    exact h.elim
def F_law_18 (K : Int32 → Mm → Prop) (L : Nat) (xs : Nat → Int32) (x4 : Int32) (μ : Mm) : Prop :=
  Wp_X7_leastAnew  μ (fun z2 μ1 => Wp_X8_leastAnew  μ1 (fun z4 μ3 => ((z2 = z4 → K (x4 + (4 : Int32)) μ3) ∧ (¬ (z2 = z4) → False))))
set_option maxHeartbeats 2000000 in
theorem b_law_18 {g : GE} {f : FE} {b L : Nat} {xs : Nat → Int32} (lx : LX g f b L xs) {kc ks : Nat} (cx : Cx g f code 7 "MeshLodgerLaw" 2048 84000 kc ks) (cx1 : Cx g f code 7 "MeshLodgerLaw" 2048 84000 (kc + 1) (ks + 6)) (hk : kc + 1 ≤ 619652) (hs : ks + 6 ≤ 7237147) {x4 : Int32} {μ : Mm} (h : F_law_18 (fun y μ2 => KW g f 7 (kc + 1) (ks + 6) 23 [some (.ref p_SCR), some (.ref p_ML), some (.ref p_MO), some (.ref p_OUT), some (.int y), none, none] [] μ2) L xs x4 μ) : KW g f 7 kc ks 1199 [some (.ref p_SCR), some (.ref p_ML), some (.ref p_MO), some (.ref p_OUT), some (.int x4), none, none] [] μ := by
  unfold F_law_18 at h
  refine k_aload_n cx dL_law_1199 rfl rfl ?_
  refine k_callV (As := []) (rest := []) cx (m_X7_leastAnew h) cv_L_137 ob_ML rfl rfl rfl rfl (Nat.le_of_ble_eq_true rfl) ⟨Nat.le_of_ble_eq_true rfl, Nat.le_of_ble_eq_true rfl⟩ dL_law_1200 (fun v μ1 hq => ?_)
  obtain ⟨z2, rfl, h⟩ := hq
  refine k_aload_n cx dL_law_1203 rfl rfl ?_
  refine k_callV (As := []) (rest := [.int z2]) cx (m_X8_leastAnew h) cv_L_140 ob_MO rfl rfl rfl rfl (Nat.le_of_ble_eq_true rfl) ⟨Nat.le_of_ble_eq_true rfl, Nat.le_of_ble_eq_true rfl⟩ dL_law_1204 (fun v μ3 hq => ?_)
  obtain ⟨z4, rfl, h⟩ := hq
  refine k_icmp_eq (tgt := 1225) cx dL_law_1207 (by decide) (fun hc => ?_) (fun hc => ?_)
  · replace h := h.1 hc
    refine k_iinc (v := (x4 + (4 : Int32))) cx dL_law_1225 rfl rfl (by decide) ?_
    refine k_goto (tgt := 23) cx dL_law_1228 (by decide) ?_
    exact k_widen (by omega) (by omega) (k_weak h (lsLe.keep (lsLe.keep (lsLe.keep (lsLe.keep (lsLe.keep (lsLe.keep (lsLe.keep lsLe.nil))))))))
  · replace h := h.2 hc
    refine k_iconst (v := (0 : Int32)) cx dL_law_1210 (by decide +kernel) ?_
    exact h.elim
def F_law_19 (K : Int32 → Mm → Prop) (L : Nat) (xs : Nat → Int32) (x4 : Int32) (μ : Mm) : Prop :=
  Wp_X7_freeing  μ (fun z2 μ1 => Wp_X8_freeing  μ1 (fun z4 μ3 => ((z2 = z4 → K (x4 + (4 : Int32)) μ3) ∧ (¬ (z2 = z4) → False))))
set_option maxHeartbeats 2000000 in
theorem b_law_19 {g : GE} {f : FE} {b L : Nat} {xs : Nat → Int32} (lx : LX g f b L xs) {kc ks : Nat} (cx : Cx g f code 7 "MeshLodgerLaw" 2048 84000 kc ks) (cx1 : Cx g f code 7 "MeshLodgerLaw" 2048 84000 (kc + 1) (ks + 6)) (hk : kc + 1 ≤ 619652) (hs : ks + 6 ≤ 7237147) {x4 : Int32} {μ : Mm} (h : F_law_19 (fun y μ2 => KW g f 7 (kc + 1) (ks + 6) 23 [some (.ref p_SCR), some (.ref p_ML), some (.ref p_MO), some (.ref p_OUT), some (.int y), none, none] [] μ2) L xs x4 μ) : KW g f 7 kc ks 1212 [some (.ref p_SCR), some (.ref p_ML), some (.ref p_MO), some (.ref p_OUT), some (.int x4), none, none] [] μ := by
  unfold F_law_19 at h
  refine k_aload_n cx dL_law_1212 rfl rfl ?_
  refine k_callV (As := []) (rest := []) cx (m_X7_freeing h) cv_L_141 ob_ML rfl rfl rfl rfl (Nat.le_of_ble_eq_true rfl) ⟨Nat.le_of_ble_eq_true rfl, Nat.le_of_ble_eq_true rfl⟩ dL_law_1213 (fun v μ1 hq => ?_)
  obtain ⟨z2, rfl, h⟩ := hq
  refine k_aload_n cx dL_law_1216 rfl rfl ?_
  refine k_callV (As := []) (rest := [.int z2]) cx (m_X8_freeing h) cv_L_144 ob_MO rfl rfl rfl rfl (Nat.le_of_ble_eq_true rfl) ⟨Nat.le_of_ble_eq_true rfl, Nat.le_of_ble_eq_true rfl⟩ dL_law_1217 (fun v μ3 hq => ?_)
  obtain ⟨z4, rfl, h⟩ := hq
  refine k_icmp_eq (tgt := 1225) cx dL_law_1220 (by decide) (fun hc => ?_) (fun hc => ?_)
  · replace h := h.1 hc
    refine k_iinc (v := (x4 + (4 : Int32))) cx dL_law_1225 rfl rfl (by decide) ?_
    refine k_goto (tgt := 23) cx dL_law_1228 (by decide) ?_
    exact k_widen (by omega) (by omega) (k_weak h (lsLe.keep (lsLe.keep (lsLe.keep (lsLe.keep (lsLe.keep (lsLe.keep (lsLe.keep lsLe.nil))))))))
  · replace h := h.2 hc
    refine k_iconst (v := (0 : Int32)) cx dL_law_1223 (by decide +kernel) ?_
    exact h.elim
def F_law_h (K : Int32 → Mm → Prop) (L : Nat) (xs : Nat → Int32) (x4 : Int32) (μ : Mm) : Prop :=
  ((((Int32.ofNat L) - (4 : Int32)) < x4 → True) ∧ (¬ (((Int32.ofNat L) - (4 : Int32)) < x4) → vp_in x4 L ∧ (((((xs (x4).toNatClampNeg) &&& (31 : Int32)) = 0 → F_law_0 K L xs x4 μ) ∧ (((xs (x4).toNatClampNeg) &&& (31 : Int32)) = 1 → F_law_1 K L xs x4 μ) ∧ (((xs (x4).toNatClampNeg) &&& (31 : Int32)) = 2 → F_law_2 K L xs x4 μ) ∧ (((xs (x4).toNatClampNeg) &&& (31 : Int32)) = 3 → F_law_3 K L xs x4 μ) ∧ (((xs (x4).toNatClampNeg) &&& (31 : Int32)) = 4 → F_law_4 K L xs x4 μ) ∧ (((xs (x4).toNatClampNeg) &&& (31 : Int32)) = 5 → F_law_5 K L xs x4 μ) ∧ (((xs (x4).toNatClampNeg) &&& (31 : Int32)) = 6 → F_law_6 K L xs x4 μ) ∧ (((xs (x4).toNatClampNeg) &&& (31 : Int32)) = 7 → F_law_7 K L xs x4 μ) ∧ (((xs (x4).toNatClampNeg) &&& (31 : Int32)) = 8 → F_law_8 K L xs x4 μ) ∧ (((xs (x4).toNatClampNeg) &&& (31 : Int32)) = 9 → F_law_9 K L xs x4 μ) ∧ (((xs (x4).toNatClampNeg) &&& (31 : Int32)) = 10 → F_law_10 K L xs x4 μ) ∧ (((xs (x4).toNatClampNeg) &&& (31 : Int32)) = 11 → F_law_11 K L xs x4 μ) ∧ (((xs (x4).toNatClampNeg) &&& (31 : Int32)) = 12 → F_law_12 K L xs x4 μ) ∧ (((xs (x4).toNatClampNeg) &&& (31 : Int32)) = 13 → F_law_13 K L xs x4 μ) ∧ (((xs (x4).toNatClampNeg) &&& (31 : Int32)) = 14 → F_law_14 K L xs x4 μ) ∧ (((xs (x4).toNatClampNeg) &&& (31 : Int32)) = 15 → F_law_15 K L xs x4 μ) ∧ (((xs (x4).toNatClampNeg) &&& (31 : Int32)) = 16 → F_law_16 K L xs x4 μ) ∧ (((xs (x4).toNatClampNeg) &&& (31 : Int32)) = 17 → F_law_17 K L xs x4 μ) ∧ (((xs (x4).toNatClampNeg) &&& (31 : Int32)) = 18 → F_law_18 K L xs x4 μ) ∧ (((xs (x4).toNatClampNeg) &&& (31 : Int32)) = 19 → F_law_19 K L xs x4 μ)) ∧ (((xs (x4).toNatClampNeg) &&& (31 : Int32)).toInt < 0 ∨ 19 < ((xs (x4).toNatClampNeg) &&& (31 : Int32)).toInt → K (x4 + (4 : Int32)) μ))))
set_option maxHeartbeats 2000000 in
theorem b_law_h {g : GE} {f : FE} {b L : Nat} {xs : Nat → Int32} (lx : LX g f b L xs) {kc ks : Nat} (cx : Cx g f code 7 "MeshLodgerLaw" 2048 84000 kc ks) (cx1 : Cx g f code 7 "MeshLodgerLaw" 2048 84000 (kc + 1) (ks + 6)) (hk : kc + 1 ≤ 619652) (hs : ks + 6 ≤ 7237147) {x4 : Int32} {μ : Mm} (h : F_law_h (fun y μ2 => KW g f 7 (kc + 1) (ks + 6) 23 [some (.ref p_SCR), some (.ref p_ML), some (.ref p_MO), some (.ref p_OUT), some (.int y), none, none] [] μ2) L xs x4 μ) : KW g f 7 kc ks 23 [some (.ref p_SCR), some (.ref p_ML), some (.ref p_MO), some (.ref p_OUT), some (.int x4), none, none] [] μ := by
  unfold F_law_h at h
  refine k_iload cx dL_law_23 rfl ?_
  refine k_aload_n cx dL_law_25 rfl rfl ?_
  refine k_slen cx lx dL_law_26 ?_
  refine k_iconst (v := (4 : Int32)) cx dL_law_27 (by decide +kernel) ?_
  refine k_isub cx dL_law_28 ?_
  refine k_icmp_gt (tgt := 1231) cx dL_law_29 (by decide) (fun hc => ?_) (fun hc => ?_)
  · refine k_iconst (v := (1 : Int32)) cx dL_law_1231 (by decide +kernel) ?_
    exact k_lret cx lx dL_law_1232
  · replace h := h.2 hc
    refine k_aload_n cx dL_law_32 rfl rfl ?_
    refine k_iload cx dL_law_33 rfl ?_
    obtain ⟨hi, h⟩ := h
    refine k_sld cx lx hi dL_law_35 ?_
    refine k_bipush (v := (31 : Int32)) cx dL_law_36 (by decide +kernel) ?_
    refine k_iand cx dL_law_38 ?_
    by_cases hx : ((xs (x4).toNatClampNeg) &&& (31 : Int32)).toInt < 0 ∨ 19 < ((xs (x4).toNatClampNeg) &&& (31 : Int32)).toInt
    · replace h := h.2 hx
      refine k_tableOut (tgt := 1225) cx dL_law_39 hx (by decide) ?_
      refine k_iinc (v := (x4 + (4 : Int32))) cx dL_law_1225 rfl rfl (by decide) ?_
      refine k_goto (tgt := 23) cx dL_law_1228 (by decide) ?_
      exact k_widen (by omega) (by omega) (k_weak h (lsLe.keep (lsLe.keep (lsLe.keep (lsLe.keep (lsLe.keep (lsLe.keep (lsLe.keep lsLe.nil))))))))
    · replace h := h.1
      rcases sw_19 hx with hx | hx | hx | hx | hx | hx | hx | hx | hx | hx | hx | hx | hx | hx | hx | hx | hx | hx | hx | hx
      · exact k_tableIn (off := 93) (tgt := 132) cx dL_law_39 (by rw [hx]; decide) (by rw [hx]; decide) (by rw [hx]; decide) (by decide) (b_law_0 lx cx cx1 hk hs (h.1 hx))
      · exact k_tableIn (off := 149) (tgt := 188) cx dL_law_39 (by rw [hx]; decide) (by rw [hx]; decide) (by rw [hx]; decide) (by decide) (b_law_1 lx cx cx1 hk hs (h.2.1 hx))
      · exact k_tableIn (off := 229) (tgt := 268) cx dL_law_39 (by rw [hx]; decide) (by rw [hx]; decide) (by rw [hx]; decide) (by decide) (b_law_2 lx cx cx1 hk hs (h.2.2.1 hx))
      · exact k_tableIn (off := 313) (tgt := 352) cx dL_law_39 (by rw [hx]; decide) (by rw [hx]; decide) (by rw [hx]; decide) (by decide) (b_law_3 lx cx cx1 hk hs (h.2.2.2.1 hx))
      · exact k_tableIn (off := 381) (tgt := 420) cx dL_law_39 (by rw [hx]; decide) (by rw [hx]; decide) (by rw [hx]; decide) (by decide) (b_law_4 lx cx cx1 hk hs (h.2.2.2.2.1 hx))
      · exact k_tableIn (off := 461) (tgt := 500) cx dL_law_39 (by rw [hx]; decide) (by rw [hx]; decide) (by rw [hx]; decide) (by decide) (b_law_5 lx cx cx1 hk hs (h.2.2.2.2.2.1 hx))
      · exact k_tableIn (off := 474) (tgt := 513) cx dL_law_39 (by rw [hx]; decide) (by rw [hx]; decide) (by rw [hx]; decide) (by decide) (b_law_6 lx cx cx1 hk hs (h.2.2.2.2.2.2.1 hx))
      · exact k_tableIn (off := 542) (tgt := 581) cx dL_law_39 (by rw [hx]; decide) (by rw [hx]; decide) (by rw [hx]; decide) (by decide) (b_law_7 lx cx cx1 hk hs (h.2.2.2.2.2.2.2.1 hx))
      · exact k_tableIn (off := 578) (tgt := 617) cx dL_law_39 (by rw [hx]; decide) (by rw [hx]; decide) (by rw [hx]; decide) (by decide) (b_law_8 lx cx cx1 hk hs (h.2.2.2.2.2.2.2.2.1 hx))
      · exact k_tableIn (off := 658) (tgt := 697) cx dL_law_39 (by rw [hx]; decide) (by rw [hx]; decide) (by rw [hx]; decide) (by decide) (b_law_9 lx cx cx1 hk hs (h.2.2.2.2.2.2.2.2.2.1 hx))
      · exact k_tableIn (off := 714) (tgt := 753) cx dL_law_39 (by rw [hx]; decide) (by rw [hx]; decide) (by rw [hx]; decide) (by decide) (b_law_10 lx cx cx1 hk hs (h.2.2.2.2.2.2.2.2.2.2.1 hx))
      · exact k_tableIn (off := 727) (tgt := 766) cx dL_law_39 (by rw [hx]; decide) (by rw [hx]; decide) (by rw [hx]; decide) (by decide) (b_law_11 lx cx cx1 hk hs (h.2.2.2.2.2.2.2.2.2.2.2.1 hx))
      · exact k_tableIn (off := 795) (tgt := 834) cx dL_law_39 (by rw [hx]; decide) (by rw [hx]; decide) (by rw [hx]; decide) (by decide) (b_law_12 lx cx cx1 hk hs (h.2.2.2.2.2.2.2.2.2.2.2.2.1 hx))
      · exact k_tableIn (off := 863) (tgt := 902) cx dL_law_39 (by rw [hx]; decide) (by rw [hx]; decide) (by rw [hx]; decide) (by decide) (b_law_13 lx cx cx1 hk hs (h.2.2.2.2.2.2.2.2.2.2.2.2.2.1 hx))
      · exact k_tableIn (off := 931) (tgt := 970) cx dL_law_39 (by rw [hx]; decide) (by rw [hx]; decide) (by rw [hx]; decide) (by decide) (b_law_14 lx cx cx1 hk hs (h.2.2.2.2.2.2.2.2.2.2.2.2.2.2.1 hx))
      · exact k_tableIn (off := 999) (tgt := 1038) cx dL_law_39 (by rw [hx]; decide) (by rw [hx]; decide) (by rw [hx]; decide) (by decide) (b_law_15 lx cx cx1 hk hs (h.2.2.2.2.2.2.2.2.2.2.2.2.2.2.2.1 hx))
      · exact k_tableIn (off := 1067) (tgt := 1106) cx dL_law_39 (by rw [hx]; decide) (by rw [hx]; decide) (by rw [hx]; decide) (by decide) (b_law_16 lx cx cx1 hk hs (h.2.2.2.2.2.2.2.2.2.2.2.2.2.2.2.2.1 hx))
      · exact k_tableIn (off := 1147) (tgt := 1186) cx dL_law_39 (by rw [hx]; decide) (by rw [hx]; decide) (by rw [hx]; decide) (by decide) (b_law_17 lx cx cx1 hk hs (h.2.2.2.2.2.2.2.2.2.2.2.2.2.2.2.2.2.1 hx))
      · exact k_tableIn (off := 1160) (tgt := 1199) cx dL_law_39 (by rw [hx]; decide) (by rw [hx]; decide) (by rw [hx]; decide) (by decide) (b_law_18 lx cx cx1 hk hs (h.2.2.2.2.2.2.2.2.2.2.2.2.2.2.2.2.2.2.1 hx))
      · exact k_tableIn (off := 1173) (tgt := 1212) cx dL_law_39 (by rw [hx]; decide) (by rw [hx]; decide) (by rw [hx]; decide) (by decide) (b_law_19 lx cx cx1 hk hs (h.2.2.2.2.2.2.2.2.2.2.2.2.2.2.2.2.2.2.2 hx))
