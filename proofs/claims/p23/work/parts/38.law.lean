theorem dL_others_0 : decode cL_others 0 = .ok (.iload_n 1, 1) := by decide +kernel
theorem dL_others_1 : decode cL_others 1 = .ok (.bipush 6, 2) := by decide +kernel
theorem dL_others_3 : decode cL_others 3 = .ok (.irem, 1) := by decide +kernel
theorem dL_others_4 : decode cL_others 4 = .ok (.istore 5, 2) := by decide +kernel
theorem dL_others_6 : decode cL_others 6 = .ok (.iload 5, 2) := by decide +kernel
theorem dL_others_8 : decode cL_others 8 = .ok (.ifCond .ne 70, 3) := by decide +kernel
theorem dL_others_11 : decode cL_others 11 = .ok (.aload_n 3, 1) := by decide +kernel
theorem dL_others_12 : decode cL_others 12 = .ok (.iconst 2, 1) := by decide +kernel
theorem dL_others_13 : decode cL_others 13 = .ok (.iaload, 1) := by decide +kernel
theorem dL_others_14 : decode cL_others 14 = .ok (.ifCond .le 64, 3) := by decide +kernel
theorem dL_others_17 : decode cL_others 17 = .ok (.iload_n 2, 1) := by decide +kernel
theorem dL_others_18 : decode cL_others 18 = .ok (.aload_n 3, 1) := by decide +kernel
theorem dL_others_19 : decode cL_others 19 = .ok (.iconst 2, 1) := by decide +kernel
theorem dL_others_20 : decode cL_others 20 = .ok (.iaload, 1) := by decide +kernel
theorem dL_others_21 : decode cL_others 21 = .ok (.irem, 1) := by decide +kernel
theorem dL_others_22 : decode cL_others 22 = .ok (.istore 6, 2) := by decide +kernel
theorem dL_others_24 : decode cL_others 24 = .ok (.aload_n 0, 1) := by decide +kernel
theorem dL_others_25 : decode cL_others 25 = .ok (.iload 6, 2) := by decide +kernel
theorem dL_others_27 : decode cL_others 27 = .ok (.iconst 0, 1) := by decide +kernel
theorem dL_others_28 : decode cL_others 28 = .ok (.invokevirtual 43, 3) := by decide +kernel
theorem dL_others_31 : decode cL_others 31 = .ok (.istore 7, 2) := by decide +kernel
theorem dL_others_33 : decode cL_others 33 = .ok (.aload_n 0, 1) := by decide +kernel
theorem dL_others_34 : decode cL_others 34 = .ok (.iconst 5, 1) := by decide +kernel
theorem dL_others_35 : decode cL_others 35 = .ok (.iload 6, 2) := by decide +kernel
theorem dL_others_37 : decode cL_others 37 = .ok (.iconst 0, 1) := by decide +kernel
theorem dL_others_38 : decode cL_others 38 = .ok (.iconst 0, 1) := by decide +kernel
theorem dL_others_39 : decode cL_others 39 = .ok (.invokestatic 81, 3) := by decide +kernel
theorem dL_others_42 : decode cL_others 42 = .ok (.istore 8, 2) := by decide +kernel
theorem dL_others_44 : decode cL_others 44 = .ok (.iload 8, 2) := by decide +kernel
theorem dL_others_46 : decode cL_others 46 = .ok (.iload 7, 2) := by decide +kernel
theorem dL_others_48 : decode cL_others 48 = .ok (.iconst 1, 1) := by decide +kernel
theorem dL_others_49 : decode cL_others 49 = .ok (.if_icmp .ne 8, 3) := by decide +kernel
theorem dL_others_52 : decode cL_others 52 = .ok (.ldc 54, 2) := by decide +kernel
theorem dL_others_54 : decode cL_others 54 = .ok (.goto 4, 3) := by decide +kernel
theorem dL_others_57 : decode cL_others 57 = .ok (.iconst 0, 1) := by decide +kernel
theorem dL_others_58 : decode cL_others 58 = .ok (.if_icmp .ne 18, 3) := by decide +kernel
theorem dL_others_61 : decode cL_others 61 = .ok (.aload_n 0, 1) := by decide +kernel
theorem dL_others_62 : decode cL_others 62 = .ok (.iload 6, 2) := by decide +kernel
theorem dL_others_64 : decode cL_others 64 = .ok (.iconst 0, 1) := by decide +kernel
theorem dL_others_65 : decode cL_others 65 = .ok (.invokevirtual 43, 3) := by decide +kernel
theorem dL_others_68 : decode cL_others 68 = .ok (.iconst 1, 1) := by decide +kernel
theorem dL_others_69 : decode cL_others 69 = .ok (.if_icmp .ne 7, 3) := by decide +kernel
theorem dL_others_72 : decode cL_others 72 = .ok (.iconst 1, 1) := by decide +kernel
theorem dL_others_73 : decode cL_others 73 = .ok (.goto 4, 3) := by decide +kernel
theorem dL_others_77 : decode cL_others 77 = .ok (.ireturn, 1) := by decide +kernel
theorem dL_others_78 : decode cL_others 78 = .ok (.iload 5, 2) := by decide +kernel
theorem dL_others_80 : decode cL_others 80 = .ok (.iconst 3, 1) := by decide +kernel
theorem dL_others_81 : decode cL_others 81 = .ok (.if_icmp .ge 125, 3) := by decide +kernel
theorem dL_others_84 : decode cL_others 84 = .ok (.aload_n 3, 1) := by decide +kernel
theorem dL_others_85 : decode cL_others 85 = .ok (.iconst 1, 1) := by decide +kernel
theorem dL_others_86 : decode cL_others 86 = .ok (.iaload, 1) := by decide +kernel
theorem dL_others_87 : decode cL_others 87 = .ok (.ifCond .le 119, 3) := by decide +kernel
theorem dL_others_90 : decode cL_others 90 = .ok (.iload_n 2, 1) := by decide +kernel
theorem dL_others_91 : decode cL_others 91 = .ok (.aload_n 3, 1) := by decide +kernel
theorem dL_others_92 : decode cL_others 92 = .ok (.iconst 1, 1) := by decide +kernel
theorem dL_others_93 : decode cL_others 93 = .ok (.iaload, 1) := by decide +kernel
theorem dL_others_94 : decode cL_others 94 = .ok (.irem, 1) := by decide +kernel
theorem dL_others_95 : decode cL_others 95 = .ok (.istore 6, 2) := by decide +kernel
theorem dL_others_97 : decode cL_others 97 = .ok (.iconst 0, 1) := by decide +kernel
theorem dL_others_98 : decode cL_others 98 = .ok (.istore 7, 2) := by decide +kernel
theorem dL_others_100 : decode cL_others 100 = .ok (.aload_n 0, 1) := by decide +kernel
theorem dL_others_101 : decode cL_others 101 = .ok (.iload 6, 2) := by decide +kernel
theorem dL_others_103 : decode cL_others 103 = .ok (.iload_n 2, 1) := by decide +kernel
theorem dL_others_104 : decode cL_others 104 = .ok (.bipush 9, 2) := by decide +kernel
theorem dL_others_106 : decode cL_others 106 = .ok (.idiv, 1) := by decide +kernel
theorem dL_others_107 : decode cL_others 107 = .ok (.iconst 3, 1) := by decide +kernel
theorem dL_others_108 : decode cL_others 108 = .ok (.irem, 1) := by decide +kernel
theorem dL_others_109 : decode cL_others 109 = .ok (.ifCond .ne 7, 3) := by decide +kernel
theorem dL_others_112 : decode cL_others 112 = .ok (.iconst 1, 1) := by decide +kernel
theorem dL_others_113 : decode cL_others 113 = .ok (.goto 4, 3) := by decide +kernel
theorem dL_others_116 : decode cL_others 116 = .ok (.iconst 0, 1) := by decide +kernel
theorem dL_others_117 : decode cL_others 117 = .ok (.invokevirtual 109, 3) := by decide +kernel
theorem dL_others_120 : decode cL_others 120 = .ok (.istore 8, 2) := by decide +kernel
theorem dL_others_122 : decode cL_others 122 = .ok (.iconst 0, 1) := by decide +kernel
theorem dL_others_123 : decode cL_others 123 = .ok (.istore 9, 2) := by decide +kernel
theorem dL_others_125 : decode cL_others 125 = .ok (.iload 9, 2) := by decide +kernel
theorem dL_others_127 : decode cL_others 127 = .ok (.aload_n 3, 1) := by decide +kernel
theorem dL_others_128 : decode cL_others 128 = .ok (.iconst 2, 1) := by decide +kernel
theorem dL_others_129 : decode cL_others 129 = .ok (.iaload, 1) := by decide +kernel
theorem dL_others_130 : decode cL_others 130 = .ok (.if_icmp .ge 39, 3) := by decide +kernel
theorem dL_others_133 : decode cL_others 133 = .ok (.iload 7, 2) := by decide +kernel
theorem dL_others_135 : decode cL_others 135 = .ok (.aload_n 0, 1) := by decide +kernel
theorem dL_others_136 : decode cL_others 136 = .ok (.iload 9, 2) := by decide +kernel
theorem dL_others_138 : decode cL_others 138 = .ok (.iconst 0, 1) := by decide +kernel
theorem dL_others_139 : decode cL_others 139 = .ok (.invokevirtual 43, 3) := by decide +kernel
theorem dL_others_142 : decode cL_others 142 = .ok (.ifCond .ne 17, 3) := by decide +kernel
theorem dL_others_145 : decode cL_others 145 = .ok (.aload_n 0, 1) := by decide +kernel
theorem dL_others_146 : decode cL_others 146 = .ok (.iload 9, 2) := by decide +kernel
theorem dL_others_148 : decode cL_others 148 = .ok (.iconst 5, 1) := by decide +kernel
theorem dL_others_149 : decode cL_others 149 = .ok (.invokevirtual 43, 3) := by decide +kernel
theorem dL_others_152 : decode cL_others 152 = .ok (.ifCond .le 7, 3) := by decide +kernel
theorem dL_others_155 : decode cL_others 155 = .ok (.iconst 1, 1) := by decide +kernel
theorem dL_others_156 : decode cL_others 156 = .ok (.goto 4, 3) := by decide +kernel
theorem dL_others_159 : decode cL_others 159 = .ok (.iconst 0, 1) := by decide +kernel
theorem dL_others_160 : decode cL_others 160 = .ok (.iadd, 1) := by decide +kernel
theorem dL_others_161 : decode cL_others 161 = .ok (.istore 7, 2) := by decide +kernel
theorem dL_others_163 : decode cL_others 163 = .ok (.iinc 9 1, 3) := by decide +kernel
theorem dL_others_166 : decode cL_others 166 = .ok (.goto (-41), 3) := by decide +kernel
theorem dL_others_169 : decode cL_others 169 = .ok (.iload 8, 2) := by decide +kernel
theorem dL_others_171 : decode cL_others 171 = .ok (.iload 7, 2) := by decide +kernel
theorem dL_others_173 : decode cL_others 173 = .ok (.if_icmp .ne 31, 3) := by decide +kernel
theorem dL_others_176 : decode cL_others 176 = .ok (.aload_n 0, 1) := by decide +kernel
theorem dL_others_177 : decode cL_others 177 = .ok (.iload 6, 2) := by decide +kernel
theorem dL_others_179 : decode cL_others 179 = .ok (.iconst 3, 1) := by decide +kernel
theorem dL_others_180 : decode cL_others 180 = .ok (.invokevirtual 71, 3) := by decide +kernel
theorem dL_others_183 : decode cL_others 183 = .ok (.iload_n 2, 1) := by decide +kernel
theorem dL_others_184 : decode cL_others 184 = .ok (.bipush 9, 2) := by decide +kernel
theorem dL_others_186 : decode cL_others 186 = .ok (.idiv, 1) := by decide +kernel
theorem dL_others_187 : decode cL_others 187 = .ok (.iconst 3, 1) := by decide +kernel
theorem dL_others_188 : decode cL_others 188 = .ok (.irem, 1) := by decide +kernel
theorem dL_others_189 : decode cL_others 189 = .ok (.ifCond .ne 7, 3) := by decide +kernel
theorem dL_others_192 : decode cL_others 192 = .ok (.iconst 1, 1) := by decide +kernel
theorem dL_others_193 : decode cL_others 193 = .ok (.goto 4, 3) := by decide +kernel
theorem dL_others_196 : decode cL_others 196 = .ok (.iconst 0, 1) := by decide +kernel
theorem dL_others_197 : decode cL_others 197 = .ok (.if_icmp .ne 7, 3) := by decide +kernel
theorem dL_others_200 : decode cL_others 200 = .ok (.iconst 1, 1) := by decide +kernel
theorem dL_others_201 : decode cL_others 201 = .ok (.goto 4, 3) := by decide +kernel
theorem dL_others_205 : decode cL_others 205 = .ok (.ireturn, 1) := by decide +kernel
theorem dL_others_206 : decode cL_others 206 = .ok (.iload 5, 2) := by decide +kernel
theorem dL_others_208 : decode cL_others 208 = .ok (.iconst 3, 1) := by decide +kernel
theorem dL_others_209 : decode cL_others 209 = .ok (.if_icmp .ne 92, 3) := by decide +kernel
theorem dL_others_212 : decode cL_others 212 = .ok (.aload_n 3, 1) := by decide +kernel
theorem dL_others_213 : decode cL_others 213 = .ok (.iconst 3, 1) := by decide +kernel
theorem dL_others_214 : decode cL_others 214 = .ok (.dup2, 1) := by decide +kernel
theorem dL_others_215 : decode cL_others 215 = .ok (.iaload, 1) := by decide +kernel
theorem dL_others_216 : decode cL_others 216 = .ok (.iconst 1, 1) := by decide +kernel
theorem dL_others_217 : decode cL_others 217 = .ok (.iload_n 2, 1) := by decide +kernel
theorem dL_others_218 : decode cL_others 218 = .ok (.bipush 9, 2) := by decide +kernel
theorem dL_others_220 : decode cL_others 220 = .ok (.irem, 1) := by decide +kernel
theorem dL_others_221 : decode cL_others 221 = .ok (.iadd, 1) := by decide +kernel
theorem dL_others_222 : decode cL_others 222 = .ok (.iadd, 1) := by decide +kernel
theorem dL_others_223 : decode cL_others 223 = .ok (.iastore, 1) := by decide +kernel
theorem dL_others_224 : decode cL_others 224 = .ok (.aload_n 0, 1) := by decide +kernel
theorem dL_others_225 : decode cL_others 225 = .ok (.iconst 1, 1) := by decide +kernel
theorem dL_others_226 : decode cL_others 226 = .ok (.iload_n 2, 1) := by decide +kernel
theorem dL_others_227 : decode cL_others 227 = .ok (.bipush 9, 2) := by decide +kernel
theorem dL_others_229 : decode cL_others 229 = .ok (.irem, 1) := by decide +kernel
theorem dL_others_230 : decode cL_others 230 = .ok (.iadd, 1) := by decide +kernel
theorem dL_others_231 : decode cL_others 231 = .ok (.invokevirtual 113, 3) := by decide +kernel
theorem dL_others_234 : decode cL_others 234 = .ok (.aload_n 3, 1) := by decide +kernel
theorem dL_others_235 : decode cL_others 235 = .ok (.iconst 3, 1) := by decide +kernel
theorem dL_others_236 : decode cL_others 236 = .ok (.iaload, 1) := by decide +kernel
theorem dL_others_237 : decode cL_others 237 = .ok (.if_icmp .ne 7, 3) := by decide +kernel
theorem dL_others_240 : decode cL_others 240 = .ok (.iconst 1, 1) := by decide +kernel
theorem dL_others_241 : decode cL_others 241 = .ok (.goto 4, 3) := by decide +kernel
theorem dL_others_245 : decode cL_others 245 = .ok (.istore 6, 2) := by decide +kernel
theorem dL_others_247 : decode cL_others 247 = .ok (.iconst 0, 1) := by decide +kernel
theorem dL_others_248 : decode cL_others 248 = .ok (.istore 7, 2) := by decide +kernel
theorem dL_others_250 : decode cL_others 250 = .ok (.iload 7, 2) := by decide +kernel
theorem dL_others_252 : decode cL_others 252 = .ok (.aload_n 3, 1) := by decide +kernel
theorem dL_others_253 : decode cL_others 253 = .ok (.iconst 2, 1) := by decide +kernel
theorem dL_others_254 : decode cL_others 254 = .ok (.iaload, 1) := by decide +kernel
theorem dL_others_255 : decode cL_others 255 = .ok (.if_icmp .ge 43, 3) := by decide +kernel
theorem dL_others_258 : decode cL_others 258 = .ok (.iload 6, 2) := by decide +kernel
theorem dL_others_260 : decode cL_others 260 = .ok (.ifCond .eq 38, 3) := by decide +kernel
theorem dL_others_263 : decode cL_others 263 = .ok (.aload 4, 2) := by decide +kernel
theorem dL_others_265 : decode cL_others 265 = .ok (.iload 7, 2) := by decide +kernel
theorem dL_others_267 : decode cL_others 267 = .ok (.iaload, 1) := by decide +kernel
theorem dL_others_268 : decode cL_others 268 = .ok (.aload_n 3, 1) := by decide +kernel
theorem dL_others_269 : decode cL_others 269 = .ok (.iconst 3, 1) := by decide +kernel
theorem dL_others_270 : decode cL_others 270 = .ok (.iaload, 1) := by decide +kernel
theorem dL_others_271 : decode cL_others 271 = .ok (.if_icmp .gt 14, 3) := by decide +kernel
theorem dL_others_274 : decode cL_others 274 = .ok (.aload_n 0, 1) := by decide +kernel
theorem dL_others_275 : decode cL_others 275 = .ok (.iload 7, 2) := by decide +kernel
theorem dL_others_277 : decode cL_others 277 = .ok (.iconst 0, 1) := by decide +kernel
theorem dL_others_278 : decode cL_others 278 = .ok (.invokevirtual 43, 3) := by decide +kernel
theorem dL_others_281 : decode cL_others 281 = .ok (.iconst 1, 1) := by decide +kernel
theorem dL_others_282 : decode cL_others 282 = .ok (.if_icmp .ne 7, 3) := by decide +kernel
theorem dL_others_285 : decode cL_others 285 = .ok (.iconst 1, 1) := by decide +kernel
theorem dL_others_286 : decode cL_others 286 = .ok (.goto 4, 3) := by decide +kernel
theorem dL_others_290 : decode cL_others 290 = .ok (.istore 6, 2) := by decide +kernel
theorem dL_others_292 : decode cL_others 292 = .ok (.iinc 7 1, 3) := by decide +kernel
theorem dL_others_295 : decode cL_others 295 = .ok (.goto (-45), 3) := by decide +kernel
theorem dL_others_298 : decode cL_others 298 = .ok (.iload 6, 2) := by decide +kernel
theorem dL_others_300 : decode cL_others 300 = .ok (.ireturn, 1) := by decide +kernel
theorem dL_others_301 : decode cL_others 301 = .ok (.aload_n 3, 1) := by decide +kernel
theorem dL_others_302 : decode cL_others 302 = .ok (.iconst 2, 1) := by decide +kernel
theorem dL_others_303 : decode cL_others 303 = .ok (.iaload, 1) := by decide +kernel
theorem dL_others_304 : decode cL_others 304 = .ok (.ifCond .ne 5, 3) := by decide +kernel
theorem dL_others_307 : decode cL_others 307 = .ok (.iconst 1, 1) := by decide +kernel
theorem dL_others_308 : decode cL_others 308 = .ok (.ireturn, 1) := by decide +kernel
theorem dL_others_309 : decode cL_others 309 = .ok (.iload_n 2, 1) := by decide +kernel
theorem dL_others_310 : decode cL_others 310 = .ok (.aload_n 3, 1) := by decide +kernel
theorem dL_others_311 : decode cL_others 311 = .ok (.iconst 2, 1) := by decide +kernel
theorem dL_others_312 : decode cL_others 312 = .ok (.iaload, 1) := by decide +kernel
theorem dL_others_313 : decode cL_others 313 = .ok (.irem, 1) := by decide +kernel
theorem dL_others_314 : decode cL_others 314 = .ok (.istore 6, 2) := by decide +kernel
theorem dL_others_316 : decode cL_others 316 = .ok (.iload_n 2, 1) := by decide +kernel
theorem dL_others_317 : decode cL_others 317 = .ok (.bipush 12, 2) := by decide +kernel
theorem dL_others_319 : decode cL_others 319 = .ok (.idiv, 1) := by decide +kernel
theorem dL_others_320 : decode cL_others 320 = .ok (.aload_n 0, 1) := by decide +kernel
theorem dL_others_321 : decode cL_others 321 = .ok (.iload 6, 2) := by decide +kernel
theorem dL_others_323 : decode cL_others 323 = .ok (.iconst 3, 1) := by decide +kernel
theorem dL_others_324 : decode cL_others 324 = .ok (.invokevirtual 43, 3) := by decide +kernel
theorem dL_others_327 : decode cL_others 327 = .ok (.irem, 1) := by decide +kernel
theorem dL_others_328 : decode cL_others 328 = .ok (.istore 7, 2) := by decide +kernel
theorem dL_others_330 : decode cL_others 330 = .ok (.iload_n 2, 1) := by decide +kernel
theorem dL_others_331 : decode cL_others 331 = .ok (.bipush 36, 2) := by decide +kernel
theorem dL_others_333 : decode cL_others 333 = .ok (.idiv, 1) := by decide +kernel
theorem dL_others_334 : decode cL_others 334 = .ok (.aload_n 3, 1) := by decide +kernel
theorem dL_others_335 : decode cL_others 335 = .ok (.iconst 0, 1) := by decide +kernel
theorem dL_others_336 : decode cL_others 336 = .ok (.iaload, 1) := by decide +kernel
theorem dL_others_337 : decode cL_others 337 = .ok (.irem, 1) := by decide +kernel
theorem dL_others_338 : decode cL_others 338 = .ok (.istore 8, 2) := by decide +kernel
theorem dL_others_340 : decode cL_others 340 = .ok (.aload_n 0, 1) := by decide +kernel
theorem dL_others_341 : decode cL_others 341 = .ok (.iload 6, 2) := by decide +kernel
theorem dL_others_343 : decode cL_others 343 = .ok (.iload 7, 2) := by decide +kernel
theorem dL_others_345 : decode cL_others 345 = .ok (.invokevirtual 58, 3) := by decide +kernel
theorem dL_others_348 : decode cL_others 348 = .ok (.istore 9, 2) := by decide +kernel
theorem dL_others_350 : decode cL_others 350 = .ok (.aload_n 0, 1) := by decide +kernel
theorem dL_others_351 : decode cL_others 351 = .ok (.iload 6, 2) := by decide +kernel
theorem dL_others_353 : decode cL_others 353 = .ok (.iconst 0, 1) := by decide +kernel
theorem dL_others_354 : decode cL_others 354 = .ok (.invokevirtual 43, 3) := by decide +kernel
theorem dL_others_357 : decode cL_others 357 = .ok (.iconst 1, 1) := by decide +kernel
theorem dL_others_358 : decode cL_others 358 = .ok (.if_icmp .eq 14, 3) := by decide +kernel
theorem dL_others_361 : decode cL_others 361 = .ok (.aload_n 0, 1) := by decide +kernel
theorem dL_others_362 : decode cL_others 362 = .ok (.iload 6, 2) := by decide +kernel
theorem dL_others_364 : decode cL_others 364 = .ok (.iconst 1, 1) := by decide +kernel
theorem dL_others_365 : decode cL_others 365 = .ok (.invokevirtual 43, 3) := by decide +kernel
theorem dL_others_368 : decode cL_others 368 = .ok (.iconst 2, 1) := by decide +kernel
theorem dL_others_369 : decode cL_others 369 = .ok (.if_icmp .ne 7, 3) := by decide +kernel
theorem dL_others_372 : decode cL_others 372 = .ok (.iconst 1, 1) := by decide +kernel
theorem dL_others_373 : decode cL_others 373 = .ok (.goto 4, 3) := by decide +kernel
theorem dL_others_376 : decode cL_others 376 = .ok (.iconst 0, 1) := by decide +kernel
theorem dL_others_377 : decode cL_others 377 = .ok (.istore 10, 2) := by decide +kernel
theorem dL_others_379 : decode cL_others 379 = .ok (.iconst 0, 1) := by decide +kernel
theorem dL_others_380 : decode cL_others 380 = .ok (.istore 11, 2) := by decide +kernel
theorem dL_others_382 : decode cL_others 382 = .ok (.iload 11, 2) := by decide +kernel
theorem dL_others_384 : decode cL_others 384 = .ok (.aload_n 0, 1) := by decide +kernel
theorem dL_others_385 : decode cL_others 385 = .ok (.iload 6, 2) := by decide +kernel
theorem dL_others_387 : decode cL_others 387 = .ok (.iconst 4, 1) := by decide +kernel
theorem dL_others_388 : decode cL_others 388 = .ok (.invokevirtual 43, 3) := by decide +kernel
theorem dL_others_391 : decode cL_others 391 = .ok (.if_icmp .ge 33, 3) := by decide +kernel
theorem dL_others_394 : decode cL_others 394 = .ok (.iload 10, 2) := by decide +kernel
theorem dL_others_396 : decode cL_others 396 = .ok (.ifCond .ne 15, 3) := by decide +kernel
theorem dL_others_399 : decode cL_others 399 = .ok (.aload_n 0, 1) := by decide +kernel
theorem dL_others_400 : decode cL_others 400 = .ok (.iload 6, 2) := by decide +kernel
theorem dL_others_402 : decode cL_others 402 = .ok (.iload 11, 2) := by decide +kernel
theorem dL_others_404 : decode cL_others 404 = .ok (.iconst 1, 1) := by decide +kernel
theorem dL_others_405 : decode cL_others 405 = .ok (.invokevirtual 61, 3) := by decide +kernel
theorem dL_others_408 : decode cL_others 408 = .ok (.ifCond .eq 7, 3) := by decide +kernel
theorem dL_others_411 : decode cL_others 411 = .ok (.iconst 1, 1) := by decide +kernel
theorem dL_others_412 : decode cL_others 412 = .ok (.goto 4, 3) := by decide +kernel
theorem dL_others_415 : decode cL_others 415 = .ok (.iconst 0, 1) := by decide +kernel
theorem dL_others_416 : decode cL_others 416 = .ok (.istore 10, 2) := by decide +kernel
theorem dL_others_418 : decode cL_others 418 = .ok (.iinc 11 1, 3) := by decide +kernel
theorem dL_others_421 : decode cL_others 421 = .ok (.goto (-39), 3) := by decide +kernel
theorem dL_others_424 : decode cL_others 424 = .ok (.aload_n 0, 1) := by decide +kernel
theorem dL_others_425 : decode cL_others 425 = .ok (.bipush 6, 2) := by decide +kernel
theorem dL_others_427 : decode cL_others 427 = .ok (.iload 6, 2) := by decide +kernel
theorem dL_others_429 : decode cL_others 429 = .ok (.iload 7, 2) := by decide +kernel
theorem dL_others_431 : decode cL_others 431 = .ok (.iload 8, 2) := by decide +kernel
theorem dL_others_433 : decode cL_others 433 = .ok (.invokestatic 81, 3) := by decide +kernel
theorem dL_others_436 : decode cL_others 436 = .ok (.istore 11, 2) := by decide +kernel
theorem dL_others_438 : decode cL_others 438 = .ok (.iload 9, 2) := by decide +kernel
theorem dL_others_440 : decode cL_others 440 = .ok (.iload 8, 2) := by decide +kernel
theorem dL_others_442 : decode cL_others 442 = .ok (.if_icmp .ne 16, 3) := by decide +kernel
theorem dL_others_445 : decode cL_others 445 = .ok (.iload 11, 2) := by decide +kernel
theorem dL_others_447 : decode cL_others 447 = .ok (.ldc 51, 2) := by decide +kernel
theorem dL_others_449 : decode cL_others 449 = .ok (.if_icmp .ne 7, 3) := by decide +kernel
theorem dL_others_452 : decode cL_others 452 = .ok (.iconst 1, 1) := by decide +kernel
theorem dL_others_453 : decode cL_others 453 = .ok (.goto 4, 3) := by decide +kernel
theorem dL_others_457 : decode cL_others 457 = .ok (.ireturn, 1) := by decide +kernel
theorem dL_others_458 : decode cL_others 458 = .ok (.iload 10, 2) := by decide +kernel
theorem dL_others_460 : decode cL_others 460 = .ok (.ifCond .eq 31, 3) := by decide +kernel
theorem dL_others_463 : decode cL_others 463 = .ok (.iload 11, 2) := by decide +kernel
theorem dL_others_465 : decode cL_others 465 = .ok (.ldc 54, 2) := by decide +kernel
theorem dL_others_467 : decode cL_others 467 = .ok (.if_icmp .ne 20, 3) := by decide +kernel
theorem dL_others_470 : decode cL_others 470 = .ok (.aload_n 0, 1) := by decide +kernel
theorem dL_others_471 : decode cL_others 471 = .ok (.iload 6, 2) := by decide +kernel
theorem dL_others_473 : decode cL_others 473 = .ok (.iload 7, 2) := by decide +kernel
theorem dL_others_475 : decode cL_others 475 = .ok (.invokevirtual 58, 3) := by decide +kernel
theorem dL_others_478 : decode cL_others 478 = .ok (.iload 9, 2) := by decide +kernel
theorem dL_others_480 : decode cL_others 480 = .ok (.if_icmp .ne 7, 3) := by decide +kernel
theorem dL_others_483 : decode cL_others 483 = .ok (.iconst 1, 1) := by decide +kernel
theorem dL_others_484 : decode cL_others 484 = .ok (.goto 48, 3) := by decide +kernel
theorem dL_others_491 : decode cL_others 491 = .ok (.iload 11, 2) := by decide +kernel
theorem dL_others_493 : decode cL_others 493 = .ok (.iconst (-1), 1) := by decide +kernel
theorem dL_others_494 : decode cL_others 494 = .ok (.if_icmp .lt 37, 3) := by decide +kernel
theorem dL_others_497 : decode cL_others 497 = .ok (.iload 11, 2) := by decide +kernel
theorem dL_others_499 : decode cL_others 499 = .ok (.bipush 18, 2) := by decide +kernel
theorem dL_others_501 : decode cL_others 501 = .ok (.if_icmp .ge 30, 3) := by decide +kernel
theorem dL_others_504 : decode cL_others 504 = .ok (.aload_n 0, 1) := by decide +kernel
theorem dL_others_505 : decode cL_others 505 = .ok (.iload 6, 2) := by decide +kernel
theorem dL_others_507 : decode cL_others 507 = .ok (.iload 7, 2) := by decide +kernel
theorem dL_others_509 : decode cL_others 509 = .ok (.invokevirtual 58, 3) := by decide +kernel
theorem dL_others_512 : decode cL_others 512 = .ok (.iload 11, 2) := by decide +kernel
theorem dL_others_514 : decode cL_others 514 = .ok (.ifCond .ge 8, 3) := by decide +kernel
theorem dL_others_517 : decode cL_others 517 = .ok (.iload 9, 2) := by decide +kernel
theorem dL_others_519 : decode cL_others 519 = .ok (.goto 5, 3) := by decide +kernel
theorem dL_others_522 : decode cL_others 522 = .ok (.iload 8, 2) := by decide +kernel
theorem dL_others_524 : decode cL_others 524 = .ok (.if_icmp .ne 7, 3) := by decide +kernel
theorem dL_others_527 : decode cL_others 527 = .ok (.iconst 1, 1) := by decide +kernel
theorem dL_others_528 : decode cL_others 528 = .ok (.goto 4, 3) := by decide +kernel
theorem dL_others_532 : decode cL_others 532 = .ok (.ireturn, 1) := by decide +kernel
def F_L_others_58 (z : ScT) (K58 : Int32 → Int32 → Int32 → Nat → Mm → Prop) (K78 : Int32 → Int32 → Nat → Mm → Prop) (K125 : Int32 → Int32 → Int32 → Int32 → Int32 → Nat → Mm → Prop) (K206 : Int32 → Int32 → Nat → Mm → Prop) (K250 : Int32 → Nat → Mm → Prop) (K382 : Int32 → Int32 → Int32 → Int32 → Int32 → Int32 → Nat → Mm → Prop) (q : Mm → Prop) (x6 : Int32) (y0 : Int32) (y1 : Int32) (n : Nat) (μ : Mm) : Prop :=
  n + 1 ≤ 60 ∧ (((¬ (y1 = y0) → False) ∧ (y1 = y0 → T_X7_told x6 (0 : Int32) μ (fun z2 μ_1 => ((¬ (z2 = (1 : Int32)) → False) ∧ (z2 = (1 : Int32) → q μ_1))) (fun _ _ => False))))
def F_L_others_78 (z : ScT) (K58 : Int32 → Int32 → Int32 → Nat → Mm → Prop) (K78 : Int32 → Int32 → Nat → Mm → Prop) (K125 : Int32 → Int32 → Int32 → Int32 → Int32 → Nat → Mm → Prop) (K206 : Int32 → Int32 → Nat → Mm → Prop) (K250 : Int32 → Nat → Mm → Prop) (K382 : Int32 → Int32 → Int32 → Int32 → Int32 → Int32 → Nat → Mm → Prop) (q : Mm → Prop) (x2 : Int32) (x5 : Int32) (n : Nat) (μ : Mm) : Prop :=
  n + 1 ≤ 60 ∧ ((((3 : Int32) ≤ x5 → K206 x2 x5 n μ) ∧ (¬ ((3 : Int32) ≤ x5) → vp_in (1 : Int32) 5 ∧ (((μ p_LC ((1 : Int32)).toNatClampNeg) ≤ 0 → K206 x2 x5 n μ) ∧ (¬ ((μ p_LC ((1 : Int32)).toNatClampNeg) ≤ 0) → vp_in (1 : Int32) 5 ∧ ¬ ((μ p_LC ((1 : Int32)).toNatClampNeg) = 0) ∧ (∀ v6_1 : Int32, v6_1 = (irm x2 (μ p_LC ((1 : Int32)).toNatClampNeg)) → ((¬ ((irm (x2 / (9 : Int32)) (3 : Int32)) = 0) → T_X7_fail v6_1 (0 : Int32) μ (fun z3 μ_2 => K125 x2 v6_1 (0 : Int32) z3 (0 : Int32) (n + 1) μ_2) (fun _ _ => False)) ∧ ((irm (x2 / (9 : Int32)) (3 : Int32)) = 0 → T_X7_fail v6_1 (1 : Int32) μ (fun z5 μ_4 => K125 x2 v6_1 (0 : Int32) z5 (0 : Int32) (n + 1) μ_4) (fun _ _ => False)))))))))
def F_L_others_125 (z : ScT) (K58 : Int32 → Int32 → Int32 → Nat → Mm → Prop) (K78 : Int32 → Int32 → Nat → Mm → Prop) (K125 : Int32 → Int32 → Int32 → Int32 → Int32 → Nat → Mm → Prop) (K206 : Int32 → Int32 → Nat → Mm → Prop) (K250 : Int32 → Nat → Mm → Prop) (K382 : Int32 → Int32 → Int32 → Int32 → Int32 → Int32 → Nat → Mm → Prop) (q : Mm → Prop) (x2 : Int32) (x6 : Int32) (x7 : Int32) (x8 : Int32) (x9 : Int32) (n : Nat) (μ : Mm) : Prop :=
  n + 2 ≤ 60 ∧ (vp_in (2 : Int32) 5 ∧ (((μ p_LC ((2 : Int32)).toNatClampNeg) ≤ x9 → ((¬ (x8 = x7) → False) ∧ (x8 = x7 → T_X7_ofLink x6 (3 : Int32) μ (fun z2 μ_1 => ((¬ ((irm (x2 / (9 : Int32)) (3 : Int32)) = 0) → ((¬ (z2 = (0 : Int32)) → False) ∧ (z2 = (0 : Int32) → q μ_1))) ∧ ((irm (x2 / (9 : Int32)) (3 : Int32)) = 0 → ((¬ (z2 = (1 : Int32)) → False) ∧ (z2 = (1 : Int32) → q μ_1))))) (fun _ _ => False)))) ∧ (¬ ((μ p_LC ((2 : Int32)).toNatClampNeg) ≤ x9) → T_X7_told x9 (0 : Int32) μ (fun z4 μ_3 => ((¬ (z4 = 0) → (∀ v7_5 : Int32, v7_5 = (x7 + (0 : Int32)) → K125 x2 x6 v7_5 x8 (x9 + (1 : Int32)) (n + 1) μ_3)) ∧ (z4 = 0 → T_X7_told x9 (5 : Int32) μ_3 (fun z7 μ_6 => ((z7 ≤ 0 → (∀ v7_8 : Int32, v7_8 = (x7 + (0 : Int32)) → K125 x2 x6 v7_8 x8 (x9 + (1 : Int32)) (n + 2) μ_6)) ∧ (¬ (z7 ≤ 0) → (∀ v7_9 : Int32, v7_9 = (x7 + (1 : Int32)) → K125 x2 x6 v7_9 x8 (x9 + (1 : Int32)) (n + 2) μ_6)))) (fun _ _ => False)))) (fun _ _ => False))))
def F_L_others_206 (z : ScT) (K58 : Int32 → Int32 → Int32 → Nat → Mm → Prop) (K78 : Int32 → Int32 → Nat → Mm → Prop) (K125 : Int32 → Int32 → Int32 → Int32 → Int32 → Nat → Mm → Prop) (K206 : Int32 → Int32 → Nat → Mm → Prop) (K250 : Int32 → Nat → Mm → Prop) (K382 : Int32 → Int32 → Int32 → Int32 → Int32 → Int32 → Nat → Mm → Prop) (q : Mm → Prop) (x2 : Int32) (x5 : Int32) (n : Nat) (μ : Mm) : Prop :=
  n + 4 ≤ 60 ∧ (((¬ (x5 = (3 : Int32)) → vp_in (2 : Int32) 5 ∧ ((¬ ((μ p_LC ((2 : Int32)).toNatClampNeg) = 0) → vp_in (2 : Int32) 5 ∧ ¬ ((μ p_LC ((2 : Int32)).toNatClampNeg) = 0) ∧ (∀ v6_1 : Int32, v6_1 = (irm x2 (μ p_LC ((2 : Int32)).toNatClampNeg)) → T_X7_told v6_1 (3 : Int32) μ (fun z3 μ_2 => ¬ (z3 = 0) ∧ (∀ v7_4 : Int32, v7_4 = (irm (x2 / (12 : Int32)) z3) → vp_in (0 : Int32) 5 ∧ ¬ ((μ_2 p_LC ((0 : Int32)).toNatClampNeg) = 0) ∧ (∀ v8_5 : Int32, v8_5 = (irm (x2 / (36 : Int32)) (μ_2 p_LC ((0 : Int32)).toNatClampNeg)) → T_X7_at v6_1 v7_4 μ_2 (fun z7 μ_6 => T_X7_told v6_1 (0 : Int32) μ_6 (fun z9 μ_8 => ((z9 = (1 : Int32) → K382 v6_1 v7_4 v8_5 z7 (1 : Int32) (0 : Int32) (n + 3) μ_8) ∧ (¬ (z9 = (1 : Int32)) → T_X7_told v6_1 (1 : Int32) μ_8 (fun z11 μ_10 => ((¬ (z11 = (2 : Int32)) → K382 v6_1 v7_4 v8_5 z7 (0 : Int32) (0 : Int32) (n + 4) μ_10) ∧ (z11 = (2 : Int32) → K382 v6_1 v7_4 v8_5 z7 (1 : Int32) (0 : Int32) (n + 4) μ_10))) (fun _ _ => False)))) (fun _ _ => False)) (fun _ _ => False)))) (fun _ _ => False))) ∧ ((μ p_LC ((2 : Int32)).toNatClampNeg) = 0 → q μ))) ∧ (x5 = (3 : Int32) → vp_in (3 : Int32) 5 ∧ vp_in (3 : Int32) 5 ∧ (∀ μ_12 : Mm, μ_12 = (up2 μ p_LC ((3 : Int32)).toNatClampNeg ((μ p_LC ((3 : Int32)).toNatClampNeg) + ((1 : Int32) + (irm x2 (9 : Int32))))) → T_X7_pass ((1 : Int32) + (irm x2 (9 : Int32))) μ_12 (fun z14 μ_13 => vp_in (3 : Int32) 5 ∧ ((¬ (z14 = (μ_13 p_LC ((3 : Int32)).toNatClampNeg)) → False) ∧ (z14 = (μ_13 p_LC ((3 : Int32)).toNatClampNeg) → K250 (0 : Int32) (n + 1) μ_13))) (fun _ _ => False)))))
def F_L_others_250 (z : ScT) (K58 : Int32 → Int32 → Int32 → Nat → Mm → Prop) (K78 : Int32 → Int32 → Nat → Mm → Prop) (K125 : Int32 → Int32 → Int32 → Int32 → Int32 → Nat → Mm → Prop) (K206 : Int32 → Int32 → Nat → Mm → Prop) (K250 : Int32 → Nat → Mm → Prop) (K382 : Int32 → Int32 → Int32 → Int32 → Int32 → Int32 → Nat → Mm → Prop) (q : Mm → Prop) (x7 : Int32) (n : Nat) (μ : Mm) : Prop :=
  n + 1 ≤ 60 ∧ (vp_in (2 : Int32) 5 ∧ (((μ p_LC ((2 : Int32)).toNatClampNeg) ≤ x7 → q μ) ∧ (¬ ((μ p_LC ((2 : Int32)).toNatClampNeg) ≤ x7) → vp_in x7 12 ∧ vp_in (3 : Int32) 5 ∧ (((μ p_LC ((3 : Int32)).toNatClampNeg) < (μ p_LT (x7).toNatClampNeg) → K250 (x7 + (1 : Int32)) n μ) ∧ (¬ ((μ p_LC ((3 : Int32)).toNatClampNeg) < (μ p_LT (x7).toNatClampNeg)) → T_X7_told x7 (0 : Int32) μ (fun z2 μ_1 => ((¬ (z2 = (1 : Int32)) → False) ∧ (z2 = (1 : Int32) → K250 (x7 + (1 : Int32)) (n + 1) μ_1))) (fun _ _ => False))))))
def F_L_others_382 (z : ScT) (K58 : Int32 → Int32 → Int32 → Nat → Mm → Prop) (K78 : Int32 → Int32 → Nat → Mm → Prop) (K125 : Int32 → Int32 → Int32 → Int32 → Int32 → Nat → Mm → Prop) (K206 : Int32 → Int32 → Nat → Mm → Prop) (K250 : Int32 → Nat → Mm → Prop) (K382 : Int32 → Int32 → Int32 → Int32 → Int32 → Int32 → Nat → Mm → Prop) (q : Mm → Prop) (x6 : Int32) (x7 : Int32) (x8 : Int32) (x9 : Int32) (x10 : Int32) (x11 : Int32) (n : Nat) (μ : Mm) : Prop :=
  n + 3 ≤ 60 ∧ (T_X7_told x6 (4 : Int32) μ (fun z2 μ_1 => ((z2 ≤ x11 → Wp_L_asks (6 : Int32) x6 x7 x8 μ_1 (fun z4 μ_3 => ((¬ (x9 = x8) → ((x10 = 0 → ((z4 < (-1 : Int32) → False) ∧ (¬ (z4 < (-1 : Int32)) → (((18 : Int32) ≤ z4 → False) ∧ (¬ ((18 : Int32) ≤ z4) → T_X7_at x6 x7 μ_3 (fun z6 μ_5 => ((0 ≤ z4 → ((¬ (z6 = x8) → False) ∧ (z6 = x8 → q μ_5))) ∧ (¬ (0 ≤ z4) → ((¬ (z6 = x9) → False) ∧ (z6 = x9 → q μ_5))))) (fun _ _ => False)))))) ∧ (¬ (x10 = 0) → ((¬ (z4 = (-70008 : Int32)) → False) ∧ (z4 = (-70008 : Int32) → T_X7_at x6 x7 μ_3 (fun z8 μ_7 => ((¬ (z8 = x9) → False) ∧ (z8 = x9 → q μ_7))) (fun _ _ => False)))))) ∧ (x9 = x8 → ((¬ (z4 = (-70009 : Int32)) → False) ∧ (z4 = (-70009 : Int32) → q μ_3)))))) ∧ (¬ (z2 ≤ x11) → ((¬ (x10 = 0) → K382 x6 x7 x8 x9 (1 : Int32) (x11 + (1 : Int32)) (n + 1) μ_1) ∧ (x10 = 0 → T_X7_way x6 x11 (1 : Int32) μ_1 (fun z10 μ_9 => ((z10 = 0 → K382 x6 x7 x8 x9 (0 : Int32) (x11 + (1 : Int32)) (n + 2) μ_9) ∧ (¬ (z10 = 0) → K382 x6 x7 x8 x9 (1 : Int32) (x11 + (1 : Int32)) (n + 2) μ_9))) (fun _ _ => False)))))) (fun _ _ => False))
def F_L_others_e (z : ScT) (K58 : Int32 → Int32 → Int32 → Nat → Mm → Prop) (K78 : Int32 → Int32 → Nat → Mm → Prop) (K125 : Int32 → Int32 → Int32 → Int32 → Int32 → Nat → Mm → Prop) (K206 : Int32 → Int32 → Nat → Mm → Prop) (K250 : Int32 → Nat → Mm → Prop) (K382 : Int32 → Int32 → Int32 → Int32 → Int32 → Int32 → Nat → Mm → Prop) (q : Mm → Prop) (x1 : Int32) (x2 : Int32) (μ : Mm) : Prop :=
  (∀ v5_1 : Int32, v5_1 = (irm x1 (6 : Int32)) → ((¬ (v5_1 = 0) → K78 x2 v5_1 0 μ) ∧ (v5_1 = 0 → vp_in (2 : Int32) 5 ∧ (((μ p_LC ((2 : Int32)).toNatClampNeg) ≤ 0 → K78 x2 v5_1 0 μ) ∧ (¬ ((μ p_LC ((2 : Int32)).toNatClampNeg) ≤ 0) → vp_in (2 : Int32) 5 ∧ ¬ ((μ p_LC ((2 : Int32)).toNatClampNeg) = 0) ∧ (∀ v6_2 : Int32, v6_2 = (irm x2 (μ p_LC ((2 : Int32)).toNatClampNeg)) → T_X7_told v6_2 (0 : Int32) μ (fun z4 μ_3 => Wp_L_asks (5 : Int32) v6_2 (0 : Int32) (0 : Int32) μ_3 (fun z6 μ_5 => ((¬ (z4 = (1 : Int32)) → K58 v6_2 (0 : Int32) z6 2 μ_5) ∧ (z4 = (1 : Int32) → K58 v6_2 (-70008 : Int32) z6 2 μ_5)))) (fun _ _ => False)))))))
def Wp_L_others (z : ScT) (x1 : Int32) (x2 : Int32) (μ : Mm) (q : Mm → Prop) : Prop := ∀ (K58 : Int32 → Int32 → Int32 → Nat → Mm → Prop) (K78 : Int32 → Int32 → Nat → Mm → Prop) (K125 : Int32 → Int32 → Int32 → Int32 → Int32 → Nat → Mm → Prop) (K206 : Int32 → Int32 → Nat → Mm → Prop) (K250 : Int32 → Nat → Mm → Prop) (K382 : Int32 → Int32 → Int32 → Int32 → Int32 → Int32 → Nat → Mm → Prop), (∀ (x6 : Int32) (y0 : Int32) (y1 : Int32) (n : Nat) (μ : Mm), F_L_others_58 z K58 K78 K125 K206 K250 K382 q x6 y0 y1 n μ → K58 x6 y0 y1 n μ) → (∀ (x2 : Int32) (x5 : Int32) (n : Nat) (μ : Mm), F_L_others_78 z K58 K78 K125 K206 K250 K382 q x2 x5 n μ → K78 x2 x5 n μ) → (∀ (x2 : Int32) (x6 : Int32) (x7 : Int32) (x8 : Int32) (x9 : Int32) (n : Nat) (μ : Mm), F_L_others_125 z K58 K78 K125 K206 K250 K382 q x2 x6 x7 x8 x9 n μ → K125 x2 x6 x7 x8 x9 n μ) → (∀ (x2 : Int32) (x5 : Int32) (n : Nat) (μ : Mm), F_L_others_206 z K58 K78 K125 K206 K250 K382 q x2 x5 n μ → K206 x2 x5 n μ) → (∀ (x7 : Int32) (n : Nat) (μ : Mm), F_L_others_250 z K58 K78 K125 K206 K250 K382 q x7 n μ → K250 x7 n μ) → (∀ (x6 : Int32) (x7 : Int32) (x8 : Int32) (x9 : Int32) (x10 : Int32) (x11 : Int32) (n : Nat) (μ : Mm), F_L_others_382 z K58 K78 K125 K206 K250 K382 q x6 x7 x8 x9 x10 x11 n μ → K382 x6 x7 x8 x9 x10 x11 n μ) → F_L_others_e z K58 K78 K125 K206 K250 K382 q x1 x2 μ
abbrev KK_L_others_58 (g : GE) (f : FE) (z : ScT) : Int32 → Int32 → Int32 → Nat → Mm → Prop := fun x6 y0 y1 n μ => KW g f 12 n (6 * n) 58 [some (.ref p_ML), none, none, none, none, none, some (.int x6), none, none, none, none, none] [.int y0, .int y1] μ
abbrev KK_L_others_78 (g : GE) (f : FE) (z : ScT) : Int32 → Int32 → Nat → Mm → Prop := fun x2 x5 n μ => KW g f 12 n (6 * n) 78 [some (.ref p_ML), none, some (.int x2), some (.ref p_LC), some (.ref p_LT), some (.int x5), none, none, none, none, none, none] [] μ
abbrev KK_L_others_125 (g : GE) (f : FE) (z : ScT) : Int32 → Int32 → Int32 → Int32 → Int32 → Nat → Mm → Prop := fun x2 x6 x7 x8 x9 n μ => KW g f 12 n (6 * n) 125 [some (.ref p_ML), none, some (.int x2), some (.ref p_LC), none, none, some (.int x6), some (.int x7), some (.int x8), some (.int x9), none, none] [] μ
abbrev KK_L_others_206 (g : GE) (f : FE) (z : ScT) : Int32 → Int32 → Nat → Mm → Prop := fun x2 x5 n μ => KW g f 12 n (6 * n) 206 [some (.ref p_ML), none, some (.int x2), some (.ref p_LC), some (.ref p_LT), some (.int x5), none, none, none, none, none, none] [] μ
abbrev KK_L_others_250 (g : GE) (f : FE) (z : ScT) : Int32 → Nat → Mm → Prop := fun x7 n μ => KW g f 12 n (6 * n) 250 [some (.ref p_ML), none, none, some (.ref p_LC), some (.ref p_LT), none, some (.int (1 : Int32)), some (.int x7), none, none, none, none] [] μ
abbrev KK_L_others_382 (g : GE) (f : FE) (z : ScT) : Int32 → Int32 → Int32 → Int32 → Int32 → Int32 → Nat → Mm → Prop := fun x6 x7 x8 x9 x10 x11 n μ => KW g f 12 n (6 * n) 382 [some (.ref p_ML), none, none, none, none, none, some (.int x6), some (.int x7), some (.int x8), some (.int x9), some (.int x10), some (.int x11)] [] μ
set_option maxHeartbeats 4000000 in
theorem b_L_others_58 {g : GE} {f : FE} {z : ScT} {q : Mm → Prop} (hcx : (∀ n, n ≤ 60 → Cx g f cL_others 12 RL 12 296 n (6 * n))) (bx : BXl g z f) (hr : (f_M f).sig.returnType = (some .boolean)) (rx : RXl g f 60 (qTr q)) {x6 : Int32} {y0 : Int32} {y1 : Int32} {n : Nat} {μ : Mm} (h : F_L_others_58 z (KK_L_others_58 g f z) (KK_L_others_78 g f z) (KK_L_others_125 g f z) (KK_L_others_206 g f z) (KK_L_others_250 g f z) (KK_L_others_382 g f z) q x6 y0 y1 n μ) : KW g f 12 n (6 * n) 58 [some (.ref p_ML), none, none, none, none, none, some (.int x6), none, none, none, none, none] [.int y0, .int y1] μ := by
  unfold F_L_others_58 at h
  obtain ⟨hn, h⟩ := h
  have cx := hcx n (by omega)
  refine k_icmp_ne (tgt := 76) cx dL_others_58 (by decide) (fun hc => ?_) (fun hc => ?_)
  · replace h := h.1 hc
    exact h.elim
  · replace h := h.2 hc
    refine k_aload_n cx dL_others_61 rfl rfl ?_
    refine k_iload cx dL_others_62 rfl ?_
    refine k_iconst (v := (0 : Int32)) cx dL_others_64 (by decide +kernel) ?_
    obtain ⟨q0, qx0, h0, hq0, hx0⟩ := h
    refine k_callXd (As := [.int x6, .int (0 : Int32)]) (rest := []) (n2 := (n + 1)) hcx bx (m_X7_told bx.2.2.2 h0) hx0 lk_L_43 cv_L_43 ob_ML rfl rfl rfl rfl (Nat.le_of_ble_eq_true rfl) ⟨Nat.le_of_ble_eq_true rfl, Nat.le_of_ble_eq_true rfl⟩ (by omega) (by omega) dL_others_65 (fun v μ_1 hq => ?_)
    obtain ⟨z2, rfl, h⟩ := hq
    replace h := hq0 _ _ h
    have cx := hcx (n + 1) (by omega)
    refine k_iconst (v := (1 : Int32)) cx dL_others_68 (by decide +kernel) ?_
    refine k_icmp_ne (tgt := 76) cx dL_others_69 (by decide) (fun hc => ?_) (fun hc => ?_)
    · replace h := h.1 hc
      exact h.elim
    · replace h := h.2 hc
      refine k_iconst (v := (1 : Int32)) cx dL_others_72 (by decide +kernel) ?_
      refine k_goto (tgt := 77) cx dL_others_73 (by decide) ?_
      exact k_bret_T cx hr rx (by omega) dL_others_77 h
set_option maxHeartbeats 4000000 in
theorem b_L_others_78 {g : GE} {f : FE} {z : ScT} {q : Mm → Prop} (hcx : (∀ n, n ≤ 60 → Cx g f cL_others 12 RL 12 296 n (6 * n))) (bx : BXl g z f) (hr : (f_M f).sig.returnType = (some .boolean)) (rx : RXl g f 60 (qTr q)) {x2 : Int32} {x5 : Int32} {n : Nat} {μ : Mm} (h : F_L_others_78 z (KK_L_others_58 g f z) (KK_L_others_78 g f z) (KK_L_others_125 g f z) (KK_L_others_206 g f z) (KK_L_others_250 g f z) (KK_L_others_382 g f z) q x2 x5 n μ) : KW g f 12 n (6 * n) 78 [some (.ref p_ML), none, some (.int x2), some (.ref p_LC), some (.ref p_LT), some (.int x5), none, none, none, none, none, none] [] μ := by
  unfold F_L_others_78 at h
  obtain ⟨hn, h⟩ := h
  have cx := hcx n (by omega)
  refine k_iload cx dL_others_78 rfl ?_
  refine k_iconst (v := (3 : Int32)) cx dL_others_80 (by decide +kernel) ?_
  refine k_icmp_ge (tgt := 206) cx dL_others_81 (by decide) (fun hc => ?_) (fun hc => ?_)
  · replace h := h.1 hc
    exact k_weak h (lsLe.keep (lsLe.keep (lsLe.keep (lsLe.keep (lsLe.keep (lsLe.keep (lsLe.keep (lsLe.keep (lsLe.keep (lsLe.keep (lsLe.keep (lsLe.keep lsLe.nil))))))))))))
  · replace h := h.2 hc
    refine k_aload_n cx dL_others_84 rfl rfl ?_
    refine k_iconst (v := (1 : Int32)) cx dL_others_85 (by decide +kernel) ?_
    obtain ⟨hi, h⟩ := h
    refine k_iald cx ar_LC hi dL_others_86 ?_
    refine k_if_le (tgt := 206) cx dL_others_87 (by decide) (fun hc => ?_) (fun hc => ?_)
    · replace h := h.1 hc
      exact k_weak h (lsLe.keep (lsLe.keep (lsLe.keep (lsLe.keep (lsLe.keep (lsLe.keep (lsLe.keep (lsLe.keep (lsLe.keep (lsLe.keep (lsLe.keep (lsLe.keep lsLe.nil))))))))))))
    · replace h := h.2 hc
      refine k_iload_n cx dL_others_90 rfl rfl ?_
      refine k_aload_n cx dL_others_91 rfl rfl ?_
      refine k_iconst (v := (1 : Int32)) cx dL_others_92 (by decide +kernel) ?_
      obtain ⟨hi, h⟩ := h
      refine k_iald cx ar_LC hi dL_others_93 ?_
      obtain ⟨hz, h⟩ := h
      refine k_rem cx dL_others_94 hz ?_
      refine k_istore cx dL_others_95 (by decide) ?_
      generalize ev6_1 : (irm x2 (μ p_LC ((1 : Int32)).toNatClampNeg)) = v6_1
      replace h := h v6_1 ev6_1.symm
      refine k_iconst (v := (0 : Int32)) cx dL_others_97 (by decide +kernel) ?_
      refine k_istore cx dL_others_98 (by decide) ?_
      refine k_aload_n cx dL_others_100 rfl rfl ?_
      refine k_iload cx dL_others_101 rfl ?_
      refine k_iload_n cx dL_others_103 rfl rfl ?_
      refine k_bipush (v := (9 : Int32)) cx dL_others_104 (by decide +kernel) ?_
      refine k_idiv cx dL_others_106 (by decide) ?_
      refine k_iconst (v := (3 : Int32)) cx dL_others_107 (by decide +kernel) ?_
      refine k_rem cx dL_others_108 (by decide) ?_
      refine k_if_ne (tgt := 116) cx dL_others_109 (by decide) (fun hc => ?_) (fun hc => ?_)
      · replace h := h.1 hc
        refine k_iconst (v := (0 : Int32)) cx dL_others_116 (by decide +kernel) ?_
        obtain ⟨q0, qx0, h0, hq0, hx0⟩ := h
        refine k_callXd (As := [.int v6_1, .int (0 : Int32)]) (rest := []) (n2 := (n + 1)) hcx bx (m_X7_fail bx.2.2.2 h0) hx0 lk_L_109 cv_L_109 ob_ML rfl rfl rfl rfl (Nat.le_of_ble_eq_true rfl) ⟨Nat.le_of_ble_eq_true rfl, Nat.le_of_ble_eq_true rfl⟩ (by omega) (by omega) dL_others_117 (fun v μ_2 hq => ?_)
        obtain ⟨z3, rfl, h⟩ := hq
        replace h := hq0 _ _ h
        have cx := hcx (n + 1) (by omega)
        refine k_istore cx dL_others_120 (by decide) ?_
        refine k_iconst (v := (0 : Int32)) cx dL_others_122 (by decide +kernel) ?_
        refine k_istore cx dL_others_123 (by decide) ?_
        exact k_weak h (lsLe.keep (lsLe.keep (lsLe.keep (lsLe.keep (lsLe.drop (lsLe.drop (lsLe.keep (lsLe.keep (lsLe.keep (lsLe.keep (lsLe.keep (lsLe.keep lsLe.nil))))))))))))
      · replace h := h.2 hc
        refine k_iconst (v := (1 : Int32)) cx dL_others_112 (by decide +kernel) ?_
        refine k_goto (tgt := 117) cx dL_others_113 (by decide) ?_
        obtain ⟨q0, qx0, h0, hq0, hx0⟩ := h
        refine k_callXd (As := [.int v6_1, .int (1 : Int32)]) (rest := []) (n2 := (n + 1)) hcx bx (m_X7_fail bx.2.2.2 h0) hx0 lk_L_109 cv_L_109 ob_ML rfl rfl rfl rfl (Nat.le_of_ble_eq_true rfl) ⟨Nat.le_of_ble_eq_true rfl, Nat.le_of_ble_eq_true rfl⟩ (by omega) (by omega) dL_others_117 (fun v μ_4 hq => ?_)
        obtain ⟨z5, rfl, h⟩ := hq
        replace h := hq0 _ _ h
        have cx := hcx (n + 1) (by omega)
        refine k_istore cx dL_others_120 (by decide) ?_
        refine k_iconst (v := (0 : Int32)) cx dL_others_122 (by decide +kernel) ?_
        refine k_istore cx dL_others_123 (by decide) ?_
        exact k_weak h (lsLe.keep (lsLe.keep (lsLe.keep (lsLe.keep (lsLe.drop (lsLe.drop (lsLe.keep (lsLe.keep (lsLe.keep (lsLe.keep (lsLe.keep (lsLe.keep lsLe.nil))))))))))))
set_option maxHeartbeats 4000000 in
theorem b_L_others_125 {g : GE} {f : FE} {z : ScT} {q : Mm → Prop} (hcx : (∀ n, n ≤ 60 → Cx g f cL_others 12 RL 12 296 n (6 * n))) (bx : BXl g z f) (hr : (f_M f).sig.returnType = (some .boolean)) (rx : RXl g f 60 (qTr q)) {x2 : Int32} {x6 : Int32} {x7 : Int32} {x8 : Int32} {x9 : Int32} {n : Nat} {μ : Mm} (h : F_L_others_125 z (KK_L_others_58 g f z) (KK_L_others_78 g f z) (KK_L_others_125 g f z) (KK_L_others_206 g f z) (KK_L_others_250 g f z) (KK_L_others_382 g f z) q x2 x6 x7 x8 x9 n μ) : KW g f 12 n (6 * n) 125 [some (.ref p_ML), none, some (.int x2), some (.ref p_LC), none, none, some (.int x6), some (.int x7), some (.int x8), some (.int x9), none, none] [] μ := by
  unfold F_L_others_125 at h
  obtain ⟨hn, h⟩ := h
  have cx := hcx n (by omega)
  refine k_iload cx dL_others_125 rfl ?_
  refine k_aload_n cx dL_others_127 rfl rfl ?_
  refine k_iconst (v := (2 : Int32)) cx dL_others_128 (by decide +kernel) ?_
  obtain ⟨hi, h⟩ := h
  refine k_iald cx ar_LC hi dL_others_129 ?_
  refine k_icmp_ge (tgt := 169) cx dL_others_130 (by decide) (fun hc => ?_) (fun hc => ?_)
  · replace h := h.1 hc
    refine k_iload cx dL_others_169 rfl ?_
    refine k_iload cx dL_others_171 rfl ?_
    refine k_icmp_ne (tgt := 204) cx dL_others_173 (by decide) (fun hc => ?_) (fun hc => ?_)
    · replace h := h.1 hc
      exact h.elim
    · replace h := h.2 hc
      refine k_aload_n cx dL_others_176 rfl rfl ?_
      refine k_iload cx dL_others_177 rfl ?_
      refine k_iconst (v := (3 : Int32)) cx dL_others_179 (by decide +kernel) ?_
      obtain ⟨q0, qx0, h0, hq0, hx0⟩ := h
      refine k_callXd (As := [.int x6, .int (3 : Int32)]) (rest := []) (n2 := (n + 1)) hcx bx (m_X7_ofLink bx.2.2.2 h0) hx0 lk_L_71 cv_L_71 ob_ML rfl rfl rfl rfl (Nat.le_of_ble_eq_true rfl) ⟨Nat.le_of_ble_eq_true rfl, Nat.le_of_ble_eq_true rfl⟩ (by omega) (by omega) dL_others_180 (fun v μ_1 hq => ?_)
      obtain ⟨z2, rfl, h⟩ := hq
      replace h := hq0 _ _ h
      have cx := hcx (n + 1) (by omega)
      refine k_iload_n cx dL_others_183 rfl rfl ?_
      refine k_bipush (v := (9 : Int32)) cx dL_others_184 (by decide +kernel) ?_
      refine k_idiv cx dL_others_186 (by decide) ?_
      refine k_iconst (v := (3 : Int32)) cx dL_others_187 (by decide +kernel) ?_
      refine k_rem cx dL_others_188 (by decide) ?_
      refine k_if_ne (tgt := 196) cx dL_others_189 (by decide) (fun hc => ?_) (fun hc => ?_)
      · replace h := h.1 hc
        refine k_iconst (v := (0 : Int32)) cx dL_others_196 (by decide +kernel) ?_
        refine k_icmp_ne (tgt := 204) cx dL_others_197 (by decide) (fun hc => ?_) (fun hc => ?_)
        · replace h := h.1 hc
          exact h.elim
        · replace h := h.2 hc
          refine k_iconst (v := (1 : Int32)) cx dL_others_200 (by decide +kernel) ?_
          refine k_goto (tgt := 205) cx dL_others_201 (by decide) ?_
          exact k_bret_T cx hr rx (by omega) dL_others_205 h
      · replace h := h.2 hc
        refine k_iconst (v := (1 : Int32)) cx dL_others_192 (by decide +kernel) ?_
        refine k_goto (tgt := 197) cx dL_others_193 (by decide) ?_
        refine k_icmp_ne (tgt := 204) cx dL_others_197 (by decide) (fun hc => ?_) (fun hc => ?_)
        · replace h := h.1 hc
          exact h.elim
        · replace h := h.2 hc
          refine k_iconst (v := (1 : Int32)) cx dL_others_200 (by decide +kernel) ?_
          refine k_goto (tgt := 205) cx dL_others_201 (by decide) ?_
          exact k_bret_T cx hr rx (by omega) dL_others_205 h
  · replace h := h.2 hc
    refine k_iload cx dL_others_133 rfl ?_
    refine k_aload_n cx dL_others_135 rfl rfl ?_
    refine k_iload cx dL_others_136 rfl ?_
    refine k_iconst (v := (0 : Int32)) cx dL_others_138 (by decide +kernel) ?_
    obtain ⟨q0, qx0, h0, hq0, hx0⟩ := h
    refine k_callXd (As := [.int x9, .int (0 : Int32)]) (rest := [.int x7]) (n2 := (n + 1)) hcx bx (m_X7_told bx.2.2.2 h0) hx0 lk_L_43 cv_L_43 ob_ML rfl rfl rfl rfl (Nat.le_of_ble_eq_true rfl) ⟨Nat.le_of_ble_eq_true rfl, Nat.le_of_ble_eq_true rfl⟩ (by omega) (by omega) dL_others_139 (fun v μ_3 hq => ?_)
    obtain ⟨z4, rfl, h⟩ := hq
    replace h := hq0 _ _ h
    have cx := hcx (n + 1) (by omega)
    refine k_if_ne (tgt := 159) cx dL_others_142 (by decide) (fun hc => ?_) (fun hc => ?_)
    · replace h := h.1 hc
      refine k_iconst (v := (0 : Int32)) cx dL_others_159 (by decide +kernel) ?_
      refine k_iadd cx dL_others_160 ?_
      refine k_istore cx dL_others_161 (by decide) ?_
      generalize ev7_5 : (x7 + (0 : Int32)) = v7_5
      replace h := h v7_5 ev7_5.symm
      refine k_iinc (v := (x9 + (1 : Int32))) cx dL_others_163 rfl rfl (by decide) ?_
      refine k_goto (tgt := 125) cx dL_others_166 (by decide) ?_
      exact k_weak h (lsLe.keep (lsLe.keep (lsLe.keep (lsLe.keep (lsLe.keep (lsLe.keep (lsLe.keep (lsLe.keep (lsLe.keep (lsLe.keep (lsLe.keep (lsLe.keep lsLe.nil))))))))))))
    · replace h := h.2 hc
      refine k_aload_n cx dL_others_145 rfl rfl ?_
      refine k_iload cx dL_others_146 rfl ?_
      refine k_iconst (v := (5 : Int32)) cx dL_others_148 (by decide +kernel) ?_
      obtain ⟨q0, qx0, h0, hq0, hx0⟩ := h
      refine k_callXd (As := [.int x9, .int (5 : Int32)]) (rest := [.int x7]) (n2 := (n + 2)) hcx bx (m_X7_told bx.2.2.2 h0) hx0 lk_L_43 cv_L_43 ob_ML rfl rfl rfl rfl (Nat.le_of_ble_eq_true rfl) ⟨Nat.le_of_ble_eq_true rfl, Nat.le_of_ble_eq_true rfl⟩ (by omega) (by omega) dL_others_149 (fun v μ_6 hq => ?_)
      obtain ⟨z7, rfl, h⟩ := hq
      replace h := hq0 _ _ h
      have cx := hcx (n + 2) (by omega)
      refine k_if_le (tgt := 159) cx dL_others_152 (by decide) (fun hc => ?_) (fun hc => ?_)
      · replace h := h.1 hc
        refine k_iconst (v := (0 : Int32)) cx dL_others_159 (by decide +kernel) ?_
        refine k_iadd cx dL_others_160 ?_
        refine k_istore cx dL_others_161 (by decide) ?_
        generalize ev7_8 : (x7 + (0 : Int32)) = v7_8
        replace h := h v7_8 ev7_8.symm
        refine k_iinc (v := (x9 + (1 : Int32))) cx dL_others_163 rfl rfl (by decide) ?_
        refine k_goto (tgt := 125) cx dL_others_166 (by decide) ?_
        exact k_weak h (lsLe.keep (lsLe.keep (lsLe.keep (lsLe.keep (lsLe.keep (lsLe.keep (lsLe.keep (lsLe.keep (lsLe.keep (lsLe.keep (lsLe.keep (lsLe.keep lsLe.nil))))))))))))
      · replace h := h.2 hc
        refine k_iconst (v := (1 : Int32)) cx dL_others_155 (by decide +kernel) ?_
        refine k_goto (tgt := 160) cx dL_others_156 (by decide) ?_
        refine k_iadd cx dL_others_160 ?_
        refine k_istore cx dL_others_161 (by decide) ?_
        generalize ev7_9 : (x7 + (1 : Int32)) = v7_9
        replace h := h v7_9 ev7_9.symm
        refine k_iinc (v := (x9 + (1 : Int32))) cx dL_others_163 rfl rfl (by decide) ?_
        refine k_goto (tgt := 125) cx dL_others_166 (by decide) ?_
        exact k_weak h (lsLe.keep (lsLe.keep (lsLe.keep (lsLe.keep (lsLe.keep (lsLe.keep (lsLe.keep (lsLe.keep (lsLe.keep (lsLe.keep (lsLe.keep (lsLe.keep lsLe.nil))))))))))))
set_option maxHeartbeats 4000000 in
theorem b_L_others_206 {g : GE} {f : FE} {z : ScT} {q : Mm → Prop} (hcx : (∀ n, n ≤ 60 → Cx g f cL_others 12 RL 12 296 n (6 * n))) (bx : BXl g z f) (hr : (f_M f).sig.returnType = (some .boolean)) (rx : RXl g f 60 (qTr q)) {x2 : Int32} {x5 : Int32} {n : Nat} {μ : Mm} (h : F_L_others_206 z (KK_L_others_58 g f z) (KK_L_others_78 g f z) (KK_L_others_125 g f z) (KK_L_others_206 g f z) (KK_L_others_250 g f z) (KK_L_others_382 g f z) q x2 x5 n μ) : KW g f 12 n (6 * n) 206 [some (.ref p_ML), none, some (.int x2), some (.ref p_LC), some (.ref p_LT), some (.int x5), none, none, none, none, none, none] [] μ := by
  unfold F_L_others_206 at h
  obtain ⟨hn, h⟩ := h
  have cx := hcx n (by omega)
  refine k_iload cx dL_others_206 rfl ?_
  refine k_iconst (v := (3 : Int32)) cx dL_others_208 (by decide +kernel) ?_
  refine k_icmp_ne (tgt := 301) cx dL_others_209 (by decide) (fun hc => ?_) (fun hc => ?_)
  · replace h := h.1 hc
    refine k_aload_n cx dL_others_301 rfl rfl ?_
    refine k_iconst (v := (2 : Int32)) cx dL_others_302 (by decide +kernel) ?_
    obtain ⟨hi, h⟩ := h
    refine k_iald cx ar_LC hi dL_others_303 ?_
    refine k_if_ne (tgt := 309) cx dL_others_304 (by decide) (fun hc => ?_) (fun hc => ?_)
    · replace h := h.1 hc
      refine k_iload_n cx dL_others_309 rfl rfl ?_
      refine k_aload_n cx dL_others_310 rfl rfl ?_
      refine k_iconst (v := (2 : Int32)) cx dL_others_311 (by decide +kernel) ?_
      obtain ⟨hi, h⟩ := h
      refine k_iald cx ar_LC hi dL_others_312 ?_
      obtain ⟨hz, h⟩ := h
      refine k_rem cx dL_others_313 hz ?_
      refine k_istore cx dL_others_314 (by decide) ?_
      generalize ev6_1 : (irm x2 (μ p_LC ((2 : Int32)).toNatClampNeg)) = v6_1
      replace h := h v6_1 ev6_1.symm
      refine k_iload_n cx dL_others_316 rfl rfl ?_
      refine k_bipush (v := (12 : Int32)) cx dL_others_317 (by decide +kernel) ?_
      refine k_idiv cx dL_others_319 (by decide) ?_
      refine k_aload_n cx dL_others_320 rfl rfl ?_
      refine k_iload cx dL_others_321 rfl ?_
      refine k_iconst (v := (3 : Int32)) cx dL_others_323 (by decide +kernel) ?_
      obtain ⟨q0, qx0, h0, hq0, hx0⟩ := h
      refine k_callXd (As := [.int v6_1, .int (3 : Int32)]) (rest := [.int (x2 / (12 : Int32))]) (n2 := (n + 1)) hcx bx (m_X7_told bx.2.2.2 h0) hx0 lk_L_43 cv_L_43 ob_ML rfl rfl rfl rfl (Nat.le_of_ble_eq_true rfl) ⟨Nat.le_of_ble_eq_true rfl, Nat.le_of_ble_eq_true rfl⟩ (by omega) (by omega) dL_others_324 (fun v μ_2 hq => ?_)
      obtain ⟨z3, rfl, h⟩ := hq
      replace h := hq0 _ _ h
      have cx := hcx (n + 1) (by omega)
      obtain ⟨hz, h⟩ := h
      refine k_rem cx dL_others_327 hz ?_
      refine k_istore cx dL_others_328 (by decide) ?_
      generalize ev7_4 : (irm (x2 / (12 : Int32)) z3) = v7_4
      replace h := h v7_4 ev7_4.symm
      refine k_iload_n cx dL_others_330 rfl rfl ?_
      refine k_bipush (v := (36 : Int32)) cx dL_others_331 (by decide +kernel) ?_
      refine k_idiv cx dL_others_333 (by decide) ?_
      refine k_aload_n cx dL_others_334 rfl rfl ?_
      refine k_iconst (v := (0 : Int32)) cx dL_others_335 (by decide +kernel) ?_
      obtain ⟨hi, h⟩ := h
      refine k_iald cx ar_LC hi dL_others_336 ?_
      obtain ⟨hz, h⟩ := h
      refine k_rem cx dL_others_337 hz ?_
      refine k_istore cx dL_others_338 (by decide) ?_
      generalize ev8_5 : (irm (x2 / (36 : Int32)) (μ_2 p_LC ((0 : Int32)).toNatClampNeg)) = v8_5
      replace h := h v8_5 ev8_5.symm
      refine k_aload_n cx dL_others_340 rfl rfl ?_
      refine k_iload cx dL_others_341 rfl ?_
      refine k_iload cx dL_others_343 rfl ?_
      obtain ⟨q0, qx0, h0, hq0, hx0⟩ := h
      refine k_callXd (As := [.int v6_1, .int v7_4]) (rest := []) (n2 := (n + 2)) hcx bx (m_X7_at bx.2.2.2 h0) hx0 lk_L_58 cv_L_58 ob_ML rfl rfl rfl rfl (Nat.le_of_ble_eq_true rfl) ⟨Nat.le_of_ble_eq_true rfl, Nat.le_of_ble_eq_true rfl⟩ (by omega) (by omega) dL_others_345 (fun v μ_6 hq => ?_)
      obtain ⟨z7, rfl, h⟩ := hq
      replace h := hq0 _ _ h
      have cx := hcx (n + 2) (by omega)
      refine k_istore cx dL_others_348 (by decide) ?_
      refine k_aload_n cx dL_others_350 rfl rfl ?_
      refine k_iload cx dL_others_351 rfl ?_
      refine k_iconst (v := (0 : Int32)) cx dL_others_353 (by decide +kernel) ?_
      obtain ⟨q0, qx0, h0, hq0, hx0⟩ := h
      refine k_callXd (As := [.int v6_1, .int (0 : Int32)]) (rest := []) (n2 := (n + 3)) hcx bx (m_X7_told bx.2.2.2 h0) hx0 lk_L_43 cv_L_43 ob_ML rfl rfl rfl rfl (Nat.le_of_ble_eq_true rfl) ⟨Nat.le_of_ble_eq_true rfl, Nat.le_of_ble_eq_true rfl⟩ (by omega) (by omega) dL_others_354 (fun v μ_8 hq => ?_)
      obtain ⟨z9, rfl, h⟩ := hq
      replace h := hq0 _ _ h
      have cx := hcx (n + 3) (by omega)
      refine k_iconst (v := (1 : Int32)) cx dL_others_357 (by decide +kernel) ?_
      refine k_icmp_eq (tgt := 372) cx dL_others_358 (by decide) (fun hc => ?_) (fun hc => ?_)
      · replace h := h.1 hc
        refine k_iconst (v := (1 : Int32)) cx dL_others_372 (by decide +kernel) ?_
        refine k_goto (tgt := 377) cx dL_others_373 (by decide) ?_
        refine k_istore cx dL_others_377 (by decide) ?_
        refine k_iconst (v := (0 : Int32)) cx dL_others_379 (by decide +kernel) ?_
        refine k_istore cx dL_others_380 (by decide) ?_
        exact k_weak h (lsLe.keep (lsLe.keep (lsLe.drop (lsLe.drop (lsLe.drop (lsLe.drop (lsLe.keep (lsLe.keep (lsLe.keep (lsLe.keep (lsLe.keep (lsLe.keep lsLe.nil))))))))))))
      · replace h := h.2 hc
        refine k_aload_n cx dL_others_361 rfl rfl ?_
        refine k_iload cx dL_others_362 rfl ?_
        refine k_iconst (v := (1 : Int32)) cx dL_others_364 (by decide +kernel) ?_
        obtain ⟨q0, qx0, h0, hq0, hx0⟩ := h
        refine k_callXd (As := [.int v6_1, .int (1 : Int32)]) (rest := []) (n2 := (n + 4)) hcx bx (m_X7_told bx.2.2.2 h0) hx0 lk_L_43 cv_L_43 ob_ML rfl rfl rfl rfl (Nat.le_of_ble_eq_true rfl) ⟨Nat.le_of_ble_eq_true rfl, Nat.le_of_ble_eq_true rfl⟩ (by omega) (by omega) dL_others_365 (fun v μ_10 hq => ?_)
        obtain ⟨z11, rfl, h⟩ := hq
        replace h := hq0 _ _ h
        have cx := hcx (n + 4) (by omega)
        refine k_iconst (v := (2 : Int32)) cx dL_others_368 (by decide +kernel) ?_
        refine k_icmp_ne (tgt := 376) cx dL_others_369 (by decide) (fun hc => ?_) (fun hc => ?_)
        · replace h := h.1 hc
          refine k_iconst (v := (0 : Int32)) cx dL_others_376 (by decide +kernel) ?_
          refine k_istore cx dL_others_377 (by decide) ?_
          refine k_iconst (v := (0 : Int32)) cx dL_others_379 (by decide +kernel) ?_
          refine k_istore cx dL_others_380 (by decide) ?_
          exact k_weak h (lsLe.keep (lsLe.keep (lsLe.drop (lsLe.drop (lsLe.drop (lsLe.drop (lsLe.keep (lsLe.keep (lsLe.keep (lsLe.keep (lsLe.keep (lsLe.keep lsLe.nil))))))))))))
        · replace h := h.2 hc
          refine k_iconst (v := (1 : Int32)) cx dL_others_372 (by decide +kernel) ?_
          refine k_goto (tgt := 377) cx dL_others_373 (by decide) ?_
          refine k_istore cx dL_others_377 (by decide) ?_
          refine k_iconst (v := (0 : Int32)) cx dL_others_379 (by decide +kernel) ?_
          refine k_istore cx dL_others_380 (by decide) ?_
          exact k_weak h (lsLe.keep (lsLe.keep (lsLe.drop (lsLe.drop (lsLe.drop (lsLe.drop (lsLe.keep (lsLe.keep (lsLe.keep (lsLe.keep (lsLe.keep (lsLe.keep lsLe.nil))))))))))))
    · replace h := h.2 hc
      refine k_iconst (v := (1 : Int32)) cx dL_others_307 (by decide +kernel) ?_
      exact k_bret_T cx hr rx (by omega) dL_others_308 h
  · replace h := h.2 hc
    refine k_aload_n cx dL_others_212 rfl rfl ?_
    refine k_iconst (v := (3 : Int32)) cx dL_others_213 (by decide +kernel) ?_
    refine k_dup2 cx dL_others_214 rfl rfl ?_
    obtain ⟨hi, h⟩ := h
    refine k_iald cx ar_LC hi dL_others_215 ?_
    refine k_iconst (v := (1 : Int32)) cx dL_others_216 (by decide +kernel) ?_
    refine k_iload_n cx dL_others_217 rfl rfl ?_
    refine k_bipush (v := (9 : Int32)) cx dL_others_218 (by decide +kernel) ?_
    refine k_rem cx dL_others_220 (by decide) ?_
    refine k_iadd cx dL_others_221 ?_
    refine k_iadd cx dL_others_222 ?_
    obtain ⟨hi, h⟩ := h
    refine k_iast cx ar_LC hi dL_others_223 ?_
    generalize eμ_12 : (up2 μ p_LC ((3 : Int32)).toNatClampNeg ((μ p_LC ((3 : Int32)).toNatClampNeg) + ((1 : Int32) + (irm x2 (9 : Int32))))) = μ_12
    replace h := h μ_12 eμ_12.symm
    refine k_aload_n cx dL_others_224 rfl rfl ?_
    refine k_iconst (v := (1 : Int32)) cx dL_others_225 (by decide +kernel) ?_
    refine k_iload_n cx dL_others_226 rfl rfl ?_
    refine k_bipush (v := (9 : Int32)) cx dL_others_227 (by decide +kernel) ?_
    refine k_rem cx dL_others_229 (by decide) ?_
    refine k_iadd cx dL_others_230 ?_
    obtain ⟨q0, qx0, h0, hq0, hx0⟩ := h
    refine k_callXd (As := [.int ((1 : Int32) + (irm x2 (9 : Int32)))]) (rest := []) (n2 := (n + 1)) hcx bx (m_X7_pass bx.2.2.2 h0) hx0 lk_L_113 cv_L_113 ob_ML rfl rfl rfl rfl (Nat.le_of_ble_eq_true rfl) ⟨Nat.le_of_ble_eq_true rfl, Nat.le_of_ble_eq_true rfl⟩ (by omega) (by omega) dL_others_231 (fun v μ_13 hq => ?_)
    obtain ⟨z14, rfl, h⟩ := hq
    replace h := hq0 _ _ h
    have cx := hcx (n + 1) (by omega)
    refine k_aload_n cx dL_others_234 rfl rfl ?_
    refine k_iconst (v := (3 : Int32)) cx dL_others_235 (by decide +kernel) ?_
    obtain ⟨hi, h⟩ := h
    refine k_iald cx ar_LC hi dL_others_236 ?_
    refine k_icmp_ne (tgt := 244) cx dL_others_237 (by decide) (fun hc => ?_) (fun hc => ?_)
    · replace h := h.1 hc
      exact h.elim
    · replace h := h.2 hc
      refine k_iconst (v := (1 : Int32)) cx dL_others_240 (by decide +kernel) ?_
      refine k_goto (tgt := 245) cx dL_others_241 (by decide) ?_
      refine k_istore cx dL_others_245 (by decide) ?_
      refine k_iconst (v := (0 : Int32)) cx dL_others_247 (by decide +kernel) ?_
      refine k_istore cx dL_others_248 (by decide) ?_
      exact k_weak h (lsLe.keep (lsLe.keep (lsLe.drop (lsLe.keep (lsLe.keep (lsLe.drop (lsLe.keep (lsLe.keep (lsLe.keep (lsLe.keep (lsLe.keep (lsLe.keep lsLe.nil))))))))))))
set_option maxHeartbeats 4000000 in
theorem b_L_others_250 {g : GE} {f : FE} {z : ScT} {q : Mm → Prop} (hcx : (∀ n, n ≤ 60 → Cx g f cL_others 12 RL 12 296 n (6 * n))) (bx : BXl g z f) (hr : (f_M f).sig.returnType = (some .boolean)) (rx : RXl g f 60 (qTr q)) {x7 : Int32} {n : Nat} {μ : Mm} (h : F_L_others_250 z (KK_L_others_58 g f z) (KK_L_others_78 g f z) (KK_L_others_125 g f z) (KK_L_others_206 g f z) (KK_L_others_250 g f z) (KK_L_others_382 g f z) q x7 n μ) : KW g f 12 n (6 * n) 250 [some (.ref p_ML), none, none, some (.ref p_LC), some (.ref p_LT), none, some (.int (1 : Int32)), some (.int x7), none, none, none, none] [] μ := by
  unfold F_L_others_250 at h
  obtain ⟨hn, h⟩ := h
  have cx := hcx n (by omega)
  refine k_iload cx dL_others_250 rfl ?_
  refine k_aload_n cx dL_others_252 rfl rfl ?_
  refine k_iconst (v := (2 : Int32)) cx dL_others_253 (by decide +kernel) ?_
  obtain ⟨hi, h⟩ := h
  refine k_iald cx ar_LC hi dL_others_254 ?_
  refine k_icmp_ge (tgt := 298) cx dL_others_255 (by decide) (fun hc => ?_) (fun hc => ?_)
  · replace h := h.1 hc
    refine k_iload cx dL_others_298 rfl ?_
    exact k_bret_T cx hr rx (by omega) dL_others_300 h
  · replace h := h.2 hc
    refine k_iload cx dL_others_258 rfl ?_
    refine k_if_eq (tgt := 298) cx dL_others_260 (by decide) (fun hc => absurd hc (by decide)) (fun _ => ?_)
    refine k_aload cx dL_others_263 rfl ?_
    refine k_iload cx dL_others_265 rfl ?_
    obtain ⟨hi, h⟩ := h
    refine k_iald cx ar_LT hi dL_others_267 ?_
    refine k_aload_n cx dL_others_268 rfl rfl ?_
    refine k_iconst (v := (3 : Int32)) cx dL_others_269 (by decide +kernel) ?_
    obtain ⟨hi, h⟩ := h
    refine k_iald cx ar_LC hi dL_others_270 ?_
    refine k_icmp_gt (tgt := 285) cx dL_others_271 (by decide) (fun hc => ?_) (fun hc => ?_)
    · replace h := h.1 hc
      refine k_iconst (v := (1 : Int32)) cx dL_others_285 (by decide +kernel) ?_
      refine k_goto (tgt := 290) cx dL_others_286 (by decide) ?_
      refine k_istore cx dL_others_290 (by decide) ?_
      refine k_iinc (v := (x7 + (1 : Int32))) cx dL_others_292 rfl rfl (by decide) ?_
      refine k_goto (tgt := 250) cx dL_others_295 (by decide) ?_
      exact k_weak h (lsLe.keep (lsLe.keep (lsLe.keep (lsLe.keep (lsLe.keep (lsLe.keep (lsLe.keep (lsLe.keep (lsLe.keep (lsLe.keep (lsLe.keep (lsLe.keep lsLe.nil))))))))))))
    · replace h := h.2 hc
      refine k_aload_n cx dL_others_274 rfl rfl ?_
      refine k_iload cx dL_others_275 rfl ?_
      refine k_iconst (v := (0 : Int32)) cx dL_others_277 (by decide +kernel) ?_
      obtain ⟨q0, qx0, h0, hq0, hx0⟩ := h
      refine k_callXd (As := [.int x7, .int (0 : Int32)]) (rest := []) (n2 := (n + 1)) hcx bx (m_X7_told bx.2.2.2 h0) hx0 lk_L_43 cv_L_43 ob_ML rfl rfl rfl rfl (Nat.le_of_ble_eq_true rfl) ⟨Nat.le_of_ble_eq_true rfl, Nat.le_of_ble_eq_true rfl⟩ (by omega) (by omega) dL_others_278 (fun v μ_1 hq => ?_)
      obtain ⟨z2, rfl, h⟩ := hq
      replace h := hq0 _ _ h
      have cx := hcx (n + 1) (by omega)
      refine k_iconst (v := (1 : Int32)) cx dL_others_281 (by decide +kernel) ?_
      refine k_icmp_ne (tgt := 289) cx dL_others_282 (by decide) (fun hc => ?_) (fun hc => ?_)
      · replace h := h.1 hc
        exact h.elim
      · replace h := h.2 hc
        refine k_iconst (v := (1 : Int32)) cx dL_others_285 (by decide +kernel) ?_
        refine k_goto (tgt := 290) cx dL_others_286 (by decide) ?_
        refine k_istore cx dL_others_290 (by decide) ?_
        refine k_iinc (v := (x7 + (1 : Int32))) cx dL_others_292 rfl rfl (by decide) ?_
        refine k_goto (tgt := 250) cx dL_others_295 (by decide) ?_
        exact k_weak h (lsLe.keep (lsLe.keep (lsLe.keep (lsLe.keep (lsLe.keep (lsLe.keep (lsLe.keep (lsLe.keep (lsLe.keep (lsLe.keep (lsLe.keep (lsLe.keep lsLe.nil))))))))))))
set_option maxHeartbeats 4000000 in
theorem b_L_others_382 {g : GE} {f : FE} {z : ScT} {q : Mm → Prop} (hcx : (∀ n, n ≤ 60 → Cx g f cL_others 12 RL 12 296 n (6 * n))) (bx : BXl g z f) (hr : (f_M f).sig.returnType = (some .boolean)) (rx : RXl g f 60 (qTr q)) {x6 : Int32} {x7 : Int32} {x8 : Int32} {x9 : Int32} {x10 : Int32} {x11 : Int32} {n : Nat} {μ : Mm} (h : F_L_others_382 z (KK_L_others_58 g f z) (KK_L_others_78 g f z) (KK_L_others_125 g f z) (KK_L_others_206 g f z) (KK_L_others_250 g f z) (KK_L_others_382 g f z) q x6 x7 x8 x9 x10 x11 n μ) : KW g f 12 n (6 * n) 382 [some (.ref p_ML), none, none, none, none, none, some (.int x6), some (.int x7), some (.int x8), some (.int x9), some (.int x10), some (.int x11)] [] μ := by
  unfold F_L_others_382 at h
  obtain ⟨hn, h⟩ := h
  have cx := hcx n (by omega)
  refine k_iload cx dL_others_382 rfl ?_
  refine k_aload_n cx dL_others_384 rfl rfl ?_
  refine k_iload cx dL_others_385 rfl ?_
  refine k_iconst (v := (4 : Int32)) cx dL_others_387 (by decide +kernel) ?_
  obtain ⟨q0, qx0, h0, hq0, hx0⟩ := h
  refine k_callXd (As := [.int x6, .int (4 : Int32)]) (rest := [.int x11]) (n2 := (n + 1)) hcx bx (m_X7_told bx.2.2.2 h0) hx0 lk_L_43 cv_L_43 ob_ML rfl rfl rfl rfl (Nat.le_of_ble_eq_true rfl) ⟨Nat.le_of_ble_eq_true rfl, Nat.le_of_ble_eq_true rfl⟩ (by omega) (by omega) dL_others_388 (fun v μ_1 hq => ?_)
  obtain ⟨z2, rfl, h⟩ := hq
  replace h := hq0 _ _ h
  have cx := hcx (n + 1) (by omega)
  refine k_icmp_ge (tgt := 424) cx dL_others_391 (by decide) (fun hc => ?_) (fun hc => ?_)
  · replace h := h.1 hc
    refine k_aload_n cx dL_others_424 rfl rfl ?_
    refine k_bipush (v := (6 : Int32)) cx dL_others_425 (by decide +kernel) ?_
    refine k_iload cx dL_others_427 rfl ?_
    refine k_iload cx dL_others_429 rfl ?_
    refine k_iload cx dL_others_431 rfl ?_
    refine k_callH (As := [.ref p_ML, .int (6 : Int32), .int x6, .int x7, .int x8]) (rest := []) (n2 := (n + 2)) hcx bx (m_L_asks bx.2.2.2 h) ch_L_asks rfl rfl (Nat.le_of_ble_eq_true rfl) ⟨Nat.le_of_ble_eq_true rfl, Nat.le_of_ble_eq_true rfl⟩ (by omega) (by omega) dL_others_433 (fun v μ_3 hq => ?_)
    obtain ⟨z4, rfl, h⟩ := hq
    have cx := hcx (n + 2) (by omega)
    refine k_istore cx dL_others_436 (by decide) ?_
    refine k_iload cx dL_others_438 rfl ?_
    refine k_iload cx dL_others_440 rfl ?_
    refine k_icmp_ne (tgt := 458) cx dL_others_442 (by decide) (fun hc => ?_) (fun hc => ?_)
    · replace h := h.1 hc
      refine k_iload cx dL_others_458 rfl ?_
      refine k_if_eq (tgt := 491) cx dL_others_460 (by decide) (fun hc => ?_) (fun hc => ?_)
      · replace h := h.1 hc
        refine k_iload cx dL_others_491 rfl ?_
        refine k_iconst (v := (-1 : Int32)) cx dL_others_493 (by decide +kernel) ?_
        refine k_icmp_lt (tgt := 531) cx dL_others_494 (by decide) (fun hc => ?_) (fun hc => ?_)
        · replace h := h.1 hc
          exact h.elim
        · replace h := h.2 hc
          refine k_iload cx dL_others_497 rfl ?_
          refine k_bipush (v := (18 : Int32)) cx dL_others_499 (by decide +kernel) ?_
          refine k_icmp_ge (tgt := 531) cx dL_others_501 (by decide) (fun hc => ?_) (fun hc => ?_)
          · replace h := h.1 hc
            exact h.elim
          · replace h := h.2 hc
            refine k_aload_n cx dL_others_504 rfl rfl ?_
            refine k_iload cx dL_others_505 rfl ?_
            refine k_iload cx dL_others_507 rfl ?_
            obtain ⟨q0, qx0, h0, hq0, hx0⟩ := h
            refine k_callXd (As := [.int x6, .int x7]) (rest := []) (n2 := (n + 3)) hcx bx (m_X7_at bx.2.2.2 h0) hx0 lk_L_58 cv_L_58 ob_ML rfl rfl rfl rfl (Nat.le_of_ble_eq_true rfl) ⟨Nat.le_of_ble_eq_true rfl, Nat.le_of_ble_eq_true rfl⟩ (by omega) (by omega) dL_others_509 (fun v μ_5 hq => ?_)
            obtain ⟨z6, rfl, h⟩ := hq
            replace h := hq0 _ _ h
            have cx := hcx (n + 3) (by omega)
            refine k_iload cx dL_others_512 rfl ?_
            refine k_if_ge (tgt := 522) cx dL_others_514 (by decide) (fun hc => ?_) (fun hc => ?_)
            · replace h := h.1 hc
              refine k_iload cx dL_others_522 rfl ?_
              refine k_icmp_ne (tgt := 531) cx dL_others_524 (by decide) (fun hc => ?_) (fun hc => ?_)
              · replace h := h.1 hc
                exact h.elim
              · replace h := h.2 hc
                refine k_iconst (v := (1 : Int32)) cx dL_others_527 (by decide +kernel) ?_
                refine k_goto (tgt := 532) cx dL_others_528 (by decide) ?_
                exact k_bret_T cx hr rx (by omega) dL_others_532 h
            · replace h := h.2 hc
              refine k_iload cx dL_others_517 rfl ?_
              refine k_goto (tgt := 524) cx dL_others_519 (by decide) ?_
              refine k_icmp_ne (tgt := 531) cx dL_others_524 (by decide) (fun hc => ?_) (fun hc => ?_)
              · replace h := h.1 hc
                exact h.elim
              · replace h := h.2 hc
                refine k_iconst (v := (1 : Int32)) cx dL_others_527 (by decide +kernel) ?_
                refine k_goto (tgt := 532) cx dL_others_528 (by decide) ?_
                exact k_bret_T cx hr rx (by omega) dL_others_532 h
      · replace h := h.2 hc
        refine k_iload cx dL_others_463 rfl ?_
        refine k_ldc (v := (-70008 : Int32)) cx kc_L_54 dL_others_465 ?_
        refine k_icmp_ne (tgt := 487) cx dL_others_467 (by decide) (fun hc => ?_) (fun hc => ?_)
        · replace h := h.1 hc
          exact h.elim
        · replace h := h.2 hc
          refine k_aload_n cx dL_others_470 rfl rfl ?_
          refine k_iload cx dL_others_471 rfl ?_
          refine k_iload cx dL_others_473 rfl ?_
          obtain ⟨q0, qx0, h0, hq0, hx0⟩ := h
          refine k_callXd (As := [.int x6, .int x7]) (rest := []) (n2 := (n + 3)) hcx bx (m_X7_at bx.2.2.2 h0) hx0 lk_L_58 cv_L_58 ob_ML rfl rfl rfl rfl (Nat.le_of_ble_eq_true rfl) ⟨Nat.le_of_ble_eq_true rfl, Nat.le_of_ble_eq_true rfl⟩ (by omega) (by omega) dL_others_475 (fun v μ_7 hq => ?_)
          obtain ⟨z8, rfl, h⟩ := hq
          replace h := hq0 _ _ h
          have cx := hcx (n + 3) (by omega)
          refine k_iload cx dL_others_478 rfl ?_
          refine k_icmp_ne (tgt := 487) cx dL_others_480 (by decide) (fun hc => ?_) (fun hc => ?_)
          · replace h := h.1 hc
            exact h.elim
          · replace h := h.2 hc
            refine k_iconst (v := (1 : Int32)) cx dL_others_483 (by decide +kernel) ?_
            refine k_goto (tgt := 532) cx dL_others_484 (by decide) ?_
            exact k_bret_T cx hr rx (by omega) dL_others_532 h
    · replace h := h.2 hc
      refine k_iload cx dL_others_445 rfl ?_
      refine k_ldc (v := (-70009 : Int32)) cx kc_L_51 dL_others_447 ?_
      refine k_icmp_ne (tgt := 456) cx dL_others_449 (by decide) (fun hc => ?_) (fun hc => ?_)
      · replace h := h.1 hc
        exact h.elim
      · replace h := h.2 hc
        refine k_iconst (v := (1 : Int32)) cx dL_others_452 (by decide +kernel) ?_
        refine k_goto (tgt := 457) cx dL_others_453 (by decide) ?_
        exact k_bret_T cx hr rx (by omega) dL_others_457 h
  · replace h := h.2 hc
    refine k_iload cx dL_others_394 rfl ?_
    refine k_if_ne (tgt := 411) cx dL_others_396 (by decide) (fun hc => ?_) (fun hc => ?_)
    · replace h := h.1 hc
      refine k_iconst (v := (1 : Int32)) cx dL_others_411 (by decide +kernel) ?_
      refine k_goto (tgt := 416) cx dL_others_412 (by decide) ?_
      refine k_istore cx dL_others_416 (by decide) ?_
      refine k_iinc (v := (x11 + (1 : Int32))) cx dL_others_418 rfl rfl (by decide) ?_
      refine k_goto (tgt := 382) cx dL_others_421 (by decide) ?_
      exact k_weak h (lsLe.keep (lsLe.keep (lsLe.keep (lsLe.keep (lsLe.keep (lsLe.keep (lsLe.keep (lsLe.keep (lsLe.keep (lsLe.keep (lsLe.keep (lsLe.keep lsLe.nil))))))))))))
    · replace h := h.2 hc
      refine k_aload_n cx dL_others_399 rfl rfl ?_
      refine k_iload cx dL_others_400 rfl ?_
      refine k_iload cx dL_others_402 rfl ?_
      refine k_iconst (v := (1 : Int32)) cx dL_others_404 (by decide +kernel) ?_
      obtain ⟨q0, qx0, h0, hq0, hx0⟩ := h
      refine k_callXd (As := [.int x6, .int x11, .int (1 : Int32)]) (rest := []) (n2 := (n + 2)) hcx bx (m_X7_way bx.2.2.2 h0) hx0 lk_L_61 cv_L_61 ob_ML rfl rfl rfl rfl (Nat.le_of_ble_eq_true rfl) ⟨Nat.le_of_ble_eq_true rfl, Nat.le_of_ble_eq_true rfl⟩ (by omega) (by omega) dL_others_405 (fun v μ_9 hq => ?_)
      obtain ⟨z10, rfl, h⟩ := hq
      replace h := hq0 _ _ h
      have cx := hcx (n + 2) (by omega)
      refine k_if_eq (tgt := 415) cx dL_others_408 (by decide) (fun hc => ?_) (fun hc => ?_)
      · replace h := h.1 hc
        refine k_iconst (v := (0 : Int32)) cx dL_others_415 (by decide +kernel) ?_
        refine k_istore cx dL_others_416 (by decide) ?_
        refine k_iinc (v := (x11 + (1 : Int32))) cx dL_others_418 rfl rfl (by decide) ?_
        refine k_goto (tgt := 382) cx dL_others_421 (by decide) ?_
        exact k_weak h (lsLe.keep (lsLe.keep (lsLe.keep (lsLe.keep (lsLe.keep (lsLe.keep (lsLe.keep (lsLe.keep (lsLe.keep (lsLe.keep (lsLe.keep (lsLe.keep lsLe.nil))))))))))))
      · replace h := h.2 hc
        refine k_iconst (v := (1 : Int32)) cx dL_others_411 (by decide +kernel) ?_
        refine k_goto (tgt := 416) cx dL_others_412 (by decide) ?_
        refine k_istore cx dL_others_416 (by decide) ?_
        refine k_iinc (v := (x11 + (1 : Int32))) cx dL_others_418 rfl rfl (by decide) ?_
        refine k_goto (tgt := 382) cx dL_others_421 (by decide) ?_
        exact k_weak h (lsLe.keep (lsLe.keep (lsLe.keep (lsLe.keep (lsLe.keep (lsLe.keep (lsLe.keep (lsLe.keep (lsLe.keep (lsLe.keep (lsLe.keep (lsLe.keep lsLe.nil))))))))))))
set_option maxHeartbeats 4000000 in
theorem b_L_others_e {g : GE} {f : FE} {z : ScT} {q : Mm → Prop} (hcx : (∀ n, n ≤ 60 → Cx g f cL_others 12 RL 12 296 n (6 * n))) (bx : BXl g z f) (hr : (f_M f).sig.returnType = (some .boolean)) (rx : RXl g f 60 (qTr q)) {x1 : Int32} {x2 : Int32} {μ : Mm} (h : F_L_others_e z (KK_L_others_58 g f z) (KK_L_others_78 g f z) (KK_L_others_125 g f z) (KK_L_others_206 g f z) (KK_L_others_250 g f z) (KK_L_others_382 g f z) q x1 x2 μ) : KW g f 12 0 (6 * 0) 0 [some (.ref p_ML), some (.int x1), some (.int x2), some (.ref p_LC), some (.ref p_LT), none, none, none, none, none, none, none] [] μ := by
  unfold F_L_others_e at h
  have cx := hcx 0 (by omega)
  refine k_iload_n cx dL_others_0 rfl rfl ?_
  refine k_bipush (v := (6 : Int32)) cx dL_others_1 (by decide +kernel) ?_
  refine k_rem cx dL_others_3 (by decide) ?_
  refine k_istore cx dL_others_4 (by decide) ?_
  generalize ev5_1 : (irm x1 (6 : Int32)) = v5_1
  replace h := h v5_1 ev5_1.symm
  refine k_iload cx dL_others_6 rfl ?_
  refine k_if_ne (tgt := 78) cx dL_others_8 (by decide) (fun hc => ?_) (fun hc => ?_)
  · replace h := h.1 hc
    exact k_weak h (lsLe.keep (lsLe.drop (lsLe.keep (lsLe.keep (lsLe.keep (lsLe.keep (lsLe.keep (lsLe.keep (lsLe.keep (lsLe.keep (lsLe.keep (lsLe.keep lsLe.nil))))))))))))
  · replace h := h.2 hc
    refine k_aload_n cx dL_others_11 rfl rfl ?_
    refine k_iconst (v := (2 : Int32)) cx dL_others_12 (by decide +kernel) ?_
    obtain ⟨hi, h⟩ := h
    refine k_iald cx ar_LC hi dL_others_13 ?_
    refine k_if_le (tgt := 78) cx dL_others_14 (by decide) (fun hc => ?_) (fun hc => ?_)
    · replace h := h.1 hc
      exact k_weak h (lsLe.keep (lsLe.drop (lsLe.keep (lsLe.keep (lsLe.keep (lsLe.keep (lsLe.keep (lsLe.keep (lsLe.keep (lsLe.keep (lsLe.keep (lsLe.keep lsLe.nil))))))))))))
    · replace h := h.2 hc
      refine k_iload_n cx dL_others_17 rfl rfl ?_
      refine k_aload_n cx dL_others_18 rfl rfl ?_
      refine k_iconst (v := (2 : Int32)) cx dL_others_19 (by decide +kernel) ?_
      obtain ⟨hi, h⟩ := h
      refine k_iald cx ar_LC hi dL_others_20 ?_
      obtain ⟨hz, h⟩ := h
      refine k_rem cx dL_others_21 hz ?_
      refine k_istore cx dL_others_22 (by decide) ?_
      generalize ev6_2 : (irm x2 (μ p_LC ((2 : Int32)).toNatClampNeg)) = v6_2
      replace h := h v6_2 ev6_2.symm
      refine k_aload_n cx dL_others_24 rfl rfl ?_
      refine k_iload cx dL_others_25 rfl ?_
      refine k_iconst (v := (0 : Int32)) cx dL_others_27 (by decide +kernel) ?_
      obtain ⟨q0, qx0, h0, hq0, hx0⟩ := h
      refine k_callXd (As := [.int v6_2, .int (0 : Int32)]) (rest := []) (n2 := 1) hcx bx (m_X7_told bx.2.2.2 h0) hx0 lk_L_43 cv_L_43 ob_ML rfl rfl rfl rfl (Nat.le_of_ble_eq_true rfl) ⟨Nat.le_of_ble_eq_true rfl, Nat.le_of_ble_eq_true rfl⟩ (by omega) (by omega) dL_others_28 (fun v μ_3 hq => ?_)
      obtain ⟨z4, rfl, h⟩ := hq
      replace h := hq0 _ _ h
      have cx := hcx 1 (by omega)
      refine k_istore cx dL_others_31 (by decide) ?_
      refine k_aload_n cx dL_others_33 rfl rfl ?_
      refine k_iconst (v := (5 : Int32)) cx dL_others_34 (by decide +kernel) ?_
      refine k_iload cx dL_others_35 rfl ?_
      refine k_iconst (v := (0 : Int32)) cx dL_others_37 (by decide +kernel) ?_
      refine k_iconst (v := (0 : Int32)) cx dL_others_38 (by decide +kernel) ?_
      refine k_callH (As := [.ref p_ML, .int (5 : Int32), .int v6_2, .int (0 : Int32), .int (0 : Int32)]) (rest := []) (n2 := 2) hcx bx (m_L_asks bx.2.2.2 h) ch_L_asks rfl rfl (Nat.le_of_ble_eq_true rfl) ⟨Nat.le_of_ble_eq_true rfl, Nat.le_of_ble_eq_true rfl⟩ (by omega) (by omega) dL_others_39 (fun v μ_5 hq => ?_)
      obtain ⟨z6, rfl, h⟩ := hq
      have cx := hcx 2 (by omega)
      refine k_istore cx dL_others_42 (by decide) ?_
      refine k_iload cx dL_others_44 rfl ?_
      refine k_iload cx dL_others_46 rfl ?_
      refine k_iconst (v := (1 : Int32)) cx dL_others_48 (by decide +kernel) ?_
      refine k_icmp_ne (tgt := 57) cx dL_others_49 (by decide) (fun hc => ?_) (fun hc => ?_)
      · replace h := h.1 hc
        refine k_iconst (v := (0 : Int32)) cx dL_others_57 (by decide +kernel) ?_
        exact k_weak h (lsLe.keep (lsLe.drop (lsLe.drop (lsLe.drop (lsLe.drop (lsLe.drop (lsLe.keep (lsLe.drop (lsLe.drop (lsLe.keep (lsLe.keep (lsLe.keep lsLe.nil))))))))))))
      · replace h := h.2 hc
        refine k_ldc (v := (-70008 : Int32)) cx kc_L_54 dL_others_52 ?_
        refine k_goto (tgt := 58) cx dL_others_54 (by decide) ?_
        exact k_weak h (lsLe.keep (lsLe.drop (lsLe.drop (lsLe.drop (lsLe.drop (lsLe.drop (lsLe.keep (lsLe.drop (lsLe.drop (lsLe.keep (lsLe.keep (lsLe.keep lsLe.nil))))))))))))
theorem m_L_others {g : GE} {z : ScT} {l : Launch} (hst : l.stackTraces = false) {μ : Mm} {q : Mm → Prop} {x1 : Int32} {x2 : Int32} (h : Wp_L_others z x1 x2 μ q) : MBl g z l yL_others cL_others 12 (some .boolean) 12 296 60 [.ref p_ML, .int x1, .int x2, .ref p_LC, .ref p_LT] μ (qTr q) := by
  refine bmet_of hst (by decide) (Nat.le_of_ble_eq_true rfl) (by intro v hv; simp only [List.mem_cons, List.not_mem_nil, or_false] at hv; rcases hv with rfl | rfl | rfl | rfl | rfl <;> rfl) ?_
  intro f hfl hcx bx hr rx
  exact b_L_others_e hcx bx hr rx (h (KK_L_others_58 g f z) (KK_L_others_78 g f z) (KK_L_others_125 g f z) (KK_L_others_206 g f z) (KK_L_others_250 g f z) (KK_L_others_382 g f z) (fun _ _ _ _ _ h => b_L_others_58 hcx bx hr rx h) (fun _ _ _ _ h => b_L_others_78 hcx bx hr rx h) (fun _ _ _ _ _ _ _ h => b_L_others_125 hcx bx hr rx h) (fun _ _ _ _ h => b_L_others_206 hcx bx hr rx h) (fun _ _ _ h => b_L_others_250 hcx bx hr rx h) (fun _ _ _ _ _ _ _ _ h => b_L_others_382 hcx bx hr rx h))
