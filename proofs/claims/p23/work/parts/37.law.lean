theorem dL_places_0 : decode cL_places 0 = .ok (.aload_n 0, 1) := by decide +kernel
theorem dL_places_1 : decode cL_places 1 = .ok (.invokevirtual 102, 3) := by decide +kernel
theorem dL_places_4 : decode cL_places 4 = .ok (.aload_n 3, 1) := by decide +kernel
theorem dL_places_5 : decode cL_places 5 = .ok (.iconst 4, 1) := by decide +kernel
theorem dL_places_6 : decode cL_places 6 = .ok (.iaload, 1) := by decide +kernel
theorem dL_places_7 : decode cL_places 7 = .ok (.if_icmp .ne 7, 3) := by decide +kernel
theorem dL_places_10 : decode cL_places 10 = .ok (.iconst 1, 1) := by decide +kernel
theorem dL_places_11 : decode cL_places 11 = .ok (.goto 4, 3) := by decide +kernel
theorem dL_places_15 : decode cL_places 15 = .ok (.istore 7, 2) := by decide +kernel
theorem dL_places_17 : decode cL_places 17 = .ok (.iconst 1, 1) := by decide +kernel
theorem dL_places_18 : decode cL_places 18 = .ok (.iload_n 1, 1) := by decide +kernel
theorem dL_places_19 : decode cL_places 19 = .ok (.iconst 3, 1) := by decide +kernel
theorem dL_places_20 : decode cL_places 20 = .ok (.irem, 1) := by decide +kernel
theorem dL_places_21 : decode cL_places 21 = .ok (.iadd, 1) := by decide +kernel
theorem dL_places_22 : decode cL_places 22 = .ok (.istore 8, 2) := by decide +kernel
theorem dL_places_24 : decode cL_places 24 = .ok (.iconst 0, 1) := by decide +kernel
theorem dL_places_25 : decode cL_places 25 = .ok (.istore 9, 2) := by decide +kernel
theorem dL_places_27 : decode cL_places 27 = .ok (.bipush 12, 2) := by decide +kernel
theorem dL_places_29 : decode cL_places 29 = .ok (.newarray .int, 2) := by decide +kernel
theorem dL_places_31 : decode cL_places 31 = .ok (.astore 10, 2) := by decide +kernel
theorem dL_places_33 : decode cL_places 33 = .ok (.iconst 0, 1) := by decide +kernel
theorem dL_places_34 : decode cL_places 34 = .ok (.istore 11, 2) := by decide +kernel
theorem dL_places_36 : decode cL_places 36 = .ok (.iload 11, 2) := by decide +kernel
theorem dL_places_38 : decode cL_places 38 = .ok (.iload 8, 2) := by decide +kernel
theorem dL_places_40 : decode cL_places 40 = .ok (.if_icmp .ge 73, 3) := by decide +kernel
theorem dL_places_43 : decode cL_places 43 = .ok (.aload 10, 2) := by decide +kernel
theorem dL_places_45 : decode cL_places 45 = .ok (.iload 11, 2) := by decide +kernel
theorem dL_places_47 : decode cL_places 47 = .ok (.iconst 1, 1) := by decide +kernel
theorem dL_places_48 : decode cL_places 48 = .ok (.iload_n 2, 1) := by decide +kernel
theorem dL_places_49 : decode cL_places 49 = .ok (.iconst 3, 1) := by decide +kernel
theorem dL_places_50 : decode cL_places 50 = .ok (.iload 11, 2) := by decide +kernel
theorem dL_places_52 : decode cL_places 52 = .ok (.imul, 1) := by decide +kernel
theorem dL_places_53 : decode cL_places 53 = .ok (.ishr, 1) := by decide +kernel
theorem dL_places_54 : decode cL_places 54 = .ok (.bipush 20, 2) := by decide +kernel
theorem dL_places_56 : decode cL_places 56 = .ok (.irem, 1) := by decide +kernel
theorem dL_places_57 : decode cL_places 57 = .ok (.iadd, 1) := by decide +kernel
theorem dL_places_58 : decode cL_places 58 = .ok (.iastore, 1) := by decide +kernel
theorem dL_places_59 : decode cL_places 59 = .ok (.iload 7, 2) := by decide +kernel
theorem dL_places_61 : decode cL_places 61 = .ok (.ifCond .eq 43, 3) := by decide +kernel
theorem dL_places_64 : decode cL_places 64 = .ok (.aload_n 0, 1) := by decide +kernel
theorem dL_places_65 : decode cL_places 65 = .ok (.iconst 2, 1) := by decide +kernel
theorem dL_places_66 : decode cL_places 66 = .ok (.aload 10, 2) := by decide +kernel
theorem dL_places_68 : decode cL_places 68 = .ok (.iload 11, 2) := by decide +kernel
theorem dL_places_70 : decode cL_places 70 = .ok (.iaload, 1) := by decide +kernel
theorem dL_places_71 : decode cL_places 71 = .ok (.iconst 1, 1) := by decide +kernel
theorem dL_places_72 : decode cL_places 72 = .ok (.iload_n 2, 1) := by decide +kernel
theorem dL_places_73 : decode cL_places 73 = .ok (.iconst 4, 1) := by decide +kernel
theorem dL_places_74 : decode cL_places 74 = .ok (.iload 11, 2) := by decide +kernel
theorem dL_places_76 : decode cL_places 76 = .ok (.imul, 1) := by decide +kernel
theorem dL_places_77 : decode cL_places 77 = .ok (.ishr, 1) := by decide +kernel
theorem dL_places_78 : decode cL_places 78 = .ok (.bipush 63, 2) := by decide +kernel
theorem dL_places_80 : decode cL_places 80 = .ok (.irem, 1) := by decide +kernel
theorem dL_places_81 : decode cL_places 81 = .ok (.iadd, 1) := by decide +kernel
theorem dL_places_82 : decode cL_places 82 = .ok (.iconst 1, 1) := by decide +kernel
theorem dL_places_83 : decode cL_places 83 = .ok (.iload_n 1, 1) := by decide +kernel
theorem dL_places_84 : decode cL_places 84 = .ok (.iconst 3, 1) := by decide +kernel
theorem dL_places_85 : decode cL_places 85 = .ok (.idiv, 1) := by decide +kernel
theorem dL_places_86 : decode cL_places 86 = .ok (.bipush 6, 2) := by decide +kernel
theorem dL_places_88 : decode cL_places 88 = .ok (.irem, 1) := by decide +kernel
theorem dL_places_89 : decode cL_places 89 = .ok (.ishl, 1) := by decide +kernel
theorem dL_places_90 : decode cL_places 90 = .ok (.ior, 1) := by decide +kernel
theorem dL_places_91 : decode cL_places 91 = .ok (.iconst 0, 1) := by decide +kernel
theorem dL_places_92 : decode cL_places 92 = .ok (.invokestatic 81, 3) := by decide +kernel
theorem dL_places_95 : decode cL_places 95 = .ok (.iload 11, 2) := by decide +kernel
theorem dL_places_97 : decode cL_places 97 = .ok (.if_icmp .ne 7, 3) := by decide +kernel
theorem dL_places_100 : decode cL_places 100 = .ok (.iconst 1, 1) := by decide +kernel
theorem dL_places_101 : decode cL_places 101 = .ok (.goto 4, 3) := by decide +kernel
theorem dL_places_105 : decode cL_places 105 = .ok (.istore 7, 2) := by decide +kernel
theorem dL_places_107 : decode cL_places 107 = .ok (.iinc 11 1, 3) := by decide +kernel
theorem dL_places_110 : decode cL_places 110 = .ok (.goto (-74), 3) := by decide +kernel
theorem dL_places_113 : decode cL_places 113 = .ok (.iconst 0, 1) := by decide +kernel
theorem dL_places_114 : decode cL_places 114 = .ok (.istore 11, 2) := by decide +kernel
theorem dL_places_116 : decode cL_places 116 = .ok (.iload 11, 2) := by decide +kernel
theorem dL_places_118 : decode cL_places 118 = .ok (.iconst 3, 1) := by decide +kernel
theorem dL_places_119 : decode cL_places 119 = .ok (.if_icmp .ge 159, 3) := by decide +kernel
theorem dL_places_122 : decode cL_places 122 = .ok (.iload 8, 2) := by decide +kernel
theorem dL_places_124 : decode cL_places 124 = .ok (.iconst 1, 1) := by decide +kernel
theorem dL_places_125 : decode cL_places 125 = .ok (.if_icmp .le 153, 3) := by decide +kernel
theorem dL_places_128 : decode cL_places 128 = .ok (.iload 11, 2) := by decide +kernel
theorem dL_places_130 : decode cL_places 130 = .ok (.iload 8, 2) := by decide +kernel
theorem dL_places_132 : decode cL_places 132 = .ok (.irem, 1) := by decide +kernel
theorem dL_places_133 : decode cL_places 133 = .ok (.istore 12, 2) := by decide +kernel
theorem dL_places_135 : decode cL_places 135 = .ok (.iload 11, 2) := by decide +kernel
theorem dL_places_137 : decode cL_places 137 = .ok (.iconst 1, 1) := by decide +kernel
theorem dL_places_138 : decode cL_places 138 = .ok (.iadd, 1) := by decide +kernel
theorem dL_places_139 : decode cL_places 139 = .ok (.iload 8, 2) := by decide +kernel
theorem dL_places_141 : decode cL_places 141 = .ok (.irem, 1) := by decide +kernel
theorem dL_places_142 : decode cL_places 142 = .ok (.istore 13, 2) := by decide +kernel
theorem dL_places_144 : decode cL_places 144 = .ok (.iconst 1, 1) := by decide +kernel
theorem dL_places_145 : decode cL_places 145 = .ok (.iload_n 2, 1) := by decide +kernel
theorem dL_places_146 : decode cL_places 146 = .ok (.iconst 2, 1) := by decide +kernel
theorem dL_places_147 : decode cL_places 147 = .ok (.iload 11, 2) := by decide +kernel
theorem dL_places_149 : decode cL_places 149 = .ok (.imul, 1) := by decide +kernel
theorem dL_places_150 : decode cL_places 150 = .ok (.iconst 5, 1) := by decide +kernel
theorem dL_places_151 : decode cL_places 151 = .ok (.iadd, 1) := by decide +kernel
theorem dL_places_152 : decode cL_places 152 = .ok (.ishr, 1) := by decide +kernel
theorem dL_places_153 : decode cL_places 153 = .ok (.bipush 20, 2) := by decide +kernel
theorem dL_places_155 : decode cL_places 155 = .ok (.irem, 1) := by decide +kernel
theorem dL_places_156 : decode cL_places 156 = .ok (.iadd, 1) := by decide +kernel
theorem dL_places_157 : decode cL_places 157 = .ok (.istore 14, 2) := by decide +kernel
theorem dL_places_159 : decode cL_places 159 = .ok (.iload 8, 2) := by decide +kernel
theorem dL_places_161 : decode cL_places 161 = .ok (.iconst 2, 1) := by decide +kernel
theorem dL_places_162 : decode cL_places 162 = .ok (.if_icmp .ne 12, 3) := by decide +kernel
theorem dL_places_165 : decode cL_places 165 = .ok (.iload 9, 2) := by decide +kernel
theorem dL_places_167 : decode cL_places 167 = .ok (.ifCond .le 7, 3) := by decide +kernel
theorem dL_places_170 : decode cL_places 170 = .ok (.iconst 1, 1) := by decide +kernel
theorem dL_places_171 : decode cL_places 171 = .ok (.goto 4, 3) := by decide +kernel
theorem dL_places_174 : decode cL_places 174 = .ok (.iconst 0, 1) := by decide +kernel
theorem dL_places_175 : decode cL_places 175 = .ok (.istore 15, 2) := by decide +kernel
theorem dL_places_177 : decode cL_places 177 = .ok (.iload_n 1, 1) := by decide +kernel
theorem dL_places_178 : decode cL_places 178 = .ok (.iconst 4, 1) := by decide +kernel
theorem dL_places_179 : decode cL_places 179 = .ok (.iload 11, 2) := by decide +kernel
theorem dL_places_181 : decode cL_places 181 = .ok (.iadd, 1) := by decide +kernel
theorem dL_places_182 : decode cL_places 182 = .ok (.ishr, 1) := by decide +kernel
theorem dL_places_183 : decode cL_places 183 = .ok (.iconst 1, 1) := by decide +kernel
theorem dL_places_184 : decode cL_places 184 = .ok (.iand, 1) := by decide +kernel
theorem dL_places_185 : decode cL_places 185 = .ok (.iconst 1, 1) := by decide +kernel
theorem dL_places_186 : decode cL_places 186 = .ok (.if_icmp .ne 86, 3) := by decide +kernel
theorem dL_places_189 : decode cL_places 189 = .ok (.aload_n 0, 1) := by decide +kernel
theorem dL_places_190 : decode cL_places 190 = .ok (.iconst 3, 1) := by decide +kernel
theorem dL_places_191 : decode cL_places 191 = .ok (.iload 12, 2) := by decide +kernel
theorem dL_places_193 : decode cL_places 193 = .ok (.iload 13, 2) := by decide +kernel
theorem dL_places_195 : decode cL_places 195 = .ok (.iload 14, 2) := by decide +kernel
theorem dL_places_197 : decode cL_places 197 = .ok (.invokestatic 81, 3) := by decide +kernel
theorem dL_places_200 : decode cL_places 200 = .ok (.istore 16, 2) := by decide +kernel
theorem dL_places_202 : decode cL_places 202 = .ok (.iload 7, 2) := by decide +kernel
theorem dL_places_204 : decode cL_places 204 = .ok (.ifCond .eq 24, 3) := by decide +kernel
theorem dL_places_207 : decode cL_places 207 = .ok (.iload 16, 2) := by decide +kernel
theorem dL_places_209 : decode cL_places 209 = .ok (.iload 15, 2) := by decide +kernel
theorem dL_places_211 : decode cL_places 211 = .ok (.ifCond .eq 8, 3) := by decide +kernel
theorem dL_places_214 : decode cL_places 214 = .ok (.ldc 54, 2) := by decide +kernel
theorem dL_places_216 : decode cL_places 216 = .ok (.goto 5, 3) := by decide +kernel
theorem dL_places_219 : decode cL_places 219 = .ok (.iload 9, 2) := by decide +kernel
theorem dL_places_221 : decode cL_places 221 = .ok (.if_icmp .ne 7, 3) := by decide +kernel
theorem dL_places_224 : decode cL_places 224 = .ok (.iconst 1, 1) := by decide +kernel
theorem dL_places_225 : decode cL_places 225 = .ok (.goto 4, 3) := by decide +kernel
theorem dL_places_229 : decode cL_places 229 = .ok (.istore 7, 2) := by decide +kernel
theorem dL_places_231 : decode cL_places 231 = .ok (.iload 16, 2) := by decide +kernel
theorem dL_places_233 : decode cL_places 233 = .ok (.ifCond .lt 39, 3) := by decide +kernel
theorem dL_places_236 : decode cL_places 236 = .ok (.aload 10, 2) := by decide +kernel
theorem dL_places_238 : decode cL_places 238 = .ok (.iconst 3, 1) := by decide +kernel
theorem dL_places_239 : decode cL_places 239 = .ok (.iconst 3, 1) := by decide +kernel
theorem dL_places_240 : decode cL_places 240 = .ok (.iload 9, 2) := by decide +kernel
theorem dL_places_242 : decode cL_places 242 = .ok (.imul, 1) := by decide +kernel
theorem dL_places_243 : decode cL_places 243 = .ok (.iadd, 1) := by decide +kernel
theorem dL_places_244 : decode cL_places 244 = .ok (.iload 12, 2) := by decide +kernel
theorem dL_places_246 : decode cL_places 246 = .ok (.iastore, 1) := by decide +kernel
theorem dL_places_247 : decode cL_places 247 = .ok (.aload 10, 2) := by decide +kernel
theorem dL_places_249 : decode cL_places 249 = .ok (.iconst 4, 1) := by decide +kernel
theorem dL_places_250 : decode cL_places 250 = .ok (.iconst 3, 1) := by decide +kernel
theorem dL_places_251 : decode cL_places 251 = .ok (.iload 9, 2) := by decide +kernel
theorem dL_places_253 : decode cL_places 253 = .ok (.imul, 1) := by decide +kernel
theorem dL_places_254 : decode cL_places 254 = .ok (.iadd, 1) := by decide +kernel
theorem dL_places_255 : decode cL_places 255 = .ok (.iload 13, 2) := by decide +kernel
theorem dL_places_257 : decode cL_places 257 = .ok (.iastore, 1) := by decide +kernel
theorem dL_places_258 : decode cL_places 258 = .ok (.aload 10, 2) := by decide +kernel
theorem dL_places_260 : decode cL_places 260 = .ok (.iconst 5, 1) := by decide +kernel
theorem dL_places_261 : decode cL_places 261 = .ok (.iconst 3, 1) := by decide +kernel
theorem dL_places_262 : decode cL_places 262 = .ok (.iload 9, 2) := by decide +kernel
theorem dL_places_264 : decode cL_places 264 = .ok (.imul, 1) := by decide +kernel
theorem dL_places_265 : decode cL_places 265 = .ok (.iadd, 1) := by decide +kernel
theorem dL_places_266 : decode cL_places 266 = .ok (.iload 14, 2) := by decide +kernel
theorem dL_places_268 : decode cL_places 268 = .ok (.iastore, 1) := by decide +kernel
theorem dL_places_269 : decode cL_places 269 = .ok (.iinc 9 1, 3) := by decide +kernel
theorem dL_places_272 : decode cL_places 272 = .ok (.iinc 11 1, 3) := by decide +kernel
theorem dL_places_275 : decode cL_places 275 = .ok (.goto (-159), 3) := by decide +kernel
theorem dL_places_278 : decode cL_places 278 = .ok (.aload_n 3, 1) := by decide +kernel
theorem dL_places_279 : decode cL_places 279 = .ok (.iconst 4, 1) := by decide +kernel
theorem dL_places_280 : decode cL_places 280 = .ok (.iload 8, 2) := by decide +kernel
theorem dL_places_282 : decode cL_places 282 = .ok (.iastore, 1) := by decide +kernel
theorem dL_places_283 : decode cL_places 283 = .ok (.aload_n 0, 1) := by decide +kernel
theorem dL_places_284 : decode cL_places 284 = .ok (.invokevirtual 89, 3) := by decide +kernel
theorem dL_places_287 : decode cL_places 287 = .ok (.istore 11, 2) := by decide +kernel
theorem dL_places_289 : decode cL_places 289 = .ok (.aload_n 0, 1) := by decide +kernel
theorem dL_places_290 : decode cL_places 290 = .ok (.invokevirtual 99, 3) := by decide +kernel
theorem dL_places_293 : decode cL_places 293 = .ok (.istore 12, 2) := by decide +kernel
theorem dL_places_295 : decode cL_places 295 = .ok (.iload_n 1, 1) := by decide +kernel
theorem dL_places_296 : decode cL_places 296 = .ok (.sipush 200, 3) := by decide +kernel
theorem dL_places_299 : decode cL_places 299 = .ok (.idiv, 1) := by decide +kernel
theorem dL_places_300 : decode cL_places 300 = .ok (.iconst 3, 1) := by decide +kernel
theorem dL_places_301 : decode cL_places 301 = .ok (.irem, 1) := by decide +kernel
theorem dL_places_302 : decode cL_places 302 = .ok (.istore 13, 2) := by decide +kernel
theorem dL_places_304 : decode cL_places 304 = .ok (.iconst 1, 1) := by decide +kernel
theorem dL_places_305 : decode cL_places 305 = .ok (.iload_n 2, 1) := by decide +kernel
theorem dL_places_306 : decode cL_places 306 = .ok (.bipush 7, 2) := by decide +kernel
theorem dL_places_308 : decode cL_places 308 = .ok (.idiv, 1) := by decide +kernel
theorem dL_places_309 : decode cL_places 309 = .ok (.bipush 40, 2) := by decide +kernel
theorem dL_places_311 : decode cL_places 311 = .ok (.irem, 1) := by decide +kernel
theorem dL_places_312 : decode cL_places 312 = .ok (.iadd, 1) := by decide +kernel
theorem dL_places_313 : decode cL_places 313 = .ok (.istore 14, 2) := by decide +kernel
theorem dL_places_315 : decode cL_places 315 = .ok (.iload 7, 2) := by decide +kernel
theorem dL_places_317 : decode cL_places 317 = .ok (.ifCond .eq 27, 3) := by decide +kernel
theorem dL_places_320 : decode cL_places 320 = .ok (.aload_n 0, 1) := by decide +kernel
theorem dL_places_321 : decode cL_places 321 = .ok (.invokevirtual 96, 3) := by decide +kernel
theorem dL_places_324 : decode cL_places 324 = .ok (.iload 11, 2) := by decide +kernel
theorem dL_places_326 : decode cL_places 326 = .ok (.if_icmp .ne 18, 3) := by decide +kernel
theorem dL_places_329 : decode cL_places 329 = .ok (.iload 11, 2) := by decide +kernel
theorem dL_places_331 : decode cL_places 331 = .ok (.ifCond .lt 9, 3) := by decide +kernel
theorem dL_places_334 : decode cL_places 334 = .ok (.iload 12, 2) := by decide +kernel
theorem dL_places_336 : decode cL_places 336 = .ok (.iconst (-1), 1) := by decide +kernel
theorem dL_places_337 : decode cL_places 337 = .ok (.if_icmp .ne 7, 3) := by decide +kernel
theorem dL_places_340 : decode cL_places 340 = .ok (.iconst 1, 1) := by decide +kernel
theorem dL_places_341 : decode cL_places 341 = .ok (.goto 4, 3) := by decide +kernel
theorem dL_places_345 : decode cL_places 345 = .ok (.istore 7, 2) := by decide +kernel
theorem dL_places_347 : decode cL_places 347 = .ok (.aload_n 0, 1) := by decide +kernel
theorem dL_places_348 : decode cL_places 348 = .ok (.iconst 4, 1) := by decide +kernel
theorem dL_places_349 : decode cL_places 349 = .ok (.iload 13, 2) := by decide +kernel
theorem dL_places_351 : decode cL_places 351 = .ok (.iload 14, 2) := by decide +kernel
theorem dL_places_353 : decode cL_places 353 = .ok (.iconst 0, 1) := by decide +kernel
theorem dL_places_354 : decode cL_places 354 = .ok (.invokestatic 81, 3) := by decide +kernel
theorem dL_places_357 : decode cL_places 357 = .ok (.istore 15, 2) := by decide +kernel
theorem dL_places_359 : decode cL_places 359 = .ok (.aload_n 3, 1) := by decide +kernel
theorem dL_places_360 : decode cL_places 360 = .ok (.iconst 2, 1) := by decide +kernel
theorem dL_places_361 : decode cL_places 361 = .ok (.iaload, 1) := by decide +kernel
theorem dL_places_362 : decode cL_places 362 = .ok (.bipush 12, 2) := by decide +kernel
theorem dL_places_364 : decode cL_places 364 = .ok (.if_icmp .ne 21, 3) := by decide +kernel
theorem dL_places_367 : decode cL_places 367 = .ok (.iload 7, 2) := by decide +kernel
theorem dL_places_369 : decode cL_places 369 = .ok (.ifCond .eq 14, 3) := by decide +kernel
theorem dL_places_372 : decode cL_places 372 = .ok (.iload 15, 2) := by decide +kernel
theorem dL_places_374 : decode cL_places 374 = .ok (.ldc 54, 2) := by decide +kernel
theorem dL_places_376 : decode cL_places 376 = .ok (.if_icmp .ne 7, 3) := by decide +kernel
theorem dL_places_379 : decode cL_places 379 = .ok (.iconst 1, 1) := by decide +kernel
theorem dL_places_380 : decode cL_places 380 = .ok (.goto 4, 3) := by decide +kernel
theorem dL_places_384 : decode cL_places 384 = .ok (.ireturn, 1) := by decide +kernel
theorem dL_places_385 : decode cL_places 385 = .ok (.iload 15, 2) := by decide +kernel
theorem dL_places_387 : decode cL_places 387 = .ok (.iconst (-1), 1) := by decide +kernel
theorem dL_places_388 : decode cL_places 388 = .ok (.if_icmp .ne 46, 3) := by decide +kernel
theorem dL_places_391 : decode cL_places 391 = .ok (.iload 7, 2) := by decide +kernel
theorem dL_places_393 : decode cL_places 393 = .ok (.ifCond .eq 39, 3) := by decide +kernel
theorem dL_places_396 : decode cL_places 396 = .ok (.iload 11, 2) := by decide +kernel
theorem dL_places_398 : decode cL_places 398 = .ok (.ifCond .lt 9, 3) := by decide +kernel
theorem dL_places_401 : decode cL_places 401 = .ok (.iload 13, 2) := by decide +kernel
theorem dL_places_403 : decode cL_places 403 = .ok (.iconst 2, 1) := by decide +kernel
theorem dL_places_404 : decode cL_places 404 = .ok (.if_icmp .ne 28, 3) := by decide +kernel
theorem dL_places_407 : decode cL_places 407 = .ok (.aload_n 0, 1) := by decide +kernel
theorem dL_places_408 : decode cL_places 408 = .ok (.invokevirtual 89, 3) := by decide +kernel
theorem dL_places_411 : decode cL_places 411 = .ok (.iload 11, 2) := by decide +kernel
theorem dL_places_413 : decode cL_places 413 = .ok (.if_icmp .ne 19, 3) := by decide +kernel
theorem dL_places_416 : decode cL_places 416 = .ok (.aload_n 0, 1) := by decide +kernel
theorem dL_places_417 : decode cL_places 417 = .ok (.iload 12, 2) := by decide +kernel
theorem dL_places_419 : decode cL_places 419 = .ok (.iload 13, 2) := by decide +kernel
theorem dL_places_421 : decode cL_places 421 = .ok (.aload_n 3, 1) := by decide +kernel
theorem dL_places_422 : decode cL_places 422 = .ok (.invokestatic 105, 3) := by decide +kernel
theorem dL_places_425 : decode cL_places 425 = .ok (.ifCond .eq 7, 3) := by decide +kernel
theorem dL_places_428 : decode cL_places 428 = .ok (.iconst 1, 1) := by decide +kernel
theorem dL_places_429 : decode cL_places 429 = .ok (.goto 4, 3) := by decide +kernel
theorem dL_places_433 : decode cL_places 433 = .ok (.ireturn, 1) := by decide +kernel
theorem dL_places_434 : decode cL_places 434 = .ok (.iconst 0, 1) := by decide +kernel
theorem dL_places_435 : decode cL_places 435 = .ok (.istore 16, 2) := by decide +kernel
theorem dL_places_437 : decode cL_places 437 = .ok (.iload 16, 2) := by decide +kernel
theorem dL_places_439 : decode cL_places 439 = .ok (.bipush 9, 2) := by decide +kernel
theorem dL_places_441 : decode cL_places 441 = .ok (.if_icmp .ge 28, 3) := by decide +kernel
theorem dL_places_444 : decode cL_places 444 = .ok (.aload 4, 2) := by decide +kernel
theorem dL_places_446 : decode cL_places 446 = .ok (.bipush 9, 2) := by decide +kernel
theorem dL_places_448 : decode cL_places 448 = .ok (.aload_n 3, 1) := by decide +kernel
theorem dL_places_449 : decode cL_places 449 = .ok (.iconst 2, 1) := by decide +kernel
theorem dL_places_450 : decode cL_places 450 = .ok (.iaload, 1) := by decide +kernel
theorem dL_places_451 : decode cL_places 451 = .ok (.imul, 1) := by decide +kernel
theorem dL_places_452 : decode cL_places 452 = .ok (.iload 16, 2) := by decide +kernel
theorem dL_places_454 : decode cL_places 454 = .ok (.iadd, 1) := by decide +kernel
theorem dL_places_455 : decode cL_places 455 = .ok (.aload 10, 2) := by decide +kernel
theorem dL_places_457 : decode cL_places 457 = .ok (.iconst 3, 1) := by decide +kernel
theorem dL_places_458 : decode cL_places 458 = .ok (.iload 16, 2) := by decide +kernel
theorem dL_places_460 : decode cL_places 460 = .ok (.iadd, 1) := by decide +kernel
theorem dL_places_461 : decode cL_places 461 = .ok (.iaload, 1) := by decide +kernel
theorem dL_places_462 : decode cL_places 462 = .ok (.iastore, 1) := by decide +kernel
theorem dL_places_463 : decode cL_places 463 = .ok (.iinc 16 1, 3) := by decide +kernel
theorem dL_places_466 : decode cL_places 466 = .ok (.goto (-29), 3) := by decide +kernel
theorem dL_places_469 : decode cL_places 469 = .ok (.iconst 0, 1) := by decide +kernel
theorem dL_places_470 : decode cL_places 470 = .ok (.istore 16, 2) := by decide +kernel
theorem dL_places_472 : decode cL_places 472 = .ok (.iload 16, 2) := by decide +kernel
theorem dL_places_474 : decode cL_places 474 = .ok (.iconst 3, 1) := by decide +kernel
theorem dL_places_475 : decode cL_places 475 = .ok (.if_icmp .ge 25, 3) := by decide +kernel
theorem dL_places_478 : decode cL_places 478 = .ok (.aload 5, 2) := by decide +kernel
theorem dL_places_480 : decode cL_places 480 = .ok (.iconst 3, 1) := by decide +kernel
theorem dL_places_481 : decode cL_places 481 = .ok (.aload_n 3, 1) := by decide +kernel
theorem dL_places_482 : decode cL_places 482 = .ok (.iconst 2, 1) := by decide +kernel
theorem dL_places_483 : decode cL_places 483 = .ok (.iaload, 1) := by decide +kernel
theorem dL_places_484 : decode cL_places 484 = .ok (.imul, 1) := by decide +kernel
theorem dL_places_485 : decode cL_places 485 = .ok (.iload 16, 2) := by decide +kernel
theorem dL_places_487 : decode cL_places 487 = .ok (.iadd, 1) := by decide +kernel
theorem dL_places_488 : decode cL_places 488 = .ok (.aload 10, 2) := by decide +kernel
theorem dL_places_490 : decode cL_places 490 = .ok (.iload 16, 2) := by decide +kernel
theorem dL_places_492 : decode cL_places 492 = .ok (.iaload, 1) := by decide +kernel
theorem dL_places_493 : decode cL_places 493 = .ok (.iastore, 1) := by decide +kernel
theorem dL_places_494 : decode cL_places 494 = .ok (.iinc 16 1, 3) := by decide +kernel
theorem dL_places_497 : decode cL_places 497 = .ok (.goto (-25), 3) := by decide +kernel
theorem dL_places_500 : decode cL_places 500 = .ok (.aload 6, 2) := by decide +kernel
theorem dL_places_502 : decode cL_places 502 = .ok (.aload_n 3, 1) := by decide +kernel
theorem dL_places_503 : decode cL_places 503 = .ok (.iconst 2, 1) := by decide +kernel
theorem dL_places_504 : decode cL_places 504 = .ok (.iaload, 1) := by decide +kernel
theorem dL_places_505 : decode cL_places 505 = .ok (.aload_n 3, 1) := by decide +kernel
theorem dL_places_506 : decode cL_places 506 = .ok (.iconst 3, 1) := by decide +kernel
theorem dL_places_507 : decode cL_places 507 = .ok (.iaload, 1) := by decide +kernel
theorem dL_places_508 : decode cL_places 508 = .ok (.iload 14, 2) := by decide +kernel
theorem dL_places_510 : decode cL_places 510 = .ok (.iadd, 1) := by decide +kernel
theorem dL_places_511 : decode cL_places 511 = .ok (.iastore, 1) := by decide +kernel
theorem dL_places_512 : decode cL_places 512 = .ok (.aload_n 3, 1) := by decide +kernel
theorem dL_places_513 : decode cL_places 513 = .ok (.iconst 2, 1) := by decide +kernel
theorem dL_places_514 : decode cL_places 514 = .ok (.dup2, 1) := by decide +kernel
theorem dL_places_515 : decode cL_places 515 = .ok (.iaload, 1) := by decide +kernel
theorem dL_places_516 : decode cL_places 516 = .ok (.iconst 1, 1) := by decide +kernel
theorem dL_places_517 : decode cL_places 517 = .ok (.iadd, 1) := by decide +kernel
theorem dL_places_518 : decode cL_places 518 = .ok (.iastore, 1) := by decide +kernel
theorem dL_places_519 : decode cL_places 519 = .ok (.aload_n 3, 1) := by decide +kernel
theorem dL_places_520 : decode cL_places 520 = .ok (.iconst 4, 1) := by decide +kernel
theorem dL_places_521 : decode cL_places 521 = .ok (.iconst 0, 1) := by decide +kernel
theorem dL_places_522 : decode cL_places 522 = .ok (.iastore, 1) := by decide +kernel
theorem dL_places_523 : decode cL_places 523 = .ok (.iload 7, 2) := by decide +kernel
theorem dL_places_525 : decode cL_places 525 = .ok (.ifCond .eq 111, 3) := by decide +kernel
theorem dL_places_528 : decode cL_places 528 = .ok (.iload 15, 2) := by decide +kernel
theorem dL_places_530 : decode cL_places 530 = .ok (.aload_n 3, 1) := by decide +kernel
theorem dL_places_531 : decode cL_places 531 = .ok (.iconst 2, 1) := by decide +kernel
theorem dL_places_532 : decode cL_places 532 = .ok (.iaload, 1) := by decide +kernel
theorem dL_places_533 : decode cL_places 533 = .ok (.iconst 1, 1) := by decide +kernel
theorem dL_places_534 : decode cL_places 534 = .ok (.isub, 1) := by decide +kernel
theorem dL_places_535 : decode cL_places 535 = .ok (.if_icmp .ne 101, 3) := by decide +kernel
theorem dL_places_538 : decode cL_places 538 = .ok (.iload 11, 2) := by decide +kernel
theorem dL_places_540 : decode cL_places 540 = .ok (.ifCond .ge 9, 3) := by decide +kernel
theorem dL_places_543 : decode cL_places 543 = .ok (.iload 13, 2) := by decide +kernel
theorem dL_places_545 : decode cL_places 545 = .ok (.iconst 1, 1) := by decide +kernel
theorem dL_places_546 : decode cL_places 546 = .ok (.if_icmp .ne 90, 3) := by decide +kernel
theorem dL_places_549 : decode cL_places 549 = .ok (.aload_n 0, 1) := by decide +kernel
theorem dL_places_550 : decode cL_places 550 = .ok (.iload 15, 2) := by decide +kernel
theorem dL_places_552 : decode cL_places 552 = .ok (.iconst 1, 1) := by decide +kernel
theorem dL_places_553 : decode cL_places 553 = .ok (.invokevirtual 43, 3) := by decide +kernel
theorem dL_places_556 : decode cL_places 556 = .ok (.iload 13, 2) := by decide +kernel
theorem dL_places_558 : decode cL_places 558 = .ok (.if_icmp .ne 78, 3) := by decide +kernel
theorem dL_places_561 : decode cL_places 561 = .ok (.aload_n 0, 1) := by decide +kernel
theorem dL_places_562 : decode cL_places 562 = .ok (.iload 15, 2) := by decide +kernel
theorem dL_places_564 : decode cL_places 564 = .ok (.iconst 3, 1) := by decide +kernel
theorem dL_places_565 : decode cL_places 565 = .ok (.invokevirtual 43, 3) := by decide +kernel
theorem dL_places_568 : decode cL_places 568 = .ok (.iload 8, 2) := by decide +kernel
theorem dL_places_570 : decode cL_places 570 = .ok (.if_icmp .ne 66, 3) := by decide +kernel
theorem dL_places_573 : decode cL_places 573 = .ok (.aload_n 0, 1) := by decide +kernel
theorem dL_places_574 : decode cL_places 574 = .ok (.iload 15, 2) := by decide +kernel
theorem dL_places_576 : decode cL_places 576 = .ok (.iconst 4, 1) := by decide +kernel
theorem dL_places_577 : decode cL_places 577 = .ok (.invokevirtual 43, 3) := by decide +kernel
theorem dL_places_580 : decode cL_places 580 = .ok (.iload 9, 2) := by decide +kernel
theorem dL_places_582 : decode cL_places 582 = .ok (.if_icmp .ne 54, 3) := by decide +kernel
theorem dL_places_585 : decode cL_places 585 = .ok (.aload_n 0, 1) := by decide +kernel
theorem dL_places_586 : decode cL_places 586 = .ok (.iload 15, 2) := by decide +kernel
theorem dL_places_588 : decode cL_places 588 = .ok (.iconst 5, 1) := by decide +kernel
theorem dL_places_589 : decode cL_places 589 = .ok (.invokevirtual 43, 3) := by decide +kernel
theorem dL_places_592 : decode cL_places 592 = .ok (.ifCond .ne 44, 3) := by decide +kernel
theorem dL_places_595 : decode cL_places 595 = .ok (.aload_n 0, 1) := by decide +kernel
theorem dL_places_596 : decode cL_places 596 = .ok (.iload 15, 2) := by decide +kernel
theorem dL_places_598 : decode cL_places 598 = .ok (.bipush 6, 2) := by decide +kernel
theorem dL_places_600 : decode cL_places 600 = .ok (.invokevirtual 43, 3) := by decide +kernel
theorem dL_places_603 : decode cL_places 603 = .ok (.ifCond .ne 33, 3) := by decide +kernel
theorem dL_places_606 : decode cL_places 606 = .ok (.iload 11, 2) := by decide +kernel
theorem dL_places_608 : decode cL_places 608 = .ok (.ifCond .lt 16, 3) := by decide +kernel
theorem dL_places_611 : decode cL_places 611 = .ok (.aload_n 0, 1) := by decide +kernel
theorem dL_places_612 : decode cL_places 612 = .ok (.iload 15, 2) := by decide +kernel
theorem dL_places_614 : decode cL_places 614 = .ok (.bipush 7, 2) := by decide +kernel
theorem dL_places_616 : decode cL_places 616 = .ok (.invokevirtual 43, 3) := by decide +kernel
theorem dL_places_619 : decode cL_places 619 = .ok (.iload 11, 2) := by decide +kernel
theorem dL_places_621 : decode cL_places 621 = .ok (.if_icmp .ne 15, 3) := by decide +kernel
theorem dL_places_624 : decode cL_places 624 = .ok (.aload_n 0, 1) := by decide +kernel
theorem dL_places_625 : decode cL_places 625 = .ok (.invokevirtual 89, 3) := by decide +kernel
theorem dL_places_628 : decode cL_places 628 = .ok (.iconst (-1), 1) := by decide +kernel
theorem dL_places_629 : decode cL_places 629 = .ok (.if_icmp .ne 7, 3) := by decide +kernel
theorem dL_places_632 : decode cL_places 632 = .ok (.iconst 1, 1) := by decide +kernel
theorem dL_places_633 : decode cL_places 633 = .ok (.goto 4, 3) := by decide +kernel
theorem dL_places_637 : decode cL_places 637 = .ok (.ireturn, 1) := by decide +kernel
def F_L_places_36 (z : ScT) (K36 : Int32 → Int32 → Int32 → Int32 → Nat → Mm → Prop) (K116 : Int32 → Int32 → Int32 → Int32 → Int32 → Nat → Mm → Prop) (K175 : Int32 → Int32 → Int32 → Int32 → Int32 → Int32 → Int32 → Int32 → Int32 → Nat → Mm → Prop) (K221 : Int32 → Int32 → Int32 → Int32 → Int32 → Int32 → Int32 → Int32 → Int32 → Int32 → Int32 → Nat → Mm → Prop) (K278 : Int32 → Int32 → Int32 → Int32 → Nat → Mm → Prop) (K340 : Int32 → Int32 → Int32 → Int32 → Int32 → Int32 → Nat → Mm → Prop) (K407 : Int32 → Int32 → Int32 → Nat → Mm → Prop) (K437 : Int32 → Int32 → Int32 → Int32 → Int32 → Int32 → Int32 → Nat → Mm → Prop) (K472 : Int32 → Int32 → Int32 → Int32 → Int32 → Int32 → Int32 → Nat → Mm → Prop) (K549 : Int32 → Int32 → Int32 → Int32 → Int32 → Nat → Mm → Prop) (K624 : Nat → Mm → Prop) (q : Mm → Prop) (x1 : Int32) (x2 : Int32) (x8 : Int32) (x11 : Int32) (n : Nat) (μ : Mm) : Prop :=
  n + 1 ≤ 60 ∧ (((x8 ≤ x11 → K116 x1 x2 x8 (0 : Int32) (0 : Int32) n μ) ∧ (¬ (x8 ≤ x11) → vp_in x11 12 ∧ (∀ μ_1 : Mm, μ_1 = (up2 μ p_LD (x11).toNatClampNeg ((1 : Int32) + (irm (x2 >>> (((3 : Int32) * x11) &&& 31)) (20 : Int32)))) → vp_in x11 12 ∧ Wp_L_asks (2 : Int32) (μ_1 p_LD (x11).toNatClampNeg) (((1 : Int32) + (irm (x2 >>> (((4 : Int32) * x11) &&& 31)) (63 : Int32))) ||| ((1 : Int32) <<< ((irm (x1 / (3 : Int32)) (6 : Int32)) &&& 31))) (0 : Int32) μ_1 (fun z3 μ_2 => ((¬ (z3 = x11) → False) ∧ (z3 = x11 → K36 x1 x2 x8 (x11 + (1 : Int32)) (n + 1) μ_2)))))))
def F_L_places_116 (z : ScT) (K36 : Int32 → Int32 → Int32 → Int32 → Nat → Mm → Prop) (K116 : Int32 → Int32 → Int32 → Int32 → Int32 → Nat → Mm → Prop) (K175 : Int32 → Int32 → Int32 → Int32 → Int32 → Int32 → Int32 → Int32 → Int32 → Nat → Mm → Prop) (K221 : Int32 → Int32 → Int32 → Int32 → Int32 → Int32 → Int32 → Int32 → Int32 → Int32 → Int32 → Nat → Mm → Prop) (K278 : Int32 → Int32 → Int32 → Int32 → Nat → Mm → Prop) (K340 : Int32 → Int32 → Int32 → Int32 → Int32 → Int32 → Nat → Mm → Prop) (K407 : Int32 → Int32 → Int32 → Nat → Mm → Prop) (K437 : Int32 → Int32 → Int32 → Int32 → Int32 → Int32 → Int32 → Nat → Mm → Prop) (K472 : Int32 → Int32 → Int32 → Int32 → Int32 → Int32 → Int32 → Nat → Mm → Prop) (K549 : Int32 → Int32 → Int32 → Int32 → Int32 → Nat → Mm → Prop) (K624 : Nat → Mm → Prop) (q : Mm → Prop) (x1 : Int32) (x2 : Int32) (x8 : Int32) (x9 : Int32) (x11 : Int32) (n : Nat) (μ : Mm) : Prop :=
  n + 0 ≤ 60 ∧ ((((3 : Int32) ≤ x11 → K278 x1 x2 x8 x9 n μ) ∧ (¬ ((3 : Int32) ≤ x11) → ((x8 ≤ (1 : Int32) → K278 x1 x2 x8 x9 n μ) ∧ (¬ (x8 ≤ (1 : Int32)) → ¬ (x8 = 0) ∧ (∀ v12_1 : Int32, v12_1 = (irm x11 x8) → ¬ (x8 = 0) ∧ (∀ v13_2 : Int32, v13_2 = (irm (x11 + (1 : Int32)) x8) → (∀ v14_3 : Int32, v14_3 = ((1 : Int32) + (irm (x2 >>> ((((2 : Int32) * x11) + (5 : Int32)) &&& 31)) (20 : Int32))) → ((¬ (x8 = (2 : Int32)) → K175 x1 x2 x8 x9 x11 v12_1 v13_2 v14_3 (0 : Int32) n μ) ∧ (x8 = (2 : Int32) → ((x9 ≤ 0 → K175 x1 x2 x8 x9 x11 v12_1 v13_2 v14_3 (0 : Int32) n μ) ∧ (¬ (x9 ≤ 0) → K175 x1 x2 x8 x9 x11 v12_1 v13_2 v14_3 (1 : Int32) n μ))))))))))))
def F_L_places_175 (z : ScT) (K36 : Int32 → Int32 → Int32 → Int32 → Nat → Mm → Prop) (K116 : Int32 → Int32 → Int32 → Int32 → Int32 → Nat → Mm → Prop) (K175 : Int32 → Int32 → Int32 → Int32 → Int32 → Int32 → Int32 → Int32 → Int32 → Nat → Mm → Prop) (K221 : Int32 → Int32 → Int32 → Int32 → Int32 → Int32 → Int32 → Int32 → Int32 → Int32 → Int32 → Nat → Mm → Prop) (K278 : Int32 → Int32 → Int32 → Int32 → Nat → Mm → Prop) (K340 : Int32 → Int32 → Int32 → Int32 → Int32 → Int32 → Nat → Mm → Prop) (K407 : Int32 → Int32 → Int32 → Nat → Mm → Prop) (K437 : Int32 → Int32 → Int32 → Int32 → Int32 → Int32 → Int32 → Nat → Mm → Prop) (K472 : Int32 → Int32 → Int32 → Int32 → Int32 → Int32 → Int32 → Nat → Mm → Prop) (K549 : Int32 → Int32 → Int32 → Int32 → Int32 → Nat → Mm → Prop) (K624 : Nat → Mm → Prop) (q : Mm → Prop) (x1 : Int32) (x2 : Int32) (x8 : Int32) (x9 : Int32) (x11 : Int32) (x12 : Int32) (x13 : Int32) (x14 : Int32) (y0 : Int32) (n : Nat) (μ : Mm) : Prop :=
  n + 1 ≤ 60 ∧ (((¬ (((x1 >>> (((4 : Int32) + x11) &&& 31)) &&& (1 : Int32)) = (1 : Int32)) → K116 x1 x2 x8 x9 (x11 + (1 : Int32)) n μ) ∧ (((x1 >>> (((4 : Int32) + x11) &&& 31)) &&& (1 : Int32)) = (1 : Int32) → Wp_L_asks (3 : Int32) x12 x13 x14 μ (fun z2 μ_1 => ((y0 = 0 → K221 x1 x2 x8 x9 x11 x12 x13 x14 z2 x9 z2 (n + 1) μ_1) ∧ (¬ (y0 = 0) → K221 x1 x2 x8 x9 x11 x12 x13 x14 z2 (-70008 : Int32) z2 (n + 1) μ_1))))))
def F_L_places_221 (z : ScT) (K36 : Int32 → Int32 → Int32 → Int32 → Nat → Mm → Prop) (K116 : Int32 → Int32 → Int32 → Int32 → Int32 → Nat → Mm → Prop) (K175 : Int32 → Int32 → Int32 → Int32 → Int32 → Int32 → Int32 → Int32 → Int32 → Nat → Mm → Prop) (K221 : Int32 → Int32 → Int32 → Int32 → Int32 → Int32 → Int32 → Int32 → Int32 → Int32 → Int32 → Nat → Mm → Prop) (K278 : Int32 → Int32 → Int32 → Int32 → Nat → Mm → Prop) (K340 : Int32 → Int32 → Int32 → Int32 → Int32 → Int32 → Nat → Mm → Prop) (K407 : Int32 → Int32 → Int32 → Nat → Mm → Prop) (K437 : Int32 → Int32 → Int32 → Int32 → Int32 → Int32 → Int32 → Nat → Mm → Prop) (K472 : Int32 → Int32 → Int32 → Int32 → Int32 → Int32 → Int32 → Nat → Mm → Prop) (K549 : Int32 → Int32 → Int32 → Int32 → Int32 → Nat → Mm → Prop) (K624 : Nat → Mm → Prop) (q : Mm → Prop) (x1 : Int32) (x2 : Int32) (x8 : Int32) (x9 : Int32) (x11 : Int32) (x12 : Int32) (x13 : Int32) (x14 : Int32) (x16 : Int32) (y0 : Int32) (y1 : Int32) (n : Nat) (μ : Mm) : Prop :=
  n + 0 ≤ 60 ∧ (((¬ (y1 = y0) → False) ∧ (y1 = y0 → ((x16 < 0 → K116 x1 x2 x8 x9 (x11 + (1 : Int32)) n μ) ∧ (¬ (x16 < 0) → vp_in ((3 : Int32) + ((3 : Int32) * x9)) 12 ∧ (∀ μ_1 : Mm, μ_1 = (up2 μ p_LD (((3 : Int32) + ((3 : Int32) * x9))).toNatClampNeg x12) → vp_in ((4 : Int32) + ((3 : Int32) * x9)) 12 ∧ (∀ μ_2 : Mm, μ_2 = (up2 μ_1 p_LD (((4 : Int32) + ((3 : Int32) * x9))).toNatClampNeg x13) → vp_in ((5 : Int32) + ((3 : Int32) * x9)) 12 ∧ (∀ μ_3 : Mm, μ_3 = (up2 μ_2 p_LD (((5 : Int32) + ((3 : Int32) * x9))).toNatClampNeg x14) → K116 x1 x2 x8 (x9 + (1 : Int32)) (x11 + (1 : Int32)) n μ_3))))))))
def F_L_places_278 (z : ScT) (K36 : Int32 → Int32 → Int32 → Int32 → Nat → Mm → Prop) (K116 : Int32 → Int32 → Int32 → Int32 → Int32 → Nat → Mm → Prop) (K175 : Int32 → Int32 → Int32 → Int32 → Int32 → Int32 → Int32 → Int32 → Int32 → Nat → Mm → Prop) (K221 : Int32 → Int32 → Int32 → Int32 → Int32 → Int32 → Int32 → Int32 → Int32 → Int32 → Int32 → Nat → Mm → Prop) (K278 : Int32 → Int32 → Int32 → Int32 → Nat → Mm → Prop) (K340 : Int32 → Int32 → Int32 → Int32 → Int32 → Int32 → Nat → Mm → Prop) (K407 : Int32 → Int32 → Int32 → Nat → Mm → Prop) (K437 : Int32 → Int32 → Int32 → Int32 → Int32 → Int32 → Int32 → Nat → Mm → Prop) (K472 : Int32 → Int32 → Int32 → Int32 → Int32 → Int32 → Int32 → Nat → Mm → Prop) (K549 : Int32 → Int32 → Int32 → Int32 → Int32 → Nat → Mm → Prop) (K624 : Nat → Mm → Prop) (q : Mm → Prop) (x1 : Int32) (x2 : Int32) (x8 : Int32) (x9 : Int32) (n : Nat) (μ : Mm) : Prop :=
  n + 0 ≤ 60 ∧ (vp_in (4 : Int32) 5 ∧ (∀ μ_1 : Mm, μ_1 = (up2 μ p_LC ((4 : Int32)).toNatClampNeg x8) → Wp_X7_least  μ_1 (fun z3 μ_2 => Wp_X7_freeing  μ_2 (fun z5 μ_4 => (∀ v13_6 : Int32, v13_6 = (irm (x1 / (200 : Int32)) (3 : Int32)) → (∀ v14_7 : Int32, v14_7 = ((1 : Int32) + (irm (x2 / (7 : Int32)) (40 : Int32))) → Wp_X7_leastAnew  μ_4 (fun z9 μ_8 => ((¬ (z9 = z3) → False) ∧ (z9 = z3 → ((z3 < 0 → K340 x8 x9 z3 z5 v13_6 v14_7 n μ_8) ∧ (¬ (z3 < 0) → ((¬ (z5 = (-1 : Int32)) → False) ∧ (z5 = (-1 : Int32) → K340 x8 x9 z3 z5 v13_6 v14_7 n μ_8)))))))))))))
def F_L_places_340 (z : ScT) (K36 : Int32 → Int32 → Int32 → Int32 → Nat → Mm → Prop) (K116 : Int32 → Int32 → Int32 → Int32 → Int32 → Nat → Mm → Prop) (K175 : Int32 → Int32 → Int32 → Int32 → Int32 → Int32 → Int32 → Int32 → Int32 → Nat → Mm → Prop) (K221 : Int32 → Int32 → Int32 → Int32 → Int32 → Int32 → Int32 → Int32 → Int32 → Int32 → Int32 → Nat → Mm → Prop) (K278 : Int32 → Int32 → Int32 → Int32 → Nat → Mm → Prop) (K340 : Int32 → Int32 → Int32 → Int32 → Int32 → Int32 → Nat → Mm → Prop) (K407 : Int32 → Int32 → Int32 → Nat → Mm → Prop) (K437 : Int32 → Int32 → Int32 → Int32 → Int32 → Int32 → Int32 → Nat → Mm → Prop) (K472 : Int32 → Int32 → Int32 → Int32 → Int32 → Int32 → Int32 → Nat → Mm → Prop) (K549 : Int32 → Int32 → Int32 → Int32 → Int32 → Nat → Mm → Prop) (K624 : Nat → Mm → Prop) (q : Mm → Prop) (x8 : Int32) (x9 : Int32) (x11 : Int32) (x12 : Int32) (x13 : Int32) (x14 : Int32) (n : Nat) (μ : Mm) : Prop :=
  n + 1 ≤ 60 ∧ (Wp_L_asks (4 : Int32) x13 x14 (0 : Int32) μ (fun z2 μ_1 => vp_in (2 : Int32) 5 ∧ ((¬ ((μ_1 p_LC ((2 : Int32)).toNatClampNeg) = (12 : Int32)) → ((¬ (z2 = (-1 : Int32)) → K437 x8 x9 x11 x13 x14 z2 (0 : Int32) (n + 1) μ_1) ∧ (z2 = (-1 : Int32) → ((x11 < 0 → K407 x11 x12 x13 (n + 1) μ_1) ∧ (¬ (x11 < 0) → ((¬ (x13 = (2 : Int32)) → False) ∧ (x13 = (2 : Int32) → K407 x11 x12 x13 (n + 1) μ_1))))))) ∧ ((μ_1 p_LC ((2 : Int32)).toNatClampNeg) = (12 : Int32) → ((¬ (z2 = (-70008 : Int32)) → False) ∧ (z2 = (-70008 : Int32) → q μ_1))))))
def F_L_places_407 (z : ScT) (K36 : Int32 → Int32 → Int32 → Int32 → Nat → Mm → Prop) (K116 : Int32 → Int32 → Int32 → Int32 → Int32 → Nat → Mm → Prop) (K175 : Int32 → Int32 → Int32 → Int32 → Int32 → Int32 → Int32 → Int32 → Int32 → Nat → Mm → Prop) (K221 : Int32 → Int32 → Int32 → Int32 → Int32 → Int32 → Int32 → Int32 → Int32 → Int32 → Int32 → Nat → Mm → Prop) (K278 : Int32 → Int32 → Int32 → Int32 → Nat → Mm → Prop) (K340 : Int32 → Int32 → Int32 → Int32 → Int32 → Int32 → Nat → Mm → Prop) (K407 : Int32 → Int32 → Int32 → Nat → Mm → Prop) (K437 : Int32 → Int32 → Int32 → Int32 → Int32 → Int32 → Int32 → Nat → Mm → Prop) (K472 : Int32 → Int32 → Int32 → Int32 → Int32 → Int32 → Int32 → Nat → Mm → Prop) (K549 : Int32 → Int32 → Int32 → Int32 → Int32 → Nat → Mm → Prop) (K624 : Nat → Mm → Prop) (q : Mm → Prop) (x11 : Int32) (x12 : Int32) (x13 : Int32) (n : Nat) (μ : Mm) : Prop :=
  n + 10 ≤ 60 ∧ (Wp_X7_least  μ (fun z2 μ_1 => ((¬ (z2 = x11) → False) ∧ (z2 = x11 → Wp_L_frees z x12 x13 μ_1 (fun μ_3 => q μ_3)))))
def F_L_places_437 (z : ScT) (K36 : Int32 → Int32 → Int32 → Int32 → Nat → Mm → Prop) (K116 : Int32 → Int32 → Int32 → Int32 → Int32 → Nat → Mm → Prop) (K175 : Int32 → Int32 → Int32 → Int32 → Int32 → Int32 → Int32 → Int32 → Int32 → Nat → Mm → Prop) (K221 : Int32 → Int32 → Int32 → Int32 → Int32 → Int32 → Int32 → Int32 → Int32 → Int32 → Int32 → Nat → Mm → Prop) (K278 : Int32 → Int32 → Int32 → Int32 → Nat → Mm → Prop) (K340 : Int32 → Int32 → Int32 → Int32 → Int32 → Int32 → Nat → Mm → Prop) (K407 : Int32 → Int32 → Int32 → Nat → Mm → Prop) (K437 : Int32 → Int32 → Int32 → Int32 → Int32 → Int32 → Int32 → Nat → Mm → Prop) (K472 : Int32 → Int32 → Int32 → Int32 → Int32 → Int32 → Int32 → Nat → Mm → Prop) (K549 : Int32 → Int32 → Int32 → Int32 → Int32 → Nat → Mm → Prop) (K624 : Nat → Mm → Prop) (q : Mm → Prop) (x8 : Int32) (x9 : Int32) (x11 : Int32) (x13 : Int32) (x14 : Int32) (x15 : Int32) (x16 : Int32) (n : Nat) (μ : Mm) : Prop :=
  n + 0 ≤ 60 ∧ ((((9 : Int32) ≤ x16 → K472 x8 x9 x11 x13 x14 x15 (0 : Int32) n μ) ∧ (¬ ((9 : Int32) ≤ x16) → vp_in (2 : Int32) 5 ∧ vp_in ((3 : Int32) + x16) 12 ∧ vp_in (((9 : Int32) * (μ p_LC ((2 : Int32)).toNatClampNeg)) + x16) 64 ∧ (∀ μ_1 : Mm, μ_1 = (up2 μ p_LQ ((((9 : Int32) * (μ p_LC ((2 : Int32)).toNatClampNeg)) + x16)).toNatClampNeg (μ p_LD (((3 : Int32) + x16)).toNatClampNeg)) → K437 x8 x9 x11 x13 x14 x15 (x16 + (1 : Int32)) n μ_1))))
def F_L_places_472 (z : ScT) (K36 : Int32 → Int32 → Int32 → Int32 → Nat → Mm → Prop) (K116 : Int32 → Int32 → Int32 → Int32 → Int32 → Nat → Mm → Prop) (K175 : Int32 → Int32 → Int32 → Int32 → Int32 → Int32 → Int32 → Int32 → Int32 → Nat → Mm → Prop) (K221 : Int32 → Int32 → Int32 → Int32 → Int32 → Int32 → Int32 → Int32 → Int32 → Int32 → Int32 → Nat → Mm → Prop) (K278 : Int32 → Int32 → Int32 → Int32 → Nat → Mm → Prop) (K340 : Int32 → Int32 → Int32 → Int32 → Int32 → Int32 → Nat → Mm → Prop) (K407 : Int32 → Int32 → Int32 → Nat → Mm → Prop) (K437 : Int32 → Int32 → Int32 → Int32 → Int32 → Int32 → Int32 → Nat → Mm → Prop) (K472 : Int32 → Int32 → Int32 → Int32 → Int32 → Int32 → Int32 → Nat → Mm → Prop) (K549 : Int32 → Int32 → Int32 → Int32 → Int32 → Nat → Mm → Prop) (K624 : Nat → Mm → Prop) (q : Mm → Prop) (x8 : Int32) (x9 : Int32) (x11 : Int32) (x13 : Int32) (x14 : Int32) (x15 : Int32) (x16 : Int32) (n : Nat) (μ : Mm) : Prop :=
  n + 0 ≤ 60 ∧ ((((3 : Int32) ≤ x16 → vp_in (2 : Int32) 5 ∧ vp_in (3 : Int32) 5 ∧ vp_in (μ p_LC ((2 : Int32)).toNatClampNeg) 12 ∧ (∀ μ_1 : Mm, μ_1 = (up2 μ p_LT ((μ p_LC ((2 : Int32)).toNatClampNeg)).toNatClampNeg ((μ p_LC ((3 : Int32)).toNatClampNeg) + x14)) → vp_in (2 : Int32) 5 ∧ vp_in (2 : Int32) 5 ∧ (∀ μ_2 : Mm, μ_2 = (up2 μ_1 p_LC ((2 : Int32)).toNatClampNeg ((μ_1 p_LC ((2 : Int32)).toNatClampNeg) + (1 : Int32))) → vp_in (4 : Int32) 5 ∧ (∀ μ_3 : Mm, μ_3 = (up2 μ_2 p_LC ((4 : Int32)).toNatClampNeg (0 : Int32)) → vp_in (2 : Int32) 5 ∧ ((¬ (x15 = ((μ_3 p_LC ((2 : Int32)).toNatClampNeg) - (1 : Int32))) → False) ∧ (x15 = ((μ_3 p_LC ((2 : Int32)).toNatClampNeg) - (1 : Int32)) → ((0 ≤ x11 → K549 x8 x9 x11 x13 x15 n μ_3) ∧ (¬ (0 ≤ x11) → ((¬ (x13 = (1 : Int32)) → False) ∧ (x13 = (1 : Int32) → K549 x8 x9 x11 x13 x15 n μ_3)))))))))) ∧ (¬ ((3 : Int32) ≤ x16) → vp_in (2 : Int32) 5 ∧ vp_in x16 12 ∧ vp_in (((3 : Int32) * (μ p_LC ((2 : Int32)).toNatClampNeg)) + x16) 36 ∧ (∀ μ_4 : Mm, μ_4 = (up2 μ p_LP ((((3 : Int32) * (μ p_LC ((2 : Int32)).toNatClampNeg)) + x16)).toNatClampNeg (μ p_LD (x16).toNatClampNeg)) → K472 x8 x9 x11 x13 x14 x15 (x16 + (1 : Int32)) n μ_4))))
def F_L_places_549 (z : ScT) (K36 : Int32 → Int32 → Int32 → Int32 → Nat → Mm → Prop) (K116 : Int32 → Int32 → Int32 → Int32 → Int32 → Nat → Mm → Prop) (K175 : Int32 → Int32 → Int32 → Int32 → Int32 → Int32 → Int32 → Int32 → Int32 → Nat → Mm → Prop) (K221 : Int32 → Int32 → Int32 → Int32 → Int32 → Int32 → Int32 → Int32 → Int32 → Int32 → Int32 → Nat → Mm → Prop) (K278 : Int32 → Int32 → Int32 → Int32 → Nat → Mm → Prop) (K340 : Int32 → Int32 → Int32 → Int32 → Int32 → Int32 → Nat → Mm → Prop) (K407 : Int32 → Int32 → Int32 → Nat → Mm → Prop) (K437 : Int32 → Int32 → Int32 → Int32 → Int32 → Int32 → Int32 → Nat → Mm → Prop) (K472 : Int32 → Int32 → Int32 → Int32 → Int32 → Int32 → Int32 → Nat → Mm → Prop) (K549 : Int32 → Int32 → Int32 → Int32 → Int32 → Nat → Mm → Prop) (K624 : Nat → Mm → Prop) (q : Mm → Prop) (x8 : Int32) (x9 : Int32) (x11 : Int32) (x13 : Int32) (x15 : Int32) (n : Nat) (μ : Mm) : Prop :=
  n + 6 ≤ 60 ∧ (T_X7_told x15 (1 : Int32) μ (fun z2 μ_1 => ((¬ (z2 = x13) → False) ∧ (z2 = x13 → T_X7_told x15 (3 : Int32) μ_1 (fun z4 μ_3 => ((¬ (z4 = x8) → False) ∧ (z4 = x8 → T_X7_told x15 (4 : Int32) μ_3 (fun z6 μ_5 => ((¬ (z6 = x9) → False) ∧ (z6 = x9 → T_X7_told x15 (5 : Int32) μ_5 (fun z8 μ_7 => ((¬ (z8 = 0) → False) ∧ (z8 = 0 → T_X7_told x15 (6 : Int32) μ_7 (fun z10 μ_9 => ((¬ (z10 = 0) → False) ∧ (z10 = 0 → ((x11 < 0 → K624 (n + 5) μ_9) ∧ (¬ (x11 < 0) → T_X7_told x15 (7 : Int32) μ_9 (fun z12 μ_11 => ((¬ (z12 = x11) → False) ∧ (z12 = x11 → K624 (n + 6) μ_11))) (fun _ _ => False)))))) (fun _ _ => False)))) (fun _ _ => False)))) (fun _ _ => False)))) (fun _ _ => False)))) (fun _ _ => False))
def F_L_places_624 (z : ScT) (K36 : Int32 → Int32 → Int32 → Int32 → Nat → Mm → Prop) (K116 : Int32 → Int32 → Int32 → Int32 → Int32 → Nat → Mm → Prop) (K175 : Int32 → Int32 → Int32 → Int32 → Int32 → Int32 → Int32 → Int32 → Int32 → Nat → Mm → Prop) (K221 : Int32 → Int32 → Int32 → Int32 → Int32 → Int32 → Int32 → Int32 → Int32 → Int32 → Int32 → Nat → Mm → Prop) (K278 : Int32 → Int32 → Int32 → Int32 → Nat → Mm → Prop) (K340 : Int32 → Int32 → Int32 → Int32 → Int32 → Int32 → Nat → Mm → Prop) (K407 : Int32 → Int32 → Int32 → Nat → Mm → Prop) (K437 : Int32 → Int32 → Int32 → Int32 → Int32 → Int32 → Int32 → Nat → Mm → Prop) (K472 : Int32 → Int32 → Int32 → Int32 → Int32 → Int32 → Int32 → Nat → Mm → Prop) (K549 : Int32 → Int32 → Int32 → Int32 → Int32 → Nat → Mm → Prop) (K624 : Nat → Mm → Prop) (q : Mm → Prop) (n : Nat) (μ : Mm) : Prop :=
  n + 0 ≤ 60 ∧ (Wp_X7_least  μ (fun z2 μ_1 => ((¬ (z2 = (-1 : Int32)) → False) ∧ (z2 = (-1 : Int32) → q μ_1))))
def F_L_places_e (z : ScT) (K36 : Int32 → Int32 → Int32 → Int32 → Nat → Mm → Prop) (K116 : Int32 → Int32 → Int32 → Int32 → Int32 → Nat → Mm → Prop) (K175 : Int32 → Int32 → Int32 → Int32 → Int32 → Int32 → Int32 → Int32 → Int32 → Nat → Mm → Prop) (K221 : Int32 → Int32 → Int32 → Int32 → Int32 → Int32 → Int32 → Int32 → Int32 → Int32 → Int32 → Nat → Mm → Prop) (K278 : Int32 → Int32 → Int32 → Int32 → Nat → Mm → Prop) (K340 : Int32 → Int32 → Int32 → Int32 → Int32 → Int32 → Nat → Mm → Prop) (K407 : Int32 → Int32 → Int32 → Nat → Mm → Prop) (K437 : Int32 → Int32 → Int32 → Int32 → Int32 → Int32 → Int32 → Nat → Mm → Prop) (K472 : Int32 → Int32 → Int32 → Int32 → Int32 → Int32 → Int32 → Nat → Mm → Prop) (K549 : Int32 → Int32 → Int32 → Int32 → Int32 → Nat → Mm → Prop) (K624 : Nat → Mm → Prop) (q : Mm → Prop) (x1 : Int32) (x2 : Int32) (μ : Mm) : Prop :=
  Wp_X7_clear  μ (fun z2 μ_1 => vp_in (4 : Int32) 5 ∧ ((¬ (z2 = (μ_1 p_LC ((4 : Int32)).toNatClampNeg)) → False) ∧ (z2 = (μ_1 p_LC ((4 : Int32)).toNatClampNeg) → (∀ v8_3 : Int32, v8_3 = ((1 : Int32) + (irm x1 (3 : Int32))) → K36 x1 x2 v8_3 (0 : Int32) 2 (zrm μ_1 p_LD)))))
def Wp_L_places (z : ScT) (x1 : Int32) (x2 : Int32) (μ : Mm) (q : Mm → Prop) : Prop := ∀ (K36 : Int32 → Int32 → Int32 → Int32 → Nat → Mm → Prop) (K116 : Int32 → Int32 → Int32 → Int32 → Int32 → Nat → Mm → Prop) (K175 : Int32 → Int32 → Int32 → Int32 → Int32 → Int32 → Int32 → Int32 → Int32 → Nat → Mm → Prop) (K221 : Int32 → Int32 → Int32 → Int32 → Int32 → Int32 → Int32 → Int32 → Int32 → Int32 → Int32 → Nat → Mm → Prop) (K278 : Int32 → Int32 → Int32 → Int32 → Nat → Mm → Prop) (K340 : Int32 → Int32 → Int32 → Int32 → Int32 → Int32 → Nat → Mm → Prop) (K407 : Int32 → Int32 → Int32 → Nat → Mm → Prop) (K437 : Int32 → Int32 → Int32 → Int32 → Int32 → Int32 → Int32 → Nat → Mm → Prop) (K472 : Int32 → Int32 → Int32 → Int32 → Int32 → Int32 → Int32 → Nat → Mm → Prop) (K549 : Int32 → Int32 → Int32 → Int32 → Int32 → Nat → Mm → Prop) (K624 : Nat → Mm → Prop), (∀ (x1 : Int32) (x2 : Int32) (x8 : Int32) (x11 : Int32) (n : Nat) (μ : Mm), F_L_places_36 z K36 K116 K175 K221 K278 K340 K407 K437 K472 K549 K624 q x1 x2 x8 x11 n μ → K36 x1 x2 x8 x11 n μ) → (∀ (x1 : Int32) (x2 : Int32) (x8 : Int32) (x9 : Int32) (x11 : Int32) (n : Nat) (μ : Mm), F_L_places_116 z K36 K116 K175 K221 K278 K340 K407 K437 K472 K549 K624 q x1 x2 x8 x9 x11 n μ → K116 x1 x2 x8 x9 x11 n μ) → (∀ (x1 : Int32) (x2 : Int32) (x8 : Int32) (x9 : Int32) (x11 : Int32) (x12 : Int32) (x13 : Int32) (x14 : Int32) (y0 : Int32) (n : Nat) (μ : Mm), F_L_places_175 z K36 K116 K175 K221 K278 K340 K407 K437 K472 K549 K624 q x1 x2 x8 x9 x11 x12 x13 x14 y0 n μ → K175 x1 x2 x8 x9 x11 x12 x13 x14 y0 n μ) → (∀ (x1 : Int32) (x2 : Int32) (x8 : Int32) (x9 : Int32) (x11 : Int32) (x12 : Int32) (x13 : Int32) (x14 : Int32) (x16 : Int32) (y0 : Int32) (y1 : Int32) (n : Nat) (μ : Mm), F_L_places_221 z K36 K116 K175 K221 K278 K340 K407 K437 K472 K549 K624 q x1 x2 x8 x9 x11 x12 x13 x14 x16 y0 y1 n μ → K221 x1 x2 x8 x9 x11 x12 x13 x14 x16 y0 y1 n μ) → (∀ (x1 : Int32) (x2 : Int32) (x8 : Int32) (x9 : Int32) (n : Nat) (μ : Mm), F_L_places_278 z K36 K116 K175 K221 K278 K340 K407 K437 K472 K549 K624 q x1 x2 x8 x9 n μ → K278 x1 x2 x8 x9 n μ) → (∀ (x8 : Int32) (x9 : Int32) (x11 : Int32) (x12 : Int32) (x13 : Int32) (x14 : Int32) (n : Nat) (μ : Mm), F_L_places_340 z K36 K116 K175 K221 K278 K340 K407 K437 K472 K549 K624 q x8 x9 x11 x12 x13 x14 n μ → K340 x8 x9 x11 x12 x13 x14 n μ) → (∀ (x11 : Int32) (x12 : Int32) (x13 : Int32) (n : Nat) (μ : Mm), F_L_places_407 z K36 K116 K175 K221 K278 K340 K407 K437 K472 K549 K624 q x11 x12 x13 n μ → K407 x11 x12 x13 n μ) → (∀ (x8 : Int32) (x9 : Int32) (x11 : Int32) (x13 : Int32) (x14 : Int32) (x15 : Int32) (x16 : Int32) (n : Nat) (μ : Mm), F_L_places_437 z K36 K116 K175 K221 K278 K340 K407 K437 K472 K549 K624 q x8 x9 x11 x13 x14 x15 x16 n μ → K437 x8 x9 x11 x13 x14 x15 x16 n μ) → (∀ (x8 : Int32) (x9 : Int32) (x11 : Int32) (x13 : Int32) (x14 : Int32) (x15 : Int32) (x16 : Int32) (n : Nat) (μ : Mm), F_L_places_472 z K36 K116 K175 K221 K278 K340 K407 K437 K472 K549 K624 q x8 x9 x11 x13 x14 x15 x16 n μ → K472 x8 x9 x11 x13 x14 x15 x16 n μ) → (∀ (x8 : Int32) (x9 : Int32) (x11 : Int32) (x13 : Int32) (x15 : Int32) (n : Nat) (μ : Mm), F_L_places_549 z K36 K116 K175 K221 K278 K340 K407 K437 K472 K549 K624 q x8 x9 x11 x13 x15 n μ → K549 x8 x9 x11 x13 x15 n μ) → (∀ (n : Nat) (μ : Mm), F_L_places_624 z K36 K116 K175 K221 K278 K340 K407 K437 K472 K549 K624 q n μ → K624 n μ) → F_L_places_e z K36 K116 K175 K221 K278 K340 K407 K437 K472 K549 K624 q x1 x2 μ
abbrev KK_L_places_36 (g : GE) (f : FE) (z : ScT) : Int32 → Int32 → Int32 → Int32 → Nat → Mm → Prop := fun x1 x2 x8 x11 n μ => ∀ g2, GXn g g2 p_LD 12 → (∀ n, n ≤ 60 → Cx g2 f cL_places 17 RL 13 323 n (6 * n)) → BXl g2 z f → KW g2 f 17 n (6 * n) 36 [some (.ref p_ML), some (.int x1), some (.int x2), some (.ref p_LC), some (.ref p_LQ), some (.ref p_LP), some (.ref p_LT), some (.int (1 : Int32)), some (.int x8), some (.int (0 : Int32)), some (.ref p_LD), some (.int x11), none, none, none, none, none] [] μ
abbrev KK_L_places_116 (g : GE) (f : FE) (z : ScT) : Int32 → Int32 → Int32 → Int32 → Int32 → Nat → Mm → Prop := fun x1 x2 x8 x9 x11 n μ => ∀ g2, GXn g g2 p_LD 12 → (∀ n, n ≤ 60 → Cx g2 f cL_places 17 RL 13 323 n (6 * n)) → BXl g2 z f → KW g2 f 17 n (6 * n) 116 [some (.ref p_ML), some (.int x1), some (.int x2), some (.ref p_LC), some (.ref p_LQ), some (.ref p_LP), some (.ref p_LT), some (.int (1 : Int32)), some (.int x8), some (.int x9), some (.ref p_LD), some (.int x11), none, none, none, none, none] [] μ
abbrev KK_L_places_175 (g : GE) (f : FE) (z : ScT) : Int32 → Int32 → Int32 → Int32 → Int32 → Int32 → Int32 → Int32 → Int32 → Nat → Mm → Prop := fun x1 x2 x8 x9 x11 x12 x13 x14 y0 n μ => ∀ g2, GXn g g2 p_LD 12 → (∀ n, n ≤ 60 → Cx g2 f cL_places 17 RL 13 323 n (6 * n)) → BXl g2 z f → KW g2 f 17 n (6 * n) 175 [some (.ref p_ML), some (.int x1), some (.int x2), some (.ref p_LC), some (.ref p_LQ), some (.ref p_LP), some (.ref p_LT), some (.int (1 : Int32)), some (.int x8), some (.int x9), some (.ref p_LD), some (.int x11), some (.int x12), some (.int x13), some (.int x14), none, none] [.int y0] μ
abbrev KK_L_places_221 (g : GE) (f : FE) (z : ScT) : Int32 → Int32 → Int32 → Int32 → Int32 → Int32 → Int32 → Int32 → Int32 → Int32 → Int32 → Nat → Mm → Prop := fun x1 x2 x8 x9 x11 x12 x13 x14 x16 y0 y1 n μ => ∀ g2, GXn g g2 p_LD 12 → (∀ n, n ≤ 60 → Cx g2 f cL_places 17 RL 13 323 n (6 * n)) → BXl g2 z f → KW g2 f 17 n (6 * n) 221 [some (.ref p_ML), some (.int x1), some (.int x2), some (.ref p_LC), some (.ref p_LQ), some (.ref p_LP), some (.ref p_LT), none, some (.int x8), some (.int x9), some (.ref p_LD), some (.int x11), some (.int x12), some (.int x13), some (.int x14), none, some (.int x16)] [.int y0, .int y1] μ
abbrev KK_L_places_278 (g : GE) (f : FE) (z : ScT) : Int32 → Int32 → Int32 → Int32 → Nat → Mm → Prop := fun x1 x2 x8 x9 n μ => ∀ g2, GXn g g2 p_LD 12 → (∀ n, n ≤ 60 → Cx g2 f cL_places 17 RL 13 323 n (6 * n)) → BXl g2 z f → KW g2 f 17 n (6 * n) 278 [some (.ref p_ML), some (.int x1), some (.int x2), some (.ref p_LC), some (.ref p_LQ), some (.ref p_LP), some (.ref p_LT), some (.int (1 : Int32)), some (.int x8), some (.int x9), some (.ref p_LD), none, none, none, none, none, none] [] μ
abbrev KK_L_places_340 (g : GE) (f : FE) (z : ScT) : Int32 → Int32 → Int32 → Int32 → Int32 → Int32 → Nat → Mm → Prop := fun x8 x9 x11 x12 x13 x14 n μ => ∀ g2, GXn g g2 p_LD 12 → (∀ n, n ≤ 60 → Cx g2 f cL_places 17 RL 13 323 n (6 * n)) → BXl g2 z f → KW g2 f 17 n (6 * n) 340 [some (.ref p_ML), none, none, some (.ref p_LC), some (.ref p_LQ), some (.ref p_LP), some (.ref p_LT), none, some (.int x8), some (.int x9), some (.ref p_LD), some (.int x11), some (.int x12), some (.int x13), some (.int x14), none, none] [] μ
abbrev KK_L_places_407 (g : GE) (f : FE) (z : ScT) : Int32 → Int32 → Int32 → Nat → Mm → Prop := fun x11 x12 x13 n μ => ∀ g2, GXn g g2 p_LD 12 → (∀ n, n ≤ 60 → Cx g2 f cL_places 17 RL 13 323 n (6 * n)) → BXl g2 z f → KW g2 f 17 n (6 * n) 407 [some (.ref p_ML), none, none, some (.ref p_LC), none, none, none, none, none, none, none, some (.int x11), some (.int x12), some (.int x13), none, none, none] [] μ
abbrev KK_L_places_437 (g : GE) (f : FE) (z : ScT) : Int32 → Int32 → Int32 → Int32 → Int32 → Int32 → Int32 → Nat → Mm → Prop := fun x8 x9 x11 x13 x14 x15 x16 n μ => ∀ g2, GXn g g2 p_LD 12 → (∀ n, n ≤ 60 → Cx g2 f cL_places 17 RL 13 323 n (6 * n)) → BXl g2 z f → KW g2 f 17 n (6 * n) 437 [some (.ref p_ML), none, none, some (.ref p_LC), some (.ref p_LQ), some (.ref p_LP), some (.ref p_LT), some (.int (1 : Int32)), some (.int x8), some (.int x9), some (.ref p_LD), some (.int x11), none, some (.int x13), some (.int x14), some (.int x15), some (.int x16)] [] μ
abbrev KK_L_places_472 (g : GE) (f : FE) (z : ScT) : Int32 → Int32 → Int32 → Int32 → Int32 → Int32 → Int32 → Nat → Mm → Prop := fun x8 x9 x11 x13 x14 x15 x16 n μ => ∀ g2, GXn g g2 p_LD 12 → (∀ n, n ≤ 60 → Cx g2 f cL_places 17 RL 13 323 n (6 * n)) → BXl g2 z f → KW g2 f 17 n (6 * n) 472 [some (.ref p_ML), none, none, some (.ref p_LC), none, some (.ref p_LP), some (.ref p_LT), some (.int (1 : Int32)), some (.int x8), some (.int x9), some (.ref p_LD), some (.int x11), none, some (.int x13), some (.int x14), some (.int x15), some (.int x16)] [] μ
abbrev KK_L_places_549 (g : GE) (f : FE) (z : ScT) : Int32 → Int32 → Int32 → Int32 → Int32 → Nat → Mm → Prop := fun x8 x9 x11 x13 x15 n μ => ∀ g2, GXn g g2 p_LD 12 → (∀ n, n ≤ 60 → Cx g2 f cL_places 17 RL 13 323 n (6 * n)) → BXl g2 z f → KW g2 f 17 n (6 * n) 549 [some (.ref p_ML), none, none, none, none, none, none, none, some (.int x8), some (.int x9), none, some (.int x11), none, some (.int x13), none, some (.int x15), none] [] μ
abbrev KK_L_places_624 (g : GE) (f : FE) (z : ScT) : Nat → Mm → Prop := fun n μ => ∀ g2, GXn g g2 p_LD 12 → (∀ n, n ≤ 60 → Cx g2 f cL_places 17 RL 13 323 n (6 * n)) → BXl g2 z f → KW g2 f 17 n (6 * n) 624 [some (.ref p_ML), none, none, none, none, none, none, none, none, none, none, none, none, none, none, none, none] [] μ
set_option maxHeartbeats 4000000 in
theorem b_L_places_36 {g g2 : GE} {f : FE} {z : ScT} {q : Mm → Prop} (hg : GXn g g2 p_LD 12) (hcx : (∀ n, n ≤ 60 → Cx g2 f cL_places 17 RL 13 323 n (6 * n))) (bx : BXl g2 z f) (hr : (f_M f).sig.returnType = (some .boolean)) (rx : RXl g f 60 (qTr q)) {x1 : Int32} {x2 : Int32} {x8 : Int32} {x11 : Int32} {n : Nat} {μ : Mm} (h : F_L_places_36 z (KK_L_places_36 g f z) (KK_L_places_116 g f z) (KK_L_places_175 g f z) (KK_L_places_221 g f z) (KK_L_places_278 g f z) (KK_L_places_340 g f z) (KK_L_places_407 g f z) (KK_L_places_437 g f z) (KK_L_places_472 g f z) (KK_L_places_549 g f z) (KK_L_places_624 g f z) q x1 x2 x8 x11 n μ) : KW g2 f 17 n (6 * n) 36 [some (.ref p_ML), some (.int x1), some (.int x2), some (.ref p_LC), some (.ref p_LQ), some (.ref p_LP), some (.ref p_LT), some (.int (1 : Int32)), some (.int x8), some (.int (0 : Int32)), some (.ref p_LD), some (.int x11), none, none, none, none, none] [] μ := by
  unfold F_L_places_36 at h
  obtain ⟨hn, h⟩ := h
  have cx := hcx n (by omega)
  refine k_iload cx dL_places_36 rfl ?_
  refine k_iload cx dL_places_38 rfl ?_
  refine k_icmp_ge (tgt := 113) cx dL_places_40 (by decide) (fun hc => ?_) (fun hc => ?_)
  · replace h := h.1 hc
    refine k_iconst (v := (0 : Int32)) cx dL_places_113 (by decide +kernel) ?_
    refine k_istore cx dL_places_114 (by decide) ?_
    exact k_weak (h _ hg hcx bx) (lsLe.keep (lsLe.keep (lsLe.keep (lsLe.keep (lsLe.keep (lsLe.keep (lsLe.keep (lsLe.keep (lsLe.keep (lsLe.keep (lsLe.keep (lsLe.keep (lsLe.keep (lsLe.keep (lsLe.keep (lsLe.keep (lsLe.keep lsLe.nil)))))))))))))))))
  · replace h := h.2 hc
    refine k_aload cx dL_places_43 rfl ?_
    refine k_iload cx dL_places_45 rfl ?_
    refine k_iconst (v := (1 : Int32)) cx dL_places_47 (by decide +kernel) ?_
    refine k_iload_n cx dL_places_48 rfl rfl ?_
    refine k_iconst (v := (3 : Int32)) cx dL_places_49 (by decide +kernel) ?_
    refine k_iload cx dL_places_50 rfl ?_
    refine k_imul cx dL_places_52 ?_
    refine k_ishr cx dL_places_53 ?_
    refine k_bipush (v := (20 : Int32)) cx dL_places_54 (by decide +kernel) ?_
    refine k_rem cx dL_places_56 (by decide) ?_
    refine k_iadd cx dL_places_57 ?_
    obtain ⟨hi, h⟩ := h
    refine k_iast cx hg.at hi dL_places_58 ?_
    generalize eμ_1 : (up2 μ p_LD (x11).toNatClampNeg ((1 : Int32) + (irm (x2 >>> (((3 : Int32) * x11) &&& 31)) (20 : Int32)))) = μ_1
    replace h := h μ_1 eμ_1.symm
    refine k_iload cx dL_places_59 rfl ?_
    refine k_if_eq (tgt := 104) cx dL_places_61 (by decide) (fun hc => absurd hc (by decide)) (fun _ => ?_)
    refine k_aload_n cx dL_places_64 rfl rfl ?_
    refine k_iconst (v := (2 : Int32)) cx dL_places_65 (by decide +kernel) ?_
    refine k_aload cx dL_places_66 rfl ?_
    refine k_iload cx dL_places_68 rfl ?_
    obtain ⟨hi, h⟩ := h
    refine k_iald cx hg.at hi dL_places_70 ?_
    refine k_iconst (v := (1 : Int32)) cx dL_places_71 (by decide +kernel) ?_
    refine k_iload_n cx dL_places_72 rfl rfl ?_
    refine k_iconst (v := (4 : Int32)) cx dL_places_73 (by decide +kernel) ?_
    refine k_iload cx dL_places_74 rfl ?_
    refine k_imul cx dL_places_76 ?_
    refine k_ishr cx dL_places_77 ?_
    refine k_bipush (v := (63 : Int32)) cx dL_places_78 (by decide +kernel) ?_
    refine k_rem cx dL_places_80 (by decide) ?_
    refine k_iadd cx dL_places_81 ?_
    refine k_iconst (v := (1 : Int32)) cx dL_places_82 (by decide +kernel) ?_
    refine k_iload_n cx dL_places_83 rfl rfl ?_
    refine k_iconst (v := (3 : Int32)) cx dL_places_84 (by decide +kernel) ?_
    refine k_idiv cx dL_places_85 (by decide) ?_
    refine k_bipush (v := (6 : Int32)) cx dL_places_86 (by decide +kernel) ?_
    refine k_rem cx dL_places_88 (by decide) ?_
    refine k_ishl cx dL_places_89 ?_
    refine k_ior cx dL_places_90 ?_
    refine k_iconst (v := (0 : Int32)) cx dL_places_91 (by decide +kernel) ?_
    refine k_callH (As := [.ref p_ML, .int (2 : Int32), .int (μ_1 p_LD (x11).toNatClampNeg), .int (((1 : Int32) + (irm (x2 >>> (((4 : Int32) * x11) &&& 31)) (63 : Int32))) ||| ((1 : Int32) <<< ((irm (x1 / (3 : Int32)) (6 : Int32)) &&& 31))), .int (0 : Int32)]) (rest := []) (n2 := (n + 1)) hcx bx (m_L_asks bx.2.2.2 h) ch_L_asks rfl rfl (Nat.le_of_ble_eq_true rfl) ⟨Nat.le_of_ble_eq_true rfl, Nat.le_of_ble_eq_true rfl⟩ (by omega) (by omega) dL_places_92 (fun v μ_2 hq => ?_)
    obtain ⟨z3, rfl, h⟩ := hq
    have cx := hcx (n + 1) (by omega)
    refine k_iload cx dL_places_95 rfl ?_
    refine k_icmp_ne (tgt := 104) cx dL_places_97 (by decide) (fun hc => ?_) (fun hc => ?_)
    · replace h := h.1 hc
      exact h.elim
    · replace h := h.2 hc
      refine k_iconst (v := (1 : Int32)) cx dL_places_100 (by decide +kernel) ?_
      refine k_goto (tgt := 105) cx dL_places_101 (by decide) ?_
      refine k_istore cx dL_places_105 (by decide) ?_
      refine k_iinc (v := (x11 + (1 : Int32))) cx dL_places_107 rfl rfl (by decide) ?_
      refine k_goto (tgt := 36) cx dL_places_110 (by decide) ?_
      exact k_weak (h _ hg hcx bx) (lsLe.keep (lsLe.keep (lsLe.keep (lsLe.keep (lsLe.keep (lsLe.keep (lsLe.keep (lsLe.keep (lsLe.keep (lsLe.keep (lsLe.keep (lsLe.keep (lsLe.keep (lsLe.keep (lsLe.keep (lsLe.keep (lsLe.keep lsLe.nil)))))))))))))))))
set_option maxHeartbeats 4000000 in
theorem b_L_places_116 {g g2 : GE} {f : FE} {z : ScT} {q : Mm → Prop} (hg : GXn g g2 p_LD 12) (hcx : (∀ n, n ≤ 60 → Cx g2 f cL_places 17 RL 13 323 n (6 * n))) (bx : BXl g2 z f) (hr : (f_M f).sig.returnType = (some .boolean)) (rx : RXl g f 60 (qTr q)) {x1 : Int32} {x2 : Int32} {x8 : Int32} {x9 : Int32} {x11 : Int32} {n : Nat} {μ : Mm} (h : F_L_places_116 z (KK_L_places_36 g f z) (KK_L_places_116 g f z) (KK_L_places_175 g f z) (KK_L_places_221 g f z) (KK_L_places_278 g f z) (KK_L_places_340 g f z) (KK_L_places_407 g f z) (KK_L_places_437 g f z) (KK_L_places_472 g f z) (KK_L_places_549 g f z) (KK_L_places_624 g f z) q x1 x2 x8 x9 x11 n μ) : KW g2 f 17 n (6 * n) 116 [some (.ref p_ML), some (.int x1), some (.int x2), some (.ref p_LC), some (.ref p_LQ), some (.ref p_LP), some (.ref p_LT), some (.int (1 : Int32)), some (.int x8), some (.int x9), some (.ref p_LD), some (.int x11), none, none, none, none, none] [] μ := by
  unfold F_L_places_116 at h
  obtain ⟨hn, h⟩ := h
  have cx := hcx n (by omega)
  refine k_iload cx dL_places_116 rfl ?_
  refine k_iconst (v := (3 : Int32)) cx dL_places_118 (by decide +kernel) ?_
  refine k_icmp_ge (tgt := 278) cx dL_places_119 (by decide) (fun hc => ?_) (fun hc => ?_)
  · replace h := h.1 hc
    exact k_weak (h _ hg hcx bx) (lsLe.keep (lsLe.keep (lsLe.keep (lsLe.keep (lsLe.keep (lsLe.keep (lsLe.keep (lsLe.keep (lsLe.keep (lsLe.keep (lsLe.keep (lsLe.drop (lsLe.keep (lsLe.keep (lsLe.keep (lsLe.keep (lsLe.keep lsLe.nil)))))))))))))))))
  · replace h := h.2 hc
    refine k_iload cx dL_places_122 rfl ?_
    refine k_iconst (v := (1 : Int32)) cx dL_places_124 (by decide +kernel) ?_
    refine k_icmp_le (tgt := 278) cx dL_places_125 (by decide) (fun hc => ?_) (fun hc => ?_)
    · replace h := h.1 hc
      exact k_weak (h _ hg hcx bx) (lsLe.keep (lsLe.keep (lsLe.keep (lsLe.keep (lsLe.keep (lsLe.keep (lsLe.keep (lsLe.keep (lsLe.keep (lsLe.keep (lsLe.keep (lsLe.drop (lsLe.keep (lsLe.keep (lsLe.keep (lsLe.keep (lsLe.keep lsLe.nil)))))))))))))))))
    · replace h := h.2 hc
      refine k_iload cx dL_places_128 rfl ?_
      refine k_iload cx dL_places_130 rfl ?_
      obtain ⟨hz, h⟩ := h
      refine k_rem cx dL_places_132 hz ?_
      refine k_istore cx dL_places_133 (by decide) ?_
      generalize ev12_1 : (irm x11 x8) = v12_1
      replace h := h v12_1 ev12_1.symm
      refine k_iload cx dL_places_135 rfl ?_
      refine k_iconst (v := (1 : Int32)) cx dL_places_137 (by decide +kernel) ?_
      refine k_iadd cx dL_places_138 ?_
      refine k_iload cx dL_places_139 rfl ?_
      obtain ⟨hz, h⟩ := h
      refine k_rem cx dL_places_141 hz ?_
      refine k_istore cx dL_places_142 (by decide) ?_
      generalize ev13_2 : (irm (x11 + (1 : Int32)) x8) = v13_2
      replace h := h v13_2 ev13_2.symm
      refine k_iconst (v := (1 : Int32)) cx dL_places_144 (by decide +kernel) ?_
      refine k_iload_n cx dL_places_145 rfl rfl ?_
      refine k_iconst (v := (2 : Int32)) cx dL_places_146 (by decide +kernel) ?_
      refine k_iload cx dL_places_147 rfl ?_
      refine k_imul cx dL_places_149 ?_
      refine k_iconst (v := (5 : Int32)) cx dL_places_150 (by decide +kernel) ?_
      refine k_iadd cx dL_places_151 ?_
      refine k_ishr cx dL_places_152 ?_
      refine k_bipush (v := (20 : Int32)) cx dL_places_153 (by decide +kernel) ?_
      refine k_rem cx dL_places_155 (by decide) ?_
      refine k_iadd cx dL_places_156 ?_
      refine k_istore cx dL_places_157 (by decide) ?_
      generalize ev14_3 : ((1 : Int32) + (irm (x2 >>> ((((2 : Int32) * x11) + (5 : Int32)) &&& 31)) (20 : Int32))) = v14_3
      replace h := h v14_3 ev14_3.symm
      refine k_iload cx dL_places_159 rfl ?_
      refine k_iconst (v := (2 : Int32)) cx dL_places_161 (by decide +kernel) ?_
      refine k_icmp_ne (tgt := 174) cx dL_places_162 (by decide) (fun hc => ?_) (fun hc => ?_)
      · replace h := h.1 hc
        refine k_iconst (v := (0 : Int32)) cx dL_places_174 (by decide +kernel) ?_
        exact k_weak (h _ hg hcx bx) (lsLe.keep (lsLe.keep (lsLe.keep (lsLe.keep (lsLe.keep (lsLe.keep (lsLe.keep (lsLe.keep (lsLe.keep (lsLe.keep (lsLe.keep (lsLe.keep (lsLe.keep (lsLe.keep (lsLe.keep (lsLe.keep (lsLe.keep lsLe.nil)))))))))))))))))
      · replace h := h.2 hc
        refine k_iload cx dL_places_165 rfl ?_
        refine k_if_le (tgt := 174) cx dL_places_167 (by decide) (fun hc => ?_) (fun hc => ?_)
        · replace h := h.1 hc
          refine k_iconst (v := (0 : Int32)) cx dL_places_174 (by decide +kernel) ?_
          exact k_weak (h _ hg hcx bx) (lsLe.keep (lsLe.keep (lsLe.keep (lsLe.keep (lsLe.keep (lsLe.keep (lsLe.keep (lsLe.keep (lsLe.keep (lsLe.keep (lsLe.keep (lsLe.keep (lsLe.keep (lsLe.keep (lsLe.keep (lsLe.keep (lsLe.keep lsLe.nil)))))))))))))))))
        · replace h := h.2 hc
          refine k_iconst (v := (1 : Int32)) cx dL_places_170 (by decide +kernel) ?_
          refine k_goto (tgt := 175) cx dL_places_171 (by decide) ?_
          exact k_weak (h _ hg hcx bx) (lsLe.keep (lsLe.keep (lsLe.keep (lsLe.keep (lsLe.keep (lsLe.keep (lsLe.keep (lsLe.keep (lsLe.keep (lsLe.keep (lsLe.keep (lsLe.keep (lsLe.keep (lsLe.keep (lsLe.keep (lsLe.keep (lsLe.keep lsLe.nil)))))))))))))))))
set_option maxHeartbeats 4000000 in
theorem b_L_places_175 {g g2 : GE} {f : FE} {z : ScT} {q : Mm → Prop} (hg : GXn g g2 p_LD 12) (hcx : (∀ n, n ≤ 60 → Cx g2 f cL_places 17 RL 13 323 n (6 * n))) (bx : BXl g2 z f) (hr : (f_M f).sig.returnType = (some .boolean)) (rx : RXl g f 60 (qTr q)) {x1 : Int32} {x2 : Int32} {x8 : Int32} {x9 : Int32} {x11 : Int32} {x12 : Int32} {x13 : Int32} {x14 : Int32} {y0 : Int32} {n : Nat} {μ : Mm} (h : F_L_places_175 z (KK_L_places_36 g f z) (KK_L_places_116 g f z) (KK_L_places_175 g f z) (KK_L_places_221 g f z) (KK_L_places_278 g f z) (KK_L_places_340 g f z) (KK_L_places_407 g f z) (KK_L_places_437 g f z) (KK_L_places_472 g f z) (KK_L_places_549 g f z) (KK_L_places_624 g f z) q x1 x2 x8 x9 x11 x12 x13 x14 y0 n μ) : KW g2 f 17 n (6 * n) 175 [some (.ref p_ML), some (.int x1), some (.int x2), some (.ref p_LC), some (.ref p_LQ), some (.ref p_LP), some (.ref p_LT), some (.int (1 : Int32)), some (.int x8), some (.int x9), some (.ref p_LD), some (.int x11), some (.int x12), some (.int x13), some (.int x14), none, none] [.int y0] μ := by
  unfold F_L_places_175 at h
  obtain ⟨hn, h⟩ := h
  have cx := hcx n (by omega)
  refine k_istore cx dL_places_175 (by decide) ?_
  refine k_iload_n cx dL_places_177 rfl rfl ?_
  refine k_iconst (v := (4 : Int32)) cx dL_places_178 (by decide +kernel) ?_
  refine k_iload cx dL_places_179 rfl ?_
  refine k_iadd cx dL_places_181 ?_
  refine k_ishr cx dL_places_182 ?_
  refine k_iconst (v := (1 : Int32)) cx dL_places_183 (by decide +kernel) ?_
  refine k_iand cx dL_places_184 ?_
  refine k_iconst (v := (1 : Int32)) cx dL_places_185 (by decide +kernel) ?_
  refine k_icmp_ne (tgt := 272) cx dL_places_186 (by decide) (fun hc => ?_) (fun hc => ?_)
  · replace h := h.1 hc
    refine k_iinc (v := (x11 + (1 : Int32))) cx dL_places_272 rfl rfl (by decide) ?_
    refine k_goto (tgt := 116) cx dL_places_275 (by decide) ?_
    exact k_weak (h _ hg hcx bx) (lsLe.keep (lsLe.keep (lsLe.keep (lsLe.keep (lsLe.keep (lsLe.keep (lsLe.keep (lsLe.keep (lsLe.keep (lsLe.keep (lsLe.keep (lsLe.keep (lsLe.drop (lsLe.drop (lsLe.drop (lsLe.drop (lsLe.keep lsLe.nil)))))))))))))))))
  · replace h := h.2 hc
    refine k_aload_n cx dL_places_189 rfl rfl ?_
    refine k_iconst (v := (3 : Int32)) cx dL_places_190 (by decide +kernel) ?_
    refine k_iload cx dL_places_191 rfl ?_
    refine k_iload cx dL_places_193 rfl ?_
    refine k_iload cx dL_places_195 rfl ?_
    refine k_callH (As := [.ref p_ML, .int (3 : Int32), .int x12, .int x13, .int x14]) (rest := []) (n2 := (n + 1)) hcx bx (m_L_asks bx.2.2.2 h) ch_L_asks rfl rfl (Nat.le_of_ble_eq_true rfl) ⟨Nat.le_of_ble_eq_true rfl, Nat.le_of_ble_eq_true rfl⟩ (by omega) (by omega) dL_places_197 (fun v μ_1 hq => ?_)
    obtain ⟨z2, rfl, h⟩ := hq
    have cx := hcx (n + 1) (by omega)
    refine k_istore cx dL_places_200 (by decide) ?_
    refine k_iload cx dL_places_202 rfl ?_
    refine k_if_eq (tgt := 228) cx dL_places_204 (by decide) (fun hc => absurd hc (by decide)) (fun _ => ?_)
    refine k_iload cx dL_places_207 rfl ?_
    refine k_iload cx dL_places_209 rfl ?_
    refine k_if_eq (tgt := 219) cx dL_places_211 (by decide) (fun hc => ?_) (fun hc => ?_)
    · replace h := h.1 hc
      refine k_iload cx dL_places_219 rfl ?_
      exact k_weak (h _ hg hcx bx) (lsLe.keep (lsLe.keep (lsLe.keep (lsLe.keep (lsLe.keep (lsLe.keep (lsLe.keep (lsLe.drop (lsLe.keep (lsLe.keep (lsLe.keep (lsLe.keep (lsLe.keep (lsLe.keep (lsLe.keep (lsLe.drop (lsLe.keep lsLe.nil)))))))))))))))))
    · replace h := h.2 hc
      refine k_ldc (v := (-70008 : Int32)) cx kc_L_54 dL_places_214 ?_
      refine k_goto (tgt := 221) cx dL_places_216 (by decide) ?_
      exact k_weak (h _ hg hcx bx) (lsLe.keep (lsLe.keep (lsLe.keep (lsLe.keep (lsLe.keep (lsLe.keep (lsLe.keep (lsLe.drop (lsLe.keep (lsLe.keep (lsLe.keep (lsLe.keep (lsLe.keep (lsLe.keep (lsLe.keep (lsLe.drop (lsLe.keep lsLe.nil)))))))))))))))))
set_option maxHeartbeats 4000000 in
theorem b_L_places_221 {g g2 : GE} {f : FE} {z : ScT} {q : Mm → Prop} (hg : GXn g g2 p_LD 12) (hcx : (∀ n, n ≤ 60 → Cx g2 f cL_places 17 RL 13 323 n (6 * n))) (bx : BXl g2 z f) (hr : (f_M f).sig.returnType = (some .boolean)) (rx : RXl g f 60 (qTr q)) {x1 : Int32} {x2 : Int32} {x8 : Int32} {x9 : Int32} {x11 : Int32} {x12 : Int32} {x13 : Int32} {x14 : Int32} {x16 : Int32} {y0 : Int32} {y1 : Int32} {n : Nat} {μ : Mm} (h : F_L_places_221 z (KK_L_places_36 g f z) (KK_L_places_116 g f z) (KK_L_places_175 g f z) (KK_L_places_221 g f z) (KK_L_places_278 g f z) (KK_L_places_340 g f z) (KK_L_places_407 g f z) (KK_L_places_437 g f z) (KK_L_places_472 g f z) (KK_L_places_549 g f z) (KK_L_places_624 g f z) q x1 x2 x8 x9 x11 x12 x13 x14 x16 y0 y1 n μ) : KW g2 f 17 n (6 * n) 221 [some (.ref p_ML), some (.int x1), some (.int x2), some (.ref p_LC), some (.ref p_LQ), some (.ref p_LP), some (.ref p_LT), none, some (.int x8), some (.int x9), some (.ref p_LD), some (.int x11), some (.int x12), some (.int x13), some (.int x14), none, some (.int x16)] [.int y0, .int y1] μ := by
  unfold F_L_places_221 at h
  obtain ⟨hn, h⟩ := h
  have cx := hcx n (by omega)
  refine k_icmp_ne (tgt := 228) cx dL_places_221 (by decide) (fun hc => ?_) (fun hc => ?_)
  · replace h := h.1 hc
    exact h.elim
  · replace h := h.2 hc
    refine k_iconst (v := (1 : Int32)) cx dL_places_224 (by decide +kernel) ?_
    refine k_goto (tgt := 229) cx dL_places_225 (by decide) ?_
    refine k_istore cx dL_places_229 (by decide) ?_
    refine k_iload cx dL_places_231 rfl ?_
    refine k_if_lt (tgt := 272) cx dL_places_233 (by decide) (fun hc => ?_) (fun hc => ?_)
    · replace h := h.1 hc
      refine k_iinc (v := (x11 + (1 : Int32))) cx dL_places_272 rfl rfl (by decide) ?_
      refine k_goto (tgt := 116) cx dL_places_275 (by decide) ?_
      exact k_weak (h _ hg hcx bx) (lsLe.keep (lsLe.keep (lsLe.keep (lsLe.keep (lsLe.keep (lsLe.keep (lsLe.keep (lsLe.keep (lsLe.keep (lsLe.keep (lsLe.keep (lsLe.keep (lsLe.drop (lsLe.drop (lsLe.drop (lsLe.keep (lsLe.drop lsLe.nil)))))))))))))))))
    · replace h := h.2 hc
      refine k_aload cx dL_places_236 rfl ?_
      refine k_iconst (v := (3 : Int32)) cx dL_places_238 (by decide +kernel) ?_
      refine k_iconst (v := (3 : Int32)) cx dL_places_239 (by decide +kernel) ?_
      refine k_iload cx dL_places_240 rfl ?_
      refine k_imul cx dL_places_242 ?_
      refine k_iadd cx dL_places_243 ?_
      refine k_iload cx dL_places_244 rfl ?_
      obtain ⟨hi, h⟩ := h
      refine k_iast cx hg.at hi dL_places_246 ?_
      generalize eμ_1 : (up2 μ p_LD (((3 : Int32) + ((3 : Int32) * x9))).toNatClampNeg x12) = μ_1
      replace h := h μ_1 eμ_1.symm
      refine k_aload cx dL_places_247 rfl ?_
      refine k_iconst (v := (4 : Int32)) cx dL_places_249 (by decide +kernel) ?_
      refine k_iconst (v := (3 : Int32)) cx dL_places_250 (by decide +kernel) ?_
      refine k_iload cx dL_places_251 rfl ?_
      refine k_imul cx dL_places_253 ?_
      refine k_iadd cx dL_places_254 ?_
      refine k_iload cx dL_places_255 rfl ?_
      obtain ⟨hi, h⟩ := h
      refine k_iast cx hg.at hi dL_places_257 ?_
      generalize eμ_2 : (up2 μ_1 p_LD (((4 : Int32) + ((3 : Int32) * x9))).toNatClampNeg x13) = μ_2
      replace h := h μ_2 eμ_2.symm
      refine k_aload cx dL_places_258 rfl ?_
      refine k_iconst (v := (5 : Int32)) cx dL_places_260 (by decide +kernel) ?_
      refine k_iconst (v := (3 : Int32)) cx dL_places_261 (by decide +kernel) ?_
      refine k_iload cx dL_places_262 rfl ?_
      refine k_imul cx dL_places_264 ?_
      refine k_iadd cx dL_places_265 ?_
      refine k_iload cx dL_places_266 rfl ?_
      obtain ⟨hi, h⟩ := h
      refine k_iast cx hg.at hi dL_places_268 ?_
      generalize eμ_3 : (up2 μ_2 p_LD (((5 : Int32) + ((3 : Int32) * x9))).toNatClampNeg x14) = μ_3
      replace h := h μ_3 eμ_3.symm
      refine k_iinc (v := (x9 + (1 : Int32))) cx dL_places_269 rfl rfl (by decide) ?_
      refine k_iinc (v := (x11 + (1 : Int32))) cx dL_places_272 rfl rfl (by decide) ?_
      refine k_goto (tgt := 116) cx dL_places_275 (by decide) ?_
      exact k_weak (h _ hg hcx bx) (lsLe.keep (lsLe.keep (lsLe.keep (lsLe.keep (lsLe.keep (lsLe.keep (lsLe.keep (lsLe.keep (lsLe.keep (lsLe.keep (lsLe.keep (lsLe.keep (lsLe.drop (lsLe.drop (lsLe.drop (lsLe.keep (lsLe.drop lsLe.nil)))))))))))))))))
set_option maxHeartbeats 4000000 in
theorem b_L_places_278 {g g2 : GE} {f : FE} {z : ScT} {q : Mm → Prop} (hg : GXn g g2 p_LD 12) (hcx : (∀ n, n ≤ 60 → Cx g2 f cL_places 17 RL 13 323 n (6 * n))) (bx : BXl g2 z f) (hr : (f_M f).sig.returnType = (some .boolean)) (rx : RXl g f 60 (qTr q)) {x1 : Int32} {x2 : Int32} {x8 : Int32} {x9 : Int32} {n : Nat} {μ : Mm} (h : F_L_places_278 z (KK_L_places_36 g f z) (KK_L_places_116 g f z) (KK_L_places_175 g f z) (KK_L_places_221 g f z) (KK_L_places_278 g f z) (KK_L_places_340 g f z) (KK_L_places_407 g f z) (KK_L_places_437 g f z) (KK_L_places_472 g f z) (KK_L_places_549 g f z) (KK_L_places_624 g f z) q x1 x2 x8 x9 n μ) : KW g2 f 17 n (6 * n) 278 [some (.ref p_ML), some (.int x1), some (.int x2), some (.ref p_LC), some (.ref p_LQ), some (.ref p_LP), some (.ref p_LT), some (.int (1 : Int32)), some (.int x8), some (.int x9), some (.ref p_LD), none, none, none, none, none, none] [] μ := by
  unfold F_L_places_278 at h
  obtain ⟨hn, h⟩ := h
  have cx := hcx n (by omega)
  refine k_aload_n cx dL_places_278 rfl rfl ?_
  refine k_iconst (v := (4 : Int32)) cx dL_places_279 (by decide +kernel) ?_
  refine k_iload cx dL_places_280 rfl ?_
  obtain ⟨hi, h⟩ := h
  refine k_iast cx ar_LC hi dL_places_282 ?_
  generalize eμ_1 : (up2 μ p_LC ((4 : Int32)).toNatClampNeg x8) = μ_1
  replace h := h μ_1 eμ_1.symm
  refine k_aload_n cx dL_places_283 rfl rfl ?_
  refine k_callV (As := []) (rest := []) cx (m_X7_least h) cv_L_89 ob_ML rfl rfl rfl rfl (Nat.le_of_ble_eq_true rfl) ⟨Nat.le_of_ble_eq_true rfl, Nat.le_of_ble_eq_true rfl⟩ dL_places_284 (fun v μ_2 hq => ?_)
  obtain ⟨z3, rfl, h⟩ := hq
  refine k_istore cx dL_places_287 (by decide) ?_
  refine k_aload_n cx dL_places_289 rfl rfl ?_
  refine k_callV (As := []) (rest := []) cx (m_X7_freeing h) cv_L_99 ob_ML rfl rfl rfl rfl (Nat.le_of_ble_eq_true rfl) ⟨Nat.le_of_ble_eq_true rfl, Nat.le_of_ble_eq_true rfl⟩ dL_places_290 (fun v μ_4 hq => ?_)
  obtain ⟨z5, rfl, h⟩ := hq
  refine k_istore cx dL_places_293 (by decide) ?_
  refine k_iload_n cx dL_places_295 rfl rfl ?_
  refine k_sipush (v := (200 : Int32)) cx dL_places_296 (by decide +kernel) ?_
  refine k_idiv cx dL_places_299 (by decide) ?_
  refine k_iconst (v := (3 : Int32)) cx dL_places_300 (by decide +kernel) ?_
  refine k_rem cx dL_places_301 (by decide) ?_
  refine k_istore cx dL_places_302 (by decide) ?_
  generalize ev13_6 : (irm (x1 / (200 : Int32)) (3 : Int32)) = v13_6
  replace h := h v13_6 ev13_6.symm
  refine k_iconst (v := (1 : Int32)) cx dL_places_304 (by decide +kernel) ?_
  refine k_iload_n cx dL_places_305 rfl rfl ?_
  refine k_bipush (v := (7 : Int32)) cx dL_places_306 (by decide +kernel) ?_
  refine k_idiv cx dL_places_308 (by decide) ?_
  refine k_bipush (v := (40 : Int32)) cx dL_places_309 (by decide +kernel) ?_
  refine k_rem cx dL_places_311 (by decide) ?_
  refine k_iadd cx dL_places_312 ?_
  refine k_istore cx dL_places_313 (by decide) ?_
  generalize ev14_7 : ((1 : Int32) + (irm (x2 / (7 : Int32)) (40 : Int32))) = v14_7
  replace h := h v14_7 ev14_7.symm
  refine k_iload cx dL_places_315 rfl ?_
  refine k_if_eq (tgt := 344) cx dL_places_317 (by decide) (fun hc => absurd hc (by decide)) (fun _ => ?_)
  refine k_aload_n cx dL_places_320 rfl rfl ?_
  refine k_callV (As := []) (rest := []) cx (m_X7_leastAnew h) cv_L_96 ob_ML rfl rfl rfl rfl (Nat.le_of_ble_eq_true rfl) ⟨Nat.le_of_ble_eq_true rfl, Nat.le_of_ble_eq_true rfl⟩ dL_places_321 (fun v μ_8 hq => ?_)
  obtain ⟨z9, rfl, h⟩ := hq
  refine k_iload cx dL_places_324 rfl ?_
  refine k_icmp_ne (tgt := 344) cx dL_places_326 (by decide) (fun hc => ?_) (fun hc => ?_)
  · replace h := h.1 hc
    exact h.elim
  · replace h := h.2 hc
    refine k_iload cx dL_places_329 rfl ?_
    refine k_if_lt (tgt := 340) cx dL_places_331 (by decide) (fun hc => ?_) (fun hc => ?_)
    · replace h := h.1 hc
      exact k_weak (h _ hg hcx bx) (lsLe.keep (lsLe.drop (lsLe.drop (lsLe.keep (lsLe.keep (lsLe.keep (lsLe.keep (lsLe.drop (lsLe.keep (lsLe.keep (lsLe.keep (lsLe.keep (lsLe.keep (lsLe.keep (lsLe.keep (lsLe.keep (lsLe.keep lsLe.nil)))))))))))))))))
    · replace h := h.2 hc
      refine k_iload cx dL_places_334 rfl ?_
      refine k_iconst (v := (-1 : Int32)) cx dL_places_336 (by decide +kernel) ?_
      refine k_icmp_ne (tgt := 344) cx dL_places_337 (by decide) (fun hc => ?_) (fun hc => ?_)
      · replace h := h.1 hc
        exact h.elim
      · replace h := h.2 hc
        exact k_weak (h _ hg hcx bx) (lsLe.keep (lsLe.drop (lsLe.drop (lsLe.keep (lsLe.keep (lsLe.keep (lsLe.keep (lsLe.drop (lsLe.keep (lsLe.keep (lsLe.keep (lsLe.keep (lsLe.keep (lsLe.keep (lsLe.keep (lsLe.keep (lsLe.keep lsLe.nil)))))))))))))))))
set_option maxHeartbeats 4000000 in
theorem b_L_places_340 {g g2 : GE} {f : FE} {z : ScT} {q : Mm → Prop} (hg : GXn g g2 p_LD 12) (hcx : (∀ n, n ≤ 60 → Cx g2 f cL_places 17 RL 13 323 n (6 * n))) (bx : BXl g2 z f) (hr : (f_M f).sig.returnType = (some .boolean)) (rx : RXl g f 60 (qTr q)) {x8 : Int32} {x9 : Int32} {x11 : Int32} {x12 : Int32} {x13 : Int32} {x14 : Int32} {n : Nat} {μ : Mm} (h : F_L_places_340 z (KK_L_places_36 g f z) (KK_L_places_116 g f z) (KK_L_places_175 g f z) (KK_L_places_221 g f z) (KK_L_places_278 g f z) (KK_L_places_340 g f z) (KK_L_places_407 g f z) (KK_L_places_437 g f z) (KK_L_places_472 g f z) (KK_L_places_549 g f z) (KK_L_places_624 g f z) q x8 x9 x11 x12 x13 x14 n μ) : KW g2 f 17 n (6 * n) 340 [some (.ref p_ML), none, none, some (.ref p_LC), some (.ref p_LQ), some (.ref p_LP), some (.ref p_LT), none, some (.int x8), some (.int x9), some (.ref p_LD), some (.int x11), some (.int x12), some (.int x13), some (.int x14), none, none] [] μ := by
  unfold F_L_places_340 at h
  obtain ⟨hn, h⟩ := h
  have cx := hcx n (by omega)
  refine k_iconst (v := (1 : Int32)) cx dL_places_340 (by decide +kernel) ?_
  refine k_goto (tgt := 345) cx dL_places_341 (by decide) ?_
  refine k_istore cx dL_places_345 (by decide) ?_
  refine k_aload_n cx dL_places_347 rfl rfl ?_
  refine k_iconst (v := (4 : Int32)) cx dL_places_348 (by decide +kernel) ?_
  refine k_iload cx dL_places_349 rfl ?_
  refine k_iload cx dL_places_351 rfl ?_
  refine k_iconst (v := (0 : Int32)) cx dL_places_353 (by decide +kernel) ?_
  refine k_callH (As := [.ref p_ML, .int (4 : Int32), .int x13, .int x14, .int (0 : Int32)]) (rest := []) (n2 := (n + 1)) hcx bx (m_L_asks bx.2.2.2 h) ch_L_asks rfl rfl (Nat.le_of_ble_eq_true rfl) ⟨Nat.le_of_ble_eq_true rfl, Nat.le_of_ble_eq_true rfl⟩ (by omega) (by omega) dL_places_354 (fun v μ_1 hq => ?_)
  obtain ⟨z2, rfl, h⟩ := hq
  have cx := hcx (n + 1) (by omega)
  refine k_istore cx dL_places_357 (by decide) ?_
  refine k_aload_n cx dL_places_359 rfl rfl ?_
  refine k_iconst (v := (2 : Int32)) cx dL_places_360 (by decide +kernel) ?_
  obtain ⟨hi, h⟩ := h
  refine k_iald cx ar_LC hi dL_places_361 ?_
  refine k_bipush (v := (12 : Int32)) cx dL_places_362 (by decide +kernel) ?_
  refine k_icmp_ne (tgt := 385) cx dL_places_364 (by decide) (fun hc => ?_) (fun hc => ?_)
  · replace h := h.1 hc
    refine k_iload cx dL_places_385 rfl ?_
    refine k_iconst (v := (-1 : Int32)) cx dL_places_387 (by decide +kernel) ?_
    refine k_icmp_ne (tgt := 434) cx dL_places_388 (by decide) (fun hc => ?_) (fun hc => ?_)
    · replace h := h.1 hc
      refine k_iconst (v := (0 : Int32)) cx dL_places_434 (by decide +kernel) ?_
      refine k_istore cx dL_places_435 (by decide) ?_
      exact k_weak (h _ hg hcx bx) (lsLe.keep (lsLe.keep (lsLe.keep (lsLe.keep (lsLe.keep (lsLe.keep (lsLe.keep (lsLe.keep (lsLe.keep (lsLe.keep (lsLe.keep (lsLe.keep (lsLe.drop (lsLe.keep (lsLe.keep (lsLe.keep (lsLe.keep lsLe.nil)))))))))))))))))
    · replace h := h.2 hc
      refine k_iload cx dL_places_391 rfl ?_
      refine k_if_eq (tgt := 432) cx dL_places_393 (by decide) (fun hc => absurd hc (by decide)) (fun _ => ?_)
      refine k_iload cx dL_places_396 rfl ?_
      refine k_if_lt (tgt := 407) cx dL_places_398 (by decide) (fun hc => ?_) (fun hc => ?_)
      · replace h := h.1 hc
        exact k_weak (h _ hg hcx bx) (lsLe.keep (lsLe.keep (lsLe.keep (lsLe.keep (lsLe.drop (lsLe.drop (lsLe.drop (lsLe.drop (lsLe.drop (lsLe.drop (lsLe.drop (lsLe.keep (lsLe.keep (lsLe.keep (lsLe.drop (lsLe.drop (lsLe.keep lsLe.nil)))))))))))))))))
      · replace h := h.2 hc
        refine k_iload cx dL_places_401 rfl ?_
        refine k_iconst (v := (2 : Int32)) cx dL_places_403 (by decide +kernel) ?_
        refine k_icmp_ne (tgt := 432) cx dL_places_404 (by decide) (fun hc => ?_) (fun hc => ?_)
        · replace h := h.1 hc
          exact h.elim
        · replace h := h.2 hc
          exact k_weak (h _ hg hcx bx) (lsLe.keep (lsLe.keep (lsLe.keep (lsLe.keep (lsLe.drop (lsLe.drop (lsLe.drop (lsLe.drop (lsLe.drop (lsLe.drop (lsLe.drop (lsLe.keep (lsLe.keep (lsLe.keep (lsLe.drop (lsLe.drop (lsLe.keep lsLe.nil)))))))))))))))))
  · replace h := h.2 hc
    refine k_iload cx dL_places_367 rfl ?_
    refine k_if_eq (tgt := 383) cx dL_places_369 (by decide) (fun hc => absurd hc (by decide)) (fun _ => ?_)
    refine k_iload cx dL_places_372 rfl ?_
    refine k_ldc (v := (-70008 : Int32)) cx kc_L_54 dL_places_374 ?_
    refine k_icmp_ne (tgt := 383) cx dL_places_376 (by decide) (fun hc => ?_) (fun hc => ?_)
    · replace h := h.1 hc
      exact h.elim
    · replace h := h.2 hc
      refine k_iconst (v := (1 : Int32)) cx dL_places_379 (by decide +kernel) ?_
      refine k_goto (tgt := 384) cx dL_places_380 (by decide) ?_
      exact k_nret_T hg cx hr rx (by omega) dL_places_384 h
set_option maxHeartbeats 4000000 in
theorem b_L_places_407 {g g2 : GE} {f : FE} {z : ScT} {q : Mm → Prop} (hg : GXn g g2 p_LD 12) (hcx : (∀ n, n ≤ 60 → Cx g2 f cL_places 17 RL 13 323 n (6 * n))) (bx : BXl g2 z f) (hr : (f_M f).sig.returnType = (some .boolean)) (rx : RXl g f 60 (qTr q)) {x11 : Int32} {x12 : Int32} {x13 : Int32} {n : Nat} {μ : Mm} (h : F_L_places_407 z (KK_L_places_36 g f z) (KK_L_places_116 g f z) (KK_L_places_175 g f z) (KK_L_places_221 g f z) (KK_L_places_278 g f z) (KK_L_places_340 g f z) (KK_L_places_407 g f z) (KK_L_places_437 g f z) (KK_L_places_472 g f z) (KK_L_places_549 g f z) (KK_L_places_624 g f z) q x11 x12 x13 n μ) : KW g2 f 17 n (6 * n) 407 [some (.ref p_ML), none, none, some (.ref p_LC), none, none, none, none, none, none, none, some (.int x11), some (.int x12), some (.int x13), none, none, none] [] μ := by
  unfold F_L_places_407 at h
  obtain ⟨hn, h⟩ := h
  have cx := hcx n (by omega)
  refine k_aload_n cx dL_places_407 rfl rfl ?_
  refine k_callV (As := []) (rest := []) cx (m_X7_least h) cv_L_89 ob_ML rfl rfl rfl rfl (Nat.le_of_ble_eq_true rfl) ⟨Nat.le_of_ble_eq_true rfl, Nat.le_of_ble_eq_true rfl⟩ dL_places_408 (fun v μ_1 hq => ?_)
  obtain ⟨z2, rfl, h⟩ := hq
  refine k_iload cx dL_places_411 rfl ?_
  refine k_icmp_ne (tgt := 432) cx dL_places_413 (by decide) (fun hc => ?_) (fun hc => ?_)
  · replace h := h.1 hc
    exact h.elim
  · replace h := h.2 hc
    refine k_aload_n cx dL_places_416 rfl rfl ?_
    refine k_iload cx dL_places_417 rfl ?_
    refine k_iload cx dL_places_419 rfl ?_
    refine k_aload_n cx dL_places_421 rfl rfl ?_
    refine k_callB (As := [.ref p_ML, .int x12, .int x13, .ref p_LC]) (rest := []) (n2 := (n + 10)) hcx bx (m_L_frees bx.2.2.2 h) cv_L_105 rfl rfl (Nat.le_of_ble_eq_true rfl) ⟨Nat.le_of_ble_eq_true rfl, Nat.le_of_ble_eq_true rfl⟩ (by omega) (by omega) dL_places_422 (fun v μ_3 hq => ?_)
    obtain ⟨rfl, h⟩ := hq
    have cx := hcx (n + 10) (by omega)
    refine k_if_eq (tgt := 432) cx dL_places_425 (by decide) (fun hc => absurd hc (by decide)) (fun _ => ?_)
    refine k_iconst (v := (1 : Int32)) cx dL_places_428 (by decide +kernel) ?_
    refine k_goto (tgt := 433) cx dL_places_429 (by decide) ?_
    exact k_nret_T hg cx hr rx (by omega) dL_places_433 h
set_option maxHeartbeats 4000000 in
theorem b_L_places_437 {g g2 : GE} {f : FE} {z : ScT} {q : Mm → Prop} (hg : GXn g g2 p_LD 12) (hcx : (∀ n, n ≤ 60 → Cx g2 f cL_places 17 RL 13 323 n (6 * n))) (bx : BXl g2 z f) (hr : (f_M f).sig.returnType = (some .boolean)) (rx : RXl g f 60 (qTr q)) {x8 : Int32} {x9 : Int32} {x11 : Int32} {x13 : Int32} {x14 : Int32} {x15 : Int32} {x16 : Int32} {n : Nat} {μ : Mm} (h : F_L_places_437 z (KK_L_places_36 g f z) (KK_L_places_116 g f z) (KK_L_places_175 g f z) (KK_L_places_221 g f z) (KK_L_places_278 g f z) (KK_L_places_340 g f z) (KK_L_places_407 g f z) (KK_L_places_437 g f z) (KK_L_places_472 g f z) (KK_L_places_549 g f z) (KK_L_places_624 g f z) q x8 x9 x11 x13 x14 x15 x16 n μ) : KW g2 f 17 n (6 * n) 437 [some (.ref p_ML), none, none, some (.ref p_LC), some (.ref p_LQ), some (.ref p_LP), some (.ref p_LT), some (.int (1 : Int32)), some (.int x8), some (.int x9), some (.ref p_LD), some (.int x11), none, some (.int x13), some (.int x14), some (.int x15), some (.int x16)] [] μ := by
  unfold F_L_places_437 at h
  obtain ⟨hn, h⟩ := h
  have cx := hcx n (by omega)
  refine k_iload cx dL_places_437 rfl ?_
  refine k_bipush (v := (9 : Int32)) cx dL_places_439 (by decide +kernel) ?_
  refine k_icmp_ge (tgt := 469) cx dL_places_441 (by decide) (fun hc => ?_) (fun hc => ?_)
  · replace h := h.1 hc
    refine k_iconst (v := (0 : Int32)) cx dL_places_469 (by decide +kernel) ?_
    refine k_istore cx dL_places_470 (by decide) ?_
    exact k_weak (h _ hg hcx bx) (lsLe.keep (lsLe.keep (lsLe.keep (lsLe.keep (lsLe.drop (lsLe.keep (lsLe.keep (lsLe.keep (lsLe.keep (lsLe.keep (lsLe.keep (lsLe.keep (lsLe.keep (lsLe.keep (lsLe.keep (lsLe.keep (lsLe.keep lsLe.nil)))))))))))))))))
  · replace h := h.2 hc
    refine k_aload cx dL_places_444 rfl ?_
    refine k_bipush (v := (9 : Int32)) cx dL_places_446 (by decide +kernel) ?_
    refine k_aload_n cx dL_places_448 rfl rfl ?_
    refine k_iconst (v := (2 : Int32)) cx dL_places_449 (by decide +kernel) ?_
    obtain ⟨hi, h⟩ := h
    refine k_iald cx ar_LC hi dL_places_450 ?_
    refine k_imul cx dL_places_451 ?_
    refine k_iload cx dL_places_452 rfl ?_
    refine k_iadd cx dL_places_454 ?_
    refine k_aload cx dL_places_455 rfl ?_
    refine k_iconst (v := (3 : Int32)) cx dL_places_457 (by decide +kernel) ?_
    refine k_iload cx dL_places_458 rfl ?_
    refine k_iadd cx dL_places_460 ?_
    obtain ⟨hi, h⟩ := h
    refine k_iald cx hg.at hi dL_places_461 ?_
    obtain ⟨hi, h⟩ := h
    refine k_iast cx ar_LQ hi dL_places_462 ?_
    generalize eμ_1 : (up2 μ p_LQ ((((9 : Int32) * (μ p_LC ((2 : Int32)).toNatClampNeg)) + x16)).toNatClampNeg (μ p_LD (((3 : Int32) + x16)).toNatClampNeg)) = μ_1
    replace h := h μ_1 eμ_1.symm
    refine k_iinc (v := (x16 + (1 : Int32))) cx dL_places_463 rfl rfl (by decide) ?_
    refine k_goto (tgt := 437) cx dL_places_466 (by decide) ?_
    exact k_weak (h _ hg hcx bx) (lsLe.keep (lsLe.keep (lsLe.keep (lsLe.keep (lsLe.keep (lsLe.keep (lsLe.keep (lsLe.keep (lsLe.keep (lsLe.keep (lsLe.keep (lsLe.keep (lsLe.keep (lsLe.keep (lsLe.keep (lsLe.keep (lsLe.keep lsLe.nil)))))))))))))))))
set_option maxHeartbeats 4000000 in
theorem b_L_places_472 {g g2 : GE} {f : FE} {z : ScT} {q : Mm → Prop} (hg : GXn g g2 p_LD 12) (hcx : (∀ n, n ≤ 60 → Cx g2 f cL_places 17 RL 13 323 n (6 * n))) (bx : BXl g2 z f) (hr : (f_M f).sig.returnType = (some .boolean)) (rx : RXl g f 60 (qTr q)) {x8 : Int32} {x9 : Int32} {x11 : Int32} {x13 : Int32} {x14 : Int32} {x15 : Int32} {x16 : Int32} {n : Nat} {μ : Mm} (h : F_L_places_472 z (KK_L_places_36 g f z) (KK_L_places_116 g f z) (KK_L_places_175 g f z) (KK_L_places_221 g f z) (KK_L_places_278 g f z) (KK_L_places_340 g f z) (KK_L_places_407 g f z) (KK_L_places_437 g f z) (KK_L_places_472 g f z) (KK_L_places_549 g f z) (KK_L_places_624 g f z) q x8 x9 x11 x13 x14 x15 x16 n μ) : KW g2 f 17 n (6 * n) 472 [some (.ref p_ML), none, none, some (.ref p_LC), none, some (.ref p_LP), some (.ref p_LT), some (.int (1 : Int32)), some (.int x8), some (.int x9), some (.ref p_LD), some (.int x11), none, some (.int x13), some (.int x14), some (.int x15), some (.int x16)] [] μ := by
  unfold F_L_places_472 at h
  obtain ⟨hn, h⟩ := h
  have cx := hcx n (by omega)
  refine k_iload cx dL_places_472 rfl ?_
  refine k_iconst (v := (3 : Int32)) cx dL_places_474 (by decide +kernel) ?_
  refine k_icmp_ge (tgt := 500) cx dL_places_475 (by decide) (fun hc => ?_) (fun hc => ?_)
  · replace h := h.1 hc
    refine k_aload cx dL_places_500 rfl ?_
    refine k_aload_n cx dL_places_502 rfl rfl ?_
    refine k_iconst (v := (2 : Int32)) cx dL_places_503 (by decide +kernel) ?_
    obtain ⟨hi, h⟩ := h
    refine k_iald cx ar_LC hi dL_places_504 ?_
    refine k_aload_n cx dL_places_505 rfl rfl ?_
    refine k_iconst (v := (3 : Int32)) cx dL_places_506 (by decide +kernel) ?_
    obtain ⟨hi, h⟩ := h
    refine k_iald cx ar_LC hi dL_places_507 ?_
    refine k_iload cx dL_places_508 rfl ?_
    refine k_iadd cx dL_places_510 ?_
    obtain ⟨hi, h⟩ := h
    refine k_iast cx ar_LT hi dL_places_511 ?_
    generalize eμ_1 : (up2 μ p_LT ((μ p_LC ((2 : Int32)).toNatClampNeg)).toNatClampNeg ((μ p_LC ((3 : Int32)).toNatClampNeg) + x14)) = μ_1
    replace h := h μ_1 eμ_1.symm
    refine k_aload_n cx dL_places_512 rfl rfl ?_
    refine k_iconst (v := (2 : Int32)) cx dL_places_513 (by decide +kernel) ?_
    refine k_dup2 cx dL_places_514 rfl rfl ?_
    obtain ⟨hi, h⟩ := h
    refine k_iald cx ar_LC hi dL_places_515 ?_
    refine k_iconst (v := (1 : Int32)) cx dL_places_516 (by decide +kernel) ?_
    refine k_iadd cx dL_places_517 ?_
    obtain ⟨hi, h⟩ := h
    refine k_iast cx ar_LC hi dL_places_518 ?_
    generalize eμ_2 : (up2 μ_1 p_LC ((2 : Int32)).toNatClampNeg ((μ_1 p_LC ((2 : Int32)).toNatClampNeg) + (1 : Int32))) = μ_2
    replace h := h μ_2 eμ_2.symm
    refine k_aload_n cx dL_places_519 rfl rfl ?_
    refine k_iconst (v := (4 : Int32)) cx dL_places_520 (by decide +kernel) ?_
    refine k_iconst (v := (0 : Int32)) cx dL_places_521 (by decide +kernel) ?_
    obtain ⟨hi, h⟩ := h
    refine k_iast cx ar_LC hi dL_places_522 ?_
    generalize eμ_3 : (up2 μ_2 p_LC ((4 : Int32)).toNatClampNeg (0 : Int32)) = μ_3
    replace h := h μ_3 eμ_3.symm
    refine k_iload cx dL_places_523 rfl ?_
    refine k_if_eq (tgt := 636) cx dL_places_525 (by decide) (fun hc => absurd hc (by decide)) (fun _ => ?_)
    refine k_iload cx dL_places_528 rfl ?_
    refine k_aload_n cx dL_places_530 rfl rfl ?_
    refine k_iconst (v := (2 : Int32)) cx dL_places_531 (by decide +kernel) ?_
    obtain ⟨hi, h⟩ := h
    refine k_iald cx ar_LC hi dL_places_532 ?_
    refine k_iconst (v := (1 : Int32)) cx dL_places_533 (by decide +kernel) ?_
    refine k_isub cx dL_places_534 ?_
    refine k_icmp_ne (tgt := 636) cx dL_places_535 (by decide) (fun hc => ?_) (fun hc => ?_)
    · replace h := h.1 hc
      exact h.elim
    · replace h := h.2 hc
      refine k_iload cx dL_places_538 rfl ?_
      refine k_if_ge (tgt := 549) cx dL_places_540 (by decide) (fun hc => ?_) (fun hc => ?_)
      · replace h := h.1 hc
        exact k_weak (h _ hg hcx bx) (lsLe.keep (lsLe.keep (lsLe.keep (lsLe.drop (lsLe.keep (lsLe.drop (lsLe.drop (lsLe.drop (lsLe.keep (lsLe.keep (lsLe.drop (lsLe.keep (lsLe.keep (lsLe.keep (lsLe.drop (lsLe.keep (lsLe.drop lsLe.nil)))))))))))))))))
      · replace h := h.2 hc
        refine k_iload cx dL_places_543 rfl ?_
        refine k_iconst (v := (1 : Int32)) cx dL_places_545 (by decide +kernel) ?_
        refine k_icmp_ne (tgt := 636) cx dL_places_546 (by decide) (fun hc => ?_) (fun hc => ?_)
        · replace h := h.1 hc
          exact h.elim
        · replace h := h.2 hc
          exact k_weak (h _ hg hcx bx) (lsLe.keep (lsLe.keep (lsLe.keep (lsLe.drop (lsLe.keep (lsLe.drop (lsLe.drop (lsLe.drop (lsLe.keep (lsLe.keep (lsLe.drop (lsLe.keep (lsLe.keep (lsLe.keep (lsLe.drop (lsLe.keep (lsLe.drop lsLe.nil)))))))))))))))))
  · replace h := h.2 hc
    refine k_aload cx dL_places_478 rfl ?_
    refine k_iconst (v := (3 : Int32)) cx dL_places_480 (by decide +kernel) ?_
    refine k_aload_n cx dL_places_481 rfl rfl ?_
    refine k_iconst (v := (2 : Int32)) cx dL_places_482 (by decide +kernel) ?_
    obtain ⟨hi, h⟩ := h
    refine k_iald cx ar_LC hi dL_places_483 ?_
    refine k_imul cx dL_places_484 ?_
    refine k_iload cx dL_places_485 rfl ?_
    refine k_iadd cx dL_places_487 ?_
    refine k_aload cx dL_places_488 rfl ?_
    refine k_iload cx dL_places_490 rfl ?_
    obtain ⟨hi, h⟩ := h
    refine k_iald cx hg.at hi dL_places_492 ?_
    obtain ⟨hi, h⟩ := h
    refine k_iast cx ar_LP hi dL_places_493 ?_
    generalize eμ_4 : (up2 μ p_LP ((((3 : Int32) * (μ p_LC ((2 : Int32)).toNatClampNeg)) + x16)).toNatClampNeg (μ p_LD (x16).toNatClampNeg)) = μ_4
    replace h := h μ_4 eμ_4.symm
    refine k_iinc (v := (x16 + (1 : Int32))) cx dL_places_494 rfl rfl (by decide) ?_
    refine k_goto (tgt := 472) cx dL_places_497 (by decide) ?_
    exact k_weak (h _ hg hcx bx) (lsLe.keep (lsLe.keep (lsLe.keep (lsLe.keep (lsLe.keep (lsLe.keep (lsLe.keep (lsLe.keep (lsLe.keep (lsLe.keep (lsLe.keep (lsLe.keep (lsLe.keep (lsLe.keep (lsLe.keep (lsLe.keep (lsLe.keep lsLe.nil)))))))))))))))))
set_option maxHeartbeats 4000000 in
theorem b_L_places_549 {g g2 : GE} {f : FE} {z : ScT} {q : Mm → Prop} (hg : GXn g g2 p_LD 12) (hcx : (∀ n, n ≤ 60 → Cx g2 f cL_places 17 RL 13 323 n (6 * n))) (bx : BXl g2 z f) (hr : (f_M f).sig.returnType = (some .boolean)) (rx : RXl g f 60 (qTr q)) {x8 : Int32} {x9 : Int32} {x11 : Int32} {x13 : Int32} {x15 : Int32} {n : Nat} {μ : Mm} (h : F_L_places_549 z (KK_L_places_36 g f z) (KK_L_places_116 g f z) (KK_L_places_175 g f z) (KK_L_places_221 g f z) (KK_L_places_278 g f z) (KK_L_places_340 g f z) (KK_L_places_407 g f z) (KK_L_places_437 g f z) (KK_L_places_472 g f z) (KK_L_places_549 g f z) (KK_L_places_624 g f z) q x8 x9 x11 x13 x15 n μ) : KW g2 f 17 n (6 * n) 549 [some (.ref p_ML), none, none, none, none, none, none, none, some (.int x8), some (.int x9), none, some (.int x11), none, some (.int x13), none, some (.int x15), none] [] μ := by
  unfold F_L_places_549 at h
  obtain ⟨hn, h⟩ := h
  have cx := hcx n (by omega)
  refine k_aload_n cx dL_places_549 rfl rfl ?_
  refine k_iload cx dL_places_550 rfl ?_
  refine k_iconst (v := (1 : Int32)) cx dL_places_552 (by decide +kernel) ?_
  obtain ⟨q0, qx0, h0, hq0, hx0⟩ := h
  refine k_callXd (As := [.int x15, .int (1 : Int32)]) (rest := []) (n2 := (n + 1)) hcx bx (m_X7_told bx.2.2.2 h0) hx0 lk_L_43 cv_L_43 ob_ML rfl rfl rfl rfl (Nat.le_of_ble_eq_true rfl) ⟨Nat.le_of_ble_eq_true rfl, Nat.le_of_ble_eq_true rfl⟩ (by omega) (by omega) dL_places_553 (fun v μ_1 hq => ?_)
  obtain ⟨z2, rfl, h⟩ := hq
  replace h := hq0 _ _ h
  have cx := hcx (n + 1) (by omega)
  refine k_iload cx dL_places_556 rfl ?_
  refine k_icmp_ne (tgt := 636) cx dL_places_558 (by decide) (fun hc => ?_) (fun hc => ?_)
  · replace h := h.1 hc
    exact h.elim
  · replace h := h.2 hc
    refine k_aload_n cx dL_places_561 rfl rfl ?_
    refine k_iload cx dL_places_562 rfl ?_
    refine k_iconst (v := (3 : Int32)) cx dL_places_564 (by decide +kernel) ?_
    obtain ⟨q0, qx0, h0, hq0, hx0⟩ := h
    refine k_callXd (As := [.int x15, .int (3 : Int32)]) (rest := []) (n2 := (n + 2)) hcx bx (m_X7_told bx.2.2.2 h0) hx0 lk_L_43 cv_L_43 ob_ML rfl rfl rfl rfl (Nat.le_of_ble_eq_true rfl) ⟨Nat.le_of_ble_eq_true rfl, Nat.le_of_ble_eq_true rfl⟩ (by omega) (by omega) dL_places_565 (fun v μ_3 hq => ?_)
    obtain ⟨z4, rfl, h⟩ := hq
    replace h := hq0 _ _ h
    have cx := hcx (n + 2) (by omega)
    refine k_iload cx dL_places_568 rfl ?_
    refine k_icmp_ne (tgt := 636) cx dL_places_570 (by decide) (fun hc => ?_) (fun hc => ?_)
    · replace h := h.1 hc
      exact h.elim
    · replace h := h.2 hc
      refine k_aload_n cx dL_places_573 rfl rfl ?_
      refine k_iload cx dL_places_574 rfl ?_
      refine k_iconst (v := (4 : Int32)) cx dL_places_576 (by decide +kernel) ?_
      obtain ⟨q0, qx0, h0, hq0, hx0⟩ := h
      refine k_callXd (As := [.int x15, .int (4 : Int32)]) (rest := []) (n2 := (n + 3)) hcx bx (m_X7_told bx.2.2.2 h0) hx0 lk_L_43 cv_L_43 ob_ML rfl rfl rfl rfl (Nat.le_of_ble_eq_true rfl) ⟨Nat.le_of_ble_eq_true rfl, Nat.le_of_ble_eq_true rfl⟩ (by omega) (by omega) dL_places_577 (fun v μ_5 hq => ?_)
      obtain ⟨z6, rfl, h⟩ := hq
      replace h := hq0 _ _ h
      have cx := hcx (n + 3) (by omega)
      refine k_iload cx dL_places_580 rfl ?_
      refine k_icmp_ne (tgt := 636) cx dL_places_582 (by decide) (fun hc => ?_) (fun hc => ?_)
      · replace h := h.1 hc
        exact h.elim
      · replace h := h.2 hc
        refine k_aload_n cx dL_places_585 rfl rfl ?_
        refine k_iload cx dL_places_586 rfl ?_
        refine k_iconst (v := (5 : Int32)) cx dL_places_588 (by decide +kernel) ?_
        obtain ⟨q0, qx0, h0, hq0, hx0⟩ := h
        refine k_callXd (As := [.int x15, .int (5 : Int32)]) (rest := []) (n2 := (n + 4)) hcx bx (m_X7_told bx.2.2.2 h0) hx0 lk_L_43 cv_L_43 ob_ML rfl rfl rfl rfl (Nat.le_of_ble_eq_true rfl) ⟨Nat.le_of_ble_eq_true rfl, Nat.le_of_ble_eq_true rfl⟩ (by omega) (by omega) dL_places_589 (fun v μ_7 hq => ?_)
        obtain ⟨z8, rfl, h⟩ := hq
        replace h := hq0 _ _ h
        have cx := hcx (n + 4) (by omega)
        refine k_if_ne (tgt := 636) cx dL_places_592 (by decide) (fun hc => ?_) (fun hc => ?_)
        · replace h := h.1 hc
          exact h.elim
        · replace h := h.2 hc
          refine k_aload_n cx dL_places_595 rfl rfl ?_
          refine k_iload cx dL_places_596 rfl ?_
          refine k_bipush (v := (6 : Int32)) cx dL_places_598 (by decide +kernel) ?_
          obtain ⟨q0, qx0, h0, hq0, hx0⟩ := h
          refine k_callXd (As := [.int x15, .int (6 : Int32)]) (rest := []) (n2 := (n + 5)) hcx bx (m_X7_told bx.2.2.2 h0) hx0 lk_L_43 cv_L_43 ob_ML rfl rfl rfl rfl (Nat.le_of_ble_eq_true rfl) ⟨Nat.le_of_ble_eq_true rfl, Nat.le_of_ble_eq_true rfl⟩ (by omega) (by omega) dL_places_600 (fun v μ_9 hq => ?_)
          obtain ⟨z10, rfl, h⟩ := hq
          replace h := hq0 _ _ h
          have cx := hcx (n + 5) (by omega)
          refine k_if_ne (tgt := 636) cx dL_places_603 (by decide) (fun hc => ?_) (fun hc => ?_)
          · replace h := h.1 hc
            exact h.elim
          · replace h := h.2 hc
            refine k_iload cx dL_places_606 rfl ?_
            refine k_if_lt (tgt := 624) cx dL_places_608 (by decide) (fun hc => ?_) (fun hc => ?_)
            · replace h := h.1 hc
              exact k_weak (h _ hg hcx bx) (lsLe.keep (lsLe.keep (lsLe.keep (lsLe.keep (lsLe.keep (lsLe.keep (lsLe.keep (lsLe.keep (lsLe.drop (lsLe.drop (lsLe.keep (lsLe.drop (lsLe.keep (lsLe.drop (lsLe.keep (lsLe.drop (lsLe.keep lsLe.nil)))))))))))))))))
            · replace h := h.2 hc
              refine k_aload_n cx dL_places_611 rfl rfl ?_
              refine k_iload cx dL_places_612 rfl ?_
              refine k_bipush (v := (7 : Int32)) cx dL_places_614 (by decide +kernel) ?_
              obtain ⟨q0, qx0, h0, hq0, hx0⟩ := h
              refine k_callXd (As := [.int x15, .int (7 : Int32)]) (rest := []) (n2 := (n + 6)) hcx bx (m_X7_told bx.2.2.2 h0) hx0 lk_L_43 cv_L_43 ob_ML rfl rfl rfl rfl (Nat.le_of_ble_eq_true rfl) ⟨Nat.le_of_ble_eq_true rfl, Nat.le_of_ble_eq_true rfl⟩ (by omega) (by omega) dL_places_616 (fun v μ_11 hq => ?_)
              obtain ⟨z12, rfl, h⟩ := hq
              replace h := hq0 _ _ h
              have cx := hcx (n + 6) (by omega)
              refine k_iload cx dL_places_619 rfl ?_
              refine k_icmp_ne (tgt := 636) cx dL_places_621 (by decide) (fun hc => ?_) (fun hc => ?_)
              · replace h := h.1 hc
                exact h.elim
              · replace h := h.2 hc
                exact k_weak (h _ hg hcx bx) (lsLe.keep (lsLe.keep (lsLe.keep (lsLe.keep (lsLe.keep (lsLe.keep (lsLe.keep (lsLe.keep (lsLe.drop (lsLe.drop (lsLe.keep (lsLe.drop (lsLe.keep (lsLe.drop (lsLe.keep (lsLe.drop (lsLe.keep lsLe.nil)))))))))))))))))
set_option maxHeartbeats 4000000 in
theorem b_L_places_624 {g g2 : GE} {f : FE} {z : ScT} {q : Mm → Prop} (hg : GXn g g2 p_LD 12) (hcx : (∀ n, n ≤ 60 → Cx g2 f cL_places 17 RL 13 323 n (6 * n))) (bx : BXl g2 z f) (hr : (f_M f).sig.returnType = (some .boolean)) (rx : RXl g f 60 (qTr q)) {n : Nat} {μ : Mm} (h : F_L_places_624 z (KK_L_places_36 g f z) (KK_L_places_116 g f z) (KK_L_places_175 g f z) (KK_L_places_221 g f z) (KK_L_places_278 g f z) (KK_L_places_340 g f z) (KK_L_places_407 g f z) (KK_L_places_437 g f z) (KK_L_places_472 g f z) (KK_L_places_549 g f z) (KK_L_places_624 g f z) q n μ) : KW g2 f 17 n (6 * n) 624 [some (.ref p_ML), none, none, none, none, none, none, none, none, none, none, none, none, none, none, none, none] [] μ := by
  unfold F_L_places_624 at h
  obtain ⟨hn, h⟩ := h
  have cx := hcx n (by omega)
  refine k_aload_n cx dL_places_624 rfl rfl ?_
  refine k_callV (As := []) (rest := []) cx (m_X7_least h) cv_L_89 ob_ML rfl rfl rfl rfl (Nat.le_of_ble_eq_true rfl) ⟨Nat.le_of_ble_eq_true rfl, Nat.le_of_ble_eq_true rfl⟩ dL_places_625 (fun v μ_1 hq => ?_)
  obtain ⟨z2, rfl, h⟩ := hq
  refine k_iconst (v := (-1 : Int32)) cx dL_places_628 (by decide +kernel) ?_
  refine k_icmp_ne (tgt := 636) cx dL_places_629 (by decide) (fun hc => ?_) (fun hc => ?_)
  · replace h := h.1 hc
    exact h.elim
  · replace h := h.2 hc
    refine k_iconst (v := (1 : Int32)) cx dL_places_632 (by decide +kernel) ?_
    refine k_goto (tgt := 637) cx dL_places_633 (by decide) ?_
    exact k_nret_T hg cx hr rx (by omega) dL_places_637 h
set_option maxHeartbeats 4000000 in
theorem b_L_places_e {g : GE} {f : FE} {z : ScT} {q : Mm → Prop} (hm : g.2.2.2.2 = []) (hcx : (∀ n, n ≤ 60 → Cx g f cL_places 17 RL 13 323 n (6 * n))) (bx : BXl g z f) (hr : (f_M f).sig.returnType = (some .boolean)) (rx : RXl g f 60 (qTr q)) {x1 : Int32} {x2 : Int32} {μ : Mm} (h : F_L_places_e z (KK_L_places_36 g f z) (KK_L_places_116 g f z) (KK_L_places_175 g f z) (KK_L_places_221 g f z) (KK_L_places_278 g f z) (KK_L_places_340 g f z) (KK_L_places_407 g f z) (KK_L_places_437 g f z) (KK_L_places_472 g f z) (KK_L_places_549 g f z) (KK_L_places_624 g f z) q x1 x2 μ) : KW g f 17 0 (6 * 0) 0 [some (.ref p_ML), some (.int x1), some (.int x2), some (.ref p_LC), some (.ref p_LQ), some (.ref p_LP), some (.ref p_LT), none, none, none, none, none, none, none, none, none, none] [] μ := by
  unfold F_L_places_e at h
  have cx := hcx 0 (by omega)
  refine k_aload_n cx dL_places_0 rfl rfl ?_
  refine k_callV (As := []) (rest := []) cx (m_X7_clear h) cv_L_102 ob_ML rfl rfl rfl rfl (Nat.le_of_ble_eq_true rfl) ⟨Nat.le_of_ble_eq_true rfl, Nat.le_of_ble_eq_true rfl⟩ dL_places_1 (fun v μ_1 hq => ?_)
  obtain ⟨z2, rfl, h⟩ := hq
  refine k_aload_n cx dL_places_4 rfl rfl ?_
  refine k_iconst (v := (4 : Int32)) cx dL_places_5 (by decide +kernel) ?_
  obtain ⟨hi, h⟩ := h
  refine k_iald cx ar_LC hi dL_places_6 ?_
  refine k_icmp_ne (tgt := 14) cx dL_places_7 (by decide) (fun hc => ?_) (fun hc => ?_)
  · replace h := h.1 hc
    exact h.elim
  · replace h := h.2 hc
    refine k_iconst (v := (1 : Int32)) cx dL_places_10 (by decide +kernel) ?_
    refine k_goto (tgt := 15) cx dL_places_11 (by decide) ?_
    refine k_istore cx dL_places_15 (by decide) ?_
    refine k_iconst (v := (1 : Int32)) cx dL_places_17 (by decide +kernel) ?_
    refine k_iload_n cx dL_places_18 rfl rfl ?_
    refine k_iconst (v := (3 : Int32)) cx dL_places_19 (by decide +kernel) ?_
    refine k_rem cx dL_places_20 (by decide) ?_
    refine k_iadd cx dL_places_21 ?_
    refine k_istore cx dL_places_22 (by decide) ?_
    generalize ev8_3 : ((1 : Int32) + (irm x1 (3 : Int32))) = v8_3
    replace h := h v8_3 ev8_3.symm
    refine k_iconst (v := (0 : Int32)) cx dL_places_24 (by decide +kernel) ?_
    refine k_istore cx dL_places_25 (by decide) ?_
    refine k_bipush (v := (12 : Int32)) cx dL_places_27 (by decide +kernel) ?_
    refine k_bnew (N2 := 12) (p2 := p_LD) (c := 2) (n2 := 2) hm (Or.inl rfl) hcx bx ac_I (by decide) (by decide) (by decide) (by decide) (by decide) (by omega) (by omega) (nr_loc (Or.inl rfl) rfl) (nr_stk (Or.inl rfl) rfl) dL_places_29 (fun g2 hg hcx bx => ?_)
    have cx := hcx 2 (by omega)
    refine k_astore cx dL_places_31 (by decide) ?_
    refine k_iconst (v := (0 : Int32)) cx dL_places_33 (by decide +kernel) ?_
    refine k_istore cx dL_places_34 (by decide) ?_
    exact k_weak (h _ hg hcx bx) (lsLe.keep (lsLe.keep (lsLe.keep (lsLe.keep (lsLe.keep (lsLe.keep (lsLe.keep (lsLe.keep (lsLe.keep (lsLe.keep (lsLe.keep (lsLe.keep (lsLe.keep (lsLe.keep (lsLe.keep (lsLe.keep (lsLe.keep lsLe.nil)))))))))))))))))
theorem m_L_places {g : GE} {z : ScT} {l : Launch} (hst : l.stackTraces = false) (hm : g.2.2.2.2 = []) {μ : Mm} {q : Mm → Prop} {x1 : Int32} {x2 : Int32} (h : Wp_L_places z x1 x2 μ q) : MBl g z l yL_places cL_places 17 (some .boolean) 13 323 60 [.ref p_ML, .int x1, .int x2, .ref p_LC, .ref p_LQ, .ref p_LP, .ref p_LT] μ (qTr q) := by
  refine bmet_of hst (by decide) (Nat.le_of_ble_eq_true rfl) (by intro v hv; simp only [List.mem_cons, List.not_mem_nil, or_false] at hv; rcases hv with rfl | rfl | rfl | rfl | rfl | rfl | rfl <;> rfl) ?_
  intro f hfl hcx bx hr rx
  exact b_L_places_e hm hcx bx hr rx (h (KK_L_places_36 g f z) (KK_L_places_116 g f z) (KK_L_places_175 g f z) (KK_L_places_221 g f z) (KK_L_places_278 g f z) (KK_L_places_340 g f z) (KK_L_places_407 g f z) (KK_L_places_437 g f z) (KK_L_places_472 g f z) (KK_L_places_549 g f z) (KK_L_places_624 g f z) (fun _ _ _ _ _ _ h => fun g2 hg hcx bx => b_L_places_36 hg hcx bx hr rx h) (fun _ _ _ _ _ _ _ h => fun g2 hg hcx bx => b_L_places_116 hg hcx bx hr rx h) (fun _ _ _ _ _ _ _ _ _ _ _ h => fun g2 hg hcx bx => b_L_places_175 hg hcx bx hr rx h) (fun _ _ _ _ _ _ _ _ _ _ _ _ _ h => fun g2 hg hcx bx => b_L_places_221 hg hcx bx hr rx h) (fun _ _ _ _ _ _ h => fun g2 hg hcx bx => b_L_places_278 hg hcx bx hr rx h) (fun _ _ _ _ _ _ _ _ h => fun g2 hg hcx bx => b_L_places_340 hg hcx bx hr rx h) (fun _ _ _ _ _ h => fun g2 hg hcx bx => b_L_places_407 hg hcx bx hr rx h) (fun _ _ _ _ _ _ _ _ _ h => fun g2 hg hcx bx => b_L_places_437 hg hcx bx hr rx h) (fun _ _ _ _ _ _ _ _ _ h => fun g2 hg hcx bx => b_L_places_472 hg hcx bx hr rx h) (fun _ _ _ _ _ _ _ h => fun g2 hg hcx bx => b_L_places_549 hg hcx bx hr rx h) (fun _ _ h => fun g2 hg hcx bx => b_L_places_624 hg hcx bx hr rx h))
