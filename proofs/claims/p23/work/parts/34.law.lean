theorem dL_isRequest_0 : decode cL_isRequest 0 = .ok (.aload_n 0, 1) := by decide +kernel
theorem dL_isRequest_1 : decode cL_isRequest 1 = .ok (.iload_n 1, 1) := by decide +kernel
theorem dL_isRequest_2 : decode cL_isRequest 2 = .ok (.iconst 3, 1) := by decide +kernel
theorem dL_isRequest_3 : decode cL_isRequest 3 = .ok (.invokevirtual 43, 3) := by decide +kernel
theorem dL_isRequest_6 : decode cL_isRequest 6 = .ok (.istore 6, 2) := by decide +kernel
theorem dL_isRequest_8 : decode cL_isRequest 8 = .ok (.aload_n 0, 1) := by decide +kernel
theorem dL_isRequest_9 : decode cL_isRequest 9 = .ok (.iload_n 1, 1) := by decide +kernel
theorem dL_isRequest_10 : decode cL_isRequest 10 = .ok (.iconst 4, 1) := by decide +kernel
theorem dL_isRequest_11 : decode cL_isRequest 11 = .ok (.invokevirtual 43, 3) := by decide +kernel
theorem dL_isRequest_14 : decode cL_isRequest 14 = .ok (.istore 7, 2) := by decide +kernel
theorem dL_isRequest_16 : decode cL_isRequest 16 = .ok (.iload 6, 2) := by decide +kernel
theorem dL_isRequest_18 : decode cL_isRequest 18 = .ok (.ifCond .le 76, 3) := by decide +kernel
theorem dL_isRequest_21 : decode cL_isRequest 21 = .ok (.iload 6, 2) := by decide +kernel
theorem dL_isRequest_23 : decode cL_isRequest 23 = .ok (.iconst 4, 1) := by decide +kernel
theorem dL_isRequest_24 : decode cL_isRequest 24 = .ok (.if_icmp .ge 70, 3) := by decide +kernel
theorem dL_isRequest_27 : decode cL_isRequest 27 = .ok (.iload 7, 2) := by decide +kernel
theorem dL_isRequest_29 : decode cL_isRequest 29 = .ok (.ifCond .lt 65, 3) := by decide +kernel
theorem dL_isRequest_32 : decode cL_isRequest 32 = .ok (.iload 7, 2) := by decide +kernel
theorem dL_isRequest_34 : decode cL_isRequest 34 = .ok (.iconst 4, 1) := by decide +kernel
theorem dL_isRequest_35 : decode cL_isRequest 35 = .ok (.if_icmp .ge 59, 3) := by decide +kernel
theorem dL_isRequest_38 : decode cL_isRequest 38 = .ok (.aload_n 0, 1) := by decide +kernel
theorem dL_isRequest_39 : decode cL_isRequest 39 = .ok (.iload_n 1, 1) := by decide +kernel
theorem dL_isRequest_40 : decode cL_isRequest 40 = .ok (.iconst 2, 1) := by decide +kernel
theorem dL_isRequest_41 : decode cL_isRequest 41 = .ok (.invokevirtual 43, 3) := by decide +kernel
theorem dL_isRequest_44 : decode cL_isRequest 44 = .ok (.aload 5, 2) := by decide +kernel
theorem dL_isRequest_46 : decode cL_isRequest 46 = .ok (.iload_n 1, 1) := by decide +kernel
theorem dL_isRequest_47 : decode cL_isRequest 47 = .ok (.iaload, 1) := by decide +kernel
theorem dL_isRequest_48 : decode cL_isRequest 48 = .ok (.if_icmp .ne 46, 3) := by decide +kernel
theorem dL_isRequest_51 : decode cL_isRequest 51 = .ok (.aload_n 0, 1) := by decide +kernel
theorem dL_isRequest_52 : decode cL_isRequest 52 = .ok (.iload_n 1, 1) := by decide +kernel
theorem dL_isRequest_53 : decode cL_isRequest 53 = .ok (.iconst 0, 1) := by decide +kernel
theorem dL_isRequest_54 : decode cL_isRequest 54 = .ok (.invokevirtual 43, 3) := by decide +kernel
theorem dL_isRequest_57 : decode cL_isRequest 57 = .ok (.iconst 1, 1) := by decide +kernel
theorem dL_isRequest_58 : decode cL_isRequest 58 = .ok (.if_icmp .eq 13, 3) := by decide +kernel
theorem dL_isRequest_61 : decode cL_isRequest 61 = .ok (.aload 5, 2) := by decide +kernel
theorem dL_isRequest_63 : decode cL_isRequest 63 = .ok (.iload_n 1, 1) := by decide +kernel
theorem dL_isRequest_64 : decode cL_isRequest 64 = .ok (.iaload, 1) := by decide +kernel
theorem dL_isRequest_65 : decode cL_isRequest 65 = .ok (.aload_n 2, 1) := by decide +kernel
theorem dL_isRequest_66 : decode cL_isRequest 66 = .ok (.iconst 3, 1) := by decide +kernel
theorem dL_isRequest_67 : decode cL_isRequest 67 = .ok (.iaload, 1) := by decide +kernel
theorem dL_isRequest_68 : decode cL_isRequest 68 = .ok (.if_icmp .le 26, 3) := by decide +kernel
theorem dL_isRequest_71 : decode cL_isRequest 71 = .ok (.aload_n 0, 1) := by decide +kernel
theorem dL_isRequest_72 : decode cL_isRequest 72 = .ok (.iload_n 1, 1) := by decide +kernel
theorem dL_isRequest_73 : decode cL_isRequest 73 = .ok (.iconst 5, 1) := by decide +kernel
theorem dL_isRequest_74 : decode cL_isRequest 74 = .ok (.invokevirtual 43, 3) := by decide +kernel
theorem dL_isRequest_77 : decode cL_isRequest 77 = .ok (.aload_n 0, 1) := by decide +kernel
theorem dL_isRequest_78 : decode cL_isRequest 78 = .ok (.iload_n 1, 1) := by decide +kernel
theorem dL_isRequest_79 : decode cL_isRequest 79 = .ok (.bipush 6, 2) := by decide +kernel
theorem dL_isRequest_81 : decode cL_isRequest 81 = .ok (.invokevirtual 43, 3) := by decide +kernel
theorem dL_isRequest_84 : decode cL_isRequest 84 = .ok (.iadd, 1) := by decide +kernel
theorem dL_isRequest_85 : decode cL_isRequest 85 = .ok (.iload 7, 2) := by decide +kernel
theorem dL_isRequest_87 : decode cL_isRequest 87 = .ok (.if_icmp .gt 7, 3) := by decide +kernel
theorem dL_isRequest_90 : decode cL_isRequest 90 = .ok (.iconst 1, 1) := by decide +kernel
theorem dL_isRequest_91 : decode cL_isRequest 91 = .ok (.goto 4, 3) := by decide +kernel
theorem dL_isRequest_95 : decode cL_isRequest 95 = .ok (.istore 8, 2) := by decide +kernel
theorem dL_isRequest_97 : decode cL_isRequest 97 = .ok (.iconst 0, 1) := by decide +kernel
theorem dL_isRequest_98 : decode cL_isRequest 98 = .ok (.istore 9, 2) := by decide +kernel
theorem dL_isRequest_100 : decode cL_isRequest 100 = .ok (.iload 9, 2) := by decide +kernel
theorem dL_isRequest_102 : decode cL_isRequest 102 = .ok (.iload 6, 2) := by decide +kernel
theorem dL_isRequest_104 : decode cL_isRequest 104 = .ok (.if_icmp .ge 83, 3) := by decide +kernel
theorem dL_isRequest_107 : decode cL_isRequest 107 = .ok (.iload 8, 2) := by decide +kernel
theorem dL_isRequest_109 : decode cL_isRequest 109 = .ok (.ifCond .eq 78, 3) := by decide +kernel
theorem dL_isRequest_112 : decode cL_isRequest 112 = .ok (.aload_n 0, 1) := by decide +kernel
theorem dL_isRequest_113 : decode cL_isRequest 113 = .ok (.iload_n 1, 1) := by decide +kernel
theorem dL_isRequest_114 : decode cL_isRequest 114 = .ok (.iload 9, 2) := by decide +kernel
theorem dL_isRequest_116 : decode cL_isRequest 116 = .ok (.invokevirtual 58, 3) := by decide +kernel
theorem dL_isRequest_119 : decode cL_isRequest 119 = .ok (.istore 10, 2) := by decide +kernel
theorem dL_isRequest_121 : decode cL_isRequest 121 = .ok (.iload 10, 2) := by decide +kernel
theorem dL_isRequest_123 : decode cL_isRequest 123 = .ok (.ifCond .lt 15, 3) := by decide +kernel
theorem dL_isRequest_126 : decode cL_isRequest 126 = .ok (.iload 10, 2) := by decide +kernel
theorem dL_isRequest_128 : decode cL_isRequest 128 = .ok (.aload_n 2, 1) := by decide +kernel
theorem dL_isRequest_129 : decode cL_isRequest 129 = .ok (.iconst 0, 1) := by decide +kernel
theorem dL_isRequest_130 : decode cL_isRequest 130 = .ok (.iaload, 1) := by decide +kernel
theorem dL_isRequest_131 : decode cL_isRequest 131 = .ok (.if_icmp .ge 7, 3) := by decide +kernel
theorem dL_isRequest_134 : decode cL_isRequest 134 = .ok (.iconst 1, 1) := by decide +kernel
theorem dL_isRequest_135 : decode cL_isRequest 135 = .ok (.goto 4, 3) := by decide +kernel
theorem dL_isRequest_139 : decode cL_isRequest 139 = .ok (.istore 8, 2) := by decide +kernel
theorem dL_isRequest_141 : decode cL_isRequest 141 = .ok (.iconst 0, 1) := by decide +kernel
theorem dL_isRequest_142 : decode cL_isRequest 142 = .ok (.istore 11, 2) := by decide +kernel
theorem dL_isRequest_144 : decode cL_isRequest 144 = .ok (.iload 11, 2) := by decide +kernel
theorem dL_isRequest_146 : decode cL_isRequest 146 = .ok (.iload 9, 2) := by decide +kernel
theorem dL_isRequest_148 : decode cL_isRequest 148 = .ok (.if_icmp .ge 33, 3) := by decide +kernel
theorem dL_isRequest_151 : decode cL_isRequest 151 = .ok (.iload 8, 2) := by decide +kernel
theorem dL_isRequest_153 : decode cL_isRequest 153 = .ok (.ifCond .eq 19, 3) := by decide +kernel
theorem dL_isRequest_156 : decode cL_isRequest 156 = .ok (.aload_n 0, 1) := by decide +kernel
theorem dL_isRequest_157 : decode cL_isRequest 157 = .ok (.iload_n 1, 1) := by decide +kernel
theorem dL_isRequest_158 : decode cL_isRequest 158 = .ok (.iload 11, 2) := by decide +kernel
theorem dL_isRequest_160 : decode cL_isRequest 160 = .ok (.invokevirtual 58, 3) := by decide +kernel
theorem dL_isRequest_163 : decode cL_isRequest 163 = .ok (.iload 10, 2) := by decide +kernel
theorem dL_isRequest_165 : decode cL_isRequest 165 = .ok (.if_icmp .eq 7, 3) := by decide +kernel
theorem dL_isRequest_168 : decode cL_isRequest 168 = .ok (.iconst 1, 1) := by decide +kernel
theorem dL_isRequest_169 : decode cL_isRequest 169 = .ok (.goto 4, 3) := by decide +kernel
theorem dL_isRequest_173 : decode cL_isRequest 173 = .ok (.istore 8, 2) := by decide +kernel
theorem dL_isRequest_175 : decode cL_isRequest 175 = .ok (.iinc 11 1, 3) := by decide +kernel
theorem dL_isRequest_178 : decode cL_isRequest 178 = .ok (.goto (-34), 3) := by decide +kernel
theorem dL_isRequest_181 : decode cL_isRequest 181 = .ok (.iinc 9 1, 3) := by decide +kernel
theorem dL_isRequest_184 : decode cL_isRequest 184 = .ok (.goto (-84), 3) := by decide +kernel
theorem dL_isRequest_187 : decode cL_isRequest 187 = .ok (.iconst 0, 1) := by decide +kernel
theorem dL_isRequest_188 : decode cL_isRequest 188 = .ok (.istore 9, 2) := by decide +kernel
theorem dL_isRequest_190 : decode cL_isRequest 190 = .ok (.iconst 0, 1) := by decide +kernel
theorem dL_isRequest_191 : decode cL_isRequest 191 = .ok (.istore 10, 2) := by decide +kernel
theorem dL_isRequest_193 : decode cL_isRequest 193 = .ok (.iconst 0, 1) := by decide +kernel
theorem dL_isRequest_194 : decode cL_isRequest 194 = .ok (.istore 11, 2) := by decide +kernel
theorem dL_isRequest_196 : decode cL_isRequest 196 = .ok (.iload 11, 2) := by decide +kernel
theorem dL_isRequest_198 : decode cL_isRequest 198 = .ok (.iload 7, 2) := by decide +kernel
theorem dL_isRequest_200 : decode cL_isRequest 200 = .ok (.if_icmp .ge 229, 3) := by decide +kernel
theorem dL_isRequest_203 : decode cL_isRequest 203 = .ok (.iload 8, 2) := by decide +kernel
theorem dL_isRequest_205 : decode cL_isRequest 205 = .ok (.ifCond .eq 224, 3) := by decide +kernel
theorem dL_isRequest_208 : decode cL_isRequest 208 = .ok (.aload_n 0, 1) := by decide +kernel
theorem dL_isRequest_209 : decode cL_isRequest 209 = .ok (.iload_n 1, 1) := by decide +kernel
theorem dL_isRequest_210 : decode cL_isRequest 210 = .ok (.aload 4, 2) := by decide +kernel
theorem dL_isRequest_212 : decode cL_isRequest 212 = .ok (.bipush 9, 2) := by decide +kernel
theorem dL_isRequest_214 : decode cL_isRequest 214 = .ok (.iload_n 1, 1) := by decide +kernel
theorem dL_isRequest_215 : decode cL_isRequest 215 = .ok (.imul, 1) := by decide +kernel
theorem dL_isRequest_216 : decode cL_isRequest 216 = .ok (.iconst 3, 1) := by decide +kernel
theorem dL_isRequest_217 : decode cL_isRequest 217 = .ok (.iload 11, 2) := by decide +kernel
theorem dL_isRequest_219 : decode cL_isRequest 219 = .ok (.imul, 1) := by decide +kernel
theorem dL_isRequest_220 : decode cL_isRequest 220 = .ok (.iadd, 1) := by decide +kernel
theorem dL_isRequest_221 : decode cL_isRequest 221 = .ok (.iaload, 1) := by decide +kernel
theorem dL_isRequest_222 : decode cL_isRequest 222 = .ok (.invokevirtual 58, 3) := by decide +kernel
theorem dL_isRequest_225 : decode cL_isRequest 225 = .ok (.istore 12, 2) := by decide +kernel
theorem dL_isRequest_227 : decode cL_isRequest 227 = .ok (.aload_n 0, 1) := by decide +kernel
theorem dL_isRequest_228 : decode cL_isRequest 228 = .ok (.iload_n 1, 1) := by decide +kernel
theorem dL_isRequest_229 : decode cL_isRequest 229 = .ok (.aload 4, 2) := by decide +kernel
theorem dL_isRequest_231 : decode cL_isRequest 231 = .ok (.bipush 9, 2) := by decide +kernel
theorem dL_isRequest_233 : decode cL_isRequest 233 = .ok (.iload_n 1, 1) := by decide +kernel
theorem dL_isRequest_234 : decode cL_isRequest 234 = .ok (.imul, 1) := by decide +kernel
theorem dL_isRequest_235 : decode cL_isRequest 235 = .ok (.iconst 3, 1) := by decide +kernel
theorem dL_isRequest_236 : decode cL_isRequest 236 = .ok (.iload 11, 2) := by decide +kernel
theorem dL_isRequest_238 : decode cL_isRequest 238 = .ok (.imul, 1) := by decide +kernel
theorem dL_isRequest_239 : decode cL_isRequest 239 = .ok (.iadd, 1) := by decide +kernel
theorem dL_isRequest_240 : decode cL_isRequest 240 = .ok (.iconst 1, 1) := by decide +kernel
theorem dL_isRequest_241 : decode cL_isRequest 241 = .ok (.iadd, 1) := by decide +kernel
theorem dL_isRequest_242 : decode cL_isRequest 242 = .ok (.iaload, 1) := by decide +kernel
theorem dL_isRequest_243 : decode cL_isRequest 243 = .ok (.invokevirtual 58, 3) := by decide +kernel
theorem dL_isRequest_246 : decode cL_isRequest 246 = .ok (.istore 13, 2) := by decide +kernel
theorem dL_isRequest_248 : decode cL_isRequest 248 = .ok (.aload_n 0, 1) := by decide +kernel
theorem dL_isRequest_249 : decode cL_isRequest 249 = .ok (.iload_n 1, 1) := by decide +kernel
theorem dL_isRequest_250 : decode cL_isRequest 250 = .ok (.iload 11, 2) := by decide +kernel
theorem dL_isRequest_252 : decode cL_isRequest 252 = .ok (.iconst 0, 1) := by decide +kernel
theorem dL_isRequest_253 : decode cL_isRequest 253 = .ok (.invokevirtual 61, 3) := by decide +kernel
theorem dL_isRequest_256 : decode cL_isRequest 256 = .ok (.istore 14, 2) := by decide +kernel
theorem dL_isRequest_258 : decode cL_isRequest 258 = .ok (.aload_n 0, 1) := by decide +kernel
theorem dL_isRequest_259 : decode cL_isRequest 259 = .ok (.iload_n 1, 1) := by decide +kernel
theorem dL_isRequest_260 : decode cL_isRequest 260 = .ok (.iload 11, 2) := by decide +kernel
theorem dL_isRequest_262 : decode cL_isRequest 262 = .ok (.iconst 1, 1) := by decide +kernel
theorem dL_isRequest_263 : decode cL_isRequest 263 = .ok (.invokevirtual 61, 3) := by decide +kernel
theorem dL_isRequest_266 : decode cL_isRequest 266 = .ok (.istore 15, 2) := by decide +kernel
theorem dL_isRequest_268 : decode cL_isRequest 268 = .ok (.aload_n 0, 1) := by decide +kernel
theorem dL_isRequest_269 : decode cL_isRequest 269 = .ok (.iload_n 1, 1) := by decide +kernel
theorem dL_isRequest_270 : decode cL_isRequest 270 = .ok (.iload 11, 2) := by decide +kernel
theorem dL_isRequest_272 : decode cL_isRequest 272 = .ok (.iconst 2, 1) := by decide +kernel
theorem dL_isRequest_273 : decode cL_isRequest 273 = .ok (.invokevirtual 61, 3) := by decide +kernel
theorem dL_isRequest_276 : decode cL_isRequest 276 = .ok (.istore 16, 2) := by decide +kernel
theorem dL_isRequest_278 : decode cL_isRequest 278 = .ok (.iload 10, 2) := by decide +kernel
theorem dL_isRequest_280 : decode cL_isRequest 280 = .ok (.ifCond .ne 8, 3) := by decide +kernel
theorem dL_isRequest_283 : decode cL_isRequest 283 = .ok (.iload 15, 2) := by decide +kernel
theorem dL_isRequest_285 : decode cL_isRequest 285 = .ok (.ifCond .eq 7, 3) := by decide +kernel
theorem dL_isRequest_288 : decode cL_isRequest 288 = .ok (.iconst 1, 1) := by decide +kernel
theorem dL_isRequest_289 : decode cL_isRequest 289 = .ok (.goto 4, 3) := by decide +kernel
theorem dL_isRequest_292 : decode cL_isRequest 292 = .ok (.iconst 0, 1) := by decide +kernel
theorem dL_isRequest_293 : decode cL_isRequest 293 = .ok (.istore 10, 2) := by decide +kernel
theorem dL_isRequest_295 : decode cL_isRequest 295 = .ok (.iload 9, 2) := by decide +kernel
theorem dL_isRequest_297 : decode cL_isRequest 297 = .ok (.aload 4, 2) := by decide +kernel
theorem dL_isRequest_299 : decode cL_isRequest 299 = .ok (.bipush 9, 2) := by decide +kernel
theorem dL_isRequest_301 : decode cL_isRequest 301 = .ok (.iload_n 1, 1) := by decide +kernel
theorem dL_isRequest_302 : decode cL_isRequest 302 = .ok (.imul, 1) := by decide +kernel
theorem dL_isRequest_303 : decode cL_isRequest 303 = .ok (.iconst 3, 1) := by decide +kernel
theorem dL_isRequest_304 : decode cL_isRequest 304 = .ok (.iload 11, 2) := by decide +kernel
theorem dL_isRequest_306 : decode cL_isRequest 306 = .ok (.imul, 1) := by decide +kernel
theorem dL_isRequest_307 : decode cL_isRequest 307 = .ok (.iadd, 1) := by decide +kernel
theorem dL_isRequest_308 : decode cL_isRequest 308 = .ok (.iconst 2, 1) := by decide +kernel
theorem dL_isRequest_309 : decode cL_isRequest 309 = .ok (.iadd, 1) := by decide +kernel
theorem dL_isRequest_310 : decode cL_isRequest 310 = .ok (.iaload, 1) := by decide +kernel
theorem dL_isRequest_311 : decode cL_isRequest 311 = .ok (.iload 14, 2) := by decide +kernel
theorem dL_isRequest_313 : decode cL_isRequest 313 = .ok (.invokestatic 55, 3) := by decide +kernel
theorem dL_isRequest_316 : decode cL_isRequest 316 = .ok (.imul, 1) := by decide +kernel
theorem dL_isRequest_317 : decode cL_isRequest 317 = .ok (.iadd, 1) := by decide +kernel
theorem dL_isRequest_318 : decode cL_isRequest 318 = .ok (.istore 9, 2) := by decide +kernel
theorem dL_isRequest_320 : decode cL_isRequest 320 = .ok (.aload_n 3, 1) := by decide +kernel
theorem dL_isRequest_321 : decode cL_isRequest 321 = .ok (.aload_n 2, 1) := by decide +kernel
theorem dL_isRequest_322 : decode cL_isRequest 322 = .ok (.iconst 1, 1) := by decide +kernel
theorem dL_isRequest_323 : decode cL_isRequest 323 = .ok (.iaload, 1) := by decide +kernel
theorem dL_isRequest_324 : decode cL_isRequest 324 = .ok (.iload 14, 2) := by decide +kernel
theorem dL_isRequest_326 : decode cL_isRequest 326 = .ok (.iload 12, 2) := by decide +kernel
theorem dL_isRequest_328 : decode cL_isRequest 328 = .ok (.iload 13, 2) := by decide +kernel
theorem dL_isRequest_330 : decode cL_isRequest 330 = .ok (.invokestatic 64, 3) := by decide +kernel
theorem dL_isRequest_333 : decode cL_isRequest 333 = .ok (.ifCond .eq 87, 3) := by decide +kernel
theorem dL_isRequest_336 : decode cL_isRequest 336 = .ok (.iload 15, 2) := by decide +kernel
theorem dL_isRequest_338 : decode cL_isRequest 338 = .ok (.ifCond .eq 36, 3) := by decide +kernel
theorem dL_isRequest_341 : decode cL_isRequest 341 = .ok (.aload_n 0, 1) := by decide +kernel
theorem dL_isRequest_342 : decode cL_isRequest 342 = .ok (.iload_n 1, 1) := by decide +kernel
theorem dL_isRequest_343 : decode cL_isRequest 343 = .ok (.iconst 1, 1) := by decide +kernel
theorem dL_isRequest_344 : decode cL_isRequest 344 = .ok (.invokevirtual 43, 3) := by decide +kernel
theorem dL_isRequest_347 : decode cL_isRequest 347 = .ok (.iconst 1, 1) := by decide +kernel
theorem dL_isRequest_348 : decode cL_isRequest 348 = .ok (.if_icmp .ne 72, 3) := by decide +kernel
theorem dL_isRequest_351 : decode cL_isRequest 351 = .ok (.iload 15, 2) := by decide +kernel
theorem dL_isRequest_353 : decode cL_isRequest 353 = .ok (.iload 14, 2) := by decide +kernel
theorem dL_isRequest_355 : decode cL_isRequest 355 = .ok (.if_icmp .eq 65, 3) := by decide +kernel
theorem dL_isRequest_358 : decode cL_isRequest 358 = .ok (.aload_n 3, 1) := by decide +kernel
theorem dL_isRequest_359 : decode cL_isRequest 359 = .ok (.aload_n 2, 1) := by decide +kernel
theorem dL_isRequest_360 : decode cL_isRequest 360 = .ok (.iconst 1, 1) := by decide +kernel
theorem dL_isRequest_361 : decode cL_isRequest 361 = .ok (.iaload, 1) := by decide +kernel
theorem dL_isRequest_362 : decode cL_isRequest 362 = .ok (.iload 15, 2) := by decide +kernel
theorem dL_isRequest_364 : decode cL_isRequest 364 = .ok (.iload 12, 2) := by decide +kernel
theorem dL_isRequest_366 : decode cL_isRequest 366 = .ok (.iload 13, 2) := by decide +kernel
theorem dL_isRequest_368 : decode cL_isRequest 368 = .ok (.invokestatic 64, 3) := by decide +kernel
theorem dL_isRequest_371 : decode cL_isRequest 371 = .ok (.ifCond .eq 49, 3) := by decide +kernel
theorem dL_isRequest_374 : decode cL_isRequest 374 = .ok (.aload_n 0, 1) := by decide +kernel
theorem dL_isRequest_375 : decode cL_isRequest 375 = .ok (.iload_n 1, 1) := by decide +kernel
theorem dL_isRequest_376 : decode cL_isRequest 376 = .ok (.iconst 1, 1) := by decide +kernel
theorem dL_isRequest_377 : decode cL_isRequest 377 = .ok (.invokevirtual 43, 3) := by decide +kernel
theorem dL_isRequest_380 : decode cL_isRequest 380 = .ok (.iconst 2, 1) := by decide +kernel
theorem dL_isRequest_381 : decode cL_isRequest 381 = .ok (.if_icmp .ne 30, 3) := by decide +kernel
theorem dL_isRequest_384 : decode cL_isRequest 384 = .ok (.iload 16, 2) := by decide +kernel
theorem dL_isRequest_386 : decode cL_isRequest 386 = .ok (.iload 14, 2) := by decide +kernel
theorem dL_isRequest_388 : decode cL_isRequest 388 = .ok (.iand, 1) := by decide +kernel
theorem dL_isRequest_389 : decode cL_isRequest 389 = .ok (.ifCond .ne 31, 3) := by decide +kernel
theorem dL_isRequest_392 : decode cL_isRequest 392 = .ok (.aload_n 3, 1) := by decide +kernel
theorem dL_isRequest_393 : decode cL_isRequest 393 = .ok (.aload_n 2, 1) := by decide +kernel
theorem dL_isRequest_394 : decode cL_isRequest 394 = .ok (.iconst 1, 1) := by decide +kernel
theorem dL_isRequest_395 : decode cL_isRequest 395 = .ok (.iaload, 1) := by decide +kernel
theorem dL_isRequest_396 : decode cL_isRequest 396 = .ok (.iload 16, 2) := by decide +kernel
theorem dL_isRequest_398 : decode cL_isRequest 398 = .ok (.iload 12, 2) := by decide +kernel
theorem dL_isRequest_400 : decode cL_isRequest 400 = .ok (.iload 13, 2) := by decide +kernel
theorem dL_isRequest_402 : decode cL_isRequest 402 = .ok (.invokestatic 64, 3) := by decide +kernel
theorem dL_isRequest_405 : decode cL_isRequest 405 = .ok (.ifCond .eq 15, 3) := by decide +kernel
theorem dL_isRequest_408 : decode cL_isRequest 408 = .ok (.goto 8, 3) := by decide +kernel
theorem dL_isRequest_411 : decode cL_isRequest 411 = .ok (.iload 16, 2) := by decide +kernel
theorem dL_isRequest_413 : decode cL_isRequest 413 = .ok (.ifCond .ne 7, 3) := by decide +kernel
theorem dL_isRequest_416 : decode cL_isRequest 416 = .ok (.iconst 1, 1) := by decide +kernel
theorem dL_isRequest_417 : decode cL_isRequest 417 = .ok (.goto 4, 3) := by decide +kernel
theorem dL_isRequest_421 : decode cL_isRequest 421 = .ok (.istore 8, 2) := by decide +kernel
theorem dL_isRequest_423 : decode cL_isRequest 423 = .ok (.iinc 11 1, 3) := by decide +kernel
theorem dL_isRequest_426 : decode cL_isRequest 426 = .ok (.goto (-230), 3) := by decide +kernel
theorem dL_isRequest_429 : decode cL_isRequest 429 = .ok (.iload 8, 2) := by decide +kernel
theorem dL_isRequest_431 : decode cL_isRequest 431 = .ok (.ifCond .eq 24, 3) := by decide +kernel
theorem dL_isRequest_434 : decode cL_isRequest 434 = .ok (.iload 10, 2) := by decide +kernel
theorem dL_isRequest_436 : decode cL_isRequest 436 = .ok (.ifCond .ne 15, 3) := by decide +kernel
theorem dL_isRequest_439 : decode cL_isRequest 439 = .ok (.aload_n 0, 1) := by decide +kernel
theorem dL_isRequest_440 : decode cL_isRequest 440 = .ok (.iload_n 1, 1) := by decide +kernel
theorem dL_isRequest_441 : decode cL_isRequest 441 = .ok (.bipush 7, 2) := by decide +kernel
theorem dL_isRequest_443 : decode cL_isRequest 443 = .ok (.invokevirtual 43, 3) := by decide +kernel
theorem dL_isRequest_446 : decode cL_isRequest 446 = .ok (.iload 9, 2) := by decide +kernel
theorem dL_isRequest_448 : decode cL_isRequest 448 = .ok (.if_icmp .ne 7, 3) := by decide +kernel
theorem dL_isRequest_451 : decode cL_isRequest 451 = .ok (.iconst 1, 1) := by decide +kernel
theorem dL_isRequest_452 : decode cL_isRequest 452 = .ok (.goto 4, 3) := by decide +kernel
theorem dL_isRequest_456 : decode cL_isRequest 456 = .ok (.ireturn, 1) := by decide +kernel
def F_L_isRequest_71 (z : ScT) (K71 : Int32 → Int32 → Int32 → Nat → Mm → Prop) (K100 : Int32 → Int32 → Int32 → Int32 → Nat → Mm → Prop) (K144 : Int32 → Int32 → Int32 → Int32 → Int32 → Int32 → Nat → Mm → Prop) (K196 : Int32 → Int32 → Int32 → Int32 → Int32 → Nat → Mm → Prop) (K293 : Int32 → Int32 → Int32 → Int32 → Int32 → Int32 → Int32 → Int32 → Int32 → Int32 → Nat → Mm → Prop) (K374 : Int32 → Int32 → Int32 → Int32 → Int32 → Int32 → Int32 → Int32 → Int32 → Nat → Mm → Prop) (K429 : Int32 → Int32 → Int32 → Nat → Mm → Prop) (q : Mm → Prop) (x1 : Int32) (x6 : Int32) (x7 : Int32) (n : Nat) (μ : Mm) : Prop :=
  n + 2 ≤ 100 ∧ (T_X7_told x1 (5 : Int32) μ (fun z2 μ_1 => T_X7_told x1 (6 : Int32) μ_1 (fun z4 μ_3 => ((x7 < (z2 + z4) → False) ∧ (¬ (x7 < (z2 + z4)) → K100 x1 x6 x7 (0 : Int32) (n + 2) μ_3))) (fun _ _ => False)) (fun _ _ => False))
def F_L_isRequest_100 (z : ScT) (K71 : Int32 → Int32 → Int32 → Nat → Mm → Prop) (K100 : Int32 → Int32 → Int32 → Int32 → Nat → Mm → Prop) (K144 : Int32 → Int32 → Int32 → Int32 → Int32 → Int32 → Nat → Mm → Prop) (K196 : Int32 → Int32 → Int32 → Int32 → Int32 → Nat → Mm → Prop) (K293 : Int32 → Int32 → Int32 → Int32 → Int32 → Int32 → Int32 → Int32 → Int32 → Int32 → Nat → Mm → Prop) (K374 : Int32 → Int32 → Int32 → Int32 → Int32 → Int32 → Int32 → Int32 → Int32 → Nat → Mm → Prop) (K429 : Int32 → Int32 → Int32 → Nat → Mm → Prop) (q : Mm → Prop) (x1 : Int32) (x6 : Int32) (x7 : Int32) (x9 : Int32) (n : Nat) (μ : Mm) : Prop :=
  n + 1 ≤ 100 ∧ (((x6 ≤ x9 → K196 x1 x7 (0 : Int32) (0 : Int32) (0 : Int32) n μ) ∧ (¬ (x6 ≤ x9) → T_X7_at x1 x9 μ (fun z2 μ_1 => ((z2 < 0 → False) ∧ (¬ (z2 < 0) → vp_in (0 : Int32) 5 ∧ (((μ_1 p_LC ((0 : Int32)).toNatClampNeg) ≤ z2 → False) ∧ (¬ ((μ_1 p_LC ((0 : Int32)).toNatClampNeg) ≤ z2) → K144 x1 x6 x7 x9 z2 (0 : Int32) (n + 1) μ_1))))) (fun _ _ => False))))
def F_L_isRequest_144 (z : ScT) (K71 : Int32 → Int32 → Int32 → Nat → Mm → Prop) (K100 : Int32 → Int32 → Int32 → Int32 → Nat → Mm → Prop) (K144 : Int32 → Int32 → Int32 → Int32 → Int32 → Int32 → Nat → Mm → Prop) (K196 : Int32 → Int32 → Int32 → Int32 → Int32 → Nat → Mm → Prop) (K293 : Int32 → Int32 → Int32 → Int32 → Int32 → Int32 → Int32 → Int32 → Int32 → Int32 → Nat → Mm → Prop) (K374 : Int32 → Int32 → Int32 → Int32 → Int32 → Int32 → Int32 → Int32 → Int32 → Nat → Mm → Prop) (K429 : Int32 → Int32 → Int32 → Nat → Mm → Prop) (q : Mm → Prop) (x1 : Int32) (x6 : Int32) (x7 : Int32) (x9 : Int32) (x10 : Int32) (x11 : Int32) (n : Nat) (μ : Mm) : Prop :=
  n + 1 ≤ 100 ∧ (((x9 ≤ x11 → K100 x1 x6 x7 (x9 + (1 : Int32)) n μ) ∧ (¬ (x9 ≤ x11) → T_X7_at x1 x11 μ (fun z2 μ_1 => ((z2 = x10 → False) ∧ (¬ (z2 = x10) → K144 x1 x6 x7 x9 x10 (x11 + (1 : Int32)) (n + 1) μ_1))) (fun _ _ => False))))
def F_L_isRequest_196 (z : ScT) (K71 : Int32 → Int32 → Int32 → Nat → Mm → Prop) (K100 : Int32 → Int32 → Int32 → Int32 → Nat → Mm → Prop) (K144 : Int32 → Int32 → Int32 → Int32 → Int32 → Int32 → Nat → Mm → Prop) (K196 : Int32 → Int32 → Int32 → Int32 → Int32 → Nat → Mm → Prop) (K293 : Int32 → Int32 → Int32 → Int32 → Int32 → Int32 → Int32 → Int32 → Int32 → Int32 → Nat → Mm → Prop) (K374 : Int32 → Int32 → Int32 → Int32 → Int32 → Int32 → Int32 → Int32 → Int32 → Nat → Mm → Prop) (K429 : Int32 → Int32 → Int32 → Nat → Mm → Prop) (q : Mm → Prop) (x1 : Int32) (x7 : Int32) (x9 : Int32) (x10 : Int32) (x11 : Int32) (n : Nat) (μ : Mm) : Prop :=
  n + 5 ≤ 100 ∧ (((x7 ≤ x11 → K429 x1 x9 x10 n μ) ∧ (¬ (x7 ≤ x11) → vp_in (((9 : Int32) * x1) + ((3 : Int32) * x11)) 64 ∧ T_X7_at x1 (μ p_LQ ((((9 : Int32) * x1) + ((3 : Int32) * x11))).toNatClampNeg) μ (fun z2 μ_1 => vp_in ((((9 : Int32) * x1) + ((3 : Int32) * x11)) + (1 : Int32)) 64 ∧ T_X7_at x1 (μ_1 p_LQ (((((9 : Int32) * x1) + ((3 : Int32) * x11)) + (1 : Int32))).toNatClampNeg) μ_1 (fun z4 μ_3 => T_X7_way x1 x11 (0 : Int32) μ_3 (fun z6 μ_5 => T_X7_way x1 x11 (1 : Int32) μ_5 (fun z8 μ_7 => T_X7_way x1 x11 (2 : Int32) μ_7 (fun z10 μ_9 => ((¬ (x10 = 0) → K293 x1 x7 x9 x11 z2 z4 z6 z8 z10 (1 : Int32) (n + 5) μ_9) ∧ (x10 = 0 → ((z8 = 0 → K293 x1 x7 x9 x11 z2 z4 z6 z8 z10 (0 : Int32) (n + 5) μ_9) ∧ (¬ (z8 = 0) → K293 x1 x7 x9 x11 z2 z4 z6 z8 z10 (1 : Int32) (n + 5) μ_9))))) (fun _ _ => False)) (fun _ _ => False)) (fun _ _ => False)) (fun _ _ => False)) (fun _ _ => False))))
def F_L_isRequest_293 (z : ScT) (K71 : Int32 → Int32 → Int32 → Nat → Mm → Prop) (K100 : Int32 → Int32 → Int32 → Int32 → Nat → Mm → Prop) (K144 : Int32 → Int32 → Int32 → Int32 → Int32 → Int32 → Nat → Mm → Prop) (K196 : Int32 → Int32 → Int32 → Int32 → Int32 → Nat → Mm → Prop) (K293 : Int32 → Int32 → Int32 → Int32 → Int32 → Int32 → Int32 → Int32 → Int32 → Int32 → Nat → Mm → Prop) (K374 : Int32 → Int32 → Int32 → Int32 → Int32 → Int32 → Int32 → Int32 → Int32 → Nat → Mm → Prop) (K429 : Int32 → Int32 → Int32 → Nat → Mm → Prop) (q : Mm → Prop) (x1 : Int32) (x7 : Int32) (x9 : Int32) (x11 : Int32) (x12 : Int32) (x13 : Int32) (x14 : Int32) (x15 : Int32) (x16 : Int32) (y0 : Int32) (n : Nat) (μ : Mm) : Prop :=
  n + 3 ≤ 100 ∧ (vp_in ((((9 : Int32) * x1) + ((3 : Int32) * x11)) + (2 : Int32)) 64 ∧ Wp_L_bits z x14 μ (fun z2 μ_1 => (∀ v9_3 : Int32, v9_3 = (x9 + ((μ p_LQ (((((9 : Int32) * x1) + ((3 : Int32) * x11)) + (2 : Int32))).toNatClampNeg) * z2)) → vp_in (1 : Int32) 5 ∧ Wp_L_isWay z (μ_1 p_LC ((1 : Int32)).toNatClampNeg) x14 x12 x13 μ_1 (fun μ_4 => ((x15 = 0 → K374 x1 x7 v9_3 y0 x11 x12 x13 x14 x16 (n + 1) μ_4) ∧ (¬ (x15 = 0) → T_X7_told x1 (1 : Int32) μ_4 (fun z6 μ_5 => ((¬ (z6 = (1 : Int32)) → False) ∧ (z6 = (1 : Int32) → ((x15 = x14 → False) ∧ (¬ (x15 = x14) → vp_in (1 : Int32) 5 ∧ Wp_L_isWay z (μ_5 p_LC ((1 : Int32)).toNatClampNeg) x15 x12 x13 μ_5 (fun μ_7 => K374 x1 x7 v9_3 y0 x11 x12 x13 x14 x16 (n + 3) μ_7)))))) (fun _ _ => False)))))))
def F_L_isRequest_374 (z : ScT) (K71 : Int32 → Int32 → Int32 → Nat → Mm → Prop) (K100 : Int32 → Int32 → Int32 → Int32 → Nat → Mm → Prop) (K144 : Int32 → Int32 → Int32 → Int32 → Int32 → Int32 → Nat → Mm → Prop) (K196 : Int32 → Int32 → Int32 → Int32 → Int32 → Nat → Mm → Prop) (K293 : Int32 → Int32 → Int32 → Int32 → Int32 → Int32 → Int32 → Int32 → Int32 → Int32 → Nat → Mm → Prop) (K374 : Int32 → Int32 → Int32 → Int32 → Int32 → Int32 → Int32 → Int32 → Int32 → Nat → Mm → Prop) (K429 : Int32 → Int32 → Int32 → Nat → Mm → Prop) (q : Mm → Prop) (x1 : Int32) (x7 : Int32) (x9 : Int32) (x10 : Int32) (x11 : Int32) (x12 : Int32) (x13 : Int32) (x14 : Int32) (x16 : Int32) (n : Nat) (μ : Mm) : Prop :=
  n + 2 ≤ 100 ∧ (T_X7_told x1 (1 : Int32) μ (fun z2 μ_1 => ((¬ (z2 = (2 : Int32)) → ((¬ (x16 = 0) → False) ∧ (x16 = 0 → K196 x1 x7 x9 x10 (x11 + (1 : Int32)) (n + 1) μ_1))) ∧ (z2 = (2 : Int32) → ((¬ ((x16 &&& x14) = 0) → False) ∧ ((x16 &&& x14) = 0 → vp_in (1 : Int32) 5 ∧ Wp_L_isWay z (μ_1 p_LC ((1 : Int32)).toNatClampNeg) x16 x12 x13 μ_1 (fun μ_3 => K196 x1 x7 x9 x10 (x11 + (1 : Int32)) (n + 2) μ_3)))))) (fun _ _ => False))
def F_L_isRequest_429 (z : ScT) (K71 : Int32 → Int32 → Int32 → Nat → Mm → Prop) (K100 : Int32 → Int32 → Int32 → Int32 → Nat → Mm → Prop) (K144 : Int32 → Int32 → Int32 → Int32 → Int32 → Int32 → Nat → Mm → Prop) (K196 : Int32 → Int32 → Int32 → Int32 → Int32 → Nat → Mm → Prop) (K293 : Int32 → Int32 → Int32 → Int32 → Int32 → Int32 → Int32 → Int32 → Int32 → Int32 → Nat → Mm → Prop) (K374 : Int32 → Int32 → Int32 → Int32 → Int32 → Int32 → Int32 → Int32 → Int32 → Nat → Mm → Prop) (K429 : Int32 → Int32 → Int32 → Nat → Mm → Prop) (q : Mm → Prop) (x1 : Int32) (x9 : Int32) (x10 : Int32) (n : Nat) (μ : Mm) : Prop :=
  n + 1 ≤ 100 ∧ (((¬ (x10 = 0) → q μ) ∧ (x10 = 0 → T_X7_told x1 (7 : Int32) μ (fun z2 μ_1 => ((¬ (z2 = x9) → False) ∧ (z2 = x9 → q μ_1))) (fun _ _ => False))))
def F_L_isRequest_e (z : ScT) (K71 : Int32 → Int32 → Int32 → Nat → Mm → Prop) (K100 : Int32 → Int32 → Int32 → Int32 → Nat → Mm → Prop) (K144 : Int32 → Int32 → Int32 → Int32 → Int32 → Int32 → Nat → Mm → Prop) (K196 : Int32 → Int32 → Int32 → Int32 → Int32 → Nat → Mm → Prop) (K293 : Int32 → Int32 → Int32 → Int32 → Int32 → Int32 → Int32 → Int32 → Int32 → Int32 → Nat → Mm → Prop) (K374 : Int32 → Int32 → Int32 → Int32 → Int32 → Int32 → Int32 → Int32 → Int32 → Nat → Mm → Prop) (K429 : Int32 → Int32 → Int32 → Nat → Mm → Prop) (q : Mm → Prop) (x1 : Int32) (μ : Mm) : Prop :=
  T_X7_told x1 (3 : Int32) μ (fun z2 μ_1 => T_X7_told x1 (4 : Int32) μ_1 (fun z4 μ_3 => ((z2 ≤ 0 → False) ∧ (¬ (z2 ≤ 0) → (((4 : Int32) ≤ z2 → False) ∧ (¬ ((4 : Int32) ≤ z2) → ((z4 < 0 → False) ∧ (¬ (z4 < 0) → (((4 : Int32) ≤ z4 → False) ∧ (¬ ((4 : Int32) ≤ z4) → T_X7_told x1 (2 : Int32) μ_3 (fun z6 μ_5 => vp_in x1 12 ∧ ((¬ (z6 = (μ_5 p_LT (x1).toNatClampNeg)) → False) ∧ (z6 = (μ_5 p_LT (x1).toNatClampNeg) → T_X7_told x1 (0 : Int32) μ_5 (fun z8 μ_7 => ((z8 = (1 : Int32) → K71 x1 z2 z4 4 μ_7) ∧ (¬ (z8 = (1 : Int32)) → vp_in x1 12 ∧ vp_in (3 : Int32) 5 ∧ (((μ_7 p_LT (x1).toNatClampNeg) ≤ (μ_7 p_LC ((3 : Int32)).toNatClampNeg) → False) ∧ (¬ ((μ_7 p_LT (x1).toNatClampNeg) ≤ (μ_7 p_LC ((3 : Int32)).toNatClampNeg)) → K71 x1 z2 z4 4 μ_7))))) (fun _ _ => False)))) (fun _ _ => False)))))))))) (fun _ _ => False)) (fun _ _ => False)
def Wp_L_isRequest (z : ScT) (x1 : Int32) (μ : Mm) (q : Mm → Prop) : Prop := ∀ (K71 : Int32 → Int32 → Int32 → Nat → Mm → Prop) (K100 : Int32 → Int32 → Int32 → Int32 → Nat → Mm → Prop) (K144 : Int32 → Int32 → Int32 → Int32 → Int32 → Int32 → Nat → Mm → Prop) (K196 : Int32 → Int32 → Int32 → Int32 → Int32 → Nat → Mm → Prop) (K293 : Int32 → Int32 → Int32 → Int32 → Int32 → Int32 → Int32 → Int32 → Int32 → Int32 → Nat → Mm → Prop) (K374 : Int32 → Int32 → Int32 → Int32 → Int32 → Int32 → Int32 → Int32 → Int32 → Nat → Mm → Prop) (K429 : Int32 → Int32 → Int32 → Nat → Mm → Prop), (∀ (x1 : Int32) (x6 : Int32) (x7 : Int32) (n : Nat) (μ : Mm), F_L_isRequest_71 z K71 K100 K144 K196 K293 K374 K429 q x1 x6 x7 n μ → K71 x1 x6 x7 n μ) → (∀ (x1 : Int32) (x6 : Int32) (x7 : Int32) (x9 : Int32) (n : Nat) (μ : Mm), F_L_isRequest_100 z K71 K100 K144 K196 K293 K374 K429 q x1 x6 x7 x9 n μ → K100 x1 x6 x7 x9 n μ) → (∀ (x1 : Int32) (x6 : Int32) (x7 : Int32) (x9 : Int32) (x10 : Int32) (x11 : Int32) (n : Nat) (μ : Mm), F_L_isRequest_144 z K71 K100 K144 K196 K293 K374 K429 q x1 x6 x7 x9 x10 x11 n μ → K144 x1 x6 x7 x9 x10 x11 n μ) → (∀ (x1 : Int32) (x7 : Int32) (x9 : Int32) (x10 : Int32) (x11 : Int32) (n : Nat) (μ : Mm), F_L_isRequest_196 z K71 K100 K144 K196 K293 K374 K429 q x1 x7 x9 x10 x11 n μ → K196 x1 x7 x9 x10 x11 n μ) → (∀ (x1 : Int32) (x7 : Int32) (x9 : Int32) (x11 : Int32) (x12 : Int32) (x13 : Int32) (x14 : Int32) (x15 : Int32) (x16 : Int32) (y0 : Int32) (n : Nat) (μ : Mm), F_L_isRequest_293 z K71 K100 K144 K196 K293 K374 K429 q x1 x7 x9 x11 x12 x13 x14 x15 x16 y0 n μ → K293 x1 x7 x9 x11 x12 x13 x14 x15 x16 y0 n μ) → (∀ (x1 : Int32) (x7 : Int32) (x9 : Int32) (x10 : Int32) (x11 : Int32) (x12 : Int32) (x13 : Int32) (x14 : Int32) (x16 : Int32) (n : Nat) (μ : Mm), F_L_isRequest_374 z K71 K100 K144 K196 K293 K374 K429 q x1 x7 x9 x10 x11 x12 x13 x14 x16 n μ → K374 x1 x7 x9 x10 x11 x12 x13 x14 x16 n μ) → (∀ (x1 : Int32) (x9 : Int32) (x10 : Int32) (n : Nat) (μ : Mm), F_L_isRequest_429 z K71 K100 K144 K196 K293 K374 K429 q x1 x9 x10 n μ → K429 x1 x9 x10 n μ) → F_L_isRequest_e z K71 K100 K144 K196 K293 K374 K429 q x1 μ
abbrev KK_L_isRequest_71 (g : GE) (f : FE) (z : ScT) : Int32 → Int32 → Int32 → Nat → Mm → Prop := fun x1 x6 x7 n μ => KW g f 17 n (6 * n) 71 [some (.ref p_ML), some (.int x1), some (.ref p_LC), some (.ref p_LL), some (.ref p_LQ), none, some (.int x6), some (.int x7), none, none, none, none, none, none, none, none, none] [] μ
abbrev KK_L_isRequest_100 (g : GE) (f : FE) (z : ScT) : Int32 → Int32 → Int32 → Int32 → Nat → Mm → Prop := fun x1 x6 x7 x9 n μ => KW g f 17 n (6 * n) 100 [some (.ref p_ML), some (.int x1), some (.ref p_LC), some (.ref p_LL), some (.ref p_LQ), none, some (.int x6), some (.int x7), some (.int (1 : Int32)), some (.int x9), none, none, none, none, none, none, none] [] μ
abbrev KK_L_isRequest_144 (g : GE) (f : FE) (z : ScT) : Int32 → Int32 → Int32 → Int32 → Int32 → Int32 → Nat → Mm → Prop := fun x1 x6 x7 x9 x10 x11 n μ => KW g f 17 n (6 * n) 144 [some (.ref p_ML), some (.int x1), some (.ref p_LC), some (.ref p_LL), some (.ref p_LQ), none, some (.int x6), some (.int x7), some (.int (1 : Int32)), some (.int x9), some (.int x10), some (.int x11), none, none, none, none, none] [] μ
abbrev KK_L_isRequest_196 (g : GE) (f : FE) (z : ScT) : Int32 → Int32 → Int32 → Int32 → Int32 → Nat → Mm → Prop := fun x1 x7 x9 x10 x11 n μ => KW g f 17 n (6 * n) 196 [some (.ref p_ML), some (.int x1), some (.ref p_LC), some (.ref p_LL), some (.ref p_LQ), none, none, some (.int x7), some (.int (1 : Int32)), some (.int x9), some (.int x10), some (.int x11), none, none, none, none, none] [] μ
abbrev KK_L_isRequest_293 (g : GE) (f : FE) (z : ScT) : Int32 → Int32 → Int32 → Int32 → Int32 → Int32 → Int32 → Int32 → Int32 → Int32 → Nat → Mm → Prop := fun x1 x7 x9 x11 x12 x13 x14 x15 x16 y0 n μ => KW g f 17 n (6 * n) 293 [some (.ref p_ML), some (.int x1), some (.ref p_LC), some (.ref p_LL), some (.ref p_LQ), none, none, some (.int x7), none, some (.int x9), none, some (.int x11), some (.int x12), some (.int x13), some (.int x14), some (.int x15), some (.int x16)] [.int y0] μ
abbrev KK_L_isRequest_374 (g : GE) (f : FE) (z : ScT) : Int32 → Int32 → Int32 → Int32 → Int32 → Int32 → Int32 → Int32 → Int32 → Nat → Mm → Prop := fun x1 x7 x9 x10 x11 x12 x13 x14 x16 n μ => KW g f 17 n (6 * n) 374 [some (.ref p_ML), some (.int x1), some (.ref p_LC), some (.ref p_LL), some (.ref p_LQ), none, none, some (.int x7), none, some (.int x9), some (.int x10), some (.int x11), some (.int x12), some (.int x13), some (.int x14), none, some (.int x16)] [] μ
abbrev KK_L_isRequest_429 (g : GE) (f : FE) (z : ScT) : Int32 → Int32 → Int32 → Nat → Mm → Prop := fun x1 x9 x10 n μ => KW g f 17 n (6 * n) 429 [some (.ref p_ML), some (.int x1), none, none, none, none, none, none, some (.int (1 : Int32)), some (.int x9), some (.int x10), none, none, none, none, none, none] [] μ
set_option maxHeartbeats 4000000 in
theorem b_L_isRequest_71 {g : GE} {f : FE} {z : ScT} {q : Mm → Prop} (hm : g.2.2.2.2 = []) (hcx : (∀ n, n ≤ 100 → Cx g f cL_isRequest 17 RL 7 114 n (6 * n))) (bx : BXl g z f) (hr : (f_M f).sig.returnType = (some .boolean)) (rx : RXl g f 100 (qTr q)) {x1 : Int32} {x6 : Int32} {x7 : Int32} {n : Nat} {μ : Mm} (h : F_L_isRequest_71 z (KK_L_isRequest_71 g f z) (KK_L_isRequest_100 g f z) (KK_L_isRequest_144 g f z) (KK_L_isRequest_196 g f z) (KK_L_isRequest_293 g f z) (KK_L_isRequest_374 g f z) (KK_L_isRequest_429 g f z) q x1 x6 x7 n μ) : KW g f 17 n (6 * n) 71 [some (.ref p_ML), some (.int x1), some (.ref p_LC), some (.ref p_LL), some (.ref p_LQ), none, some (.int x6), some (.int x7), none, none, none, none, none, none, none, none, none] [] μ := by
  unfold F_L_isRequest_71 at h
  obtain ⟨hn, h⟩ := h
  have cx := hcx n (by omega)
  refine k_aload_n cx dL_isRequest_71 rfl rfl ?_
  refine k_iload_n cx dL_isRequest_72 rfl rfl ?_
  refine k_iconst (v := (5 : Int32)) cx dL_isRequest_73 (by decide +kernel) ?_
  obtain ⟨q0, qx0, h0, hq0, hx0⟩ := h
  refine k_callXd (As := [.int x1, .int (5 : Int32)]) (rest := []) (n2 := (n + 1)) hcx bx (m_X7_told bx.2.2.2 h0) hx0 lk_L_43 cv_L_43 ob_ML rfl rfl rfl rfl (Nat.le_of_ble_eq_true rfl) ⟨Nat.le_of_ble_eq_true rfl, Nat.le_of_ble_eq_true rfl⟩ (by omega) (by omega) dL_isRequest_74 (fun v μ_1 hq => ?_)
  obtain ⟨z2, rfl, h⟩ := hq
  replace h := hq0 _ _ h
  have cx := hcx (n + 1) (by omega)
  refine k_aload_n cx dL_isRequest_77 rfl rfl ?_
  refine k_iload_n cx dL_isRequest_78 rfl rfl ?_
  refine k_bipush (v := (6 : Int32)) cx dL_isRequest_79 (by decide +kernel) ?_
  obtain ⟨q0, qx0, h0, hq0, hx0⟩ := h
  refine k_callXd (As := [.int x1, .int (6 : Int32)]) (rest := [.int z2]) (n2 := (n + 2)) hcx bx (m_X7_told bx.2.2.2 h0) hx0 lk_L_43 cv_L_43 ob_ML rfl rfl rfl rfl (Nat.le_of_ble_eq_true rfl) ⟨Nat.le_of_ble_eq_true rfl, Nat.le_of_ble_eq_true rfl⟩ (by omega) (by omega) dL_isRequest_81 (fun v μ_3 hq => ?_)
  obtain ⟨z4, rfl, h⟩ := hq
  replace h := hq0 _ _ h
  have cx := hcx (n + 2) (by omega)
  refine k_iadd cx dL_isRequest_84 ?_
  refine k_iload cx dL_isRequest_85 rfl ?_
  refine k_icmp_gt (tgt := 94) cx dL_isRequest_87 (by decide) (fun hc => ?_) (fun hc => ?_)
  · replace h := h.1 hc
    exact h.elim
  · replace h := h.2 hc
    refine k_iconst (v := (1 : Int32)) cx dL_isRequest_90 (by decide +kernel) ?_
    refine k_goto (tgt := 95) cx dL_isRequest_91 (by decide) ?_
    refine k_istore cx dL_isRequest_95 (by decide) ?_
    refine k_iconst (v := (0 : Int32)) cx dL_isRequest_97 (by decide +kernel) ?_
    refine k_istore cx dL_isRequest_98 (by decide) ?_
    exact k_weak h (lsLe.keep (lsLe.keep (lsLe.keep (lsLe.keep (lsLe.keep (lsLe.keep (lsLe.keep (lsLe.keep (lsLe.keep (lsLe.keep (lsLe.keep (lsLe.keep (lsLe.keep (lsLe.keep (lsLe.keep (lsLe.keep (lsLe.keep lsLe.nil)))))))))))))))))
set_option maxHeartbeats 4000000 in
theorem b_L_isRequest_100 {g : GE} {f : FE} {z : ScT} {q : Mm → Prop} (hm : g.2.2.2.2 = []) (hcx : (∀ n, n ≤ 100 → Cx g f cL_isRequest 17 RL 7 114 n (6 * n))) (bx : BXl g z f) (hr : (f_M f).sig.returnType = (some .boolean)) (rx : RXl g f 100 (qTr q)) {x1 : Int32} {x6 : Int32} {x7 : Int32} {x9 : Int32} {n : Nat} {μ : Mm} (h : F_L_isRequest_100 z (KK_L_isRequest_71 g f z) (KK_L_isRequest_100 g f z) (KK_L_isRequest_144 g f z) (KK_L_isRequest_196 g f z) (KK_L_isRequest_293 g f z) (KK_L_isRequest_374 g f z) (KK_L_isRequest_429 g f z) q x1 x6 x7 x9 n μ) : KW g f 17 n (6 * n) 100 [some (.ref p_ML), some (.int x1), some (.ref p_LC), some (.ref p_LL), some (.ref p_LQ), none, some (.int x6), some (.int x7), some (.int (1 : Int32)), some (.int x9), none, none, none, none, none, none, none] [] μ := by
  unfold F_L_isRequest_100 at h
  obtain ⟨hn, h⟩ := h
  have cx := hcx n (by omega)
  refine k_iload cx dL_isRequest_100 rfl ?_
  refine k_iload cx dL_isRequest_102 rfl ?_
  refine k_icmp_ge (tgt := 187) cx dL_isRequest_104 (by decide) (fun hc => ?_) (fun hc => ?_)
  · replace h := h.1 hc
    refine k_iconst (v := (0 : Int32)) cx dL_isRequest_187 (by decide +kernel) ?_
    refine k_istore cx dL_isRequest_188 (by decide) ?_
    refine k_iconst (v := (0 : Int32)) cx dL_isRequest_190 (by decide +kernel) ?_
    refine k_istore cx dL_isRequest_191 (by decide) ?_
    refine k_iconst (v := (0 : Int32)) cx dL_isRequest_193 (by decide +kernel) ?_
    refine k_istore cx dL_isRequest_194 (by decide) ?_
    exact k_weak h (lsLe.keep (lsLe.keep (lsLe.keep (lsLe.keep (lsLe.keep (lsLe.keep (lsLe.drop (lsLe.keep (lsLe.keep (lsLe.keep (lsLe.keep (lsLe.keep (lsLe.keep (lsLe.keep (lsLe.keep (lsLe.keep (lsLe.keep lsLe.nil)))))))))))))))))
  · replace h := h.2 hc
    refine k_iload cx dL_isRequest_107 rfl ?_
    refine k_if_eq (tgt := 187) cx dL_isRequest_109 (by decide) (fun hc => absurd hc (by decide)) (fun _ => ?_)
    refine k_aload_n cx dL_isRequest_112 rfl rfl ?_
    refine k_iload_n cx dL_isRequest_113 rfl rfl ?_
    refine k_iload cx dL_isRequest_114 rfl ?_
    obtain ⟨q0, qx0, h0, hq0, hx0⟩ := h
    refine k_callXd (As := [.int x1, .int x9]) (rest := []) (n2 := (n + 1)) hcx bx (m_X7_at bx.2.2.2 h0) hx0 lk_L_58 cv_L_58 ob_ML rfl rfl rfl rfl (Nat.le_of_ble_eq_true rfl) ⟨Nat.le_of_ble_eq_true rfl, Nat.le_of_ble_eq_true rfl⟩ (by omega) (by omega) dL_isRequest_116 (fun v μ_1 hq => ?_)
    obtain ⟨z2, rfl, h⟩ := hq
    replace h := hq0 _ _ h
    have cx := hcx (n + 1) (by omega)
    refine k_istore cx dL_isRequest_119 (by decide) ?_
    refine k_iload cx dL_isRequest_121 rfl ?_
    refine k_if_lt (tgt := 138) cx dL_isRequest_123 (by decide) (fun hc => ?_) (fun hc => ?_)
    · replace h := h.1 hc
      exact h.elim
    · replace h := h.2 hc
      refine k_iload cx dL_isRequest_126 rfl ?_
      refine k_aload_n cx dL_isRequest_128 rfl rfl ?_
      refine k_iconst (v := (0 : Int32)) cx dL_isRequest_129 (by decide +kernel) ?_
      obtain ⟨hi, h⟩ := h
      refine k_iald cx ar_LC hi dL_isRequest_130 ?_
      refine k_icmp_ge (tgt := 138) cx dL_isRequest_131 (by decide) (fun hc => ?_) (fun hc => ?_)
      · replace h := h.1 hc
        exact h.elim
      · replace h := h.2 hc
        refine k_iconst (v := (1 : Int32)) cx dL_isRequest_134 (by decide +kernel) ?_
        refine k_goto (tgt := 139) cx dL_isRequest_135 (by decide) ?_
        refine k_istore cx dL_isRequest_139 (by decide) ?_
        refine k_iconst (v := (0 : Int32)) cx dL_isRequest_141 (by decide +kernel) ?_
        refine k_istore cx dL_isRequest_142 (by decide) ?_
        exact k_weak h (lsLe.keep (lsLe.keep (lsLe.keep (lsLe.keep (lsLe.keep (lsLe.keep (lsLe.keep (lsLe.keep (lsLe.keep (lsLe.keep (lsLe.keep (lsLe.keep (lsLe.keep (lsLe.keep (lsLe.keep (lsLe.keep (lsLe.keep lsLe.nil)))))))))))))))))
set_option maxHeartbeats 4000000 in
theorem b_L_isRequest_144 {g : GE} {f : FE} {z : ScT} {q : Mm → Prop} (hm : g.2.2.2.2 = []) (hcx : (∀ n, n ≤ 100 → Cx g f cL_isRequest 17 RL 7 114 n (6 * n))) (bx : BXl g z f) (hr : (f_M f).sig.returnType = (some .boolean)) (rx : RXl g f 100 (qTr q)) {x1 : Int32} {x6 : Int32} {x7 : Int32} {x9 : Int32} {x10 : Int32} {x11 : Int32} {n : Nat} {μ : Mm} (h : F_L_isRequest_144 z (KK_L_isRequest_71 g f z) (KK_L_isRequest_100 g f z) (KK_L_isRequest_144 g f z) (KK_L_isRequest_196 g f z) (KK_L_isRequest_293 g f z) (KK_L_isRequest_374 g f z) (KK_L_isRequest_429 g f z) q x1 x6 x7 x9 x10 x11 n μ) : KW g f 17 n (6 * n) 144 [some (.ref p_ML), some (.int x1), some (.ref p_LC), some (.ref p_LL), some (.ref p_LQ), none, some (.int x6), some (.int x7), some (.int (1 : Int32)), some (.int x9), some (.int x10), some (.int x11), none, none, none, none, none] [] μ := by
  unfold F_L_isRequest_144 at h
  obtain ⟨hn, h⟩ := h
  have cx := hcx n (by omega)
  refine k_iload cx dL_isRequest_144 rfl ?_
  refine k_iload cx dL_isRequest_146 rfl ?_
  refine k_icmp_ge (tgt := 181) cx dL_isRequest_148 (by decide) (fun hc => ?_) (fun hc => ?_)
  · replace h := h.1 hc
    refine k_iinc (v := (x9 + (1 : Int32))) cx dL_isRequest_181 rfl rfl (by decide) ?_
    refine k_goto (tgt := 100) cx dL_isRequest_184 (by decide) ?_
    exact k_weak h (lsLe.keep (lsLe.keep (lsLe.keep (lsLe.keep (lsLe.keep (lsLe.keep (lsLe.keep (lsLe.keep (lsLe.keep (lsLe.keep (lsLe.drop (lsLe.drop (lsLe.keep (lsLe.keep (lsLe.keep (lsLe.keep (lsLe.keep lsLe.nil)))))))))))))))))
  · replace h := h.2 hc
    refine k_iload cx dL_isRequest_151 rfl ?_
    refine k_if_eq (tgt := 172) cx dL_isRequest_153 (by decide) (fun hc => absurd hc (by decide)) (fun _ => ?_)
    refine k_aload_n cx dL_isRequest_156 rfl rfl ?_
    refine k_iload_n cx dL_isRequest_157 rfl rfl ?_
    refine k_iload cx dL_isRequest_158 rfl ?_
    obtain ⟨q0, qx0, h0, hq0, hx0⟩ := h
    refine k_callXd (As := [.int x1, .int x11]) (rest := []) (n2 := (n + 1)) hcx bx (m_X7_at bx.2.2.2 h0) hx0 lk_L_58 cv_L_58 ob_ML rfl rfl rfl rfl (Nat.le_of_ble_eq_true rfl) ⟨Nat.le_of_ble_eq_true rfl, Nat.le_of_ble_eq_true rfl⟩ (by omega) (by omega) dL_isRequest_160 (fun v μ_1 hq => ?_)
    obtain ⟨z2, rfl, h⟩ := hq
    replace h := hq0 _ _ h
    have cx := hcx (n + 1) (by omega)
    refine k_iload cx dL_isRequest_163 rfl ?_
    refine k_icmp_eq (tgt := 172) cx dL_isRequest_165 (by decide) (fun hc => ?_) (fun hc => ?_)
    · replace h := h.1 hc
      exact h.elim
    · replace h := h.2 hc
      refine k_iconst (v := (1 : Int32)) cx dL_isRequest_168 (by decide +kernel) ?_
      refine k_goto (tgt := 173) cx dL_isRequest_169 (by decide) ?_
      refine k_istore cx dL_isRequest_173 (by decide) ?_
      refine k_iinc (v := (x11 + (1 : Int32))) cx dL_isRequest_175 rfl rfl (by decide) ?_
      refine k_goto (tgt := 144) cx dL_isRequest_178 (by decide) ?_
      exact k_weak h (lsLe.keep (lsLe.keep (lsLe.keep (lsLe.keep (lsLe.keep (lsLe.keep (lsLe.keep (lsLe.keep (lsLe.keep (lsLe.keep (lsLe.keep (lsLe.keep (lsLe.keep (lsLe.keep (lsLe.keep (lsLe.keep (lsLe.keep lsLe.nil)))))))))))))))))
set_option maxHeartbeats 4000000 in
theorem b_L_isRequest_196 {g : GE} {f : FE} {z : ScT} {q : Mm → Prop} (hm : g.2.2.2.2 = []) (hcx : (∀ n, n ≤ 100 → Cx g f cL_isRequest 17 RL 7 114 n (6 * n))) (bx : BXl g z f) (hr : (f_M f).sig.returnType = (some .boolean)) (rx : RXl g f 100 (qTr q)) {x1 : Int32} {x7 : Int32} {x9 : Int32} {x10 : Int32} {x11 : Int32} {n : Nat} {μ : Mm} (h : F_L_isRequest_196 z (KK_L_isRequest_71 g f z) (KK_L_isRequest_100 g f z) (KK_L_isRequest_144 g f z) (KK_L_isRequest_196 g f z) (KK_L_isRequest_293 g f z) (KK_L_isRequest_374 g f z) (KK_L_isRequest_429 g f z) q x1 x7 x9 x10 x11 n μ) : KW g f 17 n (6 * n) 196 [some (.ref p_ML), some (.int x1), some (.ref p_LC), some (.ref p_LL), some (.ref p_LQ), none, none, some (.int x7), some (.int (1 : Int32)), some (.int x9), some (.int x10), some (.int x11), none, none, none, none, none] [] μ := by
  unfold F_L_isRequest_196 at h
  obtain ⟨hn, h⟩ := h
  have cx := hcx n (by omega)
  refine k_iload cx dL_isRequest_196 rfl ?_
  refine k_iload cx dL_isRequest_198 rfl ?_
  refine k_icmp_ge (tgt := 429) cx dL_isRequest_200 (by decide) (fun hc => ?_) (fun hc => ?_)
  · replace h := h.1 hc
    exact k_weak h (lsLe.keep (lsLe.keep (lsLe.drop (lsLe.drop (lsLe.drop (lsLe.keep (lsLe.keep (lsLe.drop (lsLe.keep (lsLe.keep (lsLe.keep (lsLe.drop (lsLe.keep (lsLe.keep (lsLe.keep (lsLe.keep (lsLe.keep lsLe.nil)))))))))))))))))
  · replace h := h.2 hc
    refine k_iload cx dL_isRequest_203 rfl ?_
    refine k_if_eq (tgt := 429) cx dL_isRequest_205 (by decide) (fun hc => absurd hc (by decide)) (fun _ => ?_)
    refine k_aload_n cx dL_isRequest_208 rfl rfl ?_
    refine k_iload_n cx dL_isRequest_209 rfl rfl ?_
    refine k_aload cx dL_isRequest_210 rfl ?_
    refine k_bipush (v := (9 : Int32)) cx dL_isRequest_212 (by decide +kernel) ?_
    refine k_iload_n cx dL_isRequest_214 rfl rfl ?_
    refine k_imul cx dL_isRequest_215 ?_
    refine k_iconst (v := (3 : Int32)) cx dL_isRequest_216 (by decide +kernel) ?_
    refine k_iload cx dL_isRequest_217 rfl ?_
    refine k_imul cx dL_isRequest_219 ?_
    refine k_iadd cx dL_isRequest_220 ?_
    obtain ⟨hi, h⟩ := h
    refine k_iald cx ar_LQ hi dL_isRequest_221 ?_
    obtain ⟨q0, qx0, h0, hq0, hx0⟩ := h
    refine k_callXd (As := [.int x1, .int (μ p_LQ ((((9 : Int32) * x1) + ((3 : Int32) * x11))).toNatClampNeg)]) (rest := []) (n2 := (n + 1)) hcx bx (m_X7_at bx.2.2.2 h0) hx0 lk_L_58 cv_L_58 ob_ML rfl rfl rfl rfl (Nat.le_of_ble_eq_true rfl) ⟨Nat.le_of_ble_eq_true rfl, Nat.le_of_ble_eq_true rfl⟩ (by omega) (by omega) dL_isRequest_222 (fun v μ_1 hq => ?_)
    obtain ⟨z2, rfl, h⟩ := hq
    replace h := hq0 _ _ h
    have cx := hcx (n + 1) (by omega)
    refine k_istore cx dL_isRequest_225 (by decide) ?_
    refine k_aload_n cx dL_isRequest_227 rfl rfl ?_
    refine k_iload_n cx dL_isRequest_228 rfl rfl ?_
    refine k_aload cx dL_isRequest_229 rfl ?_
    refine k_bipush (v := (9 : Int32)) cx dL_isRequest_231 (by decide +kernel) ?_
    refine k_iload_n cx dL_isRequest_233 rfl rfl ?_
    refine k_imul cx dL_isRequest_234 ?_
    refine k_iconst (v := (3 : Int32)) cx dL_isRequest_235 (by decide +kernel) ?_
    refine k_iload cx dL_isRequest_236 rfl ?_
    refine k_imul cx dL_isRequest_238 ?_
    refine k_iadd cx dL_isRequest_239 ?_
    refine k_iconst (v := (1 : Int32)) cx dL_isRequest_240 (by decide +kernel) ?_
    refine k_iadd cx dL_isRequest_241 ?_
    obtain ⟨hi, h⟩ := h
    refine k_iald cx ar_LQ hi dL_isRequest_242 ?_
    obtain ⟨q0, qx0, h0, hq0, hx0⟩ := h
    refine k_callXd (As := [.int x1, .int (μ_1 p_LQ (((((9 : Int32) * x1) + ((3 : Int32) * x11)) + (1 : Int32))).toNatClampNeg)]) (rest := []) (n2 := (n + 2)) hcx bx (m_X7_at bx.2.2.2 h0) hx0 lk_L_58 cv_L_58 ob_ML rfl rfl rfl rfl (Nat.le_of_ble_eq_true rfl) ⟨Nat.le_of_ble_eq_true rfl, Nat.le_of_ble_eq_true rfl⟩ (by omega) (by omega) dL_isRequest_243 (fun v μ_3 hq => ?_)
    obtain ⟨z4, rfl, h⟩ := hq
    replace h := hq0 _ _ h
    have cx := hcx (n + 2) (by omega)
    refine k_istore cx dL_isRequest_246 (by decide) ?_
    refine k_aload_n cx dL_isRequest_248 rfl rfl ?_
    refine k_iload_n cx dL_isRequest_249 rfl rfl ?_
    refine k_iload cx dL_isRequest_250 rfl ?_
    refine k_iconst (v := (0 : Int32)) cx dL_isRequest_252 (by decide +kernel) ?_
    obtain ⟨q0, qx0, h0, hq0, hx0⟩ := h
    refine k_callXd (As := [.int x1, .int x11, .int (0 : Int32)]) (rest := []) (n2 := (n + 3)) hcx bx (m_X7_way bx.2.2.2 h0) hx0 lk_L_61 cv_L_61 ob_ML rfl rfl rfl rfl (Nat.le_of_ble_eq_true rfl) ⟨Nat.le_of_ble_eq_true rfl, Nat.le_of_ble_eq_true rfl⟩ (by omega) (by omega) dL_isRequest_253 (fun v μ_5 hq => ?_)
    obtain ⟨z6, rfl, h⟩ := hq
    replace h := hq0 _ _ h
    have cx := hcx (n + 3) (by omega)
    refine k_istore cx dL_isRequest_256 (by decide) ?_
    refine k_aload_n cx dL_isRequest_258 rfl rfl ?_
    refine k_iload_n cx dL_isRequest_259 rfl rfl ?_
    refine k_iload cx dL_isRequest_260 rfl ?_
    refine k_iconst (v := (1 : Int32)) cx dL_isRequest_262 (by decide +kernel) ?_
    obtain ⟨q0, qx0, h0, hq0, hx0⟩ := h
    refine k_callXd (As := [.int x1, .int x11, .int (1 : Int32)]) (rest := []) (n2 := (n + 4)) hcx bx (m_X7_way bx.2.2.2 h0) hx0 lk_L_61 cv_L_61 ob_ML rfl rfl rfl rfl (Nat.le_of_ble_eq_true rfl) ⟨Nat.le_of_ble_eq_true rfl, Nat.le_of_ble_eq_true rfl⟩ (by omega) (by omega) dL_isRequest_263 (fun v μ_7 hq => ?_)
    obtain ⟨z8, rfl, h⟩ := hq
    replace h := hq0 _ _ h
    have cx := hcx (n + 4) (by omega)
    refine k_istore cx dL_isRequest_266 (by decide) ?_
    refine k_aload_n cx dL_isRequest_268 rfl rfl ?_
    refine k_iload_n cx dL_isRequest_269 rfl rfl ?_
    refine k_iload cx dL_isRequest_270 rfl ?_
    refine k_iconst (v := (2 : Int32)) cx dL_isRequest_272 (by decide +kernel) ?_
    obtain ⟨q0, qx0, h0, hq0, hx0⟩ := h
    refine k_callXd (As := [.int x1, .int x11, .int (2 : Int32)]) (rest := []) (n2 := (n + 5)) hcx bx (m_X7_way bx.2.2.2 h0) hx0 lk_L_61 cv_L_61 ob_ML rfl rfl rfl rfl (Nat.le_of_ble_eq_true rfl) ⟨Nat.le_of_ble_eq_true rfl, Nat.le_of_ble_eq_true rfl⟩ (by omega) (by omega) dL_isRequest_273 (fun v μ_9 hq => ?_)
    obtain ⟨z10, rfl, h⟩ := hq
    replace h := hq0 _ _ h
    have cx := hcx (n + 5) (by omega)
    refine k_istore cx dL_isRequest_276 (by decide) ?_
    refine k_iload cx dL_isRequest_278 rfl ?_
    refine k_if_ne (tgt := 288) cx dL_isRequest_280 (by decide) (fun hc => ?_) (fun hc => ?_)
    · replace h := h.1 hc
      refine k_iconst (v := (1 : Int32)) cx dL_isRequest_288 (by decide +kernel) ?_
      refine k_goto (tgt := 293) cx dL_isRequest_289 (by decide) ?_
      exact k_weak h (lsLe.keep (lsLe.keep (lsLe.keep (lsLe.keep (lsLe.keep (lsLe.keep (lsLe.keep (lsLe.keep (lsLe.drop (lsLe.keep (lsLe.drop (lsLe.keep (lsLe.keep (lsLe.keep (lsLe.keep (lsLe.keep (lsLe.keep lsLe.nil)))))))))))))))))
    · replace h := h.2 hc
      refine k_iload cx dL_isRequest_283 rfl ?_
      refine k_if_eq (tgt := 292) cx dL_isRequest_285 (by decide) (fun hc => ?_) (fun hc => ?_)
      · replace h := h.1 hc
        refine k_iconst (v := (0 : Int32)) cx dL_isRequest_292 (by decide +kernel) ?_
        exact k_weak h (lsLe.keep (lsLe.keep (lsLe.keep (lsLe.keep (lsLe.keep (lsLe.keep (lsLe.keep (lsLe.keep (lsLe.drop (lsLe.keep (lsLe.drop (lsLe.keep (lsLe.keep (lsLe.keep (lsLe.keep (lsLe.keep (lsLe.keep lsLe.nil)))))))))))))))))
      · replace h := h.2 hc
        refine k_iconst (v := (1 : Int32)) cx dL_isRequest_288 (by decide +kernel) ?_
        refine k_goto (tgt := 293) cx dL_isRequest_289 (by decide) ?_
        exact k_weak h (lsLe.keep (lsLe.keep (lsLe.keep (lsLe.keep (lsLe.keep (lsLe.keep (lsLe.keep (lsLe.keep (lsLe.drop (lsLe.keep (lsLe.drop (lsLe.keep (lsLe.keep (lsLe.keep (lsLe.keep (lsLe.keep (lsLe.keep lsLe.nil)))))))))))))))))
set_option maxHeartbeats 4000000 in
theorem b_L_isRequest_293 {g : GE} {f : FE} {z : ScT} {q : Mm → Prop} (hm : g.2.2.2.2 = []) (hcx : (∀ n, n ≤ 100 → Cx g f cL_isRequest 17 RL 7 114 n (6 * n))) (bx : BXl g z f) (hr : (f_M f).sig.returnType = (some .boolean)) (rx : RXl g f 100 (qTr q)) {x1 : Int32} {x7 : Int32} {x9 : Int32} {x11 : Int32} {x12 : Int32} {x13 : Int32} {x14 : Int32} {x15 : Int32} {x16 : Int32} {y0 : Int32} {n : Nat} {μ : Mm} (h : F_L_isRequest_293 z (KK_L_isRequest_71 g f z) (KK_L_isRequest_100 g f z) (KK_L_isRequest_144 g f z) (KK_L_isRequest_196 g f z) (KK_L_isRequest_293 g f z) (KK_L_isRequest_374 g f z) (KK_L_isRequest_429 g f z) q x1 x7 x9 x11 x12 x13 x14 x15 x16 y0 n μ) : KW g f 17 n (6 * n) 293 [some (.ref p_ML), some (.int x1), some (.ref p_LC), some (.ref p_LL), some (.ref p_LQ), none, none, some (.int x7), none, some (.int x9), none, some (.int x11), some (.int x12), some (.int x13), some (.int x14), some (.int x15), some (.int x16)] [.int y0] μ := by
  unfold F_L_isRequest_293 at h
  obtain ⟨hn, h⟩ := h
  have cx := hcx n (by omega)
  refine k_istore cx dL_isRequest_293 (by decide) ?_
  refine k_iload cx dL_isRequest_295 rfl ?_
  refine k_aload cx dL_isRequest_297 rfl ?_
  refine k_bipush (v := (9 : Int32)) cx dL_isRequest_299 (by decide +kernel) ?_
  refine k_iload_n cx dL_isRequest_301 rfl rfl ?_
  refine k_imul cx dL_isRequest_302 ?_
  refine k_iconst (v := (3 : Int32)) cx dL_isRequest_303 (by decide +kernel) ?_
  refine k_iload cx dL_isRequest_304 rfl ?_
  refine k_imul cx dL_isRequest_306 ?_
  refine k_iadd cx dL_isRequest_307 ?_
  refine k_iconst (v := (2 : Int32)) cx dL_isRequest_308 (by decide +kernel) ?_
  refine k_iadd cx dL_isRequest_309 ?_
  obtain ⟨hi, h⟩ := h
  refine k_iald cx ar_LQ hi dL_isRequest_310 ?_
  refine k_iload cx dL_isRequest_311 rfl ?_
  refine k_callB (As := [.int x14]) (rest := [.int (μ p_LQ (((((9 : Int32) * x1) + ((3 : Int32) * x11)) + (2 : Int32))).toNatClampNeg), .int x9]) (n2 := n) hcx bx (m_L_bits bx.2.2.2 h) cv_L_55 rfl rfl (Nat.le_of_ble_eq_true rfl) ⟨Nat.le_of_ble_eq_true rfl, Nat.le_of_ble_eq_true rfl⟩ (by omega) (by omega) dL_isRequest_313 (fun v μ_1 hq => ?_)
  obtain ⟨z2, rfl, h⟩ := hq
  have cx := hcx n (by omega)
  refine k_imul cx dL_isRequest_316 ?_
  refine k_iadd cx dL_isRequest_317 ?_
  refine k_istore cx dL_isRequest_318 (by decide) ?_
  generalize ev9_3 : (x9 + ((μ p_LQ (((((9 : Int32) * x1) + ((3 : Int32) * x11)) + (2 : Int32))).toNatClampNeg) * z2)) = v9_3
  replace h := h v9_3 ev9_3.symm
  refine k_aload_n cx dL_isRequest_320 rfl rfl ?_
  refine k_aload_n cx dL_isRequest_321 rfl rfl ?_
  refine k_iconst (v := (1 : Int32)) cx dL_isRequest_322 (by decide +kernel) ?_
  obtain ⟨hi, h⟩ := h
  refine k_iald cx ar_LC hi dL_isRequest_323 ?_
  refine k_iload cx dL_isRequest_324 rfl ?_
  refine k_iload cx dL_isRequest_326 rfl ?_
  refine k_iload cx dL_isRequest_328 rfl ?_
  refine k_callB (As := [.ref p_LL, .int (μ_1 p_LC ((1 : Int32)).toNatClampNeg), .int x14, .int x12, .int x13]) (rest := []) (n2 := (n + 1)) hcx bx (m_L_isWay bx.2.2.2 hm h) cv_L_64 rfl rfl (Nat.le_of_ble_eq_true rfl) ⟨Nat.le_of_ble_eq_true rfl, Nat.le_of_ble_eq_true rfl⟩ (by omega) (by omega) dL_isRequest_330 (fun v μ_4 hq => ?_)
  obtain ⟨rfl, h⟩ := hq
  have cx := hcx (n + 1) (by omega)
  refine k_if_eq (tgt := 420) cx dL_isRequest_333 (by decide) (fun hc => absurd hc (by decide)) (fun _ => ?_)
  refine k_iload cx dL_isRequest_336 rfl ?_
  refine k_if_eq (tgt := 374) cx dL_isRequest_338 (by decide) (fun hc => ?_) (fun hc => ?_)
  · replace h := h.1 hc
    exact k_weak h (lsLe.keep (lsLe.keep (lsLe.keep (lsLe.keep (lsLe.keep (lsLe.keep (lsLe.keep (lsLe.keep (lsLe.keep (lsLe.keep (lsLe.keep (lsLe.keep (lsLe.keep (lsLe.keep (lsLe.keep (lsLe.drop (lsLe.keep lsLe.nil)))))))))))))))))
  · replace h := h.2 hc
    refine k_aload_n cx dL_isRequest_341 rfl rfl ?_
    refine k_iload_n cx dL_isRequest_342 rfl rfl ?_
    refine k_iconst (v := (1 : Int32)) cx dL_isRequest_343 (by decide +kernel) ?_
    obtain ⟨q0, qx0, h0, hq0, hx0⟩ := h
    refine k_callXd (As := [.int x1, .int (1 : Int32)]) (rest := []) (n2 := (n + 2)) hcx bx (m_X7_told bx.2.2.2 h0) hx0 lk_L_43 cv_L_43 ob_ML rfl rfl rfl rfl (Nat.le_of_ble_eq_true rfl) ⟨Nat.le_of_ble_eq_true rfl, Nat.le_of_ble_eq_true rfl⟩ (by omega) (by omega) dL_isRequest_344 (fun v μ_5 hq => ?_)
    obtain ⟨z6, rfl, h⟩ := hq
    replace h := hq0 _ _ h
    have cx := hcx (n + 2) (by omega)
    refine k_iconst (v := (1 : Int32)) cx dL_isRequest_347 (by decide +kernel) ?_
    refine k_icmp_ne (tgt := 420) cx dL_isRequest_348 (by decide) (fun hc => ?_) (fun hc => ?_)
    · replace h := h.1 hc
      exact h.elim
    · replace h := h.2 hc
      refine k_iload cx dL_isRequest_351 rfl ?_
      refine k_iload cx dL_isRequest_353 rfl ?_
      refine k_icmp_eq (tgt := 420) cx dL_isRequest_355 (by decide) (fun hc => ?_) (fun hc => ?_)
      · replace h := h.1 hc
        exact h.elim
      · replace h := h.2 hc
        refine k_aload_n cx dL_isRequest_358 rfl rfl ?_
        refine k_aload_n cx dL_isRequest_359 rfl rfl ?_
        refine k_iconst (v := (1 : Int32)) cx dL_isRequest_360 (by decide +kernel) ?_
        obtain ⟨hi, h⟩ := h
        refine k_iald cx ar_LC hi dL_isRequest_361 ?_
        refine k_iload cx dL_isRequest_362 rfl ?_
        refine k_iload cx dL_isRequest_364 rfl ?_
        refine k_iload cx dL_isRequest_366 rfl ?_
        refine k_callB (As := [.ref p_LL, .int (μ_5 p_LC ((1 : Int32)).toNatClampNeg), .int x15, .int x12, .int x13]) (rest := []) (n2 := (n + 3)) hcx bx (m_L_isWay bx.2.2.2 hm h) cv_L_64 rfl rfl (Nat.le_of_ble_eq_true rfl) ⟨Nat.le_of_ble_eq_true rfl, Nat.le_of_ble_eq_true rfl⟩ (by omega) (by omega) dL_isRequest_368 (fun v μ_7 hq => ?_)
        obtain ⟨rfl, h⟩ := hq
        have cx := hcx (n + 3) (by omega)
        refine k_if_eq (tgt := 420) cx dL_isRequest_371 (by decide) (fun hc => absurd hc (by decide)) (fun _ => ?_)
        exact k_weak h (lsLe.keep (lsLe.keep (lsLe.keep (lsLe.keep (lsLe.keep (lsLe.keep (lsLe.keep (lsLe.keep (lsLe.keep (lsLe.keep (lsLe.keep (lsLe.keep (lsLe.keep (lsLe.keep (lsLe.keep (lsLe.drop (lsLe.keep lsLe.nil)))))))))))))))))
set_option maxHeartbeats 4000000 in
theorem b_L_isRequest_374 {g : GE} {f : FE} {z : ScT} {q : Mm → Prop} (hm : g.2.2.2.2 = []) (hcx : (∀ n, n ≤ 100 → Cx g f cL_isRequest 17 RL 7 114 n (6 * n))) (bx : BXl g z f) (hr : (f_M f).sig.returnType = (some .boolean)) (rx : RXl g f 100 (qTr q)) {x1 : Int32} {x7 : Int32} {x9 : Int32} {x10 : Int32} {x11 : Int32} {x12 : Int32} {x13 : Int32} {x14 : Int32} {x16 : Int32} {n : Nat} {μ : Mm} (h : F_L_isRequest_374 z (KK_L_isRequest_71 g f z) (KK_L_isRequest_100 g f z) (KK_L_isRequest_144 g f z) (KK_L_isRequest_196 g f z) (KK_L_isRequest_293 g f z) (KK_L_isRequest_374 g f z) (KK_L_isRequest_429 g f z) q x1 x7 x9 x10 x11 x12 x13 x14 x16 n μ) : KW g f 17 n (6 * n) 374 [some (.ref p_ML), some (.int x1), some (.ref p_LC), some (.ref p_LL), some (.ref p_LQ), none, none, some (.int x7), none, some (.int x9), some (.int x10), some (.int x11), some (.int x12), some (.int x13), some (.int x14), none, some (.int x16)] [] μ := by
  unfold F_L_isRequest_374 at h
  obtain ⟨hn, h⟩ := h
  have cx := hcx n (by omega)
  refine k_aload_n cx dL_isRequest_374 rfl rfl ?_
  refine k_iload_n cx dL_isRequest_375 rfl rfl ?_
  refine k_iconst (v := (1 : Int32)) cx dL_isRequest_376 (by decide +kernel) ?_
  obtain ⟨q0, qx0, h0, hq0, hx0⟩ := h
  refine k_callXd (As := [.int x1, .int (1 : Int32)]) (rest := []) (n2 := (n + 1)) hcx bx (m_X7_told bx.2.2.2 h0) hx0 lk_L_43 cv_L_43 ob_ML rfl rfl rfl rfl (Nat.le_of_ble_eq_true rfl) ⟨Nat.le_of_ble_eq_true rfl, Nat.le_of_ble_eq_true rfl⟩ (by omega) (by omega) dL_isRequest_377 (fun v μ_1 hq => ?_)
  obtain ⟨z2, rfl, h⟩ := hq
  replace h := hq0 _ _ h
  have cx := hcx (n + 1) (by omega)
  refine k_iconst (v := (2 : Int32)) cx dL_isRequest_380 (by decide +kernel) ?_
  refine k_icmp_ne (tgt := 411) cx dL_isRequest_381 (by decide) (fun hc => ?_) (fun hc => ?_)
  · replace h := h.1 hc
    refine k_iload cx dL_isRequest_411 rfl ?_
    refine k_if_ne (tgt := 420) cx dL_isRequest_413 (by decide) (fun hc => ?_) (fun hc => ?_)
    · replace h := h.1 hc
      exact h.elim
    · replace h := h.2 hc
      refine k_iconst (v := (1 : Int32)) cx dL_isRequest_416 (by decide +kernel) ?_
      refine k_goto (tgt := 421) cx dL_isRequest_417 (by decide) ?_
      refine k_istore cx dL_isRequest_421 (by decide) ?_
      refine k_iinc (v := (x11 + (1 : Int32))) cx dL_isRequest_423 rfl rfl (by decide) ?_
      refine k_goto (tgt := 196) cx dL_isRequest_426 (by decide) ?_
      exact k_weak h (lsLe.keep (lsLe.keep (lsLe.keep (lsLe.keep (lsLe.keep (lsLe.keep (lsLe.keep (lsLe.keep (lsLe.keep (lsLe.keep (lsLe.keep (lsLe.keep (lsLe.drop (lsLe.drop (lsLe.drop (lsLe.keep (lsLe.drop lsLe.nil)))))))))))))))))
  · replace h := h.2 hc
    refine k_iload cx dL_isRequest_384 rfl ?_
    refine k_iload cx dL_isRequest_386 rfl ?_
    refine k_iand cx dL_isRequest_388 ?_
    refine k_if_ne (tgt := 420) cx dL_isRequest_389 (by decide) (fun hc => ?_) (fun hc => ?_)
    · replace h := h.1 hc
      exact h.elim
    · replace h := h.2 hc
      refine k_aload_n cx dL_isRequest_392 rfl rfl ?_
      refine k_aload_n cx dL_isRequest_393 rfl rfl ?_
      refine k_iconst (v := (1 : Int32)) cx dL_isRequest_394 (by decide +kernel) ?_
      obtain ⟨hi, h⟩ := h
      refine k_iald cx ar_LC hi dL_isRequest_395 ?_
      refine k_iload cx dL_isRequest_396 rfl ?_
      refine k_iload cx dL_isRequest_398 rfl ?_
      refine k_iload cx dL_isRequest_400 rfl ?_
      refine k_callB (As := [.ref p_LL, .int (μ_1 p_LC ((1 : Int32)).toNatClampNeg), .int x16, .int x12, .int x13]) (rest := []) (n2 := (n + 2)) hcx bx (m_L_isWay bx.2.2.2 hm h) cv_L_64 rfl rfl (Nat.le_of_ble_eq_true rfl) ⟨Nat.le_of_ble_eq_true rfl, Nat.le_of_ble_eq_true rfl⟩ (by omega) (by omega) dL_isRequest_402 (fun v μ_3 hq => ?_)
      obtain ⟨rfl, h⟩ := hq
      have cx := hcx (n + 2) (by omega)
      refine k_if_eq (tgt := 420) cx dL_isRequest_405 (by decide) (fun hc => absurd hc (by decide)) (fun _ => ?_)
      refine k_goto (tgt := 416) cx dL_isRequest_408 (by decide) ?_
      refine k_iconst (v := (1 : Int32)) cx dL_isRequest_416 (by decide +kernel) ?_
      refine k_goto (tgt := 421) cx dL_isRequest_417 (by decide) ?_
      refine k_istore cx dL_isRequest_421 (by decide) ?_
      refine k_iinc (v := (x11 + (1 : Int32))) cx dL_isRequest_423 rfl rfl (by decide) ?_
      refine k_goto (tgt := 196) cx dL_isRequest_426 (by decide) ?_
      exact k_weak h (lsLe.keep (lsLe.keep (lsLe.keep (lsLe.keep (lsLe.keep (lsLe.keep (lsLe.keep (lsLe.keep (lsLe.keep (lsLe.keep (lsLe.keep (lsLe.keep (lsLe.drop (lsLe.drop (lsLe.drop (lsLe.keep (lsLe.drop lsLe.nil)))))))))))))))))
set_option maxHeartbeats 4000000 in
theorem b_L_isRequest_429 {g : GE} {f : FE} {z : ScT} {q : Mm → Prop} (hm : g.2.2.2.2 = []) (hcx : (∀ n, n ≤ 100 → Cx g f cL_isRequest 17 RL 7 114 n (6 * n))) (bx : BXl g z f) (hr : (f_M f).sig.returnType = (some .boolean)) (rx : RXl g f 100 (qTr q)) {x1 : Int32} {x9 : Int32} {x10 : Int32} {n : Nat} {μ : Mm} (h : F_L_isRequest_429 z (KK_L_isRequest_71 g f z) (KK_L_isRequest_100 g f z) (KK_L_isRequest_144 g f z) (KK_L_isRequest_196 g f z) (KK_L_isRequest_293 g f z) (KK_L_isRequest_374 g f z) (KK_L_isRequest_429 g f z) q x1 x9 x10 n μ) : KW g f 17 n (6 * n) 429 [some (.ref p_ML), some (.int x1), none, none, none, none, none, none, some (.int (1 : Int32)), some (.int x9), some (.int x10), none, none, none, none, none, none] [] μ := by
  unfold F_L_isRequest_429 at h
  obtain ⟨hn, h⟩ := h
  have cx := hcx n (by omega)
  refine k_iload cx dL_isRequest_429 rfl ?_
  refine k_if_eq (tgt := 455) cx dL_isRequest_431 (by decide) (fun hc => absurd hc (by decide)) (fun _ => ?_)
  refine k_iload cx dL_isRequest_434 rfl ?_
  refine k_if_ne (tgt := 451) cx dL_isRequest_436 (by decide) (fun hc => ?_) (fun hc => ?_)
  · replace h := h.1 hc
    refine k_iconst (v := (1 : Int32)) cx dL_isRequest_451 (by decide +kernel) ?_
    refine k_goto (tgt := 456) cx dL_isRequest_452 (by decide) ?_
    exact k_bret_T cx hr rx (by omega) dL_isRequest_456 h
  · replace h := h.2 hc
    refine k_aload_n cx dL_isRequest_439 rfl rfl ?_
    refine k_iload_n cx dL_isRequest_440 rfl rfl ?_
    refine k_bipush (v := (7 : Int32)) cx dL_isRequest_441 (by decide +kernel) ?_
    obtain ⟨q0, qx0, h0, hq0, hx0⟩ := h
    refine k_callXd (As := [.int x1, .int (7 : Int32)]) (rest := []) (n2 := (n + 1)) hcx bx (m_X7_told bx.2.2.2 h0) hx0 lk_L_43 cv_L_43 ob_ML rfl rfl rfl rfl (Nat.le_of_ble_eq_true rfl) ⟨Nat.le_of_ble_eq_true rfl, Nat.le_of_ble_eq_true rfl⟩ (by omega) (by omega) dL_isRequest_443 (fun v μ_1 hq => ?_)
    obtain ⟨z2, rfl, h⟩ := hq
    replace h := hq0 _ _ h
    have cx := hcx (n + 1) (by omega)
    refine k_iload cx dL_isRequest_446 rfl ?_
    refine k_icmp_ne (tgt := 455) cx dL_isRequest_448 (by decide) (fun hc => ?_) (fun hc => ?_)
    · replace h := h.1 hc
      exact h.elim
    · replace h := h.2 hc
      refine k_iconst (v := (1 : Int32)) cx dL_isRequest_451 (by decide +kernel) ?_
      refine k_goto (tgt := 456) cx dL_isRequest_452 (by decide) ?_
      exact k_bret_T cx hr rx (by omega) dL_isRequest_456 h
set_option maxHeartbeats 4000000 in
theorem b_L_isRequest_e {g : GE} {f : FE} {z : ScT} {q : Mm → Prop} (hm : g.2.2.2.2 = []) (hcx : (∀ n, n ≤ 100 → Cx g f cL_isRequest 17 RL 7 114 n (6 * n))) (bx : BXl g z f) (hr : (f_M f).sig.returnType = (some .boolean)) (rx : RXl g f 100 (qTr q)) {x1 : Int32} {μ : Mm} (h : F_L_isRequest_e z (KK_L_isRequest_71 g f z) (KK_L_isRequest_100 g f z) (KK_L_isRequest_144 g f z) (KK_L_isRequest_196 g f z) (KK_L_isRequest_293 g f z) (KK_L_isRequest_374 g f z) (KK_L_isRequest_429 g f z) q x1 μ) : KW g f 17 0 (6 * 0) 0 [some (.ref p_ML), some (.int x1), some (.ref p_LC), some (.ref p_LL), some (.ref p_LQ), some (.ref p_LT), none, none, none, none, none, none, none, none, none, none, none] [] μ := by
  unfold F_L_isRequest_e at h
  have cx := hcx 0 (by omega)
  refine k_aload_n cx dL_isRequest_0 rfl rfl ?_
  refine k_iload_n cx dL_isRequest_1 rfl rfl ?_
  refine k_iconst (v := (3 : Int32)) cx dL_isRequest_2 (by decide +kernel) ?_
  obtain ⟨q0, qx0, h0, hq0, hx0⟩ := h
  refine k_callXd (As := [.int x1, .int (3 : Int32)]) (rest := []) (n2 := 1) hcx bx (m_X7_told bx.2.2.2 h0) hx0 lk_L_43 cv_L_43 ob_ML rfl rfl rfl rfl (Nat.le_of_ble_eq_true rfl) ⟨Nat.le_of_ble_eq_true rfl, Nat.le_of_ble_eq_true rfl⟩ (by omega) (by omega) dL_isRequest_3 (fun v μ_1 hq => ?_)
  obtain ⟨z2, rfl, h⟩ := hq
  replace h := hq0 _ _ h
  have cx := hcx 1 (by omega)
  refine k_istore cx dL_isRequest_6 (by decide) ?_
  refine k_aload_n cx dL_isRequest_8 rfl rfl ?_
  refine k_iload_n cx dL_isRequest_9 rfl rfl ?_
  refine k_iconst (v := (4 : Int32)) cx dL_isRequest_10 (by decide +kernel) ?_
  obtain ⟨q0, qx0, h0, hq0, hx0⟩ := h
  refine k_callXd (As := [.int x1, .int (4 : Int32)]) (rest := []) (n2 := 2) hcx bx (m_X7_told bx.2.2.2 h0) hx0 lk_L_43 cv_L_43 ob_ML rfl rfl rfl rfl (Nat.le_of_ble_eq_true rfl) ⟨Nat.le_of_ble_eq_true rfl, Nat.le_of_ble_eq_true rfl⟩ (by omega) (by omega) dL_isRequest_11 (fun v μ_3 hq => ?_)
  obtain ⟨z4, rfl, h⟩ := hq
  replace h := hq0 _ _ h
  have cx := hcx 2 (by omega)
  refine k_istore cx dL_isRequest_14 (by decide) ?_
  refine k_iload cx dL_isRequest_16 rfl ?_
  refine k_if_le (tgt := 94) cx dL_isRequest_18 (by decide) (fun hc => ?_) (fun hc => ?_)
  · replace h := h.1 hc
    exact h.elim
  · replace h := h.2 hc
    refine k_iload cx dL_isRequest_21 rfl ?_
    refine k_iconst (v := (4 : Int32)) cx dL_isRequest_23 (by decide +kernel) ?_
    refine k_icmp_ge (tgt := 94) cx dL_isRequest_24 (by decide) (fun hc => ?_) (fun hc => ?_)
    · replace h := h.1 hc
      exact h.elim
    · replace h := h.2 hc
      refine k_iload cx dL_isRequest_27 rfl ?_
      refine k_if_lt (tgt := 94) cx dL_isRequest_29 (by decide) (fun hc => ?_) (fun hc => ?_)
      · replace h := h.1 hc
        exact h.elim
      · replace h := h.2 hc
        refine k_iload cx dL_isRequest_32 rfl ?_
        refine k_iconst (v := (4 : Int32)) cx dL_isRequest_34 (by decide +kernel) ?_
        refine k_icmp_ge (tgt := 94) cx dL_isRequest_35 (by decide) (fun hc => ?_) (fun hc => ?_)
        · replace h := h.1 hc
          exact h.elim
        · replace h := h.2 hc
          refine k_aload_n cx dL_isRequest_38 rfl rfl ?_
          refine k_iload_n cx dL_isRequest_39 rfl rfl ?_
          refine k_iconst (v := (2 : Int32)) cx dL_isRequest_40 (by decide +kernel) ?_
          obtain ⟨q0, qx0, h0, hq0, hx0⟩ := h
          refine k_callXd (As := [.int x1, .int (2 : Int32)]) (rest := []) (n2 := 3) hcx bx (m_X7_told bx.2.2.2 h0) hx0 lk_L_43 cv_L_43 ob_ML rfl rfl rfl rfl (Nat.le_of_ble_eq_true rfl) ⟨Nat.le_of_ble_eq_true rfl, Nat.le_of_ble_eq_true rfl⟩ (by omega) (by omega) dL_isRequest_41 (fun v μ_5 hq => ?_)
          obtain ⟨z6, rfl, h⟩ := hq
          replace h := hq0 _ _ h
          have cx := hcx 3 (by omega)
          refine k_aload cx dL_isRequest_44 rfl ?_
          refine k_iload_n cx dL_isRequest_46 rfl rfl ?_
          obtain ⟨hi, h⟩ := h
          refine k_iald cx ar_LT hi dL_isRequest_47 ?_
          refine k_icmp_ne (tgt := 94) cx dL_isRequest_48 (by decide) (fun hc => ?_) (fun hc => ?_)
          · replace h := h.1 hc
            exact h.elim
          · replace h := h.2 hc
            refine k_aload_n cx dL_isRequest_51 rfl rfl ?_
            refine k_iload_n cx dL_isRequest_52 rfl rfl ?_
            refine k_iconst (v := (0 : Int32)) cx dL_isRequest_53 (by decide +kernel) ?_
            obtain ⟨q0, qx0, h0, hq0, hx0⟩ := h
            refine k_callXd (As := [.int x1, .int (0 : Int32)]) (rest := []) (n2 := 4) hcx bx (m_X7_told bx.2.2.2 h0) hx0 lk_L_43 cv_L_43 ob_ML rfl rfl rfl rfl (Nat.le_of_ble_eq_true rfl) ⟨Nat.le_of_ble_eq_true rfl, Nat.le_of_ble_eq_true rfl⟩ (by omega) (by omega) dL_isRequest_54 (fun v μ_7 hq => ?_)
            obtain ⟨z8, rfl, h⟩ := hq
            replace h := hq0 _ _ h
            have cx := hcx 4 (by omega)
            refine k_iconst (v := (1 : Int32)) cx dL_isRequest_57 (by decide +kernel) ?_
            refine k_icmp_eq (tgt := 71) cx dL_isRequest_58 (by decide) (fun hc => ?_) (fun hc => ?_)
            · replace h := h.1 hc
              exact k_weak h (lsLe.keep (lsLe.keep (lsLe.keep (lsLe.keep (lsLe.keep (lsLe.drop (lsLe.keep (lsLe.keep (lsLe.keep (lsLe.keep (lsLe.keep (lsLe.keep (lsLe.keep (lsLe.keep (lsLe.keep (lsLe.keep (lsLe.keep lsLe.nil)))))))))))))))))
            · replace h := h.2 hc
              refine k_aload cx dL_isRequest_61 rfl ?_
              refine k_iload_n cx dL_isRequest_63 rfl rfl ?_
              obtain ⟨hi, h⟩ := h
              refine k_iald cx ar_LT hi dL_isRequest_64 ?_
              refine k_aload_n cx dL_isRequest_65 rfl rfl ?_
              refine k_iconst (v := (3 : Int32)) cx dL_isRequest_66 (by decide +kernel) ?_
              obtain ⟨hi, h⟩ := h
              refine k_iald cx ar_LC hi dL_isRequest_67 ?_
              refine k_icmp_le (tgt := 94) cx dL_isRequest_68 (by decide) (fun hc => ?_) (fun hc => ?_)
              · replace h := h.1 hc
                exact h.elim
              · replace h := h.2 hc
                exact k_weak h (lsLe.keep (lsLe.keep (lsLe.keep (lsLe.keep (lsLe.keep (lsLe.drop (lsLe.keep (lsLe.keep (lsLe.keep (lsLe.keep (lsLe.keep (lsLe.keep (lsLe.keep (lsLe.keep (lsLe.keep (lsLe.keep (lsLe.keep lsLe.nil)))))))))))))))))
theorem m_L_isRequest {g : GE} {z : ScT} {l : Launch} (hst : l.stackTraces = false) (hm : g.2.2.2.2 = []) {μ : Mm} {q : Mm → Prop} {x1 : Int32} (h : Wp_L_isRequest z x1 μ q) : MBl g z l yL_isRequest cL_isRequest 17 (some .boolean) 7 114 100 [.ref p_ML, .int x1, .ref p_LC, .ref p_LL, .ref p_LQ, .ref p_LT] μ (qTr q) := by
  refine bmet_of hst (by decide) (Nat.le_of_ble_eq_true rfl) (by intro v hv; simp only [List.mem_cons, List.not_mem_nil, or_false] at hv; rcases hv with rfl | rfl | rfl | rfl | rfl | rfl <;> rfl) ?_
  intro f hfl hcx bx hr rx
  exact b_L_isRequest_e hm hcx bx hr rx (h (KK_L_isRequest_71 g f z) (KK_L_isRequest_100 g f z) (KK_L_isRequest_144 g f z) (KK_L_isRequest_196 g f z) (KK_L_isRequest_293 g f z) (KK_L_isRequest_374 g f z) (KK_L_isRequest_429 g f z) (fun _ _ _ _ _ h => b_L_isRequest_71 hm hcx bx hr rx h) (fun _ _ _ _ _ _ h => b_L_isRequest_100 hm hcx bx hr rx h) (fun _ _ _ _ _ _ _ _ h => b_L_isRequest_144 hm hcx bx hr rx h) (fun _ _ _ _ _ _ _ h => b_L_isRequest_196 hm hcx bx hr rx h) (fun _ _ _ _ _ _ _ _ _ _ _ _ h => b_L_isRequest_293 hm hcx bx hr rx h) (fun _ _ _ _ _ _ _ _ _ _ _ h => b_L_isRequest_374 hm hcx bx hr rx h) (fun _ _ _ _ _ h => b_L_isRequest_429 hm hcx bx hr rx h))
