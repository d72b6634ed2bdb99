theorem dL_areRooms_0 : decode cL_areRooms 0 = .ok (.iconst 1, 1) := by decide +kernel
theorem dL_areRooms_1 : decode cL_areRooms 1 = .ok (.istore 5, 2) := by decide +kernel
theorem dL_areRooms_3 : decode cL_areRooms 3 = .ok (.iconst 0, 1) := by decide +kernel
theorem dL_areRooms_4 : decode cL_areRooms 4 = .ok (.istore 6, 2) := by decide +kernel
theorem dL_areRooms_6 : decode cL_areRooms 6 = .ok (.iload 6, 2) := by decide +kernel
theorem dL_areRooms_8 : decode cL_areRooms 8 = .ok (.aload_n 1, 1) := by decide +kernel
theorem dL_areRooms_9 : decode cL_areRooms 9 = .ok (.iconst 0, 1) := by decide +kernel
theorem dL_areRooms_10 : decode cL_areRooms 10 = .ok (.iaload, 1) := by decide +kernel
theorem dL_areRooms_11 : decode cL_areRooms 11 = .ok (.if_icmp .ge 168, 3) := by decide +kernel
theorem dL_areRooms_14 : decode cL_areRooms 14 = .ok (.iload 5, 2) := by decide +kernel
theorem dL_areRooms_16 : decode cL_areRooms 16 = .ok (.ifCond .eq 163, 3) := by decide +kernel
theorem dL_areRooms_19 : decode cL_areRooms 19 = .ok (.iconst 0, 1) := by decide +kernel
theorem dL_areRooms_20 : decode cL_areRooms 20 = .ok (.istore 7, 2) := by decide +kernel
theorem dL_areRooms_22 : decode cL_areRooms 22 = .ok (.iconst 0, 1) := by decide +kernel
theorem dL_areRooms_23 : decode cL_areRooms 23 = .ok (.istore 8, 2) := by decide +kernel
theorem dL_areRooms_25 : decode cL_areRooms 25 = .ok (.iconst 0, 1) := by decide +kernel
theorem dL_areRooms_26 : decode cL_areRooms 26 = .ok (.istore 9, 2) := by decide +kernel
theorem dL_areRooms_28 : decode cL_areRooms 28 = .ok (.iload 9, 2) := by decide +kernel
theorem dL_areRooms_30 : decode cL_areRooms 30 = .ok (.aload_n 1, 1) := by decide +kernel
theorem dL_areRooms_31 : decode cL_areRooms 31 = .ok (.iconst 2, 1) := by decide +kernel
theorem dL_areRooms_32 : decode cL_areRooms 32 = .ok (.iaload, 1) := by decide +kernel
theorem dL_areRooms_33 : decode cL_areRooms 33 = .ok (.if_icmp .ge 95, 3) := by decide +kernel
theorem dL_areRooms_36 : decode cL_areRooms 36 = .ok (.iconst 0, 1) := by decide +kernel
theorem dL_areRooms_37 : decode cL_areRooms 37 = .ok (.istore 10, 2) := by decide +kernel
theorem dL_areRooms_39 : decode cL_areRooms 39 = .ok (.iload 10, 2) := by decide +kernel
theorem dL_areRooms_41 : decode cL_areRooms 41 = .ok (.aload_n 0, 1) := by decide +kernel
theorem dL_areRooms_42 : decode cL_areRooms 42 = .ok (.iload 9, 2) := by decide +kernel
theorem dL_areRooms_44 : decode cL_areRooms 44 = .ok (.iconst 3, 1) := by decide +kernel
theorem dL_areRooms_45 : decode cL_areRooms 45 = .ok (.invokevirtual 43, 3) := by decide +kernel
theorem dL_areRooms_48 : decode cL_areRooms 48 = .ok (.if_icmp .ge 74, 3) := by decide +kernel
theorem dL_areRooms_51 : decode cL_areRooms 51 = .ok (.aload_n 0, 1) := by decide +kernel
theorem dL_areRooms_52 : decode cL_areRooms 52 = .ok (.iload 9, 2) := by decide +kernel
theorem dL_areRooms_54 : decode cL_areRooms 54 = .ok (.iconst 0, 1) := by decide +kernel
theorem dL_areRooms_55 : decode cL_areRooms 55 = .ok (.invokevirtual 43, 3) := by decide +kernel
theorem dL_areRooms_58 : decode cL_areRooms 58 = .ok (.ifCond .ne 64, 3) := by decide +kernel
theorem dL_areRooms_61 : decode cL_areRooms 61 = .ok (.iload 7, 2) := by decide +kernel
theorem dL_areRooms_63 : decode cL_areRooms 63 = .ok (.aload_n 0, 1) := by decide +kernel
theorem dL_areRooms_64 : decode cL_areRooms 64 = .ok (.iload 9, 2) := by decide +kernel
theorem dL_areRooms_66 : decode cL_areRooms 66 = .ok (.iload 10, 2) := by decide +kernel
theorem dL_areRooms_68 : decode cL_areRooms 68 = .ok (.invokevirtual 58, 3) := by decide +kernel
theorem dL_areRooms_71 : decode cL_areRooms 71 = .ok (.iload 6, 2) := by decide +kernel
theorem dL_areRooms_73 : decode cL_areRooms 73 = .ok (.if_icmp .ne 16, 3) := by decide +kernel
theorem dL_areRooms_76 : decode cL_areRooms 76 = .ok (.aload 4, 2) := by decide +kernel
theorem dL_areRooms_78 : decode cL_areRooms 78 = .ok (.iconst 3, 1) := by decide +kernel
theorem dL_areRooms_79 : decode cL_areRooms 79 = .ok (.iload 9, 2) := by decide +kernel
theorem dL_areRooms_81 : decode cL_areRooms 81 = .ok (.imul, 1) := by decide +kernel
theorem dL_areRooms_82 : decode cL_areRooms 82 = .ok (.iload 10, 2) := by decide +kernel
theorem dL_areRooms_84 : decode cL_areRooms 84 = .ok (.iadd, 1) := by decide +kernel
theorem dL_areRooms_85 : decode cL_areRooms 85 = .ok (.iaload, 1) := by decide +kernel
theorem dL_areRooms_86 : decode cL_areRooms 86 = .ok (.goto 4, 3) := by decide +kernel
theorem dL_areRooms_89 : decode cL_areRooms 89 = .ok (.iconst 0, 1) := by decide +kernel
theorem dL_areRooms_90 : decode cL_areRooms 90 = .ok (.iadd, 1) := by decide +kernel
theorem dL_areRooms_91 : decode cL_areRooms 91 = .ok (.istore 7, 2) := by decide +kernel
theorem dL_areRooms_93 : decode cL_areRooms 93 = .ok (.iload 8, 2) := by decide +kernel
theorem dL_areRooms_95 : decode cL_areRooms 95 = .ok (.aload_n 0, 1) := by decide +kernel
theorem dL_areRooms_96 : decode cL_areRooms 96 = .ok (.iload 9, 2) := by decide +kernel
theorem dL_areRooms_98 : decode cL_areRooms 98 = .ok (.iload 10, 2) := by decide +kernel
theorem dL_areRooms_100 : decode cL_areRooms 100 = .ok (.invokevirtual 58, 3) := by decide +kernel
theorem dL_areRooms_103 : decode cL_areRooms 103 = .ok (.iload 6, 2) := by decide +kernel
theorem dL_areRooms_105 : decode cL_areRooms 105 = .ok (.if_icmp .ne 7, 3) := by decide +kernel
theorem dL_areRooms_108 : decode cL_areRooms 108 = .ok (.iconst 1, 1) := by decide +kernel
theorem dL_areRooms_109 : decode cL_areRooms 109 = .ok (.goto 4, 3) := by decide +kernel
theorem dL_areRooms_112 : decode cL_areRooms 112 = .ok (.iconst 0, 1) := by decide +kernel
theorem dL_areRooms_113 : decode cL_areRooms 113 = .ok (.iadd, 1) := by decide +kernel
theorem dL_areRooms_114 : decode cL_areRooms 114 = .ok (.istore 8, 2) := by decide +kernel
theorem dL_areRooms_116 : decode cL_areRooms 116 = .ok (.iinc 10 1, 3) := by decide +kernel
theorem dL_areRooms_119 : decode cL_areRooms 119 = .ok (.goto (-80), 3) := by decide +kernel
theorem dL_areRooms_122 : decode cL_areRooms 122 = .ok (.iinc 9 1, 3) := by decide +kernel
theorem dL_areRooms_125 : decode cL_areRooms 125 = .ok (.goto (-97), 3) := by decide +kernel
theorem dL_areRooms_128 : decode cL_areRooms 128 = .ok (.aload_n 0, 1) := by decide +kernel
theorem dL_areRooms_129 : decode cL_areRooms 129 = .ok (.iload 6, 2) := by decide +kernel
theorem dL_areRooms_131 : decode cL_areRooms 131 = .ok (.iconst 0, 1) := by decide +kernel
theorem dL_areRooms_132 : decode cL_areRooms 132 = .ok (.invokevirtual 68, 3) := by decide +kernel
theorem dL_areRooms_135 : decode cL_areRooms 135 = .ok (.aload_n 2, 1) := by decide +kernel
theorem dL_areRooms_136 : decode cL_areRooms 136 = .ok (.iload 6, 2) := by decide +kernel
theorem dL_areRooms_138 : decode cL_areRooms 138 = .ok (.iaload, 1) := by decide +kernel
theorem dL_areRooms_139 : decode cL_areRooms 139 = .ok (.iload 7, 2) := by decide +kernel
theorem dL_areRooms_141 : decode cL_areRooms 141 = .ok (.isub, 1) := by decide +kernel
theorem dL_areRooms_142 : decode cL_areRooms 142 = .ok (.if_icmp .ne 28, 3) := by decide +kernel
theorem dL_areRooms_145 : decode cL_areRooms 145 = .ok (.iload 7, 2) := by decide +kernel
theorem dL_areRooms_147 : decode cL_areRooms 147 = .ok (.aload_n 2, 1) := by decide +kernel
theorem dL_areRooms_148 : decode cL_areRooms 148 = .ok (.iload 6, 2) := by decide +kernel
theorem dL_areRooms_150 : decode cL_areRooms 150 = .ok (.iaload, 1) := by decide +kernel
theorem dL_areRooms_151 : decode cL_areRooms 151 = .ok (.if_icmp .gt 19, 3) := by decide +kernel
theorem dL_areRooms_154 : decode cL_areRooms 154 = .ok (.aload_n 0, 1) := by decide +kernel
theorem dL_areRooms_155 : decode cL_areRooms 155 = .ok (.iload 6, 2) := by decide +kernel
theorem dL_areRooms_157 : decode cL_areRooms 157 = .ok (.iconst 1, 1) := by decide +kernel
theorem dL_areRooms_158 : decode cL_areRooms 158 = .ok (.invokevirtual 68, 3) := by decide +kernel
theorem dL_areRooms_161 : decode cL_areRooms 161 = .ok (.iload 8, 2) := by decide +kernel
theorem dL_areRooms_163 : decode cL_areRooms 163 = .ok (.if_icmp .ne 7, 3) := by decide +kernel
theorem dL_areRooms_166 : decode cL_areRooms 166 = .ok (.iconst 1, 1) := by decide +kernel
theorem dL_areRooms_167 : decode cL_areRooms 167 = .ok (.goto 4, 3) := by decide +kernel
theorem dL_areRooms_171 : decode cL_areRooms 171 = .ok (.istore 5, 2) := by decide +kernel
theorem dL_areRooms_173 : decode cL_areRooms 173 = .ok (.iinc 6 1, 3) := by decide +kernel
theorem dL_areRooms_176 : decode cL_areRooms 176 = .ok (.goto (-170), 3) := by decide +kernel
theorem dL_areRooms_179 : decode cL_areRooms 179 = .ok (.iconst 0, 1) := by decide +kernel
theorem dL_areRooms_180 : decode cL_areRooms 180 = .ok (.istore 6, 2) := by decide +kernel
theorem dL_areRooms_182 : decode cL_areRooms 182 = .ok (.iload 6, 2) := by decide +kernel
theorem dL_areRooms_184 : decode cL_areRooms 184 = .ok (.aload_n 1, 1) := by decide +kernel
theorem dL_areRooms_185 : decode cL_areRooms 185 = .ok (.iconst 1, 1) := by decide +kernel
theorem dL_areRooms_186 : decode cL_areRooms 186 = .ok (.iaload, 1) := by decide +kernel
theorem dL_areRooms_187 : decode cL_areRooms 187 = .ok (.if_icmp .ge 210, 3) := by decide +kernel
theorem dL_areRooms_190 : decode cL_areRooms 190 = .ok (.iload 5, 2) := by decide +kernel
theorem dL_areRooms_192 : decode cL_areRooms 192 = .ok (.ifCond .eq 205, 3) := by decide +kernel
theorem dL_areRooms_195 : decode cL_areRooms 195 = .ok (.aload_n 3, 1) := by decide +kernel
theorem dL_areRooms_196 : decode cL_areRooms 196 = .ok (.iconst 3, 1) := by decide +kernel
theorem dL_areRooms_197 : decode cL_areRooms 197 = .ok (.iload 6, 2) := by decide +kernel
theorem dL_areRooms_199 : decode cL_areRooms 199 = .ok (.imul, 1) := by decide +kernel
theorem dL_areRooms_200 : decode cL_areRooms 200 = .ok (.iconst 2, 1) := by decide +kernel
theorem dL_areRooms_201 : decode cL_areRooms 201 = .ok (.iadd, 1) := by decide +kernel
theorem dL_areRooms_202 : decode cL_areRooms 202 = .ok (.iaload, 1) := by decide +kernel
theorem dL_areRooms_203 : decode cL_areRooms 203 = .ok (.istore 7, 2) := by decide +kernel
theorem dL_areRooms_205 : decode cL_areRooms 205 = .ok (.aload_n 0, 1) := by decide +kernel
theorem dL_areRooms_206 : decode cL_areRooms 206 = .ok (.iload 6, 2) := by decide +kernel
theorem dL_areRooms_208 : decode cL_areRooms 208 = .ok (.iconst 0, 1) := by decide +kernel
theorem dL_areRooms_209 : decode cL_areRooms 209 = .ok (.invokevirtual 71, 3) := by decide +kernel
theorem dL_areRooms_212 : decode cL_areRooms 212 = .ok (.istore 8, 2) := by decide +kernel
theorem dL_areRooms_214 : decode cL_areRooms 214 = .ok (.aload_n 0, 1) := by decide +kernel
theorem dL_areRooms_215 : decode cL_areRooms 215 = .ok (.iload 6, 2) := by decide +kernel
theorem dL_areRooms_217 : decode cL_areRooms 217 = .ok (.iconst 1, 1) := by decide +kernel
theorem dL_areRooms_218 : decode cL_areRooms 218 = .ok (.invokevirtual 71, 3) := by decide +kernel
theorem dL_areRooms_221 : decode cL_areRooms 221 = .ok (.istore 9, 2) := by decide +kernel
theorem dL_areRooms_223 : decode cL_areRooms 223 = .ok (.iconst 0, 1) := by decide +kernel
theorem dL_areRooms_224 : decode cL_areRooms 224 = .ok (.istore 10, 2) := by decide +kernel
theorem dL_areRooms_226 : decode cL_areRooms 226 = .ok (.iload 8, 2) := by decide +kernel
theorem dL_areRooms_228 : decode cL_areRooms 228 = .ok (.ifCond .lt 52, 3) := by decide +kernel
theorem dL_areRooms_231 : decode cL_areRooms 231 = .ok (.iload 9, 2) := by decide +kernel
theorem dL_areRooms_233 : decode cL_areRooms 233 = .ok (.ifCond .lt 47, 3) := by decide +kernel
theorem dL_areRooms_236 : decode cL_areRooms 236 = .ok (.aload_n 0, 1) := by decide +kernel
theorem dL_areRooms_237 : decode cL_areRooms 237 = .ok (.iload 6, 2) := by decide +kernel
theorem dL_areRooms_239 : decode cL_areRooms 239 = .ok (.iconst 2, 1) := by decide +kernel
theorem dL_areRooms_240 : decode cL_areRooms 240 = .ok (.invokevirtual 71, 3) := by decide +kernel
theorem dL_areRooms_243 : decode cL_areRooms 243 = .ok (.iload 7, 2) := by decide +kernel
theorem dL_areRooms_245 : decode cL_areRooms 245 = .ok (.iload 8, 2) := by decide +kernel
theorem dL_areRooms_247 : decode cL_areRooms 247 = .ok (.isub, 1) := by decide +kernel
theorem dL_areRooms_248 : decode cL_areRooms 248 = .ok (.iload 9, 2) := by decide +kernel
theorem dL_areRooms_250 : decode cL_areRooms 250 = .ok (.isub, 1) := by decide +kernel
theorem dL_areRooms_251 : decode cL_areRooms 251 = .ok (.if_icmp .ne 29, 3) := by decide +kernel
theorem dL_areRooms_254 : decode cL_areRooms 254 = .ok (.iload 8, 2) := by decide +kernel
theorem dL_areRooms_256 : decode cL_areRooms 256 = .ok (.iload 9, 2) := by decide +kernel
theorem dL_areRooms_258 : decode cL_areRooms 258 = .ok (.iadd, 1) := by decide +kernel
theorem dL_areRooms_259 : decode cL_areRooms 259 = .ok (.iload 7, 2) := by decide +kernel
theorem dL_areRooms_261 : decode cL_areRooms 261 = .ok (.if_icmp .gt 19, 3) := by decide +kernel
theorem dL_areRooms_264 : decode cL_areRooms 264 = .ok (.aload_n 0, 1) := by decide +kernel
theorem dL_areRooms_265 : decode cL_areRooms 265 = .ok (.iload 6, 2) := by decide +kernel
theorem dL_areRooms_267 : decode cL_areRooms 267 = .ok (.iconst (-1), 1) := by decide +kernel
theorem dL_areRooms_268 : decode cL_areRooms 268 = .ok (.invokevirtual 74, 3) := by decide +kernel
theorem dL_areRooms_271 : decode cL_areRooms 271 = .ok (.iload 8, 2) := by decide +kernel
theorem dL_areRooms_273 : decode cL_areRooms 273 = .ok (.if_icmp .ne 7, 3) := by decide +kernel
theorem dL_areRooms_276 : decode cL_areRooms 276 = .ok (.iconst 1, 1) := by decide +kernel
theorem dL_areRooms_277 : decode cL_areRooms 277 = .ok (.goto 4, 3) := by decide +kernel
theorem dL_areRooms_281 : decode cL_areRooms 281 = .ok (.istore 5, 2) := by decide +kernel
theorem dL_areRooms_283 : decode cL_areRooms 283 = .ok (.iconst 0, 1) := by decide +kernel
theorem dL_areRooms_284 : decode cL_areRooms 284 = .ok (.istore 11, 2) := by decide +kernel
theorem dL_areRooms_286 : decode cL_areRooms 286 = .ok (.iload 11, 2) := by decide +kernel
theorem dL_areRooms_288 : decode cL_areRooms 288 = .ok (.aload_n 1, 1) := by decide +kernel
theorem dL_areRooms_289 : decode cL_areRooms 289 = .ok (.iconst 1, 1) := by decide +kernel
theorem dL_areRooms_290 : decode cL_areRooms 290 = .ok (.iaload, 1) := by decide +kernel
theorem dL_areRooms_291 : decode cL_areRooms 291 = .ok (.if_icmp .ge 81, 3) := by decide +kernel
theorem dL_areRooms_294 : decode cL_areRooms 294 = .ok (.iload 5, 2) := by decide +kernel
theorem dL_areRooms_296 : decode cL_areRooms 296 = .ok (.ifCond .eq 76, 3) := by decide +kernel
theorem dL_areRooms_299 : decode cL_areRooms 299 = .ok (.iload 11, 2) := by decide +kernel
theorem dL_areRooms_301 : decode cL_areRooms 301 = .ok (.iload 6, 2) := by decide +kernel
theorem dL_areRooms_303 : decode cL_areRooms 303 = .ok (.if_icmp .ne 8, 3) := by decide +kernel
theorem dL_areRooms_306 : decode cL_areRooms 306 = .ok (.iload 8, 2) := by decide +kernel
theorem dL_areRooms_308 : decode cL_areRooms 308 = .ok (.goto 11, 3) := by decide +kernel
theorem dL_areRooms_311 : decode cL_areRooms 311 = .ok (.aload_n 0, 1) := by decide +kernel
theorem dL_areRooms_312 : decode cL_areRooms 312 = .ok (.iload 6, 2) := by decide +kernel
theorem dL_areRooms_314 : decode cL_areRooms 314 = .ok (.iload 11, 2) := by decide +kernel
theorem dL_areRooms_316 : decode cL_areRooms 316 = .ok (.invokevirtual 74, 3) := by decide +kernel
theorem dL_areRooms_319 : decode cL_areRooms 319 = .ok (.istore 12, 2) := by decide +kernel
theorem dL_areRooms_321 : decode cL_areRooms 321 = .ok (.iload 12, 2) := by decide +kernel
theorem dL_areRooms_323 : decode cL_areRooms 323 = .ok (.iload 10, 2) := by decide +kernel
theorem dL_areRooms_325 : decode cL_areRooms 325 = .ok (.if_icmp .le 8, 3) := by decide +kernel
theorem dL_areRooms_328 : decode cL_areRooms 328 = .ok (.iload 12, 2) := by decide +kernel
theorem dL_areRooms_330 : decode cL_areRooms 330 = .ok (.goto 5, 3) := by decide +kernel
theorem dL_areRooms_333 : decode cL_areRooms 333 = .ok (.iload 10, 2) := by decide +kernel
theorem dL_areRooms_335 : decode cL_areRooms 335 = .ok (.istore 10, 2) := by decide +kernel
theorem dL_areRooms_337 : decode cL_areRooms 337 = .ok (.iload 12, 2) := by decide +kernel
theorem dL_areRooms_339 : decode cL_areRooms 339 = .ok (.ifCond .lt 24, 3) := by decide +kernel
theorem dL_areRooms_342 : decode cL_areRooms 342 = .ok (.iload 12, 2) := by decide +kernel
theorem dL_areRooms_344 : decode cL_areRooms 344 = .ok (.iload 8, 2) := by decide +kernel
theorem dL_areRooms_346 : decode cL_areRooms 346 = .ok (.iload 9, 2) := by decide +kernel
theorem dL_areRooms_348 : decode cL_areRooms 348 = .ok (.iadd, 1) := by decide +kernel
theorem dL_areRooms_349 : decode cL_areRooms 349 = .ok (.if_icmp .gt 14, 3) := by decide +kernel
theorem dL_areRooms_352 : decode cL_areRooms 352 = .ok (.iload 12, 2) := by decide +kernel
theorem dL_areRooms_354 : decode cL_areRooms 354 = .ok (.iload 7, 2) := by decide +kernel
theorem dL_areRooms_356 : decode cL_areRooms 356 = .ok (.if_icmp .gt 7, 3) := by decide +kernel
theorem dL_areRooms_359 : decode cL_areRooms 359 = .ok (.iconst 1, 1) := by decide +kernel
theorem dL_areRooms_360 : decode cL_areRooms 360 = .ok (.goto 4, 3) := by decide +kernel
theorem dL_areRooms_364 : decode cL_areRooms 364 = .ok (.istore 5, 2) := by decide +kernel
theorem dL_areRooms_366 : decode cL_areRooms 366 = .ok (.iinc 11 1, 3) := by decide +kernel
theorem dL_areRooms_369 : decode cL_areRooms 369 = .ok (.goto (-83), 3) := by decide +kernel
theorem dL_areRooms_372 : decode cL_areRooms 372 = .ok (.iload 5, 2) := by decide +kernel
theorem dL_areRooms_374 : decode cL_areRooms 374 = .ok (.ifCond .eq 14, 3) := by decide +kernel
theorem dL_areRooms_377 : decode cL_areRooms 377 = .ok (.iload 10, 2) := by decide +kernel
theorem dL_areRooms_379 : decode cL_areRooms 379 = .ok (.iload 8, 2) := by decide +kernel
theorem dL_areRooms_381 : decode cL_areRooms 381 = .ok (.if_icmp .lt 7, 3) := by decide +kernel
theorem dL_areRooms_384 : decode cL_areRooms 384 = .ok (.iconst 1, 1) := by decide +kernel
theorem dL_areRooms_385 : decode cL_areRooms 385 = .ok (.goto 4, 3) := by decide +kernel
theorem dL_areRooms_389 : decode cL_areRooms 389 = .ok (.istore 5, 2) := by decide +kernel
theorem dL_areRooms_391 : decode cL_areRooms 391 = .ok (.iinc 6 1, 3) := by decide +kernel
theorem dL_areRooms_394 : decode cL_areRooms 394 = .ok (.goto (-212), 3) := by decide +kernel
theorem dL_areRooms_397 : decode cL_areRooms 397 = .ok (.iload 5, 2) := by decide +kernel
theorem dL_areRooms_399 : decode cL_areRooms 399 = .ok (.ireturn, 1) := by decide +kernel
def F_L_areRooms_6 (z : ScT) (K6 : Int32 → Nat → Mm → Prop) (K28 : Int32 → Int32 → Int32 → Int32 → Nat → Mm → Prop) (K39 : Int32 → Int32 → Int32 → Int32 → Int32 → Nat → Mm → Prop) (K90 : Int32 → Int32 → Int32 → Int32 → Int32 → Int32 → Nat → Mm → Prop) (K182 : Int32 → Nat → Mm → Prop) (K286 : Int32 → Int32 → Int32 → Int32 → Int32 → Int32 → Nat → Mm → Prop) (K319 : Int32 → Int32 → Int32 → Int32 → Int32 → Int32 → Int32 → Nat → Mm → Prop) (K335 : Int32 → Int32 → Int32 → Int32 → Int32 → Int32 → Int32 → Nat → Mm → Prop) (K372 : Int32 → Int32 → Int32 → Nat → Mm → Prop) (q : Mm → Prop) (x6 : Int32) (n : Nat) (μ : Mm) : Prop :=
  n + 0 ≤ 2000 ∧ (vp_in (0 : Int32) 5 ∧ (((μ p_LC ((0 : Int32)).toNatClampNeg) ≤ x6 → K182 (0 : Int32) n μ) ∧ (¬ ((μ p_LC ((0 : Int32)).toNatClampNeg) ≤ x6) → K28 x6 (0 : Int32) (0 : Int32) (0 : Int32) n μ)))
def F_L_areRooms_28 (z : ScT) (K6 : Int32 → Nat → Mm → Prop) (K28 : Int32 → Int32 → Int32 → Int32 → Nat → Mm → Prop) (K39 : Int32 → Int32 → Int32 → Int32 → Int32 → Nat → Mm → Prop) (K90 : Int32 → Int32 → Int32 → Int32 → Int32 → Int32 → Nat → Mm → Prop) (K182 : Int32 → Nat → Mm → Prop) (K286 : Int32 → Int32 → Int32 → Int32 → Int32 → Int32 → Nat → Mm → Prop) (K319 : Int32 → Int32 → Int32 → Int32 → Int32 → Int32 → Int32 → Nat → Mm → Prop) (K335 : Int32 → Int32 → Int32 → Int32 → Int32 → Int32 → Int32 → Nat → Mm → Prop) (K372 : Int32 → Int32 → Int32 → Nat → Mm → Prop) (q : Mm → Prop) (x6 : Int32) (x7 : Int32) (x8 : Int32) (x9 : Int32) (n : Nat) (μ : Mm) : Prop :=
  n + 2 ≤ 2000 ∧ (vp_in (2 : Int32) 5 ∧ (((μ p_LC ((2 : Int32)).toNatClampNeg) ≤ x9 → T_X7_ofNode x6 (0 : Int32) μ (fun z2 μ_1 => vp_in x6 6 ∧ ((¬ (z2 = ((μ_1 p_LG (x6).toNatClampNeg) - x7)) → False) ∧ (z2 = ((μ_1 p_LG (x6).toNatClampNeg) - x7) → vp_in x6 6 ∧ (((μ_1 p_LG (x6).toNatClampNeg) < x7 → False) ∧ (¬ ((μ_1 p_LG (x6).toNatClampNeg) < x7) → T_X7_ofNode x6 (1 : Int32) μ_1 (fun z4 μ_3 => ((¬ (z4 = x8) → False) ∧ (z4 = x8 → K6 (x6 + (1 : Int32)) (n + 2) μ_3))) (fun _ _ => False)))))) (fun _ _ => False)) ∧ (¬ ((μ p_LC ((2 : Int32)).toNatClampNeg) ≤ x9) → K39 x6 x7 x8 x9 (0 : Int32) n μ)))
def F_L_areRooms_39 (z : ScT) (K6 : Int32 → Nat → Mm → Prop) (K28 : Int32 → Int32 → Int32 → Int32 → Nat → Mm → Prop) (K39 : Int32 → Int32 → Int32 → Int32 → Int32 → Nat → Mm → Prop) (K90 : Int32 → Int32 → Int32 → Int32 → Int32 → Int32 → Nat → Mm → Prop) (K182 : Int32 → Nat → Mm → Prop) (K286 : Int32 → Int32 → Int32 → Int32 → Int32 → Int32 → Nat → Mm → Prop) (K319 : Int32 → Int32 → Int32 → Int32 → Int32 → Int32 → Int32 → Nat → Mm → Prop) (K335 : Int32 → Int32 → Int32 → Int32 → Int32 → Int32 → Int32 → Nat → Mm → Prop) (K372 : Int32 → Int32 → Int32 → Nat → Mm → Prop) (q : Mm → Prop) (x6 : Int32) (x7 : Int32) (x8 : Int32) (x9 : Int32) (x10 : Int32) (n : Nat) (μ : Mm) : Prop :=
  n + 3 ≤ 2000 ∧ (T_X7_told x9 (3 : Int32) μ (fun z2 μ_1 => ((z2 ≤ x10 → K28 x6 x7 x8 (x9 + (1 : Int32)) (n + 1) μ_1) ∧ (¬ (z2 ≤ x10) → T_X7_told x9 (0 : Int32) μ_1 (fun z4 μ_3 => ((¬ (z4 = 0) → K28 x6 x7 x8 (x9 + (1 : Int32)) (n + 2) μ_3) ∧ (z4 = 0 → T_X7_at x9 x10 μ_3 (fun z6 μ_5 => ((¬ (z6 = x6) → K90 x6 x8 x9 x10 (0 : Int32) x7 (n + 3) μ_5) ∧ (z6 = x6 → vp_in (((3 : Int32) * x9) + x10) 36 ∧ K90 x6 x8 x9 x10 (μ_5 p_LP ((((3 : Int32) * x9) + x10)).toNatClampNeg) x7 (n + 3) μ_5))) (fun _ _ => False)))) (fun _ _ => False)))) (fun _ _ => False))
def F_L_areRooms_90 (z : ScT) (K6 : Int32 → Nat → Mm → Prop) (K28 : Int32 → Int32 → Int32 → Int32 → Nat → Mm → Prop) (K39 : Int32 → Int32 → Int32 → Int32 → Int32 → Nat → Mm → Prop) (K90 : Int32 → Int32 → Int32 → Int32 → Int32 → Int32 → Nat → Mm → Prop) (K182 : Int32 → Nat → Mm → Prop) (K286 : Int32 → Int32 → Int32 → Int32 → Int32 → Int32 → Nat → Mm → Prop) (K319 : Int32 → Int32 → Int32 → Int32 → Int32 → Int32 → Int32 → Nat → Mm → Prop) (K335 : Int32 → Int32 → Int32 → Int32 → Int32 → Int32 → Int32 → Nat → Mm → Prop) (K372 : Int32 → Int32 → Int32 → Nat → Mm → Prop) (q : Mm → Prop) (x6 : Int32) (x8 : Int32) (x9 : Int32) (x10 : Int32) (y0 : Int32) (y1 : Int32) (n : Nat) (μ : Mm) : Prop :=
  n + 1 ≤ 2000 ∧ ((∀ v7_1 : Int32, v7_1 = (y1 + y0) → T_X7_at x9 x10 μ (fun z3 μ_2 => ((¬ (z3 = x6) → (∀ v8_4 : Int32, v8_4 = (x8 + (0 : Int32)) → K39 x6 v7_1 v8_4 x9 (x10 + (1 : Int32)) (n + 1) μ_2)) ∧ (z3 = x6 → (∀ v8_5 : Int32, v8_5 = (x8 + (1 : Int32)) → K39 x6 v7_1 v8_5 x9 (x10 + (1 : Int32)) (n + 1) μ_2)))) (fun _ _ => False)))
def F_L_areRooms_182 (z : ScT) (K6 : Int32 → Nat → Mm → Prop) (K28 : Int32 → Int32 → Int32 → Int32 → Nat → Mm → Prop) (K39 : Int32 → Int32 → Int32 → Int32 → Int32 → Nat → Mm → Prop) (K90 : Int32 → Int32 → Int32 → Int32 → Int32 → Int32 → Nat → Mm → Prop) (K182 : Int32 → Nat → Mm → Prop) (K286 : Int32 → Int32 → Int32 → Int32 → Int32 → Int32 → Nat → Mm → Prop) (K319 : Int32 → Int32 → Int32 → Int32 → Int32 → Int32 → Int32 → Nat → Mm → Prop) (K335 : Int32 → Int32 → Int32 → Int32 → Int32 → Int32 → Int32 → Nat → Mm → Prop) (K372 : Int32 → Int32 → Int32 → Nat → Mm → Prop) (q : Mm → Prop) (x6 : Int32) (n : Nat) (μ : Mm) : Prop :=
  n + 4 ≤ 2000 ∧ (vp_in (1 : Int32) 5 ∧ (((μ p_LC ((1 : Int32)).toNatClampNeg) ≤ x6 → q μ) ∧ (¬ ((μ p_LC ((1 : Int32)).toNatClampNeg) ≤ x6) → vp_in (((3 : Int32) * x6) + (2 : Int32)) 27 ∧ (∀ v7_1 : Int32, v7_1 = (μ p_LL ((((3 : Int32) * x6) + (2 : Int32))).toNatClampNeg) → T_X7_ofLink x6 (0 : Int32) μ (fun z3 μ_2 => T_X7_ofLink x6 (1 : Int32) μ_2 (fun z5 μ_4 => ((z3 < 0 → False) ∧ (¬ (z3 < 0) → ((z5 < 0 → False) ∧ (¬ (z5 < 0) → T_X7_ofLink x6 (2 : Int32) μ_4 (fun z7 μ_6 => ((¬ (z7 = ((v7_1 - z3) - z5)) → False) ∧ (z7 = ((v7_1 - z3) - z5) → ((v7_1 < (z3 + z5) → False) ∧ (¬ (v7_1 < (z3 + z5)) → T_X7_load x6 (-1 : Int32) μ_6 (fun z9 μ_8 => ((¬ (z9 = z3) → False) ∧ (z9 = z3 → K286 x6 v7_1 z3 z5 (0 : Int32) (0 : Int32) (n + 4) μ_8))) (fun _ _ => False)))))) (fun _ _ => False)))))) (fun _ _ => False)) (fun _ _ => False)))))
def F_L_areRooms_286 (z : ScT) (K6 : Int32 → Nat → Mm → Prop) (K28 : Int32 → Int32 → Int32 → Int32 → Nat → Mm → Prop) (K39 : Int32 → Int32 → Int32 → Int32 → Int32 → Nat → Mm → Prop) (K90 : Int32 → Int32 → Int32 → Int32 → Int32 → Int32 → Nat → Mm → Prop) (K182 : Int32 → Nat → Mm → Prop) (K286 : Int32 → Int32 → Int32 → Int32 → Int32 → Int32 → Nat → Mm → Prop) (K319 : Int32 → Int32 → Int32 → Int32 → Int32 → Int32 → Int32 → Nat → Mm → Prop) (K335 : Int32 → Int32 → Int32 → Int32 → Int32 → Int32 → Int32 → Nat → Mm → Prop) (K372 : Int32 → Int32 → Int32 → Nat → Mm → Prop) (q : Mm → Prop) (x6 : Int32) (x7 : Int32) (x8 : Int32) (x9 : Int32) (x10 : Int32) (x11 : Int32) (n : Nat) (μ : Mm) : Prop :=
  n + 1 ≤ 2000 ∧ (vp_in (1 : Int32) 5 ∧ (((μ p_LC ((1 : Int32)).toNatClampNeg) ≤ x11 → K372 x6 x8 x10 n μ) ∧ (¬ ((μ p_LC ((1 : Int32)).toNatClampNeg) ≤ x11) → ((¬ (x11 = x6) → T_X7_load x6 x11 μ (fun z2 μ_1 => K319 x6 x7 x8 x9 x10 x11 z2 (n + 1) μ_1) (fun _ _ => False)) ∧ (x11 = x6 → K319 x6 x7 x8 x9 x10 x11 x8 n μ)))))
def F_L_areRooms_319 (z : ScT) (K6 : Int32 → Nat → Mm → Prop) (K28 : Int32 → Int32 → Int32 → Int32 → Nat → Mm → Prop) (K39 : Int32 → Int32 → Int32 → Int32 → Int32 → Nat → Mm → Prop) (K90 : Int32 → Int32 → Int32 → Int32 → Int32 → Int32 → Nat → Mm → Prop) (K182 : Int32 → Nat → Mm → Prop) (K286 : Int32 → Int32 → Int32 → Int32 → Int32 → Int32 → Nat → Mm → Prop) (K319 : Int32 → Int32 → Int32 → Int32 → Int32 → Int32 → Int32 → Nat → Mm → Prop) (K335 : Int32 → Int32 → Int32 → Int32 → Int32 → Int32 → Int32 → Nat → Mm → Prop) (K372 : Int32 → Int32 → Int32 → Nat → Mm → Prop) (q : Mm → Prop) (x6 : Int32) (x7 : Int32) (x8 : Int32) (x9 : Int32) (x10 : Int32) (x11 : Int32) (y0 : Int32) (n : Nat) (μ : Mm) : Prop :=
  n + 0 ≤ 2000 ∧ (((y0 ≤ x10 → K335 x6 x7 x8 x9 x11 y0 x10 n μ) ∧ (¬ (y0 ≤ x10) → K335 x6 x7 x8 x9 x11 y0 y0 n μ)))
def F_L_areRooms_335 (z : ScT) (K6 : Int32 → Nat → Mm → Prop) (K28 : Int32 → Int32 → Int32 → Int32 → Nat → Mm → Prop) (K39 : Int32 → Int32 → Int32 → Int32 → Int32 → Nat → Mm → Prop) (K90 : Int32 → Int32 → Int32 → Int32 → Int32 → Int32 → Nat → Mm → Prop) (K182 : Int32 → Nat → Mm → Prop) (K286 : Int32 → Int32 → Int32 → Int32 → Int32 → Int32 → Nat → Mm → Prop) (K319 : Int32 → Int32 → Int32 → Int32 → Int32 → Int32 → Int32 → Nat → Mm → Prop) (K335 : Int32 → Int32 → Int32 → Int32 → Int32 → Int32 → Int32 → Nat → Mm → Prop) (K372 : Int32 → Int32 → Int32 → Nat → Mm → Prop) (q : Mm → Prop) (x6 : Int32) (x7 : Int32) (x8 : Int32) (x9 : Int32) (x11 : Int32) (x12 : Int32) (y0 : Int32) (n : Nat) (μ : Mm) : Prop :=
  n + 0 ≤ 2000 ∧ (((x12 < 0 → False) ∧ (¬ (x12 < 0) → (((x8 + x9) < x12 → False) ∧ (¬ ((x8 + x9) < x12) → ((x7 < x12 → False) ∧ (¬ (x7 < x12) → K286 x6 x7 x8 x9 y0 (x11 + (1 : Int32)) n μ)))))))
def F_L_areRooms_372 (z : ScT) (K6 : Int32 → Nat → Mm → Prop) (K28 : Int32 → Int32 → Int32 → Int32 → Nat → Mm → Prop) (K39 : Int32 → Int32 → Int32 → Int32 → Int32 → Nat → Mm → Prop) (K90 : Int32 → Int32 → Int32 → Int32 → Int32 → Int32 → Nat → Mm → Prop) (K182 : Int32 → Nat → Mm → Prop) (K286 : Int32 → Int32 → Int32 → Int32 → Int32 → Int32 → Nat → Mm → Prop) (K319 : Int32 → Int32 → Int32 → Int32 → Int32 → Int32 → Int32 → Nat → Mm → Prop) (K335 : Int32 → Int32 → Int32 → Int32 → Int32 → Int32 → Int32 → Nat → Mm → Prop) (K372 : Int32 → Int32 → Int32 → Nat → Mm → Prop) (q : Mm → Prop) (x6 : Int32) (x8 : Int32) (x10 : Int32) (n : Nat) (μ : Mm) : Prop :=
  n + 0 ≤ 2000 ∧ (((x10 < x8 → False) ∧ (¬ (x10 < x8) → K182 (x6 + (1 : Int32)) n μ)))
def F_L_areRooms_e (z : ScT) (K6 : Int32 → Nat → Mm → Prop) (K28 : Int32 → Int32 → Int32 → Int32 → Nat → Mm → Prop) (K39 : Int32 → Int32 → Int32 → Int32 → Int32 → Nat → Mm → Prop) (K90 : Int32 → Int32 → Int32 → Int32 → Int32 → Int32 → Nat → Mm → Prop) (K182 : Int32 → Nat → Mm → Prop) (K286 : Int32 → Int32 → Int32 → Int32 → Int32 → Int32 → Nat → Mm → Prop) (K319 : Int32 → Int32 → Int32 → Int32 → Int32 → Int32 → Int32 → Nat → Mm → Prop) (K335 : Int32 → Int32 → Int32 → Int32 → Int32 → Int32 → Int32 → Nat → Mm → Prop) (K372 : Int32 → Int32 → Int32 → Nat → Mm → Prop) (q : Mm → Prop)  (μ : Mm) : Prop :=
  K6 (0 : Int32) 0 μ
def Wp_L_areRooms (z : ScT)  (μ : Mm) (q : Mm → Prop) : Prop := ∀ (K6 : Int32 → Nat → Mm → Prop) (K28 : Int32 → Int32 → Int32 → Int32 → Nat → Mm → Prop) (K39 : Int32 → Int32 → Int32 → Int32 → Int32 → Nat → Mm → Prop) (K90 : Int32 → Int32 → Int32 → Int32 → Int32 → Int32 → Nat → Mm → Prop) (K182 : Int32 → Nat → Mm → Prop) (K286 : Int32 → Int32 → Int32 → Int32 → Int32 → Int32 → Nat → Mm → Prop) (K319 : Int32 → Int32 → Int32 → Int32 → Int32 → Int32 → Int32 → Nat → Mm → Prop) (K335 : Int32 → Int32 → Int32 → Int32 → Int32 → Int32 → Int32 → Nat → Mm → Prop) (K372 : Int32 → Int32 → Int32 → Nat → Mm → Prop), (∀ (x6 : Int32) (n : Nat) (μ : Mm), F_L_areRooms_6 z K6 K28 K39 K90 K182 K286 K319 K335 K372 q x6 n μ → K6 x6 n μ) → (∀ (x6 : Int32) (x7 : Int32) (x8 : Int32) (x9 : Int32) (n : Nat) (μ : Mm), F_L_areRooms_28 z K6 K28 K39 K90 K182 K286 K319 K335 K372 q x6 x7 x8 x9 n μ → K28 x6 x7 x8 x9 n μ) → (∀ (x6 : Int32) (x7 : Int32) (x8 : Int32) (x9 : Int32) (x10 : Int32) (n : Nat) (μ : Mm), F_L_areRooms_39 z K6 K28 K39 K90 K182 K286 K319 K335 K372 q x6 x7 x8 x9 x10 n μ → K39 x6 x7 x8 x9 x10 n μ) → (∀ (x6 : Int32) (x8 : Int32) (x9 : Int32) (x10 : Int32) (y0 : Int32) (y1 : Int32) (n : Nat) (μ : Mm), F_L_areRooms_90 z K6 K28 K39 K90 K182 K286 K319 K335 K372 q x6 x8 x9 x10 y0 y1 n μ → K90 x6 x8 x9 x10 y0 y1 n μ) → (∀ (x6 : Int32) (n : Nat) (μ : Mm), F_L_areRooms_182 z K6 K28 K39 K90 K182 K286 K319 K335 K372 q x6 n μ → K182 x6 n μ) → (∀ (x6 : Int32) (x7 : Int32) (x8 : Int32) (x9 : Int32) (x10 : Int32) (x11 : Int32) (n : Nat) (μ : Mm), F_L_areRooms_286 z K6 K28 K39 K90 K182 K286 K319 K335 K372 q x6 x7 x8 x9 x10 x11 n μ → K286 x6 x7 x8 x9 x10 x11 n μ) → (∀ (x6 : Int32) (x7 : Int32) (x8 : Int32) (x9 : Int32) (x10 : Int32) (x11 : Int32) (y0 : Int32) (n : Nat) (μ : Mm), F_L_areRooms_319 z K6 K28 K39 K90 K182 K286 K319 K335 K372 q x6 x7 x8 x9 x10 x11 y0 n μ → K319 x6 x7 x8 x9 x10 x11 y0 n μ) → (∀ (x6 : Int32) (x7 : Int32) (x8 : Int32) (x9 : Int32) (x11 : Int32) (x12 : Int32) (y0 : Int32) (n : Nat) (μ : Mm), F_L_areRooms_335 z K6 K28 K39 K90 K182 K286 K319 K335 K372 q x6 x7 x8 x9 x11 x12 y0 n μ → K335 x6 x7 x8 x9 x11 x12 y0 n μ) → (∀ (x6 : Int32) (x8 : Int32) (x10 : Int32) (n : Nat) (μ : Mm), F_L_areRooms_372 z K6 K28 K39 K90 K182 K286 K319 K335 K372 q x6 x8 x10 n μ → K372 x6 x8 x10 n μ) → F_L_areRooms_e z K6 K28 K39 K90 K182 K286 K319 K335 K372 q  μ
abbrev KK_L_areRooms_6 (g : GE) (f : FE) (z : ScT) : Int32 → Nat → Mm → Prop := fun x6 n μ => KW g f 13 n (6 * n) 6 [some (.ref p_ML), some (.ref p_LC), some (.ref p_LG), some (.ref p_LL), some (.ref p_LP), some (.int (1 : Int32)), some (.int x6), none, none, none, none, none, none] [] μ
abbrev KK_L_areRooms_28 (g : GE) (f : FE) (z : ScT) : Int32 → Int32 → Int32 → Int32 → Nat → Mm → Prop := fun x6 x7 x8 x9 n μ => KW g f 13 n (6 * n) 28 [some (.ref p_ML), some (.ref p_LC), some (.ref p_LG), some (.ref p_LL), some (.ref p_LP), none, some (.int x6), some (.int x7), some (.int x8), some (.int x9), none, none, none] [] μ
abbrev KK_L_areRooms_39 (g : GE) (f : FE) (z : ScT) : Int32 → Int32 → Int32 → Int32 → Int32 → Nat → Mm → Prop := fun x6 x7 x8 x9 x10 n μ => KW g f 13 n (6 * n) 39 [some (.ref p_ML), some (.ref p_LC), some (.ref p_LG), some (.ref p_LL), some (.ref p_LP), none, some (.int x6), some (.int x7), some (.int x8), some (.int x9), some (.int x10), none, none] [] μ
abbrev KK_L_areRooms_90 (g : GE) (f : FE) (z : ScT) : Int32 → Int32 → Int32 → Int32 → Int32 → Int32 → Nat → Mm → Prop := fun x6 x8 x9 x10 y0 y1 n μ => KW g f 13 n (6 * n) 90 [some (.ref p_ML), some (.ref p_LC), some (.ref p_LG), some (.ref p_LL), some (.ref p_LP), none, some (.int x6), none, some (.int x8), some (.int x9), some (.int x10), none, none] [.int y0, .int y1] μ
abbrev KK_L_areRooms_182 (g : GE) (f : FE) (z : ScT) : Int32 → Nat → Mm → Prop := fun x6 n μ => KW g f 13 n (6 * n) 182 [some (.ref p_ML), some (.ref p_LC), none, some (.ref p_LL), none, some (.int (1 : Int32)), some (.int x6), none, none, none, none, none, none] [] μ
abbrev KK_L_areRooms_286 (g : GE) (f : FE) (z : ScT) : Int32 → Int32 → Int32 → Int32 → Int32 → Int32 → Nat → Mm → Prop := fun x6 x7 x8 x9 x10 x11 n μ => KW g f 13 n (6 * n) 286 [some (.ref p_ML), some (.ref p_LC), none, some (.ref p_LL), none, some (.int (1 : Int32)), some (.int x6), some (.int x7), some (.int x8), some (.int x9), some (.int x10), some (.int x11), none] [] μ
abbrev KK_L_areRooms_319 (g : GE) (f : FE) (z : ScT) : Int32 → Int32 → Int32 → Int32 → Int32 → Int32 → Int32 → Nat → Mm → Prop := fun x6 x7 x8 x9 x10 x11 y0 n μ => KW g f 13 n (6 * n) 319 [some (.ref p_ML), some (.ref p_LC), none, some (.ref p_LL), none, none, some (.int x6), some (.int x7), some (.int x8), some (.int x9), some (.int x10), some (.int x11), none] [.int y0] μ
abbrev KK_L_areRooms_335 (g : GE) (f : FE) (z : ScT) : Int32 → Int32 → Int32 → Int32 → Int32 → Int32 → Int32 → Nat → Mm → Prop := fun x6 x7 x8 x9 x11 x12 y0 n μ => KW g f 13 n (6 * n) 335 [some (.ref p_ML), some (.ref p_LC), none, some (.ref p_LL), none, none, some (.int x6), some (.int x7), some (.int x8), some (.int x9), none, some (.int x11), some (.int x12)] [.int y0] μ
abbrev KK_L_areRooms_372 (g : GE) (f : FE) (z : ScT) : Int32 → Int32 → Int32 → Nat → Mm → Prop := fun x6 x8 x10 n μ => KW g f 13 n (6 * n) 372 [some (.ref p_ML), some (.ref p_LC), none, some (.ref p_LL), none, some (.int (1 : Int32)), some (.int x6), none, some (.int x8), none, some (.int x10), none, none] [] μ
set_option maxHeartbeats 4000000 in
theorem b_L_areRooms_6 {g : GE} {f : FE} {z : ScT} {q : Mm → Prop} (hcx : (∀ n, n ≤ 2000 → Cx g f cL_areRooms 13 RL 7 115 n (6 * n))) (bx : BXl g z f) (hr : (f_M f).sig.returnType = (some .boolean)) (rx : RXl g f 2000 (qTr q)) {x6 : Int32} {n : Nat} {μ : Mm} (h : F_L_areRooms_6 z (KK_L_areRooms_6 g f z) (KK_L_areRooms_28 g f z) (KK_L_areRooms_39 g f z) (KK_L_areRooms_90 g f z) (KK_L_areRooms_182 g f z) (KK_L_areRooms_286 g f z) (KK_L_areRooms_319 g f z) (KK_L_areRooms_335 g f z) (KK_L_areRooms_372 g f z) q x6 n μ) : KW g f 13 n (6 * n) 6 [some (.ref p_ML), some (.ref p_LC), some (.ref p_LG), some (.ref p_LL), some (.ref p_LP), some (.int (1 : Int32)), some (.int x6), none, none, none, none, none, none] [] μ := by
  unfold F_L_areRooms_6 at h
  obtain ⟨hn, h⟩ := h
  have cx := hcx n (by omega)
  refine k_iload cx dL_areRooms_6 rfl ?_
  refine k_aload_n cx dL_areRooms_8 rfl rfl ?_
  refine k_iconst (v := (0 : Int32)) cx dL_areRooms_9 (by decide +kernel) ?_
  obtain ⟨hi, h⟩ := h
  refine k_iald cx ar_LC hi dL_areRooms_10 ?_
  refine k_icmp_ge (tgt := 179) cx dL_areRooms_11 (by decide) (fun hc => ?_) (fun hc => ?_)
  · replace h := h.1 hc
    refine k_iconst (v := (0 : Int32)) cx dL_areRooms_179 (by decide +kernel) ?_
    refine k_istore cx dL_areRooms_180 (by decide) ?_
    exact k_weak h (lsLe.keep (lsLe.keep (lsLe.drop (lsLe.keep (lsLe.drop (lsLe.keep (lsLe.keep (lsLe.keep (lsLe.keep (lsLe.keep (lsLe.keep (lsLe.keep (lsLe.keep lsLe.nil)))))))))))))
  · replace h := h.2 hc
    refine k_iload cx dL_areRooms_14 rfl ?_
    refine k_if_eq (tgt := 179) cx dL_areRooms_16 (by decide) (fun hc => absurd hc (by decide)) (fun _ => ?_)
    refine k_iconst (v := (0 : Int32)) cx dL_areRooms_19 (by decide +kernel) ?_
    refine k_istore cx dL_areRooms_20 (by decide) ?_
    refine k_iconst (v := (0 : Int32)) cx dL_areRooms_22 (by decide +kernel) ?_
    refine k_istore cx dL_areRooms_23 (by decide) ?_
    refine k_iconst (v := (0 : Int32)) cx dL_areRooms_25 (by decide +kernel) ?_
    refine k_istore cx dL_areRooms_26 (by decide) ?_
    exact k_weak h (lsLe.keep (lsLe.keep (lsLe.keep (lsLe.keep (lsLe.keep (lsLe.drop (lsLe.keep (lsLe.keep (lsLe.keep (lsLe.keep (lsLe.keep (lsLe.keep (lsLe.keep lsLe.nil)))))))))))))
set_option maxHeartbeats 4000000 in
theorem b_L_areRooms_28 {g : GE} {f : FE} {z : ScT} {q : Mm → Prop} (hcx : (∀ n, n ≤ 2000 → Cx g f cL_areRooms 13 RL 7 115 n (6 * n))) (bx : BXl g z f) (hr : (f_M f).sig.returnType = (some .boolean)) (rx : RXl g f 2000 (qTr q)) {x6 : Int32} {x7 : Int32} {x8 : Int32} {x9 : Int32} {n : Nat} {μ : Mm} (h : F_L_areRooms_28 z (KK_L_areRooms_6 g f z) (KK_L_areRooms_28 g f z) (KK_L_areRooms_39 g f z) (KK_L_areRooms_90 g f z) (KK_L_areRooms_182 g f z) (KK_L_areRooms_286 g f z) (KK_L_areRooms_319 g f z) (KK_L_areRooms_335 g f z) (KK_L_areRooms_372 g f z) q x6 x7 x8 x9 n μ) : KW g f 13 n (6 * n) 28 [some (.ref p_ML), some (.ref p_LC), some (.ref p_LG), some (.ref p_LL), some (.ref p_LP), none, some (.int x6), some (.int x7), some (.int x8), some (.int x9), none, none, none] [] μ := by
  unfold F_L_areRooms_28 at h
  obtain ⟨hn, h⟩ := h
  have cx := hcx n (by omega)
  refine k_iload cx dL_areRooms_28 rfl ?_
  refine k_aload_n cx dL_areRooms_30 rfl rfl ?_
  refine k_iconst (v := (2 : Int32)) cx dL_areRooms_31 (by decide +kernel) ?_
  obtain ⟨hi, h⟩ := h
  refine k_iald cx ar_LC hi dL_areRooms_32 ?_
  refine k_icmp_ge (tgt := 128) cx dL_areRooms_33 (by decide) (fun hc => ?_) (fun hc => ?_)
  · replace h := h.1 hc
    refine k_aload_n cx dL_areRooms_128 rfl rfl ?_
    refine k_iload cx dL_areRooms_129 rfl ?_
    refine k_iconst (v := (0 : Int32)) cx dL_areRooms_131 (by decide +kernel) ?_
    obtain ⟨q0, qx0, h0, hq0, hx0⟩ := h
    refine k_callXd (As := [.int x6, .int (0 : Int32)]) (rest := []) (n2 := (n + 1)) hcx bx (m_X7_ofNode bx.2.2.2 h0) hx0 lk_L_68 cv_L_68 ob_ML rfl rfl rfl rfl (Nat.le_of_ble_eq_true rfl) ⟨Nat.le_of_ble_eq_true rfl, Nat.le_of_ble_eq_true rfl⟩ (by omega) (by omega) dL_areRooms_132 (fun v μ_1 hq => ?_)
    obtain ⟨z2, rfl, h⟩ := hq
    replace h := hq0 _ _ h
    have cx := hcx (n + 1) (by omega)
    refine k_aload_n cx dL_areRooms_135 rfl rfl ?_
    refine k_iload cx dL_areRooms_136 rfl ?_
    obtain ⟨hi, h⟩ := h
    refine k_iald cx ar_LG hi dL_areRooms_138 ?_
    refine k_iload cx dL_areRooms_139 rfl ?_
    refine k_isub cx dL_areRooms_141 ?_
    refine k_icmp_ne (tgt := 170) cx dL_areRooms_142 (by decide) (fun hc => ?_) (fun hc => ?_)
    · replace h := h.1 hc
      exact h.elim
    · replace h := h.2 hc
      refine k_iload cx dL_areRooms_145 rfl ?_
      refine k_aload_n cx dL_areRooms_147 rfl rfl ?_
      refine k_iload cx dL_areRooms_148 rfl ?_
      obtain ⟨hi, h⟩ := h
      refine k_iald cx ar_LG hi dL_areRooms_150 ?_
      refine k_icmp_gt (tgt := 170) cx dL_areRooms_151 (by decide) (fun hc => ?_) (fun hc => ?_)
      · replace h := h.1 hc
        exact h.elim
      · replace h := h.2 hc
        refine k_aload_n cx dL_areRooms_154 rfl rfl ?_
        refine k_iload cx dL_areRooms_155 rfl ?_
        refine k_iconst (v := (1 : Int32)) cx dL_areRooms_157 (by decide +kernel) ?_
        obtain ⟨q0, qx0, h0, hq0, hx0⟩ := h
        refine k_callXd (As := [.int x6, .int (1 : Int32)]) (rest := []) (n2 := (n + 2)) hcx bx (m_X7_ofNode bx.2.2.2 h0) hx0 lk_L_68 cv_L_68 ob_ML rfl rfl rfl rfl (Nat.le_of_ble_eq_true rfl) ⟨Nat.le_of_ble_eq_true rfl, Nat.le_of_ble_eq_true rfl⟩ (by omega) (by omega) dL_areRooms_158 (fun v μ_3 hq => ?_)
        obtain ⟨z4, rfl, h⟩ := hq
        replace h := hq0 _ _ h
        have cx := hcx (n + 2) (by omega)
        refine k_iload cx dL_areRooms_161 rfl ?_
        refine k_icmp_ne (tgt := 170) cx dL_areRooms_163 (by decide) (fun hc => ?_) (fun hc => ?_)
        · replace h := h.1 hc
          exact h.elim
        · replace h := h.2 hc
          refine k_iconst (v := (1 : Int32)) cx dL_areRooms_166 (by decide +kernel) ?_
          refine k_goto (tgt := 171) cx dL_areRooms_167 (by decide) ?_
          refine k_istore cx dL_areRooms_171 (by decide) ?_
          refine k_iinc (v := (x6 + (1 : Int32))) cx dL_areRooms_173 rfl rfl (by decide) ?_
          refine k_goto (tgt := 6) cx dL_areRooms_176 (by decide) ?_
          exact k_weak h (lsLe.keep (lsLe.keep (lsLe.keep (lsLe.keep (lsLe.keep (lsLe.keep (lsLe.keep (lsLe.drop (lsLe.drop (lsLe.drop (lsLe.keep (lsLe.keep (lsLe.keep lsLe.nil)))))))))))))
  · replace h := h.2 hc
    refine k_iconst (v := (0 : Int32)) cx dL_areRooms_36 (by decide +kernel) ?_
    refine k_istore cx dL_areRooms_37 (by decide) ?_
    exact k_weak h (lsLe.keep (lsLe.keep (lsLe.keep (lsLe.keep (lsLe.keep (lsLe.keep (lsLe.keep (lsLe.keep (lsLe.keep (lsLe.keep (lsLe.keep (lsLe.keep (lsLe.keep lsLe.nil)))))))))))))
set_option maxHeartbeats 4000000 in
theorem b_L_areRooms_39 {g : GE} {f : FE} {z : ScT} {q : Mm → Prop} (hcx : (∀ n, n ≤ 2000 → Cx g f cL_areRooms 13 RL 7 115 n (6 * n))) (bx : BXl g z f) (hr : (f_M f).sig.returnType = (some .boolean)) (rx : RXl g f 2000 (qTr q)) {x6 : Int32} {x7 : Int32} {x8 : Int32} {x9 : Int32} {x10 : Int32} {n : Nat} {μ : Mm} (h : F_L_areRooms_39 z (KK_L_areRooms_6 g f z) (KK_L_areRooms_28 g f z) (KK_L_areRooms_39 g f z) (KK_L_areRooms_90 g f z) (KK_L_areRooms_182 g f z) (KK_L_areRooms_286 g f z) (KK_L_areRooms_319 g f z) (KK_L_areRooms_335 g f z) (KK_L_areRooms_372 g f z) q x6 x7 x8 x9 x10 n μ) : KW g f 13 n (6 * n) 39 [some (.ref p_ML), some (.ref p_LC), some (.ref p_LG), some (.ref p_LL), some (.ref p_LP), none, some (.int x6), some (.int x7), some (.int x8), some (.int x9), some (.int x10), none, none] [] μ := by
  unfold F_L_areRooms_39 at h
  obtain ⟨hn, h⟩ := h
  have cx := hcx n (by omega)
  refine k_iload cx dL_areRooms_39 rfl ?_
  refine k_aload_n cx dL_areRooms_41 rfl rfl ?_
  refine k_iload cx dL_areRooms_42 rfl ?_
  refine k_iconst (v := (3 : Int32)) cx dL_areRooms_44 (by decide +kernel) ?_
  obtain ⟨q0, qx0, h0, hq0, hx0⟩ := h
  refine k_callXd (As := [.int x9, .int (3 : Int32)]) (rest := [.int x10]) (n2 := (n + 1)) hcx bx (m_X7_told bx.2.2.2 h0) hx0 lk_L_43 cv_L_43 ob_ML rfl rfl rfl rfl (Nat.le_of_ble_eq_true rfl) ⟨Nat.le_of_ble_eq_true rfl, Nat.le_of_ble_eq_true rfl⟩ (by omega) (by omega) dL_areRooms_45 (fun v μ_1 hq => ?_)
  obtain ⟨z2, rfl, h⟩ := hq
  replace h := hq0 _ _ h
  have cx := hcx (n + 1) (by omega)
  refine k_icmp_ge (tgt := 122) cx dL_areRooms_48 (by decide) (fun hc => ?_) (fun hc => ?_)
  · replace h := h.1 hc
    refine k_iinc (v := (x9 + (1 : Int32))) cx dL_areRooms_122 rfl rfl (by decide) ?_
    refine k_goto (tgt := 28) cx dL_areRooms_125 (by decide) ?_
    exact k_weak h (lsLe.keep (lsLe.keep (lsLe.keep (lsLe.keep (lsLe.keep (lsLe.keep (lsLe.keep (lsLe.keep (lsLe.keep (lsLe.keep (lsLe.drop (lsLe.keep (lsLe.keep lsLe.nil)))))))))))))
  · replace h := h.2 hc
    refine k_aload_n cx dL_areRooms_51 rfl rfl ?_
    refine k_iload cx dL_areRooms_52 rfl ?_
    refine k_iconst (v := (0 : Int32)) cx dL_areRooms_54 (by decide +kernel) ?_
    obtain ⟨q0, qx0, h0, hq0, hx0⟩ := h
    refine k_callXd (As := [.int x9, .int (0 : Int32)]) (rest := []) (n2 := (n + 2)) hcx bx (m_X7_told bx.2.2.2 h0) hx0 lk_L_43 cv_L_43 ob_ML rfl rfl rfl rfl (Nat.le_of_ble_eq_true rfl) ⟨Nat.le_of_ble_eq_true rfl, Nat.le_of_ble_eq_true rfl⟩ (by omega) (by omega) dL_areRooms_55 (fun v μ_3 hq => ?_)
    obtain ⟨z4, rfl, h⟩ := hq
    replace h := hq0 _ _ h
    have cx := hcx (n + 2) (by omega)
    refine k_if_ne (tgt := 122) cx dL_areRooms_58 (by decide) (fun hc => ?_) (fun hc => ?_)
    · replace h := h.1 hc
      refine k_iinc (v := (x9 + (1 : Int32))) cx dL_areRooms_122 rfl rfl (by decide) ?_
      refine k_goto (tgt := 28) cx dL_areRooms_125 (by decide) ?_
      exact k_weak h (lsLe.keep (lsLe.keep (lsLe.keep (lsLe.keep (lsLe.keep (lsLe.keep (lsLe.keep (lsLe.keep (lsLe.keep (lsLe.keep (lsLe.drop (lsLe.keep (lsLe.keep lsLe.nil)))))))))))))
    · replace h := h.2 hc
      refine k_iload cx dL_areRooms_61 rfl ?_
      refine k_aload_n cx dL_areRooms_63 rfl rfl ?_
      refine k_iload cx dL_areRooms_64 rfl ?_
      refine k_iload cx dL_areRooms_66 rfl ?_
      obtain ⟨q0, qx0, h0, hq0, hx0⟩ := h
      refine k_callXd (As := [.int x9, .int x10]) (rest := [.int x7]) (n2 := (n + 3)) hcx bx (m_X7_at bx.2.2.2 h0) hx0 lk_L_58 cv_L_58 ob_ML rfl rfl rfl rfl (Nat.le_of_ble_eq_true rfl) ⟨Nat.le_of_ble_eq_true rfl, Nat.le_of_ble_eq_true rfl⟩ (by omega) (by omega) dL_areRooms_68 (fun v μ_5 hq => ?_)
      obtain ⟨z6, rfl, h⟩ := hq
      replace h := hq0 _ _ h
      have cx := hcx (n + 3) (by omega)
      refine k_iload cx dL_areRooms_71 rfl ?_
      refine k_icmp_ne (tgt := 89) cx dL_areRooms_73 (by decide) (fun hc => ?_) (fun hc => ?_)
      · replace h := h.1 hc
        refine k_iconst (v := (0 : Int32)) cx dL_areRooms_89 (by decide +kernel) ?_
        exact k_weak h (lsLe.keep (lsLe.keep (lsLe.keep (lsLe.keep (lsLe.keep (lsLe.keep (lsLe.keep (lsLe.drop (lsLe.keep (lsLe.keep (lsLe.keep (lsLe.keep (lsLe.keep lsLe.nil)))))))))))))
      · replace h := h.2 hc
        refine k_aload cx dL_areRooms_76 rfl ?_
        refine k_iconst (v := (3 : Int32)) cx dL_areRooms_78 (by decide +kernel) ?_
        refine k_iload cx dL_areRooms_79 rfl ?_
        refine k_imul cx dL_areRooms_81 ?_
        refine k_iload cx dL_areRooms_82 rfl ?_
        refine k_iadd cx dL_areRooms_84 ?_
        obtain ⟨hi, h⟩ := h
        refine k_iald cx ar_LP hi dL_areRooms_85 ?_
        refine k_goto (tgt := 90) cx dL_areRooms_86 (by decide) ?_
        exact k_weak h (lsLe.keep (lsLe.keep (lsLe.keep (lsLe.keep (lsLe.keep (lsLe.keep (lsLe.keep (lsLe.drop (lsLe.keep (lsLe.keep (lsLe.keep (lsLe.keep (lsLe.keep lsLe.nil)))))))))))))
set_option maxHeartbeats 4000000 in
theorem b_L_areRooms_90 {g : GE} {f : FE} {z : ScT} {q : Mm → Prop} (hcx : (∀ n, n ≤ 2000 → Cx g f cL_areRooms 13 RL 7 115 n (6 * n))) (bx : BXl g z f) (hr : (f_M f).sig.returnType = (some .boolean)) (rx : RXl g f 2000 (qTr q)) {x6 : Int32} {x8 : Int32} {x9 : Int32} {x10 : Int32} {y0 : Int32} {y1 : Int32} {n : Nat} {μ : Mm} (h : F_L_areRooms_90 z (KK_L_areRooms_6 g f z) (KK_L_areRooms_28 g f z) (KK_L_areRooms_39 g f z) (KK_L_areRooms_90 g f z) (KK_L_areRooms_182 g f z) (KK_L_areRooms_286 g f z) (KK_L_areRooms_319 g f z) (KK_L_areRooms_335 g f z) (KK_L_areRooms_372 g f z) q x6 x8 x9 x10 y0 y1 n μ) : KW g f 13 n (6 * n) 90 [some (.ref p_ML), some (.ref p_LC), some (.ref p_LG), some (.ref p_LL), some (.ref p_LP), none, some (.int x6), none, some (.int x8), some (.int x9), some (.int x10), none, none] [.int y0, .int y1] μ := by
  unfold F_L_areRooms_90 at h
  obtain ⟨hn, h⟩ := h
  have cx := hcx n (by omega)
  refine k_iadd cx dL_areRooms_90 ?_
  refine k_istore cx dL_areRooms_91 (by decide) ?_
  generalize ev7_1 : (y1 + y0) = v7_1
  replace h := h v7_1 ev7_1.symm
  refine k_iload cx dL_areRooms_93 rfl ?_
  refine k_aload_n cx dL_areRooms_95 rfl rfl ?_
  refine k_iload cx dL_areRooms_96 rfl ?_
  refine k_iload cx dL_areRooms_98 rfl ?_
  obtain ⟨q0, qx0, h0, hq0, hx0⟩ := h
  refine k_callXd (As := [.int x9, .int x10]) (rest := [.int x8]) (n2 := (n + 1)) hcx bx (m_X7_at bx.2.2.2 h0) hx0 lk_L_58 cv_L_58 ob_ML rfl rfl rfl rfl (Nat.le_of_ble_eq_true rfl) ⟨Nat.le_of_ble_eq_true rfl, Nat.le_of_ble_eq_true rfl⟩ (by omega) (by omega) dL_areRooms_100 (fun v μ_2 hq => ?_)
  obtain ⟨z3, rfl, h⟩ := hq
  replace h := hq0 _ _ h
  have cx := hcx (n + 1) (by omega)
  refine k_iload cx dL_areRooms_103 rfl ?_
  refine k_icmp_ne (tgt := 112) cx dL_areRooms_105 (by decide) (fun hc => ?_) (fun hc => ?_)
  · replace h := h.1 hc
    refine k_iconst (v := (0 : Int32)) cx dL_areRooms_112 (by decide +kernel) ?_
    refine k_iadd cx dL_areRooms_113 ?_
    refine k_istore cx dL_areRooms_114 (by decide) ?_
    generalize ev8_4 : (x8 + (0 : Int32)) = v8_4
    replace h := h v8_4 ev8_4.symm
    refine k_iinc (v := (x10 + (1 : Int32))) cx dL_areRooms_116 rfl rfl (by decide) ?_
    refine k_goto (tgt := 39) cx dL_areRooms_119 (by decide) ?_
    exact k_weak h (lsLe.keep (lsLe.keep (lsLe.keep (lsLe.keep (lsLe.keep (lsLe.keep (lsLe.keep (lsLe.keep (lsLe.keep (lsLe.keep (lsLe.keep (lsLe.keep (lsLe.keep lsLe.nil)))))))))))))
  · replace h := h.2 hc
    refine k_iconst (v := (1 : Int32)) cx dL_areRooms_108 (by decide +kernel) ?_
    refine k_goto (tgt := 113) cx dL_areRooms_109 (by decide) ?_
    refine k_iadd cx dL_areRooms_113 ?_
    refine k_istore cx dL_areRooms_114 (by decide) ?_
    generalize ev8_5 : (x8 + (1 : Int32)) = v8_5
    replace h := h v8_5 ev8_5.symm
    refine k_iinc (v := (x10 + (1 : Int32))) cx dL_areRooms_116 rfl rfl (by decide) ?_
    refine k_goto (tgt := 39) cx dL_areRooms_119 (by decide) ?_
    exact k_weak h (lsLe.keep (lsLe.keep (lsLe.keep (lsLe.keep (lsLe.keep (lsLe.keep (lsLe.keep (lsLe.keep (lsLe.keep (lsLe.keep (lsLe.keep (lsLe.keep (lsLe.keep lsLe.nil)))))))))))))
set_option maxHeartbeats 4000000 in
theorem b_L_areRooms_182 {g : GE} {f : FE} {z : ScT} {q : Mm → Prop} (hcx : (∀ n, n ≤ 2000 → Cx g f cL_areRooms 13 RL 7 115 n (6 * n))) (bx : BXl g z f) (hr : (f_M f).sig.returnType = (some .boolean)) (rx : RXl g f 2000 (qTr q)) {x6 : Int32} {n : Nat} {μ : Mm} (h : F_L_areRooms_182 z (KK_L_areRooms_6 g f z) (KK_L_areRooms_28 g f z) (KK_L_areRooms_39 g f z) (KK_L_areRooms_90 g f z) (KK_L_areRooms_182 g f z) (KK_L_areRooms_286 g f z) (KK_L_areRooms_319 g f z) (KK_L_areRooms_335 g f z) (KK_L_areRooms_372 g f z) q x6 n μ) : KW g f 13 n (6 * n) 182 [some (.ref p_ML), some (.ref p_LC), none, some (.ref p_LL), none, some (.int (1 : Int32)), some (.int x6), none, none, none, none, none, none] [] μ := by
  unfold F_L_areRooms_182 at h
  obtain ⟨hn, h⟩ := h
  have cx := hcx n (by omega)
  refine k_iload cx dL_areRooms_182 rfl ?_
  refine k_aload_n cx dL_areRooms_184 rfl rfl ?_
  refine k_iconst (v := (1 : Int32)) cx dL_areRooms_185 (by decide +kernel) ?_
  obtain ⟨hi, h⟩ := h
  refine k_iald cx ar_LC hi dL_areRooms_186 ?_
  refine k_icmp_ge (tgt := 397) cx dL_areRooms_187 (by decide) (fun hc => ?_) (fun hc => ?_)
  · replace h := h.1 hc
    refine k_iload cx dL_areRooms_397 rfl ?_
    exact k_bret_T cx hr rx (by omega) dL_areRooms_399 h
  · replace h := h.2 hc
    refine k_iload cx dL_areRooms_190 rfl ?_
    refine k_if_eq (tgt := 397) cx dL_areRooms_192 (by decide) (fun hc => absurd hc (by decide)) (fun _ => ?_)
    refine k_aload_n cx dL_areRooms_195 rfl rfl ?_
    refine k_iconst (v := (3 : Int32)) cx dL_areRooms_196 (by decide +kernel) ?_
    refine k_iload cx dL_areRooms_197 rfl ?_
    refine k_imul cx dL_areRooms_199 ?_
    refine k_iconst (v := (2 : Int32)) cx dL_areRooms_200 (by decide +kernel) ?_
    refine k_iadd cx dL_areRooms_201 ?_
    obtain ⟨hi, h⟩ := h
    refine k_iald cx ar_LL hi dL_areRooms_202 ?_
    refine k_istore cx dL_areRooms_203 (by decide) ?_
    generalize ev7_1 : (μ p_LL ((((3 : Int32) * x6) + (2 : Int32))).toNatClampNeg) = v7_1
    replace h := h v7_1 ev7_1.symm
    refine k_aload_n cx dL_areRooms_205 rfl rfl ?_
    refine k_iload cx dL_areRooms_206 rfl ?_
    refine k_iconst (v := (0 : Int32)) cx dL_areRooms_208 (by decide +kernel) ?_
    obtain ⟨q0, qx0, h0, hq0, hx0⟩ := h
    refine k_callXd (As := [.int x6, .int (0 : Int32)]) (rest := []) (n2 := (n + 1)) hcx bx (m_X7_ofLink bx.2.2.2 h0) hx0 lk_L_71 cv_L_71 ob_ML rfl rfl rfl rfl (Nat.le_of_ble_eq_true rfl) ⟨Nat.le_of_ble_eq_true rfl, Nat.le_of_ble_eq_true rfl⟩ (by omega) (by omega) dL_areRooms_209 (fun v μ_2 hq => ?_)
    obtain ⟨z3, rfl, h⟩ := hq
    replace h := hq0 _ _ h
    have cx := hcx (n + 1) (by omega)
    refine k_istore cx dL_areRooms_212 (by decide) ?_
    refine k_aload_n cx dL_areRooms_214 rfl rfl ?_
    refine k_iload cx dL_areRooms_215 rfl ?_
    refine k_iconst (v := (1 : Int32)) cx dL_areRooms_217 (by decide +kernel) ?_
    obtain ⟨q0, qx0, h0, hq0, hx0⟩ := h
    refine k_callXd (As := [.int x6, .int (1 : Int32)]) (rest := []) (n2 := (n + 2)) hcx bx (m_X7_ofLink bx.2.2.2 h0) hx0 lk_L_71 cv_L_71 ob_ML rfl rfl rfl rfl (Nat.le_of_ble_eq_true rfl) ⟨Nat.le_of_ble_eq_true rfl, Nat.le_of_ble_eq_true rfl⟩ (by omega) (by omega) dL_areRooms_218 (fun v μ_4 hq => ?_)
    obtain ⟨z5, rfl, h⟩ := hq
    replace h := hq0 _ _ h
    have cx := hcx (n + 2) (by omega)
    refine k_istore cx dL_areRooms_221 (by decide) ?_
    refine k_iconst (v := (0 : Int32)) cx dL_areRooms_223 (by decide +kernel) ?_
    refine k_istore cx dL_areRooms_224 (by decide) ?_
    refine k_iload cx dL_areRooms_226 rfl ?_
    refine k_if_lt (tgt := 280) cx dL_areRooms_228 (by decide) (fun hc => ?_) (fun hc => ?_)
    · replace h := h.1 hc
      exact h.elim
    · replace h := h.2 hc
      refine k_iload cx dL_areRooms_231 rfl ?_
      refine k_if_lt (tgt := 280) cx dL_areRooms_233 (by decide) (fun hc => ?_) (fun hc => ?_)
      · replace h := h.1 hc
        exact h.elim
      · replace h := h.2 hc
        refine k_aload_n cx dL_areRooms_236 rfl rfl ?_
        refine k_iload cx dL_areRooms_237 rfl ?_
        refine k_iconst (v := (2 : Int32)) cx dL_areRooms_239 (by decide +kernel) ?_
        obtain ⟨q0, qx0, h0, hq0, hx0⟩ := h
        refine k_callXd (As := [.int x6, .int (2 : Int32)]) (rest := []) (n2 := (n + 3)) hcx bx (m_X7_ofLink bx.2.2.2 h0) hx0 lk_L_71 cv_L_71 ob_ML rfl rfl rfl rfl (Nat.le_of_ble_eq_true rfl) ⟨Nat.le_of_ble_eq_true rfl, Nat.le_of_ble_eq_true rfl⟩ (by omega) (by omega) dL_areRooms_240 (fun v μ_6 hq => ?_)
        obtain ⟨z7, rfl, h⟩ := hq
        replace h := hq0 _ _ h
        have cx := hcx (n + 3) (by omega)
        refine k_iload cx dL_areRooms_243 rfl ?_
        refine k_iload cx dL_areRooms_245 rfl ?_
        refine k_isub cx dL_areRooms_247 ?_
        refine k_iload cx dL_areRooms_248 rfl ?_
        refine k_isub cx dL_areRooms_250 ?_
        refine k_icmp_ne (tgt := 280) cx dL_areRooms_251 (by decide) (fun hc => ?_) (fun hc => ?_)
        · replace h := h.1 hc
          exact h.elim
        · replace h := h.2 hc
          refine k_iload cx dL_areRooms_254 rfl ?_
          refine k_iload cx dL_areRooms_256 rfl ?_
          refine k_iadd cx dL_areRooms_258 ?_
          refine k_iload cx dL_areRooms_259 rfl ?_
          refine k_icmp_gt (tgt := 280) cx dL_areRooms_261 (by decide) (fun hc => ?_) (fun hc => ?_)
          · replace h := h.1 hc
            exact h.elim
          · replace h := h.2 hc
            refine k_aload_n cx dL_areRooms_264 rfl rfl ?_
            refine k_iload cx dL_areRooms_265 rfl ?_
            refine k_iconst (v := (-1 : Int32)) cx dL_areRooms_267 (by decide +kernel) ?_
            obtain ⟨q0, qx0, h0, hq0, hx0⟩ := h
            refine k_callXd (As := [.int x6, .int (-1 : Int32)]) (rest := []) (n2 := (n + 4)) hcx bx (m_X7_load bx.2.2.2 h0) hx0 lk_L_74 cv_L_74 ob_ML rfl rfl rfl rfl (Nat.le_of_ble_eq_true rfl) ⟨Nat.le_of_ble_eq_true rfl, Nat.le_of_ble_eq_true rfl⟩ (by omega) (by omega) dL_areRooms_268 (fun v μ_8 hq => ?_)
            obtain ⟨z9, rfl, h⟩ := hq
            replace h := hq0 _ _ h
            have cx := hcx (n + 4) (by omega)
            refine k_iload cx dL_areRooms_271 rfl ?_
            refine k_icmp_ne (tgt := 280) cx dL_areRooms_273 (by decide) (fun hc => ?_) (fun hc => ?_)
            · replace h := h.1 hc
              exact h.elim
            · replace h := h.2 hc
              refine k_iconst (v := (1 : Int32)) cx dL_areRooms_276 (by decide +kernel) ?_
              refine k_goto (tgt := 281) cx dL_areRooms_277 (by decide) ?_
              refine k_istore cx dL_areRooms_281 (by decide) ?_
              refine k_iconst (v := (0 : Int32)) cx dL_areRooms_283 (by decide +kernel) ?_
              refine k_istore cx dL_areRooms_284 (by decide) ?_
              exact k_weak h (lsLe.keep (lsLe.keep (lsLe.keep (lsLe.keep (lsLe.keep (lsLe.keep (lsLe.keep (lsLe.keep (lsLe.keep (lsLe.keep (lsLe.keep (lsLe.keep (lsLe.keep lsLe.nil)))))))))))))
set_option maxHeartbeats 4000000 in
theorem b_L_areRooms_286 {g : GE} {f : FE} {z : ScT} {q : Mm → Prop} (hcx : (∀ n, n ≤ 2000 → Cx g f cL_areRooms 13 RL 7 115 n (6 * n))) (bx : BXl g z f) (hr : (f_M f).sig.returnType = (some .boolean)) (rx : RXl g f 2000 (qTr q)) {x6 : Int32} {x7 : Int32} {x8 : Int32} {x9 : Int32} {x10 : Int32} {x11 : Int32} {n : Nat} {μ : Mm} (h : F_L_areRooms_286 z (KK_L_areRooms_6 g f z) (KK_L_areRooms_28 g f z) (KK_L_areRooms_39 g f z) (KK_L_areRooms_90 g f z) (KK_L_areRooms_182 g f z) (KK_L_areRooms_286 g f z) (KK_L_areRooms_319 g f z) (KK_L_areRooms_335 g f z) (KK_L_areRooms_372 g f z) q x6 x7 x8 x9 x10 x11 n μ) : KW g f 13 n (6 * n) 286 [some (.ref p_ML), some (.ref p_LC), none, some (.ref p_LL), none, some (.int (1 : Int32)), some (.int x6), some (.int x7), some (.int x8), some (.int x9), some (.int x10), some (.int x11), none] [] μ := by
  unfold F_L_areRooms_286 at h
  obtain ⟨hn, h⟩ := h
  have cx := hcx n (by omega)
  refine k_iload cx dL_areRooms_286 rfl ?_
  refine k_aload_n cx dL_areRooms_288 rfl rfl ?_
  refine k_iconst (v := (1 : Int32)) cx dL_areRooms_289 (by decide +kernel) ?_
  obtain ⟨hi, h⟩ := h
  refine k_iald cx ar_LC hi dL_areRooms_290 ?_
  refine k_icmp_ge (tgt := 372) cx dL_areRooms_291 (by decide) (fun hc => ?_) (fun hc => ?_)
  · replace h := h.1 hc
    exact k_weak h (lsLe.keep (lsLe.keep (lsLe.keep (lsLe.keep (lsLe.keep (lsLe.keep (lsLe.keep (lsLe.drop (lsLe.keep (lsLe.drop (lsLe.keep (lsLe.drop (lsLe.keep lsLe.nil)))))))))))))
  · replace h := h.2 hc
    refine k_iload cx dL_areRooms_294 rfl ?_
    refine k_if_eq (tgt := 372) cx dL_areRooms_296 (by decide) (fun hc => absurd hc (by decide)) (fun _ => ?_)
    refine k_iload cx dL_areRooms_299 rfl ?_
    refine k_iload cx dL_areRooms_301 rfl ?_
    refine k_icmp_ne (tgt := 311) cx dL_areRooms_303 (by decide) (fun hc => ?_) (fun hc => ?_)
    · replace h := h.1 hc
      refine k_aload_n cx dL_areRooms_311 rfl rfl ?_
      refine k_iload cx dL_areRooms_312 rfl ?_
      refine k_iload cx dL_areRooms_314 rfl ?_
      obtain ⟨q0, qx0, h0, hq0, hx0⟩ := h
      refine k_callXd (As := [.int x6, .int x11]) (rest := []) (n2 := (n + 1)) hcx bx (m_X7_load bx.2.2.2 h0) hx0 lk_L_74 cv_L_74 ob_ML rfl rfl rfl rfl (Nat.le_of_ble_eq_true rfl) ⟨Nat.le_of_ble_eq_true rfl, Nat.le_of_ble_eq_true rfl⟩ (by omega) (by omega) dL_areRooms_316 (fun v μ_1 hq => ?_)
      obtain ⟨z2, rfl, h⟩ := hq
      replace h := hq0 _ _ h
      have cx := hcx (n + 1) (by omega)
      exact k_weak h (lsLe.keep (lsLe.keep (lsLe.keep (lsLe.keep (lsLe.keep (lsLe.drop (lsLe.keep (lsLe.keep (lsLe.keep (lsLe.keep (lsLe.keep (lsLe.keep (lsLe.keep lsLe.nil)))))))))))))
    · replace h := h.2 hc
      refine k_iload cx dL_areRooms_306 rfl ?_
      refine k_goto (tgt := 319) cx dL_areRooms_308 (by decide) ?_
      exact k_weak h (lsLe.keep (lsLe.keep (lsLe.keep (lsLe.keep (lsLe.keep (lsLe.drop (lsLe.keep (lsLe.keep (lsLe.keep (lsLe.keep (lsLe.keep (lsLe.keep (lsLe.keep lsLe.nil)))))))))))))
set_option maxHeartbeats 4000000 in
theorem b_L_areRooms_319 {g : GE} {f : FE} {z : ScT} {q : Mm → Prop} (hcx : (∀ n, n ≤ 2000 → Cx g f cL_areRooms 13 RL 7 115 n (6 * n))) (bx : BXl g z f) (hr : (f_M f).sig.returnType = (some .boolean)) (rx : RXl g f 2000 (qTr q)) {x6 : Int32} {x7 : Int32} {x8 : Int32} {x9 : Int32} {x10 : Int32} {x11 : Int32} {y0 : Int32} {n : Nat} {μ : Mm} (h : F_L_areRooms_319 z (KK_L_areRooms_6 g f z) (KK_L_areRooms_28 g f z) (KK_L_areRooms_39 g f z) (KK_L_areRooms_90 g f z) (KK_L_areRooms_182 g f z) (KK_L_areRooms_286 g f z) (KK_L_areRooms_319 g f z) (KK_L_areRooms_335 g f z) (KK_L_areRooms_372 g f z) q x6 x7 x8 x9 x10 x11 y0 n μ) : KW g f 13 n (6 * n) 319 [some (.ref p_ML), some (.ref p_LC), none, some (.ref p_LL), none, none, some (.int x6), some (.int x7), some (.int x8), some (.int x9), some (.int x10), some (.int x11), none] [.int y0] μ := by
  unfold F_L_areRooms_319 at h
  obtain ⟨hn, h⟩ := h
  have cx := hcx n (by omega)
  refine k_istore cx dL_areRooms_319 (by decide) ?_
  refine k_iload cx dL_areRooms_321 rfl ?_
  refine k_iload cx dL_areRooms_323 rfl ?_
  refine k_icmp_le (tgt := 333) cx dL_areRooms_325 (by decide) (fun hc => ?_) (fun hc => ?_)
  · replace h := h.1 hc
    refine k_iload cx dL_areRooms_333 rfl ?_
    exact k_weak h (lsLe.keep (lsLe.keep (lsLe.keep (lsLe.keep (lsLe.keep (lsLe.keep (lsLe.keep (lsLe.keep (lsLe.keep (lsLe.keep (lsLe.drop (lsLe.keep (lsLe.keep lsLe.nil)))))))))))))
  · replace h := h.2 hc
    refine k_iload cx dL_areRooms_328 rfl ?_
    refine k_goto (tgt := 335) cx dL_areRooms_330 (by decide) ?_
    exact k_weak h (lsLe.keep (lsLe.keep (lsLe.keep (lsLe.keep (lsLe.keep (lsLe.keep (lsLe.keep (lsLe.keep (lsLe.keep (lsLe.keep (lsLe.drop (lsLe.keep (lsLe.keep lsLe.nil)))))))))))))
set_option maxHeartbeats 4000000 in
theorem b_L_areRooms_335 {g : GE} {f : FE} {z : ScT} {q : Mm → Prop} (hcx : (∀ n, n ≤ 2000 → Cx g f cL_areRooms 13 RL 7 115 n (6 * n))) (bx : BXl g z f) (hr : (f_M f).sig.returnType = (some .boolean)) (rx : RXl g f 2000 (qTr q)) {x6 : Int32} {x7 : Int32} {x8 : Int32} {x9 : Int32} {x11 : Int32} {x12 : Int32} {y0 : Int32} {n : Nat} {μ : Mm} (h : F_L_areRooms_335 z (KK_L_areRooms_6 g f z) (KK_L_areRooms_28 g f z) (KK_L_areRooms_39 g f z) (KK_L_areRooms_90 g f z) (KK_L_areRooms_182 g f z) (KK_L_areRooms_286 g f z) (KK_L_areRooms_319 g f z) (KK_L_areRooms_335 g f z) (KK_L_areRooms_372 g f z) q x6 x7 x8 x9 x11 x12 y0 n μ) : KW g f 13 n (6 * n) 335 [some (.ref p_ML), some (.ref p_LC), none, some (.ref p_LL), none, none, some (.int x6), some (.int x7), some (.int x8), some (.int x9), none, some (.int x11), some (.int x12)] [.int y0] μ := by
  unfold F_L_areRooms_335 at h
  obtain ⟨hn, h⟩ := h
  have cx := hcx n (by omega)
  refine k_istore cx dL_areRooms_335 (by decide) ?_
  refine k_iload cx dL_areRooms_337 rfl ?_
  refine k_if_lt (tgt := 363) cx dL_areRooms_339 (by decide) (fun hc => ?_) (fun hc => ?_)
  · replace h := h.1 hc
    exact h.elim
  · replace h := h.2 hc
    refine k_iload cx dL_areRooms_342 rfl ?_
    refine k_iload cx dL_areRooms_344 rfl ?_
    refine k_iload cx dL_areRooms_346 rfl ?_
    refine k_iadd cx dL_areRooms_348 ?_
    refine k_icmp_gt (tgt := 363) cx dL_areRooms_349 (by decide) (fun hc => ?_) (fun hc => ?_)
    · replace h := h.1 hc
      exact h.elim
    · replace h := h.2 hc
      refine k_iload cx dL_areRooms_352 rfl ?_
      refine k_iload cx dL_areRooms_354 rfl ?_
      refine k_icmp_gt (tgt := 363) cx dL_areRooms_356 (by decide) (fun hc => ?_) (fun hc => ?_)
      · replace h := h.1 hc
        exact h.elim
      · replace h := h.2 hc
        refine k_iconst (v := (1 : Int32)) cx dL_areRooms_359 (by decide +kernel) ?_
        refine k_goto (tgt := 364) cx dL_areRooms_360 (by decide) ?_
        refine k_istore cx dL_areRooms_364 (by decide) ?_
        refine k_iinc (v := (x11 + (1 : Int32))) cx dL_areRooms_366 rfl rfl (by decide) ?_
        refine k_goto (tgt := 286) cx dL_areRooms_369 (by decide) ?_
        exact k_weak h (lsLe.keep (lsLe.keep (lsLe.keep (lsLe.keep (lsLe.keep (lsLe.keep (lsLe.keep (lsLe.keep (lsLe.keep (lsLe.keep (lsLe.keep (lsLe.keep (lsLe.drop lsLe.nil)))))))))))))
set_option maxHeartbeats 4000000 in
theorem b_L_areRooms_372 {g : GE} {f : FE} {z : ScT} {q : Mm → Prop} (hcx : (∀ n, n ≤ 2000 → Cx g f cL_areRooms 13 RL 7 115 n (6 * n))) (bx : BXl g z f) (hr : (f_M f).sig.returnType = (some .boolean)) (rx : RXl g f 2000 (qTr q)) {x6 : Int32} {x8 : Int32} {x10 : Int32} {n : Nat} {μ : Mm} (h : F_L_areRooms_372 z (KK_L_areRooms_6 g f z) (KK_L_areRooms_28 g f z) (KK_L_areRooms_39 g f z) (KK_L_areRooms_90 g f z) (KK_L_areRooms_182 g f z) (KK_L_areRooms_286 g f z) (KK_L_areRooms_319 g f z) (KK_L_areRooms_335 g f z) (KK_L_areRooms_372 g f z) q x6 x8 x10 n μ) : KW g f 13 n (6 * n) 372 [some (.ref p_ML), some (.ref p_LC), none, some (.ref p_LL), none, some (.int (1 : Int32)), some (.int x6), none, some (.int x8), none, some (.int x10), none, none] [] μ := by
  unfold F_L_areRooms_372 at h
  obtain ⟨hn, h⟩ := h
  have cx := hcx n (by omega)
  refine k_iload cx dL_areRooms_372 rfl ?_
  refine k_if_eq (tgt := 388) cx dL_areRooms_374 (by decide) (fun hc => absurd hc (by decide)) (fun _ => ?_)
  refine k_iload cx dL_areRooms_377 rfl ?_
  refine k_iload cx dL_areRooms_379 rfl ?_
  refine k_icmp_lt (tgt := 388) cx dL_areRooms_381 (by decide) (fun hc => ?_) (fun hc => ?_)
  · replace h := h.1 hc
    exact h.elim
  · replace h := h.2 hc
    refine k_iconst (v := (1 : Int32)) cx dL_areRooms_384 (by decide +kernel) ?_
    refine k_goto (tgt := 389) cx dL_areRooms_385 (by decide) ?_
    refine k_istore cx dL_areRooms_389 (by decide) ?_
    refine k_iinc (v := (x6 + (1 : Int32))) cx dL_areRooms_391 rfl rfl (by decide) ?_
    refine k_goto (tgt := 182) cx dL_areRooms_394 (by decide) ?_
    exact k_weak h (lsLe.keep (lsLe.keep (lsLe.keep (lsLe.keep (lsLe.keep (lsLe.keep (lsLe.keep (lsLe.keep (lsLe.drop (lsLe.keep (lsLe.drop (lsLe.keep (lsLe.keep lsLe.nil)))))))))))))
set_option maxHeartbeats 4000000 in
theorem b_L_areRooms_e {g : GE} {f : FE} {z : ScT} {q : Mm → Prop} (hcx : (∀ n, n ≤ 2000 → Cx g f cL_areRooms 13 RL 7 115 n (6 * n))) (bx : BXl g z f) (hr : (f_M f).sig.returnType = (some .boolean)) (rx : RXl g f 2000 (qTr q))  {μ : Mm} (h : F_L_areRooms_e z (KK_L_areRooms_6 g f z) (KK_L_areRooms_28 g f z) (KK_L_areRooms_39 g f z) (KK_L_areRooms_90 g f z) (KK_L_areRooms_182 g f z) (KK_L_areRooms_286 g f z) (KK_L_areRooms_319 g f z) (KK_L_areRooms_335 g f z) (KK_L_areRooms_372 g f z) q  μ) : KW g f 13 0 (6 * 0) 0 [some (.ref p_ML), some (.ref p_LC), some (.ref p_LG), some (.ref p_LL), some (.ref p_LP), none, none, none, none, none, none, none, none] [] μ := by
  unfold F_L_areRooms_e at h
  have cx := hcx 0 (by omega)
  refine k_iconst (v := (1 : Int32)) cx dL_areRooms_0 (by decide +kernel) ?_
  refine k_istore cx dL_areRooms_1 (by decide) ?_
  refine k_iconst (v := (0 : Int32)) cx dL_areRooms_3 (by decide +kernel) ?_
  refine k_istore cx dL_areRooms_4 (by decide) ?_
  exact k_weak h (lsLe.keep (lsLe.keep (lsLe.keep (lsLe.keep (lsLe.keep (lsLe.keep (lsLe.keep (lsLe.keep (lsLe.keep (lsLe.keep (lsLe.keep (lsLe.keep (lsLe.keep lsLe.nil)))))))))))))
theorem m_L_areRooms {g : GE} {z : ScT} {l : Launch} (hst : l.stackTraces = false) {μ : Mm} {q : Mm → Prop} (h : Wp_L_areRooms z  μ q) : MBl g z l yL_areRooms cL_areRooms 13 (some .boolean) 7 115 2000 [.ref p_ML, .ref p_LC, .ref p_LG, .ref p_LL, .ref p_LP] μ (qTr q) := by
  refine bmet_of hst (by decide) (Nat.le_of_ble_eq_true rfl) (by intro v hv; simp only [List.mem_cons, List.not_mem_nil, or_false] at hv; rcases hv with rfl | rfl | rfl | rfl | rfl <;> rfl) ?_
  intro f hfl hcx bx hr rx
  exact b_L_areRooms_e hcx bx hr rx (h (KK_L_areRooms_6 g f z) (KK_L_areRooms_28 g f z) (KK_L_areRooms_39 g f z) (KK_L_areRooms_90 g f z) (KK_L_areRooms_182 g f z) (KK_L_areRooms_286 g f z) (KK_L_areRooms_319 g f z) (KK_L_areRooms_335 g f z) (KK_L_areRooms_372 g f z) (fun _ _ _ h => b_L_areRooms_6 hcx bx hr rx h) (fun _ _ _ _ _ _ h => b_L_areRooms_28 hcx bx hr rx h) (fun _ _ _ _ _ _ _ h => b_L_areRooms_39 hcx bx hr rx h) (fun _ _ _ _ _ _ _ _ h => b_L_areRooms_90 hcx bx hr rx h) (fun _ _ _ h => b_L_areRooms_182 hcx bx hr rx h) (fun _ _ _ _ _ _ _ _ h => b_L_areRooms_286 hcx bx hr rx h) (fun _ _ _ _ _ _ _ _ _ h => b_L_areRooms_319 hcx bx hr rx h) (fun _ _ _ _ _ _ _ _ _ h => b_L_areRooms_335 hcx bx hr rx h) (fun _ _ _ _ _ h => b_L_areRooms_372 hcx bx hr rx h))

theorem dL_isSound_0 : decode cL_isSound 0 = .ok (.aload_n 0, 1) := by decide +kernel
theorem dL_isSound_1 : decode cL_isSound 1 = .ok (.invokevirtual 77, 3) := by decide +kernel
theorem dL_isSound_4 : decode cL_isSound 4 = .ok (.aload_n 1, 1) := by decide +kernel
theorem dL_isSound_5 : decode cL_isSound 5 = .ok (.iconst 3, 1) := by decide +kernel
theorem dL_isSound_6 : decode cL_isSound 6 = .ok (.iaload, 1) := by decide +kernel
theorem dL_isSound_7 : decode cL_isSound 7 = .ok (.if_icmp .ne 23, 3) := by decide +kernel
theorem dL_isSound_10 : decode cL_isSound 10 = .ok (.aload_n 0, 1) := by decide +kernel
theorem dL_isSound_11 : decode cL_isSound 11 = .ok (.bipush 7, 2) := by decide +kernel
theorem dL_isSound_13 : decode cL_isSound 13 = .ok (.aload_n 1, 1) := by decide +kernel
theorem dL_isSound_14 : decode cL_isSound 14 = .ok (.iconst 2, 1) := by decide +kernel
theorem dL_isSound_15 : decode cL_isSound 15 = .ok (.iaload, 1) := by decide +kernel
theorem dL_isSound_16 : decode cL_isSound 16 = .ok (.iconst 0, 1) := by decide +kernel
theorem dL_isSound_17 : decode cL_isSound 17 = .ok (.iconst 0, 1) := by decide +kernel
theorem dL_isSound_18 : decode cL_isSound 18 = .ok (.invokestatic 81, 3) := by decide +kernel
theorem dL_isSound_21 : decode cL_isSound 21 = .ok (.ldc 48, 2) := by decide +kernel
theorem dL_isSound_23 : decode cL_isSound 23 = .ok (.if_icmp .ne 7, 3) := by decide +kernel
theorem dL_isSound_26 : decode cL_isSound 26 = .ok (.iconst 1, 1) := by decide +kernel
theorem dL_isSound_27 : decode cL_isSound 27 = .ok (.goto 4, 3) := by decide +kernel
theorem dL_isSound_31 : decode cL_isSound 31 = .ok (.istore 7, 2) := by decide +kernel
theorem dL_isSound_33 : decode cL_isSound 33 = .ok (.iconst 0, 1) := by decide +kernel
theorem dL_isSound_34 : decode cL_isSound 34 = .ok (.istore 8, 2) := by decide +kernel
theorem dL_isSound_36 : decode cL_isSound 36 = .ok (.iload 8, 2) := by decide +kernel
theorem dL_isSound_38 : decode cL_isSound 38 = .ok (.aload_n 1, 1) := by decide +kernel
theorem dL_isSound_39 : decode cL_isSound 39 = .ok (.iconst 2, 1) := by decide +kernel
theorem dL_isSound_40 : decode cL_isSound 40 = .ok (.iaload, 1) := by decide +kernel
theorem dL_isSound_41 : decode cL_isSound 41 = .ok (.if_icmp .ge 28, 3) := by decide +kernel
theorem dL_isSound_44 : decode cL_isSound 44 = .ok (.iload 7, 2) := by decide +kernel
theorem dL_isSound_46 : decode cL_isSound 46 = .ok (.ifCond .eq 23, 3) := by decide +kernel
theorem dL_isSound_49 : decode cL_isSound 49 = .ok (.aload_n 0, 1) := by decide +kernel
theorem dL_isSound_50 : decode cL_isSound 50 = .ok (.iload 8, 2) := by decide +kernel
theorem dL_isSound_52 : decode cL_isSound 52 = .ok (.aload_n 1, 1) := by decide +kernel
theorem dL_isSound_53 : decode cL_isSound 53 = .ok (.aload_n 3, 1) := by decide +kernel
theorem dL_isSound_54 : decode cL_isSound 54 = .ok (.aload 4, 2) := by decide +kernel
theorem dL_isSound_56 : decode cL_isSound 56 = .ok (.aload 6, 2) := by decide +kernel
theorem dL_isSound_58 : decode cL_isSound 58 = .ok (.invokestatic 85, 3) := by decide +kernel
theorem dL_isSound_61 : decode cL_isSound 61 = .ok (.istore 7, 2) := by decide +kernel
theorem dL_isSound_63 : decode cL_isSound 63 = .ok (.iinc 8 1, 3) := by decide +kernel
theorem dL_isSound_66 : decode cL_isSound 66 = .ok (.goto (-30), 3) := by decide +kernel
theorem dL_isSound_69 : decode cL_isSound 69 = .ok (.aload_n 0, 1) := by decide +kernel
theorem dL_isSound_70 : decode cL_isSound 70 = .ok (.invokevirtual 89, 3) := by decide +kernel
theorem dL_isSound_73 : decode cL_isSound 73 = .ok (.istore 8, 2) := by decide +kernel
theorem dL_isSound_75 : decode cL_isSound 75 = .ok (.iload 7, 2) := by decide +kernel
theorem dL_isSound_77 : decode cL_isSound 77 = .ok (.ifCond .eq 54, 3) := by decide +kernel
theorem dL_isSound_80 : decode cL_isSound 80 = .ok (.aload_n 0, 1) := by decide +kernel
theorem dL_isSound_81 : decode cL_isSound 81 = .ok (.aload_n 1, 1) := by decide +kernel
theorem dL_isSound_82 : decode cL_isSound 82 = .ok (.aload_n 2, 1) := by decide +kernel
theorem dL_isSound_83 : decode cL_isSound 83 = .ok (.aload_n 3, 1) := by decide +kernel
theorem dL_isSound_84 : decode cL_isSound 84 = .ok (.aload 5, 2) := by decide +kernel
theorem dL_isSound_86 : decode cL_isSound 86 = .ok (.invokestatic 92, 3) := by decide +kernel
theorem dL_isSound_89 : decode cL_isSound 89 = .ok (.ifCond .eq 42, 3) := by decide +kernel
theorem dL_isSound_92 : decode cL_isSound 92 = .ok (.iload 8, 2) := by decide +kernel
theorem dL_isSound_94 : decode cL_isSound 94 = .ok (.aload_n 0, 1) := by decide +kernel
theorem dL_isSound_95 : decode cL_isSound 95 = .ok (.invokevirtual 96, 3) := by decide +kernel
theorem dL_isSound_98 : decode cL_isSound 98 = .ok (.if_icmp .ne 33, 3) := by decide +kernel
theorem dL_isSound_101 : decode cL_isSound 101 = .ok (.iload 8, 2) := by decide +kernel
theorem dL_isSound_103 : decode cL_isSound 103 = .ok (.iconst (-1), 1) := by decide +kernel
theorem dL_isSound_104 : decode cL_isSound 104 = .ok (.if_icmp .lt 27, 3) := by decide +kernel
theorem dL_isSound_107 : decode cL_isSound 107 = .ok (.aload_n 1, 1) := by decide +kernel
theorem dL_isSound_108 : decode cL_isSound 108 = .ok (.iconst 4, 1) := by decide +kernel
theorem dL_isSound_109 : decode cL_isSound 109 = .ok (.iaload, 1) := by decide +kernel
theorem dL_isSound_110 : decode cL_isSound 110 = .ok (.ifCond .gt 17, 3) := by decide +kernel
theorem dL_isSound_113 : decode cL_isSound 113 = .ok (.iload 8, 2) := by decide +kernel
theorem dL_isSound_115 : decode cL_isSound 115 = .ok (.iconst (-1), 1) := by decide +kernel
theorem dL_isSound_116 : decode cL_isSound 116 = .ok (.if_icmp .ne 15, 3) := by decide +kernel
theorem dL_isSound_119 : decode cL_isSound 119 = .ok (.aload_n 0, 1) := by decide +kernel
theorem dL_isSound_120 : decode cL_isSound 120 = .ok (.invokevirtual 99, 3) := by decide +kernel
theorem dL_isSound_123 : decode cL_isSound 123 = .ok (.iconst (-1), 1) := by decide +kernel
theorem dL_isSound_124 : decode cL_isSound 124 = .ok (.if_icmp .ne 7, 3) := by decide +kernel
theorem dL_isSound_127 : decode cL_isSound 127 = .ok (.iconst 1, 1) := by decide +kernel
theorem dL_isSound_128 : decode cL_isSound 128 = .ok (.goto 4, 3) := by decide +kernel
theorem dL_isSound_132 : decode cL_isSound 132 = .ok (.ireturn, 1) := by decide +kernel
def F_L_isSound_36 (z : ScT) (K36 : Int32 → Nat → Mm → Prop) (K69 : Nat → Mm → Prop) (q : Mm → Prop) (x8 : Int32) (n : Nat) (μ : Mm) : Prop :=
  n + 100 ≤ 3000 ∧ (vp_in (2 : Int32) 5 ∧ (((μ p_LC ((2 : Int32)).toNatClampNeg) ≤ x8 → K69 n μ) ∧ (¬ ((μ p_LC ((2 : Int32)).toNatClampNeg) ≤ x8) → Wp_L_isRequest z x8 μ (fun μ_1 => K36 (x8 + (1 : Int32)) (n + 100) μ_1))))
def F_L_isSound_69 (z : ScT) (K36 : Int32 → Nat → Mm → Prop) (K69 : Nat → Mm → Prop) (q : Mm → Prop) (n : Nat) (μ : Mm) : Prop :=
  n + 2000 ≤ 3000 ∧ (Wp_X7_least  μ (fun z2 μ_1 => Wp_L_areRooms z  μ_1 (fun μ_3 => Wp_X7_leastAnew  μ_3 (fun z5 μ_4 => ((¬ (z2 = z5) → False) ∧ (z2 = z5 → ((z2 < (-1 : Int32) → False) ∧ (¬ (z2 < (-1 : Int32)) → vp_in (4 : Int32) 5 ∧ ((0 < (μ_4 p_LC ((4 : Int32)).toNatClampNeg) → q μ_4) ∧ (¬ (0 < (μ_4 p_LC ((4 : Int32)).toNatClampNeg)) → ((¬ (z2 = (-1 : Int32)) → False) ∧ (z2 = (-1 : Int32) → Wp_X7_freeing  μ_4 (fun z7 μ_6 => ((¬ (z7 = (-1 : Int32)) → False) ∧ (z7 = (-1 : Int32) → q μ_6)))))))))))))))
def F_L_isSound_e (z : ScT) (K36 : Int32 → Nat → Mm → Prop) (K69 : Nat → Mm → Prop) (q : Mm → Prop)  (μ : Mm) : Prop :=
  Wp_X7_now  μ (fun z2 μ_1 => vp_in (3 : Int32) 5 ∧ ((¬ (z2 = (μ_1 p_LC ((3 : Int32)).toNatClampNeg)) → False) ∧ (z2 = (μ_1 p_LC ((3 : Int32)).toNatClampNeg) → vp_in (2 : Int32) 5 ∧ Wp_L_asks (7 : Int32) (μ_1 p_LC ((2 : Int32)).toNatClampNeg) (0 : Int32) (0 : Int32) μ_1 (fun z4 μ_3 => ((¬ (z4 = (-70007 : Int32)) → False) ∧ (z4 = (-70007 : Int32) → K36 (0 : Int32) 1 μ_3))))))
def Wp_L_isSound (z : ScT)  (μ : Mm) (q : Mm → Prop) : Prop := ∀ (K36 : Int32 → Nat → Mm → Prop) (K69 : Nat → Mm → Prop), (∀ (x8 : Int32) (n : Nat) (μ : Mm), F_L_isSound_36 z K36 K69 q x8 n μ → K36 x8 n μ) → (∀ (n : Nat) (μ : Mm), F_L_isSound_69 z K36 K69 q n μ → K69 n μ) → F_L_isSound_e z K36 K69 q  μ
abbrev KK_L_isSound_36 (g : GE) (f : FE) (z : ScT) : Int32 → Nat → Mm → Prop := fun x8 n μ => KW g f 9 n (6 * n) 36 [some (.ref p_ML), some (.ref p_LC), some (.ref p_LG), some (.ref p_LL), some (.ref p_LQ), some (.ref p_LP), some (.ref p_LT), some (.int (1 : Int32)), some (.int x8)] [] μ
abbrev KK_L_isSound_69 (g : GE) (f : FE) (z : ScT) : Nat → Mm → Prop := fun n μ => KW g f 9 n (6 * n) 69 [some (.ref p_ML), some (.ref p_LC), some (.ref p_LG), some (.ref p_LL), none, some (.ref p_LP), none, some (.int (1 : Int32)), none] [] μ
set_option maxHeartbeats 4000000 in
theorem b_L_isSound_36 {g : GE} {f : FE} {z : ScT} {q : Mm → Prop} (hm : g.2.2.2.2 = []) (hcx : (∀ n, n ≤ 3000 → Cx g f cL_isSound 9 RL 12 296 n (6 * n))) (bx : BXl g z f) (hr : (f_M f).sig.returnType = (some .boolean)) (rx : RXl g f 3000 (qTr q)) {x8 : Int32} {n : Nat} {μ : Mm} (h : F_L_isSound_36 z (KK_L_isSound_36 g f z) (KK_L_isSound_69 g f z) q x8 n μ) : KW g f 9 n (6 * n) 36 [some (.ref p_ML), some (.ref p_LC), some (.ref p_LG), some (.ref p_LL), some (.ref p_LQ), some (.ref p_LP), some (.ref p_LT), some (.int (1 : Int32)), some (.int x8)] [] μ := by
  unfold F_L_isSound_36 at h
  obtain ⟨hn, h⟩ := h
  have cx := hcx n (by omega)
  refine k_iload cx dL_isSound_36 rfl ?_
  refine k_aload_n cx dL_isSound_38 rfl rfl ?_
  refine k_iconst (v := (2 : Int32)) cx dL_isSound_39 (by decide +kernel) ?_
  obtain ⟨hi, h⟩ := h
  refine k_iald cx ar_LC hi dL_isSound_40 ?_
  refine k_icmp_ge (tgt := 69) cx dL_isSound_41 (by decide) (fun hc => ?_) (fun hc => ?_)
  · replace h := h.1 hc
    exact k_weak h (lsLe.keep (lsLe.keep (lsLe.keep (lsLe.keep (lsLe.drop (lsLe.keep (lsLe.drop (lsLe.keep (lsLe.drop lsLe.nil)))))))))
  · replace h := h.2 hc
    refine k_iload cx dL_isSound_44 rfl ?_
    refine k_if_eq (tgt := 69) cx dL_isSound_46 (by decide) (fun hc => absurd hc (by decide)) (fun _ => ?_)
    refine k_aload_n cx dL_isSound_49 rfl rfl ?_
    refine k_iload cx dL_isSound_50 rfl ?_
    refine k_aload_n cx dL_isSound_52 rfl rfl ?_
    refine k_aload_n cx dL_isSound_53 rfl rfl ?_
    refine k_aload cx dL_isSound_54 rfl ?_
    refine k_aload cx dL_isSound_56 rfl ?_
    refine k_callB (As := [.ref p_ML, .int x8, .ref p_LC, .ref p_LL, .ref p_LQ, .ref p_LT]) (rest := []) (n2 := (n + 100)) hcx bx (m_L_isRequest bx.2.2.2 hm h) cv_L_85 rfl rfl (Nat.le_of_ble_eq_true rfl) ⟨Nat.le_of_ble_eq_true rfl, Nat.le_of_ble_eq_true rfl⟩ (by omega) (by omega) dL_isSound_58 (fun v μ_1 hq => ?_)
    obtain ⟨rfl, h⟩ := hq
    have cx := hcx (n + 100) (by omega)
    refine k_istore cx dL_isSound_61 (by decide) ?_
    refine k_iinc (v := (x8 + (1 : Int32))) cx dL_isSound_63 rfl rfl (by decide) ?_
    refine k_goto (tgt := 36) cx dL_isSound_66 (by decide) ?_
    exact k_weak h (lsLe.keep (lsLe.keep (lsLe.keep (lsLe.keep (lsLe.keep (lsLe.keep (lsLe.keep (lsLe.keep (lsLe.keep lsLe.nil)))))))))
set_option maxHeartbeats 4000000 in
theorem b_L_isSound_69 {g : GE} {f : FE} {z : ScT} {q : Mm → Prop} (hm : g.2.2.2.2 = []) (hcx : (∀ n, n ≤ 3000 → Cx g f cL_isSound 9 RL 12 296 n (6 * n))) (bx : BXl g z f) (hr : (f_M f).sig.returnType = (some .boolean)) (rx : RXl g f 3000 (qTr q)) {n : Nat} {μ : Mm} (h : F_L_isSound_69 z (KK_L_isSound_36 g f z) (KK_L_isSound_69 g f z) q n μ) : KW g f 9 n (6 * n) 69 [some (.ref p_ML), some (.ref p_LC), some (.ref p_LG), some (.ref p_LL), none, some (.ref p_LP), none, some (.int (1 : Int32)), none] [] μ := by
  unfold F_L_isSound_69 at h
  obtain ⟨hn, h⟩ := h
  have cx := hcx n (by omega)
  refine k_aload_n cx dL_isSound_69 rfl rfl ?_
  refine k_callV (As := []) (rest := []) cx (m_X7_least h) cv_L_89 ob_ML rfl rfl rfl rfl (Nat.le_of_ble_eq_true rfl) ⟨Nat.le_of_ble_eq_true rfl, Nat.le_of_ble_eq_true rfl⟩ dL_isSound_70 (fun v μ_1 hq => ?_)
  obtain ⟨z2, rfl, h⟩ := hq
  refine k_istore cx dL_isSound_73 (by decide) ?_
  refine k_iload cx dL_isSound_75 rfl ?_
  refine k_if_eq (tgt := 131) cx dL_isSound_77 (by decide) (fun hc => absurd hc (by decide)) (fun _ => ?_)
  refine k_aload_n cx dL_isSound_80 rfl rfl ?_
  refine k_aload_n cx dL_isSound_81 rfl rfl ?_
  refine k_aload_n cx dL_isSound_82 rfl rfl ?_
  refine k_aload_n cx dL_isSound_83 rfl rfl ?_
  refine k_aload cx dL_isSound_84 rfl ?_
  refine k_callB (As := [.ref p_ML, .ref p_LC, .ref p_LG, .ref p_LL, .ref p_LP]) (rest := []) (n2 := (n + 2000)) hcx bx (m_L_areRooms bx.2.2.2 h) cv_L_92 rfl rfl (Nat.le_of_ble_eq_true rfl) ⟨Nat.le_of_ble_eq_true rfl, Nat.le_of_ble_eq_true rfl⟩ (by omega) (by omega) dL_isSound_86 (fun v μ_3 hq => ?_)
  obtain ⟨rfl, h⟩ := hq
  have cx := hcx (n + 2000) (by omega)
  refine k_if_eq (tgt := 131) cx dL_isSound_89 (by decide) (fun hc => absurd hc (by decide)) (fun _ => ?_)
  refine k_iload cx dL_isSound_92 rfl ?_
  refine k_aload_n cx dL_isSound_94 rfl rfl ?_
  refine k_callV (As := []) (rest := [.int z2]) cx (m_X7_leastAnew h) cv_L_96 ob_ML rfl rfl rfl rfl (Nat.le_of_ble_eq_true rfl) ⟨Nat.le_of_ble_eq_true rfl, Nat.le_of_ble_eq_true rfl⟩ dL_isSound_95 (fun v μ_4 hq => ?_)
  obtain ⟨z5, rfl, h⟩ := hq
  refine k_icmp_ne (tgt := 131) cx dL_isSound_98 (by decide) (fun hc => ?_) (fun hc => ?_)
  · replace h := h.1 hc
    exact h.elim
  · replace h := h.2 hc
    refine k_iload cx dL_isSound_101 rfl ?_
    refine k_iconst (v := (-1 : Int32)) cx dL_isSound_103 (by decide +kernel) ?_
    refine k_icmp_lt (tgt := 131) cx dL_isSound_104 (by decide) (fun hc => ?_) (fun hc => ?_)
    · replace h := h.1 hc
      exact h.elim
    · replace h := h.2 hc
      refine k_aload_n cx dL_isSound_107 rfl rfl ?_
      refine k_iconst (v := (4 : Int32)) cx dL_isSound_108 (by decide +kernel) ?_
      obtain ⟨hi, h⟩ := h
      refine k_iald cx ar_LC hi dL_isSound_109 ?_
      refine k_if_gt (tgt := 127) cx dL_isSound_110 (by decide) (fun hc => ?_) (fun hc => ?_)
      · replace h := h.1 hc
        refine k_iconst (v := (1 : Int32)) cx dL_isSound_127 (by decide +kernel) ?_
        refine k_goto (tgt := 132) cx dL_isSound_128 (by decide) ?_
        exact k_bret_T cx hr rx (by omega) dL_isSound_132 h
      · replace h := h.2 hc
        refine k_iload cx dL_isSound_113 rfl ?_
        refine k_iconst (v := (-1 : Int32)) cx dL_isSound_115 (by decide +kernel) ?_
        refine k_icmp_ne (tgt := 131) cx dL_isSound_116 (by decide) (fun hc => ?_) (fun hc => ?_)
        · replace h := h.1 hc
          exact h.elim
        · replace h := h.2 hc
          refine k_aload_n cx dL_isSound_119 rfl rfl ?_
          refine k_callV (As := []) (rest := []) cx (m_X7_freeing h) cv_L_99 ob_ML rfl rfl rfl rfl (Nat.le_of_ble_eq_true rfl) ⟨Nat.le_of_ble_eq_true rfl, Nat.le_of_ble_eq_true rfl⟩ dL_isSound_120 (fun v μ_6 hq => ?_)
          obtain ⟨z7, rfl, h⟩ := hq
          refine k_iconst (v := (-1 : Int32)) cx dL_isSound_123 (by decide +kernel) ?_
          refine k_icmp_ne (tgt := 131) cx dL_isSound_124 (by decide) (fun hc => ?_) (fun hc => ?_)
          · replace h := h.1 hc
            exact h.elim
          · replace h := h.2 hc
            refine k_iconst (v := (1 : Int32)) cx dL_isSound_127 (by decide +kernel) ?_
            refine k_goto (tgt := 132) cx dL_isSound_128 (by decide) ?_
            exact k_bret_T cx hr rx (by omega) dL_isSound_132 h
set_option maxHeartbeats 4000000 in
theorem b_L_isSound_e {g : GE} {f : FE} {z : ScT} {q : Mm → Prop} (hm : g.2.2.2.2 = []) (hcx : (∀ n, n ≤ 3000 → Cx g f cL_isSound 9 RL 12 296 n (6 * n))) (bx : BXl g z f) (hr : (f_M f).sig.returnType = (some .boolean)) (rx : RXl g f 3000 (qTr q))  {μ : Mm} (h : F_L_isSound_e z (KK_L_isSound_36 g f z) (KK_L_isSound_69 g f z) q  μ) : KW g f 9 0 (6 * 0) 0 [some (.ref p_ML), some (.ref p_LC), some (.ref p_LG), some (.ref p_LL), some (.ref p_LQ), some (.ref p_LP), some (.ref p_LT), none, none] [] μ := by
  unfold F_L_isSound_e at h
  have cx := hcx 0 (by omega)
  refine k_aload_n cx dL_isSound_0 rfl rfl ?_
  refine k_callV (As := []) (rest := []) cx (m_X7_now h) cv_L_77 ob_ML rfl rfl rfl rfl (Nat.le_of_ble_eq_true rfl) ⟨Nat.le_of_ble_eq_true rfl, Nat.le_of_ble_eq_true rfl⟩ dL_isSound_1 (fun v μ_1 hq => ?_)
  obtain ⟨z2, rfl, h⟩ := hq
  refine k_aload_n cx dL_isSound_4 rfl rfl ?_
  refine k_iconst (v := (3 : Int32)) cx dL_isSound_5 (by decide +kernel) ?_
  obtain ⟨hi, h⟩ := h
  refine k_iald cx ar_LC hi dL_isSound_6 ?_
  refine k_icmp_ne (tgt := 30) cx dL_isSound_7 (by decide) (fun hc => ?_) (fun hc => ?_)
  · replace h := h.1 hc
    exact h.elim
  · replace h := h.2 hc
    refine k_aload_n cx dL_isSound_10 rfl rfl ?_
    refine k_bipush (v := (7 : Int32)) cx dL_isSound_11 (by decide +kernel) ?_
    refine k_aload_n cx dL_isSound_13 rfl rfl ?_
    refine k_iconst (v := (2 : Int32)) cx dL_isSound_14 (by decide +kernel) ?_
    obtain ⟨hi, h⟩ := h
    refine k_iald cx ar_LC hi dL_isSound_15 ?_
    refine k_iconst (v := (0 : Int32)) cx dL_isSound_16 (by decide +kernel) ?_
    refine k_iconst (v := (0 : Int32)) cx dL_isSound_17 (by decide +kernel) ?_
    refine k_callH (As := [.ref p_ML, .int (7 : Int32), .int (μ_1 p_LC ((2 : Int32)).toNatClampNeg), .int (0 : Int32), .int (0 : Int32)]) (rest := []) (n2 := 1) hcx bx (m_L_asks bx.2.2.2 h) ch_L_asks rfl rfl (Nat.le_of_ble_eq_true rfl) ⟨Nat.le_of_ble_eq_true rfl, Nat.le_of_ble_eq_true rfl⟩ (by omega) (by omega) dL_isSound_18 (fun v μ_3 hq => ?_)
    obtain ⟨z4, rfl, h⟩ := hq
    have cx := hcx 1 (by omega)
    refine k_ldc (v := (-70007 : Int32)) cx kc_L_48 dL_isSound_21 ?_
    refine k_icmp_ne (tgt := 30) cx dL_isSound_23 (by decide) (fun hc => ?_) (fun hc => ?_)
    · replace h := h.1 hc
      exact h.elim
    · replace h := h.2 hc
      refine k_iconst (v := (1 : Int32)) cx dL_isSound_26 (by decide +kernel) ?_
      refine k_goto (tgt := 31) cx dL_isSound_27 (by decide) ?_
      refine k_istore cx dL_isSound_31 (by decide) ?_
      refine k_iconst (v := (0 : Int32)) cx dL_isSound_33 (by decide +kernel) ?_
      refine k_istore cx dL_isSound_34 (by decide) ?_
      exact k_weak h (lsLe.keep (lsLe.keep (lsLe.keep (lsLe.keep (lsLe.keep (lsLe.keep (lsLe.keep (lsLe.keep (lsLe.keep lsLe.nil)))))))))
theorem m_L_isSound {g : GE} {z : ScT} {l : Launch} (hst : l.stackTraces = false) (hm : g.2.2.2.2 = []) {μ : Mm} {q : Mm → Prop} (h : Wp_L_isSound z  μ q) : MBl g z l yL_isSound cL_isSound 9 (some .boolean) 12 296 3000 [.ref p_ML, .ref p_LC, .ref p_LG, .ref p_LL, .ref p_LQ, .ref p_LP, .ref p_LT] μ (qTr q) := by
  refine bmet_of hst (by decide) (Nat.le_of_ble_eq_true rfl) (by intro v hv; simp only [List.mem_cons, List.not_mem_nil, or_false] at hv; rcases hv with rfl | rfl | rfl | rfl | rfl | rfl | rfl <;> rfl) ?_
  intro f hfl hcx bx hr rx
  exact b_L_isSound_e hm hcx bx hr rx (h (KK_L_isSound_36 g f z) (KK_L_isSound_69 g f z) (fun _ _ _ h => b_L_isSound_36 hm hcx bx hr rx h) (fun _ _ h => b_L_isSound_69 hm hcx bx hr rx h))
