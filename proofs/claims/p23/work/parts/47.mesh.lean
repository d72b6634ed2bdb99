/-! a mesh -/
def QM (B : Nat) : Array Value → State → Outcome → State → Prop := fun _ st oc t => oc = .returned (some (.int 1)) ∧ va_F (fun q => B ≤ q) st t
def RXm (g : GE) (f : FE) (m : Nat) : Prop := (f_M f).locks = false ∧ f_Q f = MQ (f_b f) (QM g.2.2.2.1) (f_a f) (f_s f) m (6 * m) (fun q => g.2.2.2.1 ≤ q)
theorem k_mret_T {g : GE} {f : FE} {cc : ByteArray} {nL : Nat} {own : String} {fr lo n m pc : Nat} {ls : List (Option Value)} {μ : Mm} (cx : Cx g f cc nL own fr lo n (6 * n)) (hr : (f_M f).sig.returnType = some .boolean) (rx : RXm g f m) (hn : n ≤ m) (d : decode cc pc = .ok (.ireturn, 1)) : KW g f nL n (6 * n) pc ls [.int 1] μ := by
  intro H locs la hP hS hz
  rw [rx.2]
  exact W.widen hn (Nat.mul_le_mul_left 6 hn) (W.zret (hlocks := rx.1) cx.1.1 cx.1.2.1 hr rfl (fun t ht hW => ⟨rfl, hS.F ht⟩) hS.2.2 d)
def PM (g0 : GE) (z : ScT) (U : State) : Prop := g0.2.2.2.1 ≤ U.heap.size ∧ NW U ∧ va_K g0.1 vwCl (tysW g0) U ∧ OV U ∧ SX g0 U ∧ NC U ∧ va_X z.1 z.2.1 z.2.2 U U.heap ∧ z.1 < g0.2.2.2.1
theorem dL_mesh_42 : decode cL_mesh 42 = .ok (.iconst 1, 1) := by decide +kernel
theorem dL_mesh_43 : decode cL_mesh 43 = .ok (.istore 9, 2) := by decide +kernel
theorem dL_mesh_45 : decode cL_mesh 45 = .ok (.iconst 0, 1) := by decide +kernel
theorem dL_mesh_46 : decode cL_mesh 46 = .ok (.istore 10, 2) := by decide +kernel
theorem dL_mesh_48 : decode cL_mesh 48 = .ok (.iload 10, 2) := by decide +kernel
theorem dL_mesh_50 : decode cL_mesh 50 = .ok (.iconst 4, 1) := by decide +kernel
theorem dL_mesh_51 : decode cL_mesh 51 = .ok (.if_icmp .ge 60, 3) := by decide +kernel
theorem dL_mesh_54 : decode cL_mesh 54 = .ok (.aload 4, 2) := by decide +kernel
theorem dL_mesh_56 : decode cL_mesh 56 = .ok (.iload 10, 2) := by decide +kernel
theorem dL_mesh_58 : decode cL_mesh 58 = .ok (.bipush 20, 2) := by decide +kernel
theorem dL_mesh_60 : decode cL_mesh 60 = .ok (.aload_n 0, 1) := by decide +kernel
theorem dL_mesh_61 : decode cL_mesh 61 = .ok (.iload_n 1, 1) := by decide +kernel
theorem dL_mesh_62 : decode cL_mesh 62 = .ok (.iload 10, 2) := by decide +kernel
theorem dL_mesh_64 : decode cL_mesh 64 = .ok (.iadd, 1) := by decide +kernel
theorem dL_mesh_65 : decode cL_mesh 65 = .ok (.bipush 40, 2) := by decide +kernel
theorem dL_mesh_67 : decode cL_mesh 67 = .ok (.invokestatic 117, 3) := by decide +kernel
theorem dL_mesh_70 : decode cL_mesh 70 = .ok (.iadd, 1) := by decide +kernel
theorem dL_mesh_71 : decode cL_mesh 71 = .ok (.iastore, 1) := by decide +kernel
theorem dL_mesh_72 : decode cL_mesh 72 = .ok (.iload 9, 2) := by decide +kernel
theorem dL_mesh_74 : decode cL_mesh 74 = .ok (.ifCond .eq 21, 3) := by decide +kernel
theorem dL_mesh_77 : decode cL_mesh 77 = .ok (.aload_n 2, 1) := by decide +kernel
theorem dL_mesh_78 : decode cL_mesh 78 = .ok (.aload 4, 2) := by decide +kernel
theorem dL_mesh_80 : decode cL_mesh 80 = .ok (.iload 10, 2) := by decide +kernel
theorem dL_mesh_82 : decode cL_mesh 82 = .ok (.iaload, 1) := by decide +kernel
theorem dL_mesh_83 : decode cL_mesh 83 = .ok (.invokevirtual 16, 3) := by decide +kernel
theorem dL_mesh_86 : decode cL_mesh 86 = .ok (.iload 10, 2) := by decide +kernel
theorem dL_mesh_88 : decode cL_mesh 88 = .ok (.if_icmp .ne 7, 3) := by decide +kernel
theorem dL_mesh_91 : decode cL_mesh 91 = .ok (.iconst 1, 1) := by decide +kernel
theorem dL_mesh_92 : decode cL_mesh 92 = .ok (.goto 4, 3) := by decide +kernel
theorem dL_mesh_96 : decode cL_mesh 96 = .ok (.istore 9, 2) := by decide +kernel
theorem dL_mesh_98 : decode cL_mesh 98 = .ok (.aload_n 3, 1) := by decide +kernel
theorem dL_mesh_99 : decode cL_mesh 99 = .ok (.iconst 0, 1) := by decide +kernel
theorem dL_mesh_100 : decode cL_mesh 100 = .ok (.dup2, 1) := by decide +kernel
theorem dL_mesh_101 : decode cL_mesh 101 = .ok (.iaload, 1) := by decide +kernel
theorem dL_mesh_102 : decode cL_mesh 102 = .ok (.iconst 1, 1) := by decide +kernel
theorem dL_mesh_103 : decode cL_mesh 103 = .ok (.iadd, 1) := by decide +kernel
theorem dL_mesh_104 : decode cL_mesh 104 = .ok (.iastore, 1) := by decide +kernel
theorem dL_mesh_105 : decode cL_mesh 105 = .ok (.iinc 10 1, 3) := by decide +kernel
theorem dL_mesh_108 : decode cL_mesh 108 = .ok (.goto (-60), 3) := by decide +kernel
theorem dL_mesh_111 : decode cL_mesh 111 = .ok (.iconst 0, 1) := by decide +kernel
theorem dL_mesh_112 : decode cL_mesh 112 = .ok (.istore 10, 2) := by decide +kernel
theorem dL_mesh_114 : decode cL_mesh 114 = .ok (.iload 10, 2) := by decide +kernel
theorem dL_mesh_116 : decode cL_mesh 116 = .ok (.iconst 4, 1) := by decide +kernel
theorem dL_mesh_117 : decode cL_mesh 117 = .ok (.if_icmp .ge 102, 3) := by decide +kernel
theorem dL_mesh_120 : decode cL_mesh 120 = .ok (.aload 5, 2) := by decide +kernel
theorem dL_mesh_122 : decode cL_mesh 122 = .ok (.iconst 3, 1) := by decide +kernel
theorem dL_mesh_123 : decode cL_mesh 123 = .ok (.iload 10, 2) := by decide +kernel
theorem dL_mesh_125 : decode cL_mesh 125 = .ok (.imul, 1) := by decide +kernel
theorem dL_mesh_126 : decode cL_mesh 126 = .ok (.iload 10, 2) := by decide +kernel
theorem dL_mesh_128 : decode cL_mesh 128 = .ok (.iastore, 1) := by decide +kernel
theorem dL_mesh_129 : decode cL_mesh 129 = .ok (.aload 5, 2) := by decide +kernel
theorem dL_mesh_131 : decode cL_mesh 131 = .ok (.iconst 3, 1) := by decide +kernel
theorem dL_mesh_132 : decode cL_mesh 132 = .ok (.iload 10, 2) := by decide +kernel
theorem dL_mesh_134 : decode cL_mesh 134 = .ok (.imul, 1) := by decide +kernel
theorem dL_mesh_135 : decode cL_mesh 135 = .ok (.iconst 1, 1) := by decide +kernel
theorem dL_mesh_136 : decode cL_mesh 136 = .ok (.iadd, 1) := by decide +kernel
theorem dL_mesh_137 : decode cL_mesh 137 = .ok (.iload 10, 2) := by decide +kernel
theorem dL_mesh_139 : decode cL_mesh 139 = .ok (.iconst 1, 1) := by decide +kernel
theorem dL_mesh_140 : decode cL_mesh 140 = .ok (.iadd, 1) := by decide +kernel
theorem dL_mesh_141 : decode cL_mesh 141 = .ok (.iconst 4, 1) := by decide +kernel
theorem dL_mesh_142 : decode cL_mesh 142 = .ok (.irem, 1) := by decide +kernel
theorem dL_mesh_143 : decode cL_mesh 143 = .ok (.iastore, 1) := by decide +kernel
theorem dL_mesh_144 : decode cL_mesh 144 = .ok (.aload 5, 2) := by decide +kernel
theorem dL_mesh_146 : decode cL_mesh 146 = .ok (.iconst 3, 1) := by decide +kernel
theorem dL_mesh_147 : decode cL_mesh 147 = .ok (.iload 10, 2) := by decide +kernel
theorem dL_mesh_149 : decode cL_mesh 149 = .ok (.imul, 1) := by decide +kernel
theorem dL_mesh_150 : decode cL_mesh 150 = .ok (.iconst 2, 1) := by decide +kernel
theorem dL_mesh_151 : decode cL_mesh 151 = .ok (.iadd, 1) := by decide +kernel
theorem dL_mesh_152 : decode cL_mesh 152 = .ok (.bipush 15, 2) := by decide +kernel
theorem dL_mesh_154 : decode cL_mesh 154 = .ok (.aload_n 0, 1) := by decide +kernel
theorem dL_mesh_155 : decode cL_mesh 155 = .ok (.iload_n 1, 1) := by decide +kernel
theorem dL_mesh_156 : decode cL_mesh 156 = .ok (.iconst 4, 1) := by decide +kernel
theorem dL_mesh_157 : decode cL_mesh 157 = .ok (.iadd, 1) := by decide +kernel
theorem dL_mesh_158 : decode cL_mesh 158 = .ok (.iload 10, 2) := by decide +kernel
theorem dL_mesh_160 : decode cL_mesh 160 = .ok (.iadd, 1) := by decide +kernel
theorem dL_mesh_161 : decode cL_mesh 161 = .ok (.bipush 40, 2) := by decide +kernel
theorem dL_mesh_163 : decode cL_mesh 163 = .ok (.invokestatic 117, 3) := by decide +kernel
theorem dL_mesh_166 : decode cL_mesh 166 = .ok (.iadd, 1) := by decide +kernel
theorem dL_mesh_167 : decode cL_mesh 167 = .ok (.iastore, 1) := by decide +kernel
theorem dL_mesh_168 : decode cL_mesh 168 = .ok (.iload 9, 2) := by decide +kernel
theorem dL_mesh_170 : decode cL_mesh 170 = .ok (.ifCond .eq 33, 3) := by decide +kernel
theorem dL_mesh_173 : decode cL_mesh 173 = .ok (.aload_n 2, 1) := by decide +kernel
theorem dL_mesh_174 : decode cL_mesh 174 = .ok (.iload 10, 2) := by decide +kernel
theorem dL_mesh_176 : decode cL_mesh 176 = .ok (.iload 10, 2) := by decide +kernel
theorem dL_mesh_178 : decode cL_mesh 178 = .ok (.iconst 1, 1) := by decide +kernel
theorem dL_mesh_179 : decode cL_mesh 179 = .ok (.iadd, 1) := by decide +kernel
theorem dL_mesh_180 : decode cL_mesh 180 = .ok (.iconst 4, 1) := by decide +kernel
theorem dL_mesh_181 : decode cL_mesh 181 = .ok (.irem, 1) := by decide +kernel
theorem dL_mesh_182 : decode cL_mesh 182 = .ok (.aload 5, 2) := by decide +kernel
theorem dL_mesh_184 : decode cL_mesh 184 = .ok (.iconst 3, 1) := by decide +kernel
theorem dL_mesh_185 : decode cL_mesh 185 = .ok (.iload 10, 2) := by decide +kernel
theorem dL_mesh_187 : decode cL_mesh 187 = .ok (.imul, 1) := by decide +kernel
theorem dL_mesh_188 : decode cL_mesh 188 = .ok (.iconst 2, 1) := by decide +kernel
theorem dL_mesh_189 : decode cL_mesh 189 = .ok (.iadd, 1) := by decide +kernel
theorem dL_mesh_190 : decode cL_mesh 190 = .ok (.iaload, 1) := by decide +kernel
theorem dL_mesh_191 : decode cL_mesh 191 = .ok (.invokevirtual 20, 3) := by decide +kernel
theorem dL_mesh_194 : decode cL_mesh 194 = .ok (.iload 10, 2) := by decide +kernel
theorem dL_mesh_196 : decode cL_mesh 196 = .ok (.if_icmp .ne 7, 3) := by decide +kernel
theorem dL_mesh_199 : decode cL_mesh 199 = .ok (.iconst 1, 1) := by decide +kernel
theorem dL_mesh_200 : decode cL_mesh 200 = .ok (.goto 4, 3) := by decide +kernel
theorem dL_mesh_204 : decode cL_mesh 204 = .ok (.istore 9, 2) := by decide +kernel
theorem dL_mesh_206 : decode cL_mesh 206 = .ok (.aload_n 3, 1) := by decide +kernel
theorem dL_mesh_207 : decode cL_mesh 207 = .ok (.iconst 1, 1) := by decide +kernel
theorem dL_mesh_208 : decode cL_mesh 208 = .ok (.dup2, 1) := by decide +kernel
theorem dL_mesh_209 : decode cL_mesh 209 = .ok (.iaload, 1) := by decide +kernel
theorem dL_mesh_210 : decode cL_mesh 210 = .ok (.iconst 1, 1) := by decide +kernel
theorem dL_mesh_211 : decode cL_mesh 211 = .ok (.iadd, 1) := by decide +kernel
theorem dL_mesh_212 : decode cL_mesh 212 = .ok (.iastore, 1) := by decide +kernel
theorem dL_mesh_213 : decode cL_mesh 213 = .ok (.iinc 10 1, 3) := by decide +kernel
theorem dL_mesh_216 : decode cL_mesh 216 = .ok (.goto (-102), 3) := by decide +kernel
theorem dL_mesh_219 : decode cL_mesh 219 = .ok (.iconst 0, 1) := by decide +kernel
theorem dL_mesh_220 : decode cL_mesh 220 = .ok (.istore 10, 2) := by decide +kernel
theorem dL_mesh_222 : decode cL_mesh 222 = .ok (.iload 10, 2) := by decide +kernel
theorem dL_mesh_224 : decode cL_mesh 224 = .ok (.bipush 40, 2) := by decide +kernel
theorem dL_mesh_226 : decode cL_mesh 226 = .ok (.if_icmp .ge 177, 3) := by decide +kernel
theorem dL_mesh_229 : decode cL_mesh 229 = .ok (.iload 9, 2) := by decide +kernel
theorem dL_mesh_231 : decode cL_mesh 231 = .ok (.ifCond .eq 172, 3) := by decide +kernel
theorem dL_mesh_234 : decode cL_mesh 234 = .ok (.aload_n 0, 1) := by decide +kernel
theorem dL_mesh_235 : decode cL_mesh 235 = .ok (.iload_n 1, 1) := by decide +kernel
theorem dL_mesh_236 : decode cL_mesh 236 = .ok (.bipush 8, 2) := by decide +kernel
theorem dL_mesh_238 : decode cL_mesh 238 = .ok (.iadd, 1) := by decide +kernel
theorem dL_mesh_239 : decode cL_mesh 239 = .ok (.iconst 2, 1) := by decide +kernel
theorem dL_mesh_240 : decode cL_mesh 240 = .ok (.iload 10, 2) := by decide +kernel
theorem dL_mesh_242 : decode cL_mesh 242 = .ok (.imul, 1) := by decide +kernel
theorem dL_mesh_243 : decode cL_mesh 243 = .ok (.iadd, 1) := by decide +kernel
theorem dL_mesh_244 : decode cL_mesh 244 = .ok (.ldc 121, 2) := by decide +kernel
theorem dL_mesh_246 : decode cL_mesh 246 = .ok (.invokestatic 117, 3) := by decide +kernel
theorem dL_mesh_249 : decode cL_mesh 249 = .ok (.istore 11, 2) := by decide +kernel
theorem dL_mesh_251 : decode cL_mesh 251 = .ok (.aload_n 0, 1) := by decide +kernel
theorem dL_mesh_252 : decode cL_mesh 252 = .ok (.iload_n 1, 1) := by decide +kernel
theorem dL_mesh_253 : decode cL_mesh 253 = .ok (.bipush 9, 2) := by decide +kernel
theorem dL_mesh_255 : decode cL_mesh 255 = .ok (.iadd, 1) := by decide +kernel
theorem dL_mesh_256 : decode cL_mesh 256 = .ok (.iconst 2, 1) := by decide +kernel
theorem dL_mesh_257 : decode cL_mesh 257 = .ok (.iload 10, 2) := by decide +kernel
theorem dL_mesh_259 : decode cL_mesh 259 = .ok (.imul, 1) := by decide +kernel
theorem dL_mesh_260 : decode cL_mesh 260 = .ok (.iadd, 1) := by decide +kernel
theorem dL_mesh_261 : decode cL_mesh 261 = .ok (.ldc 121, 2) := by decide +kernel
theorem dL_mesh_263 : decode cL_mesh 263 = .ok (.invokestatic 117, 3) := by decide +kernel
theorem dL_mesh_266 : decode cL_mesh 266 = .ok (.istore 12, 2) := by decide +kernel
theorem dL_mesh_268 : decode cL_mesh 268 = .ok (.iload 11, 2) := by decide +kernel
theorem dL_mesh_270 : decode cL_mesh 270 = .ok (.bipush 8, 2) := by decide +kernel
theorem dL_mesh_272 : decode cL_mesh 272 = .ok (.irem, 1) := by decide +kernel
theorem dL_mesh_273 : decode cL_mesh 273 = .ok (.istore 13, 2) := by decide +kernel
theorem dL_mesh_275 : decode cL_mesh 275 = .ok (.iload 13, 2) := by decide +kernel
theorem dL_mesh_277 : decode cL_mesh 277 = .ok (.ifCond .ne 22, 3) := by decide +kernel
theorem dL_mesh_280 : decode cL_mesh 280 = .ok (.aload_n 2, 1) := by decide +kernel
theorem dL_mesh_281 : decode cL_mesh 281 = .ok (.iload 11, 2) := by decide +kernel
theorem dL_mesh_283 : decode cL_mesh 283 = .ok (.bipush 8, 2) := by decide +kernel
theorem dL_mesh_285 : decode cL_mesh 285 = .ok (.idiv, 1) := by decide +kernel
theorem dL_mesh_286 : decode cL_mesh 286 = .ok (.iload 12, 2) := by decide +kernel
theorem dL_mesh_288 : decode cL_mesh 288 = .ok (.aload_n 3, 1) := by decide +kernel
theorem dL_mesh_289 : decode cL_mesh 289 = .ok (.aload 4, 2) := by decide +kernel
theorem dL_mesh_291 : decode cL_mesh 291 = .ok (.aload 5, 2) := by decide +kernel
theorem dL_mesh_293 : decode cL_mesh 293 = .ok (.invokestatic 122, 3) := by decide +kernel
theorem dL_mesh_296 : decode cL_mesh 296 = .ok (.goto 60, 3) := by decide +kernel
theorem dL_mesh_299 : decode cL_mesh 299 = .ok (.iload 13, 2) := by decide +kernel
theorem dL_mesh_301 : decode cL_mesh 301 = .ok (.iconst 4, 1) := by decide +kernel
theorem dL_mesh_302 : decode cL_mesh 302 = .ok (.if_icmp .ge 40, 3) := by decide +kernel
theorem dL_mesh_305 : decode cL_mesh 305 = .ok (.aload_n 3, 1) := by decide +kernel
theorem dL_mesh_306 : decode cL_mesh 306 = .ok (.iconst 2, 1) := by decide +kernel
theorem dL_mesh_307 : decode cL_mesh 307 = .ok (.iaload, 1) := by decide +kernel
theorem dL_mesh_308 : decode cL_mesh 308 = .ok (.bipush 6, 2) := by decide +kernel
theorem dL_mesh_310 : decode cL_mesh 310 = .ok (.if_icmp .gt 24, 3) := by decide +kernel
theorem dL_mesh_313 : decode cL_mesh 313 = .ok (.aload_n 2, 1) := by decide +kernel
theorem dL_mesh_314 : decode cL_mesh 314 = .ok (.iload 11, 2) := by decide +kernel
theorem dL_mesh_316 : decode cL_mesh 316 = .ok (.bipush 8, 2) := by decide +kernel
theorem dL_mesh_318 : decode cL_mesh 318 = .ok (.idiv, 1) := by decide +kernel
theorem dL_mesh_319 : decode cL_mesh 319 = .ok (.iload 12, 2) := by decide +kernel
theorem dL_mesh_321 : decode cL_mesh 321 = .ok (.aload_n 3, 1) := by decide +kernel
theorem dL_mesh_322 : decode cL_mesh 322 = .ok (.aload 6, 2) := by decide +kernel
theorem dL_mesh_324 : decode cL_mesh 324 = .ok (.aload 7, 2) := by decide +kernel
theorem dL_mesh_326 : decode cL_mesh 326 = .ok (.aload 8, 2) := by decide +kernel
theorem dL_mesh_328 : decode cL_mesh 328 = .ok (.invokestatic 126, 3) := by decide +kernel
theorem dL_mesh_331 : decode cL_mesh 331 = .ok (.ifCond .eq 7, 3) := by decide +kernel
theorem dL_mesh_334 : decode cL_mesh 334 = .ok (.iconst 1, 1) := by decide +kernel
theorem dL_mesh_335 : decode cL_mesh 335 = .ok (.goto 21, 3) := by decide +kernel
theorem dL_mesh_342 : decode cL_mesh 342 = .ok (.aload_n 2, 1) := by decide +kernel
theorem dL_mesh_343 : decode cL_mesh 343 = .ok (.iload 11, 2) := by decide +kernel
theorem dL_mesh_345 : decode cL_mesh 345 = .ok (.bipush 8, 2) := by decide +kernel
theorem dL_mesh_347 : decode cL_mesh 347 = .ok (.idiv, 1) := by decide +kernel
theorem dL_mesh_348 : decode cL_mesh 348 = .ok (.iload 12, 2) := by decide +kernel
theorem dL_mesh_350 : decode cL_mesh 350 = .ok (.aload_n 3, 1) := by decide +kernel
theorem dL_mesh_351 : decode cL_mesh 351 = .ok (.aload 8, 2) := by decide +kernel
theorem dL_mesh_353 : decode cL_mesh 353 = .ok (.invokestatic 130, 3) := by decide +kernel
theorem dL_mesh_356 : decode cL_mesh 356 = .ok (.istore 9, 2) := by decide +kernel
theorem dL_mesh_358 : decode cL_mesh 358 = .ok (.iload 9, 2) := by decide +kernel
theorem dL_mesh_360 : decode cL_mesh 360 = .ok (.ifCond .eq 34, 3) := by decide +kernel
theorem dL_mesh_363 : decode cL_mesh 363 = .ok (.iload 10, 2) := by decide +kernel
theorem dL_mesh_365 : decode cL_mesh 365 = .ok (.bipush 6, 2) := by decide +kernel
theorem dL_mesh_367 : decode cL_mesh 367 = .ok (.irem, 1) := by decide +kernel
theorem dL_mesh_368 : decode cL_mesh 368 = .ok (.iconst 5, 1) := by decide +kernel
theorem dL_mesh_369 : decode cL_mesh 369 = .ok (.if_icmp .lt 21, 3) := by decide +kernel
theorem dL_mesh_372 : decode cL_mesh 372 = .ok (.aload_n 2, 1) := by decide +kernel
theorem dL_mesh_373 : decode cL_mesh 373 = .ok (.aload_n 3, 1) := by decide +kernel
theorem dL_mesh_374 : decode cL_mesh 374 = .ok (.aload 4, 2) := by decide +kernel
theorem dL_mesh_376 : decode cL_mesh 376 = .ok (.aload 5, 2) := by decide +kernel
theorem dL_mesh_378 : decode cL_mesh 378 = .ok (.aload 6, 2) := by decide +kernel
theorem dL_mesh_380 : decode cL_mesh 380 = .ok (.aload 7, 2) := by decide +kernel
theorem dL_mesh_382 : decode cL_mesh 382 = .ok (.aload 8, 2) := by decide +kernel
theorem dL_mesh_384 : decode cL_mesh 384 = .ok (.invokestatic 134, 3) := by decide +kernel
theorem dL_mesh_387 : decode cL_mesh 387 = .ok (.ifCond .eq 7, 3) := by decide +kernel
theorem dL_mesh_390 : decode cL_mesh 390 = .ok (.iconst 1, 1) := by decide +kernel
theorem dL_mesh_391 : decode cL_mesh 391 = .ok (.goto 4, 3) := by decide +kernel
theorem dL_mesh_395 : decode cL_mesh 395 = .ok (.istore 9, 2) := by decide +kernel
theorem dL_mesh_397 : decode cL_mesh 397 = .ok (.iinc 10 1, 3) := by decide +kernel
theorem dL_mesh_400 : decode cL_mesh 400 = .ok (.goto (-178), 3) := by decide +kernel
theorem dL_mesh_403 : decode cL_mesh 403 = .ok (.iload 9, 2) := by decide +kernel
theorem dL_mesh_405 : decode cL_mesh 405 = .ok (.ifCond .eq 25, 3) := by decide +kernel
theorem dL_mesh_408 : decode cL_mesh 408 = .ok (.aload_n 2, 1) := by decide +kernel
theorem dL_mesh_409 : decode cL_mesh 409 = .ok (.aload_n 3, 1) := by decide +kernel
theorem dL_mesh_410 : decode cL_mesh 410 = .ok (.aload 4, 2) := by decide +kernel
theorem dL_mesh_412 : decode cL_mesh 412 = .ok (.aload 5, 2) := by decide +kernel
theorem dL_mesh_414 : decode cL_mesh 414 = .ok (.aload 6, 2) := by decide +kernel
theorem dL_mesh_416 : decode cL_mesh 416 = .ok (.aload 7, 2) := by decide +kernel
theorem dL_mesh_418 : decode cL_mesh 418 = .ok (.aload 8, 2) := by decide +kernel
theorem dL_mesh_420 : decode cL_mesh 420 = .ok (.invokestatic 134, 3) := by decide +kernel
theorem dL_mesh_423 : decode cL_mesh 423 = .ok (.ifCond .eq 7, 3) := by decide +kernel
theorem dL_mesh_426 : decode cL_mesh 426 = .ok (.iconst 1, 1) := by decide +kernel
theorem dL_mesh_427 : decode cL_mesh 427 = .ok (.goto 4, 3) := by decide +kernel
theorem dL_mesh_431 : decode cL_mesh 431 = .ok (.ireturn, 1) := by decide +kernel
def F_L_mesh_48 (z : ScT) (K48 : Int32 → Int32 → Nat → Mm → Prop) (K114 : Int32 → Int32 → Nat → Mm → Prop) (K222 : Int32 → Int32 → Nat → Mm → Prop) (K356 : Int32 → Int32 → Nat → Mm → Prop) (K403 : Nat → Mm → Prop) (q : Mm → Prop) (x1 : Int32) (x10 : Int32) (n : Nat) (μ : Mm) : Prop :=
  n + 1 ≤ 140000 ∧ ((((4 : Int32) ≤ x10 → K114 x1 (0 : Int32) n μ) ∧ (¬ ((4 : Int32) ≤ x10) → Wp_L_draw z (x1 + x10) (40 : Int32) μ (fun z2 μ_1 => vp_in x10 6 ∧ (∀ μ_3 : Mm, μ_3 = (up2 μ_1 p_LG (x10).toNatClampNeg ((20 : Int32) + z2)) → vp_in x10 6 ∧ T_X7_node (μ_3 p_LG (x10).toNatClampNeg) μ_3 (fun z5 μ_4 => ((¬ (z5 = x10) → False) ∧ (z5 = x10 → vp_in (0 : Int32) 5 ∧ vp_in (0 : Int32) 5 ∧ (∀ μ_6 : Mm, μ_6 = (up2 μ_4 p_LC ((0 : Int32)).toNatClampNeg ((μ_4 p_LC ((0 : Int32)).toNatClampNeg) + (1 : Int32))) → K48 x1 (x10 + (1 : Int32)) (n + 1) μ_6)))) (fun _ _ => False))))))
def F_L_mesh_114 (z : ScT) (K48 : Int32 → Int32 → Nat → Mm → Prop) (K114 : Int32 → Int32 → Nat → Mm → Prop) (K222 : Int32 → Int32 → Nat → Mm → Prop) (K356 : Int32 → Int32 → Nat → Mm → Prop) (K403 : Nat → Mm → Prop) (q : Mm → Prop) (x1 : Int32) (x10 : Int32) (n : Nat) (μ : Mm) : Prop :=
  n + 1 ≤ 140000 ∧ ((((4 : Int32) ≤ x10 → K222 x1 (0 : Int32) n μ) ∧ (¬ ((4 : Int32) ≤ x10) → vp_in ((3 : Int32) * x10) 27 ∧ (∀ μ_1 : Mm, μ_1 = (up2 μ p_LL (((3 : Int32) * x10)).toNatClampNeg x10) → vp_in (((3 : Int32) * x10) + (1 : Int32)) 27 ∧ (∀ μ_2 : Mm, μ_2 = (up2 μ_1 p_LL ((((3 : Int32) * x10) + (1 : Int32))).toNatClampNeg (irm (x10 + (1 : Int32)) (4 : Int32))) → Wp_L_draw z ((x1 + (4 : Int32)) + x10) (40 : Int32) μ_2 (fun z4 μ_3 => vp_in (((3 : Int32) * x10) + (2 : Int32)) 27 ∧ (∀ μ_5 : Mm, μ_5 = (up2 μ_3 p_LL ((((3 : Int32) * x10) + (2 : Int32))).toNatClampNeg ((15 : Int32) + z4)) → vp_in (((3 : Int32) * x10) + (2 : Int32)) 27 ∧ T_X7_link x10 (irm (x10 + (1 : Int32)) (4 : Int32)) (μ_5 p_LL ((((3 : Int32) * x10) + (2 : Int32))).toNatClampNeg) μ_5 (fun z7 μ_6 => ((¬ (z7 = x10) → False) ∧ (z7 = x10 → vp_in (1 : Int32) 5 ∧ vp_in (1 : Int32) 5 ∧ (∀ μ_8 : Mm, μ_8 = (up2 μ_6 p_LC ((1 : Int32)).toNatClampNeg ((μ_6 p_LC ((1 : Int32)).toNatClampNeg) + (1 : Int32))) → K114 x1 (x10 + (1 : Int32)) (n + 1) μ_8)))) (fun _ _ => False))))))))
def F_L_mesh_222 (z : ScT) (K48 : Int32 → Int32 → Nat → Mm → Prop) (K114 : Int32 → Int32 → Nat → Mm → Prop) (K222 : Int32 → Int32 → Nat → Mm → Prop) (K356 : Int32 → Int32 → Nat → Mm → Prop) (K403 : Nat → Mm → Prop) (q : Mm → Prop) (x1 : Int32) (x10 : Int32) (n : Nat) (μ : Mm) : Prop :=
  n + 60 ≤ 140000 ∧ ((((40 : Int32) ≤ x10 → K403 n μ) ∧ (¬ ((40 : Int32) ≤ x10) → Wp_L_draw z ((x1 + (8 : Int32)) + ((2 : Int32) * x10)) (1073741824 : Int32) μ (fun z2 μ_1 => Wp_L_draw z ((x1 + (9 : Int32)) + ((2 : Int32) * x10)) (1073741824 : Int32) μ_1 (fun z4 μ_3 => (∀ v13_5 : Int32, v13_5 = (irm z2 (8 : Int32)) → ((¬ (v13_5 = 0) → (((4 : Int32) ≤ v13_5 → Wp_L_others z (z2 / (8 : Int32)) z4 μ_3 (fun μ_6 => K356 x1 x10 (n + 60) μ_6)) ∧ (¬ ((4 : Int32) ≤ v13_5) → vp_in (2 : Int32) 5 ∧ (((6 : Int32) < (μ_3 p_LC ((2 : Int32)).toNatClampNeg) → K356 x1 x10 n μ_3) ∧ (¬ ((6 : Int32) < (μ_3 p_LC ((2 : Int32)).toNatClampNeg)) → Wp_L_places z (z2 / (8 : Int32)) z4 μ_3 (fun μ_7 => K356 x1 x10 (n + 60) μ_7)))))) ∧ (v13_5 = 0 → Wp_L_ground z (z2 / (8 : Int32)) z4 μ_3 (fun μ_8 => K356 x1 x10 (n + 1) μ_8)))))))))
def F_L_mesh_356 (z : ScT) (K48 : Int32 → Int32 → Nat → Mm → Prop) (K114 : Int32 → Int32 → Nat → Mm → Prop) (K222 : Int32 → Int32 → Nat → Mm → Prop) (K356 : Int32 → Int32 → Nat → Mm → Prop) (K403 : Nat → Mm → Prop) (q : Mm → Prop) (x1 : Int32) (x10 : Int32) (n : Nat) (μ : Mm) : Prop :=
  n + 3000 ≤ 140000 ∧ ((((irm x10 (6 : Int32)) < (5 : Int32) → K222 x1 (x10 + (1 : Int32)) n μ) ∧ (¬ ((irm x10 (6 : Int32)) < (5 : Int32)) → Wp_L_isSound z  μ (fun μ_1 => K222 x1 (x10 + (1 : Int32)) (n + 3000) μ_1))))
def F_L_mesh_403 (z : ScT) (K48 : Int32 → Int32 → Nat → Mm → Prop) (K114 : Int32 → Int32 → Nat → Mm → Prop) (K222 : Int32 → Int32 → Nat → Mm → Prop) (K356 : Int32 → Int32 → Nat → Mm → Prop) (K403 : Nat → Mm → Prop) (q : Mm → Prop) (n : Nat) (μ : Mm) : Prop :=
  n + 3000 ≤ 140000 ∧ (Wp_L_isSound z  μ (fun μ_1 => q μ_1))
def F_L_mesh_e (z : ScT) (K48 : Int32 → Int32 → Nat → Mm → Prop) (K114 : Int32 → Int32 → Nat → Mm → Prop) (K222 : Int32 → Int32 → Nat → Mm → Prop) (K356 : Int32 → Int32 → Nat → Mm → Prop) (K403 : Nat → Mm → Prop) (q : Mm → Prop) (x1 : Int32) (μ : Mm) : Prop :=
  K48 x1 (0 : Int32) 270 μ
def Wp_L_mesh (z : ScT) (x1 : Int32) (μ : Mm) (q : Mm → Prop) : Prop := ∀ (K48 : Int32 → Int32 → Nat → Mm → Prop) (K114 : Int32 → Int32 → Nat → Mm → Prop) (K222 : Int32 → Int32 → Nat → Mm → Prop) (K356 : Int32 → Int32 → Nat → Mm → Prop) (K403 : Nat → Mm → Prop), (∀ (x1 : Int32) (x10 : Int32) (n : Nat) (μ : Mm), F_L_mesh_48 z K48 K114 K222 K356 K403 q x1 x10 n μ → K48 x1 x10 n μ) → (∀ (x1 : Int32) (x10 : Int32) (n : Nat) (μ : Mm), F_L_mesh_114 z K48 K114 K222 K356 K403 q x1 x10 n μ → K114 x1 x10 n μ) → (∀ (x1 : Int32) (x10 : Int32) (n : Nat) (μ : Mm), F_L_mesh_222 z K48 K114 K222 K356 K403 q x1 x10 n μ → K222 x1 x10 n μ) → (∀ (x1 : Int32) (x10 : Int32) (n : Nat) (μ : Mm), F_L_mesh_356 z K48 K114 K222 K356 K403 q x1 x10 n μ → K356 x1 x10 n μ) → (∀ (n : Nat) (μ : Mm), F_L_mesh_403 z K48 K114 K222 K356 K403 q n μ → K403 n μ) → F_L_mesh_e z K48 K114 K222 K356 K403 q x1 μ
abbrev KK_L_mesh_48 (g : GE) (f : FE) (z : ScT) : Int32 → Int32 → Nat → Mm → Prop := fun x1 x10 n μ => KW g f 14 n (6 * n) 48 [some (.ref p_SCR), some (.int x1), some (.ref p_ML), some (.ref p_LC), some (.ref p_LG), some (.ref p_LL), some (.ref p_LQ), some (.ref p_LP), some (.ref p_LT), some (.int (1 : Int32)), some (.int x10), none, none, none] [] μ
abbrev KK_L_mesh_114 (g : GE) (f : FE) (z : ScT) : Int32 → Int32 → Nat → Mm → Prop := fun x1 x10 n μ => KW g f 14 n (6 * n) 114 [some (.ref p_SCR), some (.int x1), some (.ref p_ML), some (.ref p_LC), some (.ref p_LG), some (.ref p_LL), some (.ref p_LQ), some (.ref p_LP), some (.ref p_LT), some (.int (1 : Int32)), some (.int x10), none, none, none] [] μ
abbrev KK_L_mesh_222 (g : GE) (f : FE) (z : ScT) : Int32 → Int32 → Nat → Mm → Prop := fun x1 x10 n μ => KW g f 14 n (6 * n) 222 [some (.ref p_SCR), some (.int x1), some (.ref p_ML), some (.ref p_LC), some (.ref p_LG), some (.ref p_LL), some (.ref p_LQ), some (.ref p_LP), some (.ref p_LT), some (.int (1 : Int32)), some (.int x10), none, none, none] [] μ
abbrev KK_L_mesh_356 (g : GE) (f : FE) (z : ScT) : Int32 → Int32 → Nat → Mm → Prop := fun x1 x10 n μ => KW g f 14 n (6 * n) 356 [some (.ref p_SCR), some (.int x1), some (.ref p_ML), some (.ref p_LC), some (.ref p_LG), some (.ref p_LL), some (.ref p_LQ), some (.ref p_LP), some (.ref p_LT), none, some (.int x10), none, none, none] [.int (1 : Int32)] μ
abbrev KK_L_mesh_403 (g : GE) (f : FE) (z : ScT) : Nat → Mm → Prop := fun n μ => KW g f 14 n (6 * n) 403 [none, none, some (.ref p_ML), some (.ref p_LC), some (.ref p_LG), some (.ref p_LL), some (.ref p_LQ), some (.ref p_LP), some (.ref p_LT), some (.int (1 : Int32)), none, none, none, none] [] μ
set_option maxHeartbeats 4000000 in
theorem b_L_mesh_48 {g : GE} {f : FE} {z : ScT} {q : Mm → Prop} (hm : g.2.2.2.2 = []) (hcx : (∀ n, n ≤ 140000 → Cx g f cL_mesh 14 RL 14 359 n (6 * n))) (bx : BXl g z f) (hr : (f_M f).sig.returnType = (some .boolean)) (rx : RXm g f 140000) {x1 : Int32} {x10 : Int32} {n : Nat} {μ : Mm} (h : F_L_mesh_48 z (KK_L_mesh_48 g f z) (KK_L_mesh_114 g f z) (KK_L_mesh_222 g f z) (KK_L_mesh_356 g f z) (KK_L_mesh_403 g f z) q x1 x10 n μ) : KW g f 14 n (6 * n) 48 [some (.ref p_SCR), some (.int x1), some (.ref p_ML), some (.ref p_LC), some (.ref p_LG), some (.ref p_LL), some (.ref p_LQ), some (.ref p_LP), some (.ref p_LT), some (.int (1 : Int32)), some (.int x10), none, none, none] [] μ := by
  unfold F_L_mesh_48 at h
  obtain ⟨hn, h⟩ := h
  have cx := hcx n (by omega)
  refine k_iload cx dL_mesh_48 rfl ?_
  refine k_iconst (v := (4 : Int32)) cx dL_mesh_50 (by decide +kernel) ?_
  refine k_icmp_ge (tgt := 111) cx dL_mesh_51 (by decide) (fun hc => ?_) (fun hc => ?_)
  · replace h := h.1 hc
    refine k_iconst (v := (0 : Int32)) cx dL_mesh_111 (by decide +kernel) ?_
    refine k_istore cx dL_mesh_112 (by decide) ?_
    exact k_weak h (lsLe.keep (lsLe.keep (lsLe.keep (lsLe.keep (lsLe.keep (lsLe.keep (lsLe.keep (lsLe.keep (lsLe.keep (lsLe.keep (lsLe.keep (lsLe.keep (lsLe.keep (lsLe.keep lsLe.nil))))))))))))))
  · replace h := h.2 hc
    refine k_aload cx dL_mesh_54 rfl ?_
    refine k_iload cx dL_mesh_56 rfl ?_
    refine k_bipush (v := (20 : Int32)) cx dL_mesh_58 (by decide +kernel) ?_
    refine k_aload_n cx dL_mesh_60 rfl rfl ?_
    refine k_iload_n cx dL_mesh_61 rfl rfl ?_
    refine k_iload cx dL_mesh_62 rfl ?_
    refine k_iadd cx dL_mesh_64 ?_
    refine k_bipush (v := (40 : Int32)) cx dL_mesh_65 (by decide +kernel) ?_
    refine k_callB (As := [.ref p_SCR, .int (x1 + x10), .int (40 : Int32)]) (rest := [.int (20 : Int32), .int x10, .ref p_LG]) (n2 := n) hcx bx (m_L_draw bx.2.2.2 h) cv_L_117 rfl rfl (Nat.le_of_ble_eq_true rfl) ⟨Nat.le_of_ble_eq_true rfl, Nat.le_of_ble_eq_true rfl⟩ (by omega) (by omega) dL_mesh_67 (fun v μ_1 hq => ?_)
    obtain ⟨z2, rfl, h⟩ := hq
    have cx := hcx n (by omega)
    refine k_iadd cx dL_mesh_70 ?_
    obtain ⟨hi, h⟩ := h
    refine k_iast cx ar_LG hi dL_mesh_71 ?_
    generalize eμ_3 : (up2 μ_1 p_LG (x10).toNatClampNeg ((20 : Int32) + z2)) = μ_3
    replace h := h μ_3 eμ_3.symm
    refine k_iload cx dL_mesh_72 rfl ?_
    refine k_if_eq (tgt := 95) cx dL_mesh_74 (by decide) (fun hc => absurd hc (by decide)) (fun _ => ?_)
    refine k_aload_n cx dL_mesh_77 rfl rfl ?_
    refine k_aload cx dL_mesh_78 rfl ?_
    refine k_iload cx dL_mesh_80 rfl ?_
    obtain ⟨hi, h⟩ := h
    refine k_iald cx ar_LG hi dL_mesh_82 ?_
    obtain ⟨q0, qx0, h0, hq0, hx0⟩ := h
    refine k_callXd (As := [.int (μ_3 p_LG (x10).toNatClampNeg)]) (rest := []) (n2 := (n + 1)) hcx bx (m_X7_node bx.2.2.2 h0) hx0 lk_L_16 cv_L_16 ob_ML rfl rfl rfl rfl (Nat.le_of_ble_eq_true rfl) ⟨Nat.le_of_ble_eq_true rfl, Nat.le_of_ble_eq_true rfl⟩ (by omega) (by omega) dL_mesh_83 (fun v μ_4 hq => ?_)
    obtain ⟨z5, rfl, h⟩ := hq
    replace h := hq0 _ _ h
    have cx := hcx (n + 1) (by omega)
    refine k_iload cx dL_mesh_86 rfl ?_
    refine k_icmp_ne (tgt := 95) cx dL_mesh_88 (by decide) (fun hc => ?_) (fun hc => ?_)
    · replace h := h.1 hc
      exact h.elim
    · replace h := h.2 hc
      refine k_iconst (v := (1 : Int32)) cx dL_mesh_91 (by decide +kernel) ?_
      refine k_goto (tgt := 96) cx dL_mesh_92 (by decide) ?_
      refine k_istore cx dL_mesh_96 (by decide) ?_
      refine k_aload_n cx dL_mesh_98 rfl rfl ?_
      refine k_iconst (v := (0 : Int32)) cx dL_mesh_99 (by decide +kernel) ?_
      refine k_dup2 cx dL_mesh_100 rfl rfl ?_
      obtain ⟨hi, h⟩ := h
      refine k_iald cx ar_LC hi dL_mesh_101 ?_
      refine k_iconst (v := (1 : Int32)) cx dL_mesh_102 (by decide +kernel) ?_
      refine k_iadd cx dL_mesh_103 ?_
      obtain ⟨hi, h⟩ := h
      refine k_iast cx ar_LC hi dL_mesh_104 ?_
      generalize eμ_6 : (up2 μ_4 p_LC ((0 : Int32)).toNatClampNeg ((μ_4 p_LC ((0 : Int32)).toNatClampNeg) + (1 : Int32))) = μ_6
      replace h := h μ_6 eμ_6.symm
      refine k_iinc (v := (x10 + (1 : Int32))) cx dL_mesh_105 rfl rfl (by decide) ?_
      refine k_goto (tgt := 48) cx dL_mesh_108 (by decide) ?_
      exact k_weak h (lsLe.keep (lsLe.keep (lsLe.keep (lsLe.keep (lsLe.keep (lsLe.keep (lsLe.keep (lsLe.keep (lsLe.keep (lsLe.keep (lsLe.keep (lsLe.keep (lsLe.keep (lsLe.keep lsLe.nil))))))))))))))
set_option maxHeartbeats 4000000 in
theorem b_L_mesh_114 {g : GE} {f : FE} {z : ScT} {q : Mm → Prop} (hm : g.2.2.2.2 = []) (hcx : (∀ n, n ≤ 140000 → Cx g f cL_mesh 14 RL 14 359 n (6 * n))) (bx : BXl g z f) (hr : (f_M f).sig.returnType = (some .boolean)) (rx : RXm g f 140000) {x1 : Int32} {x10 : Int32} {n : Nat} {μ : Mm} (h : F_L_mesh_114 z (KK_L_mesh_48 g f z) (KK_L_mesh_114 g f z) (KK_L_mesh_222 g f z) (KK_L_mesh_356 g f z) (KK_L_mesh_403 g f z) q x1 x10 n μ) : KW g f 14 n (6 * n) 114 [some (.ref p_SCR), some (.int x1), some (.ref p_ML), some (.ref p_LC), some (.ref p_LG), some (.ref p_LL), some (.ref p_LQ), some (.ref p_LP), some (.ref p_LT), some (.int (1 : Int32)), some (.int x10), none, none, none] [] μ := by
  unfold F_L_mesh_114 at h
  obtain ⟨hn, h⟩ := h
  have cx := hcx n (by omega)
  refine k_iload cx dL_mesh_114 rfl ?_
  refine k_iconst (v := (4 : Int32)) cx dL_mesh_116 (by decide +kernel) ?_
  refine k_icmp_ge (tgt := 219) cx dL_mesh_117 (by decide) (fun hc => ?_) (fun hc => ?_)
  · replace h := h.1 hc
    refine k_iconst (v := (0 : Int32)) cx dL_mesh_219 (by decide +kernel) ?_
    refine k_istore cx dL_mesh_220 (by decide) ?_
    exact k_weak h (lsLe.keep (lsLe.keep (lsLe.keep (lsLe.keep (lsLe.keep (lsLe.keep (lsLe.keep (lsLe.keep (lsLe.keep (lsLe.keep (lsLe.keep (lsLe.keep (lsLe.keep (lsLe.keep lsLe.nil))))))))))))))
  · replace h := h.2 hc
    refine k_aload cx dL_mesh_120 rfl ?_
    refine k_iconst (v := (3 : Int32)) cx dL_mesh_122 (by decide +kernel) ?_
    refine k_iload cx dL_mesh_123 rfl ?_
    refine k_imul cx dL_mesh_125 ?_
    refine k_iload cx dL_mesh_126 rfl ?_
    obtain ⟨hi, h⟩ := h
    refine k_iast cx ar_LL hi dL_mesh_128 ?_
    generalize eμ_1 : (up2 μ p_LL (((3 : Int32) * x10)).toNatClampNeg x10) = μ_1
    replace h := h μ_1 eμ_1.symm
    refine k_aload cx dL_mesh_129 rfl ?_
    refine k_iconst (v := (3 : Int32)) cx dL_mesh_131 (by decide +kernel) ?_
    refine k_iload cx dL_mesh_132 rfl ?_
    refine k_imul cx dL_mesh_134 ?_
    refine k_iconst (v := (1 : Int32)) cx dL_mesh_135 (by decide +kernel) ?_
    refine k_iadd cx dL_mesh_136 ?_
    refine k_iload cx dL_mesh_137 rfl ?_
    refine k_iconst (v := (1 : Int32)) cx dL_mesh_139 (by decide +kernel) ?_
    refine k_iadd cx dL_mesh_140 ?_
    refine k_iconst (v := (4 : Int32)) cx dL_mesh_141 (by decide +kernel) ?_
    refine k_rem cx dL_mesh_142 (by decide) ?_
    obtain ⟨hi, h⟩ := h
    refine k_iast cx ar_LL hi dL_mesh_143 ?_
    generalize eμ_2 : (up2 μ_1 p_LL ((((3 : Int32) * x10) + (1 : Int32))).toNatClampNeg (irm (x10 + (1 : Int32)) (4 : Int32))) = μ_2
    replace h := h μ_2 eμ_2.symm
    refine k_aload cx dL_mesh_144 rfl ?_
    refine k_iconst (v := (3 : Int32)) cx dL_mesh_146 (by decide +kernel) ?_
    refine k_iload cx dL_mesh_147 rfl ?_
    refine k_imul cx dL_mesh_149 ?_
    refine k_iconst (v := (2 : Int32)) cx dL_mesh_150 (by decide +kernel) ?_
    refine k_iadd cx dL_mesh_151 ?_
    refine k_bipush (v := (15 : Int32)) cx dL_mesh_152 (by decide +kernel) ?_
    refine k_aload_n cx dL_mesh_154 rfl rfl ?_
    refine k_iload_n cx dL_mesh_155 rfl rfl ?_
    refine k_iconst (v := (4 : Int32)) cx dL_mesh_156 (by decide +kernel) ?_
    refine k_iadd cx dL_mesh_157 ?_
    refine k_iload cx dL_mesh_158 rfl ?_
    refine k_iadd cx dL_mesh_160 ?_
    refine k_bipush (v := (40 : Int32)) cx dL_mesh_161 (by decide +kernel) ?_
    refine k_callB (As := [.ref p_SCR, .int ((x1 + (4 : Int32)) + x10), .int (40 : Int32)]) (rest := [.int (15 : Int32), .int (((3 : Int32) * x10) + (2 : Int32)), .ref p_LL]) (n2 := n) hcx bx (m_L_draw bx.2.2.2 h) cv_L_117 rfl rfl (Nat.le_of_ble_eq_true rfl) ⟨Nat.le_of_ble_eq_true rfl, Nat.le_of_ble_eq_true rfl⟩ (by omega) (by omega) dL_mesh_163 (fun v μ_3 hq => ?_)
    obtain ⟨z4, rfl, h⟩ := hq
    have cx := hcx n (by omega)
    refine k_iadd cx dL_mesh_166 ?_
    obtain ⟨hi, h⟩ := h
    refine k_iast cx ar_LL hi dL_mesh_167 ?_
    generalize eμ_5 : (up2 μ_3 p_LL ((((3 : Int32) * x10) + (2 : Int32))).toNatClampNeg ((15 : Int32) + z4)) = μ_5
    replace h := h μ_5 eμ_5.symm
    refine k_iload cx dL_mesh_168 rfl ?_
    refine k_if_eq (tgt := 203) cx dL_mesh_170 (by decide) (fun hc => absurd hc (by decide)) (fun _ => ?_)
    refine k_aload_n cx dL_mesh_173 rfl rfl ?_
    refine k_iload cx dL_mesh_174 rfl ?_
    refine k_iload cx dL_mesh_176 rfl ?_
    refine k_iconst (v := (1 : Int32)) cx dL_mesh_178 (by decide +kernel) ?_
    refine k_iadd cx dL_mesh_179 ?_
    refine k_iconst (v := (4 : Int32)) cx dL_mesh_180 (by decide +kernel) ?_
    refine k_rem cx dL_mesh_181 (by decide) ?_
    refine k_aload cx dL_mesh_182 rfl ?_
    refine k_iconst (v := (3 : Int32)) cx dL_mesh_184 (by decide +kernel) ?_
    refine k_iload cx dL_mesh_185 rfl ?_
    refine k_imul cx dL_mesh_187 ?_
    refine k_iconst (v := (2 : Int32)) cx dL_mesh_188 (by decide +kernel) ?_
    refine k_iadd cx dL_mesh_189 ?_
    obtain ⟨hi, h⟩ := h
    refine k_iald cx ar_LL hi dL_mesh_190 ?_
    obtain ⟨q0, qx0, h0, hq0, hx0⟩ := h
    refine k_callXd (As := [.int x10, .int (irm (x10 + (1 : Int32)) (4 : Int32)), .int (μ_5 p_LL ((((3 : Int32) * x10) + (2 : Int32))).toNatClampNeg)]) (rest := []) (n2 := (n + 1)) hcx bx (m_X7_link bx.2.2.2 h0) hx0 lk_L_20 cv_L_20 ob_ML rfl rfl rfl rfl (Nat.le_of_ble_eq_true rfl) ⟨Nat.le_of_ble_eq_true rfl, Nat.le_of_ble_eq_true rfl⟩ (by omega) (by omega) dL_mesh_191 (fun v μ_6 hq => ?_)
    obtain ⟨z7, rfl, h⟩ := hq
    replace h := hq0 _ _ h
    have cx := hcx (n + 1) (by omega)
    refine k_iload cx dL_mesh_194 rfl ?_
    refine k_icmp_ne (tgt := 203) cx dL_mesh_196 (by decide) (fun hc => ?_) (fun hc => ?_)
    · replace h := h.1 hc
      exact h.elim
    · replace h := h.2 hc
      refine k_iconst (v := (1 : Int32)) cx dL_mesh_199 (by decide +kernel) ?_
      refine k_goto (tgt := 204) cx dL_mesh_200 (by decide) ?_
      refine k_istore cx dL_mesh_204 (by decide) ?_
      refine k_aload_n cx dL_mesh_206 rfl rfl ?_
      refine k_iconst (v := (1 : Int32)) cx dL_mesh_207 (by decide +kernel) ?_
      refine k_dup2 cx dL_mesh_208 rfl rfl ?_
      obtain ⟨hi, h⟩ := h
      refine k_iald cx ar_LC hi dL_mesh_209 ?_
      refine k_iconst (v := (1 : Int32)) cx dL_mesh_210 (by decide +kernel) ?_
      refine k_iadd cx dL_mesh_211 ?_
      obtain ⟨hi, h⟩ := h
      refine k_iast cx ar_LC hi dL_mesh_212 ?_
      generalize eμ_8 : (up2 μ_6 p_LC ((1 : Int32)).toNatClampNeg ((μ_6 p_LC ((1 : Int32)).toNatClampNeg) + (1 : Int32))) = μ_8
      replace h := h μ_8 eμ_8.symm
      refine k_iinc (v := (x10 + (1 : Int32))) cx dL_mesh_213 rfl rfl (by decide) ?_
      refine k_goto (tgt := 114) cx dL_mesh_216 (by decide) ?_
      exact k_weak h (lsLe.keep (lsLe.keep (lsLe.keep (lsLe.keep (lsLe.keep (lsLe.keep (lsLe.keep (lsLe.keep (lsLe.keep (lsLe.keep (lsLe.keep (lsLe.keep (lsLe.keep (lsLe.keep lsLe.nil))))))))))))))
set_option maxHeartbeats 4000000 in
theorem b_L_mesh_222 {g : GE} {f : FE} {z : ScT} {q : Mm → Prop} (hm : g.2.2.2.2 = []) (hcx : (∀ n, n ≤ 140000 → Cx g f cL_mesh 14 RL 14 359 n (6 * n))) (bx : BXl g z f) (hr : (f_M f).sig.returnType = (some .boolean)) (rx : RXm g f 140000) {x1 : Int32} {x10 : Int32} {n : Nat} {μ : Mm} (h : F_L_mesh_222 z (KK_L_mesh_48 g f z) (KK_L_mesh_114 g f z) (KK_L_mesh_222 g f z) (KK_L_mesh_356 g f z) (KK_L_mesh_403 g f z) q x1 x10 n μ) : KW g f 14 n (6 * n) 222 [some (.ref p_SCR), some (.int x1), some (.ref p_ML), some (.ref p_LC), some (.ref p_LG), some (.ref p_LL), some (.ref p_LQ), some (.ref p_LP), some (.ref p_LT), some (.int (1 : Int32)), some (.int x10), none, none, none] [] μ := by
  unfold F_L_mesh_222 at h
  obtain ⟨hn, h⟩ := h
  have cx := hcx n (by omega)
  refine k_iload cx dL_mesh_222 rfl ?_
  refine k_bipush (v := (40 : Int32)) cx dL_mesh_224 (by decide +kernel) ?_
  refine k_icmp_ge (tgt := 403) cx dL_mesh_226 (by decide) (fun hc => ?_) (fun hc => ?_)
  · replace h := h.1 hc
    exact k_weak h (lsLe.drop (lsLe.drop (lsLe.keep (lsLe.keep (lsLe.keep (lsLe.keep (lsLe.keep (lsLe.keep (lsLe.keep (lsLe.keep (lsLe.drop (lsLe.keep (lsLe.keep (lsLe.keep lsLe.nil))))))))))))))
  · replace h := h.2 hc
    refine k_iload cx dL_mesh_229 rfl ?_
    refine k_if_eq (tgt := 403) cx dL_mesh_231 (by decide) (fun hc => absurd hc (by decide)) (fun _ => ?_)
    refine k_aload_n cx dL_mesh_234 rfl rfl ?_
    refine k_iload_n cx dL_mesh_235 rfl rfl ?_
    refine k_bipush (v := (8 : Int32)) cx dL_mesh_236 (by decide +kernel) ?_
    refine k_iadd cx dL_mesh_238 ?_
    refine k_iconst (v := (2 : Int32)) cx dL_mesh_239 (by decide +kernel) ?_
    refine k_iload cx dL_mesh_240 rfl ?_
    refine k_imul cx dL_mesh_242 ?_
    refine k_iadd cx dL_mesh_243 ?_
    refine k_ldc (v := (1073741824 : Int32)) cx kc_L_121 dL_mesh_244 ?_
    refine k_callB (As := [.ref p_SCR, .int ((x1 + (8 : Int32)) + ((2 : Int32) * x10)), .int (1073741824 : Int32)]) (rest := []) (n2 := n) hcx bx (m_L_draw bx.2.2.2 h) cv_L_117 rfl rfl (Nat.le_of_ble_eq_true rfl) ⟨Nat.le_of_ble_eq_true rfl, Nat.le_of_ble_eq_true rfl⟩ (by omega) (by omega) dL_mesh_246 (fun v μ_1 hq => ?_)
    obtain ⟨z2, rfl, h⟩ := hq
    have cx := hcx n (by omega)
    refine k_istore cx dL_mesh_249 (by decide) ?_
    refine k_aload_n cx dL_mesh_251 rfl rfl ?_
    refine k_iload_n cx dL_mesh_252 rfl rfl ?_
    refine k_bipush (v := (9 : Int32)) cx dL_mesh_253 (by decide +kernel) ?_
    refine k_iadd cx dL_mesh_255 ?_
    refine k_iconst (v := (2 : Int32)) cx dL_mesh_256 (by decide +kernel) ?_
    refine k_iload cx dL_mesh_257 rfl ?_
    refine k_imul cx dL_mesh_259 ?_
    refine k_iadd cx dL_mesh_260 ?_
    refine k_ldc (v := (1073741824 : Int32)) cx kc_L_121 dL_mesh_261 ?_
    refine k_callB (As := [.ref p_SCR, .int ((x1 + (9 : Int32)) + ((2 : Int32) * x10)), .int (1073741824 : Int32)]) (rest := []) (n2 := n) hcx bx (m_L_draw bx.2.2.2 h) cv_L_117 rfl rfl (Nat.le_of_ble_eq_true rfl) ⟨Nat.le_of_ble_eq_true rfl, Nat.le_of_ble_eq_true rfl⟩ (by omega) (by omega) dL_mesh_263 (fun v μ_3 hq => ?_)
    obtain ⟨z4, rfl, h⟩ := hq
    have cx := hcx n (by omega)
    refine k_istore cx dL_mesh_266 (by decide) ?_
    refine k_iload cx dL_mesh_268 rfl ?_
    refine k_bipush (v := (8 : Int32)) cx dL_mesh_270 (by decide +kernel) ?_
    refine k_rem cx dL_mesh_272 (by decide) ?_
    refine k_istore cx dL_mesh_273 (by decide) ?_
    generalize ev13_5 : (irm z2 (8 : Int32)) = v13_5
    replace h := h v13_5 ev13_5.symm
    refine k_iload cx dL_mesh_275 rfl ?_
    refine k_if_ne (tgt := 299) cx dL_mesh_277 (by decide) (fun hc => ?_) (fun hc => ?_)
    · replace h := h.1 hc
      refine k_iload cx dL_mesh_299 rfl ?_
      refine k_iconst (v := (4 : Int32)) cx dL_mesh_301 (by decide +kernel) ?_
      refine k_icmp_ge (tgt := 342) cx dL_mesh_302 (by decide) (fun hc => ?_) (fun hc => ?_)
      · replace h := h.1 hc
        refine k_aload_n cx dL_mesh_342 rfl rfl ?_
        refine k_iload cx dL_mesh_343 rfl ?_
        refine k_bipush (v := (8 : Int32)) cx dL_mesh_345 (by decide +kernel) ?_
        refine k_idiv cx dL_mesh_347 (by decide) ?_
        refine k_iload cx dL_mesh_348 rfl ?_
        refine k_aload_n cx dL_mesh_350 rfl rfl ?_
        refine k_aload cx dL_mesh_351 rfl ?_
        refine k_callB (As := [.ref p_ML, .int (z2 / (8 : Int32)), .int z4, .ref p_LC, .ref p_LT]) (rest := []) (n2 := (n + 60)) hcx bx (m_L_others bx.2.2.2 h) cv_L_130 rfl rfl (Nat.le_of_ble_eq_true rfl) ⟨Nat.le_of_ble_eq_true rfl, Nat.le_of_ble_eq_true rfl⟩ (by omega) (by omega) dL_mesh_353 (fun v μ_6 hq => ?_)
        obtain ⟨rfl, h⟩ := hq
        have cx := hcx (n + 60) (by omega)
        exact k_weak h (lsLe.keep (lsLe.keep (lsLe.keep (lsLe.keep (lsLe.keep (lsLe.keep (lsLe.keep (lsLe.keep (lsLe.keep (lsLe.drop (lsLe.keep (lsLe.drop (lsLe.drop (lsLe.drop lsLe.nil))))))))))))))
      · replace h := h.2 hc
        refine k_aload_n cx dL_mesh_305 rfl rfl ?_
        refine k_iconst (v := (2 : Int32)) cx dL_mesh_306 (by decide +kernel) ?_
        obtain ⟨hi, h⟩ := h
        refine k_iald cx ar_LC hi dL_mesh_307 ?_
        refine k_bipush (v := (6 : Int32)) cx dL_mesh_308 (by decide +kernel) ?_
        refine k_icmp_gt (tgt := 334) cx dL_mesh_310 (by decide) (fun hc => ?_) (fun hc => ?_)
        · replace h := h.1 hc
          refine k_iconst (v := (1 : Int32)) cx dL_mesh_334 (by decide +kernel) ?_
          refine k_goto (tgt := 356) cx dL_mesh_335 (by decide) ?_
          exact k_weak h (lsLe.keep (lsLe.keep (lsLe.keep (lsLe.keep (lsLe.keep (lsLe.keep (lsLe.keep (lsLe.keep (lsLe.keep (lsLe.drop (lsLe.keep (lsLe.drop (lsLe.drop (lsLe.drop lsLe.nil))))))))))))))
        · replace h := h.2 hc
          refine k_aload_n cx dL_mesh_313 rfl rfl ?_
          refine k_iload cx dL_mesh_314 rfl ?_
          refine k_bipush (v := (8 : Int32)) cx dL_mesh_316 (by decide +kernel) ?_
          refine k_idiv cx dL_mesh_318 (by decide) ?_
          refine k_iload cx dL_mesh_319 rfl ?_
          refine k_aload_n cx dL_mesh_321 rfl rfl ?_
          refine k_aload cx dL_mesh_322 rfl ?_
          refine k_aload cx dL_mesh_324 rfl ?_
          refine k_aload cx dL_mesh_326 rfl ?_
          refine k_callB (As := [.ref p_ML, .int (z2 / (8 : Int32)), .int z4, .ref p_LC, .ref p_LQ, .ref p_LP, .ref p_LT]) (rest := []) (n2 := (n + 60)) hcx bx (m_L_places bx.2.2.2 hm h) cv_L_126 rfl rfl (Nat.le_of_ble_eq_true rfl) ⟨Nat.le_of_ble_eq_true rfl, Nat.le_of_ble_eq_true rfl⟩ (by omega) (by omega) dL_mesh_328 (fun v μ_7 hq => ?_)
          obtain ⟨rfl, h⟩ := hq
          have cx := hcx (n + 60) (by omega)
          refine k_if_eq (tgt := 338) cx dL_mesh_331 (by decide) (fun hc => absurd hc (by decide)) (fun _ => ?_)
          refine k_iconst (v := (1 : Int32)) cx dL_mesh_334 (by decide +kernel) ?_
          refine k_goto (tgt := 356) cx dL_mesh_335 (by decide) ?_
          exact k_weak h (lsLe.keep (lsLe.keep (lsLe.keep (lsLe.keep (lsLe.keep (lsLe.keep (lsLe.keep (lsLe.keep (lsLe.keep (lsLe.drop (lsLe.keep (lsLe.drop (lsLe.drop (lsLe.drop lsLe.nil))))))))))))))
    · replace h := h.2 hc
      refine k_aload_n cx dL_mesh_280 rfl rfl ?_
      refine k_iload cx dL_mesh_281 rfl ?_
      refine k_bipush (v := (8 : Int32)) cx dL_mesh_283 (by decide +kernel) ?_
      refine k_idiv cx dL_mesh_285 (by decide) ?_
      refine k_iload cx dL_mesh_286 rfl ?_
      refine k_aload_n cx dL_mesh_288 rfl rfl ?_
      refine k_aload cx dL_mesh_289 rfl ?_
      refine k_aload cx dL_mesh_291 rfl ?_
      refine k_callB (As := [.ref p_ML, .int (z2 / (8 : Int32)), .int z4, .ref p_LC, .ref p_LG, .ref p_LL]) (rest := []) (n2 := (n + 1)) hcx bx (m_L_ground bx.2.2.2 h) cv_L_122 rfl rfl (Nat.le_of_ble_eq_true rfl) ⟨Nat.le_of_ble_eq_true rfl, Nat.le_of_ble_eq_true rfl⟩ (by omega) (by omega) dL_mesh_293 (fun v μ_8 hq => ?_)
      obtain ⟨rfl, h⟩ := hq
      have cx := hcx (n + 1) (by omega)
      refine k_goto (tgt := 356) cx dL_mesh_296 (by decide) ?_
      exact k_weak h (lsLe.keep (lsLe.keep (lsLe.keep (lsLe.keep (lsLe.keep (lsLe.keep (lsLe.keep (lsLe.keep (lsLe.keep (lsLe.drop (lsLe.keep (lsLe.drop (lsLe.drop (lsLe.drop lsLe.nil))))))))))))))
set_option maxHeartbeats 4000000 in
theorem b_L_mesh_356 {g : GE} {f : FE} {z : ScT} {q : Mm → Prop} (hm : g.2.2.2.2 = []) (hcx : (∀ n, n ≤ 140000 → Cx g f cL_mesh 14 RL 14 359 n (6 * n))) (bx : BXl g z f) (hr : (f_M f).sig.returnType = (some .boolean)) (rx : RXm g f 140000) {x1 : Int32} {x10 : Int32} {n : Nat} {μ : Mm} (h : F_L_mesh_356 z (KK_L_mesh_48 g f z) (KK_L_mesh_114 g f z) (KK_L_mesh_222 g f z) (KK_L_mesh_356 g f z) (KK_L_mesh_403 g f z) q x1 x10 n μ) : KW g f 14 n (6 * n) 356 [some (.ref p_SCR), some (.int x1), some (.ref p_ML), some (.ref p_LC), some (.ref p_LG), some (.ref p_LL), some (.ref p_LQ), some (.ref p_LP), some (.ref p_LT), none, some (.int x10), none, none, none] [.int (1 : Int32)] μ := by
  unfold F_L_mesh_356 at h
  obtain ⟨hn, h⟩ := h
  have cx := hcx n (by omega)
  refine k_istore cx dL_mesh_356 (by decide) ?_
  refine k_iload cx dL_mesh_358 rfl ?_
  refine k_if_eq (tgt := 394) cx dL_mesh_360 (by decide) (fun hc => absurd hc (by decide)) (fun _ => ?_)
  refine k_iload cx dL_mesh_363 rfl ?_
  refine k_bipush (v := (6 : Int32)) cx dL_mesh_365 (by decide +kernel) ?_
  refine k_rem cx dL_mesh_367 (by decide) ?_
  refine k_iconst (v := (5 : Int32)) cx dL_mesh_368 (by decide +kernel) ?_
  refine k_icmp_lt (tgt := 390) cx dL_mesh_369 (by decide) (fun hc => ?_) (fun hc => ?_)
  · replace h := h.1 hc
    refine k_iconst (v := (1 : Int32)) cx dL_mesh_390 (by decide +kernel) ?_
    refine k_goto (tgt := 395) cx dL_mesh_391 (by decide) ?_
    refine k_istore cx dL_mesh_395 (by decide) ?_
    refine k_iinc (v := (x10 + (1 : Int32))) cx dL_mesh_397 rfl rfl (by decide) ?_
    refine k_goto (tgt := 222) cx dL_mesh_400 (by decide) ?_
    exact k_weak h (lsLe.keep (lsLe.keep (lsLe.keep (lsLe.keep (lsLe.keep (lsLe.keep (lsLe.keep (lsLe.keep (lsLe.keep (lsLe.keep (lsLe.keep (lsLe.keep (lsLe.keep (lsLe.keep lsLe.nil))))))))))))))
  · replace h := h.2 hc
    refine k_aload_n cx dL_mesh_372 rfl rfl ?_
    refine k_aload_n cx dL_mesh_373 rfl rfl ?_
    refine k_aload cx dL_mesh_374 rfl ?_
    refine k_aload cx dL_mesh_376 rfl ?_
    refine k_aload cx dL_mesh_378 rfl ?_
    refine k_aload cx dL_mesh_380 rfl ?_
    refine k_aload cx dL_mesh_382 rfl ?_
    refine k_callB (As := [.ref p_ML, .ref p_LC, .ref p_LG, .ref p_LL, .ref p_LQ, .ref p_LP, .ref p_LT]) (rest := []) (n2 := (n + 3000)) hcx bx (m_L_isSound bx.2.2.2 hm h) cv_L_134 rfl rfl (Nat.le_of_ble_eq_true rfl) ⟨Nat.le_of_ble_eq_true rfl, Nat.le_of_ble_eq_true rfl⟩ (by omega) (by omega) dL_mesh_384 (fun v μ_1 hq => ?_)
    obtain ⟨rfl, h⟩ := hq
    have cx := hcx (n + 3000) (by omega)
    refine k_if_eq (tgt := 394) cx dL_mesh_387 (by decide) (fun hc => absurd hc (by decide)) (fun _ => ?_)
    refine k_iconst (v := (1 : Int32)) cx dL_mesh_390 (by decide +kernel) ?_
    refine k_goto (tgt := 395) cx dL_mesh_391 (by decide) ?_
    refine k_istore cx dL_mesh_395 (by decide) ?_
    refine k_iinc (v := (x10 + (1 : Int32))) cx dL_mesh_397 rfl rfl (by decide) ?_
    refine k_goto (tgt := 222) cx dL_mesh_400 (by decide) ?_
    exact k_weak h (lsLe.keep (lsLe.keep (lsLe.keep (lsLe.keep (lsLe.keep (lsLe.keep (lsLe.keep (lsLe.keep (lsLe.keep (lsLe.keep (lsLe.keep (lsLe.keep (lsLe.keep (lsLe.keep lsLe.nil))))))))))))))
set_option maxHeartbeats 4000000 in
theorem b_L_mesh_403 {g : GE} {f : FE} {z : ScT} {q : Mm → Prop} (hm : g.2.2.2.2 = []) (hcx : (∀ n, n ≤ 140000 → Cx g f cL_mesh 14 RL 14 359 n (6 * n))) (bx : BXl g z f) (hr : (f_M f).sig.returnType = (some .boolean)) (rx : RXm g f 140000) {n : Nat} {μ : Mm} (h : F_L_mesh_403 z (KK_L_mesh_48 g f z) (KK_L_mesh_114 g f z) (KK_L_mesh_222 g f z) (KK_L_mesh_356 g f z) (KK_L_mesh_403 g f z) q n μ) : KW g f 14 n (6 * n) 403 [none, none, some (.ref p_ML), some (.ref p_LC), some (.ref p_LG), some (.ref p_LL), some (.ref p_LQ), some (.ref p_LP), some (.ref p_LT), some (.int (1 : Int32)), none, none, none, none] [] μ := by
  unfold F_L_mesh_403 at h
  obtain ⟨hn, h⟩ := h
  have cx := hcx n (by omega)
  refine k_iload cx dL_mesh_403 rfl ?_
  refine k_if_eq (tgt := 430) cx dL_mesh_405 (by decide) (fun hc => absurd hc (by decide)) (fun _ => ?_)
  refine k_aload_n cx dL_mesh_408 rfl rfl ?_
  refine k_aload_n cx dL_mesh_409 rfl rfl ?_
  refine k_aload cx dL_mesh_410 rfl ?_
  refine k_aload cx dL_mesh_412 rfl ?_
  refine k_aload cx dL_mesh_414 rfl ?_
  refine k_aload cx dL_mesh_416 rfl ?_
  refine k_aload cx dL_mesh_418 rfl ?_
  refine k_callB (As := [.ref p_ML, .ref p_LC, .ref p_LG, .ref p_LL, .ref p_LQ, .ref p_LP, .ref p_LT]) (rest := []) (n2 := (n + 3000)) hcx bx (m_L_isSound bx.2.2.2 hm h) cv_L_134 rfl rfl (Nat.le_of_ble_eq_true rfl) ⟨Nat.le_of_ble_eq_true rfl, Nat.le_of_ble_eq_true rfl⟩ (by omega) (by omega) dL_mesh_420 (fun v μ_1 hq => ?_)
  obtain ⟨rfl, h⟩ := hq
  have cx := hcx (n + 3000) (by omega)
  refine k_if_eq (tgt := 430) cx dL_mesh_423 (by decide) (fun hc => absurd hc (by decide)) (fun _ => ?_)
  refine k_iconst (v := (1 : Int32)) cx dL_mesh_426 (by decide +kernel) ?_
  refine k_goto (tgt := 431) cx dL_mesh_427 (by decide) ?_
  exact k_mret_T cx hr rx (by omega) dL_mesh_431
set_option maxHeartbeats 4000000 in
theorem b_L_mesh_e {g : GE} {f : FE} {z : ScT} {q : Mm → Prop} (hm : g.2.2.2.2 = []) (hcx : (∀ n, n ≤ 140000 → Cx g f cL_mesh 14 RL 14 359 n (6 * n))) (bx : BXl g z f) (hr : (f_M f).sig.returnType = (some .boolean)) (rx : RXm g f 140000) {x1 : Int32} {μ : Mm} (h : F_L_mesh_e z (KK_L_mesh_48 g f z) (KK_L_mesh_114 g f z) (KK_L_mesh_222 g f z) (KK_L_mesh_356 g f z) (KK_L_mesh_403 g f z) q x1 μ) : KW g f 14 270 (6 * 270) 42 [some (.ref p_SCR), some (.int x1), some (.ref p_ML), some (.ref p_LC), some (.ref p_LG), some (.ref p_LL), some (.ref p_LQ), some (.ref p_LP), some (.ref p_LT), none, none, none, none, none] [] μ := by
  unfold F_L_mesh_e at h
  have cx := hcx 270 (by omega)
  refine k_iconst (v := (1 : Int32)) cx dL_mesh_42 (by decide +kernel) ?_
  refine k_istore cx dL_mesh_43 (by decide) ?_
  refine k_iconst (v := (0 : Int32)) cx dL_mesh_45 (by decide +kernel) ?_
  refine k_istore cx dL_mesh_46 (by decide) ?_
  exact k_weak h (lsLe.keep (lsLe.keep (lsLe.keep (lsLe.keep (lsLe.keep (lsLe.keep (lsLe.keep (lsLe.keep (lsLe.keep (lsLe.keep (lsLe.keep (lsLe.keep (lsLe.keep (lsLe.keep lsLe.nil))))))))))))))
