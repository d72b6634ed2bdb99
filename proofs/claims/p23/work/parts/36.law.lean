theorem dL_ground_0 : decode cL_ground 0 = .ok (.iload_n 1, 1) := by decide +kernel
theorem dL_ground_1 : decode cL_ground 1 = .ok (.iconst 4, 1) := by decide +kernel
theorem dL_ground_2 : decode cL_ground 2 = .ok (.irem, 1) := by decide +kernel
theorem dL_ground_3 : decode cL_ground 3 = .ok (.ifCond .ne 76, 3) := by decide +kernel
theorem dL_ground_6 : decode cL_ground 6 = .ok (.aload_n 0, 1) := by decide +kernel
theorem dL_ground_7 : decode cL_ground 7 = .ok (.iconst 0, 1) := by decide +kernel
theorem dL_ground_8 : decode cL_ground 8 = .ok (.bipush 20, 2) := by decide +kernel
theorem dL_ground_10 : decode cL_ground 10 = .ok (.iload_n 2, 1) := by decide +kernel
theorem dL_ground_11 : decode cL_ground 11 = .ok (.bipush 80, 2) := by decide +kernel
theorem dL_ground_13 : decode cL_ground 13 = .ok (.irem, 1) := by decide +kernel
theorem dL_ground_14 : decode cL_ground 14 = .ok (.iadd, 1) := by decide +kernel
theorem dL_ground_15 : decode cL_ground 15 = .ok (.iconst 0, 1) := by decide +kernel
theorem dL_ground_16 : decode cL_ground 16 = .ok (.iconst 0, 1) := by decide +kernel
theorem dL_ground_17 : decode cL_ground 17 = .ok (.invokestatic 81, 3) := by decide +kernel
theorem dL_ground_20 : decode cL_ground 20 = .ok (.istore 6, 2) := by decide +kernel
theorem dL_ground_22 : decode cL_ground 22 = .ok (.aload_n 3, 1) := by decide +kernel
theorem dL_ground_23 : decode cL_ground 23 = .ok (.iconst 0, 1) := by decide +kernel
theorem dL_ground_24 : decode cL_ground 24 = .ok (.iaload, 1) := by decide +kernel
theorem dL_ground_25 : decode cL_ground 25 = .ok (.bipush 6, 2) := by decide +kernel
theorem dL_ground_27 : decode cL_ground 27 = .ok (.if_icmp .ne 16, 3) := by decide +kernel
theorem dL_ground_30 : decode cL_ground 30 = .ok (.iload 6, 2) := by decide +kernel
theorem dL_ground_32 : decode cL_ground 32 = .ok (.ldc 54, 2) := by decide +kernel
theorem dL_ground_34 : decode cL_ground 34 = .ok (.if_icmp .ne 7, 3) := by decide +kernel
theorem dL_ground_37 : decode cL_ground 37 = .ok (.iconst 1, 1) := by decide +kernel
theorem dL_ground_38 : decode cL_ground 38 = .ok (.goto 4, 3) := by decide +kernel
theorem dL_ground_42 : decode cL_ground 42 = .ok (.ireturn, 1) := by decide +kernel
theorem dL_ground_43 : decode cL_ground 43 = .ok (.aload 4, 2) := by decide +kernel
theorem dL_ground_45 : decode cL_ground 45 = .ok (.aload_n 3, 1) := by decide +kernel
theorem dL_ground_46 : decode cL_ground 46 = .ok (.iconst 0, 1) := by decide +kernel
theorem dL_ground_47 : decode cL_ground 47 = .ok (.iaload, 1) := by decide +kernel
theorem dL_ground_48 : decode cL_ground 48 = .ok (.bipush 20, 2) := by decide +kernel
theorem dL_ground_50 : decode cL_ground 50 = .ok (.iload_n 2, 1) := by decide +kernel
theorem dL_ground_51 : decode cL_ground 51 = .ok (.bipush 80, 2) := by decide +kernel
theorem dL_ground_53 : decode cL_ground 53 = .ok (.irem, 1) := by decide +kernel
theorem dL_ground_54 : decode cL_ground 54 = .ok (.iadd, 1) := by decide +kernel
theorem dL_ground_55 : decode cL_ground 55 = .ok (.iastore, 1) := by decide +kernel
theorem dL_ground_56 : decode cL_ground 56 = .ok (.aload_n 3, 1) := by decide +kernel
theorem dL_ground_57 : decode cL_ground 57 = .ok (.iconst 0, 1) := by decide +kernel
theorem dL_ground_58 : decode cL_ground 58 = .ok (.dup2, 1) := by decide +kernel
theorem dL_ground_59 : decode cL_ground 59 = .ok (.iaload, 1) := by decide +kernel
theorem dL_ground_60 : decode cL_ground 60 = .ok (.iconst 1, 1) := by decide +kernel
theorem dL_ground_61 : decode cL_ground 61 = .ok (.iadd, 1) := by decide +kernel
theorem dL_ground_62 : decode cL_ground 62 = .ok (.iastore, 1) := by decide +kernel
theorem dL_ground_63 : decode cL_ground 63 = .ok (.iload 6, 2) := by decide +kernel
theorem dL_ground_65 : decode cL_ground 65 = .ok (.aload_n 3, 1) := by decide +kernel
theorem dL_ground_66 : decode cL_ground 66 = .ok (.iconst 0, 1) := by decide +kernel
theorem dL_ground_67 : decode cL_ground 67 = .ok (.iaload, 1) := by decide +kernel
theorem dL_ground_68 : decode cL_ground 68 = .ok (.iconst 1, 1) := by decide +kernel
theorem dL_ground_69 : decode cL_ground 69 = .ok (.isub, 1) := by decide +kernel
theorem dL_ground_70 : decode cL_ground 70 = .ok (.if_icmp .ne 7, 3) := by decide +kernel
theorem dL_ground_73 : decode cL_ground 73 = .ok (.iconst 1, 1) := by decide +kernel
theorem dL_ground_74 : decode cL_ground 74 = .ok (.goto 4, 3) := by decide +kernel
theorem dL_ground_78 : decode cL_ground 78 = .ok (.ireturn, 1) := by decide +kernel
theorem dL_ground_79 : decode cL_ground 79 = .ok (.iload_n 2, 1) := by decide +kernel
theorem dL_ground_80 : decode cL_ground 80 = .ok (.aload_n 3, 1) := by decide +kernel
theorem dL_ground_81 : decode cL_ground 81 = .ok (.iconst 0, 1) := by decide +kernel
theorem dL_ground_82 : decode cL_ground 82 = .ok (.iaload, 1) := by decide +kernel
theorem dL_ground_83 : decode cL_ground 83 = .ok (.irem, 1) := by decide +kernel
theorem dL_ground_84 : decode cL_ground 84 = .ok (.istore 6, 2) := by decide +kernel
theorem dL_ground_86 : decode cL_ground 86 = .ok (.iload_n 2, 1) := by decide +kernel
theorem dL_ground_87 : decode cL_ground 87 = .ok (.bipush 6, 2) := by decide +kernel
theorem dL_ground_89 : decode cL_ground 89 = .ok (.idiv, 1) := by decide +kernel
theorem dL_ground_90 : decode cL_ground 90 = .ok (.aload_n 3, 1) := by decide +kernel
theorem dL_ground_91 : decode cL_ground 91 = .ok (.iconst 0, 1) := by decide +kernel
theorem dL_ground_92 : decode cL_ground 92 = .ok (.iaload, 1) := by decide +kernel
theorem dL_ground_93 : decode cL_ground 93 = .ok (.irem, 1) := by decide +kernel
theorem dL_ground_94 : decode cL_ground 94 = .ok (.istore 7, 2) := by decide +kernel
theorem dL_ground_96 : decode cL_ground 96 = .ok (.iconst 0, 1) := by decide +kernel
theorem dL_ground_97 : decode cL_ground 97 = .ok (.istore 8, 2) := by decide +kernel
theorem dL_ground_99 : decode cL_ground 99 = .ok (.iconst 0, 1) := by decide +kernel
theorem dL_ground_100 : decode cL_ground 100 = .ok (.istore 9, 2) := by decide +kernel
theorem dL_ground_102 : decode cL_ground 102 = .ok (.iload 9, 2) := by decide +kernel
theorem dL_ground_104 : decode cL_ground 104 = .ok (.aload_n 3, 1) := by decide +kernel
theorem dL_ground_105 : decode cL_ground 105 = .ok (.iconst 1, 1) := by decide +kernel
theorem dL_ground_106 : decode cL_ground 106 = .ok (.iaload, 1) := by decide +kernel
theorem dL_ground_107 : decode cL_ground 107 = .ok (.if_icmp .ge 73, 3) := by decide +kernel
theorem dL_ground_110 : decode cL_ground 110 = .ok (.iload 8, 2) := by decide +kernel
theorem dL_ground_112 : decode cL_ground 112 = .ok (.ifCond .ne 55, 3) := by decide +kernel
theorem dL_ground_115 : decode cL_ground 115 = .ok (.aload 5, 2) := by decide +kernel
theorem dL_ground_117 : decode cL_ground 117 = .ok (.iconst 3, 1) := by decide +kernel
theorem dL_ground_118 : decode cL_ground 118 = .ok (.iload 9, 2) := by decide +kernel
theorem dL_ground_120 : decode cL_ground 120 = .ok (.imul, 1) := by decide +kernel
theorem dL_ground_121 : decode cL_ground 121 = .ok (.iaload, 1) := by decide +kernel
theorem dL_ground_122 : decode cL_ground 122 = .ok (.iload 6, 2) := by decide +kernel
theorem dL_ground_124 : decode cL_ground 124 = .ok (.if_icmp .ne 17, 3) := by decide +kernel
theorem dL_ground_127 : decode cL_ground 127 = .ok (.aload 5, 2) := by decide +kernel
theorem dL_ground_129 : decode cL_ground 129 = .ok (.iconst 3, 1) := by decide +kernel
theorem dL_ground_130 : decode cL_ground 130 = .ok (.iload 9, 2) := by decide +kernel
theorem dL_ground_132 : decode cL_ground 132 = .ok (.imul, 1) := by decide +kernel
theorem dL_ground_133 : decode cL_ground 133 = .ok (.iconst 1, 1) := by decide +kernel
theorem dL_ground_134 : decode cL_ground 134 = .ok (.iadd, 1) := by decide +kernel
theorem dL_ground_135 : decode cL_ground 135 = .ok (.iaload, 1) := by decide +kernel
theorem dL_ground_136 : decode cL_ground 136 = .ok (.iload 7, 2) := by decide +kernel
theorem dL_ground_138 : decode cL_ground 138 = .ok (.if_icmp .eq 29, 3) := by decide +kernel
theorem dL_ground_141 : decode cL_ground 141 = .ok (.aload 5, 2) := by decide +kernel
theorem dL_ground_143 : decode cL_ground 143 = .ok (.iconst 3, 1) := by decide +kernel
theorem dL_ground_144 : decode cL_ground 144 = .ok (.iload 9, 2) := by decide +kernel
theorem dL_ground_146 : decode cL_ground 146 = .ok (.imul, 1) := by decide +kernel
theorem dL_ground_147 : decode cL_ground 147 = .ok (.iaload, 1) := by decide +kernel
theorem dL_ground_148 : decode cL_ground 148 = .ok (.iload 7, 2) := by decide +kernel
theorem dL_ground_150 : decode cL_ground 150 = .ok (.if_icmp .ne 21, 3) := by decide +kernel
theorem dL_ground_153 : decode cL_ground 153 = .ok (.aload 5, 2) := by decide +kernel
theorem dL_ground_155 : decode cL_ground 155 = .ok (.iconst 3, 1) := by decide +kernel
theorem dL_ground_156 : decode cL_ground 156 = .ok (.iload 9, 2) := by decide +kernel
theorem dL_ground_158 : decode cL_ground 158 = .ok (.imul, 1) := by decide +kernel
theorem dL_ground_159 : decode cL_ground 159 = .ok (.iconst 1, 1) := by decide +kernel
theorem dL_ground_160 : decode cL_ground 160 = .ok (.iadd, 1) := by decide +kernel
theorem dL_ground_161 : decode cL_ground 161 = .ok (.iaload, 1) := by decide +kernel
theorem dL_ground_162 : decode cL_ground 162 = .ok (.iload 6, 2) := by decide +kernel
theorem dL_ground_164 : decode cL_ground 164 = .ok (.if_icmp .ne 7, 3) := by decide +kernel
theorem dL_ground_167 : decode cL_ground 167 = .ok (.iconst 1, 1) := by decide +kernel
theorem dL_ground_168 : decode cL_ground 168 = .ok (.goto 4, 3) := by decide +kernel
theorem dL_ground_171 : decode cL_ground 171 = .ok (.iconst 0, 1) := by decide +kernel
theorem dL_ground_172 : decode cL_ground 172 = .ok (.istore 8, 2) := by decide +kernel
theorem dL_ground_174 : decode cL_ground 174 = .ok (.iinc 9 1, 3) := by decide +kernel
theorem dL_ground_177 : decode cL_ground 177 = .ok (.goto (-75), 3) := by decide +kernel
theorem dL_ground_180 : decode cL_ground 180 = .ok (.aload_n 0, 1) := by decide +kernel
theorem dL_ground_181 : decode cL_ground 181 = .ok (.iconst 1, 1) := by decide +kernel
theorem dL_ground_182 : decode cL_ground 182 = .ok (.iload 6, 2) := by decide +kernel
theorem dL_ground_184 : decode cL_ground 184 = .ok (.iload 7, 2) := by decide +kernel
theorem dL_ground_186 : decode cL_ground 186 = .ok (.bipush 10, 2) := by decide +kernel
theorem dL_ground_188 : decode cL_ground 188 = .ok (.iload_n 2, 1) := by decide +kernel
theorem dL_ground_189 : decode cL_ground 189 = .ok (.bipush 36, 2) := by decide +kernel
theorem dL_ground_191 : decode cL_ground 191 = .ok (.idiv, 1) := by decide +kernel
theorem dL_ground_192 : decode cL_ground 192 = .ok (.bipush 50, 2) := by decide +kernel
theorem dL_ground_194 : decode cL_ground 194 = .ok (.irem, 1) := by decide +kernel
theorem dL_ground_195 : decode cL_ground 195 = .ok (.iadd, 1) := by decide +kernel
theorem dL_ground_196 : decode cL_ground 196 = .ok (.invokestatic 81, 3) := by decide +kernel
theorem dL_ground_199 : decode cL_ground 199 = .ok (.istore 9, 2) := by decide +kernel
theorem dL_ground_201 : decode cL_ground 201 = .ok (.iload 6, 2) := by decide +kernel
theorem dL_ground_203 : decode cL_ground 203 = .ok (.iload 7, 2) := by decide +kernel
theorem dL_ground_205 : decode cL_ground 205 = .ok (.if_icmp .ne 16, 3) := by decide +kernel
theorem dL_ground_208 : decode cL_ground 208 = .ok (.iload 9, 2) := by decide +kernel
theorem dL_ground_210 : decode cL_ground 210 = .ok (.ldc 51, 2) := by decide +kernel
theorem dL_ground_212 : decode cL_ground 212 = .ok (.if_icmp .ne 7, 3) := by decide +kernel
theorem dL_ground_215 : decode cL_ground 215 = .ok (.iconst 1, 1) := by decide +kernel
theorem dL_ground_216 : decode cL_ground 216 = .ok (.goto 4, 3) := by decide +kernel
theorem dL_ground_220 : decode cL_ground 220 = .ok (.ireturn, 1) := by decide +kernel
theorem dL_ground_221 : decode cL_ground 221 = .ok (.iload 8, 2) := by decide +kernel
theorem dL_ground_223 : decode cL_ground 223 = .ok (.ifCond .ne 11, 3) := by decide +kernel
theorem dL_ground_226 : decode cL_ground 226 = .ok (.aload_n 3, 1) := by decide +kernel
theorem dL_ground_227 : decode cL_ground 227 = .ok (.iconst 1, 1) := by decide +kernel
theorem dL_ground_228 : decode cL_ground 228 = .ok (.iaload, 1) := by decide +kernel
theorem dL_ground_229 : decode cL_ground 229 = .ok (.bipush 9, 2) := by decide +kernel
theorem dL_ground_231 : decode cL_ground 231 = .ok (.if_icmp .ne 16, 3) := by decide +kernel
theorem dL_ground_234 : decode cL_ground 234 = .ok (.iload 9, 2) := by decide +kernel
theorem dL_ground_236 : decode cL_ground 236 = .ok (.ldc 54, 2) := by decide +kernel
theorem dL_ground_238 : decode cL_ground 238 = .ok (.if_icmp .ne 7, 3) := by decide +kernel
theorem dL_ground_241 : decode cL_ground 241 = .ok (.iconst 1, 1) := by decide +kernel
theorem dL_ground_242 : decode cL_ground 242 = .ok (.goto 4, 3) := by decide +kernel
theorem dL_ground_246 : decode cL_ground 246 = .ok (.ireturn, 1) := by decide +kernel
theorem dL_ground_247 : decode cL_ground 247 = .ok (.aload 5, 2) := by decide +kernel
theorem dL_ground_249 : decode cL_ground 249 = .ok (.iconst 3, 1) := by decide +kernel
theorem dL_ground_250 : decode cL_ground 250 = .ok (.aload_n 3, 1) := by decide +kernel
theorem dL_ground_251 : decode cL_ground 251 = .ok (.iconst 1, 1) := by decide +kernel
theorem dL_ground_252 : decode cL_ground 252 = .ok (.iaload, 1) := by decide +kernel
theorem dL_ground_253 : decode cL_ground 253 = .ok (.imul, 1) := by decide +kernel
theorem dL_ground_254 : decode cL_ground 254 = .ok (.iload 6, 2) := by decide +kernel
theorem dL_ground_256 : decode cL_ground 256 = .ok (.iastore, 1) := by decide +kernel
theorem dL_ground_257 : decode cL_ground 257 = .ok (.aload 5, 2) := by decide +kernel
theorem dL_ground_259 : decode cL_ground 259 = .ok (.iconst 3, 1) := by decide +kernel
theorem dL_ground_260 : decode cL_ground 260 = .ok (.aload_n 3, 1) := by decide +kernel
theorem dL_ground_261 : decode cL_ground 261 = .ok (.iconst 1, 1) := by decide +kernel
theorem dL_ground_262 : decode cL_ground 262 = .ok (.iaload, 1) := by decide +kernel
theorem dL_ground_263 : decode cL_ground 263 = .ok (.imul, 1) := by decide +kernel
theorem dL_ground_264 : decode cL_ground 264 = .ok (.iconst 1, 1) := by decide +kernel
theorem dL_ground_265 : decode cL_ground 265 = .ok (.iadd, 1) := by decide +kernel
theorem dL_ground_266 : decode cL_ground 266 = .ok (.iload 7, 2) := by decide +kernel
theorem dL_ground_268 : decode cL_ground 268 = .ok (.iastore, 1) := by decide +kernel
theorem dL_ground_269 : decode cL_ground 269 = .ok (.aload 5, 2) := by decide +kernel
theorem dL_ground_271 : decode cL_ground 271 = .ok (.iconst 3, 1) := by decide +kernel
theorem dL_ground_272 : decode cL_ground 272 = .ok (.aload_n 3, 1) := by decide +kernel
theorem dL_ground_273 : decode cL_ground 273 = .ok (.iconst 1, 1) := by decide +kernel
theorem dL_ground_274 : decode cL_ground 274 = .ok (.iaload, 1) := by decide +kernel
theorem dL_ground_275 : decode cL_ground 275 = .ok (.imul, 1) := by decide +kernel
theorem dL_ground_276 : decode cL_ground 276 = .ok (.iconst 2, 1) := by decide +kernel
theorem dL_ground_277 : decode cL_ground 277 = .ok (.iadd, 1) := by decide +kernel
theorem dL_ground_278 : decode cL_ground 278 = .ok (.bipush 10, 2) := by decide +kernel
theorem dL_ground_280 : decode cL_ground 280 = .ok (.iload_n 2, 1) := by decide +kernel
theorem dL_ground_281 : decode cL_ground 281 = .ok (.bipush 36, 2) := by decide +kernel
theorem dL_ground_283 : decode cL_ground 283 = .ok (.idiv, 1) := by decide +kernel
theorem dL_ground_284 : decode cL_ground 284 = .ok (.bipush 50, 2) := by decide +kernel
theorem dL_ground_286 : decode cL_ground 286 = .ok (.irem, 1) := by decide +kernel
theorem dL_ground_287 : decode cL_ground 287 = .ok (.iadd, 1) := by decide +kernel
theorem dL_ground_288 : decode cL_ground 288 = .ok (.iastore, 1) := by decide +kernel
theorem dL_ground_289 : decode cL_ground 289 = .ok (.aload_n 3, 1) := by decide +kernel
theorem dL_ground_290 : decode cL_ground 290 = .ok (.iconst 1, 1) := by decide +kernel
theorem dL_ground_291 : decode cL_ground 291 = .ok (.dup2, 1) := by decide +kernel
theorem dL_ground_292 : decode cL_ground 292 = .ok (.iaload, 1) := by decide +kernel
theorem dL_ground_293 : decode cL_ground 293 = .ok (.iconst 1, 1) := by decide +kernel
theorem dL_ground_294 : decode cL_ground 294 = .ok (.iadd, 1) := by decide +kernel
theorem dL_ground_295 : decode cL_ground 295 = .ok (.iastore, 1) := by decide +kernel
theorem dL_ground_296 : decode cL_ground 296 = .ok (.iload 9, 2) := by decide +kernel
theorem dL_ground_298 : decode cL_ground 298 = .ok (.aload_n 3, 1) := by decide +kernel
theorem dL_ground_299 : decode cL_ground 299 = .ok (.iconst 1, 1) := by decide +kernel
theorem dL_ground_300 : decode cL_ground 300 = .ok (.iaload, 1) := by decide +kernel
theorem dL_ground_301 : decode cL_ground 301 = .ok (.iconst 1, 1) := by decide +kernel
theorem dL_ground_302 : decode cL_ground 302 = .ok (.isub, 1) := by decide +kernel
theorem dL_ground_303 : decode cL_ground 303 = .ok (.if_icmp .ne 7, 3) := by decide +kernel
theorem dL_ground_306 : decode cL_ground 306 = .ok (.iconst 1, 1) := by decide +kernel
theorem dL_ground_307 : decode cL_ground 307 = .ok (.goto 4, 3) := by decide +kernel
theorem dL_ground_311 : decode cL_ground 311 = .ok (.ireturn, 1) := by decide +kernel
def F_L_ground_102 (z : ScT) (K102 : Int32 → Int32 → Int32 → Int32 → Int32 → Nat → Mm → Prop) (K141 : Int32 → Int32 → Int32 → Int32 → Nat → Mm → Prop) (q : Mm → Prop) (x2 : Int32) (x6 : Int32) (x7 : Int32) (x8 : Int32) (x9 : Int32) (n : Nat) (μ : Mm) : Prop :=
  n + 1 ≤ 1 ∧ (vp_in (1 : Int32) 5 ∧ (((μ p_LC ((1 : Int32)).toNatClampNeg) ≤ x9 → Wp_L_asks (1 : Int32) x6 x7 ((10 : Int32) + (irm (x2 / (36 : Int32)) (50 : Int32))) μ (fun z2 μ_1 => ((¬ (x6 = x7) → ((¬ (x8 = 0) → ((¬ (z2 = (-70008 : Int32)) → False) ∧ (z2 = (-70008 : Int32) → q μ_1))) ∧ (x8 = 0 → vp_in (1 : Int32) 5 ∧ ((¬ ((μ_1 p_LC ((1 : Int32)).toNatClampNeg) = (9 : Int32)) → vp_in (1 : Int32) 5 ∧ vp_in ((3 : Int32) * (μ_1 p_LC ((1 : Int32)).toNatClampNeg)) 27 ∧ (∀ μ_3 : Mm, μ_3 = (up2 μ_1 p_LL (((3 : Int32) * (μ_1 p_LC ((1 : Int32)).toNatClampNeg))).toNatClampNeg x6) → vp_in (1 : Int32) 5 ∧ vp_in (((3 : Int32) * (μ_3 p_LC ((1 : Int32)).toNatClampNeg)) + (1 : Int32)) 27 ∧ (∀ μ_4 : Mm, μ_4 = (up2 μ_3 p_LL ((((3 : Int32) * (μ_3 p_LC ((1 : Int32)).toNatClampNeg)) + (1 : Int32))).toNatClampNeg x7) → vp_in (1 : Int32) 5 ∧ vp_in (((3 : Int32) * (μ_4 p_LC ((1 : Int32)).toNatClampNeg)) + (2 : Int32)) 27 ∧ (∀ μ_5 : Mm, μ_5 = (up2 μ_4 p_LL ((((3 : Int32) * (μ_4 p_LC ((1 : Int32)).toNatClampNeg)) + (2 : Int32))).toNatClampNeg ((10 : Int32) + (irm (x2 / (36 : Int32)) (50 : Int32)))) → vp_in (1 : Int32) 5 ∧ vp_in (1 : Int32) 5 ∧ (∀ μ_6 : Mm, μ_6 = (up2 μ_5 p_LC ((1 : Int32)).toNatClampNeg ((μ_5 p_LC ((1 : Int32)).toNatClampNeg) + (1 : Int32))) → vp_in (1 : Int32) 5 ∧ ((¬ (z2 = ((μ_6 p_LC ((1 : Int32)).toNatClampNeg) - (1 : Int32))) → False) ∧ (z2 = ((μ_6 p_LC ((1 : Int32)).toNatClampNeg) - (1 : Int32)) → q μ_6))))))) ∧ ((μ_1 p_LC ((1 : Int32)).toNatClampNeg) = (9 : Int32) → ((¬ (z2 = (-70008 : Int32)) → False) ∧ (z2 = (-70008 : Int32) → q μ_1))))))) ∧ (x6 = x7 → ((¬ (z2 = (-70009 : Int32)) → False) ∧ (z2 = (-70009 : Int32) → q μ_1)))))) ∧ (¬ ((μ p_LC ((1 : Int32)).toNatClampNeg) ≤ x9) → ((¬ (x8 = 0) → K102 x2 x6 x7 (1 : Int32) (x9 + (1 : Int32)) n μ) ∧ (x8 = 0 → vp_in ((3 : Int32) * x9) 27 ∧ ((¬ ((μ p_LL (((3 : Int32) * x9)).toNatClampNeg) = x6) → K141 x2 x6 x7 x9 n μ) ∧ ((μ p_LL (((3 : Int32) * x9)).toNatClampNeg) = x6 → vp_in (((3 : Int32) * x9) + (1 : Int32)) 27 ∧ (((μ p_LL ((((3 : Int32) * x9) + (1 : Int32))).toNatClampNeg) = x7 → K102 x2 x6 x7 (1 : Int32) (x9 + (1 : Int32)) n μ) ∧ (¬ ((μ p_LL ((((3 : Int32) * x9) + (1 : Int32))).toNatClampNeg) = x7) → K141 x2 x6 x7 x9 n μ)))))))))
def F_L_ground_141 (z : ScT) (K102 : Int32 → Int32 → Int32 → Int32 → Int32 → Nat → Mm → Prop) (K141 : Int32 → Int32 → Int32 → Int32 → Nat → Mm → Prop) (q : Mm → Prop) (x2 : Int32) (x6 : Int32) (x7 : Int32) (x9 : Int32) (n : Nat) (μ : Mm) : Prop :=
  n + 0 ≤ 1 ∧ (vp_in ((3 : Int32) * x9) 27 ∧ ((¬ ((μ p_LL (((3 : Int32) * x9)).toNatClampNeg) = x7) → K102 x2 x6 x7 (0 : Int32) (x9 + (1 : Int32)) n μ) ∧ ((μ p_LL (((3 : Int32) * x9)).toNatClampNeg) = x7 → vp_in (((3 : Int32) * x9) + (1 : Int32)) 27 ∧ ((¬ ((μ p_LL ((((3 : Int32) * x9) + (1 : Int32))).toNatClampNeg) = x6) → K102 x2 x6 x7 (0 : Int32) (x9 + (1 : Int32)) n μ) ∧ ((μ p_LL ((((3 : Int32) * x9) + (1 : Int32))).toNatClampNeg) = x6 → K102 x2 x6 x7 (1 : Int32) (x9 + (1 : Int32)) n μ)))))
def F_L_ground_e (z : ScT) (K102 : Int32 → Int32 → Int32 → Int32 → Int32 → Nat → Mm → Prop) (K141 : Int32 → Int32 → Int32 → Int32 → Nat → Mm → Prop) (q : Mm → Prop) (x1 : Int32) (x2 : Int32) (μ : Mm) : Prop :=
  ((¬ ((irm x1 (4 : Int32)) = 0) → vp_in (0 : Int32) 5 ∧ ¬ ((μ p_LC ((0 : Int32)).toNatClampNeg) = 0) ∧ (∀ v6_1 : Int32, v6_1 = (irm x2 (μ p_LC ((0 : Int32)).toNatClampNeg)) → vp_in (0 : Int32) 5 ∧ ¬ ((μ p_LC ((0 : Int32)).toNatClampNeg) = 0) ∧ (∀ v7_2 : Int32, v7_2 = (irm (x2 / (6 : Int32)) (μ p_LC ((0 : Int32)).toNatClampNeg)) → K102 x2 v6_1 v7_2 (0 : Int32) (0 : Int32) 0 μ))) ∧ ((irm x1 (4 : Int32)) = 0 → Wp_L_asks (0 : Int32) ((20 : Int32) + (irm x2 (80 : Int32))) (0 : Int32) (0 : Int32) μ (fun z4 μ_3 => vp_in (0 : Int32) 5 ∧ ((¬ ((μ_3 p_LC ((0 : Int32)).toNatClampNeg) = (6 : Int32)) → vp_in (0 : Int32) 5 ∧ vp_in (μ_3 p_LC ((0 : Int32)).toNatClampNeg) 6 ∧ (∀ μ_5 : Mm, μ_5 = (up2 μ_3 p_LG ((μ_3 p_LC ((0 : Int32)).toNatClampNeg)).toNatClampNeg ((20 : Int32) + (irm x2 (80 : Int32)))) → vp_in (0 : Int32) 5 ∧ vp_in (0 : Int32) 5 ∧ (∀ μ_6 : Mm, μ_6 = (up2 μ_5 p_LC ((0 : Int32)).toNatClampNeg ((μ_5 p_LC ((0 : Int32)).toNatClampNeg) + (1 : Int32))) → vp_in (0 : Int32) 5 ∧ ((¬ (z4 = ((μ_6 p_LC ((0 : Int32)).toNatClampNeg) - (1 : Int32))) → False) ∧ (z4 = ((μ_6 p_LC ((0 : Int32)).toNatClampNeg) - (1 : Int32)) → q μ_6))))) ∧ ((μ_3 p_LC ((0 : Int32)).toNatClampNeg) = (6 : Int32) → ((¬ (z4 = (-70008 : Int32)) → False) ∧ (z4 = (-70008 : Int32) → q μ_3)))))))
def Wp_L_ground (z : ScT) (x1 : Int32) (x2 : Int32) (μ : Mm) (q : Mm → Prop) : Prop := ∀ (K102 : Int32 → Int32 → Int32 → Int32 → Int32 → Nat → Mm → Prop) (K141 : Int32 → Int32 → Int32 → Int32 → Nat → Mm → Prop), (∀ (x2 : Int32) (x6 : Int32) (x7 : Int32) (x8 : Int32) (x9 : Int32) (n : Nat) (μ : Mm), F_L_ground_102 z K102 K141 q x2 x6 x7 x8 x9 n μ → K102 x2 x6 x7 x8 x9 n μ) → (∀ (x2 : Int32) (x6 : Int32) (x7 : Int32) (x9 : Int32) (n : Nat) (μ : Mm), F_L_ground_141 z K102 K141 q x2 x6 x7 x9 n μ → K141 x2 x6 x7 x9 n μ) → F_L_ground_e z K102 K141 q x1 x2 μ
abbrev KK_L_ground_102 (g : GE) (f : FE) (z : ScT) : Int32 → Int32 → Int32 → Int32 → Int32 → Nat → Mm → Prop := fun x2 x6 x7 x8 x9 n μ => KW g f 10 n (6 * n) 102 [some (.ref p_ML), none, some (.int x2), some (.ref p_LC), none, some (.ref p_LL), some (.int x6), some (.int x7), some (.int x8), some (.int x9)] [] μ
abbrev KK_L_ground_141 (g : GE) (f : FE) (z : ScT) : Int32 → Int32 → Int32 → Int32 → Nat → Mm → Prop := fun x2 x6 x7 x9 n μ => KW g f 10 n (6 * n) 141 [some (.ref p_ML), none, some (.int x2), some (.ref p_LC), none, some (.ref p_LL), some (.int x6), some (.int x7), none, some (.int x9)] [] μ
set_option maxHeartbeats 4000000 in
theorem b_L_ground_102 {g : GE} {f : FE} {z : ScT} {q : Mm → Prop} (hcx : (∀ n, n ≤ 1 → Cx g f cL_ground 10 RL 12 296 n (6 * n))) (bx : BXl g z f) (hr : (f_M f).sig.returnType = (some .boolean)) (rx : RXl g f 1 (qTr q)) {x2 : Int32} {x6 : Int32} {x7 : Int32} {x8 : Int32} {x9 : Int32} {n : Nat} {μ : Mm} (h : F_L_ground_102 z (KK_L_ground_102 g f z) (KK_L_ground_141 g f z) q x2 x6 x7 x8 x9 n μ) : KW g f 10 n (6 * n) 102 [some (.ref p_ML), none, some (.int x2), some (.ref p_LC), none, some (.ref p_LL), some (.int x6), some (.int x7), some (.int x8), some (.int x9)] [] μ := by
  unfold F_L_ground_102 at h
  obtain ⟨hn, h⟩ := h
  have cx := hcx n (by omega)
  refine k_iload cx dL_ground_102 rfl ?_
  refine k_aload_n cx dL_ground_104 rfl rfl ?_
  refine k_iconst (v := (1 : Int32)) cx dL_ground_105 (by decide +kernel) ?_
  obtain ⟨hi, h⟩ := h
  refine k_iald cx ar_LC hi dL_ground_106 ?_
  refine k_icmp_ge (tgt := 180) cx dL_ground_107 (by decide) (fun hc => ?_) (fun hc => ?_)
  · replace h := h.1 hc
    refine k_aload_n cx dL_ground_180 rfl rfl ?_
    refine k_iconst (v := (1 : Int32)) cx dL_ground_181 (by decide +kernel) ?_
    refine k_iload cx dL_ground_182 rfl ?_
    refine k_iload cx dL_ground_184 rfl ?_
    refine k_bipush (v := (10 : Int32)) cx dL_ground_186 (by decide +kernel) ?_
    refine k_iload_n cx dL_ground_188 rfl rfl ?_
    refine k_bipush (v := (36 : Int32)) cx dL_ground_189 (by decide +kernel) ?_
    refine k_idiv cx dL_ground_191 (by decide) ?_
    refine k_bipush (v := (50 : Int32)) cx dL_ground_192 (by decide +kernel) ?_
    refine k_rem cx dL_ground_194 (by decide) ?_
    refine k_iadd cx dL_ground_195 ?_
    refine k_callH (As := [.ref p_ML, .int (1 : Int32), .int x6, .int x7, .int ((10 : Int32) + (irm (x2 / (36 : Int32)) (50 : Int32)))]) (rest := []) (n2 := (n + 1)) hcx bx (m_L_asks bx.2.2.2 h) ch_L_asks rfl rfl (Nat.le_of_ble_eq_true rfl) ⟨Nat.le_of_ble_eq_true rfl, Nat.le_of_ble_eq_true rfl⟩ (by omega) (by omega) dL_ground_196 (fun v μ_1 hq => ?_)
    obtain ⟨z2, rfl, h⟩ := hq
    have cx := hcx (n + 1) (by omega)
    refine k_istore cx dL_ground_199 (by decide) ?_
    refine k_iload cx dL_ground_201 rfl ?_
    refine k_iload cx dL_ground_203 rfl ?_
    refine k_icmp_ne (tgt := 221) cx dL_ground_205 (by decide) (fun hc => ?_) (fun hc => ?_)
    · replace h := h.1 hc
      refine k_iload cx dL_ground_221 rfl ?_
      refine k_if_ne (tgt := 234) cx dL_ground_223 (by decide) (fun hc => ?_) (fun hc => ?_)
      · replace h := h.1 hc
        refine k_iload cx dL_ground_234 rfl ?_
        refine k_ldc (v := (-70008 : Int32)) cx kc_L_54 dL_ground_236 ?_
        refine k_icmp_ne (tgt := 245) cx dL_ground_238 (by decide) (fun hc => ?_) (fun hc => ?_)
        · replace h := h.1 hc
          exact h.elim
        · replace h := h.2 hc
          refine k_iconst (v := (1 : Int32)) cx dL_ground_241 (by decide +kernel) ?_
          refine k_goto (tgt := 246) cx dL_ground_242 (by decide) ?_
          exact k_bret_T cx hr rx (by omega) dL_ground_246 h
      · replace h := h.2 hc
        refine k_aload_n cx dL_ground_226 rfl rfl ?_
        refine k_iconst (v := (1 : Int32)) cx dL_ground_227 (by decide +kernel) ?_
        obtain ⟨hi, h⟩ := h
        refine k_iald cx ar_LC hi dL_ground_228 ?_
        refine k_bipush (v := (9 : Int32)) cx dL_ground_229 (by decide +kernel) ?_
        refine k_icmp_ne (tgt := 247) cx dL_ground_231 (by decide) (fun hc => ?_) (fun hc => ?_)
        · replace h := h.1 hc
          refine k_aload cx dL_ground_247 rfl ?_
          refine k_iconst (v := (3 : Int32)) cx dL_ground_249 (by decide +kernel) ?_
          refine k_aload_n cx dL_ground_250 rfl rfl ?_
          refine k_iconst (v := (1 : Int32)) cx dL_ground_251 (by decide +kernel) ?_
          obtain ⟨hi, h⟩ := h
          refine k_iald cx ar_LC hi dL_ground_252 ?_
          refine k_imul cx dL_ground_253 ?_
          refine k_iload cx dL_ground_254 rfl ?_
          obtain ⟨hi, h⟩ := h
          refine k_iast cx ar_LL hi dL_ground_256 ?_
          generalize eμ_3 : (up2 μ_1 p_LL (((3 : Int32) * (μ_1 p_LC ((1 : Int32)).toNatClampNeg))).toNatClampNeg x6) = μ_3
          replace h := h μ_3 eμ_3.symm
          refine k_aload cx dL_ground_257 rfl ?_
          refine k_iconst (v := (3 : Int32)) cx dL_ground_259 (by decide +kernel) ?_
          refine k_aload_n cx dL_ground_260 rfl rfl ?_
          refine k_iconst (v := (1 : Int32)) cx dL_ground_261 (by decide +kernel) ?_
          obtain ⟨hi, h⟩ := h
          refine k_iald cx ar_LC hi dL_ground_262 ?_
          refine k_imul cx dL_ground_263 ?_
          refine k_iconst (v := (1 : Int32)) cx dL_ground_264 (by decide +kernel) ?_
          refine k_iadd cx dL_ground_265 ?_
          refine k_iload cx dL_ground_266 rfl ?_
          obtain ⟨hi, h⟩ := h
          refine k_iast cx ar_LL hi dL_ground_268 ?_
          generalize eμ_4 : (up2 μ_3 p_LL ((((3 : Int32) * (μ_3 p_LC ((1 : Int32)).toNatClampNeg)) + (1 : Int32))).toNatClampNeg x7) = μ_4
          replace h := h μ_4 eμ_4.symm
          refine k_aload cx dL_ground_269 rfl ?_
          refine k_iconst (v := (3 : Int32)) cx dL_ground_271 (by decide +kernel) ?_
          refine k_aload_n cx dL_ground_272 rfl rfl ?_
          refine k_iconst (v := (1 : Int32)) cx dL_ground_273 (by decide +kernel) ?_
          obtain ⟨hi, h⟩ := h
          refine k_iald cx ar_LC hi dL_ground_274 ?_
          refine k_imul cx dL_ground_275 ?_
          refine k_iconst (v := (2 : Int32)) cx dL_ground_276 (by decide +kernel) ?_
          refine k_iadd cx dL_ground_277 ?_
          refine k_bipush (v := (10 : Int32)) cx dL_ground_278 (by decide +kernel) ?_
          refine k_iload_n cx dL_ground_280 rfl rfl ?_
          refine k_bipush (v := (36 : Int32)) cx dL_ground_281 (by decide +kernel) ?_
          refine k_idiv cx dL_ground_283 (by decide) ?_
          refine k_bipush (v := (50 : Int32)) cx dL_ground_284 (by decide +kernel) ?_
          refine k_rem cx dL_ground_286 (by decide) ?_
          refine k_iadd cx dL_ground_287 ?_
          obtain ⟨hi, h⟩ := h
          refine k_iast cx ar_LL hi dL_ground_288 ?_
          generalize eμ_5 : (up2 μ_4 p_LL ((((3 : Int32) * (μ_4 p_LC ((1 : Int32)).toNatClampNeg)) + (2 : Int32))).toNatClampNeg ((10 : Int32) + (irm (x2 / (36 : Int32)) (50 : Int32)))) = μ_5
          replace h := h μ_5 eμ_5.symm
          refine k_aload_n cx dL_ground_289 rfl rfl ?_
          refine k_iconst (v := (1 : Int32)) cx dL_ground_290 (by decide +kernel) ?_
          refine k_dup2 cx dL_ground_291 rfl rfl ?_
          obtain ⟨hi, h⟩ := h
          refine k_iald cx ar_LC hi dL_ground_292 ?_
          refine k_iconst (v := (1 : Int32)) cx dL_ground_293 (by decide +kernel) ?_
          refine k_iadd cx dL_ground_294 ?_
          obtain ⟨hi, h⟩ := h
          refine k_iast cx ar_LC hi dL_ground_295 ?_
          generalize eμ_6 : (up2 μ_5 p_LC ((1 : Int32)).toNatClampNeg ((μ_5 p_LC ((1 : Int32)).toNatClampNeg) + (1 : Int32))) = μ_6
          replace h := h μ_6 eμ_6.symm
          refine k_iload cx dL_ground_296 rfl ?_
          refine k_aload_n cx dL_ground_298 rfl rfl ?_
          refine k_iconst (v := (1 : Int32)) cx dL_ground_299 (by decide +kernel) ?_
          obtain ⟨hi, h⟩ := h
          refine k_iald cx ar_LC hi dL_ground_300 ?_
          refine k_iconst (v := (1 : Int32)) cx dL_ground_301 (by decide +kernel) ?_
          refine k_isub cx dL_ground_302 ?_
          refine k_icmp_ne (tgt := 310) cx dL_ground_303 (by decide) (fun hc => ?_) (fun hc => ?_)
          · replace h := h.1 hc
            exact h.elim
          · replace h := h.2 hc
            refine k_iconst (v := (1 : Int32)) cx dL_ground_306 (by decide +kernel) ?_
            refine k_goto (tgt := 311) cx dL_ground_307 (by decide) ?_
            exact k_bret_T cx hr rx (by omega) dL_ground_311 h
        · replace h := h.2 hc
          refine k_iload cx dL_ground_234 rfl ?_
          refine k_ldc (v := (-70008 : Int32)) cx kc_L_54 dL_ground_236 ?_
          refine k_icmp_ne (tgt := 245) cx dL_ground_238 (by decide) (fun hc => ?_) (fun hc => ?_)
          · replace h := h.1 hc
            exact h.elim
          · replace h := h.2 hc
            refine k_iconst (v := (1 : Int32)) cx dL_ground_241 (by decide +kernel) ?_
            refine k_goto (tgt := 246) cx dL_ground_242 (by decide) ?_
            exact k_bret_T cx hr rx (by omega) dL_ground_246 h
    · replace h := h.2 hc
      refine k_iload cx dL_ground_208 rfl ?_
      refine k_ldc (v := (-70009 : Int32)) cx kc_L_51 dL_ground_210 ?_
      refine k_icmp_ne (tgt := 219) cx dL_ground_212 (by decide) (fun hc => ?_) (fun hc => ?_)
      · replace h := h.1 hc
        exact h.elim
      · replace h := h.2 hc
        refine k_iconst (v := (1 : Int32)) cx dL_ground_215 (by decide +kernel) ?_
        refine k_goto (tgt := 220) cx dL_ground_216 (by decide) ?_
        exact k_bret_T cx hr rx (by omega) dL_ground_220 h
  · replace h := h.2 hc
    refine k_iload cx dL_ground_110 rfl ?_
    refine k_if_ne (tgt := 167) cx dL_ground_112 (by decide) (fun hc => ?_) (fun hc => ?_)
    · replace h := h.1 hc
      refine k_iconst (v := (1 : Int32)) cx dL_ground_167 (by decide +kernel) ?_
      refine k_goto (tgt := 172) cx dL_ground_168 (by decide) ?_
      refine k_istore cx dL_ground_172 (by decide) ?_
      refine k_iinc (v := (x9 + (1 : Int32))) cx dL_ground_174 rfl rfl (by decide) ?_
      refine k_goto (tgt := 102) cx dL_ground_177 (by decide) ?_
      exact k_weak h (lsLe.keep (lsLe.keep (lsLe.keep (lsLe.keep (lsLe.keep (lsLe.keep (lsLe.keep (lsLe.keep (lsLe.keep (lsLe.keep lsLe.nil))))))))))
    · replace h := h.2 hc
      refine k_aload cx dL_ground_115 rfl ?_
      refine k_iconst (v := (3 : Int32)) cx dL_ground_117 (by decide +kernel) ?_
      refine k_iload cx dL_ground_118 rfl ?_
      refine k_imul cx dL_ground_120 ?_
      obtain ⟨hi, h⟩ := h
      refine k_iald cx ar_LL hi dL_ground_121 ?_
      refine k_iload cx dL_ground_122 rfl ?_
      refine k_icmp_ne (tgt := 141) cx dL_ground_124 (by decide) (fun hc => ?_) (fun hc => ?_)
      · replace h := h.1 hc
        exact k_weak h (lsLe.keep (lsLe.keep (lsLe.keep (lsLe.keep (lsLe.keep (lsLe.keep (lsLe.keep (lsLe.keep (lsLe.drop (lsLe.keep lsLe.nil))))))))))
      · replace h := h.2 hc
        refine k_aload cx dL_ground_127 rfl ?_
        refine k_iconst (v := (3 : Int32)) cx dL_ground_129 (by decide +kernel) ?_
        refine k_iload cx dL_ground_130 rfl ?_
        refine k_imul cx dL_ground_132 ?_
        refine k_iconst (v := (1 : Int32)) cx dL_ground_133 (by decide +kernel) ?_
        refine k_iadd cx dL_ground_134 ?_
        obtain ⟨hi, h⟩ := h
        refine k_iald cx ar_LL hi dL_ground_135 ?_
        refine k_iload cx dL_ground_136 rfl ?_
        refine k_icmp_eq (tgt := 167) cx dL_ground_138 (by decide) (fun hc => ?_) (fun hc => ?_)
        · replace h := h.1 hc
          refine k_iconst (v := (1 : Int32)) cx dL_ground_167 (by decide +kernel) ?_
          refine k_goto (tgt := 172) cx dL_ground_168 (by decide) ?_
          refine k_istore cx dL_ground_172 (by decide) ?_
          refine k_iinc (v := (x9 + (1 : Int32))) cx dL_ground_174 rfl rfl (by decide) ?_
          refine k_goto (tgt := 102) cx dL_ground_177 (by decide) ?_
          exact k_weak h (lsLe.keep (lsLe.keep (lsLe.keep (lsLe.keep (lsLe.keep (lsLe.keep (lsLe.keep (lsLe.keep (lsLe.keep (lsLe.keep lsLe.nil))))))))))
        · replace h := h.2 hc
          exact k_weak h (lsLe.keep (lsLe.keep (lsLe.keep (lsLe.keep (lsLe.keep (lsLe.keep (lsLe.keep (lsLe.keep (lsLe.drop (lsLe.keep lsLe.nil))))))))))
set_option maxHeartbeats 4000000 in
theorem b_L_ground_141 {g : GE} {f : FE} {z : ScT} {q : Mm → Prop} (hcx : (∀ n, n ≤ 1 → Cx g f cL_ground 10 RL 12 296 n (6 * n))) (bx : BXl g z f) (hr : (f_M f).sig.returnType = (some .boolean)) (rx : RXl g f 1 (qTr q)) {x2 : Int32} {x6 : Int32} {x7 : Int32} {x9 : Int32} {n : Nat} {μ : Mm} (h : F_L_ground_141 z (KK_L_ground_102 g f z) (KK_L_ground_141 g f z) q x2 x6 x7 x9 n μ) : KW g f 10 n (6 * n) 141 [some (.ref p_ML), none, some (.int x2), some (.ref p_LC), none, some (.ref p_LL), some (.int x6), some (.int x7), none, some (.int x9)] [] μ := by
  unfold F_L_ground_141 at h
  obtain ⟨hn, h⟩ := h
  have cx := hcx n (by omega)
  refine k_aload cx dL_ground_141 rfl ?_
  refine k_iconst (v := (3 : Int32)) cx dL_ground_143 (by decide +kernel) ?_
  refine k_iload cx dL_ground_144 rfl ?_
  refine k_imul cx dL_ground_146 ?_
  obtain ⟨hi, h⟩ := h
  refine k_iald cx ar_LL hi dL_ground_147 ?_
  refine k_iload cx dL_ground_148 rfl ?_
  refine k_icmp_ne (tgt := 171) cx dL_ground_150 (by decide) (fun hc => ?_) (fun hc => ?_)
  · replace h := h.1 hc
    refine k_iconst (v := (0 : Int32)) cx dL_ground_171 (by decide +kernel) ?_
    refine k_istore cx dL_ground_172 (by decide) ?_
    refine k_iinc (v := (x9 + (1 : Int32))) cx dL_ground_174 rfl rfl (by decide) ?_
    refine k_goto (tgt := 102) cx dL_ground_177 (by decide) ?_
    exact k_weak h (lsLe.keep (lsLe.keep (lsLe.keep (lsLe.keep (lsLe.keep (lsLe.keep (lsLe.keep (lsLe.keep (lsLe.keep (lsLe.keep lsLe.nil))))))))))
  · replace h := h.2 hc
    refine k_aload cx dL_ground_153 rfl ?_
    refine k_iconst (v := (3 : Int32)) cx dL_ground_155 (by decide +kernel) ?_
    refine k_iload cx dL_ground_156 rfl ?_
    refine k_imul cx dL_ground_158 ?_
    refine k_iconst (v := (1 : Int32)) cx dL_ground_159 (by decide +kernel) ?_
    refine k_iadd cx dL_ground_160 ?_
    obtain ⟨hi, h⟩ := h
    refine k_iald cx ar_LL hi dL_ground_161 ?_
    refine k_iload cx dL_ground_162 rfl ?_
    refine k_icmp_ne (tgt := 171) cx dL_ground_164 (by decide) (fun hc => ?_) (fun hc => ?_)
    · replace h := h.1 hc
      refine k_iconst (v := (0 : Int32)) cx dL_ground_171 (by decide +kernel) ?_
      refine k_istore cx dL_ground_172 (by decide) ?_
      refine k_iinc (v := (x9 + (1 : Int32))) cx dL_ground_174 rfl rfl (by decide) ?_
      refine k_goto (tgt := 102) cx dL_ground_177 (by decide) ?_
      exact k_weak h (lsLe.keep (lsLe.keep (lsLe.keep (lsLe.keep (lsLe.keep (lsLe.keep (lsLe.keep (lsLe.keep (lsLe.keep (lsLe.keep lsLe.nil))))))))))
    · replace h := h.2 hc
      refine k_iconst (v := (1 : Int32)) cx dL_ground_167 (by decide +kernel) ?_
      refine k_goto (tgt := 172) cx dL_ground_168 (by decide) ?_
      refine k_istore cx dL_ground_172 (by decide) ?_
      refine k_iinc (v := (x9 + (1 : Int32))) cx dL_ground_174 rfl rfl (by decide) ?_
      refine k_goto (tgt := 102) cx dL_ground_177 (by decide) ?_
      exact k_weak h (lsLe.keep (lsLe.keep (lsLe.keep (lsLe.keep (lsLe.keep (lsLe.keep (lsLe.keep (lsLe.keep (lsLe.keep (lsLe.keep lsLe.nil))))))))))
set_option maxHeartbeats 4000000 in
theorem b_L_ground_e {g : GE} {f : FE} {z : ScT} {q : Mm → Prop} (hcx : (∀ n, n ≤ 1 → Cx g f cL_ground 10 RL 12 296 n (6 * n))) (bx : BXl g z f) (hr : (f_M f).sig.returnType = (some .boolean)) (rx : RXl g f 1 (qTr q)) {x1 : Int32} {x2 : Int32} {μ : Mm} (h : F_L_ground_e z (KK_L_ground_102 g f z) (KK_L_ground_141 g f z) q x1 x2 μ) : KW g f 10 0 (6 * 0) 0 [some (.ref p_ML), some (.int x1), some (.int x2), some (.ref p_LC), some (.ref p_LG), some (.ref p_LL), none, none, none, none] [] μ := by
  unfold F_L_ground_e at h
  have cx := hcx 0 (by omega)
  refine k_iload_n cx dL_ground_0 rfl rfl ?_
  refine k_iconst (v := (4 : Int32)) cx dL_ground_1 (by decide +kernel) ?_
  refine k_rem cx dL_ground_2 (by decide) ?_
  refine k_if_ne (tgt := 79) cx dL_ground_3 (by decide) (fun hc => ?_) (fun hc => ?_)
  · replace h := h.1 hc
    refine k_iload_n cx dL_ground_79 rfl rfl ?_
    refine k_aload_n cx dL_ground_80 rfl rfl ?_
    refine k_iconst (v := (0 : Int32)) cx dL_ground_81 (by decide +kernel) ?_
    obtain ⟨hi, h⟩ := h
    refine k_iald cx ar_LC hi dL_ground_82 ?_
    obtain ⟨hz, h⟩ := h
    refine k_rem cx dL_ground_83 hz ?_
    refine k_istore cx dL_ground_84 (by decide) ?_
    generalize ev6_1 : (irm x2 (μ p_LC ((0 : Int32)).toNatClampNeg)) = v6_1
    replace h := h v6_1 ev6_1.symm
    refine k_iload_n cx dL_ground_86 rfl rfl ?_
    refine k_bipush (v := (6 : Int32)) cx dL_ground_87 (by decide +kernel) ?_
    refine k_idiv cx dL_ground_89 (by decide) ?_
    refine k_aload_n cx dL_ground_90 rfl rfl ?_
    refine k_iconst (v := (0 : Int32)) cx dL_ground_91 (by decide +kernel) ?_
    obtain ⟨hi, h⟩ := h
    refine k_iald cx ar_LC hi dL_ground_92 ?_
    obtain ⟨hz, h⟩ := h
    refine k_rem cx dL_ground_93 hz ?_
    refine k_istore cx dL_ground_94 (by decide) ?_
    generalize ev7_2 : (irm (x2 / (6 : Int32)) (μ p_LC ((0 : Int32)).toNatClampNeg)) = v7_2
    replace h := h v7_2 ev7_2.symm
    refine k_iconst (v := (0 : Int32)) cx dL_ground_96 (by decide +kernel) ?_
    refine k_istore cx dL_ground_97 (by decide) ?_
    refine k_iconst (v := (0 : Int32)) cx dL_ground_99 (by decide +kernel) ?_
    refine k_istore cx dL_ground_100 (by decide) ?_
    exact k_weak h (lsLe.keep (lsLe.drop (lsLe.keep (lsLe.keep (lsLe.drop (lsLe.keep (lsLe.keep (lsLe.keep (lsLe.keep (lsLe.keep lsLe.nil))))))))))
  · replace h := h.2 hc
    refine k_aload_n cx dL_ground_6 rfl rfl ?_
    refine k_iconst (v := (0 : Int32)) cx dL_ground_7 (by decide +kernel) ?_
    refine k_bipush (v := (20 : Int32)) cx dL_ground_8 (by decide +kernel) ?_
    refine k_iload_n cx dL_ground_10 rfl rfl ?_
    refine k_bipush (v := (80 : Int32)) cx dL_ground_11 (by decide +kernel) ?_
    refine k_rem cx dL_ground_13 (by decide) ?_
    refine k_iadd cx dL_ground_14 ?_
    refine k_iconst (v := (0 : Int32)) cx dL_ground_15 (by decide +kernel) ?_
    refine k_iconst (v := (0 : Int32)) cx dL_ground_16 (by decide +kernel) ?_
    refine k_callH (As := [.ref p_ML, .int (0 : Int32), .int ((20 : Int32) + (irm x2 (80 : Int32))), .int (0 : Int32), .int (0 : Int32)]) (rest := []) (n2 := 1) hcx bx (m_L_asks bx.2.2.2 h) ch_L_asks rfl rfl (Nat.le_of_ble_eq_true rfl) ⟨Nat.le_of_ble_eq_true rfl, Nat.le_of_ble_eq_true rfl⟩ (by omega) (by omega) dL_ground_17 (fun v μ_3 hq => ?_)
    obtain ⟨z4, rfl, h⟩ := hq
    have cx := hcx 1 (by omega)
    refine k_istore cx dL_ground_20 (by decide) ?_
    refine k_aload_n cx dL_ground_22 rfl rfl ?_
    refine k_iconst (v := (0 : Int32)) cx dL_ground_23 (by decide +kernel) ?_
    obtain ⟨hi, h⟩ := h
    refine k_iald cx ar_LC hi dL_ground_24 ?_
    refine k_bipush (v := (6 : Int32)) cx dL_ground_25 (by decide +kernel) ?_
    refine k_icmp_ne (tgt := 43) cx dL_ground_27 (by decide) (fun hc => ?_) (fun hc => ?_)
    · replace h := h.1 hc
      refine k_aload cx dL_ground_43 rfl ?_
      refine k_aload_n cx dL_ground_45 rfl rfl ?_
      refine k_iconst (v := (0 : Int32)) cx dL_ground_46 (by decide +kernel) ?_
      obtain ⟨hi, h⟩ := h
      refine k_iald cx ar_LC hi dL_ground_47 ?_
      refine k_bipush (v := (20 : Int32)) cx dL_ground_48 (by decide +kernel) ?_
      refine k_iload_n cx dL_ground_50 rfl rfl ?_
      refine k_bipush (v := (80 : Int32)) cx dL_ground_51 (by decide +kernel) ?_
      refine k_rem cx dL_ground_53 (by decide) ?_
      refine k_iadd cx dL_ground_54 ?_
      obtain ⟨hi, h⟩ := h
      refine k_iast cx ar_LG hi dL_ground_55 ?_
      generalize eμ_5 : (up2 μ_3 p_LG ((μ_3 p_LC ((0 : Int32)).toNatClampNeg)).toNatClampNeg ((20 : Int32) + (irm x2 (80 : Int32)))) = μ_5
      replace h := h μ_5 eμ_5.symm
      refine k_aload_n cx dL_ground_56 rfl rfl ?_
      refine k_iconst (v := (0 : Int32)) cx dL_ground_57 (by decide +kernel) ?_
      refine k_dup2 cx dL_ground_58 rfl rfl ?_
      obtain ⟨hi, h⟩ := h
      refine k_iald cx ar_LC hi dL_ground_59 ?_
      refine k_iconst (v := (1 : Int32)) cx dL_ground_60 (by decide +kernel) ?_
      refine k_iadd cx dL_ground_61 ?_
      obtain ⟨hi, h⟩ := h
      refine k_iast cx ar_LC hi dL_ground_62 ?_
      generalize eμ_6 : (up2 μ_5 p_LC ((0 : Int32)).toNatClampNeg ((μ_5 p_LC ((0 : Int32)).toNatClampNeg) + (1 : Int32))) = μ_6
      replace h := h μ_6 eμ_6.symm
      refine k_iload cx dL_ground_63 rfl ?_
      refine k_aload_n cx dL_ground_65 rfl rfl ?_
      refine k_iconst (v := (0 : Int32)) cx dL_ground_66 (by decide +kernel) ?_
      obtain ⟨hi, h⟩ := h
      refine k_iald cx ar_LC hi dL_ground_67 ?_
      refine k_iconst (v := (1 : Int32)) cx dL_ground_68 (by decide +kernel) ?_
      refine k_isub cx dL_ground_69 ?_
      refine k_icmp_ne (tgt := 77) cx dL_ground_70 (by decide) (fun hc => ?_) (fun hc => ?_)
      · replace h := h.1 hc
        exact h.elim
      · replace h := h.2 hc
        refine k_iconst (v := (1 : Int32)) cx dL_ground_73 (by decide +kernel) ?_
        refine k_goto (tgt := 78) cx dL_ground_74 (by decide) ?_
        exact k_bret_T cx hr rx (by omega) dL_ground_78 h
    · replace h := h.2 hc
      refine k_iload cx dL_ground_30 rfl ?_
      refine k_ldc (v := (-70008 : Int32)) cx kc_L_54 dL_ground_32 ?_
      refine k_icmp_ne (tgt := 41) cx dL_ground_34 (by decide) (fun hc => ?_) (fun hc => ?_)
      · replace h := h.1 hc
        exact h.elim
      · replace h := h.2 hc
        refine k_iconst (v := (1 : Int32)) cx dL_ground_37 (by decide +kernel) ?_
        refine k_goto (tgt := 42) cx dL_ground_38 (by decide) ?_
        exact k_bret_T cx hr rx (by omega) dL_ground_42 h
theorem m_L_ground {g : GE} {z : ScT} {l : Launch} (hst : l.stackTraces = false) {μ : Mm} {q : Mm → Prop} {x1 : Int32} {x2 : Int32} (h : Wp_L_ground z x1 x2 μ q) : MBl g z l yL_ground cL_ground 10 (some .boolean) 12 296 1 [.ref p_ML, .int x1, .int x2, .ref p_LC, .ref p_LG, .ref p_LL] μ (qTr q) := by
  refine bmet_of hst (by decide) (Nat.le_of_ble_eq_true rfl) (by intro v hv; simp only [List.mem_cons, List.not_mem_nil, or_false] at hv; rcases hv with rfl | rfl | rfl | rfl | rfl | rfl <;> rfl) ?_
  intro f hfl hcx bx hr rx
  exact b_L_ground_e hcx bx hr rx (h (KK_L_ground_102 g f z) (KK_L_ground_141 g f z) (fun _ _ _ _ _ _ _ h => b_L_ground_102 hcx bx hr rx h) (fun _ _ _ _ _ _ h => b_L_ground_141 hcx bx hr rx h))

theorem dL_frees_0 : decode cL_frees 0 = .ok (.iload_n 1, 1) := by decide +kernel
theorem dL_frees_1 : decode cL_frees 1 = .ok (.ifCond .ge 14, 3) := by decide +kernel
theorem dL_frees_4 : decode cL_frees 4 = .ok (.iload_n 1, 1) := by decide +kernel
theorem dL_frees_5 : decode cL_frees 5 = .ok (.iconst (-1), 1) := by decide +kernel
theorem dL_frees_6 : decode cL_frees 6 = .ok (.if_icmp .ne 7, 3) := by decide +kernel
theorem dL_frees_9 : decode cL_frees 9 = .ok (.iconst 1, 1) := by decide +kernel
theorem dL_frees_10 : decode cL_frees 10 = .ok (.goto 4, 3) := by decide +kernel
theorem dL_frees_14 : decode cL_frees 14 = .ok (.ireturn, 1) := by decide +kernel
theorem dL_frees_15 : decode cL_frees 15 = .ok (.iload_n 1, 1) := by decide +kernel
theorem dL_frees_16 : decode cL_frees 16 = .ok (.bipush 100, 2) := by decide +kernel
theorem dL_frees_18 : decode cL_frees 18 = .ok (.idiv, 1) := by decide +kernel
theorem dL_frees_19 : decode cL_frees 19 = .ok (.istore 4, 2) := by decide +kernel
theorem dL_frees_21 : decode cL_frees 21 = .ok (.iload_n 1, 1) := by decide +kernel
theorem dL_frees_22 : decode cL_frees 22 = .ok (.bipush 10, 2) := by decide +kernel
theorem dL_frees_24 : decode cL_frees 24 = .ok (.idiv, 1) := by decide +kernel
theorem dL_frees_25 : decode cL_frees 25 = .ok (.bipush 10, 2) := by decide +kernel
theorem dL_frees_27 : decode cL_frees 27 = .ok (.irem, 1) := by decide +kernel
theorem dL_frees_28 : decode cL_frees 28 = .ok (.istore 5, 2) := by decide +kernel
theorem dL_frees_30 : decode cL_frees 30 = .ok (.iload_n 1, 1) := by decide +kernel
theorem dL_frees_31 : decode cL_frees 31 = .ok (.bipush 10, 2) := by decide +kernel
theorem dL_frees_33 : decode cL_frees 33 = .ok (.irem, 1) := by decide +kernel
theorem dL_frees_34 : decode cL_frees 34 = .ok (.istore 6, 2) := by decide +kernel
theorem dL_frees_36 : decode cL_frees 36 = .ok (.iload 4, 2) := by decide +kernel
theorem dL_frees_38 : decode cL_frees 38 = .ok (.aload_n 3, 1) := by decide +kernel
theorem dL_frees_39 : decode cL_frees 39 = .ok (.iconst 2, 1) := by decide +kernel
theorem dL_frees_40 : decode cL_frees 40 = .ok (.iaload, 1) := by decide +kernel
theorem dL_frees_41 : decode cL_frees 41 = .ok (.if_icmp .ge 61, 3) := by decide +kernel
theorem dL_frees_44 : decode cL_frees 44 = .ok (.aload_n 0, 1) := by decide +kernel
theorem dL_frees_45 : decode cL_frees 45 = .ok (.iload 4, 2) := by decide +kernel
theorem dL_frees_47 : decode cL_frees 47 = .ok (.iconst 0, 1) := by decide +kernel
theorem dL_frees_48 : decode cL_frees 48 = .ok (.invokevirtual 43, 3) := by decide +kernel
theorem dL_frees_51 : decode cL_frees 51 = .ok (.ifCond .ne 51, 3) := by decide +kernel
theorem dL_frees_54 : decode cL_frees 54 = .ok (.aload_n 0, 1) := by decide +kernel
theorem dL_frees_55 : decode cL_frees 55 = .ok (.iload 4, 2) := by decide +kernel
theorem dL_frees_57 : decode cL_frees 57 = .ok (.iconst 1, 1) := by decide +kernel
theorem dL_frees_58 : decode cL_frees 58 = .ok (.invokevirtual 43, 3) := by decide +kernel
theorem dL_frees_61 : decode cL_frees 61 = .ok (.iconst 2, 1) := by decide +kernel
theorem dL_frees_62 : decode cL_frees 62 = .ok (.if_icmp .ge 40, 3) := by decide +kernel
theorem dL_frees_65 : decode cL_frees 65 = .ok (.iload 5, 2) := by decide +kernel
theorem dL_frees_67 : decode cL_frees 67 = .ok (.aload_n 0, 1) := by decide +kernel
theorem dL_frees_68 : decode cL_frees 68 = .ok (.iload 4, 2) := by decide +kernel
theorem dL_frees_70 : decode cL_frees 70 = .ok (.iconst 3, 1) := by decide +kernel
theorem dL_frees_71 : decode cL_frees 71 = .ok (.invokevirtual 43, 3) := by decide +kernel
theorem dL_frees_74 : decode cL_frees 74 = .ok (.if_icmp .ge 28, 3) := by decide +kernel
theorem dL_frees_77 : decode cL_frees 77 = .ok (.iload 6, 2) := by decide +kernel
theorem dL_frees_79 : decode cL_frees 79 = .ok (.aload_n 3, 1) := by decide +kernel
theorem dL_frees_80 : decode cL_frees 80 = .ok (.iconst 0, 1) := by decide +kernel
theorem dL_frees_81 : decode cL_frees 81 = .ok (.iaload, 1) := by decide +kernel
theorem dL_frees_82 : decode cL_frees 82 = .ok (.if_icmp .ge 20, 3) := by decide +kernel
theorem dL_frees_85 : decode cL_frees 85 = .ok (.aload_n 0, 1) := by decide +kernel
theorem dL_frees_86 : decode cL_frees 86 = .ok (.iload 4, 2) := by decide +kernel
theorem dL_frees_88 : decode cL_frees 88 = .ok (.iload 5, 2) := by decide +kernel
theorem dL_frees_90 : decode cL_frees 90 = .ok (.invokevirtual 58, 3) := by decide +kernel
theorem dL_frees_93 : decode cL_frees 93 = .ok (.iload 6, 2) := by decide +kernel
theorem dL_frees_95 : decode cL_frees 95 = .ok (.if_icmp .eq 7, 3) := by decide +kernel
theorem dL_frees_98 : decode cL_frees 98 = .ok (.iconst 1, 1) := by decide +kernel
theorem dL_frees_99 : decode cL_frees 99 = .ok (.goto 4, 3) := by decide +kernel
theorem dL_frees_103 : decode cL_frees 103 = .ok (.istore 7, 2) := by decide +kernel
theorem dL_frees_105 : decode cL_frees 105 = .ok (.iload 7, 2) := by decide +kernel
theorem dL_frees_107 : decode cL_frees 107 = .ok (.ifCond .eq 50, 3) := by decide +kernel
theorem dL_frees_110 : decode cL_frees 110 = .ok (.aload_n 0, 1) := by decide +kernel
theorem dL_frees_111 : decode cL_frees 111 = .ok (.bipush 6, 2) := by decide +kernel
theorem dL_frees_113 : decode cL_frees 113 = .ok (.iload 4, 2) := by decide +kernel
theorem dL_frees_115 : decode cL_frees 115 = .ok (.iload 5, 2) := by decide +kernel
theorem dL_frees_117 : decode cL_frees 117 = .ok (.iload 6, 2) := by decide +kernel
theorem dL_frees_119 : decode cL_frees 119 = .ok (.invokestatic 81, 3) := by decide +kernel
theorem dL_frees_122 : decode cL_frees 122 = .ok (.ifCond .lt 35, 3) := by decide +kernel
theorem dL_frees_125 : decode cL_frees 125 = .ok (.aload_n 0, 1) := by decide +kernel
theorem dL_frees_126 : decode cL_frees 126 = .ok (.iload 4, 2) := by decide +kernel
theorem dL_frees_128 : decode cL_frees 128 = .ok (.iload 5, 2) := by decide +kernel
theorem dL_frees_130 : decode cL_frees 130 = .ok (.invokevirtual 58, 3) := by decide +kernel
theorem dL_frees_133 : decode cL_frees 133 = .ok (.iload 6, 2) := by decide +kernel
theorem dL_frees_135 : decode cL_frees 135 = .ok (.if_icmp .ne 22, 3) := by decide +kernel
theorem dL_frees_138 : decode cL_frees 138 = .ok (.aload_n 0, 1) := by decide +kernel
theorem dL_frees_139 : decode cL_frees 139 = .ok (.invokevirtual 89, 3) := by decide +kernel
theorem dL_frees_142 : decode cL_frees 142 = .ok (.ifCond .lt 15, 3) := by decide +kernel
theorem dL_frees_145 : decode cL_frees 145 = .ok (.aload_n 0, 1) := by decide +kernel
theorem dL_frees_146 : decode cL_frees 146 = .ok (.invokevirtual 99, 3) := by decide +kernel
theorem dL_frees_149 : decode cL_frees 149 = .ok (.iconst (-1), 1) := by decide +kernel
theorem dL_frees_150 : decode cL_frees 150 = .ok (.if_icmp .ne 7, 3) := by decide +kernel
theorem dL_frees_153 : decode cL_frees 153 = .ok (.iconst 1, 1) := by decide +kernel
theorem dL_frees_154 : decode cL_frees 154 = .ok (.goto 4, 3) := by decide +kernel
theorem dL_frees_158 : decode cL_frees 158 = .ok (.ireturn, 1) := by decide +kernel
def F_L_frees_e (z : ScT)  (q : Mm → Prop) (x1 : Int32) (x2 : Int32) (μ : Mm) : Prop :=
  ((0 ≤ x1 → (∀ v4_1 : Int32, v4_1 = (x1 / (100 : Int32)) → (∀ v5_2 : Int32, v5_2 = (irm (x1 / (10 : Int32)) (10 : Int32)) → (∀ v6_3 : Int32, v6_3 = (irm x1 (10 : Int32)) → vp_in (2 : Int32) 5 ∧ (((μ p_LC ((2 : Int32)).toNatClampNeg) ≤ v4_1 → False) ∧ (¬ ((μ p_LC ((2 : Int32)).toNatClampNeg) ≤ v4_1) → T_X7_told v4_1 (0 : Int32) μ (fun z5 μ_4 => ((¬ (z5 = 0) → False) ∧ (z5 = 0 → T_X7_told v4_1 (1 : Int32) μ_4 (fun z7 μ_6 => (((2 : Int32) ≤ z7 → False) ∧ (¬ ((2 : Int32) ≤ z7) → T_X7_told v4_1 (3 : Int32) μ_6 (fun z9 μ_8 => ((z9 ≤ v5_2 → False) ∧ (¬ (z9 ≤ v5_2) → vp_in (0 : Int32) 5 ∧ (((μ_8 p_LC ((0 : Int32)).toNatClampNeg) ≤ v6_3 → False) ∧ (¬ ((μ_8 p_LC ((0 : Int32)).toNatClampNeg) ≤ v6_3) → T_X7_at v4_1 v5_2 μ_8 (fun z11 μ_10 => ((z11 = v6_3 → False) ∧ (¬ (z11 = v6_3) → Wp_L_asks (6 : Int32) v4_1 v5_2 v6_3 μ_10 (fun z13 μ_12 => ((z13 < 0 → False) ∧ (¬ (z13 < 0) → T_X7_at v4_1 v5_2 μ_12 (fun z15 μ_14 => ((¬ (z15 = v6_3) → False) ∧ (z15 = v6_3 → Wp_X7_least  μ_14 (fun z17 μ_16 => ((z17 < 0 → False) ∧ (¬ (z17 < 0) → Wp_X7_freeing  μ_16 (fun z19 μ_18 => ((¬ (z19 = (-1 : Int32)) → False) ∧ (z19 = (-1 : Int32) → q μ_18))))))))) (fun _ _ => False))))))) (fun _ _ => False)))))) (fun _ _ => False)))) (fun _ _ => False)))) (fun _ _ => False))))))) ∧ (¬ (0 ≤ x1) → ((¬ (x1 = (-1 : Int32)) → False) ∧ (x1 = (-1 : Int32) → q μ))))
def Wp_L_frees (z : ScT) (x1 : Int32) (x2 : Int32) (μ : Mm) (q : Mm → Prop) : Prop := F_L_frees_e z  q x1 x2 μ
set_option maxHeartbeats 4000000 in
theorem b_L_frees_e {g : GE} {f : FE} {z : ScT} {q : Mm → Prop} (hcx : (∀ n, n ≤ 10 → Cx g f cL_frees 8 RL 12 296 n (6 * n))) (bx : BXl g z f) (hr : (f_M f).sig.returnType = (some .boolean)) (rx : RXl g f 10 (qTr q)) {x1 : Int32} {x2 : Int32} {μ : Mm} (h : F_L_frees_e z  q x1 x2 μ) : KW g f 8 0 (6 * 0) 0 [some (.ref p_ML), some (.int x1), some (.int x2), some (.ref p_LC), none, none, none, none] [] μ := by
  unfold F_L_frees_e at h
  have cx := hcx 0 (by omega)
  refine k_iload_n cx dL_frees_0 rfl rfl ?_
  refine k_if_ge (tgt := 15) cx dL_frees_1 (by decide) (fun hc => ?_) (fun hc => ?_)
  · replace h := h.1 hc
    refine k_iload_n cx dL_frees_15 rfl rfl ?_
    refine k_bipush (v := (100 : Int32)) cx dL_frees_16 (by decide +kernel) ?_
    refine k_idiv cx dL_frees_18 (by decide) ?_
    refine k_istore cx dL_frees_19 (by decide) ?_
    generalize ev4_1 : (x1 / (100 : Int32)) = v4_1
    replace h := h v4_1 ev4_1.symm
    refine k_iload_n cx dL_frees_21 rfl rfl ?_
    refine k_bipush (v := (10 : Int32)) cx dL_frees_22 (by decide +kernel) ?_
    refine k_idiv cx dL_frees_24 (by decide) ?_
    refine k_bipush (v := (10 : Int32)) cx dL_frees_25 (by decide +kernel) ?_
    refine k_rem cx dL_frees_27 (by decide) ?_
    refine k_istore cx dL_frees_28 (by decide) ?_
    generalize ev5_2 : (irm (x1 / (10 : Int32)) (10 : Int32)) = v5_2
    replace h := h v5_2 ev5_2.symm
    refine k_iload_n cx dL_frees_30 rfl rfl ?_
    refine k_bipush (v := (10 : Int32)) cx dL_frees_31 (by decide +kernel) ?_
    refine k_rem cx dL_frees_33 (by decide) ?_
    refine k_istore cx dL_frees_34 (by decide) ?_
    generalize ev6_3 : (irm x1 (10 : Int32)) = v6_3
    replace h := h v6_3 ev6_3.symm
    refine k_iload cx dL_frees_36 rfl ?_
    refine k_aload_n cx dL_frees_38 rfl rfl ?_
    refine k_iconst (v := (2 : Int32)) cx dL_frees_39 (by decide +kernel) ?_
    obtain ⟨hi, h⟩ := h
    refine k_iald cx ar_LC hi dL_frees_40 ?_
    refine k_icmp_ge (tgt := 102) cx dL_frees_41 (by decide) (fun hc => ?_) (fun hc => ?_)
    · replace h := h.1 hc
      exact h.elim
    · replace h := h.2 hc
      refine k_aload_n cx dL_frees_44 rfl rfl ?_
      refine k_iload cx dL_frees_45 rfl ?_
      refine k_iconst (v := (0 : Int32)) cx dL_frees_47 (by decide +kernel) ?_
      obtain ⟨q0, qx0, h0, hq0, hx0⟩ := h
      refine k_callXd (As := [.int v4_1, .int (0 : Int32)]) (rest := []) (n2 := 1) hcx bx (m_X7_told bx.2.2.2 h0) hx0 lk_L_43 cv_L_43 ob_ML rfl rfl rfl rfl (Nat.le_of_ble_eq_true rfl) ⟨Nat.le_of_ble_eq_true rfl, Nat.le_of_ble_eq_true rfl⟩ (by omega) (by omega) dL_frees_48 (fun v μ_4 hq => ?_)
      obtain ⟨z5, rfl, h⟩ := hq
      replace h := hq0 _ _ h
      have cx := hcx 1 (by omega)
      refine k_if_ne (tgt := 102) cx dL_frees_51 (by decide) (fun hc => ?_) (fun hc => ?_)
      · replace h := h.1 hc
        exact h.elim
      · replace h := h.2 hc
        refine k_aload_n cx dL_frees_54 rfl rfl ?_
        refine k_iload cx dL_frees_55 rfl ?_
        refine k_iconst (v := (1 : Int32)) cx dL_frees_57 (by decide +kernel) ?_
        obtain ⟨q0, qx0, h0, hq0, hx0⟩ := h
        refine k_callXd (As := [.int v4_1, .int (1 : Int32)]) (rest := []) (n2 := 2) hcx bx (m_X7_told bx.2.2.2 h0) hx0 lk_L_43 cv_L_43 ob_ML rfl rfl rfl rfl (Nat.le_of_ble_eq_true rfl) ⟨Nat.le_of_ble_eq_true rfl, Nat.le_of_ble_eq_true rfl⟩ (by omega) (by omega) dL_frees_58 (fun v μ_6 hq => ?_)
        obtain ⟨z7, rfl, h⟩ := hq
        replace h := hq0 _ _ h
        have cx := hcx 2 (by omega)
        refine k_iconst (v := (2 : Int32)) cx dL_frees_61 (by decide +kernel) ?_
        refine k_icmp_ge (tgt := 102) cx dL_frees_62 (by decide) (fun hc => ?_) (fun hc => ?_)
        · replace h := h.1 hc
          exact h.elim
        · replace h := h.2 hc
          refine k_iload cx dL_frees_65 rfl ?_
          refine k_aload_n cx dL_frees_67 rfl rfl ?_
          refine k_iload cx dL_frees_68 rfl ?_
          refine k_iconst (v := (3 : Int32)) cx dL_frees_70 (by decide +kernel) ?_
          obtain ⟨q0, qx0, h0, hq0, hx0⟩ := h
          refine k_callXd (As := [.int v4_1, .int (3 : Int32)]) (rest := [.int v5_2]) (n2 := 3) hcx bx (m_X7_told bx.2.2.2 h0) hx0 lk_L_43 cv_L_43 ob_ML rfl rfl rfl rfl (Nat.le_of_ble_eq_true rfl) ⟨Nat.le_of_ble_eq_true rfl, Nat.le_of_ble_eq_true rfl⟩ (by omega) (by omega) dL_frees_71 (fun v μ_8 hq => ?_)
          obtain ⟨z9, rfl, h⟩ := hq
          replace h := hq0 _ _ h
          have cx := hcx 3 (by omega)
          refine k_icmp_ge (tgt := 102) cx dL_frees_74 (by decide) (fun hc => ?_) (fun hc => ?_)
          · replace h := h.1 hc
            exact h.elim
          · replace h := h.2 hc
            refine k_iload cx dL_frees_77 rfl ?_
            refine k_aload_n cx dL_frees_79 rfl rfl ?_
            refine k_iconst (v := (0 : Int32)) cx dL_frees_80 (by decide +kernel) ?_
            obtain ⟨hi, h⟩ := h
            refine k_iald cx ar_LC hi dL_frees_81 ?_
            refine k_icmp_ge (tgt := 102) cx dL_frees_82 (by decide) (fun hc => ?_) (fun hc => ?_)
            · replace h := h.1 hc
              exact h.elim
            · replace h := h.2 hc
              refine k_aload_n cx dL_frees_85 rfl rfl ?_
              refine k_iload cx dL_frees_86 rfl ?_
              refine k_iload cx dL_frees_88 rfl ?_
              obtain ⟨q0, qx0, h0, hq0, hx0⟩ := h
              refine k_callXd (As := [.int v4_1, .int v5_2]) (rest := []) (n2 := 4) hcx bx (m_X7_at bx.2.2.2 h0) hx0 lk_L_58 cv_L_58 ob_ML rfl rfl rfl rfl (Nat.le_of_ble_eq_true rfl) ⟨Nat.le_of_ble_eq_true rfl, Nat.le_of_ble_eq_true rfl⟩ (by omega) (by omega) dL_frees_90 (fun v μ_10 hq => ?_)
              obtain ⟨z11, rfl, h⟩ := hq
              replace h := hq0 _ _ h
              have cx := hcx 4 (by omega)
              refine k_iload cx dL_frees_93 rfl ?_
              refine k_icmp_eq (tgt := 102) cx dL_frees_95 (by decide) (fun hc => ?_) (fun hc => ?_)
              · replace h := h.1 hc
                exact h.elim
              · replace h := h.2 hc
                refine k_iconst (v := (1 : Int32)) cx dL_frees_98 (by decide +kernel) ?_
                refine k_goto (tgt := 103) cx dL_frees_99 (by decide) ?_
                refine k_istore cx dL_frees_103 (by decide) ?_
                refine k_iload cx dL_frees_105 rfl ?_
                refine k_if_eq (tgt := 157) cx dL_frees_107 (by decide) (fun hc => absurd hc (by decide)) (fun _ => ?_)
                refine k_aload_n cx dL_frees_110 rfl rfl ?_
                refine k_bipush (v := (6 : Int32)) cx dL_frees_111 (by decide +kernel) ?_
                refine k_iload cx dL_frees_113 rfl ?_
                refine k_iload cx dL_frees_115 rfl ?_
                refine k_iload cx dL_frees_117 rfl ?_
                refine k_callH (As := [.ref p_ML, .int (6 : Int32), .int v4_1, .int v5_2, .int v6_3]) (rest := []) (n2 := 5) hcx bx (m_L_asks bx.2.2.2 h) ch_L_asks rfl rfl (Nat.le_of_ble_eq_true rfl) ⟨Nat.le_of_ble_eq_true rfl, Nat.le_of_ble_eq_true rfl⟩ (by omega) (by omega) dL_frees_119 (fun v μ_12 hq => ?_)
                obtain ⟨z13, rfl, h⟩ := hq
                have cx := hcx 5 (by omega)
                refine k_if_lt (tgt := 157) cx dL_frees_122 (by decide) (fun hc => ?_) (fun hc => ?_)
                · replace h := h.1 hc
                  exact h.elim
                · replace h := h.2 hc
                  refine k_aload_n cx dL_frees_125 rfl rfl ?_
                  refine k_iload cx dL_frees_126 rfl ?_
                  refine k_iload cx dL_frees_128 rfl ?_
                  obtain ⟨q0, qx0, h0, hq0, hx0⟩ := h
                  refine k_callXd (As := [.int v4_1, .int v5_2]) (rest := []) (n2 := 6) hcx bx (m_X7_at bx.2.2.2 h0) hx0 lk_L_58 cv_L_58 ob_ML rfl rfl rfl rfl (Nat.le_of_ble_eq_true rfl) ⟨Nat.le_of_ble_eq_true rfl, Nat.le_of_ble_eq_true rfl⟩ (by omega) (by omega) dL_frees_130 (fun v μ_14 hq => ?_)
                  obtain ⟨z15, rfl, h⟩ := hq
                  replace h := hq0 _ _ h
                  have cx := hcx 6 (by omega)
                  refine k_iload cx dL_frees_133 rfl ?_
                  refine k_icmp_ne (tgt := 157) cx dL_frees_135 (by decide) (fun hc => ?_) (fun hc => ?_)
                  · replace h := h.1 hc
                    exact h.elim
                  · replace h := h.2 hc
                    refine k_aload_n cx dL_frees_138 rfl rfl ?_
                    refine k_callV (As := []) (rest := []) cx (m_X7_least h) cv_L_89 ob_ML rfl rfl rfl rfl (Nat.le_of_ble_eq_true rfl) ⟨Nat.le_of_ble_eq_true rfl, Nat.le_of_ble_eq_true rfl⟩ dL_frees_139 (fun v μ_16 hq => ?_)
                    obtain ⟨z17, rfl, h⟩ := hq
                    refine k_if_lt (tgt := 157) cx dL_frees_142 (by decide) (fun hc => ?_) (fun hc => ?_)
                    · replace h := h.1 hc
                      exact h.elim
                    · replace h := h.2 hc
                      refine k_aload_n cx dL_frees_145 rfl rfl ?_
                      refine k_callV (As := []) (rest := []) cx (m_X7_freeing h) cv_L_99 ob_ML rfl rfl rfl rfl (Nat.le_of_ble_eq_true rfl) ⟨Nat.le_of_ble_eq_true rfl, Nat.le_of_ble_eq_true rfl⟩ dL_frees_146 (fun v μ_18 hq => ?_)
                      obtain ⟨z19, rfl, h⟩ := hq
                      refine k_iconst (v := (-1 : Int32)) cx dL_frees_149 (by decide +kernel) ?_
                      refine k_icmp_ne (tgt := 157) cx dL_frees_150 (by decide) (fun hc => ?_) (fun hc => ?_)
                      · replace h := h.1 hc
                        exact h.elim
                      · replace h := h.2 hc
                        refine k_iconst (v := (1 : Int32)) cx dL_frees_153 (by decide +kernel) ?_
                        refine k_goto (tgt := 158) cx dL_frees_154 (by decide) ?_
                        exact k_bret_T cx hr rx (by omega) dL_frees_158 h
  · replace h := h.2 hc
    refine k_iload_n cx dL_frees_4 rfl rfl ?_
    refine k_iconst (v := (-1 : Int32)) cx dL_frees_5 (by decide +kernel) ?_
    refine k_icmp_ne (tgt := 13) cx dL_frees_6 (by decide) (fun hc => ?_) (fun hc => ?_)
    · replace h := h.1 hc
      exact h.elim
    · replace h := h.2 hc
      refine k_iconst (v := (1 : Int32)) cx dL_frees_9 (by decide +kernel) ?_
      refine k_goto (tgt := 14) cx dL_frees_10 (by decide) ?_
      exact k_bret_T cx hr rx (by omega) dL_frees_14 h
theorem m_L_frees {g : GE} {z : ScT} {l : Launch} (hst : l.stackTraces = false) {μ : Mm} {q : Mm → Prop} {x1 : Int32} {x2 : Int32} (h : Wp_L_frees z x1 x2 μ q) : MBl g z l yL_frees cL_frees 8 (some .boolean) 12 296 10 [.ref p_ML, .int x1, .int x2, .ref p_LC] μ (qTr q) := by
  refine bmet_of hst (by decide) (Nat.le_of_ble_eq_true rfl) (by intro v hv; simp only [List.mem_cons, List.not_mem_nil, or_false] at hv; rcases hv with rfl | rfl | rfl | rfl <;> rfl) ?_
  intro f hfl hcx bx hr rx
  exact b_L_frees_e hcx bx hr rx (h  )
