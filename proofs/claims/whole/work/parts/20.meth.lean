theorem dX8_secures_0 : decode cX8_secures 0 = .ok (.iconst 1, 1) := by decide +kernel
theorem dX8_secures_1 : decode cX8_secures 1 = .ok (.istore_n 1, 1) := by decide +kernel
theorem dX8_secures_2 : decode cX8_secures 2 = .ok (.iconst 0, 1) := by decide +kernel
theorem dX8_secures_3 : decode cX8_secures 3 = .ok (.istore_n 2, 1) := by decide +kernel
theorem dX8_secures_4 : decode cX8_secures 4 = .ok (.iload_n 2, 1) := by decide +kernel
theorem dX8_secures_5 : decode cX8_secures 5 = .ok (.aload_n 0, 1) := by decide +kernel
theorem dX8_secures_6 : decode cX8_secures 6 = .ok (.getfield 29, 3) := by decide +kernel
theorem dX8_secures_9 : decode cX8_secures 9 = .ok (.aload_n 0, 1) := by decide +kernel
theorem dX8_secures_10 : decode cX8_secures 10 = .ok (.getfield 118, 3) := by decide +kernel
theorem dX8_secures_13 : decode cX8_secures 13 = .ok (.iaload, 1) := by decide +kernel
theorem dX8_secures_14 : decode cX8_secures 14 = .ok (.if_icmp .ge 187, 3) := by decide +kernel
theorem dX8_secures_17 : decode cX8_secures 17 = .ok (.iload_n 1, 1) := by decide +kernel
theorem dX8_secures_18 : decode cX8_secures 18 = .ok (.ifCond .eq 183, 3) := by decide +kernel
theorem dX8_secures_21 : decode cX8_secures 21 = .ok (.iconst 3, 1) := by decide +kernel
theorem dX8_secures_22 : decode cX8_secures 22 = .ok (.aload_n 0, 1) := by decide +kernel
theorem dX8_secures_23 : decode cX8_secures 23 = .ok (.getfield 118, 3) := by decide +kernel
theorem dX8_secures_26 : decode cX8_secures 26 = .ok (.imul, 1) := by decide +kernel
theorem dX8_secures_27 : decode cX8_secures 27 = .ok (.iload_n 2, 1) := by decide +kernel
theorem dX8_secures_28 : decode cX8_secures 28 = .ok (.iadd, 1) := by decide +kernel
theorem dX8_secures_29 : decode cX8_secures 29 = .ok (.istore_n 3, 1) := by decide +kernel
theorem dX8_secures_30 : decode cX8_secures 30 = .ok (.aload_n 0, 1) := by decide +kernel
theorem dX8_secures_31 : decode cX8_secures 31 = .ok (.iload_n 2, 1) := by decide +kernel
theorem dX8_secures_32 : decode cX8_secures 32 = .ok (.aload_n 0, 1) := by decide +kernel
theorem dX8_secures_33 : decode cX8_secures 33 = .ok (.getfield 38, 3) := by decide +kernel
theorem dX8_secures_36 : decode cX8_secures 36 = .ok (.iconst 3, 1) := by decide +kernel
theorem dX8_secures_37 : decode cX8_secures 37 = .ok (.aload_n 0, 1) := by decide +kernel
theorem dX8_secures_38 : decode cX8_secures 38 = .ok (.getfield 118, 3) := by decide +kernel
theorem dX8_secures_41 : decode cX8_secures 41 = .ok (.imul, 1) := by decide +kernel
theorem dX8_secures_42 : decode cX8_secures 42 = .ok (.aload_n 0, 1) := by decide +kernel
theorem dX8_secures_43 : decode cX8_secures 43 = .ok (.getfield 41, 3) := by decide +kernel
theorem dX8_secures_46 : decode cX8_secures 46 = .ok (.iload_n 3, 1) := by decide +kernel
theorem dX8_secures_47 : decode cX8_secures 47 = .ok (.iaload, 1) := by decide +kernel
theorem dX8_secures_48 : decode cX8_secures 48 = .ok (.iadd, 1) := by decide +kernel
theorem dX8_secures_49 : decode cX8_secures 49 = .ok (.iaload, 1) := by decide +kernel
theorem dX8_secures_50 : decode cX8_secures 50 = .ok (.aload_n 0, 1) := by decide +kernel
theorem dX8_secures_51 : decode cX8_secures 51 = .ok (.getfield 38, 3) := by decide +kernel
theorem dX8_secures_54 : decode cX8_secures 54 = .ok (.iconst 3, 1) := by decide +kernel
theorem dX8_secures_55 : decode cX8_secures 55 = .ok (.aload_n 0, 1) := by decide +kernel
theorem dX8_secures_56 : decode cX8_secures 56 = .ok (.getfield 118, 3) := by decide +kernel
theorem dX8_secures_59 : decode cX8_secures 59 = .ok (.imul, 1) := by decide +kernel
theorem dX8_secures_60 : decode cX8_secures 60 = .ok (.aload_n 0, 1) := by decide +kernel
theorem dX8_secures_61 : decode cX8_secures 61 = .ok (.getfield 44, 3) := by decide +kernel
theorem dX8_secures_64 : decode cX8_secures 64 = .ok (.iload_n 3, 1) := by decide +kernel
theorem dX8_secures_65 : decode cX8_secures 65 = .ok (.iaload, 1) := by decide +kernel
theorem dX8_secures_66 : decode cX8_secures 66 = .ok (.iadd, 1) := by decide +kernel
theorem dX8_secures_67 : decode cX8_secures 67 = .ok (.iaload, 1) := by decide +kernel
theorem dX8_secures_68 : decode cX8_secures 68 = .ok (.invokevirtual 160, 3) := by decide +kernel
theorem dX8_secures_71 : decode cX8_secures 71 = .ok (.iconst 0, 1) := by decide +kernel
theorem dX8_secures_72 : decode cX8_secures 72 = .ok (.istore 4, 2) := by decide +kernel
theorem dX8_secures_74 : decode cX8_secures 74 = .ok (.iconst 0, 1) := by decide +kernel
theorem dX8_secures_75 : decode cX8_secures 75 = .ok (.istore 5, 2) := by decide +kernel
theorem dX8_secures_77 : decode cX8_secures 77 = .ok (.iload 5, 2) := by decide +kernel
theorem dX8_secures_79 : decode cX8_secures 79 = .ok (.aload_n 0, 1) := by decide +kernel
theorem dX8_secures_80 : decode cX8_secures 80 = .ok (.getfield 80, 3) := by decide +kernel
theorem dX8_secures_83 : decode cX8_secures 83 = .ok (.iload_n 2, 1) := by decide +kernel
theorem dX8_secures_84 : decode cX8_secures 84 = .ok (.iaload, 1) := by decide +kernel
theorem dX8_secures_85 : decode cX8_secures 85 = .ok (.if_icmp .ge 91, 3) := by decide +kernel
theorem dX8_secures_88 : decode cX8_secures 88 = .ok (.aload_n 0, 1) := by decide +kernel
theorem dX8_secures_89 : decode cX8_secures 89 = .ok (.getfield 77, 3) := by decide +kernel
theorem dX8_secures_92 : decode cX8_secures 92 = .ok (.bipush 64, 2) := by decide +kernel
theorem dX8_secures_94 : decode cX8_secures 94 = .ok (.iload_n 2, 1) := by decide +kernel
theorem dX8_secures_95 : decode cX8_secures 95 = .ok (.imul, 1) := by decide +kernel
theorem dX8_secures_96 : decode cX8_secures 96 = .ok (.iload 5, 2) := by decide +kernel
theorem dX8_secures_98 : decode cX8_secures 98 = .ok (.iadd, 1) := by decide +kernel
theorem dX8_secures_99 : decode cX8_secures 99 = .ok (.iaload, 1) := by decide +kernel
theorem dX8_secures_100 : decode cX8_secures 100 = .ok (.istore 6, 2) := by decide +kernel
theorem dX8_secures_102 : decode cX8_secures 102 = .ok (.aload_n 0, 1) := by decide +kernel
theorem dX8_secures_103 : decode cX8_secures 103 = .ok (.getfield 59, 3) := by decide +kernel
theorem dX8_secures_106 : decode cX8_secures 106 = .ok (.iload_n 3, 1) := by decide +kernel
theorem dX8_secures_107 : decode cX8_secures 107 = .ok (.iload 6, 2) := by decide +kernel
theorem dX8_secures_109 : decode cX8_secures 109 = .ok (.iastore, 1) := by decide +kernel
theorem dX8_secures_110 : decode cX8_secures 110 = .ok (.iload 6, 2) := by decide +kernel
theorem dX8_secures_112 : decode cX8_secures 112 = .ok (.aload_n 0, 1) := by decide +kernel
theorem dX8_secures_113 : decode cX8_secures 113 = .ok (.getfield 53, 3) := by decide +kernel
theorem dX8_secures_116 : decode cX8_secures 116 = .ok (.iload_n 3, 1) := by decide +kernel
theorem dX8_secures_117 : decode cX8_secures 117 = .ok (.iaload, 1) := by decide +kernel
theorem dX8_secures_118 : decode cX8_secures 118 = .ok (.iand, 1) := by decide +kernel
theorem dX8_secures_119 : decode cX8_secures 119 = .ok (.ifCond .ne 25, 3) := by decide +kernel
theorem dX8_secures_122 : decode cX8_secures 122 = .ok (.iload 4, 2) := by decide +kernel
theorem dX8_secures_124 : decode cX8_secures 124 = .ok (.ifCond .eq 16, 3) := by decide +kernel
theorem dX8_secures_127 : decode cX8_secures 127 = .ok (.iload 6, 2) := by decide +kernel
theorem dX8_secures_129 : decode cX8_secures 129 = .ok (.invokestatic 167, 3) := by decide +kernel
theorem dX8_secures_132 : decode cX8_secures 132 = .ok (.iload 4, 2) := by decide +kernel
theorem dX8_secures_134 : decode cX8_secures 134 = .ok (.invokestatic 167, 3) := by decide +kernel
theorem dX8_secures_137 : decode cX8_secures 137 = .ok (.if_icmp .ge 7, 3) := by decide +kernel
theorem dX8_secures_140 : decode cX8_secures 140 = .ok (.iconst 1, 1) := by decide +kernel
theorem dX8_secures_141 : decode cX8_secures 141 = .ok (.goto 4, 3) := by decide +kernel
theorem dX8_secures_144 : decode cX8_secures 144 = .ok (.iconst 0, 1) := by decide +kernel
theorem dX8_secures_145 : decode cX8_secures 145 = .ok (.istore 7, 2) := by decide +kernel
theorem dX8_secures_147 : decode cX8_secures 147 = .ok (.iload 7, 2) := by decide +kernel
theorem dX8_secures_149 : decode cX8_secures 149 = .ok (.ifCond .eq 17, 3) := by decide +kernel
theorem dX8_secures_152 : decode cX8_secures 152 = .ok (.aload_n 0, 1) := by decide +kernel
theorem dX8_secures_153 : decode cX8_secures 153 = .ok (.iload 6, 2) := by decide +kernel
theorem dX8_secures_155 : decode cX8_secures 155 = .ok (.invokevirtual 207, 3) := by decide +kernel
theorem dX8_secures_158 : decode cX8_secures 158 = .ok (.ifCond .eq 8, 3) := by decide +kernel
theorem dX8_secures_161 : decode cX8_secures 161 = .ok (.iload 6, 2) := by decide +kernel
theorem dX8_secures_163 : decode cX8_secures 163 = .ok (.goto 5, 3) := by decide +kernel
theorem dX8_secures_166 : decode cX8_secures 166 = .ok (.iload 4, 2) := by decide +kernel
theorem dX8_secures_168 : decode cX8_secures 168 = .ok (.istore 4, 2) := by decide +kernel
theorem dX8_secures_170 : decode cX8_secures 170 = .ok (.iinc 5 1, 3) := by decide +kernel
theorem dX8_secures_173 : decode cX8_secures 173 = .ok (.goto (-96), 3) := by decide +kernel
theorem dX8_secures_176 : decode cX8_secures 176 = .ok (.aload_n 0, 1) := by decide +kernel
theorem dX8_secures_177 : decode cX8_secures 177 = .ok (.getfield 59, 3) := by decide +kernel
theorem dX8_secures_180 : decode cX8_secures 180 = .ok (.iload_n 3, 1) := by decide +kernel
theorem dX8_secures_181 : decode cX8_secures 181 = .ok (.iload 4, 2) := by decide +kernel
theorem dX8_secures_183 : decode cX8_secures 183 = .ok (.iastore, 1) := by decide +kernel
theorem dX8_secures_184 : decode cX8_secures 184 = .ok (.iload 4, 2) := by decide +kernel
theorem dX8_secures_186 : decode cX8_secures 186 = .ok (.ifCond .eq 7, 3) := by decide +kernel
theorem dX8_secures_189 : decode cX8_secures 189 = .ok (.iconst 1, 1) := by decide +kernel
theorem dX8_secures_190 : decode cX8_secures 190 = .ok (.goto 4, 3) := by decide +kernel
theorem dX8_secures_193 : decode cX8_secures 193 = .ok (.iconst 0, 1) := by decide +kernel
theorem dX8_secures_194 : decode cX8_secures 194 = .ok (.istore_n 1, 1) := by decide +kernel
theorem dX8_secures_195 : decode cX8_secures 195 = .ok (.iinc 2 1, 3) := by decide +kernel
theorem dX8_secures_198 : decode cX8_secures 198 = .ok (.goto (-194), 3) := by decide +kernel
theorem dX8_secures_201 : decode cX8_secures 201 = .ok (.iload_n 1, 1) := by decide +kernel
theorem dX8_secures_202 : decode cX8_secures 202 = .ok (.ireturn, 1) := by decide +kernel
def F_X8_secures_4  (K4 : Int32 → Int32 → Mm → Prop) (K77 : Int32 → Int32 → Int32 → Int32 → Mm → Prop) (K145 : Int32 → Int32 → Int32 → Int32 → Int32 → Int32 → Mm → Prop) (q : Bool → Mm → Prop) (x1 : Int32) (x2 : Int32) (μ : Mm) : Prop :=
  vp_in (μ p_MO 8) 13 ∧ (((μ p_MO_lines ((μ p_MO 8)).toNatClampNeg) ≤ x2 → ∃ b : Bool, x1 = bI b ∧ q b μ) ∧ (¬ ((μ p_MO_lines ((μ p_MO 8)).toNatClampNeg) ≤ x2) → ((x1 = 0 → ∃ b : Bool, x1 = bI b ∧ q b μ) ∧ (¬ (x1 = 0) → vp_in (((3 : Int32) * (μ p_MO 8)) + x2) 39 ∧ vp_in (((3 : Int32) * (μ p_MO 8)) + (μ p_MO_lineFrom ((((3 : Int32) * (μ p_MO 8)) + x2)).toNatClampNeg)) 39 ∧ vp_in (((3 : Int32) * (μ p_MO 8)) + x2) 39 ∧ vp_in (((3 : Int32) * (μ p_MO 8)) + (μ p_MO_lineTo ((((3 : Int32) * (μ p_MO 8)) + x2)).toNatClampNeg)) 39 ∧ Wp_X8_finds x2 (μ p_MO_at ((((3 : Int32) * (μ p_MO 8)) + (μ p_MO_lineFrom ((((3 : Int32) * (μ p_MO 8)) + x2)).toNatClampNeg))).toNatClampNeg) (μ p_MO_at ((((3 : Int32) * (μ p_MO 8)) + (μ p_MO_lineTo ((((3 : Int32) * (μ p_MO 8)) + x2)).toNatClampNeg))).toNatClampNeg) μ (fun μ1 => K77 x2 (((3 : Int32) * (μ p_MO 8)) + x2) (0 : Int32) (0 : Int32) μ1)))))
def F_X8_secures_77  (K4 : Int32 → Int32 → Mm → Prop) (K77 : Int32 → Int32 → Int32 → Int32 → Mm → Prop) (K145 : Int32 → Int32 → Int32 → Int32 → Int32 → Int32 → Mm → Prop) (q : Bool → Mm → Prop) (x2 : Int32) (x3 : Int32) (x4 : Int32) (x5 : Int32) (μ : Mm) : Prop :=
  vp_in x2 3 ∧ (((μ p_MO_many (x2).toNatClampNeg) ≤ x5 → vp_in x3 39 ∧ ((x4 = 0 → K4 (0 : Int32) (x2 + (1 : Int32)) (up2 μ p_MO_second (x3).toNatClampNeg x4)) ∧ (¬ (x4 = 0) → K4 (1 : Int32) (x2 + (1 : Int32)) (up2 μ p_MO_second (x3).toNatClampNeg x4)))) ∧ (¬ ((μ p_MO_many (x2).toNatClampNeg) ≤ x5) → vp_in (((64 : Int32) * x2) + x5) 192 ∧ vp_in x3 39 ∧ vp_in x3 39 ∧ ((¬ (((μ p_MO_found ((((64 : Int32) * x2) + x5)).toNatClampNeg) &&& ((up2 μ p_MO_second (x3).toNatClampNeg (μ p_MO_found ((((64 : Int32) * x2) + x5)).toNatClampNeg)) p_MO_way (x3).toNatClampNeg)) = 0) → K145 x2 x3 x4 x5 (μ p_MO_found ((((64 : Int32) * x2) + x5)).toNatClampNeg) (0 : Int32) (up2 μ p_MO_second (x3).toNatClampNeg (μ p_MO_found ((((64 : Int32) * x2) + x5)).toNatClampNeg))) ∧ (((μ p_MO_found ((((64 : Int32) * x2) + x5)).toNatClampNeg) &&& ((up2 μ p_MO_second (x3).toNatClampNeg (μ p_MO_found ((((64 : Int32) * x2) + x5)).toNatClampNeg)) p_MO_way (x3).toNatClampNeg)) = 0 → ((x4 = 0 → K145 x2 x3 x4 x5 (μ p_MO_found ((((64 : Int32) * x2) + x5)).toNatClampNeg) (1 : Int32) (up2 μ p_MO_second (x3).toNatClampNeg (μ p_MO_found ((((64 : Int32) * x2) + x5)).toNatClampNeg))) ∧ (¬ (x4 = 0) → Wp_X8_bits (μ p_MO_found ((((64 : Int32) * x2) + x5)).toNatClampNeg) (up2 μ p_MO_second (x3).toNatClampNeg (μ p_MO_found ((((64 : Int32) * x2) + x5)).toNatClampNeg)) (fun z2 μ1 => Wp_X8_bits x4 μ1 (fun z4 μ3 => ((z4 ≤ z2 → K145 x2 x3 x4 x5 (μ p_MO_found ((((64 : Int32) * x2) + x5)).toNatClampNeg) (0 : Int32) μ3) ∧ (¬ (z4 ≤ z2) → K145 x2 x3 x4 x5 (μ p_MO_found ((((64 : Int32) * x2) + x5)).toNatClampNeg) (1 : Int32) μ3))))))))))
def F_X8_secures_145  (K4 : Int32 → Int32 → Mm → Prop) (K77 : Int32 → Int32 → Int32 → Int32 → Mm → Prop) (K145 : Int32 → Int32 → Int32 → Int32 → Int32 → Int32 → Mm → Prop) (q : Bool → Mm → Prop) (x2 : Int32) (x3 : Int32) (x4 : Int32) (x5 : Int32) (x6 : Int32) (y0 : Int32) (μ : Mm) : Prop :=
  ((y0 = 0 → K77 x2 x3 x4 (x5 + (1 : Int32)) μ) ∧ (¬ (y0 = 0) → Wp_X8_isWithin x6 μ (fun b2 μ1 => (((bI b2) = 0 → K77 x2 x3 x4 (x5 + (1 : Int32)) μ1) ∧ (¬ ((bI b2) = 0) → K77 x2 x3 x6 (x5 + (1 : Int32)) μ1)))))
def F_X8_secures_e  (K4 : Int32 → Int32 → Mm → Prop) (K77 : Int32 → Int32 → Int32 → Int32 → Mm → Prop) (K145 : Int32 → Int32 → Int32 → Int32 → Int32 → Int32 → Mm → Prop) (q : Bool → Mm → Prop)  (μ : Mm) : Prop :=
  K4 (1 : Int32) (0 : Int32) μ
def Wp_X8_secures   (μ : Mm) (q : Bool → Mm → Prop) : Prop := ∀ (K4 : Int32 → Int32 → Mm → Prop) (K77 : Int32 → Int32 → Int32 → Int32 → Mm → Prop) (K145 : Int32 → Int32 → Int32 → Int32 → Int32 → Int32 → Mm → Prop), (∀ (x1 : Int32) (x2 : Int32) (μ : Mm), F_X8_secures_4  K4 K77 K145 q x1 x2 μ → K4 x1 x2 μ) → (∀ (x2 : Int32) (x3 : Int32) (x4 : Int32) (x5 : Int32) (μ : Mm), F_X8_secures_77  K4 K77 K145 q x2 x3 x4 x5 μ → K77 x2 x3 x4 x5 μ) → (∀ (x2 : Int32) (x3 : Int32) (x4 : Int32) (x5 : Int32) (x6 : Int32) (y0 : Int32) (μ : Mm), F_X8_secures_145  K4 K77 K145 q x2 x3 x4 x5 x6 y0 μ → K145 x2 x3 x4 x5 x6 y0 μ) → F_X8_secures_e  K4 K77 K145 q  μ
abbrev KK_X8_secures_4 (g : GE) (f : FE)  : Int32 → Int32 → Mm → Prop := fun x1 x2 μ => KW g f 8 0 0 4 [some (.ref p_MO), some (.int x1), some (.int x2), none, none, none, none, none] [] μ
abbrev KK_X8_secures_77 (g : GE) (f : FE)  : Int32 → Int32 → Int32 → Int32 → Mm → Prop := fun x2 x3 x4 x5 μ => KW g f 8 0 0 77 [some (.ref p_MO), none, some (.int x2), some (.int x3), some (.int x4), some (.int x5), none, none] [] μ
abbrev KK_X8_secures_145 (g : GE) (f : FE)  : Int32 → Int32 → Int32 → Int32 → Int32 → Int32 → Mm → Prop := fun x2 x3 x4 x5 x6 y0 μ => KW g f 8 0 0 145 [some (.ref p_MO), none, some (.int x2), some (.int x3), some (.int x4), some (.int x5), some (.int x6), none] [.int y0] μ
set_option maxHeartbeats 2000000 in
theorem b_X8_secures_4  {g : GE} {f : FE} {q : Bool → Mm → Prop} (cx : Cx g f cX8_secures 8 RX8 4 97 0 0) (hr : (f_M f).sig.returnType = (some .boolean)) (hl : (f_M f).locks = false) (hQ : f_Q f = MQ (f_b f) (QW g (qZ q)) (f_a f) (f_s f) 0 0 (fun q => g.2.2.2 ≤ q))  {x1 : Int32} {x2 : Int32} {μ : Mm} (h : F_X8_secures_4  (KK_X8_secures_4 g f ) (KK_X8_secures_77 g f ) (KK_X8_secures_145 g f ) q x1 x2 μ) : KK_X8_secures_4 g f  x1 x2 μ := by
  unfold F_X8_secures_4 at h
  show KW g f 8 0 0 4 [some (.ref p_MO), some (.int x1), some (.int x2), none, none, none, none, none] [] μ
  refine k_iload_n cx dX8_secures_4 rfl rfl ?_
  refine k_aload_n cx dX8_secures_5 rfl rfl ?_
  refine k_get (o := some p_MO_lines) (v := .ref p_MO_lines) cx fl_X8_29 ob_MO rfl rfl dX8_secures_6 ?_
  refine k_aload_n cx dX8_secures_9 rfl rfl ?_
  refine k_get (o := none) (v := .int (μ p_MO 8)) cx fl_X8_118 ob_MO rfl rfl dX8_secures_10 ?_
  obtain ⟨hi, h⟩ := h
  refine k_iald cx ar_MO_lines hi dX8_secures_13 ?_
  refine k_icmp_ge (tgt := 201) cx dX8_secures_14 (by decide) (fun hc => ?_) (fun hc => ?_)
  · replace h := h.1 hc
    refine k_iload_n cx dX8_secures_201 rfl rfl ?_
    obtain ⟨b, hb, h⟩ := h
    exact k_ret_Z (b := b) cx hr hl hQ dX8_secures_202 hb h
  · replace h := h.2 hc
    refine k_iload_n cx dX8_secures_17 rfl rfl ?_
    refine k_if_eq (tgt := 201) cx dX8_secures_18 (by decide) (fun hc => ?_) (fun hc => ?_)
    · replace h := h.1 hc
      refine k_iload_n cx dX8_secures_201 rfl rfl ?_
      obtain ⟨b, hb, h⟩ := h
      exact k_ret_Z (b := b) cx hr hl hQ dX8_secures_202 hb h
    · replace h := h.2 hc
      refine k_iconst (v := (3 : Int32)) cx dX8_secures_21 (by decide +kernel) ?_
      refine k_aload_n cx dX8_secures_22 rfl rfl ?_
      refine k_get (o := none) (v := .int (μ p_MO 8)) cx fl_X8_118 ob_MO rfl rfl dX8_secures_23 ?_
      refine k_imul cx dX8_secures_26 ?_
      refine k_iload_n cx dX8_secures_27 rfl rfl ?_
      refine k_iadd cx dX8_secures_28 ?_
      refine k_istore_n cx dX8_secures_29 rfl (by decide) ?_
      refine k_aload_n cx dX8_secures_30 rfl rfl ?_
      refine k_iload_n cx dX8_secures_31 rfl rfl ?_
      refine k_aload_n cx dX8_secures_32 rfl rfl ?_
      refine k_get (o := some p_MO_at) (v := .ref p_MO_at) cx fl_X8_38 ob_MO rfl rfl dX8_secures_33 ?_
      refine k_iconst (v := (3 : Int32)) cx dX8_secures_36 (by decide +kernel) ?_
      refine k_aload_n cx dX8_secures_37 rfl rfl ?_
      refine k_get (o := none) (v := .int (μ p_MO 8)) cx fl_X8_118 ob_MO rfl rfl dX8_secures_38 ?_
      refine k_imul cx dX8_secures_41 ?_
      refine k_aload_n cx dX8_secures_42 rfl rfl ?_
      refine k_get (o := some p_MO_lineFrom) (v := .ref p_MO_lineFrom) cx fl_X8_41 ob_MO rfl rfl dX8_secures_43 ?_
      refine k_iload_n cx dX8_secures_46 rfl rfl ?_
      obtain ⟨hi, h⟩ := h
      refine k_iald cx ar_MO_lineFrom hi dX8_secures_47 ?_
      refine k_iadd cx dX8_secures_48 ?_
      obtain ⟨hi, h⟩ := h
      refine k_iald cx ar_MO_at hi dX8_secures_49 ?_
      refine k_aload_n cx dX8_secures_50 rfl rfl ?_
      refine k_get (o := some p_MO_at) (v := .ref p_MO_at) cx fl_X8_38 ob_MO rfl rfl dX8_secures_51 ?_
      refine k_iconst (v := (3 : Int32)) cx dX8_secures_54 (by decide +kernel) ?_
      refine k_aload_n cx dX8_secures_55 rfl rfl ?_
      refine k_get (o := none) (v := .int (μ p_MO 8)) cx fl_X8_118 ob_MO rfl rfl dX8_secures_56 ?_
      refine k_imul cx dX8_secures_59 ?_
      refine k_aload_n cx dX8_secures_60 rfl rfl ?_
      refine k_get (o := some p_MO_lineTo) (v := .ref p_MO_lineTo) cx fl_X8_44 ob_MO rfl rfl dX8_secures_61 ?_
      refine k_iload_n cx dX8_secures_64 rfl rfl ?_
      obtain ⟨hi, h⟩ := h
      refine k_iald cx ar_MO_lineTo hi dX8_secures_65 ?_
      refine k_iadd cx dX8_secures_66 ?_
      obtain ⟨hi, h⟩ := h
      refine k_iald cx ar_MO_at hi dX8_secures_67 ?_
      refine k_callV (As := [.int x2, .int (μ p_MO_at ((((3 : Int32) * (μ p_MO 8)) + (μ p_MO_lineFrom ((((3 : Int32) * (μ p_MO 8)) + x2)).toNatClampNeg))).toNatClampNeg), .int (μ p_MO_at ((((3 : Int32) * (μ p_MO 8)) + (μ p_MO_lineTo ((((3 : Int32) * (μ p_MO 8)) + x2)).toNatClampNeg))).toNatClampNeg)]) (rest := []) cx (m_X8_finds h) cv_X8_160 ob_MO rfl rfl rfl rfl (Nat.le_of_ble_eq_true rfl) ⟨Nat.le_of_ble_eq_true rfl, Nat.le_of_ble_eq_true rfl⟩ dX8_secures_68 (fun v μ1 hq => ?_)
      obtain ⟨rfl, h⟩ := hq
      refine k_iconst (v := (0 : Int32)) cx dX8_secures_71 (by decide +kernel) ?_
      refine k_istore cx dX8_secures_72 (by decide) ?_
      refine k_iconst (v := (0 : Int32)) cx dX8_secures_74 (by decide +kernel) ?_
      refine k_istore cx dX8_secures_75 (by decide) ?_
      exact k_weak h (lsLe.keep (lsLe.drop (lsLe.keep (lsLe.keep (lsLe.keep (lsLe.keep (lsLe.keep (lsLe.keep lsLe.nil))))))))
set_option maxHeartbeats 2000000 in
theorem b_X8_secures_77  {g : GE} {f : FE} {q : Bool → Mm → Prop} (cx : Cx g f cX8_secures 8 RX8 4 97 0 0) (hr : (f_M f).sig.returnType = (some .boolean)) (hl : (f_M f).locks = false) (hQ : f_Q f = MQ (f_b f) (QW g (qZ q)) (f_a f) (f_s f) 0 0 (fun q => g.2.2.2 ≤ q))  {x2 : Int32} {x3 : Int32} {x4 : Int32} {x5 : Int32} {μ : Mm} (h : F_X8_secures_77  (KK_X8_secures_4 g f ) (KK_X8_secures_77 g f ) (KK_X8_secures_145 g f ) q x2 x3 x4 x5 μ) : KK_X8_secures_77 g f  x2 x3 x4 x5 μ := by
  unfold F_X8_secures_77 at h
  show KW g f 8 0 0 77 [some (.ref p_MO), none, some (.int x2), some (.int x3), some (.int x4), some (.int x5), none, none] [] μ
  refine k_iload cx dX8_secures_77 rfl ?_
  refine k_aload_n cx dX8_secures_79 rfl rfl ?_
  refine k_get (o := some p_MO_many) (v := .ref p_MO_many) cx fl_X8_80 ob_MO rfl rfl dX8_secures_80 ?_
  refine k_iload_n cx dX8_secures_83 rfl rfl ?_
  obtain ⟨hi, h⟩ := h
  refine k_iald cx ar_MO_many hi dX8_secures_84 ?_
  refine k_icmp_ge (tgt := 176) cx dX8_secures_85 (by decide) (fun hc => ?_) (fun hc => ?_)
  · replace h := h.1 hc
    refine k_aload_n cx dX8_secures_176 rfl rfl ?_
    refine k_get (o := some p_MO_second) (v := .ref p_MO_second) cx fl_X8_59 ob_MO rfl rfl dX8_secures_177 ?_
    refine k_iload_n cx dX8_secures_180 rfl rfl ?_
    refine k_iload cx dX8_secures_181 rfl ?_
    obtain ⟨hi, h⟩ := h
    refine k_iast cx ar_MO_second hi dX8_secures_183 ?_
    refine k_iload cx dX8_secures_184 rfl ?_
    refine k_if_eq (tgt := 193) cx dX8_secures_186 (by decide) (fun hc => ?_) (fun hc => ?_)
    · replace h := h.1 hc
      refine k_iconst (v := (0 : Int32)) cx dX8_secures_193 (by decide +kernel) ?_
      refine k_istore_n cx dX8_secures_194 rfl (by decide) ?_
      refine k_iinc (v := (x2 + (1 : Int32))) cx dX8_secures_195 rfl rfl (by decide) ?_
      refine k_goto (tgt := 4) cx dX8_secures_198 (by decide) ?_
      exact k_weak h (lsLe.keep (lsLe.keep (lsLe.keep (lsLe.drop (lsLe.drop (lsLe.drop (lsLe.keep (lsLe.keep lsLe.nil))))))))
    · replace h := h.2 hc
      refine k_iconst (v := (1 : Int32)) cx dX8_secures_189 (by decide +kernel) ?_
      refine k_goto (tgt := 194) cx dX8_secures_190 (by decide) ?_
      refine k_istore_n cx dX8_secures_194 rfl (by decide) ?_
      refine k_iinc (v := (x2 + (1 : Int32))) cx dX8_secures_195 rfl rfl (by decide) ?_
      refine k_goto (tgt := 4) cx dX8_secures_198 (by decide) ?_
      exact k_weak h (lsLe.keep (lsLe.keep (lsLe.keep (lsLe.drop (lsLe.drop (lsLe.drop (lsLe.keep (lsLe.keep lsLe.nil))))))))
  · replace h := h.2 hc
    refine k_aload_n cx dX8_secures_88 rfl rfl ?_
    refine k_get (o := some p_MO_found) (v := .ref p_MO_found) cx fl_X8_77 ob_MO rfl rfl dX8_secures_89 ?_
    refine k_bipush (v := (64 : Int32)) cx dX8_secures_92 (by decide +kernel) ?_
    refine k_iload_n cx dX8_secures_94 rfl rfl ?_
    refine k_imul cx dX8_secures_95 ?_
    refine k_iload cx dX8_secures_96 rfl ?_
    refine k_iadd cx dX8_secures_98 ?_
    obtain ⟨hi, h⟩ := h
    refine k_iald cx ar_MO_found hi dX8_secures_99 ?_
    refine k_istore cx dX8_secures_100 (by decide) ?_
    refine k_aload_n cx dX8_secures_102 rfl rfl ?_
    refine k_get (o := some p_MO_second) (v := .ref p_MO_second) cx fl_X8_59 ob_MO rfl rfl dX8_secures_103 ?_
    refine k_iload_n cx dX8_secures_106 rfl rfl ?_
    refine k_iload cx dX8_secures_107 rfl ?_
    obtain ⟨hi, h⟩ := h
    refine k_iast cx ar_MO_second hi dX8_secures_109 ?_
    refine k_iload cx dX8_secures_110 rfl ?_
    refine k_aload_n cx dX8_secures_112 rfl rfl ?_
    refine k_get (o := some p_MO_way) (v := .ref p_MO_way) cx fl_X8_53 ob_MO rfl rfl dX8_secures_113 ?_
    refine k_iload_n cx dX8_secures_116 rfl rfl ?_
    obtain ⟨hi, h⟩ := h
    refine k_iald cx ar_MO_way hi dX8_secures_117 ?_
    refine k_iand cx dX8_secures_118 ?_
    refine k_if_ne (tgt := 144) cx dX8_secures_119 (by decide) (fun hc => ?_) (fun hc => ?_)
    · replace h := h.1 hc
      refine k_iconst (v := (0 : Int32)) cx dX8_secures_144 (by decide +kernel) ?_
      exact k_weak h (lsLe.keep (lsLe.keep (lsLe.keep (lsLe.keep (lsLe.keep (lsLe.keep (lsLe.keep (lsLe.keep lsLe.nil))))))))
    · replace h := h.2 hc
      refine k_iload cx dX8_secures_122 rfl ?_
      refine k_if_eq (tgt := 140) cx dX8_secures_124 (by decide) (fun hc => ?_) (fun hc => ?_)
      · replace h := h.1 hc
        refine k_iconst (v := (1 : Int32)) cx dX8_secures_140 (by decide +kernel) ?_
        refine k_goto (tgt := 145) cx dX8_secures_141 (by decide) ?_
        exact k_weak h (lsLe.keep (lsLe.keep (lsLe.keep (lsLe.keep (lsLe.keep (lsLe.keep (lsLe.keep (lsLe.keep lsLe.nil))))))))
      · replace h := h.2 hc
        refine k_iload cx dX8_secures_127 rfl ?_
        refine k_callS (As := [.int (μ p_MO_found ((((64 : Int32) * x2) + x5)).toNatClampNeg)]) (rest := []) cx (m_X8_bits h) cv_X8_167 rfl rfl (Nat.le_of_ble_eq_true rfl) ⟨Nat.le_of_ble_eq_true rfl, Nat.le_of_ble_eq_true rfl⟩ dX8_secures_129 (fun v μ1 hq => ?_)
        obtain ⟨z2, rfl, h⟩ := hq
        refine k_iload cx dX8_secures_132 rfl ?_
        refine k_callS (As := [.int x4]) (rest := [.int z2]) cx (m_X8_bits h) cv_X8_167 rfl rfl (Nat.le_of_ble_eq_true rfl) ⟨Nat.le_of_ble_eq_true rfl, Nat.le_of_ble_eq_true rfl⟩ dX8_secures_134 (fun v μ3 hq => ?_)
        obtain ⟨z4, rfl, h⟩ := hq
        refine k_icmp_ge (tgt := 144) cx dX8_secures_137 (by decide) (fun hc => ?_) (fun hc => ?_)
        · replace h := h.1 hc
          refine k_iconst (v := (0 : Int32)) cx dX8_secures_144 (by decide +kernel) ?_
          exact k_weak h (lsLe.keep (lsLe.keep (lsLe.keep (lsLe.keep (lsLe.keep (lsLe.keep (lsLe.keep (lsLe.keep lsLe.nil))))))))
        · replace h := h.2 hc
          refine k_iconst (v := (1 : Int32)) cx dX8_secures_140 (by decide +kernel) ?_
          refine k_goto (tgt := 145) cx dX8_secures_141 (by decide) ?_
          exact k_weak h (lsLe.keep (lsLe.keep (lsLe.keep (lsLe.keep (lsLe.keep (lsLe.keep (lsLe.keep (lsLe.keep lsLe.nil))))))))
set_option maxHeartbeats 2000000 in
theorem b_X8_secures_145  {g : GE} {f : FE} {q : Bool → Mm → Prop} (cx : Cx g f cX8_secures 8 RX8 4 97 0 0) (hr : (f_M f).sig.returnType = (some .boolean)) (hl : (f_M f).locks = false) (hQ : f_Q f = MQ (f_b f) (QW g (qZ q)) (f_a f) (f_s f) 0 0 (fun q => g.2.2.2 ≤ q))  {x2 : Int32} {x3 : Int32} {x4 : Int32} {x5 : Int32} {x6 : Int32} {y0 : Int32} {μ : Mm} (h : F_X8_secures_145  (KK_X8_secures_4 g f ) (KK_X8_secures_77 g f ) (KK_X8_secures_145 g f ) q x2 x3 x4 x5 x6 y0 μ) : KK_X8_secures_145 g f  x2 x3 x4 x5 x6 y0 μ := by
  unfold F_X8_secures_145 at h
  show KW g f 8 0 0 145 [some (.ref p_MO), none, some (.int x2), some (.int x3), some (.int x4), some (.int x5), some (.int x6), none] [.int y0] μ
  refine k_istore cx dX8_secures_145 (by decide) ?_
  refine k_iload cx dX8_secures_147 rfl ?_
  refine k_if_eq (tgt := 166) cx dX8_secures_149 (by decide) (fun hc => ?_) (fun hc => ?_)
  · replace h := h.1 hc
    refine k_iload cx dX8_secures_166 rfl ?_
    refine k_istore cx dX8_secures_168 (by decide) ?_
    refine k_iinc (v := (x5 + (1 : Int32))) cx dX8_secures_170 rfl rfl (by decide) ?_
    refine k_goto (tgt := 77) cx dX8_secures_173 (by decide) ?_
    exact k_weak h (lsLe.keep (lsLe.keep (lsLe.keep (lsLe.keep (lsLe.keep (lsLe.keep (lsLe.drop (lsLe.drop lsLe.nil))))))))
  · replace h := h.2 hc
    refine k_aload_n cx dX8_secures_152 rfl rfl ?_
    refine k_iload cx dX8_secures_153 rfl ?_
    refine k_callV (As := [.int x6]) (rest := []) cx (m_X8_isWithin h) cv_X8_207 ob_MO rfl rfl rfl rfl (Nat.le_of_ble_eq_true rfl) ⟨Nat.le_of_ble_eq_true rfl, Nat.le_of_ble_eq_true rfl⟩ dX8_secures_155 (fun v μ1 hq => ?_)
    obtain ⟨b2, rfl, h⟩ := hq
    refine k_if_eq (tgt := 166) cx dX8_secures_158 (by decide) (fun hc => ?_) (fun hc => ?_)
    · replace h := h.1 hc
      refine k_iload cx dX8_secures_166 rfl ?_
      refine k_istore cx dX8_secures_168 (by decide) ?_
      refine k_iinc (v := (x5 + (1 : Int32))) cx dX8_secures_170 rfl rfl (by decide) ?_
      refine k_goto (tgt := 77) cx dX8_secures_173 (by decide) ?_
      exact k_weak h (lsLe.keep (lsLe.keep (lsLe.keep (lsLe.keep (lsLe.keep (lsLe.keep (lsLe.drop (lsLe.drop lsLe.nil))))))))
    · replace h := h.2 hc
      refine k_iload cx dX8_secures_161 rfl ?_
      refine k_goto (tgt := 168) cx dX8_secures_163 (by decide) ?_
      refine k_istore cx dX8_secures_168 (by decide) ?_
      refine k_iinc (v := (x5 + (1 : Int32))) cx dX8_secures_170 rfl rfl (by decide) ?_
      refine k_goto (tgt := 77) cx dX8_secures_173 (by decide) ?_
      exact k_weak h (lsLe.keep (lsLe.keep (lsLe.keep (lsLe.keep (lsLe.keep (lsLe.keep (lsLe.drop (lsLe.drop lsLe.nil))))))))
set_option maxHeartbeats 2000000 in
theorem b_X8_secures_e  {g : GE} {f : FE} {q : Bool → Mm → Prop} (cx : Cx g f cX8_secures 8 RX8 4 97 0 0) (hr : (f_M f).sig.returnType = (some .boolean)) (hl : (f_M f).locks = false) (hQ : f_Q f = MQ (f_b f) (QW g (qZ q)) (f_a f) (f_s f) 0 0 (fun q => g.2.2.2 ≤ q))   {μ : Mm} (h : F_X8_secures_e  (KK_X8_secures_4 g f ) (KK_X8_secures_77 g f ) (KK_X8_secures_145 g f ) q  μ) : KW g f 8 0 0 0 [some (.ref p_MO), none, none, none, none, none, none, none] [] μ := by
  unfold F_X8_secures_e at h
  refine k_iconst (v := (1 : Int32)) cx dX8_secures_0 (by decide +kernel) ?_
  refine k_istore_n cx dX8_secures_1 rfl (by decide) ?_
  refine k_iconst (v := (0 : Int32)) cx dX8_secures_2 (by decide +kernel) ?_
  refine k_istore_n cx dX8_secures_3 rfl (by decide) ?_
  exact k_weak h (lsLe.keep (lsLe.keep (lsLe.keep (lsLe.keep (lsLe.keep (lsLe.keep (lsLe.keep (lsLe.keep lsLe.nil))))))))
theorem m_X8_secures {g : GE} {l : Launch} {μ : Mm} {q : Bool → Mm → Prop}  (h : Wp_X8_secures   μ q) : MW g l yX8_secures cX8_secures 8 (some .boolean) 4 97 [.ref p_MO] μ (qZ q) := by
  refine met_of (by decide) (Nat.le_of_ble_eq_true rfl) (by intro v hv; simp only [List.mem_cons, List.not_mem_nil, or_false] at hv; subst hv; rfl) ?_
  intro f hfl cx hr hl hQ
  exact b_X8_secures_e  cx hr hl hQ (h (KK_X8_secures_4 g f ) (KK_X8_secures_77 g f ) (KK_X8_secures_145 g f ) (fun _ _ _ h => b_X8_secures_4  cx hr hl hQ h) (fun _ _ _ _ _ h => b_X8_secures_77  cx hr hl hQ h) (fun _ _ _ _ _ _ _ h => b_X8_secures_145  cx hr hl hQ h))
theorem dX8_place_0 : decode cX8_place 0 = .ok (.iload_n 1, 1) := by decide +kernel
theorem dX8_place_1 : decode cX8_place 1 = .ok (.iconst 0, 1) := by decide +kernel
theorem dX8_place_2 : decode cX8_place 2 = .ok (.iconst 2, 1) := by decide +kernel
theorem dX8_place_3 : decode cX8_place 3 = .ok (.invokestatic 111, 3) := by decide +kernel
theorem dX8_place_6 : decode cX8_place 6 = .ok (.ifCond .eq 17, 3) := by decide +kernel
theorem dX8_place_9 : decode cX8_place 9 = .ok (.iload_n 2, 1) := by decide +kernel
theorem dX8_place_10 : decode cX8_place 10 = .ok (.iconst 1, 1) := by decide +kernel
theorem dX8_place_11 : decode cX8_place 11 = .ok (.bipush 100, 2) := by decide +kernel
theorem dX8_place_13 : decode cX8_place 13 = .ok (.invokestatic 111, 3) := by decide +kernel
theorem dX8_place_16 : decode cX8_place 16 = .ok (.ifCond .eq 7, 3) := by decide +kernel
theorem dX8_place_19 : decode cX8_place 19 = .ok (.iconst 1, 1) := by decide +kernel
theorem dX8_place_20 : decode cX8_place 20 = .ok (.goto 4, 3) := by decide +kernel
theorem dX8_place_23 : decode cX8_place 23 = .ok (.iconst 0, 1) := by decide +kernel
theorem dX8_place_24 : decode cX8_place 24 = .ok (.istore_n 3, 1) := by decide +kernel
theorem dX8_place_25 : decode cX8_place 25 = .ok (.aload_n 0, 1) := by decide +kernel
theorem dX8_place_26 : decode cX8_place 26 = .ok (.iload_n 3, 1) := by decide +kernel
theorem dX8_place_27 : decode cX8_place 27 = .ok (.ifCond .ne 7, 3) := by decide +kernel
theorem dX8_place_30 : decode cX8_place 30 = .ok (.iconst 1, 1) := by decide +kernel
theorem dX8_place_31 : decode cX8_place 31 = .ok (.goto 29, 3) := by decide +kernel
theorem dX8_place_34 : decode cX8_place 34 = .ok (.aload_n 0, 1) := by decide +kernel
theorem dX8_place_35 : decode cX8_place 35 = .ok (.getfield 118, 3) := by decide +kernel
theorem dX8_place_38 : decode cX8_place 38 = .ok (.bipush 12, 2) := by decide +kernel
theorem dX8_place_40 : decode cX8_place 40 = .ok (.if_icmp .eq 15, 3) := by decide +kernel
theorem dX8_place_43 : decode cX8_place 43 = .ok (.aload_n 0, 1) := by decide +kernel
theorem dX8_place_44 : decode cX8_place 44 = .ok (.getfield 26, 3) := by decide +kernel
theorem dX8_place_47 : decode cX8_place 47 = .ok (.aload_n 0, 1) := by decide +kernel
theorem dX8_place_48 : decode cX8_place 48 = .ok (.getfield 118, 3) := by decide +kernel
theorem dX8_place_51 : decode cX8_place 51 = .ok (.iaload, 1) := by decide +kernel
theorem dX8_place_52 : decode cX8_place 52 = .ok (.ifCond .ne 7, 3) := by decide +kernel
theorem dX8_place_55 : decode cX8_place 55 = .ok (.iconst 2, 1) := by decide +kernel
theorem dX8_place_56 : decode cX8_place 56 = .ok (.goto 4, 3) := by decide +kernel
theorem dX8_place_59 : decode cX8_place 59 = .ok (.iconst 0, 1) := by decide +kernel
theorem dX8_place_60 : decode cX8_place 60 = .ok (.invokevirtual 121, 3) := by decide +kernel
theorem dX8_place_63 : decode cX8_place 63 = .ok (.ifCond .ne 5, 3) := by decide +kernel
theorem dX8_place_66 : decode cX8_place 66 = .ok (.iconst 0, 1) := by decide +kernel
theorem dX8_place_67 : decode cX8_place 67 = .ok (.ireturn, 1) := by decide +kernel
theorem dX8_place_68 : decode cX8_place 68 = .ok (.aload_n 0, 1) := by decide +kernel
theorem dX8_place_69 : decode cX8_place 69 = .ok (.invokevirtual 204, 3) := by decide +kernel
theorem dX8_place_72 : decode cX8_place 72 = .ok (.aload_n 0, 1) := by decide +kernel
theorem dX8_place_73 : decode cX8_place 73 = .ok (.iconst 0, 1) := by decide +kernel
theorem dX8_place_74 : decode cX8_place 74 = .ok (.invokevirtual 210, 3) := by decide +kernel
theorem dX8_place_77 : decode cX8_place 77 = .ok (.iconst (-1), 1) := by decide +kernel
theorem dX8_place_78 : decode cX8_place 78 = .ok (.if_icmp .eq 7, 3) := by decide +kernel
theorem dX8_place_81 : decode cX8_place 81 = .ok (.iconst 1, 1) := by decide +kernel
theorem dX8_place_82 : decode cX8_place 82 = .ok (.goto 4, 3) := by decide +kernel
theorem dX8_place_85 : decode cX8_place 85 = .ok (.iconst 0, 1) := by decide +kernel
theorem dX8_place_86 : decode cX8_place 86 = .ok (.istore 4, 2) := by decide +kernel
theorem dX8_place_88 : decode cX8_place 88 = .ok (.iconst 3, 1) := by decide +kernel
theorem dX8_place_89 : decode cX8_place 89 = .ok (.aload_n 0, 1) := by decide +kernel
theorem dX8_place_90 : decode cX8_place 90 = .ok (.getfield 118, 3) := by decide +kernel
theorem dX8_place_93 : decode cX8_place 93 = .ok (.imul, 1) := by decide +kernel
theorem dX8_place_94 : decode cX8_place 94 = .ok (.istore 5, 2) := by decide +kernel
theorem dX8_place_96 : decode cX8_place 96 = .ok (.iload 5, 2) := by decide +kernel
theorem dX8_place_98 : decode cX8_place 98 = .ok (.iconst 3, 1) := by decide +kernel
theorem dX8_place_99 : decode cX8_place 99 = .ok (.aload_n 0, 1) := by decide +kernel
theorem dX8_place_100 : decode cX8_place 100 = .ok (.getfield 118, 3) := by decide +kernel
theorem dX8_place_103 : decode cX8_place 103 = .ok (.imul, 1) := by decide +kernel
theorem dX8_place_104 : decode cX8_place 104 = .ok (.iconst 3, 1) := by decide +kernel
theorem dX8_place_105 : decode cX8_place 105 = .ok (.iadd, 1) := by decide +kernel
theorem dX8_place_106 : decode cX8_place 106 = .ok (.if_icmp .ge 17, 3) := by decide +kernel
theorem dX8_place_109 : decode cX8_place 109 = .ok (.aload_n 0, 1) := by decide +kernel
theorem dX8_place_110 : decode cX8_place 110 = .ok (.getfield 59, 3) := by decide +kernel
theorem dX8_place_113 : decode cX8_place 113 = .ok (.iload 5, 2) := by decide +kernel
theorem dX8_place_115 : decode cX8_place 115 = .ok (.iconst 0, 1) := by decide +kernel
theorem dX8_place_116 : decode cX8_place 116 = .ok (.iastore, 1) := by decide +kernel
theorem dX8_place_117 : decode cX8_place 117 = .ok (.iinc 5 1, 3) := by decide +kernel
theorem dX8_place_120 : decode cX8_place 120 = .ok (.goto (-24), 3) := by decide +kernel
theorem dX8_place_123 : decode cX8_place 123 = .ok (.iload 4, 2) := by decide +kernel
theorem dX8_place_125 : decode cX8_place 125 = .ok (.ifCond .eq 29, 3) := by decide +kernel
theorem dX8_place_128 : decode cX8_place 128 = .ok (.aload_n 0, 1) := by decide +kernel
theorem dX8_place_129 : decode cX8_place 129 = .ok (.invokevirtual 214, 3) := by decide +kernel
theorem dX8_place_132 : decode cX8_place 132 = .ok (.iload_n 1, 1) := by decide +kernel
theorem dX8_place_133 : decode cX8_place 133 = .ok (.iconst 2, 1) := by decide +kernel
theorem dX8_place_134 : decode cX8_place 134 = .ok (.if_icmp .ne 10, 3) := by decide +kernel
theorem dX8_place_137 : decode cX8_place 137 = .ok (.aload_n 0, 1) := by decide +kernel
theorem dX8_place_138 : decode cX8_place 138 = .ok (.invokevirtual 217, 3) := by decide +kernel
theorem dX8_place_141 : decode cX8_place 141 = .ok (.ifCond .eq 7, 3) := by decide +kernel
theorem dX8_place_144 : decode cX8_place 144 = .ok (.iconst 1, 1) := by decide +kernel
theorem dX8_place_145 : decode cX8_place 145 = .ok (.goto 4, 3) := by decide +kernel
theorem dX8_place_148 : decode cX8_place 148 = .ok (.iconst 0, 1) := by decide +kernel
theorem dX8_place_149 : decode cX8_place 149 = .ok (.istore 4, 2) := by decide +kernel
theorem dX8_place_151 : decode cX8_place 151 = .ok (.goto 14, 3) := by decide +kernel
theorem dX8_place_154 : decode cX8_place 154 = .ok (.iload_n 1, 1) := by decide +kernel
theorem dX8_place_155 : decode cX8_place 155 = .ok (.iconst 1, 1) := by decide +kernel
theorem dX8_place_156 : decode cX8_place 156 = .ok (.if_icmp .ne 9, 3) := by decide +kernel
theorem dX8_place_159 : decode cX8_place 159 = .ok (.aload_n 0, 1) := by decide +kernel
theorem dX8_place_160 : decode cX8_place 160 = .ok (.invokevirtual 220, 3) := by decide +kernel
theorem dX8_place_163 : decode cX8_place 163 = .ok (.istore 4, 2) := by decide +kernel
theorem dX8_place_165 : decode cX8_place 165 = .ok (.iload 4, 2) := by decide +kernel
theorem dX8_place_167 : decode cX8_place 167 = .ok (.ifCond .ne 5, 3) := by decide +kernel
theorem dX8_place_170 : decode cX8_place 170 = .ok (.iconst (-1), 1) := by decide +kernel
theorem dX8_place_171 : decode cX8_place 171 = .ok (.ireturn, 1) := by decide +kernel
theorem dX8_place_172 : decode cX8_place 172 = .ok (.aload_n 0, 1) := by decide +kernel
theorem dX8_place_173 : decode cX8_place 173 = .ok (.getfield 65, 3) := by decide +kernel
theorem dX8_place_176 : decode cX8_place 176 = .ok (.aload_n 0, 1) := by decide +kernel
theorem dX8_place_177 : decode cX8_place 177 = .ok (.getfield 118, 3) := by decide +kernel
theorem dX8_place_180 : decode cX8_place 180 = .ok (.iload_n 1, 1) := by decide +kernel
theorem dX8_place_181 : decode cX8_place 181 = .ok (.iastore, 1) := by decide +kernel
theorem dX8_place_182 : decode cX8_place 182 = .ok (.aload_n 0, 1) := by decide +kernel
theorem dX8_place_183 : decode cX8_place 183 = .ok (.getfield 68, 3) := by decide +kernel
theorem dX8_place_186 : decode cX8_place 186 = .ok (.aload_n 0, 1) := by decide +kernel
theorem dX8_place_187 : decode cX8_place 187 = .ok (.getfield 118, 3) := by decide +kernel
theorem dX8_place_190 : decode cX8_place 190 = .ok (.aload_n 0, 1) := by decide +kernel
theorem dX8_place_191 : decode cX8_place 191 = .ok (.getfield 223, 3) := by decide +kernel
theorem dX8_place_194 : decode cX8_place 194 = .ok (.iload_n 2, 1) := by decide +kernel
theorem dX8_place_195 : decode cX8_place 195 = .ok (.iadd, 1) := by decide +kernel
theorem dX8_place_196 : decode cX8_place 196 = .ok (.iastore, 1) := by decide +kernel
theorem dX8_place_197 : decode cX8_place 197 = .ok (.aload_n 0, 1) := by decide +kernel
theorem dX8_place_198 : decode cX8_place 198 = .ok (.dup, 1) := by decide +kernel
theorem dX8_place_199 : decode cX8_place 199 = .ok (.getfield 118, 3) := by decide +kernel
theorem dX8_place_202 : decode cX8_place 202 = .ok (.iconst 1, 1) := by decide +kernel
theorem dX8_place_203 : decode cX8_place 203 = .ok (.iadd, 1) := by decide +kernel
theorem dX8_place_204 : decode cX8_place 204 = .ok (.putfield 118, 3) := by decide +kernel
theorem dX8_place_207 : decode cX8_place 207 = .ok (.aload_n 0, 1) := by decide +kernel
theorem dX8_place_208 : decode cX8_place 208 = .ok (.getfield 26, 3) := by decide +kernel
theorem dX8_place_211 : decode cX8_place 211 = .ok (.aload_n 0, 1) := by decide +kernel
theorem dX8_place_212 : decode cX8_place 212 = .ok (.getfield 118, 3) := by decide +kernel
theorem dX8_place_215 : decode cX8_place 215 = .ok (.iconst 0, 1) := by decide +kernel
theorem dX8_place_216 : decode cX8_place 216 = .ok (.iastore, 1) := by decide +kernel
theorem dX8_place_217 : decode cX8_place 217 = .ok (.aload_n 0, 1) := by decide +kernel
theorem dX8_place_218 : decode cX8_place 218 = .ok (.getfield 29, 3) := by decide +kernel
theorem dX8_place_221 : decode cX8_place 221 = .ok (.aload_n 0, 1) := by decide +kernel
theorem dX8_place_222 : decode cX8_place 222 = .ok (.getfield 118, 3) := by decide +kernel
theorem dX8_place_225 : decode cX8_place 225 = .ok (.iconst 0, 1) := by decide +kernel
theorem dX8_place_226 : decode cX8_place 226 = .ok (.iastore, 1) := by decide +kernel
theorem dX8_place_227 : decode cX8_place 227 = .ok (.aload_n 0, 1) := by decide +kernel
theorem dX8_place_228 : decode cX8_place 228 = .ok (.getfield 118, 3) := by decide +kernel
theorem dX8_place_231 : decode cX8_place 231 = .ok (.iconst 1, 1) := by decide +kernel
theorem dX8_place_232 : decode cX8_place 232 = .ok (.isub, 1) := by decide +kernel
theorem dX8_place_233 : decode cX8_place 233 = .ok (.ireturn, 1) := by decide +kernel
def F_X8_place_24  (K24 : Int32 → Int32 → Int32 → Mm → Prop) (K60 : Int32 → Int32 → Int32 → Mm → Prop) (K96 : Int32 → Int32 → Int32 → Int32 → Mm → Prop) (K165 : Int32 → Int32 → Int32 → Mm → Prop) (q : Int32 → Mm → Prop) (x1 : Int32) (x2 : Int32) (y0 : Int32) (μ : Mm) : Prop :=
  ((¬ (y0 = 0) → (((μ p_MO 8) = (12 : Int32) → K60 x1 x2 (2 : Int32) μ) ∧ (¬ ((μ p_MO 8) = (12 : Int32)) → vp_in (μ p_MO 8) 13 ∧ ((¬ ((μ p_MO_parts ((μ p_MO 8)).toNatClampNeg) = 0) → K60 x1 x2 (0 : Int32) μ) ∧ ((μ p_MO_parts ((μ p_MO 8)).toNatClampNeg) = 0 → K60 x1 x2 (2 : Int32) μ))))) ∧ (y0 = 0 → K60 x1 x2 (1 : Int32) μ))
def F_X8_place_60  (K24 : Int32 → Int32 → Int32 → Mm → Prop) (K60 : Int32 → Int32 → Int32 → Mm → Prop) (K96 : Int32 → Int32 → Int32 → Int32 → Mm → Prop) (K165 : Int32 → Int32 → Int32 → Mm → Prop) (q : Int32 → Mm → Prop) (x1 : Int32) (x2 : Int32) (y0 : Int32) (μ : Mm) : Prop :=
  Wp_X8_can y0 μ (fun b2 μ1 => ((¬ ((bI b2) = 0) → Wp_X8_sumsRooms μ1 (fun μ3 => Wp_X8_leastOf (0 : Int32) μ3 (fun z5 μ4 => ((z5 = (-1 : Int32) → K96 x1 x2 (0 : Int32) ((3 : Int32) * (μ4 p_MO 8)) μ4) ∧ (¬ (z5 = (-1 : Int32)) → K96 x1 x2 (1 : Int32) ((3 : Int32) * (μ4 p_MO 8)) μ4))))) ∧ ((bI b2) = 0 → q (0 : Int32) μ1)))
def F_X8_place_96  (K24 : Int32 → Int32 → Int32 → Mm → Prop) (K60 : Int32 → Int32 → Int32 → Mm → Prop) (K96 : Int32 → Int32 → Int32 → Int32 → Mm → Prop) (K165 : Int32 → Int32 → Int32 → Mm → Prop) (q : Int32 → Mm → Prop) (x1 : Int32) (x2 : Int32) (x4 : Int32) (x5 : Int32) (μ : Mm) : Prop :=
  (((((3 : Int32) * (μ p_MO 8)) + (3 : Int32)) ≤ x5 → ((x4 = 0 → ((¬ (x1 = (1 : Int32)) → K165 x1 x2 x4 μ) ∧ (x1 = (1 : Int32) → Wp_X8_placesSplit μ (fun b2 μ1 => K165 x1 x2 (bI b2) μ1)))) ∧ (¬ (x4 = 0) → Wp_X8_placesLeast μ (fun μ3 => ((¬ (x1 = (2 : Int32)) → K165 x1 x2 (1 : Int32) μ3) ∧ (x1 = (2 : Int32) → Wp_X8_secures μ3 (fun b5 μ4 => (((bI b5) = 0 → K165 x1 x2 (0 : Int32) μ4) ∧ (¬ ((bI b5) = 0) → K165 x1 x2 (1 : Int32) μ4))))))))) ∧ (¬ ((((3 : Int32) * (μ p_MO 8)) + (3 : Int32)) ≤ x5) → vp_in x5 39 ∧ K96 x1 x2 x4 (x5 + (1 : Int32)) (up2 μ p_MO_second (x5).toNatClampNeg (0 : Int32))))
def F_X8_place_165  (K24 : Int32 → Int32 → Int32 → Mm → Prop) (K60 : Int32 → Int32 → Int32 → Mm → Prop) (K96 : Int32 → Int32 → Int32 → Int32 → Mm → Prop) (K165 : Int32 → Int32 → Int32 → Mm → Prop) (q : Int32 → Mm → Prop) (x1 : Int32) (x2 : Int32) (x4 : Int32) (μ : Mm) : Prop :=
  ((¬ (x4 = 0) → vp_in (μ p_MO 8) 13 ∧ vp_in ((up2 μ p_MO_manner ((μ p_MO 8)).toNatClampNeg x1) p_MO 8) 13 ∧ vp_in ((up2 (up2 (up2 μ p_MO_manner ((μ p_MO 8)).toNatClampNeg x1) p_MO_time (((up2 μ p_MO_manner ((μ p_MO 8)).toNatClampNeg x1) p_MO 8)).toNatClampNeg (((up2 μ p_MO_manner ((μ p_MO 8)).toNatClampNeg x1) p_MO 0) + x2)) p_MO 8 (((up2 (up2 μ p_MO_manner ((μ p_MO 8)).toNatClampNeg x1) p_MO_time (((up2 μ p_MO_manner ((μ p_MO 8)).toNatClampNeg x1) p_MO 8)).toNatClampNeg (((up2 μ p_MO_manner ((μ p_MO 8)).toNatClampNeg x1) p_MO 0) + x2)) p_MO 8) + (1 : Int32))) p_MO 8) 13 ∧ vp_in ((up2 (up2 (up2 (up2 μ p_MO_manner ((μ p_MO 8)).toNatClampNeg x1) p_MO_time (((up2 μ p_MO_manner ((μ p_MO 8)).toNatClampNeg x1) p_MO 8)).toNatClampNeg (((up2 μ p_MO_manner ((μ p_MO 8)).toNatClampNeg x1) p_MO 0) + x2)) p_MO 8 (((up2 (up2 μ p_MO_manner ((μ p_MO 8)).toNatClampNeg x1) p_MO_time (((up2 μ p_MO_manner ((μ p_MO 8)).toNatClampNeg x1) p_MO 8)).toNatClampNeg (((up2 μ p_MO_manner ((μ p_MO 8)).toNatClampNeg x1) p_MO 0) + x2)) p_MO 8) + (1 : Int32))) p_MO_parts (((up2 (up2 (up2 μ p_MO_manner ((μ p_MO 8)).toNatClampNeg x1) p_MO_time (((up2 μ p_MO_manner ((μ p_MO 8)).toNatClampNeg x1) p_MO 8)).toNatClampNeg (((up2 μ p_MO_manner ((μ p_MO 8)).toNatClampNeg x1) p_MO 0) + x2)) p_MO 8 (((up2 (up2 μ p_MO_manner ((μ p_MO 8)).toNatClampNeg x1) p_MO_time (((up2 μ p_MO_manner ((μ p_MO 8)).toNatClampNeg x1) p_MO 8)).toNatClampNeg (((up2 μ p_MO_manner ((μ p_MO 8)).toNatClampNeg x1) p_MO 0) + x2)) p_MO 8) + (1 : Int32))) p_MO 8)).toNatClampNeg (0 : Int32)) p_MO 8) 13 ∧ q (((up2 (up2 (up2 (up2 (up2 μ p_MO_manner ((μ p_MO 8)).toNatClampNeg x1) p_MO_time (((up2 μ p_MO_manner ((μ p_MO 8)).toNatClampNeg x1) p_MO 8)).toNatClampNeg (((up2 μ p_MO_manner ((μ p_MO 8)).toNatClampNeg x1) p_MO 0) + x2)) p_MO 8 (((up2 (up2 μ p_MO_manner ((μ p_MO 8)).toNatClampNeg x1) p_MO_time (((up2 μ p_MO_manner ((μ p_MO 8)).toNatClampNeg x1) p_MO 8)).toNatClampNeg (((up2 μ p_MO_manner ((μ p_MO 8)).toNatClampNeg x1) p_MO 0) + x2)) p_MO 8) + (1 : Int32))) p_MO_parts (((up2 (up2 (up2 μ p_MO_manner ((μ p_MO 8)).toNatClampNeg x1) p_MO_time (((up2 μ p_MO_manner ((μ p_MO 8)).toNatClampNeg x1) p_MO 8)).toNatClampNeg (((up2 μ p_MO_manner ((μ p_MO 8)).toNatClampNeg x1) p_MO 0) + x2)) p_MO 8 (((up2 (up2 μ p_MO_manner ((μ p_MO 8)).toNatClampNeg x1) p_MO_time (((up2 μ p_MO_manner ((μ p_MO 8)).toNatClampNeg x1) p_MO 8)).toNatClampNeg (((up2 μ p_MO_manner ((μ p_MO 8)).toNatClampNeg x1) p_MO 0) + x2)) p_MO 8) + (1 : Int32))) p_MO 8)).toNatClampNeg (0 : Int32)) p_MO_lines (((up2 (up2 (up2 (up2 μ p_MO_manner ((μ p_MO 8)).toNatClampNeg x1) p_MO_time (((up2 μ p_MO_manner ((μ p_MO 8)).toNatClampNeg x1) p_MO 8)).toNatClampNeg (((up2 μ p_MO_manner ((μ p_MO 8)).toNatClampNeg x1) p_MO 0) + x2)) p_MO 8 (((up2 (up2 μ p_MO_manner ((μ p_MO 8)).toNatClampNeg x1) p_MO_time (((up2 μ p_MO_manner ((μ p_MO 8)).toNatClampNeg x1) p_MO 8)).toNatClampNeg (((up2 μ p_MO_manner ((μ p_MO 8)).toNatClampNeg x1) p_MO 0) + x2)) p_MO 8) + (1 : Int32))) p_MO_parts (((up2 (up2 (up2 μ p_MO_manner ((μ p_MO 8)).toNatClampNeg x1) p_MO_time (((up2 μ p_MO_manner ((μ p_MO 8)).toNatClampNeg x1) p_MO 8)).toNatClampNeg (((up2 μ p_MO_manner ((μ p_MO 8)).toNatClampNeg x1) p_MO 0) + x2)) p_MO 8 (((up2 (up2 μ p_MO_manner ((μ p_MO 8)).toNatClampNeg x1) p_MO_time (((up2 μ p_MO_manner ((μ p_MO 8)).toNatClampNeg x1) p_MO 8)).toNatClampNeg (((up2 μ p_MO_manner ((μ p_MO 8)).toNatClampNeg x1) p_MO 0) + x2)) p_MO 8) + (1 : Int32))) p_MO 8)).toNatClampNeg (0 : Int32)) p_MO 8)).toNatClampNeg (0 : Int32)) p_MO 8) - (1 : Int32)) (up2 (up2 (up2 (up2 (up2 μ p_MO_manner ((μ p_MO 8)).toNatClampNeg x1) p_MO_time (((up2 μ p_MO_manner ((μ p_MO 8)).toNatClampNeg x1) p_MO 8)).toNatClampNeg (((up2 μ p_MO_manner ((μ p_MO 8)).toNatClampNeg x1) p_MO 0) + x2)) p_MO 8 (((up2 (up2 μ p_MO_manner ((μ p_MO 8)).toNatClampNeg x1) p_MO_time (((up2 μ p_MO_manner ((μ p_MO 8)).toNatClampNeg x1) p_MO 8)).toNatClampNeg (((up2 μ p_MO_manner ((μ p_MO 8)).toNatClampNeg x1) p_MO 0) + x2)) p_MO 8) + (1 : Int32))) p_MO_parts (((up2 (up2 (up2 μ p_MO_manner ((μ p_MO 8)).toNatClampNeg x1) p_MO_time (((up2 μ p_MO_manner ((μ p_MO 8)).toNatClampNeg x1) p_MO 8)).toNatClampNeg (((up2 μ p_MO_manner ((μ p_MO 8)).toNatClampNeg x1) p_MO 0) + x2)) p_MO 8 (((up2 (up2 μ p_MO_manner ((μ p_MO 8)).toNatClampNeg x1) p_MO_time (((up2 μ p_MO_manner ((μ p_MO 8)).toNatClampNeg x1) p_MO 8)).toNatClampNeg (((up2 μ p_MO_manner ((μ p_MO 8)).toNatClampNeg x1) p_MO 0) + x2)) p_MO 8) + (1 : Int32))) p_MO 8)).toNatClampNeg (0 : Int32)) p_MO_lines (((up2 (up2 (up2 (up2 μ p_MO_manner ((μ p_MO 8)).toNatClampNeg x1) p_MO_time (((up2 μ p_MO_manner ((μ p_MO 8)).toNatClampNeg x1) p_MO 8)).toNatClampNeg (((up2 μ p_MO_manner ((μ p_MO 8)).toNatClampNeg x1) p_MO 0) + x2)) p_MO 8 (((up2 (up2 μ p_MO_manner ((μ p_MO 8)).toNatClampNeg x1) p_MO_time (((up2 μ p_MO_manner ((μ p_MO 8)).toNatClampNeg x1) p_MO 8)).toNatClampNeg (((up2 μ p_MO_manner ((μ p_MO 8)).toNatClampNeg x1) p_MO 0) + x2)) p_MO 8) + (1 : Int32))) p_MO_parts (((up2 (up2 (up2 μ p_MO_manner ((μ p_MO 8)).toNatClampNeg x1) p_MO_time (((up2 μ p_MO_manner ((μ p_MO 8)).toNatClampNeg x1) p_MO 8)).toNatClampNeg (((up2 μ p_MO_manner ((μ p_MO 8)).toNatClampNeg x1) p_MO 0) + x2)) p_MO 8 (((up2 (up2 μ p_MO_manner ((μ p_MO 8)).toNatClampNeg x1) p_MO_time (((up2 μ p_MO_manner ((μ p_MO 8)).toNatClampNeg x1) p_MO 8)).toNatClampNeg (((up2 μ p_MO_manner ((μ p_MO 8)).toNatClampNeg x1) p_MO 0) + x2)) p_MO 8) + (1 : Int32))) p_MO 8)).toNatClampNeg (0 : Int32)) p_MO 8)).toNatClampNeg (0 : Int32))) ∧ (x4 = 0 → q (-1 : Int32) μ))
def F_X8_place_e  (K24 : Int32 → Int32 → Int32 → Mm → Prop) (K60 : Int32 → Int32 → Int32 → Mm → Prop) (K96 : Int32 → Int32 → Int32 → Int32 → Mm → Prop) (K165 : Int32 → Int32 → Int32 → Mm → Prop) (q : Int32 → Mm → Prop) (x1 : Int32) (x2 : Int32) (μ : Mm) : Prop :=
  Wp_X8_isIn x1 (0 : Int32) (2 : Int32) μ (fun b2 μ1 => (((bI b2) = 0 → K24 x1 x2 (0 : Int32) μ1) ∧ (¬ ((bI b2) = 0) → Wp_X8_isIn x2 (1 : Int32) (100 : Int32) μ1 (fun b4 μ3 => (((bI b4) = 0 → K24 x1 x2 (0 : Int32) μ3) ∧ (¬ ((bI b4) = 0) → K24 x1 x2 (1 : Int32) μ3))))))
def Wp_X8_place  (x1 : Int32) (x2 : Int32) (μ : Mm) (q : Int32 → Mm → Prop) : Prop := ∀ (K24 : Int32 → Int32 → Int32 → Mm → Prop) (K60 : Int32 → Int32 → Int32 → Mm → Prop) (K96 : Int32 → Int32 → Int32 → Int32 → Mm → Prop) (K165 : Int32 → Int32 → Int32 → Mm → Prop), (∀ (x1 : Int32) (x2 : Int32) (y0 : Int32) (μ : Mm), F_X8_place_24  K24 K60 K96 K165 q x1 x2 y0 μ → K24 x1 x2 y0 μ) → (∀ (x1 : Int32) (x2 : Int32) (y0 : Int32) (μ : Mm), F_X8_place_60  K24 K60 K96 K165 q x1 x2 y0 μ → K60 x1 x2 y0 μ) → (∀ (x1 : Int32) (x2 : Int32) (x4 : Int32) (x5 : Int32) (μ : Mm), F_X8_place_96  K24 K60 K96 K165 q x1 x2 x4 x5 μ → K96 x1 x2 x4 x5 μ) → (∀ (x1 : Int32) (x2 : Int32) (x4 : Int32) (μ : Mm), F_X8_place_165  K24 K60 K96 K165 q x1 x2 x4 μ → K165 x1 x2 x4 μ) → F_X8_place_e  K24 K60 K96 K165 q x1 x2 μ
abbrev KK_X8_place_24 (g : GE) (f : FE)  : Int32 → Int32 → Int32 → Mm → Prop := fun x1 x2 y0 μ => KW g f 6 0 0 24 [some (.ref p_MO), some (.int x1), some (.int x2), none, none, none] [.int y0] μ
abbrev KK_X8_place_60 (g : GE) (f : FE)  : Int32 → Int32 → Int32 → Mm → Prop := fun x1 x2 y0 μ => KW g f 6 0 0 60 [some (.ref p_MO), some (.int x1), some (.int x2), none, none, none] [.int y0, .ref p_MO] μ
abbrev KK_X8_place_96 (g : GE) (f : FE)  : Int32 → Int32 → Int32 → Int32 → Mm → Prop := fun x1 x2 x4 x5 μ => KW g f 6 0 0 96 [some (.ref p_MO), some (.int x1), some (.int x2), none, some (.int x4), some (.int x5)] [] μ
abbrev KK_X8_place_165 (g : GE) (f : FE)  : Int32 → Int32 → Int32 → Mm → Prop := fun x1 x2 x4 μ => KW g f 6 0 0 165 [some (.ref p_MO), some (.int x1), some (.int x2), none, some (.int x4), none] [] μ
set_option maxHeartbeats 2000000 in
theorem b_X8_place_24  {g : GE} {f : FE} {q : Int32 → Mm → Prop} (cx : Cx g f cX8_place 6 RX8 5 124 0 0) (hr : (f_M f).sig.returnType = (some .int)) (hl : (f_M f).locks = false) (hQ : f_Q f = MQ (f_b f) (QW g (qI q)) (f_a f) (f_s f) 0 0 (fun q => g.2.2.2 ≤ q))  {x1 : Int32} {x2 : Int32} {y0 : Int32} {μ : Mm} (h : F_X8_place_24  (KK_X8_place_24 g f ) (KK_X8_place_60 g f ) (KK_X8_place_96 g f ) (KK_X8_place_165 g f ) q x1 x2 y0 μ) : KK_X8_place_24 g f  x1 x2 y0 μ := by
  unfold F_X8_place_24 at h
  show KW g f 6 0 0 24 [some (.ref p_MO), some (.int x1), some (.int x2), none, none, none] [.int y0] μ
  refine k_istore_n cx dX8_place_24 rfl (by decide) ?_
  refine k_aload_n cx dX8_place_25 rfl rfl ?_
  refine k_iload_n cx dX8_place_26 rfl rfl ?_
  refine k_if_ne (tgt := 34) cx dX8_place_27 (by decide) (fun hc => ?_) (fun hc => ?_)
  · replace h := h.1 hc
    refine k_aload_n cx dX8_place_34 rfl rfl ?_
    refine k_get (o := none) (v := .int (μ p_MO 8)) cx fl_X8_118 ob_MO rfl rfl dX8_place_35 ?_
    refine k_bipush (v := (12 : Int32)) cx dX8_place_38 (by decide +kernel) ?_
    refine k_icmp_eq (tgt := 55) cx dX8_place_40 (by decide) (fun hc => ?_) (fun hc => ?_)
    · replace h := h.1 hc
      refine k_iconst (v := (2 : Int32)) cx dX8_place_55 (by decide +kernel) ?_
      refine k_goto (tgt := 60) cx dX8_place_56 (by decide) ?_
      exact k_weak h (lsLe.keep (lsLe.keep (lsLe.keep (lsLe.drop (lsLe.keep (lsLe.keep lsLe.nil))))))
    · replace h := h.2 hc
      refine k_aload_n cx dX8_place_43 rfl rfl ?_
      refine k_get (o := some p_MO_parts) (v := .ref p_MO_parts) cx fl_X8_26 ob_MO rfl rfl dX8_place_44 ?_
      refine k_aload_n cx dX8_place_47 rfl rfl ?_
      refine k_get (o := none) (v := .int (μ p_MO 8)) cx fl_X8_118 ob_MO rfl rfl dX8_place_48 ?_
      obtain ⟨hi, h⟩ := h
      refine k_iald cx ar_MO_parts hi dX8_place_51 ?_
      refine k_if_ne (tgt := 59) cx dX8_place_52 (by decide) (fun hc => ?_) (fun hc => ?_)
      · replace h := h.1 hc
        refine k_iconst (v := (0 : Int32)) cx dX8_place_59 (by decide +kernel) ?_
        exact k_weak h (lsLe.keep (lsLe.keep (lsLe.keep (lsLe.drop (lsLe.keep (lsLe.keep lsLe.nil))))))
      · replace h := h.2 hc
        refine k_iconst (v := (2 : Int32)) cx dX8_place_55 (by decide +kernel) ?_
        refine k_goto (tgt := 60) cx dX8_place_56 (by decide) ?_
        exact k_weak h (lsLe.keep (lsLe.keep (lsLe.keep (lsLe.drop (lsLe.keep (lsLe.keep lsLe.nil))))))
  · replace h := h.2 hc
    refine k_iconst (v := (1 : Int32)) cx dX8_place_30 (by decide +kernel) ?_
    refine k_goto (tgt := 60) cx dX8_place_31 (by decide) ?_
    exact k_weak h (lsLe.keep (lsLe.keep (lsLe.keep (lsLe.drop (lsLe.keep (lsLe.keep lsLe.nil))))))
set_option maxHeartbeats 2000000 in
theorem b_X8_place_60  {g : GE} {f : FE} {q : Int32 → Mm → Prop} (cx : Cx g f cX8_place 6 RX8 5 124 0 0) (hr : (f_M f).sig.returnType = (some .int)) (hl : (f_M f).locks = false) (hQ : f_Q f = MQ (f_b f) (QW g (qI q)) (f_a f) (f_s f) 0 0 (fun q => g.2.2.2 ≤ q))  {x1 : Int32} {x2 : Int32} {y0 : Int32} {μ : Mm} (h : F_X8_place_60  (KK_X8_place_24 g f ) (KK_X8_place_60 g f ) (KK_X8_place_96 g f ) (KK_X8_place_165 g f ) q x1 x2 y0 μ) : KK_X8_place_60 g f  x1 x2 y0 μ := by
  unfold F_X8_place_60 at h
  show KW g f 6 0 0 60 [some (.ref p_MO), some (.int x1), some (.int x2), none, none, none] [.int y0, .ref p_MO] μ
  refine k_callV (As := [.int y0]) (rest := []) cx (m_X8_can h) cv_X8_121 ob_MO rfl rfl rfl rfl (Nat.le_of_ble_eq_true rfl) ⟨Nat.le_of_ble_eq_true rfl, Nat.le_of_ble_eq_true rfl⟩ dX8_place_60 (fun v μ1 hq => ?_)
  obtain ⟨b2, rfl, h⟩ := hq
  refine k_if_ne (tgt := 68) cx dX8_place_63 (by decide) (fun hc => ?_) (fun hc => ?_)
  · replace h := h.1 hc
    refine k_aload_n cx dX8_place_68 rfl rfl ?_
    refine k_callV (As := []) (rest := []) cx (m_X8_sumsRooms h) cv_X8_204 ob_MO rfl rfl rfl rfl (Nat.le_of_ble_eq_true rfl) ⟨Nat.le_of_ble_eq_true rfl, Nat.le_of_ble_eq_true rfl⟩ dX8_place_69 (fun v μ3 hq => ?_)
    obtain ⟨rfl, h⟩ := hq
    refine k_aload_n cx dX8_place_72 rfl rfl ?_
    refine k_iconst (v := (0 : Int32)) cx dX8_place_73 (by decide +kernel) ?_
    refine k_callV (As := [.int (0 : Int32)]) (rest := []) cx (m_X8_leastOf h) cv_X8_210 ob_MO rfl rfl rfl rfl (Nat.le_of_ble_eq_true rfl) ⟨Nat.le_of_ble_eq_true rfl, Nat.le_of_ble_eq_true rfl⟩ dX8_place_74 (fun v μ4 hq => ?_)
    obtain ⟨z5, rfl, h⟩ := hq
    refine k_iconst (v := (-1 : Int32)) cx dX8_place_77 (by decide +kernel) ?_
    refine k_icmp_eq (tgt := 85) cx dX8_place_78 (by decide) (fun hc => ?_) (fun hc => ?_)
    · replace h := h.1 hc
      refine k_iconst (v := (0 : Int32)) cx dX8_place_85 (by decide +kernel) ?_
      refine k_istore cx dX8_place_86 (by decide) ?_
      refine k_iconst (v := (3 : Int32)) cx dX8_place_88 (by decide +kernel) ?_
      refine k_aload_n cx dX8_place_89 rfl rfl ?_
      refine k_get (o := none) (v := .int (μ4 p_MO 8)) cx fl_X8_118 ob_MO rfl rfl dX8_place_90 ?_
      refine k_imul cx dX8_place_93 ?_
      refine k_istore cx dX8_place_94 (by decide) ?_
      exact k_weak h (lsLe.keep (lsLe.keep (lsLe.keep (lsLe.keep (lsLe.keep (lsLe.keep lsLe.nil))))))
    · replace h := h.2 hc
      refine k_iconst (v := (1 : Int32)) cx dX8_place_81 (by decide +kernel) ?_
      refine k_goto (tgt := 86) cx dX8_place_82 (by decide) ?_
      refine k_istore cx dX8_place_86 (by decide) ?_
      refine k_iconst (v := (3 : Int32)) cx dX8_place_88 (by decide +kernel) ?_
      refine k_aload_n cx dX8_place_89 rfl rfl ?_
      refine k_get (o := none) (v := .int (μ4 p_MO 8)) cx fl_X8_118 ob_MO rfl rfl dX8_place_90 ?_
      refine k_imul cx dX8_place_93 ?_
      refine k_istore cx dX8_place_94 (by decide) ?_
      exact k_weak h (lsLe.keep (lsLe.keep (lsLe.keep (lsLe.keep (lsLe.keep (lsLe.keep lsLe.nil))))))
  · replace h := h.2 hc
    refine k_iconst (v := (0 : Int32)) cx dX8_place_66 (by decide +kernel) ?_
    exact k_ret_I cx hr hl hQ dX8_place_67 h
set_option maxHeartbeats 2000000 in
theorem b_X8_place_96  {g : GE} {f : FE} {q : Int32 → Mm → Prop} (cx : Cx g f cX8_place 6 RX8 5 124 0 0) (hr : (f_M f).sig.returnType = (some .int)) (hl : (f_M f).locks = false) (hQ : f_Q f = MQ (f_b f) (QW g (qI q)) (f_a f) (f_s f) 0 0 (fun q => g.2.2.2 ≤ q))  {x1 : Int32} {x2 : Int32} {x4 : Int32} {x5 : Int32} {μ : Mm} (h : F_X8_place_96  (KK_X8_place_24 g f ) (KK_X8_place_60 g f ) (KK_X8_place_96 g f ) (KK_X8_place_165 g f ) q x1 x2 x4 x5 μ) : KK_X8_place_96 g f  x1 x2 x4 x5 μ := by
  unfold F_X8_place_96 at h
  show KW g f 6 0 0 96 [some (.ref p_MO), some (.int x1), some (.int x2), none, some (.int x4), some (.int x5)] [] μ
  refine k_iload cx dX8_place_96 rfl ?_
  refine k_iconst (v := (3 : Int32)) cx dX8_place_98 (by decide +kernel) ?_
  refine k_aload_n cx dX8_place_99 rfl rfl ?_
  refine k_get (o := none) (v := .int (μ p_MO 8)) cx fl_X8_118 ob_MO rfl rfl dX8_place_100 ?_
  refine k_imul cx dX8_place_103 ?_
  refine k_iconst (v := (3 : Int32)) cx dX8_place_104 (by decide +kernel) ?_
  refine k_iadd cx dX8_place_105 ?_
  refine k_icmp_ge (tgt := 123) cx dX8_place_106 (by decide) (fun hc => ?_) (fun hc => ?_)
  · replace h := h.1 hc
    refine k_iload cx dX8_place_123 rfl ?_
    refine k_if_eq (tgt := 154) cx dX8_place_125 (by decide) (fun hc => ?_) (fun hc => ?_)
    · replace h := h.1 hc
      refine k_iload_n cx dX8_place_154 rfl rfl ?_
      refine k_iconst (v := (1 : Int32)) cx dX8_place_155 (by decide +kernel) ?_
      refine k_icmp_ne (tgt := 165) cx dX8_place_156 (by decide) (fun hc => ?_) (fun hc => ?_)
      · replace h := h.1 hc
        exact k_weak h (lsLe.keep (lsLe.keep (lsLe.keep (lsLe.keep (lsLe.keep (lsLe.drop lsLe.nil))))))
      · replace h := h.2 hc
        refine k_aload_n cx dX8_place_159 rfl rfl ?_
        refine k_callV (As := []) (rest := []) cx (m_X8_placesSplit h) cv_X8_220 ob_MO rfl rfl rfl rfl (Nat.le_of_ble_eq_true rfl) ⟨Nat.le_of_ble_eq_true rfl, Nat.le_of_ble_eq_true rfl⟩ dX8_place_160 (fun v μ1 hq => ?_)
        obtain ⟨b2, rfl, h⟩ := hq
        refine k_istore cx dX8_place_163 (by decide) ?_
        exact k_weak h (lsLe.keep (lsLe.keep (lsLe.keep (lsLe.keep (lsLe.keep (lsLe.drop lsLe.nil))))))
    · replace h := h.2 hc
      refine k_aload_n cx dX8_place_128 rfl rfl ?_
      refine k_callV (As := []) (rest := []) cx (m_X8_placesLeast h) cv_X8_214 ob_MO rfl rfl rfl rfl (Nat.le_of_ble_eq_true rfl) ⟨Nat.le_of_ble_eq_true rfl, Nat.le_of_ble_eq_true rfl⟩ dX8_place_129 (fun v μ3 hq => ?_)
      obtain ⟨rfl, h⟩ := hq
      refine k_iload_n cx dX8_place_132 rfl rfl ?_
      refine k_iconst (v := (2 : Int32)) cx dX8_place_133 (by decide +kernel) ?_
      refine k_icmp_ne (tgt := 144) cx dX8_place_134 (by decide) (fun hc => ?_) (fun hc => ?_)
      · replace h := h.1 hc
        refine k_iconst (v := (1 : Int32)) cx dX8_place_144 (by decide +kernel) ?_
        refine k_goto (tgt := 149) cx dX8_place_145 (by decide) ?_
        refine k_istore cx dX8_place_149 (by decide) ?_
        refine k_goto (tgt := 165) cx dX8_place_151 (by decide) ?_
        exact k_weak h (lsLe.keep (lsLe.keep (lsLe.keep (lsLe.keep (lsLe.keep (lsLe.drop lsLe.nil))))))
      · replace h := h.2 hc
        refine k_aload_n cx dX8_place_137 rfl rfl ?_
        refine k_callV (As := []) (rest := []) cx (m_X8_secures h) cv_X8_217 ob_MO rfl rfl rfl rfl (Nat.le_of_ble_eq_true rfl) ⟨Nat.le_of_ble_eq_true rfl, Nat.le_of_ble_eq_true rfl⟩ dX8_place_138 (fun v μ4 hq => ?_)
        obtain ⟨b5, rfl, h⟩ := hq
        refine k_if_eq (tgt := 148) cx dX8_place_141 (by decide) (fun hc => ?_) (fun hc => ?_)
        · replace h := h.1 hc
          refine k_iconst (v := (0 : Int32)) cx dX8_place_148 (by decide +kernel) ?_
          refine k_istore cx dX8_place_149 (by decide) ?_
          refine k_goto (tgt := 165) cx dX8_place_151 (by decide) ?_
          exact k_weak h (lsLe.keep (lsLe.keep (lsLe.keep (lsLe.keep (lsLe.keep (lsLe.drop lsLe.nil))))))
        · replace h := h.2 hc
          refine k_iconst (v := (1 : Int32)) cx dX8_place_144 (by decide +kernel) ?_
          refine k_goto (tgt := 149) cx dX8_place_145 (by decide) ?_
          refine k_istore cx dX8_place_149 (by decide) ?_
          refine k_goto (tgt := 165) cx dX8_place_151 (by decide) ?_
          exact k_weak h (lsLe.keep (lsLe.keep (lsLe.keep (lsLe.keep (lsLe.keep (lsLe.drop lsLe.nil))))))
  · replace h := h.2 hc
    refine k_aload_n cx dX8_place_109 rfl rfl ?_
    refine k_get (o := some p_MO_second) (v := .ref p_MO_second) cx fl_X8_59 ob_MO rfl rfl dX8_place_110 ?_
    refine k_iload cx dX8_place_113 rfl ?_
    refine k_iconst (v := (0 : Int32)) cx dX8_place_115 (by decide +kernel) ?_
    obtain ⟨hi, h⟩ := h
    refine k_iast cx ar_MO_second hi dX8_place_116 ?_
    refine k_iinc (v := (x5 + (1 : Int32))) cx dX8_place_117 rfl rfl (by decide) ?_
    refine k_goto (tgt := 96) cx dX8_place_120 (by decide) ?_
    exact k_weak h (lsLe.keep (lsLe.keep (lsLe.keep (lsLe.keep (lsLe.keep (lsLe.keep lsLe.nil))))))
set_option maxHeartbeats 2000000 in
theorem b_X8_place_165  {g : GE} {f : FE} {q : Int32 → Mm → Prop} (cx : Cx g f cX8_place 6 RX8 5 124 0 0) (hr : (f_M f).sig.returnType = (some .int)) (hl : (f_M f).locks = false) (hQ : f_Q f = MQ (f_b f) (QW g (qI q)) (f_a f) (f_s f) 0 0 (fun q => g.2.2.2 ≤ q))  {x1 : Int32} {x2 : Int32} {x4 : Int32} {μ : Mm} (h : F_X8_place_165  (KK_X8_place_24 g f ) (KK_X8_place_60 g f ) (KK_X8_place_96 g f ) (KK_X8_place_165 g f ) q x1 x2 x4 μ) : KK_X8_place_165 g f  x1 x2 x4 μ := by
  unfold F_X8_place_165 at h
  show KW g f 6 0 0 165 [some (.ref p_MO), some (.int x1), some (.int x2), none, some (.int x4), none] [] μ
  refine k_iload cx dX8_place_165 rfl ?_
  refine k_if_ne (tgt := 172) cx dX8_place_167 (by decide) (fun hc => ?_) (fun hc => ?_)
  · replace h := h.1 hc
    refine k_aload_n cx dX8_place_172 rfl rfl ?_
    refine k_get (o := some p_MO_manner) (v := .ref p_MO_manner) cx fl_X8_65 ob_MO rfl rfl dX8_place_173 ?_
    refine k_aload_n cx dX8_place_176 rfl rfl ?_
    refine k_get (o := none) (v := .int (μ p_MO 8)) cx fl_X8_118 ob_MO rfl rfl dX8_place_177 ?_
    refine k_iload_n cx dX8_place_180 rfl rfl ?_
    obtain ⟨hi, h⟩ := h
    refine k_iast cx ar_MO_manner hi dX8_place_181 ?_
    refine k_aload_n cx dX8_place_182 rfl rfl ?_
    refine k_get (o := some p_MO_time) (v := .ref p_MO_time) cx fl_X8_68 ob_MO rfl rfl dX8_place_183 ?_
    refine k_aload_n cx dX8_place_186 rfl rfl ?_
    refine k_get (o := none) (v := .int ((up2 μ p_MO_manner ((μ p_MO 8)).toNatClampNeg x1) p_MO 8)) cx fl_X8_118 ob_MO rfl rfl dX8_place_187 ?_
    refine k_aload_n cx dX8_place_190 rfl rfl ?_
    refine k_get (o := none) (v := .int ((up2 μ p_MO_manner ((μ p_MO 8)).toNatClampNeg x1) p_MO 0)) cx fl_X8_223 ob_MO rfl rfl dX8_place_191 ?_
    refine k_iload_n cx dX8_place_194 rfl rfl ?_
    refine k_iadd cx dX8_place_195 ?_
    obtain ⟨hi, h⟩ := h
    refine k_iast cx ar_MO_time hi dX8_place_196 ?_
    refine k_aload_n cx dX8_place_197 rfl rfl ?_
    refine k_dup cx dX8_place_198 rfl ?_
    refine k_get (o := none) (v := .int ((up2 (up2 μ p_MO_manner ((μ p_MO 8)).toNatClampNeg x1) p_MO_time (((up2 μ p_MO_manner ((μ p_MO 8)).toNatClampNeg x1) p_MO 8)).toNatClampNeg (((up2 μ p_MO_manner ((μ p_MO 8)).toNatClampNeg x1) p_MO 0) + x2)) p_MO 8)) cx fl_X8_118 ob_MO rfl rfl dX8_place_199 ?_
    refine k_iconst (v := (1 : Int32)) cx dX8_place_202 (by decide +kernel) ?_
    refine k_iadd cx dX8_place_203 ?_
    refine k_put cx fp_X8_118 ob_MO rfl rfl rfl dX8_place_204 ?_
    refine k_aload_n cx dX8_place_207 rfl rfl ?_
    refine k_get (o := some p_MO_parts) (v := .ref p_MO_parts) cx fl_X8_26 ob_MO rfl rfl dX8_place_208 ?_
    refine k_aload_n cx dX8_place_211 rfl rfl ?_
    refine k_get (o := none) (v := .int ((up2 (up2 (up2 μ p_MO_manner ((μ p_MO 8)).toNatClampNeg x1) p_MO_time (((up2 μ p_MO_manner ((μ p_MO 8)).toNatClampNeg x1) p_MO 8)).toNatClampNeg (((up2 μ p_MO_manner ((μ p_MO 8)).toNatClampNeg x1) p_MO 0) + x2)) p_MO 8 (((up2 (up2 μ p_MO_manner ((μ p_MO 8)).toNatClampNeg x1) p_MO_time (((up2 μ p_MO_manner ((μ p_MO 8)).toNatClampNeg x1) p_MO 8)).toNatClampNeg (((up2 μ p_MO_manner ((μ p_MO 8)).toNatClampNeg x1) p_MO 0) + x2)) p_MO 8) + (1 : Int32))) p_MO 8)) cx fl_X8_118 ob_MO rfl rfl dX8_place_212 ?_
    refine k_iconst (v := (0 : Int32)) cx dX8_place_215 (by decide +kernel) ?_
    obtain ⟨hi, h⟩ := h
    refine k_iast cx ar_MO_parts hi dX8_place_216 ?_
    refine k_aload_n cx dX8_place_217 rfl rfl ?_
    refine k_get (o := some p_MO_lines) (v := .ref p_MO_lines) cx fl_X8_29 ob_MO rfl rfl dX8_place_218 ?_
    refine k_aload_n cx dX8_place_221 rfl rfl ?_
    refine k_get (o := none) (v := .int ((up2 (up2 (up2 (up2 μ p_MO_manner ((μ p_MO 8)).toNatClampNeg x1) p_MO_time (((up2 μ p_MO_manner ((μ p_MO 8)).toNatClampNeg x1) p_MO 8)).toNatClampNeg (((up2 μ p_MO_manner ((μ p_MO 8)).toNatClampNeg x1) p_MO 0) + x2)) p_MO 8 (((up2 (up2 μ p_MO_manner ((μ p_MO 8)).toNatClampNeg x1) p_MO_time (((up2 μ p_MO_manner ((μ p_MO 8)).toNatClampNeg x1) p_MO 8)).toNatClampNeg (((up2 μ p_MO_manner ((μ p_MO 8)).toNatClampNeg x1) p_MO 0) + x2)) p_MO 8) + (1 : Int32))) p_MO_parts (((up2 (up2 (up2 μ p_MO_manner ((μ p_MO 8)).toNatClampNeg x1) p_MO_time (((up2 μ p_MO_manner ((μ p_MO 8)).toNatClampNeg x1) p_MO 8)).toNatClampNeg (((up2 μ p_MO_manner ((μ p_MO 8)).toNatClampNeg x1) p_MO 0) + x2)) p_MO 8 (((up2 (up2 μ p_MO_manner ((μ p_MO 8)).toNatClampNeg x1) p_MO_time (((up2 μ p_MO_manner ((μ p_MO 8)).toNatClampNeg x1) p_MO 8)).toNatClampNeg (((up2 μ p_MO_manner ((μ p_MO 8)).toNatClampNeg x1) p_MO 0) + x2)) p_MO 8) + (1 : Int32))) p_MO 8)).toNatClampNeg (0 : Int32)) p_MO 8)) cx fl_X8_118 ob_MO rfl rfl dX8_place_222 ?_
    refine k_iconst (v := (0 : Int32)) cx dX8_place_225 (by decide +kernel) ?_
    obtain ⟨hi, h⟩ := h
    refine k_iast cx ar_MO_lines hi dX8_place_226 ?_
    refine k_aload_n cx dX8_place_227 rfl rfl ?_
    refine k_get (o := none) (v := .int ((up2 (up2 (up2 (up2 (up2 μ p_MO_manner ((μ p_MO 8)).toNatClampNeg x1) p_MO_time (((up2 μ p_MO_manner ((μ p_MO 8)).toNatClampNeg x1) p_MO 8)).toNatClampNeg (((up2 μ p_MO_manner ((μ p_MO 8)).toNatClampNeg x1) p_MO 0) + x2)) p_MO 8 (((up2 (up2 μ p_MO_manner ((μ p_MO 8)).toNatClampNeg x1) p_MO_time (((up2 μ p_MO_manner ((μ p_MO 8)).toNatClampNeg x1) p_MO 8)).toNatClampNeg (((up2 μ p_MO_manner ((μ p_MO 8)).toNatClampNeg x1) p_MO 0) + x2)) p_MO 8) + (1 : Int32))) p_MO_parts (((up2 (up2 (up2 μ p_MO_manner ((μ p_MO 8)).toNatClampNeg x1) p_MO_time (((up2 μ p_MO_manner ((μ p_MO 8)).toNatClampNeg x1) p_MO 8)).toNatClampNeg (((up2 μ p_MO_manner ((μ p_MO 8)).toNatClampNeg x1) p_MO 0) + x2)) p_MO 8 (((up2 (up2 μ p_MO_manner ((μ p_MO 8)).toNatClampNeg x1) p_MO_time (((up2 μ p_MO_manner ((μ p_MO 8)).toNatClampNeg x1) p_MO 8)).toNatClampNeg (((up2 μ p_MO_manner ((μ p_MO 8)).toNatClampNeg x1) p_MO 0) + x2)) p_MO 8) + (1 : Int32))) p_MO 8)).toNatClampNeg (0 : Int32)) p_MO_lines (((up2 (up2 (up2 (up2 μ p_MO_manner ((μ p_MO 8)).toNatClampNeg x1) p_MO_time (((up2 μ p_MO_manner ((μ p_MO 8)).toNatClampNeg x1) p_MO 8)).toNatClampNeg (((up2 μ p_MO_manner ((μ p_MO 8)).toNatClampNeg x1) p_MO 0) + x2)) p_MO 8 (((up2 (up2 μ p_MO_manner ((μ p_MO 8)).toNatClampNeg x1) p_MO_time (((up2 μ p_MO_manner ((μ p_MO 8)).toNatClampNeg x1) p_MO 8)).toNatClampNeg (((up2 μ p_MO_manner ((μ p_MO 8)).toNatClampNeg x1) p_MO 0) + x2)) p_MO 8) + (1 : Int32))) p_MO_parts (((up2 (up2 (up2 μ p_MO_manner ((μ p_MO 8)).toNatClampNeg x1) p_MO_time (((up2 μ p_MO_manner ((μ p_MO 8)).toNatClampNeg x1) p_MO 8)).toNatClampNeg (((up2 μ p_MO_manner ((μ p_MO 8)).toNatClampNeg x1) p_MO 0) + x2)) p_MO 8 (((up2 (up2 μ p_MO_manner ((μ p_MO 8)).toNatClampNeg x1) p_MO_time (((up2 μ p_MO_manner ((μ p_MO 8)).toNatClampNeg x1) p_MO 8)).toNatClampNeg (((up2 μ p_MO_manner ((μ p_MO 8)).toNatClampNeg x1) p_MO 0) + x2)) p_MO 8) + (1 : Int32))) p_MO 8)).toNatClampNeg (0 : Int32)) p_MO 8)).toNatClampNeg (0 : Int32)) p_MO 8)) cx fl_X8_118 ob_MO rfl rfl dX8_place_228 ?_
    refine k_iconst (v := (1 : Int32)) cx dX8_place_231 (by decide +kernel) ?_
    refine k_isub cx dX8_place_232 ?_
    exact k_ret_I cx hr hl hQ dX8_place_233 h
  · replace h := h.2 hc
    refine k_iconst (v := (-1 : Int32)) cx dX8_place_170 (by decide +kernel) ?_
    exact k_ret_I cx hr hl hQ dX8_place_171 h
set_option maxHeartbeats 2000000 in
theorem b_X8_place_e  {g : GE} {f : FE} {q : Int32 → Mm → Prop} (cx : Cx g f cX8_place 6 RX8 5 124 0 0) (hr : (f_M f).sig.returnType = (some .int)) (hl : (f_M f).locks = false) (hQ : f_Q f = MQ (f_b f) (QW g (qI q)) (f_a f) (f_s f) 0 0 (fun q => g.2.2.2 ≤ q))  {x1 : Int32} {x2 : Int32} {μ : Mm} (h : F_X8_place_e  (KK_X8_place_24 g f ) (KK_X8_place_60 g f ) (KK_X8_place_96 g f ) (KK_X8_place_165 g f ) q x1 x2 μ) : KW g f 6 0 0 0 [some (.ref p_MO), some (.int x1), some (.int x2), none, none, none] [] μ := by
  unfold F_X8_place_e at h
  refine k_iload_n cx dX8_place_0 rfl rfl ?_
  refine k_iconst (v := (0 : Int32)) cx dX8_place_1 (by decide +kernel) ?_
  refine k_iconst (v := (2 : Int32)) cx dX8_place_2 (by decide +kernel) ?_
  refine k_callS (As := [.int x1, .int (0 : Int32), .int (2 : Int32)]) (rest := []) cx (m_X8_isIn h) cv_X8_111 rfl rfl (Nat.le_of_ble_eq_true rfl) ⟨Nat.le_of_ble_eq_true rfl, Nat.le_of_ble_eq_true rfl⟩ dX8_place_3 (fun v μ1 hq => ?_)
  obtain ⟨b2, rfl, h⟩ := hq
  refine k_if_eq (tgt := 23) cx dX8_place_6 (by decide) (fun hc => ?_) (fun hc => ?_)
  · replace h := h.1 hc
    refine k_iconst (v := (0 : Int32)) cx dX8_place_23 (by decide +kernel) ?_
    exact k_weak h (lsLe.keep (lsLe.keep (lsLe.keep (lsLe.keep (lsLe.keep (lsLe.keep lsLe.nil))))))
  · replace h := h.2 hc
    refine k_iload_n cx dX8_place_9 rfl rfl ?_
    refine k_iconst (v := (1 : Int32)) cx dX8_place_10 (by decide +kernel) ?_
    refine k_bipush (v := (100 : Int32)) cx dX8_place_11 (by decide +kernel) ?_
    refine k_callS (As := [.int x2, .int (1 : Int32), .int (100 : Int32)]) (rest := []) cx (m_X8_isIn h) cv_X8_111 rfl rfl (Nat.le_of_ble_eq_true rfl) ⟨Nat.le_of_ble_eq_true rfl, Nat.le_of_ble_eq_true rfl⟩ dX8_place_13 (fun v μ3 hq => ?_)
    obtain ⟨b4, rfl, h⟩ := hq
    refine k_if_eq (tgt := 23) cx dX8_place_16 (by decide) (fun hc => ?_) (fun hc => ?_)
    · replace h := h.1 hc
      refine k_iconst (v := (0 : Int32)) cx dX8_place_23 (by decide +kernel) ?_
      exact k_weak h (lsLe.keep (lsLe.keep (lsLe.keep (lsLe.keep (lsLe.keep (lsLe.keep lsLe.nil))))))
    · replace h := h.2 hc
      refine k_iconst (v := (1 : Int32)) cx dX8_place_19 (by decide +kernel) ?_
      refine k_goto (tgt := 24) cx dX8_place_20 (by decide) ?_
      exact k_weak h (lsLe.keep (lsLe.keep (lsLe.keep (lsLe.keep (lsLe.keep (lsLe.keep lsLe.nil))))))
theorem m_X8_place {g : GE} {l : Launch} {μ : Mm} {q : Int32 → Mm → Prop} {x1 : Int32} {x2 : Int32}  (h : Wp_X8_place  x1 x2 μ q) : MW g l yX8_place cX8_place 6 (some .int) 5 124 [.ref p_MO, .int x1, .int x2] μ (qI q) := by
  refine met_of (by decide) (Nat.le_of_ble_eq_true rfl) (by intro v hv; simp only [List.mem_cons, List.not_mem_nil, or_false] at hv; rcases hv with rfl | rfl | rfl <;> rfl) ?_
  intro f hfl cx hr hl hQ
  exact b_X8_place_e  cx hr hl hQ (h (KK_X8_place_24 g f ) (KK_X8_place_60 g f ) (KK_X8_place_96 g f ) (KK_X8_place_165 g f ) (fun _ _ _ _ h => b_X8_place_24  cx hr hl hQ h) (fun _ _ _ _ h => b_X8_place_60  cx hr hl hQ h) (fun _ _ _ _ _ h => b_X8_place_96  cx hr hl hQ h) (fun _ _ _ _ h => b_X8_place_165  cx hr hl hQ h))
theorem dX8_thrown_0 : decode cX8_thrown 0 = .ok (.aload_n 0, 1) := by decide +kernel
theorem dX8_thrown_1 : decode cX8_thrown 1 = .ok (.getfield 104, 3) := by decide +kernel
theorem dX8_thrown_4 : decode cX8_thrown 4 = .ok (.ireturn, 1) := by decide +kernel
def F_X8_thrown_e   (q : Int32 → Mm → Prop)  (μ : Mm) : Prop :=
  q (μ p_MO 35) μ
def Wp_X8_thrown   (μ : Mm) (q : Int32 → Mm → Prop) : Prop := F_X8_thrown_e   q  μ
set_option maxHeartbeats 2000000 in
theorem b_X8_thrown_e  {g : GE} {f : FE} {q : Int32 → Mm → Prop} (cx : Cx g f cX8_thrown 1 RX8 0 0 0 0) (hr : (f_M f).sig.returnType = (some .int)) (hl : (f_M f).locks = false) (hQ : f_Q f = MQ (f_b f) (QW g (qI q)) (f_a f) (f_s f) 0 0 (fun q => g.2.2.2 ≤ q))   {μ : Mm} (h : F_X8_thrown_e   q  μ) : KW g f 1 0 0 0 [some (.ref p_MO)] [] μ := by
  unfold F_X8_thrown_e at h
  refine k_aload_n cx dX8_thrown_0 rfl rfl ?_
  refine k_get (o := none) (v := .int (μ p_MO 35)) cx fl_X8_104 ob_MO rfl rfl dX8_thrown_1 ?_
  exact k_ret_I cx hr hl hQ dX8_thrown_4 h
theorem m_X8_thrown {g : GE} {l : Launch} {μ : Mm} {q : Int32 → Mm → Prop}  (h : Wp_X8_thrown   μ q) : MW g l yX8_thrown cX8_thrown 1 (some .int) 0 0 [.ref p_MO] μ (qI q) := by
  refine met_of (by decide) (Nat.le_of_ble_eq_true rfl) (by intro v hv; simp only [List.mem_cons, List.not_mem_nil, or_false] at hv; subst hv; rfl) ?_
  intro f hfl cx hr hl hQ
  exact b_X8_thrown_e  cx hr hl hQ (h  )
theorem dX8_told_0 : decode cX8_told 0 = .ok (.aload_n 0, 1) := by decide +kernel
theorem dX8_told_1 : decode cX8_told 1 = .ok (.aload_n 0, 1) := by decide +kernel
theorem dX8_told_2 : decode cX8_told 2 = .ok (.iload_n 1, 1) := by decide +kernel
theorem dX8_told_3 : decode cX8_told 3 = .ok (.invokevirtual 226, 3) := by decide +kernel
theorem dX8_told_6 : decode cX8_told 6 = .ok (.ifCond .ne 7, 3) := by decide +kernel
theorem dX8_told_9 : decode cX8_told 9 = .ok (.iconst 1, 1) := by decide +kernel
theorem dX8_told_10 : decode cX8_told 10 = .ok (.goto 18, 3) := by decide +kernel
theorem dX8_told_13 : decode cX8_told 13 = .ok (.iload_n 2, 1) := by decide +kernel
theorem dX8_told_14 : decode cX8_told 14 = .ok (.iconst 0, 1) := by decide +kernel
theorem dX8_told_15 : decode cX8_told 15 = .ok (.bipush 7, 2) := by decide +kernel
theorem dX8_told_17 : decode cX8_told 17 = .ok (.invokestatic 111, 3) := by decide +kernel
theorem dX8_told_20 : decode cX8_told 20 = .ok (.ifCond .eq 7, 3) := by decide +kernel
theorem dX8_told_23 : decode cX8_told 23 = .ok (.iconst 0, 1) := by decide +kernel
theorem dX8_told_24 : decode cX8_told 24 = .ok (.goto 4, 3) := by decide +kernel
theorem dX8_told_27 : decode cX8_told 27 = .ok (.iconst 2, 1) := by decide +kernel
theorem dX8_told_28 : decode cX8_told 28 = .ok (.invokevirtual 121, 3) := by decide +kernel
theorem dX8_told_31 : decode cX8_told 31 = .ok (.ifCond .ne 5, 3) := by decide +kernel
theorem dX8_told_34 : decode cX8_told 34 = .ok (.iconst 0, 1) := by decide +kernel
theorem dX8_told_35 : decode cX8_told 35 = .ok (.ireturn, 1) := by decide +kernel
theorem dX8_told_36 : decode cX8_told 36 = .ok (.iload_n 2, 1) := by decide +kernel
theorem dX8_told_37 : decode cX8_told 37 = .ok (.tableswitch 100 0 6 #[43, 58, 65, 72, 79, 86, 93], 43) := by decide +kernel
theorem dX8_told_80 : decode cX8_told 80 = .ok (.aload_n 0, 1) := by decide +kernel
theorem dX8_told_81 : decode cX8_told 81 = .ok (.getfield 62, 3) := by decide +kernel
theorem dX8_told_84 : decode cX8_told 84 = .ok (.iload_n 1, 1) := by decide +kernel
theorem dX8_told_85 : decode cX8_told 85 = .ok (.baload, 1) := by decide +kernel
theorem dX8_told_86 : decode cX8_told 86 = .ok (.ifCond .eq 7, 3) := by decide +kernel
theorem dX8_told_89 : decode cX8_told 89 = .ok (.iconst 1, 1) := by decide +kernel
theorem dX8_told_90 : decode cX8_told 90 = .ok (.goto 4, 3) := by decide +kernel
theorem dX8_told_93 : decode cX8_told 93 = .ok (.iconst 0, 1) := by decide +kernel
theorem dX8_told_94 : decode cX8_told 94 = .ok (.ireturn, 1) := by decide +kernel
theorem dX8_told_95 : decode cX8_told 95 = .ok (.aload_n 0, 1) := by decide +kernel
theorem dX8_told_96 : decode cX8_told 96 = .ok (.getfield 65, 3) := by decide +kernel
theorem dX8_told_99 : decode cX8_told 99 = .ok (.iload_n 1, 1) := by decide +kernel
theorem dX8_told_100 : decode cX8_told 100 = .ok (.iaload, 1) := by decide +kernel
theorem dX8_told_101 : decode cX8_told 101 = .ok (.ireturn, 1) := by decide +kernel
theorem dX8_told_102 : decode cX8_told 102 = .ok (.aload_n 0, 1) := by decide +kernel
theorem dX8_told_103 : decode cX8_told 103 = .ok (.getfield 68, 3) := by decide +kernel
theorem dX8_told_106 : decode cX8_told 106 = .ok (.iload_n 1, 1) := by decide +kernel
theorem dX8_told_107 : decode cX8_told 107 = .ok (.iaload, 1) := by decide +kernel
theorem dX8_told_108 : decode cX8_told 108 = .ok (.ireturn, 1) := by decide +kernel
theorem dX8_told_109 : decode cX8_told 109 = .ok (.aload_n 0, 1) := by decide +kernel
theorem dX8_told_110 : decode cX8_told 110 = .ok (.getfield 26, 3) := by decide +kernel
theorem dX8_told_113 : decode cX8_told 113 = .ok (.iload_n 1, 1) := by decide +kernel
theorem dX8_told_114 : decode cX8_told 114 = .ok (.iaload, 1) := by decide +kernel
theorem dX8_told_115 : decode cX8_told 115 = .ok (.ireturn, 1) := by decide +kernel
theorem dX8_told_116 : decode cX8_told 116 = .ok (.aload_n 0, 1) := by decide +kernel
theorem dX8_told_117 : decode cX8_told 117 = .ok (.getfield 29, 3) := by decide +kernel
theorem dX8_told_120 : decode cX8_told 120 = .ok (.iload_n 1, 1) := by decide +kernel
theorem dX8_told_121 : decode cX8_told 121 = .ok (.iaload, 1) := by decide +kernel
theorem dX8_told_122 : decode cX8_told 122 = .ok (.ireturn, 1) := by decide +kernel
theorem dX8_told_123 : decode cX8_told 123 = .ok (.aload_n 0, 1) := by decide +kernel
theorem dX8_told_124 : decode cX8_told 124 = .ok (.iload_n 1, 1) := by decide +kernel
theorem dX8_told_125 : decode cX8_told 125 = .ok (.iconst 2, 1) := by decide +kernel
theorem dX8_told_126 : decode cX8_told 126 = .ok (.invokevirtual 256, 3) := by decide +kernel
theorem dX8_told_129 : decode cX8_told 129 = .ok (.ireturn, 1) := by decide +kernel
theorem dX8_told_130 : decode cX8_told 130 = .ok (.aload_n 0, 1) := by decide +kernel
theorem dX8_told_131 : decode cX8_told 131 = .ok (.iload_n 1, 1) := by decide +kernel
theorem dX8_told_132 : decode cX8_told 132 = .ok (.iconst 1, 1) := by decide +kernel
theorem dX8_told_133 : decode cX8_told 133 = .ok (.invokevirtual 256, 3) := by decide +kernel
theorem dX8_told_136 : decode cX8_told 136 = .ok (.ireturn, 1) := by decide +kernel
theorem dX8_told_137 : decode cX8_told 137 = .ok (.aload_n 0, 1) := by decide +kernel
theorem dX8_told_138 : decode cX8_told 138 = .ok (.iload_n 1, 1) := by decide +kernel
theorem dX8_told_139 : decode cX8_told 139 = .ok (.invokevirtual 259, 3) := by decide +kernel
theorem dX8_told_142 : decode cX8_told 142 = .ok (.ireturn, 1) := by decide +kernel
def F_X8_told_28  (K28 : Int32 → Int32 → Int32 → Mm → Prop) (q : Int32 → Mm → Prop) (x1 : Int32) (x2 : Int32) (y0 : Int32) (μ : Mm) : Prop :=
  Wp_X8_can y0 μ (fun b2 μ1 => ((¬ ((bI b2) = 0) → (((x2 = 0 → vp_in x1 13 ∧ (((μ1 p_MO_hasEnded (x1).toNatClampNeg) = 0 → q (0 : Int32) μ1) ∧ (¬ ((μ1 p_MO_hasEnded (x1).toNatClampNeg) = 0) → q (1 : Int32) μ1))) ∧ (x2 = 1 → vp_in x1 13 ∧ q (μ1 p_MO_manner (x1).toNatClampNeg) μ1) ∧ (x2 = 2 → vp_in x1 13 ∧ q (μ1 p_MO_time (x1).toNatClampNeg) μ1) ∧ (x2 = 3 → vp_in x1 13 ∧ q (μ1 p_MO_parts (x1).toNatClampNeg) μ1) ∧ (x2 = 4 → vp_in x1 13 ∧ q (μ1 p_MO_lines (x1).toNatClampNeg) μ1) ∧ (x2 = 5 → Wp_X8_running x1 (2 : Int32) μ1 (fun z6 μ5 => q z6 μ5)) ∧ (x2 = 6 → Wp_X8_running x1 (1 : Int32) μ1 (fun z8 μ7 => q z8 μ7))) ∧ ((x2).toInt < 0 ∨ 6 < (x2).toInt → Wp_X8_costOf x1 μ1 (fun z4 μ3 => q z4 μ3)))) ∧ ((bI b2) = 0 → q (0 : Int32) μ1)))
def F_X8_told_e  (K28 : Int32 → Int32 → Int32 → Mm → Prop) (q : Int32 → Mm → Prop) (x1 : Int32) (x2 : Int32) (μ : Mm) : Prop :=
  Wp_X8_isRequest x1 μ (fun b2 μ1 => ((¬ ((bI b2) = 0) → Wp_X8_isIn x2 (0 : Int32) (7 : Int32) μ1 (fun b4 μ3 => (((bI b4) = 0 → K28 x1 x2 (2 : Int32) μ3) ∧ (¬ ((bI b4) = 0) → K28 x1 x2 (0 : Int32) μ3)))) ∧ ((bI b2) = 0 → K28 x1 x2 (1 : Int32) μ1)))
def Wp_X8_told  (x1 : Int32) (x2 : Int32) (μ : Mm) (q : Int32 → Mm → Prop) : Prop := ∀ (K28 : Int32 → Int32 → Int32 → Mm → Prop), (∀ (x1 : Int32) (x2 : Int32) (y0 : Int32) (μ : Mm), F_X8_told_28  K28 q x1 x2 y0 μ → K28 x1 x2 y0 μ) → F_X8_told_e  K28 q x1 x2 μ
abbrev KK_X8_told_28 (g : GE) (f : FE)  : Int32 → Int32 → Int32 → Mm → Prop := fun x1 x2 y0 μ => KW g f 3 0 0 28 [some (.ref p_MO), some (.int x1), some (.int x2)] [.int y0, .ref p_MO] μ
set_option maxHeartbeats 2000000 in
theorem b_X8_told_28  {g : GE} {f : FE} {q : Int32 → Mm → Prop} (cx : Cx g f cX8_told 3 RX8 4 89 0 0) (hr : (f_M f).sig.returnType = (some .int)) (hl : (f_M f).locks = false) (hQ : f_Q f = MQ (f_b f) (QW g (qI q)) (f_a f) (f_s f) 0 0 (fun q => g.2.2.2 ≤ q))  {x1 : Int32} {x2 : Int32} {y0 : Int32} {μ : Mm} (h : F_X8_told_28  (KK_X8_told_28 g f ) q x1 x2 y0 μ) : KK_X8_told_28 g f  x1 x2 y0 μ := by
  unfold F_X8_told_28 at h
  show KW g f 3 0 0 28 [some (.ref p_MO), some (.int x1), some (.int x2)] [.int y0, .ref p_MO] μ
  refine k_callV (As := [.int y0]) (rest := []) cx (m_X8_can h) cv_X8_121 ob_MO rfl rfl rfl rfl (Nat.le_of_ble_eq_true rfl) ⟨Nat.le_of_ble_eq_true rfl, Nat.le_of_ble_eq_true rfl⟩ dX8_told_28 (fun v μ1 hq => ?_)
  obtain ⟨b2, rfl, h⟩ := hq
  refine k_if_ne (tgt := 36) cx dX8_told_31 (by decide) (fun hc => ?_) (fun hc => ?_)
  · replace h := h.1 hc
    refine k_iload_n cx dX8_told_36 rfl rfl ?_
    by_cases hx : (x2).toInt < 0 ∨ 6 < (x2).toInt
    · replace h := h.2 hx
      refine k_tableOut (tgt := 137) cx dX8_told_37 hx (by decide) ?_
      refine k_aload_n cx dX8_told_137 rfl rfl ?_
      refine k_iload_n cx dX8_told_138 rfl rfl ?_
      refine k_callV (As := [.int x1]) (rest := []) cx (m_X8_costOf h) cv_X8_259 ob_MO rfl rfl rfl rfl (Nat.le_of_ble_eq_true rfl) ⟨Nat.le_of_ble_eq_true rfl, Nat.le_of_ble_eq_true rfl⟩ dX8_told_139 (fun v μ3 hq => ?_)
      obtain ⟨z4, rfl, h⟩ := hq
      exact k_ret_I cx hr hl hQ dX8_told_142 h
    · replace h := h.1
      rcases sw_6 hx with hx | hx | hx | hx | hx | hx | hx
      · replace h := h.1 hx
        refine k_tableIn (off := 43) (tgt := 80) cx dX8_told_37 (by rw [hx]; decide) (by rw [hx]; decide) (by rw [hx]; decide) (by decide) ?_
        refine k_aload_n cx dX8_told_80 rfl rfl ?_
        refine k_get (o := some p_MO_hasEnded) (v := .ref p_MO_hasEnded) cx fl_X8_62 ob_MO rfl rfl dX8_told_81 ?_
        refine k_iload_n cx dX8_told_84 rfl rfl ?_
        obtain ⟨hi, h⟩ := h
        refine k_zald cx ar_MO_hasEnded hi dX8_told_85 ?_
        refine k_if_eq (tgt := 93) cx dX8_told_86 (by decide) (fun hc => ?_) (fun hc => ?_)
        · replace h := h.1 hc
          refine k_iconst (v := (0 : Int32)) cx dX8_told_93 (by decide +kernel) ?_
          exact k_ret_I cx hr hl hQ dX8_told_94 h
        · replace h := h.2 hc
          refine k_iconst (v := (1 : Int32)) cx dX8_told_89 (by decide +kernel) ?_
          refine k_goto (tgt := 94) cx dX8_told_90 (by decide) ?_
          exact k_ret_I cx hr hl hQ dX8_told_94 h
      · replace h := h.2.1 hx
        refine k_tableIn (off := 58) (tgt := 95) cx dX8_told_37 (by rw [hx]; decide) (by rw [hx]; decide) (by rw [hx]; decide) (by decide) ?_
        refine k_aload_n cx dX8_told_95 rfl rfl ?_
        refine k_get (o := some p_MO_manner) (v := .ref p_MO_manner) cx fl_X8_65 ob_MO rfl rfl dX8_told_96 ?_
        refine k_iload_n cx dX8_told_99 rfl rfl ?_
        obtain ⟨hi, h⟩ := h
        refine k_iald cx ar_MO_manner hi dX8_told_100 ?_
        exact k_ret_I cx hr hl hQ dX8_told_101 h
      · replace h := h.2.2.1 hx
        refine k_tableIn (off := 65) (tgt := 102) cx dX8_told_37 (by rw [hx]; decide) (by rw [hx]; decide) (by rw [hx]; decide) (by decide) ?_
        refine k_aload_n cx dX8_told_102 rfl rfl ?_
        refine k_get (o := some p_MO_time) (v := .ref p_MO_time) cx fl_X8_68 ob_MO rfl rfl dX8_told_103 ?_
        refine k_iload_n cx dX8_told_106 rfl rfl ?_
        obtain ⟨hi, h⟩ := h
        refine k_iald cx ar_MO_time hi dX8_told_107 ?_
        exact k_ret_I cx hr hl hQ dX8_told_108 h
      · replace h := h.2.2.2.1 hx
        refine k_tableIn (off := 72) (tgt := 109) cx dX8_told_37 (by rw [hx]; decide) (by rw [hx]; decide) (by rw [hx]; decide) (by decide) ?_
        refine k_aload_n cx dX8_told_109 rfl rfl ?_
        refine k_get (o := some p_MO_parts) (v := .ref p_MO_parts) cx fl_X8_26 ob_MO rfl rfl dX8_told_110 ?_
        refine k_iload_n cx dX8_told_113 rfl rfl ?_
        obtain ⟨hi, h⟩ := h
        refine k_iald cx ar_MO_parts hi dX8_told_114 ?_
        exact k_ret_I cx hr hl hQ dX8_told_115 h
      · replace h := h.2.2.2.2.1 hx
        refine k_tableIn (off := 79) (tgt := 116) cx dX8_told_37 (by rw [hx]; decide) (by rw [hx]; decide) (by rw [hx]; decide) (by decide) ?_
        refine k_aload_n cx dX8_told_116 rfl rfl ?_
        refine k_get (o := some p_MO_lines) (v := .ref p_MO_lines) cx fl_X8_29 ob_MO rfl rfl dX8_told_117 ?_
        refine k_iload_n cx dX8_told_120 rfl rfl ?_
        obtain ⟨hi, h⟩ := h
        refine k_iald cx ar_MO_lines hi dX8_told_121 ?_
        exact k_ret_I cx hr hl hQ dX8_told_122 h
      · replace h := h.2.2.2.2.2.1 hx
        refine k_tableIn (off := 86) (tgt := 123) cx dX8_told_37 (by rw [hx]; decide) (by rw [hx]; decide) (by rw [hx]; decide) (by decide) ?_
        refine k_aload_n cx dX8_told_123 rfl rfl ?_
        refine k_iload_n cx dX8_told_124 rfl rfl ?_
        refine k_iconst (v := (2 : Int32)) cx dX8_told_125 (by decide +kernel) ?_
        refine k_callV (As := [.int x1, .int (2 : Int32)]) (rest := []) cx (m_X8_running h) cv_X8_256 ob_MO rfl rfl rfl rfl (Nat.le_of_ble_eq_true rfl) ⟨Nat.le_of_ble_eq_true rfl, Nat.le_of_ble_eq_true rfl⟩ dX8_told_126 (fun v μ5 hq => ?_)
        obtain ⟨z6, rfl, h⟩ := hq
        exact k_ret_I cx hr hl hQ dX8_told_129 h
      · replace h := h.2.2.2.2.2.2 hx
        refine k_tableIn (off := 93) (tgt := 130) cx dX8_told_37 (by rw [hx]; decide) (by rw [hx]; decide) (by rw [hx]; decide) (by decide) ?_
        refine k_aload_n cx dX8_told_130 rfl rfl ?_
        refine k_iload_n cx dX8_told_131 rfl rfl ?_
        refine k_iconst (v := (1 : Int32)) cx dX8_told_132 (by decide +kernel) ?_
        refine k_callV (As := [.int x1, .int (1 : Int32)]) (rest := []) cx (m_X8_running h) cv_X8_256 ob_MO rfl rfl rfl rfl (Nat.le_of_ble_eq_true rfl) ⟨Nat.le_of_ble_eq_true rfl, Nat.le_of_ble_eq_true rfl⟩ dX8_told_133 (fun v μ7 hq => ?_)
        obtain ⟨z8, rfl, h⟩ := hq
        exact k_ret_I cx hr hl hQ dX8_told_136 h
  · replace h := h.2 hc
    refine k_iconst (v := (0 : Int32)) cx dX8_told_34 (by decide +kernel) ?_
    exact k_ret_I cx hr hl hQ dX8_told_35 h
set_option maxHeartbeats 2000000 in
theorem b_X8_told_e  {g : GE} {f : FE} {q : Int32 → Mm → Prop} (cx : Cx g f cX8_told 3 RX8 4 89 0 0) (hr : (f_M f).sig.returnType = (some .int)) (hl : (f_M f).locks = false) (hQ : f_Q f = MQ (f_b f) (QW g (qI q)) (f_a f) (f_s f) 0 0 (fun q => g.2.2.2 ≤ q))  {x1 : Int32} {x2 : Int32} {μ : Mm} (h : F_X8_told_e  (KK_X8_told_28 g f ) q x1 x2 μ) : KW g f 3 0 0 0 [some (.ref p_MO), some (.int x1), some (.int x2)] [] μ := by
  unfold F_X8_told_e at h
  refine k_aload_n cx dX8_told_0 rfl rfl ?_
  refine k_aload_n cx dX8_told_1 rfl rfl ?_
  refine k_iload_n cx dX8_told_2 rfl rfl ?_
  refine k_callV (As := [.int x1]) (rest := [.ref p_MO]) cx (m_X8_isRequest h) cv_X8_226 ob_MO rfl rfl rfl rfl (Nat.le_of_ble_eq_true rfl) ⟨Nat.le_of_ble_eq_true rfl, Nat.le_of_ble_eq_true rfl⟩ dX8_told_3 (fun v μ1 hq => ?_)
  obtain ⟨b2, rfl, h⟩ := hq
  refine k_if_ne (tgt := 13) cx dX8_told_6 (by decide) (fun hc => ?_) (fun hc => ?_)
  · replace h := h.1 hc
    refine k_iload_n cx dX8_told_13 rfl rfl ?_
    refine k_iconst (v := (0 : Int32)) cx dX8_told_14 (by decide +kernel) ?_
    refine k_bipush (v := (7 : Int32)) cx dX8_told_15 (by decide +kernel) ?_
    refine k_callS (As := [.int x2, .int (0 : Int32), .int (7 : Int32)]) (rest := [.ref p_MO]) cx (m_X8_isIn h) cv_X8_111 rfl rfl (Nat.le_of_ble_eq_true rfl) ⟨Nat.le_of_ble_eq_true rfl, Nat.le_of_ble_eq_true rfl⟩ dX8_told_17 (fun v μ3 hq => ?_)
    obtain ⟨b4, rfl, h⟩ := hq
    refine k_if_eq (tgt := 27) cx dX8_told_20 (by decide) (fun hc => ?_) (fun hc => ?_)
    · replace h := h.1 hc
      refine k_iconst (v := (2 : Int32)) cx dX8_told_27 (by decide +kernel) ?_
      exact k_weak h (lsLe.keep (lsLe.keep (lsLe.keep lsLe.nil)))
    · replace h := h.2 hc
      refine k_iconst (v := (0 : Int32)) cx dX8_told_23 (by decide +kernel) ?_
      refine k_goto (tgt := 28) cx dX8_told_24 (by decide) ?_
      exact k_weak h (lsLe.keep (lsLe.keep (lsLe.keep lsLe.nil)))
  · replace h := h.2 hc
    refine k_iconst (v := (1 : Int32)) cx dX8_told_9 (by decide +kernel) ?_
    refine k_goto (tgt := 28) cx dX8_told_10 (by decide) ?_
    exact k_weak h (lsLe.keep (lsLe.keep (lsLe.keep lsLe.nil)))
theorem m_X8_told {g : GE} {l : Launch} {μ : Mm} {q : Int32 → Mm → Prop} {x1 : Int32} {x2 : Int32}  (h : Wp_X8_told  x1 x2 μ q) : MW g l yX8_told cX8_told 3 (some .int) 4 89 [.ref p_MO, .int x1, .int x2] μ (qI q) := by
  refine met_of (by decide) (Nat.le_of_ble_eq_true rfl) (by intro v hv; simp only [List.mem_cons, List.not_mem_nil, or_false] at hv; rcases hv with rfl | rfl | rfl <;> rfl) ?_
  intro f hfl cx hr hl hQ
  exact b_X8_told_e  cx hr hl hQ (h (KK_X8_told_28 g f ) (fun _ _ _ _ h => b_X8_told_28  cx hr hl hQ h))
theorem dX8_way_0 : decode cX8_way 0 = .ok (.aload_n 0, 1) := by decide +kernel
theorem dX8_way_1 : decode cX8_way 1 = .ok (.iload_n 1, 1) := by decide +kernel
theorem dX8_way_2 : decode cX8_way 2 = .ok (.invokevirtual 226, 3) := by decide +kernel
theorem dX8_way_5 : decode cX8_way 5 = .ok (.ifCond .eq 23, 3) := by decide +kernel
theorem dX8_way_8 : decode cX8_way 8 = .ok (.iload_n 2, 1) := by decide +kernel
theorem dX8_way_9 : decode cX8_way 9 = .ok (.iconst 0, 1) := by decide +kernel
theorem dX8_way_10 : decode cX8_way 10 = .ok (.aload_n 0, 1) := by decide +kernel
theorem dX8_way_11 : decode cX8_way 11 = .ok (.getfield 29, 3) := by decide +kernel
theorem dX8_way_14 : decode cX8_way 14 = .ok (.iload_n 1, 1) := by decide +kernel
theorem dX8_way_15 : decode cX8_way 15 = .ok (.iaload, 1) := by decide +kernel
theorem dX8_way_16 : decode cX8_way 16 = .ok (.iconst 1, 1) := by decide +kernel
theorem dX8_way_17 : decode cX8_way 17 = .ok (.isub, 1) := by decide +kernel
theorem dX8_way_18 : decode cX8_way 18 = .ok (.invokestatic 111, 3) := by decide +kernel
theorem dX8_way_21 : decode cX8_way 21 = .ok (.ifCond .eq 7, 3) := by decide +kernel
theorem dX8_way_24 : decode cX8_way 24 = .ok (.iconst 1, 1) := by decide +kernel
theorem dX8_way_25 : decode cX8_way 25 = .ok (.goto 4, 3) := by decide +kernel
theorem dX8_way_28 : decode cX8_way 28 = .ok (.iconst 0, 1) := by decide +kernel
theorem dX8_way_29 : decode cX8_way 29 = .ok (.istore 4, 2) := by decide +kernel
theorem dX8_way_31 : decode cX8_way 31 = .ok (.aload_n 0, 1) := by decide +kernel
theorem dX8_way_32 : decode cX8_way 32 = .ok (.iload 4, 2) := by decide +kernel
theorem dX8_way_34 : decode cX8_way 34 = .ok (.ifCond .ne 7, 3) := by decide +kernel
theorem dX8_way_37 : decode cX8_way 37 = .ok (.iconst 1, 1) := by decide +kernel
theorem dX8_way_38 : decode cX8_way 38 = .ok (.goto 17, 3) := by decide +kernel
theorem dX8_way_41 : decode cX8_way 41 = .ok (.iload_n 3, 1) := by decide +kernel
theorem dX8_way_42 : decode cX8_way 42 = .ok (.iconst 0, 1) := by decide +kernel
theorem dX8_way_43 : decode cX8_way 43 = .ok (.iconst 2, 1) := by decide +kernel
theorem dX8_way_44 : decode cX8_way 44 = .ok (.invokestatic 111, 3) := by decide +kernel
theorem dX8_way_47 : decode cX8_way 47 = .ok (.ifCond .eq 7, 3) := by decide +kernel
theorem dX8_way_50 : decode cX8_way 50 = .ok (.iconst 0, 1) := by decide +kernel
theorem dX8_way_51 : decode cX8_way 51 = .ok (.goto 4, 3) := by decide +kernel
theorem dX8_way_54 : decode cX8_way 54 = .ok (.iconst 2, 1) := by decide +kernel
theorem dX8_way_55 : decode cX8_way 55 = .ok (.invokevirtual 121, 3) := by decide +kernel
theorem dX8_way_58 : decode cX8_way 58 = .ok (.ifCond .ne 5, 3) := by decide +kernel
theorem dX8_way_61 : decode cX8_way 61 = .ok (.iconst 0, 1) := by decide +kernel
theorem dX8_way_62 : decode cX8_way 62 = .ok (.ireturn, 1) := by decide +kernel
theorem dX8_way_63 : decode cX8_way 63 = .ok (.iconst 3, 1) := by decide +kernel
theorem dX8_way_64 : decode cX8_way 64 = .ok (.iload_n 1, 1) := by decide +kernel
theorem dX8_way_65 : decode cX8_way 65 = .ok (.imul, 1) := by decide +kernel
theorem dX8_way_66 : decode cX8_way 66 = .ok (.iload_n 2, 1) := by decide +kernel
theorem dX8_way_67 : decode cX8_way 67 = .ok (.iadd, 1) := by decide +kernel
theorem dX8_way_68 : decode cX8_way 68 = .ok (.istore 5, 2) := by decide +kernel
theorem dX8_way_70 : decode cX8_way 70 = .ok (.iload_n 3, 1) := by decide +kernel
theorem dX8_way_71 : decode cX8_way 71 = .ok (.ifCond .ne 13, 3) := by decide +kernel
theorem dX8_way_74 : decode cX8_way 74 = .ok (.aload_n 0, 1) := by decide +kernel
theorem dX8_way_75 : decode cX8_way 75 = .ok (.getfield 53, 3) := by decide +kernel
theorem dX8_way_78 : decode cX8_way 78 = .ok (.iload 5, 2) := by decide +kernel
theorem dX8_way_80 : decode cX8_way 80 = .ok (.iaload, 1) := by decide +kernel
theorem dX8_way_81 : decode cX8_way 81 = .ok (.goto 25, 3) := by decide +kernel
theorem dX8_way_84 : decode cX8_way 84 = .ok (.iload_n 3, 1) := by decide +kernel
theorem dX8_way_85 : decode cX8_way 85 = .ok (.iconst 1, 1) := by decide +kernel
theorem dX8_way_86 : decode cX8_way 86 = .ok (.if_icmp .ne 13, 3) := by decide +kernel
theorem dX8_way_89 : decode cX8_way 89 = .ok (.aload_n 0, 1) := by decide +kernel
theorem dX8_way_90 : decode cX8_way 90 = .ok (.getfield 56, 3) := by decide +kernel
theorem dX8_way_93 : decode cX8_way 93 = .ok (.iload 5, 2) := by decide +kernel
theorem dX8_way_95 : decode cX8_way 95 = .ok (.iaload, 1) := by decide +kernel
theorem dX8_way_96 : decode cX8_way 96 = .ok (.goto 10, 3) := by decide +kernel
theorem dX8_way_99 : decode cX8_way 99 = .ok (.aload_n 0, 1) := by decide +kernel
theorem dX8_way_100 : decode cX8_way 100 = .ok (.getfield 59, 3) := by decide +kernel
theorem dX8_way_103 : decode cX8_way 103 = .ok (.iload 5, 2) := by decide +kernel
theorem dX8_way_105 : decode cX8_way 105 = .ok (.iaload, 1) := by decide +kernel
theorem dX8_way_106 : decode cX8_way 106 = .ok (.ireturn, 1) := by decide +kernel
def F_X8_way_29  (K29 : Int32 → Int32 → Int32 → Int32 → Mm → Prop) (K55 : Int32 → Int32 → Int32 → Int32 → Mm → Prop) (q : Int32 → Mm → Prop) (x1 : Int32) (x2 : Int32) (x3 : Int32) (y0 : Int32) (μ : Mm) : Prop :=
  ((¬ (y0 = 0) → Wp_X8_isIn x3 (0 : Int32) (2 : Int32) μ (fun b2 μ1 => (((bI b2) = 0 → K55 x1 x2 x3 (2 : Int32) μ1) ∧ (¬ ((bI b2) = 0) → K55 x1 x2 x3 (0 : Int32) μ1)))) ∧ (y0 = 0 → K55 x1 x2 x3 (1 : Int32) μ))
def F_X8_way_55  (K29 : Int32 → Int32 → Int32 → Int32 → Mm → Prop) (K55 : Int32 → Int32 → Int32 → Int32 → Mm → Prop) (q : Int32 → Mm → Prop) (x1 : Int32) (x2 : Int32) (x3 : Int32) (y0 : Int32) (μ : Mm) : Prop :=
  Wp_X8_can y0 μ (fun b2 μ1 => ((¬ ((bI b2) = 0) → ((¬ (x3 = 0) → ((¬ (x3 = (1 : Int32)) → vp_in (((3 : Int32) * x1) + x2) 39 ∧ q (μ1 p_MO_second ((((3 : Int32) * x1) + x2)).toNatClampNeg) μ1) ∧ (x3 = (1 : Int32) → vp_in (((3 : Int32) * x1) + x2) 39 ∧ q (μ1 p_MO_rest ((((3 : Int32) * x1) + x2)).toNatClampNeg) μ1))) ∧ (x3 = 0 → vp_in (((3 : Int32) * x1) + x2) 39 ∧ q (μ1 p_MO_way ((((3 : Int32) * x1) + x2)).toNatClampNeg) μ1))) ∧ ((bI b2) = 0 → q (0 : Int32) μ1)))
def F_X8_way_e  (K29 : Int32 → Int32 → Int32 → Int32 → Mm → Prop) (K55 : Int32 → Int32 → Int32 → Int32 → Mm → Prop) (q : Int32 → Mm → Prop) (x1 : Int32) (x2 : Int32) (x3 : Int32) (μ : Mm) : Prop :=
  Wp_X8_isRequest x1 μ (fun b2 μ1 => (((bI b2) = 0 → K29 x1 x2 x3 (0 : Int32) μ1) ∧ (¬ ((bI b2) = 0) → vp_in x1 13 ∧ Wp_X8_isIn x2 (0 : Int32) ((μ1 p_MO_lines (x1).toNatClampNeg) - (1 : Int32)) μ1 (fun b4 μ3 => (((bI b4) = 0 → K29 x1 x2 x3 (0 : Int32) μ3) ∧ (¬ ((bI b4) = 0) → K29 x1 x2 x3 (1 : Int32) μ3))))))
def Wp_X8_way  (x1 : Int32) (x2 : Int32) (x3 : Int32) (μ : Mm) (q : Int32 → Mm → Prop) : Prop := ∀ (K29 : Int32 → Int32 → Int32 → Int32 → Mm → Prop) (K55 : Int32 → Int32 → Int32 → Int32 → Mm → Prop), (∀ (x1 : Int32) (x2 : Int32) (x3 : Int32) (y0 : Int32) (μ : Mm), F_X8_way_29  K29 K55 q x1 x2 x3 y0 μ → K29 x1 x2 x3 y0 μ) → (∀ (x1 : Int32) (x2 : Int32) (x3 : Int32) (y0 : Int32) (μ : Mm), F_X8_way_55  K29 K55 q x1 x2 x3 y0 μ → K55 x1 x2 x3 y0 μ) → F_X8_way_e  K29 K55 q x1 x2 x3 μ
abbrev KK_X8_way_29 (g : GE) (f : FE)  : Int32 → Int32 → Int32 → Int32 → Mm → Prop := fun x1 x2 x3 y0 μ => KW g f 6 0 0 29 [some (.ref p_MO), some (.int x1), some (.int x2), some (.int x3), none, none] [.int y0] μ
abbrev KK_X8_way_55 (g : GE) (f : FE)  : Int32 → Int32 → Int32 → Int32 → Mm → Prop := fun x1 x2 x3 y0 μ => KW g f 6 0 0 55 [some (.ref p_MO), some (.int x1), some (.int x2), some (.int x3), none, none] [.int y0, .ref p_MO] μ
set_option maxHeartbeats 2000000 in
theorem b_X8_way_29  {g : GE} {f : FE} {q : Int32 → Mm → Prop} (cx : Cx g f cX8_way 6 RX8 2 43 0 0) (hr : (f_M f).sig.returnType = (some .int)) (hl : (f_M f).locks = false) (hQ : f_Q f = MQ (f_b f) (QW g (qI q)) (f_a f) (f_s f) 0 0 (fun q => g.2.2.2 ≤ q))  {x1 : Int32} {x2 : Int32} {x3 : Int32} {y0 : Int32} {μ : Mm} (h : F_X8_way_29  (KK_X8_way_29 g f ) (KK_X8_way_55 g f ) q x1 x2 x3 y0 μ) : KK_X8_way_29 g f  x1 x2 x3 y0 μ := by
  unfold F_X8_way_29 at h
  show KW g f 6 0 0 29 [some (.ref p_MO), some (.int x1), some (.int x2), some (.int x3), none, none] [.int y0] μ
  refine k_istore cx dX8_way_29 (by decide) ?_
  refine k_aload_n cx dX8_way_31 rfl rfl ?_
  refine k_iload cx dX8_way_32 rfl ?_
  refine k_if_ne (tgt := 41) cx dX8_way_34 (by decide) (fun hc => ?_) (fun hc => ?_)
  · replace h := h.1 hc
    refine k_iload_n cx dX8_way_41 rfl rfl ?_
    refine k_iconst (v := (0 : Int32)) cx dX8_way_42 (by decide +kernel) ?_
    refine k_iconst (v := (2 : Int32)) cx dX8_way_43 (by decide +kernel) ?_
    refine k_callS (As := [.int x3, .int (0 : Int32), .int (2 : Int32)]) (rest := [.ref p_MO]) cx (m_X8_isIn h) cv_X8_111 rfl rfl (Nat.le_of_ble_eq_true rfl) ⟨Nat.le_of_ble_eq_true rfl, Nat.le_of_ble_eq_true rfl⟩ dX8_way_44 (fun v μ1 hq => ?_)
    obtain ⟨b2, rfl, h⟩ := hq
    refine k_if_eq (tgt := 54) cx dX8_way_47 (by decide) (fun hc => ?_) (fun hc => ?_)
    · replace h := h.1 hc
      refine k_iconst (v := (2 : Int32)) cx dX8_way_54 (by decide +kernel) ?_
      exact k_weak h (lsLe.keep (lsLe.keep (lsLe.keep (lsLe.keep (lsLe.drop (lsLe.keep lsLe.nil))))))
    · replace h := h.2 hc
      refine k_iconst (v := (0 : Int32)) cx dX8_way_50 (by decide +kernel) ?_
      refine k_goto (tgt := 55) cx dX8_way_51 (by decide) ?_
      exact k_weak h (lsLe.keep (lsLe.keep (lsLe.keep (lsLe.keep (lsLe.drop (lsLe.keep lsLe.nil))))))
  · replace h := h.2 hc
    refine k_iconst (v := (1 : Int32)) cx dX8_way_37 (by decide +kernel) ?_
    refine k_goto (tgt := 55) cx dX8_way_38 (by decide) ?_
    exact k_weak h (lsLe.keep (lsLe.keep (lsLe.keep (lsLe.keep (lsLe.drop (lsLe.keep lsLe.nil))))))
set_option maxHeartbeats 2000000 in
theorem b_X8_way_55  {g : GE} {f : FE} {q : Int32 → Mm → Prop} (cx : Cx g f cX8_way 6 RX8 2 43 0 0) (hr : (f_M f).sig.returnType = (some .int)) (hl : (f_M f).locks = false) (hQ : f_Q f = MQ (f_b f) (QW g (qI q)) (f_a f) (f_s f) 0 0 (fun q => g.2.2.2 ≤ q))  {x1 : Int32} {x2 : Int32} {x3 : Int32} {y0 : Int32} {μ : Mm} (h : F_X8_way_55  (KK_X8_way_29 g f ) (KK_X8_way_55 g f ) q x1 x2 x3 y0 μ) : KK_X8_way_55 g f  x1 x2 x3 y0 μ := by
  unfold F_X8_way_55 at h
  show KW g f 6 0 0 55 [some (.ref p_MO), some (.int x1), some (.int x2), some (.int x3), none, none] [.int y0, .ref p_MO] μ
  refine k_callV (As := [.int y0]) (rest := []) cx (m_X8_can h) cv_X8_121 ob_MO rfl rfl rfl rfl (Nat.le_of_ble_eq_true rfl) ⟨Nat.le_of_ble_eq_true rfl, Nat.le_of_ble_eq_true rfl⟩ dX8_way_55 (fun v μ1 hq => ?_)
  obtain ⟨b2, rfl, h⟩ := hq
  refine k_if_ne (tgt := 63) cx dX8_way_58 (by decide) (fun hc => ?_) (fun hc => ?_)
  · replace h := h.1 hc
    refine k_iconst (v := (3 : Int32)) cx dX8_way_63 (by decide +kernel) ?_
    refine k_iload_n cx dX8_way_64 rfl rfl ?_
    refine k_imul cx dX8_way_65 ?_
    refine k_iload_n cx dX8_way_66 rfl rfl ?_
    refine k_iadd cx dX8_way_67 ?_
    refine k_istore cx dX8_way_68 (by decide) ?_
    refine k_iload_n cx dX8_way_70 rfl rfl ?_
    refine k_if_ne (tgt := 84) cx dX8_way_71 (by decide) (fun hc => ?_) (fun hc => ?_)
    · replace h := h.1 hc
      refine k_iload_n cx dX8_way_84 rfl rfl ?_
      refine k_iconst (v := (1 : Int32)) cx dX8_way_85 (by decide +kernel) ?_
      refine k_icmp_ne (tgt := 99) cx dX8_way_86 (by decide) (fun hc => ?_) (fun hc => ?_)
      · replace h := h.1 hc
        refine k_aload_n cx dX8_way_99 rfl rfl ?_
        refine k_get (o := some p_MO_second) (v := .ref p_MO_second) cx fl_X8_59 ob_MO rfl rfl dX8_way_100 ?_
        refine k_iload cx dX8_way_103 rfl ?_
        obtain ⟨hi, h⟩ := h
        refine k_iald cx ar_MO_second hi dX8_way_105 ?_
        exact k_ret_I cx hr hl hQ dX8_way_106 h
      · replace h := h.2 hc
        refine k_aload_n cx dX8_way_89 rfl rfl ?_
        refine k_get (o := some p_MO_rest) (v := .ref p_MO_rest) cx fl_X8_56 ob_MO rfl rfl dX8_way_90 ?_
        refine k_iload cx dX8_way_93 rfl ?_
        obtain ⟨hi, h⟩ := h
        refine k_iald cx ar_MO_rest hi dX8_way_95 ?_
        refine k_goto (tgt := 106) cx dX8_way_96 (by decide) ?_
        exact k_ret_I cx hr hl hQ dX8_way_106 h
    · replace h := h.2 hc
      refine k_aload_n cx dX8_way_74 rfl rfl ?_
      refine k_get (o := some p_MO_way) (v := .ref p_MO_way) cx fl_X8_53 ob_MO rfl rfl dX8_way_75 ?_
      refine k_iload cx dX8_way_78 rfl ?_
      obtain ⟨hi, h⟩ := h
      refine k_iald cx ar_MO_way hi dX8_way_80 ?_
      refine k_goto (tgt := 106) cx dX8_way_81 (by decide) ?_
      exact k_ret_I cx hr hl hQ dX8_way_106 h
  · replace h := h.2 hc
    refine k_iconst (v := (0 : Int32)) cx dX8_way_61 (by decide +kernel) ?_
    exact k_ret_I cx hr hl hQ dX8_way_62 h
set_option maxHeartbeats 2000000 in
theorem b_X8_way_e  {g : GE} {f : FE} {q : Int32 → Mm → Prop} (cx : Cx g f cX8_way 6 RX8 2 43 0 0) (hr : (f_M f).sig.returnType = (some .int)) (hl : (f_M f).locks = false) (hQ : f_Q f = MQ (f_b f) (QW g (qI q)) (f_a f) (f_s f) 0 0 (fun q => g.2.2.2 ≤ q))  {x1 : Int32} {x2 : Int32} {x3 : Int32} {μ : Mm} (h : F_X8_way_e  (KK_X8_way_29 g f ) (KK_X8_way_55 g f ) q x1 x2 x3 μ) : KW g f 6 0 0 0 [some (.ref p_MO), some (.int x1), some (.int x2), some (.int x3), none, none] [] μ := by
  unfold F_X8_way_e at h
  refine k_aload_n cx dX8_way_0 rfl rfl ?_
  refine k_iload_n cx dX8_way_1 rfl rfl ?_
  refine k_callV (As := [.int x1]) (rest := []) cx (m_X8_isRequest h) cv_X8_226 ob_MO rfl rfl rfl rfl (Nat.le_of_ble_eq_true rfl) ⟨Nat.le_of_ble_eq_true rfl, Nat.le_of_ble_eq_true rfl⟩ dX8_way_2 (fun v μ1 hq => ?_)
  obtain ⟨b2, rfl, h⟩ := hq
  refine k_if_eq (tgt := 28) cx dX8_way_5 (by decide) (fun hc => ?_) (fun hc => ?_)
  · replace h := h.1 hc
    refine k_iconst (v := (0 : Int32)) cx dX8_way_28 (by decide +kernel) ?_
    exact k_weak h (lsLe.keep (lsLe.keep (lsLe.keep (lsLe.keep (lsLe.keep (lsLe.keep lsLe.nil))))))
  · replace h := h.2 hc
    refine k_iload_n cx dX8_way_8 rfl rfl ?_
    refine k_iconst (v := (0 : Int32)) cx dX8_way_9 (by decide +kernel) ?_
    refine k_aload_n cx dX8_way_10 rfl rfl ?_
    refine k_get (o := some p_MO_lines) (v := .ref p_MO_lines) cx fl_X8_29 ob_MO rfl rfl dX8_way_11 ?_
    refine k_iload_n cx dX8_way_14 rfl rfl ?_
    obtain ⟨hi, h⟩ := h
    refine k_iald cx ar_MO_lines hi dX8_way_15 ?_
    refine k_iconst (v := (1 : Int32)) cx dX8_way_16 (by decide +kernel) ?_
    refine k_isub cx dX8_way_17 ?_
    refine k_callS (As := [.int x2, .int (0 : Int32), .int ((μ1 p_MO_lines (x1).toNatClampNeg) - (1 : Int32))]) (rest := []) cx (m_X8_isIn h) cv_X8_111 rfl rfl (Nat.le_of_ble_eq_true rfl) ⟨Nat.le_of_ble_eq_true rfl, Nat.le_of_ble_eq_true rfl⟩ dX8_way_18 (fun v μ3 hq => ?_)
    obtain ⟨b4, rfl, h⟩ := hq
    refine k_if_eq (tgt := 28) cx dX8_way_21 (by decide) (fun hc => ?_) (fun hc => ?_)
    · replace h := h.1 hc
      refine k_iconst (v := (0 : Int32)) cx dX8_way_28 (by decide +kernel) ?_
      exact k_weak h (lsLe.keep (lsLe.keep (lsLe.keep (lsLe.keep (lsLe.keep (lsLe.keep lsLe.nil))))))
    · replace h := h.2 hc
      refine k_iconst (v := (1 : Int32)) cx dX8_way_24 (by decide +kernel) ?_
      refine k_goto (tgt := 29) cx dX8_way_25 (by decide) ?_
      exact k_weak h (lsLe.keep (lsLe.keep (lsLe.keep (lsLe.keep (lsLe.keep (lsLe.keep lsLe.nil))))))
theorem m_X8_way {g : GE} {l : Launch} {μ : Mm} {q : Int32 → Mm → Prop} {x1 : Int32} {x2 : Int32} {x3 : Int32}  (h : Wp_X8_way  x1 x2 x3 μ q) : MW g l yX8_way cX8_way 6 (some .int) 2 43 [.ref p_MO, .int x1, .int x2, .int x3] μ (qI q) := by
  refine met_of (by decide) (Nat.le_of_ble_eq_true rfl) (by intro v hv; simp only [List.mem_cons, List.not_mem_nil, or_false] at hv; rcases hv with rfl | rfl | rfl | rfl <;> rfl) ?_
  intro f hfl cx hr hl hQ
  exact b_X8_way_e  cx hr hl hQ (h (KK_X8_way_29 g f ) (KK_X8_way_55 g f ) (fun _ _ _ _ _ h => b_X8_way_29  cx hr hl hQ h) (fun _ _ _ _ _ h => b_X8_way_55  cx hr hl hQ h))
