theorem dX8_line_0 : decode cX8_line 0 = .ok (.aload_n 0, 1) := by decide +kernel
theorem dX8_line_1 : decode cX8_line 1 = .ok (.getfield 118, 3) := by decide +kernel
theorem dX8_line_4 : decode cX8_line 4 = .ok (.istore 4, 2) := by decide +kernel
theorem dX8_line_6 : decode cX8_line 6 = .ok (.iload_n 1, 1) := by decide +kernel
theorem dX8_line_7 : decode cX8_line 7 = .ok (.iconst 0, 1) := by decide +kernel
theorem dX8_line_8 : decode cX8_line 8 = .ok (.aload_n 0, 1) := by decide +kernel
theorem dX8_line_9 : decode cX8_line 9 = .ok (.getfield 26, 3) := by decide +kernel
theorem dX8_line_12 : decode cX8_line 12 = .ok (.iload 4, 2) := by decide +kernel
theorem dX8_line_14 : decode cX8_line 14 = .ok (.iaload, 1) := by decide +kernel
theorem dX8_line_15 : decode cX8_line 15 = .ok (.iconst 1, 1) := by decide +kernel
theorem dX8_line_16 : decode cX8_line 16 = .ok (.isub, 1) := by decide +kernel
theorem dX8_line_17 : decode cX8_line 17 = .ok (.invokestatic 111, 3) := by decide +kernel
theorem dX8_line_20 : decode cX8_line 20 = .ok (.ifCond .eq 24, 3) := by decide +kernel
theorem dX8_line_23 : decode cX8_line 23 = .ok (.iload_n 2, 1) := by decide +kernel
theorem dX8_line_24 : decode cX8_line 24 = .ok (.iconst 0, 1) := by decide +kernel
theorem dX8_line_25 : decode cX8_line 25 = .ok (.aload_n 0, 1) := by decide +kernel
theorem dX8_line_26 : decode cX8_line 26 = .ok (.getfield 26, 3) := by decide +kernel
theorem dX8_line_29 : decode cX8_line 29 = .ok (.iload 4, 2) := by decide +kernel
theorem dX8_line_31 : decode cX8_line 31 = .ok (.iaload, 1) := by decide +kernel
theorem dX8_line_32 : decode cX8_line 32 = .ok (.iconst 1, 1) := by decide +kernel
theorem dX8_line_33 : decode cX8_line 33 = .ok (.isub, 1) := by decide +kernel
theorem dX8_line_34 : decode cX8_line 34 = .ok (.invokestatic 111, 3) := by decide +kernel
theorem dX8_line_37 : decode cX8_line 37 = .ok (.ifCond .eq 7, 3) := by decide +kernel
theorem dX8_line_40 : decode cX8_line 40 = .ok (.iconst 1, 1) := by decide +kernel
theorem dX8_line_41 : decode cX8_line 41 = .ok (.goto 4, 3) := by decide +kernel
theorem dX8_line_44 : decode cX8_line 44 = .ok (.iconst 0, 1) := by decide +kernel
theorem dX8_line_45 : decode cX8_line 45 = .ok (.istore 5, 2) := by decide +kernel
theorem dX8_line_47 : decode cX8_line 47 = .ok (.iload_n 1, 1) := by decide +kernel
theorem dX8_line_48 : decode cX8_line 48 = .ok (.iload_n 2, 1) := by decide +kernel
theorem dX8_line_49 : decode cX8_line 49 = .ok (.if_icmp .eq 17, 3) := by decide +kernel
theorem dX8_line_52 : decode cX8_line 52 = .ok (.iload_n 3, 1) := by decide +kernel
theorem dX8_line_53 : decode cX8_line 53 = .ok (.iconst 1, 1) := by decide +kernel
theorem dX8_line_54 : decode cX8_line 54 = .ok (.bipush 20, 2) := by decide +kernel
theorem dX8_line_56 : decode cX8_line 56 = .ok (.invokestatic 111, 3) := by decide +kernel
theorem dX8_line_59 : decode cX8_line 59 = .ok (.ifCond .eq 7, 3) := by decide +kernel
theorem dX8_line_62 : decode cX8_line 62 = .ok (.iconst 1, 1) := by decide +kernel
theorem dX8_line_63 : decode cX8_line 63 = .ok (.goto 4, 3) := by decide +kernel
theorem dX8_line_66 : decode cX8_line 66 = .ok (.iconst 0, 1) := by decide +kernel
theorem dX8_line_67 : decode cX8_line 67 = .ok (.istore 6, 2) := by decide +kernel
theorem dX8_line_69 : decode cX8_line 69 = .ok (.aload_n 0, 1) := by decide +kernel
theorem dX8_line_70 : decode cX8_line 70 = .ok (.iload 5, 2) := by decide +kernel
theorem dX8_line_72 : decode cX8_line 72 = .ok (.ifCond .ne 7, 3) := by decide +kernel
theorem dX8_line_75 : decode cX8_line 75 = .ok (.iconst 1, 1) := by decide +kernel
theorem dX8_line_76 : decode cX8_line 76 = .ok (.goto 26, 3) := by decide +kernel
theorem dX8_line_79 : decode cX8_line 79 = .ok (.iload 6, 2) := by decide +kernel
theorem dX8_line_81 : decode cX8_line 81 = .ok (.ifCond .ne 7, 3) := by decide +kernel
theorem dX8_line_84 : decode cX8_line 84 = .ok (.iconst 2, 1) := by decide +kernel
theorem dX8_line_85 : decode cX8_line 85 = .ok (.goto 17, 3) := by decide +kernel
theorem dX8_line_88 : decode cX8_line 88 = .ok (.aload_n 0, 1) := by decide +kernel
theorem dX8_line_89 : decode cX8_line 89 = .ok (.iload_n 1, 1) := by decide +kernel
theorem dX8_line_90 : decode cX8_line 90 = .ok (.iload_n 2, 1) := by decide +kernel
theorem dX8_line_91 : decode cX8_line 91 = .ok (.invokevirtual 153, 3) := by decide +kernel
theorem dX8_line_94 : decode cX8_line 94 = .ok (.ifCond .eq 7, 3) := by decide +kernel
theorem dX8_line_97 : decode cX8_line 97 = .ok (.iconst 3, 1) := by decide +kernel
theorem dX8_line_98 : decode cX8_line 98 = .ok (.goto 4, 3) := by decide +kernel
theorem dX8_line_101 : decode cX8_line 101 = .ok (.iconst 0, 1) := by decide +kernel
theorem dX8_line_102 : decode cX8_line 102 = .ok (.invokevirtual 121, 3) := by decide +kernel
theorem dX8_line_105 : decode cX8_line 105 = .ok (.ifCond .ne 5, 3) := by decide +kernel
theorem dX8_line_108 : decode cX8_line 108 = .ok (.iconst 0, 1) := by decide +kernel
theorem dX8_line_109 : decode cX8_line 109 = .ok (.ireturn, 1) := by decide +kernel
theorem dX8_line_110 : decode cX8_line 110 = .ok (.iconst 3, 1) := by decide +kernel
theorem dX8_line_111 : decode cX8_line 111 = .ok (.iload 4, 2) := by decide +kernel
theorem dX8_line_113 : decode cX8_line 113 = .ok (.imul, 1) := by decide +kernel
theorem dX8_line_114 : decode cX8_line 114 = .ok (.aload_n 0, 1) := by decide +kernel
theorem dX8_line_115 : decode cX8_line 115 = .ok (.getfield 29, 3) := by decide +kernel
theorem dX8_line_118 : decode cX8_line 118 = .ok (.iload 4, 2) := by decide +kernel
theorem dX8_line_120 : decode cX8_line 120 = .ok (.iaload, 1) := by decide +kernel
theorem dX8_line_121 : decode cX8_line 121 = .ok (.iadd, 1) := by decide +kernel
theorem dX8_line_122 : decode cX8_line 122 = .ok (.istore 7, 2) := by decide +kernel
theorem dX8_line_124 : decode cX8_line 124 = .ok (.aload_n 0, 1) := by decide +kernel
theorem dX8_line_125 : decode cX8_line 125 = .ok (.getfield 41, 3) := by decide +kernel
theorem dX8_line_128 : decode cX8_line 128 = .ok (.iload 7, 2) := by decide +kernel
theorem dX8_line_130 : decode cX8_line 130 = .ok (.iload_n 1, 1) := by decide +kernel
theorem dX8_line_131 : decode cX8_line 131 = .ok (.iastore, 1) := by decide +kernel
theorem dX8_line_132 : decode cX8_line 132 = .ok (.aload_n 0, 1) := by decide +kernel
theorem dX8_line_133 : decode cX8_line 133 = .ok (.getfield 44, 3) := by decide +kernel
theorem dX8_line_136 : decode cX8_line 136 = .ok (.iload 7, 2) := by decide +kernel
theorem dX8_line_138 : decode cX8_line 138 = .ok (.iload_n 2, 1) := by decide +kernel
theorem dX8_line_139 : decode cX8_line 139 = .ok (.iastore, 1) := by decide +kernel
theorem dX8_line_140 : decode cX8_line 140 = .ok (.aload_n 0, 1) := by decide +kernel
theorem dX8_line_141 : decode cX8_line 141 = .ok (.getfield 47, 3) := by decide +kernel
theorem dX8_line_144 : decode cX8_line 144 = .ok (.iload 7, 2) := by decide +kernel
theorem dX8_line_146 : decode cX8_line 146 = .ok (.iload_n 3, 1) := by decide +kernel
theorem dX8_line_147 : decode cX8_line 147 = .ok (.iastore, 1) := by decide +kernel
theorem dX8_line_148 : decode cX8_line 148 = .ok (.aload_n 0, 1) := by decide +kernel
theorem dX8_line_149 : decode cX8_line 149 = .ok (.getfield 29, 3) := by decide +kernel
theorem dX8_line_152 : decode cX8_line 152 = .ok (.iload 4, 2) := by decide +kernel
theorem dX8_line_154 : decode cX8_line 154 = .ok (.dup2, 1) := by decide +kernel
theorem dX8_line_155 : decode cX8_line 155 = .ok (.iaload, 1) := by decide +kernel
theorem dX8_line_156 : decode cX8_line 156 = .ok (.iconst 1, 1) := by decide +kernel
theorem dX8_line_157 : decode cX8_line 157 = .ok (.iadd, 1) := by decide +kernel
theorem dX8_line_158 : decode cX8_line 158 = .ok (.iastore, 1) := by decide +kernel
theorem dX8_line_159 : decode cX8_line 159 = .ok (.aload_n 0, 1) := by decide +kernel
theorem dX8_line_160 : decode cX8_line 160 = .ok (.getfield 29, 3) := by decide +kernel
theorem dX8_line_163 : decode cX8_line 163 = .ok (.iload 4, 2) := by decide +kernel
theorem dX8_line_165 : decode cX8_line 165 = .ok (.iaload, 1) := by decide +kernel
theorem dX8_line_166 : decode cX8_line 166 = .ok (.iconst 1, 1) := by decide +kernel
theorem dX8_line_167 : decode cX8_line 167 = .ok (.isub, 1) := by decide +kernel
theorem dX8_line_168 : decode cX8_line 168 = .ok (.ireturn, 1) := by decide +kernel
def F_X8_line_45  (K45 : Int32 → Int32 → Int32 → Int32 → Int32 → Mm → Prop) (K67 : Int32 → Int32 → Int32 → Int32 → Int32 → Int32 → Mm → Prop) (K102 : Int32 → Int32 → Int32 → Int32 → Int32 → Mm → Prop) (q : Int32 → Mm → Prop) (x1 : Int32) (x2 : Int32) (x3 : Int32) (x4 : Int32) (y0 : Int32) (μ : Mm) : Prop :=
  ((x1 = x2 → K67 x1 x2 x3 x4 y0 (0 : Int32) μ) ∧ (¬ (x1 = x2) → Wp_X8_isIn x3 (1 : Int32) (20 : Int32) μ (fun b2 μ1 => (((bI b2) = 0 → K67 x1 x2 x3 x4 y0 (0 : Int32) μ1) ∧ (¬ ((bI b2) = 0) → K67 x1 x2 x3 x4 y0 (1 : Int32) μ1)))))
def F_X8_line_67  (K45 : Int32 → Int32 → Int32 → Int32 → Int32 → Mm → Prop) (K67 : Int32 → Int32 → Int32 → Int32 → Int32 → Int32 → Mm → Prop) (K102 : Int32 → Int32 → Int32 → Int32 → Int32 → Mm → Prop) (q : Int32 → Mm → Prop) (x1 : Int32) (x2 : Int32) (x3 : Int32) (x4 : Int32) (x5 : Int32) (y0 : Int32) (μ : Mm) : Prop :=
  ((¬ (x5 = 0) → ((¬ (y0 = 0) → Wp_X8_areLined x1 x2 μ (fun b2 μ1 => (((bI b2) = 0 → K102 x1 x2 x3 x4 (0 : Int32) μ1) ∧ (¬ ((bI b2) = 0) → K102 x1 x2 x3 x4 (3 : Int32) μ1)))) ∧ (y0 = 0 → K102 x1 x2 x3 x4 (2 : Int32) μ))) ∧ (x5 = 0 → K102 x1 x2 x3 x4 (1 : Int32) μ))
def F_X8_line_102  (K45 : Int32 → Int32 → Int32 → Int32 → Int32 → Mm → Prop) (K67 : Int32 → Int32 → Int32 → Int32 → Int32 → Int32 → Mm → Prop) (K102 : Int32 → Int32 → Int32 → Int32 → Int32 → Mm → Prop) (q : Int32 → Mm → Prop) (x1 : Int32) (x2 : Int32) (x3 : Int32) (x4 : Int32) (y0 : Int32) (μ : Mm) : Prop :=
  Wp_X8_can y0 μ (fun b2 μ1 => ((¬ ((bI b2) = 0) → vp_in x4 13 ∧ vp_in (((3 : Int32) * x4) + (μ1 p_MO_lines (x4).toNatClampNeg)) 39 ∧ vp_in (((3 : Int32) * x4) + (μ1 p_MO_lines (x4).toNatClampNeg)) 39 ∧ vp_in (((3 : Int32) * x4) + (μ1 p_MO_lines (x4).toNatClampNeg)) 39 ∧ vp_in x4 13 ∧ vp_in x4 13 ∧ vp_in x4 13 ∧ q (((up2 (up2 (up2 (up2 μ1 p_MO_lineFrom ((((3 : Int32) * x4) + (μ1 p_MO_lines (x4).toNatClampNeg))).toNatClampNeg x1) p_MO_lineTo ((((3 : Int32) * x4) + (μ1 p_MO_lines (x4).toNatClampNeg))).toNatClampNeg x2) p_MO_lineNeed ((((3 : Int32) * x4) + (μ1 p_MO_lines (x4).toNatClampNeg))).toNatClampNeg x3) p_MO_lines (x4).toNatClampNeg (((up2 (up2 (up2 μ1 p_MO_lineFrom ((((3 : Int32) * x4) + (μ1 p_MO_lines (x4).toNatClampNeg))).toNatClampNeg x1) p_MO_lineTo ((((3 : Int32) * x4) + (μ1 p_MO_lines (x4).toNatClampNeg))).toNatClampNeg x2) p_MO_lineNeed ((((3 : Int32) * x4) + (μ1 p_MO_lines (x4).toNatClampNeg))).toNatClampNeg x3) p_MO_lines (x4).toNatClampNeg) + (1 : Int32))) p_MO_lines (x4).toNatClampNeg) - (1 : Int32)) (up2 (up2 (up2 (up2 μ1 p_MO_lineFrom ((((3 : Int32) * x4) + (μ1 p_MO_lines (x4).toNatClampNeg))).toNatClampNeg x1) p_MO_lineTo ((((3 : Int32) * x4) + (μ1 p_MO_lines (x4).toNatClampNeg))).toNatClampNeg x2) p_MO_lineNeed ((((3 : Int32) * x4) + (μ1 p_MO_lines (x4).toNatClampNeg))).toNatClampNeg x3) p_MO_lines (x4).toNatClampNeg (((up2 (up2 (up2 μ1 p_MO_lineFrom ((((3 : Int32) * x4) + (μ1 p_MO_lines (x4).toNatClampNeg))).toNatClampNeg x1) p_MO_lineTo ((((3 : Int32) * x4) + (μ1 p_MO_lines (x4).toNatClampNeg))).toNatClampNeg x2) p_MO_lineNeed ((((3 : Int32) * x4) + (μ1 p_MO_lines (x4).toNatClampNeg))).toNatClampNeg x3) p_MO_lines (x4).toNatClampNeg) + (1 : Int32)))) ∧ ((bI b2) = 0 → q (0 : Int32) μ1)))
def F_X8_line_e  (K45 : Int32 → Int32 → Int32 → Int32 → Int32 → Mm → Prop) (K67 : Int32 → Int32 → Int32 → Int32 → Int32 → Int32 → Mm → Prop) (K102 : Int32 → Int32 → Int32 → Int32 → Int32 → Mm → Prop) (q : Int32 → Mm → Prop) (x1 : Int32) (x2 : Int32) (x3 : Int32) (μ : Mm) : Prop :=
  vp_in (μ p_MO 8) 13 ∧ Wp_X8_isIn x1 (0 : Int32) ((μ p_MO_parts ((μ p_MO 8)).toNatClampNeg) - (1 : Int32)) μ (fun b2 μ1 => (((bI b2) = 0 → K45 x1 x2 x3 (μ p_MO 8) (0 : Int32) μ1) ∧ (¬ ((bI b2) = 0) → vp_in (μ p_MO 8) 13 ∧ Wp_X8_isIn x2 (0 : Int32) ((μ1 p_MO_parts ((μ p_MO 8)).toNatClampNeg) - (1 : Int32)) μ1 (fun b4 μ3 => (((bI b4) = 0 → K45 x1 x2 x3 (μ p_MO 8) (0 : Int32) μ3) ∧ (¬ ((bI b4) = 0) → K45 x1 x2 x3 (μ p_MO 8) (1 : Int32) μ3))))))
def Wp_X8_line  (x1 : Int32) (x2 : Int32) (x3 : Int32) (μ : Mm) (q : Int32 → Mm → Prop) : Prop := ∀ (K45 : Int32 → Int32 → Int32 → Int32 → Int32 → Mm → Prop) (K67 : Int32 → Int32 → Int32 → Int32 → Int32 → Int32 → Mm → Prop) (K102 : Int32 → Int32 → Int32 → Int32 → Int32 → Mm → Prop), (∀ (x1 : Int32) (x2 : Int32) (x3 : Int32) (x4 : Int32) (y0 : Int32) (μ : Mm), F_X8_line_45  K45 K67 K102 q x1 x2 x3 x4 y0 μ → K45 x1 x2 x3 x4 y0 μ) → (∀ (x1 : Int32) (x2 : Int32) (x3 : Int32) (x4 : Int32) (x5 : Int32) (y0 : Int32) (μ : Mm), F_X8_line_67  K45 K67 K102 q x1 x2 x3 x4 x5 y0 μ → K67 x1 x2 x3 x4 x5 y0 μ) → (∀ (x1 : Int32) (x2 : Int32) (x3 : Int32) (x4 : Int32) (y0 : Int32) (μ : Mm), F_X8_line_102  K45 K67 K102 q x1 x2 x3 x4 y0 μ → K102 x1 x2 x3 x4 y0 μ) → F_X8_line_e  K45 K67 K102 q x1 x2 x3 μ
abbrev KK_X8_line_45 (g : GE) (f : FE)  : Int32 → Int32 → Int32 → Int32 → Int32 → Mm → Prop := fun x1 x2 x3 x4 y0 μ => KW g f 8 0 0 45 [some (.ref p_MO), some (.int x1), some (.int x2), some (.int x3), some (.int x4), none, none, none] [.int y0] μ
abbrev KK_X8_line_67 (g : GE) (f : FE)  : Int32 → Int32 → Int32 → Int32 → Int32 → Int32 → Mm → Prop := fun x1 x2 x3 x4 x5 y0 μ => KW g f 8 0 0 67 [some (.ref p_MO), some (.int x1), some (.int x2), some (.int x3), some (.int x4), some (.int x5), none, none] [.int y0] μ
abbrev KK_X8_line_102 (g : GE) (f : FE)  : Int32 → Int32 → Int32 → Int32 → Int32 → Mm → Prop := fun x1 x2 x3 x4 y0 μ => KW g f 8 0 0 102 [some (.ref p_MO), some (.int x1), some (.int x2), some (.int x3), some (.int x4), none, none, none] [.int y0, .ref p_MO] μ
set_option maxHeartbeats 2000000 in
theorem b_X8_line_45  {g : GE} {f : FE} {q : Int32 → Mm → Prop} (cx : Cx g f cX8_line 8 RX8 1 24 0 0) (hr : (f_M f).sig.returnType = (some .int)) (hl : (f_M f).locks = false) (hQ : f_Q f = MQ (f_b f) (QW g (qI q)) (f_a f) (f_s f) 0 0 (fun q => g.2.2.2 ≤ q))  {x1 : Int32} {x2 : Int32} {x3 : Int32} {x4 : Int32} {y0 : Int32} {μ : Mm} (h : F_X8_line_45  (KK_X8_line_45 g f ) (KK_X8_line_67 g f ) (KK_X8_line_102 g f ) q x1 x2 x3 x4 y0 μ) : KK_X8_line_45 g f  x1 x2 x3 x4 y0 μ := by
  unfold F_X8_line_45 at h
  show KW g f 8 0 0 45 [some (.ref p_MO), some (.int x1), some (.int x2), some (.int x3), some (.int x4), none, none, none] [.int y0] μ
  refine k_istore cx dX8_line_45 (by decide) ?_
  refine k_iload_n cx dX8_line_47 rfl rfl ?_
  refine k_iload_n cx dX8_line_48 rfl rfl ?_
  refine k_icmp_eq (tgt := 66) cx dX8_line_49 (by decide) (fun hc => ?_) (fun hc => ?_)
  · replace h := h.1 hc
    refine k_iconst (v := (0 : Int32)) cx dX8_line_66 (by decide +kernel) ?_
    exact k_weak h (lsLe.keep (lsLe.keep (lsLe.keep (lsLe.keep (lsLe.keep (lsLe.keep (lsLe.keep (lsLe.keep lsLe.nil))))))))
  · replace h := h.2 hc
    refine k_iload_n cx dX8_line_52 rfl rfl ?_
    refine k_iconst (v := (1 : Int32)) cx dX8_line_53 (by decide +kernel) ?_
    refine k_bipush (v := (20 : Int32)) cx dX8_line_54 (by decide +kernel) ?_
    refine k_callS (As := [.int x3, .int (1 : Int32), .int (20 : Int32)]) (rest := []) cx (m_X8_isIn h) cv_X8_111 rfl rfl (Nat.le_of_ble_eq_true rfl) ⟨Nat.le_of_ble_eq_true rfl, Nat.le_of_ble_eq_true rfl⟩ dX8_line_56 (fun v μ1 hq => ?_)
    obtain ⟨b2, rfl, h⟩ := hq
    refine k_if_eq (tgt := 66) cx dX8_line_59 (by decide) (fun hc => ?_) (fun hc => ?_)
    · replace h := h.1 hc
      refine k_iconst (v := (0 : Int32)) cx dX8_line_66 (by decide +kernel) ?_
      exact k_weak h (lsLe.keep (lsLe.keep (lsLe.keep (lsLe.keep (lsLe.keep (lsLe.keep (lsLe.keep (lsLe.keep lsLe.nil))))))))
    · replace h := h.2 hc
      refine k_iconst (v := (1 : Int32)) cx dX8_line_62 (by decide +kernel) ?_
      refine k_goto (tgt := 67) cx dX8_line_63 (by decide) ?_
      exact k_weak h (lsLe.keep (lsLe.keep (lsLe.keep (lsLe.keep (lsLe.keep (lsLe.keep (lsLe.keep (lsLe.keep lsLe.nil))))))))
set_option maxHeartbeats 2000000 in
theorem b_X8_line_67  {g : GE} {f : FE} {q : Int32 → Mm → Prop} (cx : Cx g f cX8_line 8 RX8 1 24 0 0) (hr : (f_M f).sig.returnType = (some .int)) (hl : (f_M f).locks = false) (hQ : f_Q f = MQ (f_b f) (QW g (qI q)) (f_a f) (f_s f) 0 0 (fun q => g.2.2.2 ≤ q))  {x1 : Int32} {x2 : Int32} {x3 : Int32} {x4 : Int32} {x5 : Int32} {y0 : Int32} {μ : Mm} (h : F_X8_line_67  (KK_X8_line_45 g f ) (KK_X8_line_67 g f ) (KK_X8_line_102 g f ) q x1 x2 x3 x4 x5 y0 μ) : KK_X8_line_67 g f  x1 x2 x3 x4 x5 y0 μ := by
  unfold F_X8_line_67 at h
  show KW g f 8 0 0 67 [some (.ref p_MO), some (.int x1), some (.int x2), some (.int x3), some (.int x4), some (.int x5), none, none] [.int y0] μ
  refine k_istore cx dX8_line_67 (by decide) ?_
  refine k_aload_n cx dX8_line_69 rfl rfl ?_
  refine k_iload cx dX8_line_70 rfl ?_
  refine k_if_ne (tgt := 79) cx dX8_line_72 (by decide) (fun hc => ?_) (fun hc => ?_)
  · replace h := h.1 hc
    refine k_iload cx dX8_line_79 rfl ?_
    refine k_if_ne (tgt := 88) cx dX8_line_81 (by decide) (fun hc => ?_) (fun hc => ?_)
    · replace h := h.1 hc
      refine k_aload_n cx dX8_line_88 rfl rfl ?_
      refine k_iload_n cx dX8_line_89 rfl rfl ?_
      refine k_iload_n cx dX8_line_90 rfl rfl ?_
      refine k_callV (As := [.int x1, .int x2]) (rest := [.ref p_MO]) cx (m_X8_areLined h) cv_X8_153 ob_MO rfl rfl rfl rfl (Nat.le_of_ble_eq_true rfl) ⟨Nat.le_of_ble_eq_true rfl, Nat.le_of_ble_eq_true rfl⟩ dX8_line_91 (fun v μ1 hq => ?_)
      obtain ⟨b2, rfl, h⟩ := hq
      refine k_if_eq (tgt := 101) cx dX8_line_94 (by decide) (fun hc => ?_) (fun hc => ?_)
      · replace h := h.1 hc
        refine k_iconst (v := (0 : Int32)) cx dX8_line_101 (by decide +kernel) ?_
        exact k_weak h (lsLe.keep (lsLe.keep (lsLe.keep (lsLe.keep (lsLe.keep (lsLe.drop (lsLe.drop (lsLe.keep lsLe.nil))))))))
      · replace h := h.2 hc
        refine k_iconst (v := (3 : Int32)) cx dX8_line_97 (by decide +kernel) ?_
        refine k_goto (tgt := 102) cx dX8_line_98 (by decide) ?_
        exact k_weak h (lsLe.keep (lsLe.keep (lsLe.keep (lsLe.keep (lsLe.keep (lsLe.drop (lsLe.drop (lsLe.keep lsLe.nil))))))))
    · replace h := h.2 hc
      refine k_iconst (v := (2 : Int32)) cx dX8_line_84 (by decide +kernel) ?_
      refine k_goto (tgt := 102) cx dX8_line_85 (by decide) ?_
      exact k_weak h (lsLe.keep (lsLe.keep (lsLe.keep (lsLe.keep (lsLe.keep (lsLe.drop (lsLe.drop (lsLe.keep lsLe.nil))))))))
  · replace h := h.2 hc
    refine k_iconst (v := (1 : Int32)) cx dX8_line_75 (by decide +kernel) ?_
    refine k_goto (tgt := 102) cx dX8_line_76 (by decide) ?_
    exact k_weak h (lsLe.keep (lsLe.keep (lsLe.keep (lsLe.keep (lsLe.keep (lsLe.drop (lsLe.drop (lsLe.keep lsLe.nil))))))))
set_option maxHeartbeats 2000000 in
theorem b_X8_line_102  {g : GE} {f : FE} {q : Int32 → Mm → Prop} (cx : Cx g f cX8_line 8 RX8 1 24 0 0) (hr : (f_M f).sig.returnType = (some .int)) (hl : (f_M f).locks = false) (hQ : f_Q f = MQ (f_b f) (QW g (qI q)) (f_a f) (f_s f) 0 0 (fun q => g.2.2.2 ≤ q))  {x1 : Int32} {x2 : Int32} {x3 : Int32} {x4 : Int32} {y0 : Int32} {μ : Mm} (h : F_X8_line_102  (KK_X8_line_45 g f ) (KK_X8_line_67 g f ) (KK_X8_line_102 g f ) q x1 x2 x3 x4 y0 μ) : KK_X8_line_102 g f  x1 x2 x3 x4 y0 μ := by
  unfold F_X8_line_102 at h
  show KW g f 8 0 0 102 [some (.ref p_MO), some (.int x1), some (.int x2), some (.int x3), some (.int x4), none, none, none] [.int y0, .ref p_MO] μ
  refine k_callV (As := [.int y0]) (rest := []) cx (m_X8_can h) cv_X8_121 ob_MO rfl rfl rfl rfl (Nat.le_of_ble_eq_true rfl) ⟨Nat.le_of_ble_eq_true rfl, Nat.le_of_ble_eq_true rfl⟩ dX8_line_102 (fun v μ1 hq => ?_)
  obtain ⟨b2, rfl, h⟩ := hq
  refine k_if_ne (tgt := 110) cx dX8_line_105 (by decide) (fun hc => ?_) (fun hc => ?_)
  · replace h := h.1 hc
    refine k_iconst (v := (3 : Int32)) cx dX8_line_110 (by decide +kernel) ?_
    refine k_iload cx dX8_line_111 rfl ?_
    refine k_imul cx dX8_line_113 ?_
    refine k_aload_n cx dX8_line_114 rfl rfl ?_
    refine k_get (o := some p_MO_lines) (v := .ref p_MO_lines) cx fl_X8_29 ob_MO rfl rfl dX8_line_115 ?_
    refine k_iload cx dX8_line_118 rfl ?_
    obtain ⟨hi, h⟩ := h
    refine k_iald cx ar_MO_lines hi dX8_line_120 ?_
    refine k_iadd cx dX8_line_121 ?_
    refine k_istore cx dX8_line_122 (by decide) ?_
    refine k_aload_n cx dX8_line_124 rfl rfl ?_
    refine k_get (o := some p_MO_lineFrom) (v := .ref p_MO_lineFrom) cx fl_X8_41 ob_MO rfl rfl dX8_line_125 ?_
    refine k_iload cx dX8_line_128 rfl ?_
    refine k_iload_n cx dX8_line_130 rfl rfl ?_
    obtain ⟨hi, h⟩ := h
    refine k_iast cx ar_MO_lineFrom hi dX8_line_131 ?_
    refine k_aload_n cx dX8_line_132 rfl rfl ?_
    refine k_get (o := some p_MO_lineTo) (v := .ref p_MO_lineTo) cx fl_X8_44 ob_MO rfl rfl dX8_line_133 ?_
    refine k_iload cx dX8_line_136 rfl ?_
    refine k_iload_n cx dX8_line_138 rfl rfl ?_
    obtain ⟨hi, h⟩ := h
    refine k_iast cx ar_MO_lineTo hi dX8_line_139 ?_
    refine k_aload_n cx dX8_line_140 rfl rfl ?_
    refine k_get (o := some p_MO_lineNeed) (v := .ref p_MO_lineNeed) cx fl_X8_47 ob_MO rfl rfl dX8_line_141 ?_
    refine k_iload cx dX8_line_144 rfl ?_
    refine k_iload_n cx dX8_line_146 rfl rfl ?_
    obtain ⟨hi, h⟩ := h
    refine k_iast cx ar_MO_lineNeed hi dX8_line_147 ?_
    refine k_aload_n cx dX8_line_148 rfl rfl ?_
    refine k_get (o := some p_MO_lines) (v := .ref p_MO_lines) cx fl_X8_29 ob_MO rfl rfl dX8_line_149 ?_
    refine k_iload cx dX8_line_152 rfl ?_
    refine k_dup2 cx dX8_line_154 rfl rfl ?_
    obtain ⟨hi, h⟩ := h
    refine k_iald cx ar_MO_lines hi dX8_line_155 ?_
    refine k_iconst (v := (1 : Int32)) cx dX8_line_156 (by decide +kernel) ?_
    refine k_iadd cx dX8_line_157 ?_
    obtain ⟨hi, h⟩ := h
    refine k_iast cx ar_MO_lines hi dX8_line_158 ?_
    refine k_aload_n cx dX8_line_159 rfl rfl ?_
    refine k_get (o := some p_MO_lines) (v := .ref p_MO_lines) cx fl_X8_29 ob_MO rfl rfl dX8_line_160 ?_
    refine k_iload cx dX8_line_163 rfl ?_
    obtain ⟨hi, h⟩ := h
    refine k_iald cx ar_MO_lines hi dX8_line_165 ?_
    refine k_iconst (v := (1 : Int32)) cx dX8_line_166 (by decide +kernel) ?_
    refine k_isub cx dX8_line_167 ?_
    exact k_ret_I cx hr hl hQ dX8_line_168 h
  · replace h := h.2 hc
    refine k_iconst (v := (0 : Int32)) cx dX8_line_108 (by decide +kernel) ?_
    exact k_ret_I cx hr hl hQ dX8_line_109 h
set_option maxHeartbeats 2000000 in
theorem b_X8_line_e  {g : GE} {f : FE} {q : Int32 → Mm → Prop} (cx : Cx g f cX8_line 8 RX8 1 24 0 0) (hr : (f_M f).sig.returnType = (some .int)) (hl : (f_M f).locks = false) (hQ : f_Q f = MQ (f_b f) (QW g (qI q)) (f_a f) (f_s f) 0 0 (fun q => g.2.2.2 ≤ q))  {x1 : Int32} {x2 : Int32} {x3 : Int32} {μ : Mm} (h : F_X8_line_e  (KK_X8_line_45 g f ) (KK_X8_line_67 g f ) (KK_X8_line_102 g f ) q x1 x2 x3 μ) : KW g f 8 0 0 0 [some (.ref p_MO), some (.int x1), some (.int x2), some (.int x3), none, none, none, none] [] μ := by
  unfold F_X8_line_e at h
  refine k_aload_n cx dX8_line_0 rfl rfl ?_
  refine k_get (o := none) (v := .int (μ p_MO 8)) cx fl_X8_118 ob_MO rfl rfl dX8_line_1 ?_
  refine k_istore cx dX8_line_4 (by decide) ?_
  refine k_iload_n cx dX8_line_6 rfl rfl ?_
  refine k_iconst (v := (0 : Int32)) cx dX8_line_7 (by decide +kernel) ?_
  refine k_aload_n cx dX8_line_8 rfl rfl ?_
  refine k_get (o := some p_MO_parts) (v := .ref p_MO_parts) cx fl_X8_26 ob_MO rfl rfl dX8_line_9 ?_
  refine k_iload cx dX8_line_12 rfl ?_
  obtain ⟨hi, h⟩ := h
  refine k_iald cx ar_MO_parts hi dX8_line_14 ?_
  refine k_iconst (v := (1 : Int32)) cx dX8_line_15 (by decide +kernel) ?_
  refine k_isub cx dX8_line_16 ?_
  refine k_callS (As := [.int x1, .int (0 : Int32), .int ((μ p_MO_parts ((μ p_MO 8)).toNatClampNeg) - (1 : Int32))]) (rest := []) cx (m_X8_isIn h) cv_X8_111 rfl rfl (Nat.le_of_ble_eq_true rfl) ⟨Nat.le_of_ble_eq_true rfl, Nat.le_of_ble_eq_true rfl⟩ dX8_line_17 (fun v μ1 hq => ?_)
  obtain ⟨b2, rfl, h⟩ := hq
  refine k_if_eq (tgt := 44) cx dX8_line_20 (by decide) (fun hc => ?_) (fun hc => ?_)
  · replace h := h.1 hc
    refine k_iconst (v := (0 : Int32)) cx dX8_line_44 (by decide +kernel) ?_
    exact k_weak h (lsLe.keep (lsLe.keep (lsLe.keep (lsLe.keep (lsLe.keep (lsLe.keep (lsLe.keep (lsLe.keep lsLe.nil))))))))
  · replace h := h.2 hc
    refine k_iload_n cx dX8_line_23 rfl rfl ?_
    refine k_iconst (v := (0 : Int32)) cx dX8_line_24 (by decide +kernel) ?_
    refine k_aload_n cx dX8_line_25 rfl rfl ?_
    refine k_get (o := some p_MO_parts) (v := .ref p_MO_parts) cx fl_X8_26 ob_MO rfl rfl dX8_line_26 ?_
    refine k_iload cx dX8_line_29 rfl ?_
    obtain ⟨hi, h⟩ := h
    refine k_iald cx ar_MO_parts hi dX8_line_31 ?_
    refine k_iconst (v := (1 : Int32)) cx dX8_line_32 (by decide +kernel) ?_
    refine k_isub cx dX8_line_33 ?_
    refine k_callS (As := [.int x2, .int (0 : Int32), .int ((μ1 p_MO_parts ((μ p_MO 8)).toNatClampNeg) - (1 : Int32))]) (rest := []) cx (m_X8_isIn h) cv_X8_111 rfl rfl (Nat.le_of_ble_eq_true rfl) ⟨Nat.le_of_ble_eq_true rfl, Nat.le_of_ble_eq_true rfl⟩ dX8_line_34 (fun v μ3 hq => ?_)
    obtain ⟨b4, rfl, h⟩ := hq
    refine k_if_eq (tgt := 44) cx dX8_line_37 (by decide) (fun hc => ?_) (fun hc => ?_)
    · replace h := h.1 hc
      refine k_iconst (v := (0 : Int32)) cx dX8_line_44 (by decide +kernel) ?_
      exact k_weak h (lsLe.keep (lsLe.keep (lsLe.keep (lsLe.keep (lsLe.keep (lsLe.keep (lsLe.keep (lsLe.keep lsLe.nil))))))))
    · replace h := h.2 hc
      refine k_iconst (v := (1 : Int32)) cx dX8_line_40 (by decide +kernel) ?_
      refine k_goto (tgt := 45) cx dX8_line_41 (by decide) ?_
      exact k_weak h (lsLe.keep (lsLe.keep (lsLe.keep (lsLe.keep (lsLe.keep (lsLe.keep (lsLe.keep (lsLe.keep lsLe.nil))))))))
theorem m_X8_line {g : GE} {l : Launch} {μ : Mm} {q : Int32 → Mm → Prop} {x1 : Int32} {x2 : Int32} {x3 : Int32}  (h : Wp_X8_line  x1 x2 x3 μ q) : MW g l yX8_line cX8_line 8 (some .int) 1 24 [.ref p_MO, .int x1, .int x2, .int x3] μ (qI q) := by
  refine met_of (by decide) (Nat.le_of_ble_eq_true rfl) (by intro v hv; simp only [List.mem_cons, List.not_mem_nil, or_false] at hv; rcases hv with rfl | rfl | rfl | rfl <;> rfl) ?_
  intro f hfl cx hr hl hQ
  exact b_X8_line_e  cx hr hl hQ (h (KK_X8_line_45 g f ) (KK_X8_line_67 g f ) (KK_X8_line_102 g f ) (fun _ _ _ _ _ _ h => b_X8_line_45  cx hr hl hQ h) (fun _ _ _ _ _ _ _ h => b_X8_line_67  cx hr hl hQ h) (fun _ _ _ _ _ _ h => b_X8_line_102  cx hr hl hQ h))
theorem dX8_link_0 : decode cX8_link 0 = .ok (.aload_n 0, 1) := by decide +kernel
theorem dX8_link_1 : decode cX8_link 1 = .ok (.iload_n 1, 1) := by decide +kernel
theorem dX8_link_2 : decode cX8_link 2 = .ok (.invokevirtual 125, 3) := by decide +kernel
theorem dX8_link_5 : decode cX8_link 5 = .ok (.ifCond .eq 15, 3) := by decide +kernel
theorem dX8_link_8 : decode cX8_link 8 = .ok (.aload_n 0, 1) := by decide +kernel
theorem dX8_link_9 : decode cX8_link 9 = .ok (.iload_n 2, 1) := by decide +kernel
theorem dX8_link_10 : decode cX8_link 10 = .ok (.invokevirtual 125, 3) := by decide +kernel
theorem dX8_link_13 : decode cX8_link 13 = .ok (.ifCond .eq 7, 3) := by decide +kernel
theorem dX8_link_16 : decode cX8_link 16 = .ok (.iconst 1, 1) := by decide +kernel
theorem dX8_link_17 : decode cX8_link 17 = .ok (.goto 4, 3) := by decide +kernel
theorem dX8_link_20 : decode cX8_link 20 = .ok (.iconst 0, 1) := by decide +kernel
theorem dX8_link_21 : decode cX8_link 21 = .ok (.istore 4, 2) := by decide +kernel
theorem dX8_link_23 : decode cX8_link 23 = .ok (.iload_n 1, 1) := by decide +kernel
theorem dX8_link_24 : decode cX8_link 24 = .ok (.iload_n 2, 1) := by decide +kernel
theorem dX8_link_25 : decode cX8_link 25 = .ok (.if_icmp .eq 17, 3) := by decide +kernel
theorem dX8_link_28 : decode cX8_link 28 = .ok (.iload_n 3, 1) := by decide +kernel
theorem dX8_link_29 : decode cX8_link 29 = .ok (.iconst 1, 1) := by decide +kernel
theorem dX8_link_30 : decode cX8_link 30 = .ok (.bipush 99, 2) := by decide +kernel
theorem dX8_link_32 : decode cX8_link 32 = .ok (.invokestatic 111, 3) := by decide +kernel
theorem dX8_link_35 : decode cX8_link 35 = .ok (.ifCond .eq 7, 3) := by decide +kernel
theorem dX8_link_38 : decode cX8_link 38 = .ok (.iconst 1, 1) := by decide +kernel
theorem dX8_link_39 : decode cX8_link 39 = .ok (.goto 4, 3) := by decide +kernel
theorem dX8_link_42 : decode cX8_link 42 = .ok (.iconst 0, 1) := by decide +kernel
theorem dX8_link_43 : decode cX8_link 43 = .ok (.istore 5, 2) := by decide +kernel
theorem dX8_link_45 : decode cX8_link 45 = .ok (.aload_n 0, 1) := by decide +kernel
theorem dX8_link_46 : decode cX8_link 46 = .ok (.iload 4, 2) := by decide +kernel
theorem dX8_link_48 : decode cX8_link 48 = .ok (.ifCond .ne 7, 3) := by decide +kernel
theorem dX8_link_51 : decode cX8_link 51 = .ok (.iconst 1, 1) := by decide +kernel
theorem dX8_link_52 : decode cX8_link 52 = .ok (.goto 35, 3) := by decide +kernel
theorem dX8_link_55 : decode cX8_link 55 = .ok (.iload 5, 2) := by decide +kernel
theorem dX8_link_57 : decode cX8_link 57 = .ok (.ifCond .ne 7, 3) := by decide +kernel
theorem dX8_link_60 : decode cX8_link 60 = .ok (.iconst 2, 1) := by decide +kernel
theorem dX8_link_61 : decode cX8_link 61 = .ok (.goto 26, 3) := by decide +kernel
theorem dX8_link_64 : decode cX8_link 64 = .ok (.aload_n 0, 1) := by decide +kernel
theorem dX8_link_65 : decode cX8_link 65 = .ok (.getfield 115, 3) := by decide +kernel
theorem dX8_link_68 : decode cX8_link 68 = .ok (.bipush 9, 2) := by decide +kernel
theorem dX8_link_70 : decode cX8_link 70 = .ok (.if_icmp .eq 12, 3) := by decide +kernel
theorem dX8_link_73 : decode cX8_link 73 = .ok (.aload_n 0, 1) := by decide +kernel
theorem dX8_link_74 : decode cX8_link 74 = .ok (.iload_n 1, 1) := by decide +kernel
theorem dX8_link_75 : decode cX8_link 75 = .ok (.iload_n 2, 1) := by decide +kernel
theorem dX8_link_76 : decode cX8_link 76 = .ok (.invokevirtual 128, 3) := by decide +kernel
theorem dX8_link_79 : decode cX8_link 79 = .ok (.ifCond .eq 7, 3) := by decide +kernel
theorem dX8_link_82 : decode cX8_link 82 = .ok (.iconst 3, 1) := by decide +kernel
theorem dX8_link_83 : decode cX8_link 83 = .ok (.goto 4, 3) := by decide +kernel
theorem dX8_link_86 : decode cX8_link 86 = .ok (.iconst 0, 1) := by decide +kernel
theorem dX8_link_87 : decode cX8_link 87 = .ok (.invokevirtual 121, 3) := by decide +kernel
theorem dX8_link_90 : decode cX8_link 90 = .ok (.ifCond .ne 5, 3) := by decide +kernel
theorem dX8_link_93 : decode cX8_link 93 = .ok (.iconst 0, 1) := by decide +kernel
theorem dX8_link_94 : decode cX8_link 94 = .ok (.ireturn, 1) := by decide +kernel
theorem dX8_link_95 : decode cX8_link 95 = .ok (.aload_n 0, 1) := by decide +kernel
theorem dX8_link_96 : decode cX8_link 96 = .ok (.getfield 13, 3) := by decide +kernel
theorem dX8_link_99 : decode cX8_link 99 = .ok (.aload_n 0, 1) := by decide +kernel
theorem dX8_link_100 : decode cX8_link 100 = .ok (.getfield 115, 3) := by decide +kernel
theorem dX8_link_103 : decode cX8_link 103 = .ok (.iload_n 1, 1) := by decide +kernel
theorem dX8_link_104 : decode cX8_link 104 = .ok (.iastore, 1) := by decide +kernel
theorem dX8_link_105 : decode cX8_link 105 = .ok (.aload_n 0, 1) := by decide +kernel
theorem dX8_link_106 : decode cX8_link 106 = .ok (.getfield 16, 3) := by decide +kernel
theorem dX8_link_109 : decode cX8_link 109 = .ok (.aload_n 0, 1) := by decide +kernel
theorem dX8_link_110 : decode cX8_link 110 = .ok (.getfield 115, 3) := by decide +kernel
theorem dX8_link_113 : decode cX8_link 113 = .ok (.iload_n 2, 1) := by decide +kernel
theorem dX8_link_114 : decode cX8_link 114 = .ok (.iastore, 1) := by decide +kernel
theorem dX8_link_115 : decode cX8_link 115 = .ok (.aload_n 0, 1) := by decide +kernel
theorem dX8_link_116 : decode cX8_link 116 = .ok (.getfield 19, 3) := by decide +kernel
theorem dX8_link_119 : decode cX8_link 119 = .ok (.aload_n 0, 1) := by decide +kernel
theorem dX8_link_120 : decode cX8_link 120 = .ok (.getfield 115, 3) := by decide +kernel
theorem dX8_link_123 : decode cX8_link 123 = .ok (.iload_n 3, 1) := by decide +kernel
theorem dX8_link_124 : decode cX8_link 124 = .ok (.iastore, 1) := by decide +kernel
theorem dX8_link_125 : decode cX8_link 125 = .ok (.aload_n 0, 1) := by decide +kernel
theorem dX8_link_126 : decode cX8_link 126 = .ok (.dup, 1) := by decide +kernel
theorem dX8_link_127 : decode cX8_link 127 = .ok (.getfield 115, 3) := by decide +kernel
theorem dX8_link_130 : decode cX8_link 130 = .ok (.iconst 1, 1) := by decide +kernel
theorem dX8_link_131 : decode cX8_link 131 = .ok (.iadd, 1) := by decide +kernel
theorem dX8_link_132 : decode cX8_link 132 = .ok (.putfield 115, 3) := by decide +kernel
theorem dX8_link_135 : decode cX8_link 135 = .ok (.aload_n 0, 1) := by decide +kernel
theorem dX8_link_136 : decode cX8_link 136 = .ok (.getfield 115, 3) := by decide +kernel
theorem dX8_link_139 : decode cX8_link 139 = .ok (.iconst 1, 1) := by decide +kernel
theorem dX8_link_140 : decode cX8_link 140 = .ok (.isub, 1) := by decide +kernel
theorem dX8_link_141 : decode cX8_link 141 = .ok (.ireturn, 1) := by decide +kernel
def F_X8_link_21  (K21 : Int32 → Int32 → Int32 → Int32 → Mm → Prop) (K43 : Int32 → Int32 → Int32 → Int32 → Int32 → Mm → Prop) (K87 : Int32 → Int32 → Int32 → Int32 → Mm → Prop) (q : Int32 → Mm → Prop) (x1 : Int32) (x2 : Int32) (x3 : Int32) (y0 : Int32) (μ : Mm) : Prop :=
  ((x1 = x2 → K43 x1 x2 x3 y0 (0 : Int32) μ) ∧ (¬ (x1 = x2) → Wp_X8_isIn x3 (1 : Int32) (99 : Int32) μ (fun b2 μ1 => (((bI b2) = 0 → K43 x1 x2 x3 y0 (0 : Int32) μ1) ∧ (¬ ((bI b2) = 0) → K43 x1 x2 x3 y0 (1 : Int32) μ1)))))
def F_X8_link_43  (K21 : Int32 → Int32 → Int32 → Int32 → Mm → Prop) (K43 : Int32 → Int32 → Int32 → Int32 → Int32 → Mm → Prop) (K87 : Int32 → Int32 → Int32 → Int32 → Mm → Prop) (q : Int32 → Mm → Prop) (x1 : Int32) (x2 : Int32) (x3 : Int32) (x4 : Int32) (y0 : Int32) (μ : Mm) : Prop :=
  ((¬ (x4 = 0) → ((¬ (y0 = 0) → (((μ p_MO 3) = (9 : Int32) → K87 x1 x2 x3 (3 : Int32) μ) ∧ (¬ ((μ p_MO 3) = (9 : Int32)) → Wp_X8_areLinked x1 x2 μ (fun b2 μ1 => (((bI b2) = 0 → K87 x1 x2 x3 (0 : Int32) μ1) ∧ (¬ ((bI b2) = 0) → K87 x1 x2 x3 (3 : Int32) μ1)))))) ∧ (y0 = 0 → K87 x1 x2 x3 (2 : Int32) μ))) ∧ (x4 = 0 → K87 x1 x2 x3 (1 : Int32) μ))
def F_X8_link_87  (K21 : Int32 → Int32 → Int32 → Int32 → Mm → Prop) (K43 : Int32 → Int32 → Int32 → Int32 → Int32 → Mm → Prop) (K87 : Int32 → Int32 → Int32 → Int32 → Mm → Prop) (q : Int32 → Mm → Prop) (x1 : Int32) (x2 : Int32) (x3 : Int32) (y0 : Int32) (μ : Mm) : Prop :=
  Wp_X8_can y0 μ (fun b2 μ1 => ((¬ ((bI b2) = 0) → vp_in (μ1 p_MO 3) 9 ∧ vp_in ((up2 μ1 p_MO_one ((μ1 p_MO 3)).toNatClampNeg x1) p_MO 3) 9 ∧ vp_in ((up2 (up2 μ1 p_MO_one ((μ1 p_MO 3)).toNatClampNeg x1) p_MO_other (((up2 μ1 p_MO_one ((μ1 p_MO 3)).toNatClampNeg x1) p_MO 3)).toNatClampNeg x2) p_MO 3) 9 ∧ q (((up2 (up2 (up2 (up2 μ1 p_MO_one ((μ1 p_MO 3)).toNatClampNeg x1) p_MO_other (((up2 μ1 p_MO_one ((μ1 p_MO 3)).toNatClampNeg x1) p_MO 3)).toNatClampNeg x2) p_MO_linkRoom (((up2 (up2 μ1 p_MO_one ((μ1 p_MO 3)).toNatClampNeg x1) p_MO_other (((up2 μ1 p_MO_one ((μ1 p_MO 3)).toNatClampNeg x1) p_MO 3)).toNatClampNeg x2) p_MO 3)).toNatClampNeg x3) p_MO 3 (((up2 (up2 (up2 μ1 p_MO_one ((μ1 p_MO 3)).toNatClampNeg x1) p_MO_other (((up2 μ1 p_MO_one ((μ1 p_MO 3)).toNatClampNeg x1) p_MO 3)).toNatClampNeg x2) p_MO_linkRoom (((up2 (up2 μ1 p_MO_one ((μ1 p_MO 3)).toNatClampNeg x1) p_MO_other (((up2 μ1 p_MO_one ((μ1 p_MO 3)).toNatClampNeg x1) p_MO 3)).toNatClampNeg x2) p_MO 3)).toNatClampNeg x3) p_MO 3) + (1 : Int32))) p_MO 3) - (1 : Int32)) (up2 (up2 (up2 (up2 μ1 p_MO_one ((μ1 p_MO 3)).toNatClampNeg x1) p_MO_other (((up2 μ1 p_MO_one ((μ1 p_MO 3)).toNatClampNeg x1) p_MO 3)).toNatClampNeg x2) p_MO_linkRoom (((up2 (up2 μ1 p_MO_one ((μ1 p_MO 3)).toNatClampNeg x1) p_MO_other (((up2 μ1 p_MO_one ((μ1 p_MO 3)).toNatClampNeg x1) p_MO 3)).toNatClampNeg x2) p_MO 3)).toNatClampNeg x3) p_MO 3 (((up2 (up2 (up2 μ1 p_MO_one ((μ1 p_MO 3)).toNatClampNeg x1) p_MO_other (((up2 μ1 p_MO_one ((μ1 p_MO 3)).toNatClampNeg x1) p_MO 3)).toNatClampNeg x2) p_MO_linkRoom (((up2 (up2 μ1 p_MO_one ((μ1 p_MO 3)).toNatClampNeg x1) p_MO_other (((up2 μ1 p_MO_one ((μ1 p_MO 3)).toNatClampNeg x1) p_MO 3)).toNatClampNeg x2) p_MO 3)).toNatClampNeg x3) p_MO 3) + (1 : Int32)))) ∧ ((bI b2) = 0 → q (0 : Int32) μ1)))
def F_X8_link_e  (K21 : Int32 → Int32 → Int32 → Int32 → Mm → Prop) (K43 : Int32 → Int32 → Int32 → Int32 → Int32 → Mm → Prop) (K87 : Int32 → Int32 → Int32 → Int32 → Mm → Prop) (q : Int32 → Mm → Prop) (x1 : Int32) (x2 : Int32) (x3 : Int32) (μ : Mm) : Prop :=
  Wp_X8_isNode x1 μ (fun b2 μ1 => (((bI b2) = 0 → K21 x1 x2 x3 (0 : Int32) μ1) ∧ (¬ ((bI b2) = 0) → Wp_X8_isNode x2 μ1 (fun b4 μ3 => (((bI b4) = 0 → K21 x1 x2 x3 (0 : Int32) μ3) ∧ (¬ ((bI b4) = 0) → K21 x1 x2 x3 (1 : Int32) μ3))))))
def Wp_X8_link  (x1 : Int32) (x2 : Int32) (x3 : Int32) (μ : Mm) (q : Int32 → Mm → Prop) : Prop := ∀ (K21 : Int32 → Int32 → Int32 → Int32 → Mm → Prop) (K43 : Int32 → Int32 → Int32 → Int32 → Int32 → Mm → Prop) (K87 : Int32 → Int32 → Int32 → Int32 → Mm → Prop), (∀ (x1 : Int32) (x2 : Int32) (x3 : Int32) (y0 : Int32) (μ : Mm), F_X8_link_21  K21 K43 K87 q x1 x2 x3 y0 μ → K21 x1 x2 x3 y0 μ) → (∀ (x1 : Int32) (x2 : Int32) (x3 : Int32) (x4 : Int32) (y0 : Int32) (μ : Mm), F_X8_link_43  K21 K43 K87 q x1 x2 x3 x4 y0 μ → K43 x1 x2 x3 x4 y0 μ) → (∀ (x1 : Int32) (x2 : Int32) (x3 : Int32) (y0 : Int32) (μ : Mm), F_X8_link_87  K21 K43 K87 q x1 x2 x3 y0 μ → K87 x1 x2 x3 y0 μ) → F_X8_link_e  K21 K43 K87 q x1 x2 x3 μ
abbrev KK_X8_link_21 (g : GE) (f : FE)  : Int32 → Int32 → Int32 → Int32 → Mm → Prop := fun x1 x2 x3 y0 μ => KW g f 6 0 0 21 [some (.ref p_MO), some (.int x1), some (.int x2), some (.int x3), none, none] [.int y0] μ
abbrev KK_X8_link_43 (g : GE) (f : FE)  : Int32 → Int32 → Int32 → Int32 → Int32 → Mm → Prop := fun x1 x2 x3 x4 y0 μ => KW g f 6 0 0 43 [some (.ref p_MO), some (.int x1), some (.int x2), some (.int x3), some (.int x4), none] [.int y0] μ
abbrev KK_X8_link_87 (g : GE) (f : FE)  : Int32 → Int32 → Int32 → Int32 → Mm → Prop := fun x1 x2 x3 y0 μ => KW g f 6 0 0 87 [some (.ref p_MO), some (.int x1), some (.int x2), some (.int x3), none, none] [.int y0, .ref p_MO] μ
set_option maxHeartbeats 2000000 in
theorem b_X8_link_21  {g : GE} {f : FE} {q : Int32 → Mm → Prop} (cx : Cx g f cX8_link 6 RX8 2 43 0 0) (hr : (f_M f).sig.returnType = (some .int)) (hl : (f_M f).locks = false) (hQ : f_Q f = MQ (f_b f) (QW g (qI q)) (f_a f) (f_s f) 0 0 (fun q => g.2.2.2 ≤ q))  {x1 : Int32} {x2 : Int32} {x3 : Int32} {y0 : Int32} {μ : Mm} (h : F_X8_link_21  (KK_X8_link_21 g f ) (KK_X8_link_43 g f ) (KK_X8_link_87 g f ) q x1 x2 x3 y0 μ) : KK_X8_link_21 g f  x1 x2 x3 y0 μ := by
  unfold F_X8_link_21 at h
  show KW g f 6 0 0 21 [some (.ref p_MO), some (.int x1), some (.int x2), some (.int x3), none, none] [.int y0] μ
  refine k_istore cx dX8_link_21 (by decide) ?_
  refine k_iload_n cx dX8_link_23 rfl rfl ?_
  refine k_iload_n cx dX8_link_24 rfl rfl ?_
  refine k_icmp_eq (tgt := 42) cx dX8_link_25 (by decide) (fun hc => ?_) (fun hc => ?_)
  · replace h := h.1 hc
    refine k_iconst (v := (0 : Int32)) cx dX8_link_42 (by decide +kernel) ?_
    exact k_weak h (lsLe.keep (lsLe.keep (lsLe.keep (lsLe.keep (lsLe.keep (lsLe.keep lsLe.nil))))))
  · replace h := h.2 hc
    refine k_iload_n cx dX8_link_28 rfl rfl ?_
    refine k_iconst (v := (1 : Int32)) cx dX8_link_29 (by decide +kernel) ?_
    refine k_bipush (v := (99 : Int32)) cx dX8_link_30 (by decide +kernel) ?_
    refine k_callS (As := [.int x3, .int (1 : Int32), .int (99 : Int32)]) (rest := []) cx (m_X8_isIn h) cv_X8_111 rfl rfl (Nat.le_of_ble_eq_true rfl) ⟨Nat.le_of_ble_eq_true rfl, Nat.le_of_ble_eq_true rfl⟩ dX8_link_32 (fun v μ1 hq => ?_)
    obtain ⟨b2, rfl, h⟩ := hq
    refine k_if_eq (tgt := 42) cx dX8_link_35 (by decide) (fun hc => ?_) (fun hc => ?_)
    · replace h := h.1 hc
      refine k_iconst (v := (0 : Int32)) cx dX8_link_42 (by decide +kernel) ?_
      exact k_weak h (lsLe.keep (lsLe.keep (lsLe.keep (lsLe.keep (lsLe.keep (lsLe.keep lsLe.nil))))))
    · replace h := h.2 hc
      refine k_iconst (v := (1 : Int32)) cx dX8_link_38 (by decide +kernel) ?_
      refine k_goto (tgt := 43) cx dX8_link_39 (by decide) ?_
      exact k_weak h (lsLe.keep (lsLe.keep (lsLe.keep (lsLe.keep (lsLe.keep (lsLe.keep lsLe.nil))))))
set_option maxHeartbeats 2000000 in
theorem b_X8_link_43  {g : GE} {f : FE} {q : Int32 → Mm → Prop} (cx : Cx g f cX8_link 6 RX8 2 43 0 0) (hr : (f_M f).sig.returnType = (some .int)) (hl : (f_M f).locks = false) (hQ : f_Q f = MQ (f_b f) (QW g (qI q)) (f_a f) (f_s f) 0 0 (fun q => g.2.2.2 ≤ q))  {x1 : Int32} {x2 : Int32} {x3 : Int32} {x4 : Int32} {y0 : Int32} {μ : Mm} (h : F_X8_link_43  (KK_X8_link_21 g f ) (KK_X8_link_43 g f ) (KK_X8_link_87 g f ) q x1 x2 x3 x4 y0 μ) : KK_X8_link_43 g f  x1 x2 x3 x4 y0 μ := by
  unfold F_X8_link_43 at h
  show KW g f 6 0 0 43 [some (.ref p_MO), some (.int x1), some (.int x2), some (.int x3), some (.int x4), none] [.int y0] μ
  refine k_istore cx dX8_link_43 (by decide) ?_
  refine k_aload_n cx dX8_link_45 rfl rfl ?_
  refine k_iload cx dX8_link_46 rfl ?_
  refine k_if_ne (tgt := 55) cx dX8_link_48 (by decide) (fun hc => ?_) (fun hc => ?_)
  · replace h := h.1 hc
    refine k_iload cx dX8_link_55 rfl ?_
    refine k_if_ne (tgt := 64) cx dX8_link_57 (by decide) (fun hc => ?_) (fun hc => ?_)
    · replace h := h.1 hc
      refine k_aload_n cx dX8_link_64 rfl rfl ?_
      refine k_get (o := none) (v := .int (μ p_MO 3)) cx fl_X8_115 ob_MO rfl rfl dX8_link_65 ?_
      refine k_bipush (v := (9 : Int32)) cx dX8_link_68 (by decide +kernel) ?_
      refine k_icmp_eq (tgt := 82) cx dX8_link_70 (by decide) (fun hc => ?_) (fun hc => ?_)
      · replace h := h.1 hc
        refine k_iconst (v := (3 : Int32)) cx dX8_link_82 (by decide +kernel) ?_
        refine k_goto (tgt := 87) cx dX8_link_83 (by decide) ?_
        exact k_weak h (lsLe.keep (lsLe.keep (lsLe.keep (lsLe.keep (lsLe.drop (lsLe.drop lsLe.nil))))))
      · replace h := h.2 hc
        refine k_aload_n cx dX8_link_73 rfl rfl ?_
        refine k_iload_n cx dX8_link_74 rfl rfl ?_
        refine k_iload_n cx dX8_link_75 rfl rfl ?_
        refine k_callV (As := [.int x1, .int x2]) (rest := [.ref p_MO]) cx (m_X8_areLinked h) cv_X8_128 ob_MO rfl rfl rfl rfl (Nat.le_of_ble_eq_true rfl) ⟨Nat.le_of_ble_eq_true rfl, Nat.le_of_ble_eq_true rfl⟩ dX8_link_76 (fun v μ1 hq => ?_)
        obtain ⟨b2, rfl, h⟩ := hq
        refine k_if_eq (tgt := 86) cx dX8_link_79 (by decide) (fun hc => ?_) (fun hc => ?_)
        · replace h := h.1 hc
          refine k_iconst (v := (0 : Int32)) cx dX8_link_86 (by decide +kernel) ?_
          exact k_weak h (lsLe.keep (lsLe.keep (lsLe.keep (lsLe.keep (lsLe.drop (lsLe.drop lsLe.nil))))))
        · replace h := h.2 hc
          refine k_iconst (v := (3 : Int32)) cx dX8_link_82 (by decide +kernel) ?_
          refine k_goto (tgt := 87) cx dX8_link_83 (by decide) ?_
          exact k_weak h (lsLe.keep (lsLe.keep (lsLe.keep (lsLe.keep (lsLe.drop (lsLe.drop lsLe.nil))))))
    · replace h := h.2 hc
      refine k_iconst (v := (2 : Int32)) cx dX8_link_60 (by decide +kernel) ?_
      refine k_goto (tgt := 87) cx dX8_link_61 (by decide) ?_
      exact k_weak h (lsLe.keep (lsLe.keep (lsLe.keep (lsLe.keep (lsLe.drop (lsLe.drop lsLe.nil))))))
  · replace h := h.2 hc
    refine k_iconst (v := (1 : Int32)) cx dX8_link_51 (by decide +kernel) ?_
    refine k_goto (tgt := 87) cx dX8_link_52 (by decide) ?_
    exact k_weak h (lsLe.keep (lsLe.keep (lsLe.keep (lsLe.keep (lsLe.drop (lsLe.drop lsLe.nil))))))
set_option maxHeartbeats 2000000 in
theorem b_X8_link_87  {g : GE} {f : FE} {q : Int32 → Mm → Prop} (cx : Cx g f cX8_link 6 RX8 2 43 0 0) (hr : (f_M f).sig.returnType = (some .int)) (hl : (f_M f).locks = false) (hQ : f_Q f = MQ (f_b f) (QW g (qI q)) (f_a f) (f_s f) 0 0 (fun q => g.2.2.2 ≤ q))  {x1 : Int32} {x2 : Int32} {x3 : Int32} {y0 : Int32} {μ : Mm} (h : F_X8_link_87  (KK_X8_link_21 g f ) (KK_X8_link_43 g f ) (KK_X8_link_87 g f ) q x1 x2 x3 y0 μ) : KK_X8_link_87 g f  x1 x2 x3 y0 μ := by
  unfold F_X8_link_87 at h
  show KW g f 6 0 0 87 [some (.ref p_MO), some (.int x1), some (.int x2), some (.int x3), none, none] [.int y0, .ref p_MO] μ
  refine k_callV (As := [.int y0]) (rest := []) cx (m_X8_can h) cv_X8_121 ob_MO rfl rfl rfl rfl (Nat.le_of_ble_eq_true rfl) ⟨Nat.le_of_ble_eq_true rfl, Nat.le_of_ble_eq_true rfl⟩ dX8_link_87 (fun v μ1 hq => ?_)
  obtain ⟨b2, rfl, h⟩ := hq
  refine k_if_ne (tgt := 95) cx dX8_link_90 (by decide) (fun hc => ?_) (fun hc => ?_)
  · replace h := h.1 hc
    refine k_aload_n cx dX8_link_95 rfl rfl ?_
    refine k_get (o := some p_MO_one) (v := .ref p_MO_one) cx fl_X8_13 ob_MO rfl rfl dX8_link_96 ?_
    refine k_aload_n cx dX8_link_99 rfl rfl ?_
    refine k_get (o := none) (v := .int (μ1 p_MO 3)) cx fl_X8_115 ob_MO rfl rfl dX8_link_100 ?_
    refine k_iload_n cx dX8_link_103 rfl rfl ?_
    obtain ⟨hi, h⟩ := h
    refine k_iast cx ar_MO_one hi dX8_link_104 ?_
    refine k_aload_n cx dX8_link_105 rfl rfl ?_
    refine k_get (o := some p_MO_other) (v := .ref p_MO_other) cx fl_X8_16 ob_MO rfl rfl dX8_link_106 ?_
    refine k_aload_n cx dX8_link_109 rfl rfl ?_
    refine k_get (o := none) (v := .int ((up2 μ1 p_MO_one ((μ1 p_MO 3)).toNatClampNeg x1) p_MO 3)) cx fl_X8_115 ob_MO rfl rfl dX8_link_110 ?_
    refine k_iload_n cx dX8_link_113 rfl rfl ?_
    obtain ⟨hi, h⟩ := h
    refine k_iast cx ar_MO_other hi dX8_link_114 ?_
    refine k_aload_n cx dX8_link_115 rfl rfl ?_
    refine k_get (o := some p_MO_linkRoom) (v := .ref p_MO_linkRoom) cx fl_X8_19 ob_MO rfl rfl dX8_link_116 ?_
    refine k_aload_n cx dX8_link_119 rfl rfl ?_
    refine k_get (o := none) (v := .int ((up2 (up2 μ1 p_MO_one ((μ1 p_MO 3)).toNatClampNeg x1) p_MO_other (((up2 μ1 p_MO_one ((μ1 p_MO 3)).toNatClampNeg x1) p_MO 3)).toNatClampNeg x2) p_MO 3)) cx fl_X8_115 ob_MO rfl rfl dX8_link_120 ?_
    refine k_iload_n cx dX8_link_123 rfl rfl ?_
    obtain ⟨hi, h⟩ := h
    refine k_iast cx ar_MO_linkRoom hi dX8_link_124 ?_
    refine k_aload_n cx dX8_link_125 rfl rfl ?_
    refine k_dup cx dX8_link_126 rfl ?_
    refine k_get (o := none) (v := .int ((up2 (up2 (up2 μ1 p_MO_one ((μ1 p_MO 3)).toNatClampNeg x1) p_MO_other (((up2 μ1 p_MO_one ((μ1 p_MO 3)).toNatClampNeg x1) p_MO 3)).toNatClampNeg x2) p_MO_linkRoom (((up2 (up2 μ1 p_MO_one ((μ1 p_MO 3)).toNatClampNeg x1) p_MO_other (((up2 μ1 p_MO_one ((μ1 p_MO 3)).toNatClampNeg x1) p_MO 3)).toNatClampNeg x2) p_MO 3)).toNatClampNeg x3) p_MO 3)) cx fl_X8_115 ob_MO rfl rfl dX8_link_127 ?_
    refine k_iconst (v := (1 : Int32)) cx dX8_link_130 (by decide +kernel) ?_
    refine k_iadd cx dX8_link_131 ?_
    refine k_put cx fp_X8_115 ob_MO rfl rfl rfl dX8_link_132 ?_
    refine k_aload_n cx dX8_link_135 rfl rfl ?_
    refine k_get (o := none) (v := .int ((up2 (up2 (up2 (up2 μ1 p_MO_one ((μ1 p_MO 3)).toNatClampNeg x1) p_MO_other (((up2 μ1 p_MO_one ((μ1 p_MO 3)).toNatClampNeg x1) p_MO 3)).toNatClampNeg x2) p_MO_linkRoom (((up2 (up2 μ1 p_MO_one ((μ1 p_MO 3)).toNatClampNeg x1) p_MO_other (((up2 μ1 p_MO_one ((μ1 p_MO 3)).toNatClampNeg x1) p_MO 3)).toNatClampNeg x2) p_MO 3)).toNatClampNeg x3) p_MO 3 (((up2 (up2 (up2 μ1 p_MO_one ((μ1 p_MO 3)).toNatClampNeg x1) p_MO_other (((up2 μ1 p_MO_one ((μ1 p_MO 3)).toNatClampNeg x1) p_MO 3)).toNatClampNeg x2) p_MO_linkRoom (((up2 (up2 μ1 p_MO_one ((μ1 p_MO 3)).toNatClampNeg x1) p_MO_other (((up2 μ1 p_MO_one ((μ1 p_MO 3)).toNatClampNeg x1) p_MO 3)).toNatClampNeg x2) p_MO 3)).toNatClampNeg x3) p_MO 3) + (1 : Int32))) p_MO 3)) cx fl_X8_115 ob_MO rfl rfl dX8_link_136 ?_
    refine k_iconst (v := (1 : Int32)) cx dX8_link_139 (by decide +kernel) ?_
    refine k_isub cx dX8_link_140 ?_
    exact k_ret_I cx hr hl hQ dX8_link_141 h
  · replace h := h.2 hc
    refine k_iconst (v := (0 : Int32)) cx dX8_link_93 (by decide +kernel) ?_
    exact k_ret_I cx hr hl hQ dX8_link_94 h
set_option maxHeartbeats 2000000 in
theorem b_X8_link_e  {g : GE} {f : FE} {q : Int32 → Mm → Prop} (cx : Cx g f cX8_link 6 RX8 2 43 0 0) (hr : (f_M f).sig.returnType = (some .int)) (hl : (f_M f).locks = false) (hQ : f_Q f = MQ (f_b f) (QW g (qI q)) (f_a f) (f_s f) 0 0 (fun q => g.2.2.2 ≤ q))  {x1 : Int32} {x2 : Int32} {x3 : Int32} {μ : Mm} (h : F_X8_link_e  (KK_X8_link_21 g f ) (KK_X8_link_43 g f ) (KK_X8_link_87 g f ) q x1 x2 x3 μ) : KW g f 6 0 0 0 [some (.ref p_MO), some (.int x1), some (.int x2), some (.int x3), none, none] [] μ := by
  unfold F_X8_link_e at h
  refine k_aload_n cx dX8_link_0 rfl rfl ?_
  refine k_iload_n cx dX8_link_1 rfl rfl ?_
  refine k_callV (As := [.int x1]) (rest := []) cx (m_X8_isNode h) cv_X8_125 ob_MO rfl rfl rfl rfl (Nat.le_of_ble_eq_true rfl) ⟨Nat.le_of_ble_eq_true rfl, Nat.le_of_ble_eq_true rfl⟩ dX8_link_2 (fun v μ1 hq => ?_)
  obtain ⟨b2, rfl, h⟩ := hq
  refine k_if_eq (tgt := 20) cx dX8_link_5 (by decide) (fun hc => ?_) (fun hc => ?_)
  · replace h := h.1 hc
    refine k_iconst (v := (0 : Int32)) cx dX8_link_20 (by decide +kernel) ?_
    exact k_weak h (lsLe.keep (lsLe.keep (lsLe.keep (lsLe.keep (lsLe.keep (lsLe.keep lsLe.nil))))))
  · replace h := h.2 hc
    refine k_aload_n cx dX8_link_8 rfl rfl ?_
    refine k_iload_n cx dX8_link_9 rfl rfl ?_
    refine k_callV (As := [.int x2]) (rest := []) cx (m_X8_isNode h) cv_X8_125 ob_MO rfl rfl rfl rfl (Nat.le_of_ble_eq_true rfl) ⟨Nat.le_of_ble_eq_true rfl, Nat.le_of_ble_eq_true rfl⟩ dX8_link_10 (fun v μ3 hq => ?_)
    obtain ⟨b4, rfl, h⟩ := hq
    refine k_if_eq (tgt := 20) cx dX8_link_13 (by decide) (fun hc => ?_) (fun hc => ?_)
    · replace h := h.1 hc
      refine k_iconst (v := (0 : Int32)) cx dX8_link_20 (by decide +kernel) ?_
      exact k_weak h (lsLe.keep (lsLe.keep (lsLe.keep (lsLe.keep (lsLe.keep (lsLe.keep lsLe.nil))))))
    · replace h := h.2 hc
      refine k_iconst (v := (1 : Int32)) cx dX8_link_16 (by decide +kernel) ?_
      refine k_goto (tgt := 21) cx dX8_link_17 (by decide) ?_
      exact k_weak h (lsLe.keep (lsLe.keep (lsLe.keep (lsLe.keep (lsLe.keep (lsLe.keep lsLe.nil))))))
theorem m_X8_link {g : GE} {l : Launch} {μ : Mm} {q : Int32 → Mm → Prop} {x1 : Int32} {x2 : Int32} {x3 : Int32}  (h : Wp_X8_link  x1 x2 x3 μ q) : MW g l yX8_link cX8_link 6 (some .int) 2 43 [.ref p_MO, .int x1, .int x2, .int x3] μ (qI q) := by
  refine met_of (by decide) (Nat.le_of_ble_eq_true rfl) (by intro v hv; simp only [List.mem_cons, List.not_mem_nil, or_false] at hv; rcases hv with rfl | rfl | rfl | rfl <;> rfl) ?_
  intro f hfl cx hr hl hQ
  exact b_X8_link_e  cx hr hl hQ (h (KK_X8_link_21 g f ) (KK_X8_link_43 g f ) (KK_X8_link_87 g f ) (fun _ _ _ _ _ h => b_X8_link_21  cx hr hl hQ h) (fun _ _ _ _ _ _ h => b_X8_link_43  cx hr hl hQ h) (fun _ _ _ _ _ h => b_X8_link_87  cx hr hl hQ h))
theorem dX8_load_0 : decode cX8_load 0 = .ok (.aload_n 0, 1) := by decide +kernel
theorem dX8_load_1 : decode cX8_load 1 = .ok (.iload_n 1, 1) := by decide +kernel
theorem dX8_load_2 : decode cX8_load 2 = .ok (.invokevirtual 253, 3) := by decide +kernel
theorem dX8_load_5 : decode cX8_load 5 = .ok (.ifCond .eq 20, 3) := by decide +kernel
theorem dX8_load_8 : decode cX8_load 8 = .ok (.iload_n 2, 1) := by decide +kernel
theorem dX8_load_9 : decode cX8_load 9 = .ok (.iconst (-1), 1) := by decide +kernel
theorem dX8_load_10 : decode cX8_load 10 = .ok (.if_icmp .eq 11, 3) := by decide +kernel
theorem dX8_load_13 : decode cX8_load 13 = .ok (.aload_n 0, 1) := by decide +kernel
theorem dX8_load_14 : decode cX8_load 14 = .ok (.iload_n 2, 1) := by decide +kernel
theorem dX8_load_15 : decode cX8_load 15 = .ok (.invokevirtual 253, 3) := by decide +kernel
theorem dX8_load_18 : decode cX8_load 18 = .ok (.ifCond .eq 7, 3) := by decide +kernel
theorem dX8_load_21 : decode cX8_load 21 = .ok (.iconst 1, 1) := by decide +kernel
theorem dX8_load_22 : decode cX8_load 22 = .ok (.goto 4, 3) := by decide +kernel
theorem dX8_load_25 : decode cX8_load 25 = .ok (.iconst 0, 1) := by decide +kernel
theorem dX8_load_26 : decode cX8_load 26 = .ok (.istore_n 3, 1) := by decide +kernel
theorem dX8_load_27 : decode cX8_load 27 = .ok (.aload_n 0, 1) := by decide +kernel
theorem dX8_load_28 : decode cX8_load 28 = .ok (.iload_n 3, 1) := by decide +kernel
theorem dX8_load_29 : decode cX8_load 29 = .ok (.ifCond .ne 7, 3) := by decide +kernel
theorem dX8_load_32 : decode cX8_load 32 = .ok (.iconst 1, 1) := by decide +kernel
theorem dX8_load_33 : decode cX8_load 33 = .ok (.goto 13, 3) := by decide +kernel
theorem dX8_load_36 : decode cX8_load 36 = .ok (.iload_n 1, 1) := by decide +kernel
theorem dX8_load_37 : decode cX8_load 37 = .ok (.iload_n 2, 1) := by decide +kernel
theorem dX8_load_38 : decode cX8_load 38 = .ok (.if_icmp .ne 7, 3) := by decide +kernel
theorem dX8_load_41 : decode cX8_load 41 = .ok (.iconst 2, 1) := by decide +kernel
theorem dX8_load_42 : decode cX8_load 42 = .ok (.goto 4, 3) := by decide +kernel
theorem dX8_load_45 : decode cX8_load 45 = .ok (.iconst 0, 1) := by decide +kernel
theorem dX8_load_46 : decode cX8_load 46 = .ok (.invokevirtual 121, 3) := by decide +kernel
theorem dX8_load_49 : decode cX8_load 49 = .ok (.ifCond .ne 5, 3) := by decide +kernel
theorem dX8_load_52 : decode cX8_load 52 = .ok (.iconst 0, 1) := by decide +kernel
theorem dX8_load_53 : decode cX8_load 53 = .ok (.ireturn, 1) := by decide +kernel
theorem dX8_load_54 : decode cX8_load 54 = .ok (.iload_n 2, 1) := by decide +kernel
theorem dX8_load_55 : decode cX8_load 55 = .ok (.iconst (-1), 1) := by decide +kernel
theorem dX8_load_56 : decode cX8_load 56 = .ok (.if_icmp .ne 7, 3) := by decide +kernel
theorem dX8_load_59 : decode cX8_load 59 = .ok (.iconst 0, 1) := by decide +kernel
theorem dX8_load_60 : decode cX8_load 60 = .ok (.goto 6, 3) := by decide +kernel
theorem dX8_load_63 : decode cX8_load 63 = .ok (.iconst 1, 1) := by decide +kernel
theorem dX8_load_64 : decode cX8_load 64 = .ok (.iload_n 2, 1) := by decide +kernel
theorem dX8_load_65 : decode cX8_load 65 = .ok (.ishl, 1) := by decide +kernel
theorem dX8_load_66 : decode cX8_load 66 = .ok (.istore 4, 2) := by decide +kernel
theorem dX8_load_68 : decode cX8_load 68 = .ok (.iconst 0, 1) := by decide +kernel
theorem dX8_load_69 : decode cX8_load 69 = .ok (.istore 5, 2) := by decide +kernel
theorem dX8_load_71 : decode cX8_load 71 = .ok (.iconst 0, 1) := by decide +kernel
theorem dX8_load_72 : decode cX8_load 72 = .ok (.istore 6, 2) := by decide +kernel
theorem dX8_load_74 : decode cX8_load 74 = .ok (.iload 6, 2) := by decide +kernel
theorem dX8_load_76 : decode cX8_load 76 = .ok (.iconst 3, 1) := by decide +kernel
theorem dX8_load_77 : decode cX8_load 77 = .ok (.aload_n 0, 1) := by decide +kernel
theorem dX8_load_78 : decode cX8_load 78 = .ok (.getfield 118, 3) := by decide +kernel
theorem dX8_load_81 : decode cX8_load 81 = .ok (.imul, 1) := by decide +kernel
theorem dX8_load_82 : decode cX8_load 82 = .ok (.if_icmp .ge 178, 3) := by decide +kernel
theorem dX8_load_85 : decode cX8_load 85 = .ok (.aload_n 0, 1) := by decide +kernel
theorem dX8_load_86 : decode cX8_load 86 = .ok (.getfield 62, 3) := by decide +kernel
theorem dX8_load_89 : decode cX8_load 89 = .ok (.iload 6, 2) := by decide +kernel
theorem dX8_load_91 : decode cX8_load 91 = .ok (.iconst 3, 1) := by decide +kernel
theorem dX8_load_92 : decode cX8_load 92 = .ok (.idiv, 1) := by decide +kernel
theorem dX8_load_93 : decode cX8_load 93 = .ok (.baload, 1) := by decide +kernel
theorem dX8_load_94 : decode cX8_load 94 = .ok (.ifCond .ne 160, 3) := by decide +kernel
theorem dX8_load_97 : decode cX8_load 97 = .ok (.iload 6, 2) := by decide +kernel
theorem dX8_load_99 : decode cX8_load 99 = .ok (.iconst 3, 1) := by decide +kernel
theorem dX8_load_100 : decode cX8_load 100 = .ok (.irem, 1) := by decide +kernel
theorem dX8_load_101 : decode cX8_load 101 = .ok (.aload_n 0, 1) := by decide +kernel
theorem dX8_load_102 : decode cX8_load 102 = .ok (.getfield 29, 3) := by decide +kernel
theorem dX8_load_105 : decode cX8_load 105 = .ok (.iload 6, 2) := by decide +kernel
theorem dX8_load_107 : decode cX8_load 107 = .ok (.iconst 3, 1) := by decide +kernel
theorem dX8_load_108 : decode cX8_load 108 = .ok (.idiv, 1) := by decide +kernel
theorem dX8_load_109 : decode cX8_load 109 = .ok (.iaload, 1) := by decide +kernel
theorem dX8_load_110 : decode cX8_load 110 = .ok (.if_icmp .ge 144, 3) := by decide +kernel
theorem dX8_load_113 : decode cX8_load 113 = .ok (.aload_n 0, 1) := by decide +kernel
theorem dX8_load_114 : decode cX8_load 114 = .ok (.getfield 53, 3) := by decide +kernel
theorem dX8_load_117 : decode cX8_load 117 = .ok (.iload 6, 2) := by decide +kernel
theorem dX8_load_119 : decode cX8_load 119 = .ok (.iaload, 1) := by decide +kernel
theorem dX8_load_120 : decode cX8_load 120 = .ok (.aload_n 0, 1) := by decide +kernel
theorem dX8_load_121 : decode cX8_load 121 = .ok (.getfield 56, 3) := by decide +kernel
theorem dX8_load_124 : decode cX8_load 124 = .ok (.iload 6, 2) := by decide +kernel
theorem dX8_load_126 : decode cX8_load 126 = .ok (.iaload, 1) := by decide +kernel
theorem dX8_load_127 : decode cX8_load 127 = .ok (.ior, 1) := by decide +kernel
theorem dX8_load_128 : decode cX8_load 128 = .ok (.iload 4, 2) := by decide +kernel
theorem dX8_load_130 : decode cX8_load 130 = .ok (.iand, 1) := by decide +kernel
theorem dX8_load_131 : decode cX8_load 131 = .ok (.ifCond .ne 7, 3) := by decide +kernel
theorem dX8_load_134 : decode cX8_load 134 = .ok (.iconst 1, 1) := by decide +kernel
theorem dX8_load_135 : decode cX8_load 135 = .ok (.goto 4, 3) := by decide +kernel
theorem dX8_load_138 : decode cX8_load 138 = .ok (.iconst 0, 1) := by decide +kernel
theorem dX8_load_139 : decode cX8_load 139 = .ok (.istore 7, 2) := by decide +kernel
theorem dX8_load_141 : decode cX8_load 141 = .ok (.iload 5, 2) := by decide +kernel
theorem dX8_load_143 : decode cX8_load 143 = .ok (.iload 7, 2) := by decide +kernel
theorem dX8_load_145 : decode cX8_load 145 = .ok (.ifCond .eq 27, 3) := by decide +kernel
theorem dX8_load_148 : decode cX8_load 148 = .ok (.aload_n 0, 1) := by decide +kernel
theorem dX8_load_149 : decode cX8_load 149 = .ok (.getfield 53, 3) := by decide +kernel
theorem dX8_load_152 : decode cX8_load 152 = .ok (.iload 6, 2) := by decide +kernel
theorem dX8_load_154 : decode cX8_load 154 = .ok (.iaload, 1) := by decide +kernel
theorem dX8_load_155 : decode cX8_load 155 = .ok (.iload_n 1, 1) := by decide +kernel
theorem dX8_load_156 : decode cX8_load 156 = .ok (.invokestatic 136, 3) := by decide +kernel
theorem dX8_load_159 : decode cX8_load 159 = .ok (.ifCond .eq 13, 3) := by decide +kernel
theorem dX8_load_162 : decode cX8_load 162 = .ok (.aload_n 0, 1) := by decide +kernel
theorem dX8_load_163 : decode cX8_load 163 = .ok (.getfield 50, 3) := by decide +kernel
theorem dX8_load_166 : decode cX8_load 166 = .ok (.iload 6, 2) := by decide +kernel
theorem dX8_load_168 : decode cX8_load 168 = .ok (.iaload, 1) := by decide +kernel
theorem dX8_load_169 : decode cX8_load 169 = .ok (.goto 4, 3) := by decide +kernel
theorem dX8_load_172 : decode cX8_load 172 = .ok (.iconst 0, 1) := by decide +kernel
theorem dX8_load_173 : decode cX8_load 173 = .ok (.iadd, 1) := by decide +kernel
theorem dX8_load_174 : decode cX8_load 174 = .ok (.istore 5, 2) := by decide +kernel
theorem dX8_load_176 : decode cX8_load 176 = .ok (.iload 5, 2) := by decide +kernel
theorem dX8_load_178 : decode cX8_load 178 = .ok (.iload 7, 2) := by decide +kernel
theorem dX8_load_180 : decode cX8_load 180 = .ok (.ifCond .eq 35, 3) := by decide +kernel
theorem dX8_load_183 : decode cX8_load 183 = .ok (.aload_n 0, 1) := by decide +kernel
theorem dX8_load_184 : decode cX8_load 184 = .ok (.getfield 56, 3) := by decide +kernel
theorem dX8_load_187 : decode cX8_load 187 = .ok (.iload 6, 2) := by decide +kernel
theorem dX8_load_189 : decode cX8_load 189 = .ok (.iaload, 1) := by decide +kernel
theorem dX8_load_190 : decode cX8_load 190 = .ok (.iload_n 1, 1) := by decide +kernel
theorem dX8_load_191 : decode cX8_load 191 = .ok (.invokestatic 136, 3) := by decide +kernel
theorem dX8_load_194 : decode cX8_load 194 = .ok (.ifCond .eq 21, 3) := by decide +kernel
theorem dX8_load_197 : decode cX8_load 197 = .ok (.aload_n 0, 1) := by decide +kernel
theorem dX8_load_198 : decode cX8_load 198 = .ok (.getfield 47, 3) := by decide +kernel
theorem dX8_load_201 : decode cX8_load 201 = .ok (.iload 6, 2) := by decide +kernel
theorem dX8_load_203 : decode cX8_load 203 = .ok (.iaload, 1) := by decide +kernel
theorem dX8_load_204 : decode cX8_load 204 = .ok (.aload_n 0, 1) := by decide +kernel
theorem dX8_load_205 : decode cX8_load 205 = .ok (.getfield 50, 3) := by decide +kernel
theorem dX8_load_208 : decode cX8_load 208 = .ok (.iload 6, 2) := by decide +kernel
theorem dX8_load_210 : decode cX8_load 210 = .ok (.iaload, 1) := by decide +kernel
theorem dX8_load_211 : decode cX8_load 211 = .ok (.isub, 1) := by decide +kernel
theorem dX8_load_212 : decode cX8_load 212 = .ok (.goto 4, 3) := by decide +kernel
theorem dX8_load_215 : decode cX8_load 215 = .ok (.iconst 0, 1) := by decide +kernel
theorem dX8_load_216 : decode cX8_load 216 = .ok (.iadd, 1) := by decide +kernel
theorem dX8_load_217 : decode cX8_load 217 = .ok (.istore 5, 2) := by decide +kernel
theorem dX8_load_219 : decode cX8_load 219 = .ok (.iload 5, 2) := by decide +kernel
theorem dX8_load_221 : decode cX8_load 221 = .ok (.iload 7, 2) := by decide +kernel
theorem dX8_load_223 : decode cX8_load 223 = .ok (.ifCond .ne 27, 3) := by decide +kernel
theorem dX8_load_226 : decode cX8_load 226 = .ok (.aload_n 0, 1) := by decide +kernel
theorem dX8_load_227 : decode cX8_load 227 = .ok (.getfield 59, 3) := by decide +kernel
theorem dX8_load_230 : decode cX8_load 230 = .ok (.iload 6, 2) := by decide +kernel
theorem dX8_load_232 : decode cX8_load 232 = .ok (.iaload, 1) := by decide +kernel
theorem dX8_load_233 : decode cX8_load 233 = .ok (.iload_n 1, 1) := by decide +kernel
theorem dX8_load_234 : decode cX8_load 234 = .ok (.invokestatic 136, 3) := by decide +kernel
theorem dX8_load_237 : decode cX8_load 237 = .ok (.ifCond .eq 13, 3) := by decide +kernel
theorem dX8_load_240 : decode cX8_load 240 = .ok (.aload_n 0, 1) := by decide +kernel
theorem dX8_load_241 : decode cX8_load 241 = .ok (.getfield 47, 3) := by decide +kernel
theorem dX8_load_244 : decode cX8_load 244 = .ok (.iload 6, 2) := by decide +kernel
theorem dX8_load_246 : decode cX8_load 246 = .ok (.iaload, 1) := by decide +kernel
theorem dX8_load_247 : decode cX8_load 247 = .ok (.goto 4, 3) := by decide +kernel
theorem dX8_load_250 : decode cX8_load 250 = .ok (.iconst 0, 1) := by decide +kernel
theorem dX8_load_251 : decode cX8_load 251 = .ok (.iadd, 1) := by decide +kernel
theorem dX8_load_252 : decode cX8_load 252 = .ok (.istore 5, 2) := by decide +kernel
theorem dX8_load_254 : decode cX8_load 254 = .ok (.iinc 6 1, 3) := by decide +kernel
theorem dX8_load_257 : decode cX8_load 257 = .ok (.goto (-183), 3) := by decide +kernel
theorem dX8_load_260 : decode cX8_load 260 = .ok (.iload 5, 2) := by decide +kernel
theorem dX8_load_262 : decode cX8_load 262 = .ok (.ireturn, 1) := by decide +kernel
def F_X8_load_26  (K26 : Int32 → Int32 → Int32 → Mm → Prop) (K46 : Int32 → Int32 → Int32 → Mm → Prop) (K74 : Int32 → Int32 → Int32 → Int32 → Mm → Prop) (K139 : Int32 → Int32 → Int32 → Int32 → Int32 → Mm → Prop) (K173 : Int32 → Int32 → Int32 → Int32 → Int32 → Int32 → Mm → Prop) (K216 : Int32 → Int32 → Int32 → Int32 → Int32 → Int32 → Mm → Prop) (q : Int32 → Mm → Prop) (x1 : Int32) (x2 : Int32) (y0 : Int32) (μ : Mm) : Prop :=
  ((¬ (y0 = 0) → ((¬ (x1 = x2) → K46 x1 x2 (0 : Int32) μ) ∧ (x1 = x2 → K46 x1 x2 (2 : Int32) μ))) ∧ (y0 = 0 → K46 x1 x2 (1 : Int32) μ))
def F_X8_load_46  (K26 : Int32 → Int32 → Int32 → Mm → Prop) (K46 : Int32 → Int32 → Int32 → Mm → Prop) (K74 : Int32 → Int32 → Int32 → Int32 → Mm → Prop) (K139 : Int32 → Int32 → Int32 → Int32 → Int32 → Mm → Prop) (K173 : Int32 → Int32 → Int32 → Int32 → Int32 → Int32 → Mm → Prop) (K216 : Int32 → Int32 → Int32 → Int32 → Int32 → Int32 → Mm → Prop) (q : Int32 → Mm → Prop) (x1 : Int32) (x2 : Int32) (y0 : Int32) (μ : Mm) : Prop :=
  Wp_X8_can y0 μ (fun b2 μ1 => ((¬ ((bI b2) = 0) → ((¬ (x2 = (-1 : Int32)) → K74 x1 ((1 : Int32) <<< (x2 &&& 31)) (0 : Int32) (0 : Int32) μ1) ∧ (x2 = (-1 : Int32) → K74 x1 (0 : Int32) (0 : Int32) (0 : Int32) μ1))) ∧ ((bI b2) = 0 → q (0 : Int32) μ1)))
def F_X8_load_74  (K26 : Int32 → Int32 → Int32 → Mm → Prop) (K46 : Int32 → Int32 → Int32 → Mm → Prop) (K74 : Int32 → Int32 → Int32 → Int32 → Mm → Prop) (K139 : Int32 → Int32 → Int32 → Int32 → Int32 → Mm → Prop) (K173 : Int32 → Int32 → Int32 → Int32 → Int32 → Int32 → Mm → Prop) (K216 : Int32 → Int32 → Int32 → Int32 → Int32 → Int32 → Mm → Prop) (q : Int32 → Mm → Prop) (x1 : Int32) (x4 : Int32) (x5 : Int32) (x6 : Int32) (μ : Mm) : Prop :=
  ((((3 : Int32) * (μ p_MO 8)) ≤ x6 → q x5 μ) ∧ (¬ (((3 : Int32) * (μ p_MO 8)) ≤ x6) → vp_in (x6 / (3 : Int32)) 13 ∧ ((¬ ((μ p_MO_hasEnded ((x6 / (3 : Int32))).toNatClampNeg) = 0) → K74 x1 x4 x5 (x6 + (1 : Int32)) μ) ∧ ((μ p_MO_hasEnded ((x6 / (3 : Int32))).toNatClampNeg) = 0 → vp_in (x6 / (3 : Int32)) 13 ∧ (((μ p_MO_lines ((x6 / (3 : Int32))).toNatClampNeg) ≤ (x6 - x6 / (3 : Int32) * (3 : Int32)) → K74 x1 x4 x5 (x6 + (1 : Int32)) μ) ∧ (¬ ((μ p_MO_lines ((x6 / (3 : Int32))).toNatClampNeg) ≤ (x6 - x6 / (3 : Int32) * (3 : Int32))) → vp_in x6 39 ∧ vp_in x6 39 ∧ ((¬ ((((μ p_MO_way (x6).toNatClampNeg) ||| (μ p_MO_rest (x6).toNatClampNeg)) &&& x4) = 0) → K139 x1 x4 x5 x6 (0 : Int32) μ) ∧ ((((μ p_MO_way (x6).toNatClampNeg) ||| (μ p_MO_rest (x6).toNatClampNeg)) &&& x4) = 0 → K139 x1 x4 x5 x6 (1 : Int32) μ))))))))
def F_X8_load_139  (K26 : Int32 → Int32 → Int32 → Mm → Prop) (K46 : Int32 → Int32 → Int32 → Mm → Prop) (K74 : Int32 → Int32 → Int32 → Int32 → Mm → Prop) (K139 : Int32 → Int32 → Int32 → Int32 → Int32 → Mm → Prop) (K173 : Int32 → Int32 → Int32 → Int32 → Int32 → Int32 → Mm → Prop) (K216 : Int32 → Int32 → Int32 → Int32 → Int32 → Int32 → Mm → Prop) (q : Int32 → Mm → Prop) (x1 : Int32) (x4 : Int32) (x5 : Int32) (x6 : Int32) (y0 : Int32) (μ : Mm) : Prop :=
  ((y0 = 0 → K173 x1 x4 x6 y0 (0 : Int32) x5 μ) ∧ (¬ (y0 = 0) → vp_in x6 39 ∧ Wp_X8_has (μ p_MO_way (x6).toNatClampNeg) x1 μ (fun b2 μ1 => (((bI b2) = 0 → K173 x1 x4 x6 y0 (0 : Int32) x5 μ1) ∧ (¬ ((bI b2) = 0) → vp_in x6 39 ∧ K173 x1 x4 x6 y0 (μ1 p_MO_amount (x6).toNatClampNeg) x5 μ1)))))
def F_X8_load_173  (K26 : Int32 → Int32 → Int32 → Mm → Prop) (K46 : Int32 → Int32 → Int32 → Mm → Prop) (K74 : Int32 → Int32 → Int32 → Int32 → Mm → Prop) (K139 : Int32 → Int32 → Int32 → Int32 → Int32 → Mm → Prop) (K173 : Int32 → Int32 → Int32 → Int32 → Int32 → Int32 → Mm → Prop) (K216 : Int32 → Int32 → Int32 → Int32 → Int32 → Int32 → Mm → Prop) (q : Int32 → Mm → Prop) (x1 : Int32) (x4 : Int32) (x6 : Int32) (x7 : Int32) (y0 : Int32) (y1 : Int32) (μ : Mm) : Prop :=
  ((x7 = 0 → K216 x1 x4 x6 x7 (0 : Int32) (y1 + y0) μ) ∧ (¬ (x7 = 0) → vp_in x6 39 ∧ Wp_X8_has (μ p_MO_rest (x6).toNatClampNeg) x1 μ (fun b2 μ1 => (((bI b2) = 0 → K216 x1 x4 x6 x7 (0 : Int32) (y1 + y0) μ1) ∧ (¬ ((bI b2) = 0) → vp_in x6 39 ∧ vp_in x6 39 ∧ K216 x1 x4 x6 x7 ((μ1 p_MO_lineNeed (x6).toNatClampNeg) - (μ1 p_MO_amount (x6).toNatClampNeg)) (y1 + y0) μ1)))))
def F_X8_load_216  (K26 : Int32 → Int32 → Int32 → Mm → Prop) (K46 : Int32 → Int32 → Int32 → Mm → Prop) (K74 : Int32 → Int32 → Int32 → Int32 → Mm → Prop) (K139 : Int32 → Int32 → Int32 → Int32 → Int32 → Mm → Prop) (K173 : Int32 → Int32 → Int32 → Int32 → Int32 → Int32 → Mm → Prop) (K216 : Int32 → Int32 → Int32 → Int32 → Int32 → Int32 → Mm → Prop) (q : Int32 → Mm → Prop) (x1 : Int32) (x4 : Int32) (x6 : Int32) (x7 : Int32) (y0 : Int32) (y1 : Int32) (μ : Mm) : Prop :=
  ((¬ (x7 = 0) → K74 x1 x4 ((y1 + y0) + (0 : Int32)) (x6 + (1 : Int32)) μ) ∧ (x7 = 0 → vp_in x6 39 ∧ Wp_X8_has (μ p_MO_second (x6).toNatClampNeg) x1 μ (fun b2 μ1 => (((bI b2) = 0 → K74 x1 x4 ((y1 + y0) + (0 : Int32)) (x6 + (1 : Int32)) μ1) ∧ (¬ ((bI b2) = 0) → vp_in x6 39 ∧ K74 x1 x4 ((y1 + y0) + (μ1 p_MO_lineNeed (x6).toNatClampNeg)) (x6 + (1 : Int32)) μ1)))))
def F_X8_load_e  (K26 : Int32 → Int32 → Int32 → Mm → Prop) (K46 : Int32 → Int32 → Int32 → Mm → Prop) (K74 : Int32 → Int32 → Int32 → Int32 → Mm → Prop) (K139 : Int32 → Int32 → Int32 → Int32 → Int32 → Mm → Prop) (K173 : Int32 → Int32 → Int32 → Int32 → Int32 → Int32 → Mm → Prop) (K216 : Int32 → Int32 → Int32 → Int32 → Int32 → Int32 → Mm → Prop) (q : Int32 → Mm → Prop) (x1 : Int32) (x2 : Int32) (μ : Mm) : Prop :=
  Wp_X8_isLink x1 μ (fun b2 μ1 => (((bI b2) = 0 → K26 x1 x2 (0 : Int32) μ1) ∧ (¬ ((bI b2) = 0) → ((x2 = (-1 : Int32) → K26 x1 x2 (1 : Int32) μ1) ∧ (¬ (x2 = (-1 : Int32)) → Wp_X8_isLink x2 μ1 (fun b4 μ3 => (((bI b4) = 0 → K26 x1 x2 (0 : Int32) μ3) ∧ (¬ ((bI b4) = 0) → K26 x1 x2 (1 : Int32) μ3))))))))
def Wp_X8_load  (x1 : Int32) (x2 : Int32) (μ : Mm) (q : Int32 → Mm → Prop) : Prop := ∀ (K26 : Int32 → Int32 → Int32 → Mm → Prop) (K46 : Int32 → Int32 → Int32 → Mm → Prop) (K74 : Int32 → Int32 → Int32 → Int32 → Mm → Prop) (K139 : Int32 → Int32 → Int32 → Int32 → Int32 → Mm → Prop) (K173 : Int32 → Int32 → Int32 → Int32 → Int32 → Int32 → Mm → Prop) (K216 : Int32 → Int32 → Int32 → Int32 → Int32 → Int32 → Mm → Prop), (∀ (x1 : Int32) (x2 : Int32) (y0 : Int32) (μ : Mm), F_X8_load_26  K26 K46 K74 K139 K173 K216 q x1 x2 y0 μ → K26 x1 x2 y0 μ) → (∀ (x1 : Int32) (x2 : Int32) (y0 : Int32) (μ : Mm), F_X8_load_46  K26 K46 K74 K139 K173 K216 q x1 x2 y0 μ → K46 x1 x2 y0 μ) → (∀ (x1 : Int32) (x4 : Int32) (x5 : Int32) (x6 : Int32) (μ : Mm), F_X8_load_74  K26 K46 K74 K139 K173 K216 q x1 x4 x5 x6 μ → K74 x1 x4 x5 x6 μ) → (∀ (x1 : Int32) (x4 : Int32) (x5 : Int32) (x6 : Int32) (y0 : Int32) (μ : Mm), F_X8_load_139  K26 K46 K74 K139 K173 K216 q x1 x4 x5 x6 y0 μ → K139 x1 x4 x5 x6 y0 μ) → (∀ (x1 : Int32) (x4 : Int32) (x6 : Int32) (x7 : Int32) (y0 : Int32) (y1 : Int32) (μ : Mm), F_X8_load_173  K26 K46 K74 K139 K173 K216 q x1 x4 x6 x7 y0 y1 μ → K173 x1 x4 x6 x7 y0 y1 μ) → (∀ (x1 : Int32) (x4 : Int32) (x6 : Int32) (x7 : Int32) (y0 : Int32) (y1 : Int32) (μ : Mm), F_X8_load_216  K26 K46 K74 K139 K173 K216 q x1 x4 x6 x7 y0 y1 μ → K216 x1 x4 x6 x7 y0 y1 μ) → F_X8_load_e  K26 K46 K74 K139 K173 K216 q x1 x2 μ
abbrev KK_X8_load_26 (g : GE) (f : FE)  : Int32 → Int32 → Int32 → Mm → Prop := fun x1 x2 y0 μ => KW g f 8 0 0 26 [some (.ref p_MO), some (.int x1), some (.int x2), none, none, none, none, none] [.int y0] μ
abbrev KK_X8_load_46 (g : GE) (f : FE)  : Int32 → Int32 → Int32 → Mm → Prop := fun x1 x2 y0 μ => KW g f 8 0 0 46 [some (.ref p_MO), some (.int x1), some (.int x2), none, none, none, none, none] [.int y0, .ref p_MO] μ
abbrev KK_X8_load_74 (g : GE) (f : FE)  : Int32 → Int32 → Int32 → Int32 → Mm → Prop := fun x1 x4 x5 x6 μ => KW g f 8 0 0 74 [some (.ref p_MO), some (.int x1), none, none, some (.int x4), some (.int x5), some (.int x6), none] [] μ
abbrev KK_X8_load_139 (g : GE) (f : FE)  : Int32 → Int32 → Int32 → Int32 → Int32 → Mm → Prop := fun x1 x4 x5 x6 y0 μ => KW g f 8 0 0 139 [some (.ref p_MO), some (.int x1), none, none, some (.int x4), some (.int x5), some (.int x6), none] [.int y0] μ
abbrev KK_X8_load_173 (g : GE) (f : FE)  : Int32 → Int32 → Int32 → Int32 → Int32 → Int32 → Mm → Prop := fun x1 x4 x6 x7 y0 y1 μ => KW g f 8 0 0 173 [some (.ref p_MO), some (.int x1), none, none, some (.int x4), none, some (.int x6), some (.int x7)] [.int y0, .int y1] μ
abbrev KK_X8_load_216 (g : GE) (f : FE)  : Int32 → Int32 → Int32 → Int32 → Int32 → Int32 → Mm → Prop := fun x1 x4 x6 x7 y0 y1 μ => KW g f 8 0 0 216 [some (.ref p_MO), some (.int x1), none, none, some (.int x4), none, some (.int x6), some (.int x7)] [.int y0, .int y1] μ
set_option maxHeartbeats 2000000 in
theorem b_X8_load_26  {g : GE} {f : FE} {q : Int32 → Mm → Prop} (cx : Cx g f cX8_load 8 RX8 2 43 0 0) (hr : (f_M f).sig.returnType = (some .int)) (hl : (f_M f).locks = false) (hQ : f_Q f = MQ (f_b f) (QW g (qI q)) (f_a f) (f_s f) 0 0 (fun q => g.2.2.2 ≤ q))  {x1 : Int32} {x2 : Int32} {y0 : Int32} {μ : Mm} (h : F_X8_load_26  (KK_X8_load_26 g f ) (KK_X8_load_46 g f ) (KK_X8_load_74 g f ) (KK_X8_load_139 g f ) (KK_X8_load_173 g f ) (KK_X8_load_216 g f ) q x1 x2 y0 μ) : KK_X8_load_26 g f  x1 x2 y0 μ := by
  unfold F_X8_load_26 at h
  show KW g f 8 0 0 26 [some (.ref p_MO), some (.int x1), some (.int x2), none, none, none, none, none] [.int y0] μ
  refine k_istore_n cx dX8_load_26 rfl (by decide) ?_
  refine k_aload_n cx dX8_load_27 rfl rfl ?_
  refine k_iload_n cx dX8_load_28 rfl rfl ?_
  refine k_if_ne (tgt := 36) cx dX8_load_29 (by decide) (fun hc => ?_) (fun hc => ?_)
  · replace h := h.1 hc
    refine k_iload_n cx dX8_load_36 rfl rfl ?_
    refine k_iload_n cx dX8_load_37 rfl rfl ?_
    refine k_icmp_ne (tgt := 45) cx dX8_load_38 (by decide) (fun hc => ?_) (fun hc => ?_)
    · replace h := h.1 hc
      refine k_iconst (v := (0 : Int32)) cx dX8_load_45 (by decide +kernel) ?_
      exact k_weak h (lsLe.keep (lsLe.keep (lsLe.keep (lsLe.drop (lsLe.keep (lsLe.keep (lsLe.keep (lsLe.keep lsLe.nil))))))))
    · replace h := h.2 hc
      refine k_iconst (v := (2 : Int32)) cx dX8_load_41 (by decide +kernel) ?_
      refine k_goto (tgt := 46) cx dX8_load_42 (by decide) ?_
      exact k_weak h (lsLe.keep (lsLe.keep (lsLe.keep (lsLe.drop (lsLe.keep (lsLe.keep (lsLe.keep (lsLe.keep lsLe.nil))))))))
  · replace h := h.2 hc
    refine k_iconst (v := (1 : Int32)) cx dX8_load_32 (by decide +kernel) ?_
    refine k_goto (tgt := 46) cx dX8_load_33 (by decide) ?_
    exact k_weak h (lsLe.keep (lsLe.keep (lsLe.keep (lsLe.drop (lsLe.keep (lsLe.keep (lsLe.keep (lsLe.keep lsLe.nil))))))))
set_option maxHeartbeats 2000000 in
theorem b_X8_load_46  {g : GE} {f : FE} {q : Int32 → Mm → Prop} (cx : Cx g f cX8_load 8 RX8 2 43 0 0) (hr : (f_M f).sig.returnType = (some .int)) (hl : (f_M f).locks = false) (hQ : f_Q f = MQ (f_b f) (QW g (qI q)) (f_a f) (f_s f) 0 0 (fun q => g.2.2.2 ≤ q))  {x1 : Int32} {x2 : Int32} {y0 : Int32} {μ : Mm} (h : F_X8_load_46  (KK_X8_load_26 g f ) (KK_X8_load_46 g f ) (KK_X8_load_74 g f ) (KK_X8_load_139 g f ) (KK_X8_load_173 g f ) (KK_X8_load_216 g f ) q x1 x2 y0 μ) : KK_X8_load_46 g f  x1 x2 y0 μ := by
  unfold F_X8_load_46 at h
  show KW g f 8 0 0 46 [some (.ref p_MO), some (.int x1), some (.int x2), none, none, none, none, none] [.int y0, .ref p_MO] μ
  refine k_callV (As := [.int y0]) (rest := []) cx (m_X8_can h) cv_X8_121 ob_MO rfl rfl rfl rfl (Nat.le_of_ble_eq_true rfl) ⟨Nat.le_of_ble_eq_true rfl, Nat.le_of_ble_eq_true rfl⟩ dX8_load_46 (fun v μ1 hq => ?_)
  obtain ⟨b2, rfl, h⟩ := hq
  refine k_if_ne (tgt := 54) cx dX8_load_49 (by decide) (fun hc => ?_) (fun hc => ?_)
  · replace h := h.1 hc
    refine k_iload_n cx dX8_load_54 rfl rfl ?_
    refine k_iconst (v := (-1 : Int32)) cx dX8_load_55 (by decide +kernel) ?_
    refine k_icmp_ne (tgt := 63) cx dX8_load_56 (by decide) (fun hc => ?_) (fun hc => ?_)
    · replace h := h.1 hc
      refine k_iconst (v := (1 : Int32)) cx dX8_load_63 (by decide +kernel) ?_
      refine k_iload_n cx dX8_load_64 rfl rfl ?_
      refine k_ishl cx dX8_load_65 ?_
      refine k_istore cx dX8_load_66 (by decide) ?_
      refine k_iconst (v := (0 : Int32)) cx dX8_load_68 (by decide +kernel) ?_
      refine k_istore cx dX8_load_69 (by decide) ?_
      refine k_iconst (v := (0 : Int32)) cx dX8_load_71 (by decide +kernel) ?_
      refine k_istore cx dX8_load_72 (by decide) ?_
      exact k_weak h (lsLe.keep (lsLe.keep (lsLe.drop (lsLe.keep (lsLe.keep (lsLe.keep (lsLe.keep (lsLe.keep lsLe.nil))))))))
    · replace h := h.2 hc
      refine k_iconst (v := (0 : Int32)) cx dX8_load_59 (by decide +kernel) ?_
      refine k_goto (tgt := 66) cx dX8_load_60 (by decide) ?_
      refine k_istore cx dX8_load_66 (by decide) ?_
      refine k_iconst (v := (0 : Int32)) cx dX8_load_68 (by decide +kernel) ?_
      refine k_istore cx dX8_load_69 (by decide) ?_
      refine k_iconst (v := (0 : Int32)) cx dX8_load_71 (by decide +kernel) ?_
      refine k_istore cx dX8_load_72 (by decide) ?_
      exact k_weak h (lsLe.keep (lsLe.keep (lsLe.drop (lsLe.keep (lsLe.keep (lsLe.keep (lsLe.keep (lsLe.keep lsLe.nil))))))))
  · replace h := h.2 hc
    refine k_iconst (v := (0 : Int32)) cx dX8_load_52 (by decide +kernel) ?_
    exact k_ret_I cx hr hl hQ dX8_load_53 h
set_option maxHeartbeats 2000000 in
theorem b_X8_load_74  {g : GE} {f : FE} {q : Int32 → Mm → Prop} (cx : Cx g f cX8_load 8 RX8 2 43 0 0) (hr : (f_M f).sig.returnType = (some .int)) (hl : (f_M f).locks = false) (hQ : f_Q f = MQ (f_b f) (QW g (qI q)) (f_a f) (f_s f) 0 0 (fun q => g.2.2.2 ≤ q))  {x1 : Int32} {x4 : Int32} {x5 : Int32} {x6 : Int32} {μ : Mm} (h : F_X8_load_74  (KK_X8_load_26 g f ) (KK_X8_load_46 g f ) (KK_X8_load_74 g f ) (KK_X8_load_139 g f ) (KK_X8_load_173 g f ) (KK_X8_load_216 g f ) q x1 x4 x5 x6 μ) : KK_X8_load_74 g f  x1 x4 x5 x6 μ := by
  unfold F_X8_load_74 at h
  show KW g f 8 0 0 74 [some (.ref p_MO), some (.int x1), none, none, some (.int x4), some (.int x5), some (.int x6), none] [] μ
  refine k_iload cx dX8_load_74 rfl ?_
  refine k_iconst (v := (3 : Int32)) cx dX8_load_76 (by decide +kernel) ?_
  refine k_aload_n cx dX8_load_77 rfl rfl ?_
  refine k_get (o := none) (v := .int (μ p_MO 8)) cx fl_X8_118 ob_MO rfl rfl dX8_load_78 ?_
  refine k_imul cx dX8_load_81 ?_
  refine k_icmp_ge (tgt := 260) cx dX8_load_82 (by decide) (fun hc => ?_) (fun hc => ?_)
  · replace h := h.1 hc
    refine k_iload cx dX8_load_260 rfl ?_
    exact k_ret_I cx hr hl hQ dX8_load_262 h
  · replace h := h.2 hc
    refine k_aload_n cx dX8_load_85 rfl rfl ?_
    refine k_get (o := some p_MO_hasEnded) (v := .ref p_MO_hasEnded) cx fl_X8_62 ob_MO rfl rfl dX8_load_86 ?_
    refine k_iload cx dX8_load_89 rfl ?_
    refine k_iconst (v := (3 : Int32)) cx dX8_load_91 (by decide +kernel) ?_
    refine k_idiv cx dX8_load_92 (by decide) ?_
    obtain ⟨hi, h⟩ := h
    refine k_zald cx ar_MO_hasEnded hi dX8_load_93 ?_
    refine k_if_ne (tgt := 254) cx dX8_load_94 (by decide) (fun hc => ?_) (fun hc => ?_)
    · replace h := h.1 hc
      refine k_iinc (v := (x6 + (1 : Int32))) cx dX8_load_254 rfl rfl (by decide) ?_
      refine k_goto (tgt := 74) cx dX8_load_257 (by decide) ?_
      exact k_weak h (lsLe.keep (lsLe.keep (lsLe.keep (lsLe.keep (lsLe.keep (lsLe.keep (lsLe.keep (lsLe.keep lsLe.nil))))))))
    · replace h := h.2 hc
      refine k_iload cx dX8_load_97 rfl ?_
      refine k_iconst (v := (3 : Int32)) cx dX8_load_99 (by decide +kernel) ?_
      refine k_irem cx dX8_load_100 (by decide) ?_
      refine k_aload_n cx dX8_load_101 rfl rfl ?_
      refine k_get (o := some p_MO_lines) (v := .ref p_MO_lines) cx fl_X8_29 ob_MO rfl rfl dX8_load_102 ?_
      refine k_iload cx dX8_load_105 rfl ?_
      refine k_iconst (v := (3 : Int32)) cx dX8_load_107 (by decide +kernel) ?_
      refine k_idiv cx dX8_load_108 (by decide) ?_
      obtain ⟨hi, h⟩ := h
      refine k_iald cx ar_MO_lines hi dX8_load_109 ?_
      refine k_icmp_ge (tgt := 254) cx dX8_load_110 (by decide) (fun hc => ?_) (fun hc => ?_)
      · replace h := h.1 hc
        refine k_iinc (v := (x6 + (1 : Int32))) cx dX8_load_254 rfl rfl (by decide) ?_
        refine k_goto (tgt := 74) cx dX8_load_257 (by decide) ?_
        exact k_weak h (lsLe.keep (lsLe.keep (lsLe.keep (lsLe.keep (lsLe.keep (lsLe.keep (lsLe.keep (lsLe.keep lsLe.nil))))))))
      · replace h := h.2 hc
        refine k_aload_n cx dX8_load_113 rfl rfl ?_
        refine k_get (o := some p_MO_way) (v := .ref p_MO_way) cx fl_X8_53 ob_MO rfl rfl dX8_load_114 ?_
        refine k_iload cx dX8_load_117 rfl ?_
        obtain ⟨hi, h⟩ := h
        refine k_iald cx ar_MO_way hi dX8_load_119 ?_
        refine k_aload_n cx dX8_load_120 rfl rfl ?_
        refine k_get (o := some p_MO_rest) (v := .ref p_MO_rest) cx fl_X8_56 ob_MO rfl rfl dX8_load_121 ?_
        refine k_iload cx dX8_load_124 rfl ?_
        obtain ⟨hi, h⟩ := h
        refine k_iald cx ar_MO_rest hi dX8_load_126 ?_
        refine k_ior cx dX8_load_127 ?_
        refine k_iload cx dX8_load_128 rfl ?_
        refine k_iand cx dX8_load_130 ?_
        refine k_if_ne (tgt := 138) cx dX8_load_131 (by decide) (fun hc => ?_) (fun hc => ?_)
        · replace h := h.1 hc
          refine k_iconst (v := (0 : Int32)) cx dX8_load_138 (by decide +kernel) ?_
          exact k_weak h (lsLe.keep (lsLe.keep (lsLe.keep (lsLe.keep (lsLe.keep (lsLe.keep (lsLe.keep (lsLe.keep lsLe.nil))))))))
        · replace h := h.2 hc
          refine k_iconst (v := (1 : Int32)) cx dX8_load_134 (by decide +kernel) ?_
          refine k_goto (tgt := 139) cx dX8_load_135 (by decide) ?_
          exact k_weak h (lsLe.keep (lsLe.keep (lsLe.keep (lsLe.keep (lsLe.keep (lsLe.keep (lsLe.keep (lsLe.keep lsLe.nil))))))))
set_option maxHeartbeats 2000000 in
theorem b_X8_load_139  {g : GE} {f : FE} {q : Int32 → Mm → Prop} (cx : Cx g f cX8_load 8 RX8 2 43 0 0) (hr : (f_M f).sig.returnType = (some .int)) (hl : (f_M f).locks = false) (hQ : f_Q f = MQ (f_b f) (QW g (qI q)) (f_a f) (f_s f) 0 0 (fun q => g.2.2.2 ≤ q))  {x1 : Int32} {x4 : Int32} {x5 : Int32} {x6 : Int32} {y0 : Int32} {μ : Mm} (h : F_X8_load_139  (KK_X8_load_26 g f ) (KK_X8_load_46 g f ) (KK_X8_load_74 g f ) (KK_X8_load_139 g f ) (KK_X8_load_173 g f ) (KK_X8_load_216 g f ) q x1 x4 x5 x6 y0 μ) : KK_X8_load_139 g f  x1 x4 x5 x6 y0 μ := by
  unfold F_X8_load_139 at h
  show KW g f 8 0 0 139 [some (.ref p_MO), some (.int x1), none, none, some (.int x4), some (.int x5), some (.int x6), none] [.int y0] μ
  refine k_istore cx dX8_load_139 (by decide) ?_
  refine k_iload cx dX8_load_141 rfl ?_
  refine k_iload cx dX8_load_143 rfl ?_
  refine k_if_eq (tgt := 172) cx dX8_load_145 (by decide) (fun hc => ?_) (fun hc => ?_)
  · replace h := h.1 hc
    refine k_iconst (v := (0 : Int32)) cx dX8_load_172 (by decide +kernel) ?_
    exact k_weak h (lsLe.keep (lsLe.keep (lsLe.keep (lsLe.keep (lsLe.keep (lsLe.drop (lsLe.keep (lsLe.keep lsLe.nil))))))))
  · replace h := h.2 hc
    refine k_aload_n cx dX8_load_148 rfl rfl ?_
    refine k_get (o := some p_MO_way) (v := .ref p_MO_way) cx fl_X8_53 ob_MO rfl rfl dX8_load_149 ?_
    refine k_iload cx dX8_load_152 rfl ?_
    obtain ⟨hi, h⟩ := h
    refine k_iald cx ar_MO_way hi dX8_load_154 ?_
    refine k_iload_n cx dX8_load_155 rfl rfl ?_
    refine k_callS (As := [.int (μ p_MO_way (x6).toNatClampNeg), .int x1]) (rest := [.int x5]) cx (m_X8_has h) cv_X8_136 rfl rfl (Nat.le_of_ble_eq_true rfl) ⟨Nat.le_of_ble_eq_true rfl, Nat.le_of_ble_eq_true rfl⟩ dX8_load_156 (fun v μ1 hq => ?_)
    obtain ⟨b2, rfl, h⟩ := hq
    refine k_if_eq (tgt := 172) cx dX8_load_159 (by decide) (fun hc => ?_) (fun hc => ?_)
    · replace h := h.1 hc
      refine k_iconst (v := (0 : Int32)) cx dX8_load_172 (by decide +kernel) ?_
      exact k_weak h (lsLe.keep (lsLe.keep (lsLe.keep (lsLe.keep (lsLe.keep (lsLe.drop (lsLe.keep (lsLe.keep lsLe.nil))))))))
    · replace h := h.2 hc
      refine k_aload_n cx dX8_load_162 rfl rfl ?_
      refine k_get (o := some p_MO_amount) (v := .ref p_MO_amount) cx fl_X8_50 ob_MO rfl rfl dX8_load_163 ?_
      refine k_iload cx dX8_load_166 rfl ?_
      obtain ⟨hi, h⟩ := h
      refine k_iald cx ar_MO_amount hi dX8_load_168 ?_
      refine k_goto (tgt := 173) cx dX8_load_169 (by decide) ?_
      exact k_weak h (lsLe.keep (lsLe.keep (lsLe.keep (lsLe.keep (lsLe.keep (lsLe.drop (lsLe.keep (lsLe.keep lsLe.nil))))))))
set_option maxHeartbeats 2000000 in
theorem b_X8_load_173  {g : GE} {f : FE} {q : Int32 → Mm → Prop} (cx : Cx g f cX8_load 8 RX8 2 43 0 0) (hr : (f_M f).sig.returnType = (some .int)) (hl : (f_M f).locks = false) (hQ : f_Q f = MQ (f_b f) (QW g (qI q)) (f_a f) (f_s f) 0 0 (fun q => g.2.2.2 ≤ q))  {x1 : Int32} {x4 : Int32} {x6 : Int32} {x7 : Int32} {y0 : Int32} {y1 : Int32} {μ : Mm} (h : F_X8_load_173  (KK_X8_load_26 g f ) (KK_X8_load_46 g f ) (KK_X8_load_74 g f ) (KK_X8_load_139 g f ) (KK_X8_load_173 g f ) (KK_X8_load_216 g f ) q x1 x4 x6 x7 y0 y1 μ) : KK_X8_load_173 g f  x1 x4 x6 x7 y0 y1 μ := by
  unfold F_X8_load_173 at h
  show KW g f 8 0 0 173 [some (.ref p_MO), some (.int x1), none, none, some (.int x4), none, some (.int x6), some (.int x7)] [.int y0, .int y1] μ
  refine k_iadd cx dX8_load_173 ?_
  refine k_istore cx dX8_load_174 (by decide) ?_
  refine k_iload cx dX8_load_176 rfl ?_
  refine k_iload cx dX8_load_178 rfl ?_
  refine k_if_eq (tgt := 215) cx dX8_load_180 (by decide) (fun hc => ?_) (fun hc => ?_)
  · replace h := h.1 hc
    refine k_iconst (v := (0 : Int32)) cx dX8_load_215 (by decide +kernel) ?_
    exact k_weak h (lsLe.keep (lsLe.keep (lsLe.keep (lsLe.keep (lsLe.keep (lsLe.drop (lsLe.keep (lsLe.keep lsLe.nil))))))))
  · replace h := h.2 hc
    refine k_aload_n cx dX8_load_183 rfl rfl ?_
    refine k_get (o := some p_MO_rest) (v := .ref p_MO_rest) cx fl_X8_56 ob_MO rfl rfl dX8_load_184 ?_
    refine k_iload cx dX8_load_187 rfl ?_
    obtain ⟨hi, h⟩ := h
    refine k_iald cx ar_MO_rest hi dX8_load_189 ?_
    refine k_iload_n cx dX8_load_190 rfl rfl ?_
    refine k_callS (As := [.int (μ p_MO_rest (x6).toNatClampNeg), .int x1]) (rest := [.int (y1 + y0)]) cx (m_X8_has h) cv_X8_136 rfl rfl (Nat.le_of_ble_eq_true rfl) ⟨Nat.le_of_ble_eq_true rfl, Nat.le_of_ble_eq_true rfl⟩ dX8_load_191 (fun v μ1 hq => ?_)
    obtain ⟨b2, rfl, h⟩ := hq
    refine k_if_eq (tgt := 215) cx dX8_load_194 (by decide) (fun hc => ?_) (fun hc => ?_)
    · replace h := h.1 hc
      refine k_iconst (v := (0 : Int32)) cx dX8_load_215 (by decide +kernel) ?_
      exact k_weak h (lsLe.keep (lsLe.keep (lsLe.keep (lsLe.keep (lsLe.keep (lsLe.drop (lsLe.keep (lsLe.keep lsLe.nil))))))))
    · replace h := h.2 hc
      refine k_aload_n cx dX8_load_197 rfl rfl ?_
      refine k_get (o := some p_MO_lineNeed) (v := .ref p_MO_lineNeed) cx fl_X8_47 ob_MO rfl rfl dX8_load_198 ?_
      refine k_iload cx dX8_load_201 rfl ?_
      obtain ⟨hi, h⟩ := h
      refine k_iald cx ar_MO_lineNeed hi dX8_load_203 ?_
      refine k_aload_n cx dX8_load_204 rfl rfl ?_
      refine k_get (o := some p_MO_amount) (v := .ref p_MO_amount) cx fl_X8_50 ob_MO rfl rfl dX8_load_205 ?_
      refine k_iload cx dX8_load_208 rfl ?_
      obtain ⟨hi, h⟩ := h
      refine k_iald cx ar_MO_amount hi dX8_load_210 ?_
      refine k_isub cx dX8_load_211 ?_
      refine k_goto (tgt := 216) cx dX8_load_212 (by decide) ?_
      exact k_weak h (lsLe.keep (lsLe.keep (lsLe.keep (lsLe.keep (lsLe.keep (lsLe.drop (lsLe.keep (lsLe.keep lsLe.nil))))))))
set_option maxHeartbeats 2000000 in
theorem b_X8_load_216  {g : GE} {f : FE} {q : Int32 → Mm → Prop} (cx : Cx g f cX8_load 8 RX8 2 43 0 0) (hr : (f_M f).sig.returnType = (some .int)) (hl : (f_M f).locks = false) (hQ : f_Q f = MQ (f_b f) (QW g (qI q)) (f_a f) (f_s f) 0 0 (fun q => g.2.2.2 ≤ q))  {x1 : Int32} {x4 : Int32} {x6 : Int32} {x7 : Int32} {y0 : Int32} {y1 : Int32} {μ : Mm} (h : F_X8_load_216  (KK_X8_load_26 g f ) (KK_X8_load_46 g f ) (KK_X8_load_74 g f ) (KK_X8_load_139 g f ) (KK_X8_load_173 g f ) (KK_X8_load_216 g f ) q x1 x4 x6 x7 y0 y1 μ) : KK_X8_load_216 g f  x1 x4 x6 x7 y0 y1 μ := by
  unfold F_X8_load_216 at h
  show KW g f 8 0 0 216 [some (.ref p_MO), some (.int x1), none, none, some (.int x4), none, some (.int x6), some (.int x7)] [.int y0, .int y1] μ
  refine k_iadd cx dX8_load_216 ?_
  refine k_istore cx dX8_load_217 (by decide) ?_
  refine k_iload cx dX8_load_219 rfl ?_
  refine k_iload cx dX8_load_221 rfl ?_
  refine k_if_ne (tgt := 250) cx dX8_load_223 (by decide) (fun hc => ?_) (fun hc => ?_)
  · replace h := h.1 hc
    refine k_iconst (v := (0 : Int32)) cx dX8_load_250 (by decide +kernel) ?_
    refine k_iadd cx dX8_load_251 ?_
    refine k_istore cx dX8_load_252 (by decide) ?_
    refine k_iinc (v := (x6 + (1 : Int32))) cx dX8_load_254 rfl rfl (by decide) ?_
    refine k_goto (tgt := 74) cx dX8_load_257 (by decide) ?_
    exact k_weak h (lsLe.keep (lsLe.keep (lsLe.keep (lsLe.keep (lsLe.keep (lsLe.keep (lsLe.keep (lsLe.drop lsLe.nil))))))))
  · replace h := h.2 hc
    refine k_aload_n cx dX8_load_226 rfl rfl ?_
    refine k_get (o := some p_MO_second) (v := .ref p_MO_second) cx fl_X8_59 ob_MO rfl rfl dX8_load_227 ?_
    refine k_iload cx dX8_load_230 rfl ?_
    obtain ⟨hi, h⟩ := h
    refine k_iald cx ar_MO_second hi dX8_load_232 ?_
    refine k_iload_n cx dX8_load_233 rfl rfl ?_
    refine k_callS (As := [.int (μ p_MO_second (x6).toNatClampNeg), .int x1]) (rest := [.int (y1 + y0)]) cx (m_X8_has h) cv_X8_136 rfl rfl (Nat.le_of_ble_eq_true rfl) ⟨Nat.le_of_ble_eq_true rfl, Nat.le_of_ble_eq_true rfl⟩ dX8_load_234 (fun v μ1 hq => ?_)
    obtain ⟨b2, rfl, h⟩ := hq
    refine k_if_eq (tgt := 250) cx dX8_load_237 (by decide) (fun hc => ?_) (fun hc => ?_)
    · replace h := h.1 hc
      refine k_iconst (v := (0 : Int32)) cx dX8_load_250 (by decide +kernel) ?_
      refine k_iadd cx dX8_load_251 ?_
      refine k_istore cx dX8_load_252 (by decide) ?_
      refine k_iinc (v := (x6 + (1 : Int32))) cx dX8_load_254 rfl rfl (by decide) ?_
      refine k_goto (tgt := 74) cx dX8_load_257 (by decide) ?_
      exact k_weak h (lsLe.keep (lsLe.keep (lsLe.keep (lsLe.keep (lsLe.keep (lsLe.keep (lsLe.keep (lsLe.drop lsLe.nil))))))))
    · replace h := h.2 hc
      refine k_aload_n cx dX8_load_240 rfl rfl ?_
      refine k_get (o := some p_MO_lineNeed) (v := .ref p_MO_lineNeed) cx fl_X8_47 ob_MO rfl rfl dX8_load_241 ?_
      refine k_iload cx dX8_load_244 rfl ?_
      obtain ⟨hi, h⟩ := h
      refine k_iald cx ar_MO_lineNeed hi dX8_load_246 ?_
      refine k_goto (tgt := 251) cx dX8_load_247 (by decide) ?_
      refine k_iadd cx dX8_load_251 ?_
      refine k_istore cx dX8_load_252 (by decide) ?_
      refine k_iinc (v := (x6 + (1 : Int32))) cx dX8_load_254 rfl rfl (by decide) ?_
      refine k_goto (tgt := 74) cx dX8_load_257 (by decide) ?_
      exact k_weak h (lsLe.keep (lsLe.keep (lsLe.keep (lsLe.keep (lsLe.keep (lsLe.keep (lsLe.keep (lsLe.drop lsLe.nil))))))))
set_option maxHeartbeats 2000000 in
theorem b_X8_load_e  {g : GE} {f : FE} {q : Int32 → Mm → Prop} (cx : Cx g f cX8_load 8 RX8 2 43 0 0) (hr : (f_M f).sig.returnType = (some .int)) (hl : (f_M f).locks = false) (hQ : f_Q f = MQ (f_b f) (QW g (qI q)) (f_a f) (f_s f) 0 0 (fun q => g.2.2.2 ≤ q))  {x1 : Int32} {x2 : Int32} {μ : Mm} (h : F_X8_load_e  (KK_X8_load_26 g f ) (KK_X8_load_46 g f ) (KK_X8_load_74 g f ) (KK_X8_load_139 g f ) (KK_X8_load_173 g f ) (KK_X8_load_216 g f ) q x1 x2 μ) : KW g f 8 0 0 0 [some (.ref p_MO), some (.int x1), some (.int x2), none, none, none, none, none] [] μ := by
  unfold F_X8_load_e at h
  refine k_aload_n cx dX8_load_0 rfl rfl ?_
  refine k_iload_n cx dX8_load_1 rfl rfl ?_
  refine k_callV (As := [.int x1]) (rest := []) cx (m_X8_isLink h) cv_X8_253 ob_MO rfl rfl rfl rfl (Nat.le_of_ble_eq_true rfl) ⟨Nat.le_of_ble_eq_true rfl, Nat.le_of_ble_eq_true rfl⟩ dX8_load_2 (fun v μ1 hq => ?_)
  obtain ⟨b2, rfl, h⟩ := hq
  refine k_if_eq (tgt := 25) cx dX8_load_5 (by decide) (fun hc => ?_) (fun hc => ?_)
  · replace h := h.1 hc
    refine k_iconst (v := (0 : Int32)) cx dX8_load_25 (by decide +kernel) ?_
    exact k_weak h (lsLe.keep (lsLe.keep (lsLe.keep (lsLe.keep (lsLe.keep (lsLe.keep (lsLe.keep (lsLe.keep lsLe.nil))))))))
  · replace h := h.2 hc
    refine k_iload_n cx dX8_load_8 rfl rfl ?_
    refine k_iconst (v := (-1 : Int32)) cx dX8_load_9 (by decide +kernel) ?_
    refine k_icmp_eq (tgt := 21) cx dX8_load_10 (by decide) (fun hc => ?_) (fun hc => ?_)
    · replace h := h.1 hc
      refine k_iconst (v := (1 : Int32)) cx dX8_load_21 (by decide +kernel) ?_
      refine k_goto (tgt := 26) cx dX8_load_22 (by decide) ?_
      exact k_weak h (lsLe.keep (lsLe.keep (lsLe.keep (lsLe.keep (lsLe.keep (lsLe.keep (lsLe.keep (lsLe.keep lsLe.nil))))))))
    · replace h := h.2 hc
      refine k_aload_n cx dX8_load_13 rfl rfl ?_
      refine k_iload_n cx dX8_load_14 rfl rfl ?_
      refine k_callV (As := [.int x2]) (rest := []) cx (m_X8_isLink h) cv_X8_253 ob_MO rfl rfl rfl rfl (Nat.le_of_ble_eq_true rfl) ⟨Nat.le_of_ble_eq_true rfl, Nat.le_of_ble_eq_true rfl⟩ dX8_load_15 (fun v μ3 hq => ?_)
      obtain ⟨b4, rfl, h⟩ := hq
      refine k_if_eq (tgt := 25) cx dX8_load_18 (by decide) (fun hc => ?_) (fun hc => ?_)
      · replace h := h.1 hc
        refine k_iconst (v := (0 : Int32)) cx dX8_load_25 (by decide +kernel) ?_
        exact k_weak h (lsLe.keep (lsLe.keep (lsLe.keep (lsLe.keep (lsLe.keep (lsLe.keep (lsLe.keep (lsLe.keep lsLe.nil))))))))
      · replace h := h.2 hc
        refine k_iconst (v := (1 : Int32)) cx dX8_load_21 (by decide +kernel) ?_
        refine k_goto (tgt := 26) cx dX8_load_22 (by decide) ?_
        exact k_weak h (lsLe.keep (lsLe.keep (lsLe.keep (lsLe.keep (lsLe.keep (lsLe.keep (lsLe.keep (lsLe.keep lsLe.nil))))))))
theorem m_X8_load {g : GE} {l : Launch} {μ : Mm} {q : Int32 → Mm → Prop} {x1 : Int32} {x2 : Int32}  (h : Wp_X8_load  x1 x2 μ q) : MW g l yX8_load cX8_load 8 (some .int) 2 43 [.ref p_MO, .int x1, .int x2] μ (qI q) := by
  refine met_of (by decide) (Nat.le_of_ble_eq_true rfl) (by intro v hv; simp only [List.mem_cons, List.not_mem_nil, or_false] at hv; rcases hv with rfl | rfl | rfl <;> rfl) ?_
  intro f hfl cx hr hl hQ
  exact b_X8_load_e  cx hr hl hQ (h (KK_X8_load_26 g f ) (KK_X8_load_46 g f ) (KK_X8_load_74 g f ) (KK_X8_load_139 g f ) (KK_X8_load_173 g f ) (KK_X8_load_216 g f ) (fun _ _ _ _ h => b_X8_load_26  cx hr hl hQ h) (fun _ _ _ _ h => b_X8_load_46  cx hr hl hQ h) (fun _ _ _ _ _ h => b_X8_load_74  cx hr hl hQ h) (fun _ _ _ _ _ _ h => b_X8_load_139  cx hr hl hQ h) (fun _ _ _ _ _ _ _ h => b_X8_load_173  cx hr hl hQ h) (fun _ _ _ _ _ _ _ h => b_X8_load_216  cx hr hl hQ h))
theorem dX8_move_0 : decode cX8_move 0 = .ok (.aload_n 0, 1) := by decide +kernel
theorem dX8_move_1 : decode cX8_move 1 = .ok (.iload_n 1, 1) := by decide +kernel
theorem dX8_move_2 : decode cX8_move 2 = .ok (.invokevirtual 226, 3) := by decide +kernel
theorem dX8_move_5 : decode cX8_move 5 = .ok (.ifCond .eq 31, 3) := by decide +kernel
theorem dX8_move_8 : decode cX8_move 8 = .ok (.aload_n 0, 1) := by decide +kernel
theorem dX8_move_9 : decode cX8_move 9 = .ok (.iload_n 3, 1) := by decide +kernel
theorem dX8_move_10 : decode cX8_move 10 = .ok (.invokevirtual 125, 3) := by decide +kernel
theorem dX8_move_13 : decode cX8_move 13 = .ok (.ifCond .eq 23, 3) := by decide +kernel
theorem dX8_move_16 : decode cX8_move 16 = .ok (.iload_n 2, 1) := by decide +kernel
theorem dX8_move_17 : decode cX8_move 17 = .ok (.iconst 0, 1) := by decide +kernel
theorem dX8_move_18 : decode cX8_move 18 = .ok (.aload_n 0, 1) := by decide +kernel
theorem dX8_move_19 : decode cX8_move 19 = .ok (.getfield 26, 3) := by decide +kernel
theorem dX8_move_22 : decode cX8_move 22 = .ok (.iload_n 1, 1) := by decide +kernel
theorem dX8_move_23 : decode cX8_move 23 = .ok (.iaload, 1) := by decide +kernel
theorem dX8_move_24 : decode cX8_move 24 = .ok (.iconst 1, 1) := by decide +kernel
theorem dX8_move_25 : decode cX8_move 25 = .ok (.isub, 1) := by decide +kernel
theorem dX8_move_26 : decode cX8_move 26 = .ok (.invokestatic 111, 3) := by decide +kernel
theorem dX8_move_29 : decode cX8_move 29 = .ok (.ifCond .eq 7, 3) := by decide +kernel
theorem dX8_move_32 : decode cX8_move 32 = .ok (.iconst 1, 1) := by decide +kernel
theorem dX8_move_33 : decode cX8_move 33 = .ok (.goto 4, 3) := by decide +kernel
theorem dX8_move_36 : decode cX8_move 36 = .ok (.iconst 0, 1) := by decide +kernel
theorem dX8_move_37 : decode cX8_move 37 = .ok (.istore 4, 2) := by decide +kernel
theorem dX8_move_39 : decode cX8_move 39 = .ok (.aload_n 0, 1) := by decide +kernel
theorem dX8_move_40 : decode cX8_move 40 = .ok (.iload 4, 2) := by decide +kernel
theorem dX8_move_42 : decode cX8_move 42 = .ok (.ifCond .ne 7, 3) := by decide +kernel
theorem dX8_move_45 : decode cX8_move 45 = .ok (.iconst 1, 1) := by decide +kernel
theorem dX8_move_46 : decode cX8_move 46 = .ok (.goto 34, 3) := by decide +kernel
theorem dX8_move_49 : decode cX8_move 49 = .ok (.aload_n 0, 1) := by decide +kernel
theorem dX8_move_50 : decode cX8_move 50 = .ok (.getfield 38, 3) := by decide +kernel
theorem dX8_move_53 : decode cX8_move 53 = .ok (.iconst 3, 1) := by decide +kernel
theorem dX8_move_54 : decode cX8_move 54 = .ok (.iload_n 1, 1) := by decide +kernel
theorem dX8_move_55 : decode cX8_move 55 = .ok (.imul, 1) := by decide +kernel
theorem dX8_move_56 : decode cX8_move 56 = .ok (.iload_n 2, 1) := by decide +kernel
theorem dX8_move_57 : decode cX8_move 57 = .ok (.iadd, 1) := by decide +kernel
theorem dX8_move_58 : decode cX8_move 58 = .ok (.iaload, 1) := by decide +kernel
theorem dX8_move_59 : decode cX8_move 59 = .ok (.iload_n 3, 1) := by decide +kernel
theorem dX8_move_60 : decode cX8_move 60 = .ok (.if_icmp .ne 7, 3) := by decide +kernel
theorem dX8_move_63 : decode cX8_move 63 = .ok (.iconst 2, 1) := by decide +kernel
theorem dX8_move_64 : decode cX8_move 64 = .ok (.goto 16, 3) := by decide +kernel
theorem dX8_move_67 : decode cX8_move 67 = .ok (.aload_n 0, 1) := by decide +kernel
theorem dX8_move_68 : decode cX8_move 68 = .ok (.iload_n 1, 1) := by decide +kernel
theorem dX8_move_69 : decode cX8_move 69 = .ok (.invokevirtual 238, 3) := by decide +kernel
theorem dX8_move_72 : decode cX8_move 72 = .ok (.ifCond .eq 7, 3) := by decide +kernel
theorem dX8_move_75 : decode cX8_move 75 = .ok (.iconst 0, 1) := by decide +kernel
theorem dX8_move_76 : decode cX8_move 76 = .ok (.goto 4, 3) := by decide +kernel
theorem dX8_move_79 : decode cX8_move 79 = .ok (.iconst 3, 1) := by decide +kernel
theorem dX8_move_80 : decode cX8_move 80 = .ok (.invokevirtual 121, 3) := by decide +kernel
theorem dX8_move_83 : decode cX8_move 83 = .ok (.ifCond .ne 5, 3) := by decide +kernel
theorem dX8_move_86 : decode cX8_move 86 = .ok (.iconst 0, 1) := by decide +kernel
theorem dX8_move_87 : decode cX8_move 87 = .ok (.ireturn, 1) := by decide +kernel
theorem dX8_move_88 : decode cX8_move 88 = .ok (.aload_n 0, 1) := by decide +kernel
theorem dX8_move_89 : decode cX8_move 89 = .ok (.iload_n 1, 1) := by decide +kernel
theorem dX8_move_90 : decode cX8_move 90 = .ok (.iload_n 2, 1) := by decide +kernel
theorem dX8_move_91 : decode cX8_move 91 = .ok (.iload_n 3, 1) := by decide +kernel
theorem dX8_move_92 : decode cX8_move 92 = .ok (.invokevirtual 241, 3) := by decide +kernel
theorem dX8_move_95 : decode cX8_move 95 = .ok (.ireturn, 1) := by decide +kernel
def F_X8_move_37  (K37 : Int32 → Int32 → Int32 → Int32 → Mm → Prop) (K80 : Int32 → Int32 → Int32 → Int32 → Mm → Prop) (q : Int32 → Mm → Prop) (x1 : Int32) (x2 : Int32) (x3 : Int32) (y0 : Int32) (μ : Mm) : Prop :=
  ((¬ (y0 = 0) → vp_in (((3 : Int32) * x1) + x2) 39 ∧ ((¬ ((μ p_MO_at ((((3 : Int32) * x1) + x2)).toNatClampNeg) = x3) → Wp_X8_canMove x1 μ (fun b2 μ1 => (((bI b2) = 0 → K80 x1 x2 x3 (3 : Int32) μ1) ∧ (¬ ((bI b2) = 0) → K80 x1 x2 x3 (0 : Int32) μ1)))) ∧ ((μ p_MO_at ((((3 : Int32) * x1) + x2)).toNatClampNeg) = x3 → K80 x1 x2 x3 (2 : Int32) μ))) ∧ (y0 = 0 → K80 x1 x2 x3 (1 : Int32) μ))
def F_X8_move_80  (K37 : Int32 → Int32 → Int32 → Int32 → Mm → Prop) (K80 : Int32 → Int32 → Int32 → Int32 → Mm → Prop) (q : Int32 → Mm → Prop) (x1 : Int32) (x2 : Int32) (x3 : Int32) (y0 : Int32) (μ : Mm) : Prop :=
  Wp_X8_can y0 μ (fun b2 μ1 => ((¬ ((bI b2) = 0) → Wp_X8_moves x1 x2 x3 μ1 (fun z4 μ3 => q z4 μ3)) ∧ ((bI b2) = 0 → q (0 : Int32) μ1)))
def F_X8_move_e  (K37 : Int32 → Int32 → Int32 → Int32 → Mm → Prop) (K80 : Int32 → Int32 → Int32 → Int32 → Mm → Prop) (q : Int32 → Mm → Prop) (x1 : Int32) (x2 : Int32) (x3 : Int32) (μ : Mm) : Prop :=
  Wp_X8_isRequest x1 μ (fun b2 μ1 => (((bI b2) = 0 → K37 x1 x2 x3 (0 : Int32) μ1) ∧ (¬ ((bI b2) = 0) → Wp_X8_isNode x3 μ1 (fun b4 μ3 => (((bI b4) = 0 → K37 x1 x2 x3 (0 : Int32) μ3) ∧ (¬ ((bI b4) = 0) → vp_in x1 13 ∧ Wp_X8_isIn x2 (0 : Int32) ((μ3 p_MO_parts (x1).toNatClampNeg) - (1 : Int32)) μ3 (fun b6 μ5 => (((bI b6) = 0 → K37 x1 x2 x3 (0 : Int32) μ5) ∧ (¬ ((bI b6) = 0) → K37 x1 x2 x3 (1 : Int32) μ5)))))))))
def Wp_X8_move  (x1 : Int32) (x2 : Int32) (x3 : Int32) (μ : Mm) (q : Int32 → Mm → Prop) : Prop := ∀ (K37 : Int32 → Int32 → Int32 → Int32 → Mm → Prop) (K80 : Int32 → Int32 → Int32 → Int32 → Mm → Prop), (∀ (x1 : Int32) (x2 : Int32) (x3 : Int32) (y0 : Int32) (μ : Mm), F_X8_move_37  K37 K80 q x1 x2 x3 y0 μ → K37 x1 x2 x3 y0 μ) → (∀ (x1 : Int32) (x2 : Int32) (x3 : Int32) (y0 : Int32) (μ : Mm), F_X8_move_80  K37 K80 q x1 x2 x3 y0 μ → K80 x1 x2 x3 y0 μ) → F_X8_move_e  K37 K80 q x1 x2 x3 μ
abbrev KK_X8_move_37 (g : GE) (f : FE)  : Int32 → Int32 → Int32 → Int32 → Mm → Prop := fun x1 x2 x3 y0 μ => KW g f 5 0 0 37 [some (.ref p_MO), some (.int x1), some (.int x2), some (.int x3), none] [.int y0] μ
abbrev KK_X8_move_80 (g : GE) (f : FE)  : Int32 → Int32 → Int32 → Int32 → Mm → Prop := fun x1 x2 x3 y0 μ => KW g f 5 0 0 80 [some (.ref p_MO), some (.int x1), some (.int x2), some (.int x3), none] [.int y0, .ref p_MO] μ
set_option maxHeartbeats 2000000 in
theorem b_X8_move_37  {g : GE} {f : FE} {q : Int32 → Mm → Prop} (cx : Cx g f cX8_move 5 RX8 5 121 0 0) (hr : (f_M f).sig.returnType = (some .int)) (hl : (f_M f).locks = false) (hQ : f_Q f = MQ (f_b f) (QW g (qI q)) (f_a f) (f_s f) 0 0 (fun q => g.2.2.2 ≤ q))  {x1 : Int32} {x2 : Int32} {x3 : Int32} {y0 : Int32} {μ : Mm} (h : F_X8_move_37  (KK_X8_move_37 g f ) (KK_X8_move_80 g f ) q x1 x2 x3 y0 μ) : KK_X8_move_37 g f  x1 x2 x3 y0 μ := by
  unfold F_X8_move_37 at h
  show KW g f 5 0 0 37 [some (.ref p_MO), some (.int x1), some (.int x2), some (.int x3), none] [.int y0] μ
  refine k_istore cx dX8_move_37 (by decide) ?_
  refine k_aload_n cx dX8_move_39 rfl rfl ?_
  refine k_iload cx dX8_move_40 rfl ?_
  refine k_if_ne (tgt := 49) cx dX8_move_42 (by decide) (fun hc => ?_) (fun hc => ?_)
  · replace h := h.1 hc
    refine k_aload_n cx dX8_move_49 rfl rfl ?_
    refine k_get (o := some p_MO_at) (v := .ref p_MO_at) cx fl_X8_38 ob_MO rfl rfl dX8_move_50 ?_
    refine k_iconst (v := (3 : Int32)) cx dX8_move_53 (by decide +kernel) ?_
    refine k_iload_n cx dX8_move_54 rfl rfl ?_
    refine k_imul cx dX8_move_55 ?_
    refine k_iload_n cx dX8_move_56 rfl rfl ?_
    refine k_iadd cx dX8_move_57 ?_
    obtain ⟨hi, h⟩ := h
    refine k_iald cx ar_MO_at hi dX8_move_58 ?_
    refine k_iload_n cx dX8_move_59 rfl rfl ?_
    refine k_icmp_ne (tgt := 67) cx dX8_move_60 (by decide) (fun hc => ?_) (fun hc => ?_)
    · replace h := h.1 hc
      refine k_aload_n cx dX8_move_67 rfl rfl ?_
      refine k_iload_n cx dX8_move_68 rfl rfl ?_
      refine k_callV (As := [.int x1]) (rest := [.ref p_MO]) cx (m_X8_canMove h) cv_X8_238 ob_MO rfl rfl rfl rfl (Nat.le_of_ble_eq_true rfl) ⟨Nat.le_of_ble_eq_true rfl, Nat.le_of_ble_eq_true rfl⟩ dX8_move_69 (fun v μ1 hq => ?_)
      obtain ⟨b2, rfl, h⟩ := hq
      refine k_if_eq (tgt := 79) cx dX8_move_72 (by decide) (fun hc => ?_) (fun hc => ?_)
      · replace h := h.1 hc
        refine k_iconst (v := (3 : Int32)) cx dX8_move_79 (by decide +kernel) ?_
        exact k_weak h (lsLe.keep (lsLe.keep (lsLe.keep (lsLe.keep (lsLe.drop lsLe.nil)))))
      · replace h := h.2 hc
        refine k_iconst (v := (0 : Int32)) cx dX8_move_75 (by decide +kernel) ?_
        refine k_goto (tgt := 80) cx dX8_move_76 (by decide) ?_
        exact k_weak h (lsLe.keep (lsLe.keep (lsLe.keep (lsLe.keep (lsLe.drop lsLe.nil)))))
    · replace h := h.2 hc
      refine k_iconst (v := (2 : Int32)) cx dX8_move_63 (by decide +kernel) ?_
      refine k_goto (tgt := 80) cx dX8_move_64 (by decide) ?_
      exact k_weak h (lsLe.keep (lsLe.keep (lsLe.keep (lsLe.keep (lsLe.drop lsLe.nil)))))
  · replace h := h.2 hc
    refine k_iconst (v := (1 : Int32)) cx dX8_move_45 (by decide +kernel) ?_
    refine k_goto (tgt := 80) cx dX8_move_46 (by decide) ?_
    exact k_weak h (lsLe.keep (lsLe.keep (lsLe.keep (lsLe.keep (lsLe.drop lsLe.nil)))))
set_option maxHeartbeats 2000000 in
theorem b_X8_move_80  {g : GE} {f : FE} {q : Int32 → Mm → Prop} (cx : Cx g f cX8_move 5 RX8 5 121 0 0) (hr : (f_M f).sig.returnType = (some .int)) (hl : (f_M f).locks = false) (hQ : f_Q f = MQ (f_b f) (QW g (qI q)) (f_a f) (f_s f) 0 0 (fun q => g.2.2.2 ≤ q))  {x1 : Int32} {x2 : Int32} {x3 : Int32} {y0 : Int32} {μ : Mm} (h : F_X8_move_80  (KK_X8_move_37 g f ) (KK_X8_move_80 g f ) q x1 x2 x3 y0 μ) : KK_X8_move_80 g f  x1 x2 x3 y0 μ := by
  unfold F_X8_move_80 at h
  show KW g f 5 0 0 80 [some (.ref p_MO), some (.int x1), some (.int x2), some (.int x3), none] [.int y0, .ref p_MO] μ
  refine k_callV (As := [.int y0]) (rest := []) cx (m_X8_can h) cv_X8_121 ob_MO rfl rfl rfl rfl (Nat.le_of_ble_eq_true rfl) ⟨Nat.le_of_ble_eq_true rfl, Nat.le_of_ble_eq_true rfl⟩ dX8_move_80 (fun v μ1 hq => ?_)
  obtain ⟨b2, rfl, h⟩ := hq
  refine k_if_ne (tgt := 88) cx dX8_move_83 (by decide) (fun hc => ?_) (fun hc => ?_)
  · replace h := h.1 hc
    refine k_aload_n cx dX8_move_88 rfl rfl ?_
    refine k_iload_n cx dX8_move_89 rfl rfl ?_
    refine k_iload_n cx dX8_move_90 rfl rfl ?_
    refine k_iload_n cx dX8_move_91 rfl rfl ?_
    refine k_callV (As := [.int x1, .int x2, .int x3]) (rest := []) cx (m_X8_moves h) cv_X8_241 ob_MO rfl rfl rfl rfl (Nat.le_of_ble_eq_true rfl) ⟨Nat.le_of_ble_eq_true rfl, Nat.le_of_ble_eq_true rfl⟩ dX8_move_92 (fun v μ3 hq => ?_)
    obtain ⟨z4, rfl, h⟩ := hq
    exact k_ret_I cx hr hl hQ dX8_move_95 h
  · replace h := h.2 hc
    refine k_iconst (v := (0 : Int32)) cx dX8_move_86 (by decide +kernel) ?_
    exact k_ret_I cx hr hl hQ dX8_move_87 h
set_option maxHeartbeats 2000000 in
theorem b_X8_move_e  {g : GE} {f : FE} {q : Int32 → Mm → Prop} (cx : Cx g f cX8_move 5 RX8 5 121 0 0) (hr : (f_M f).sig.returnType = (some .int)) (hl : (f_M f).locks = false) (hQ : f_Q f = MQ (f_b f) (QW g (qI q)) (f_a f) (f_s f) 0 0 (fun q => g.2.2.2 ≤ q))  {x1 : Int32} {x2 : Int32} {x3 : Int32} {μ : Mm} (h : F_X8_move_e  (KK_X8_move_37 g f ) (KK_X8_move_80 g f ) q x1 x2 x3 μ) : KW g f 5 0 0 0 [some (.ref p_MO), some (.int x1), some (.int x2), some (.int x3), none] [] μ := by
  unfold F_X8_move_e at h
  refine k_aload_n cx dX8_move_0 rfl rfl ?_
  refine k_iload_n cx dX8_move_1 rfl rfl ?_
  refine k_callV (As := [.int x1]) (rest := []) cx (m_X8_isRequest h) cv_X8_226 ob_MO rfl rfl rfl rfl (Nat.le_of_ble_eq_true rfl) ⟨Nat.le_of_ble_eq_true rfl, Nat.le_of_ble_eq_true rfl⟩ dX8_move_2 (fun v μ1 hq => ?_)
  obtain ⟨b2, rfl, h⟩ := hq
  refine k_if_eq (tgt := 36) cx dX8_move_5 (by decide) (fun hc => ?_) (fun hc => ?_)
  · replace h := h.1 hc
    refine k_iconst (v := (0 : Int32)) cx dX8_move_36 (by decide +kernel) ?_
    exact k_weak h (lsLe.keep (lsLe.keep (lsLe.keep (lsLe.keep (lsLe.keep lsLe.nil)))))
  · replace h := h.2 hc
    refine k_aload_n cx dX8_move_8 rfl rfl ?_
    refine k_iload_n cx dX8_move_9 rfl rfl ?_
    refine k_callV (As := [.int x3]) (rest := []) cx (m_X8_isNode h) cv_X8_125 ob_MO rfl rfl rfl rfl (Nat.le_of_ble_eq_true rfl) ⟨Nat.le_of_ble_eq_true rfl, Nat.le_of_ble_eq_true rfl⟩ dX8_move_10 (fun v μ3 hq => ?_)
    obtain ⟨b4, rfl, h⟩ := hq
    refine k_if_eq (tgt := 36) cx dX8_move_13 (by decide) (fun hc => ?_) (fun hc => ?_)
    · replace h := h.1 hc
      refine k_iconst (v := (0 : Int32)) cx dX8_move_36 (by decide +kernel) ?_
      exact k_weak h (lsLe.keep (lsLe.keep (lsLe.keep (lsLe.keep (lsLe.keep lsLe.nil)))))
    · replace h := h.2 hc
      refine k_iload_n cx dX8_move_16 rfl rfl ?_
      refine k_iconst (v := (0 : Int32)) cx dX8_move_17 (by decide +kernel) ?_
      refine k_aload_n cx dX8_move_18 rfl rfl ?_
      refine k_get (o := some p_MO_parts) (v := .ref p_MO_parts) cx fl_X8_26 ob_MO rfl rfl dX8_move_19 ?_
      refine k_iload_n cx dX8_move_22 rfl rfl ?_
      obtain ⟨hi, h⟩ := h
      refine k_iald cx ar_MO_parts hi dX8_move_23 ?_
      refine k_iconst (v := (1 : Int32)) cx dX8_move_24 (by decide +kernel) ?_
      refine k_isub cx dX8_move_25 ?_
      refine k_callS (As := [.int x2, .int (0 : Int32), .int ((μ3 p_MO_parts (x1).toNatClampNeg) - (1 : Int32))]) (rest := []) cx (m_X8_isIn h) cv_X8_111 rfl rfl (Nat.le_of_ble_eq_true rfl) ⟨Nat.le_of_ble_eq_true rfl, Nat.le_of_ble_eq_true rfl⟩ dX8_move_26 (fun v μ5 hq => ?_)
      obtain ⟨b6, rfl, h⟩ := hq
      refine k_if_eq (tgt := 36) cx dX8_move_29 (by decide) (fun hc => ?_) (fun hc => ?_)
      · replace h := h.1 hc
        refine k_iconst (v := (0 : Int32)) cx dX8_move_36 (by decide +kernel) ?_
        exact k_weak h (lsLe.keep (lsLe.keep (lsLe.keep (lsLe.keep (lsLe.keep lsLe.nil)))))
      · replace h := h.2 hc
        refine k_iconst (v := (1 : Int32)) cx dX8_move_32 (by decide +kernel) ?_
        refine k_goto (tgt := 37) cx dX8_move_33 (by decide) ?_
        exact k_weak h (lsLe.keep (lsLe.keep (lsLe.keep (lsLe.keep (lsLe.keep lsLe.nil)))))
theorem m_X8_move {g : GE} {l : Launch} {μ : Mm} {q : Int32 → Mm → Prop} {x1 : Int32} {x2 : Int32} {x3 : Int32}  (h : Wp_X8_move  x1 x2 x3 μ q) : MW g l yX8_move cX8_move 5 (some .int) 5 121 [.ref p_MO, .int x1, .int x2, .int x3] μ (qI q) := by
  refine met_of (by decide) (Nat.le_of_ble_eq_true rfl) (by intro v hv; simp only [List.mem_cons, List.not_mem_nil, or_false] at hv; rcases hv with rfl | rfl | rfl | rfl <;> rfl) ?_
  intro f hfl cx hr hl hQ
  exact b_X8_move_e  cx hr hl hQ (h (KK_X8_move_37 g f ) (KK_X8_move_80 g f ) (fun _ _ _ _ _ h => b_X8_move_37  cx hr hl hQ h) (fun _ _ _ _ _ h => b_X8_move_80  cx hr hl hQ h))
theorem dX8_node_0 : decode cX8_node 0 = .ok (.aload_n 0, 1) := by decide +kernel
theorem dX8_node_1 : decode cX8_node 1 = .ok (.iload_n 1, 1) := by decide +kernel
theorem dX8_node_2 : decode cX8_node 2 = .ok (.iconst 1, 1) := by decide +kernel
theorem dX8_node_3 : decode cX8_node 3 = .ok (.bipush 99, 2) := by decide +kernel
theorem dX8_node_5 : decode cX8_node 5 = .ok (.invokestatic 111, 3) := by decide +kernel
theorem dX8_node_8 : decode cX8_node 8 = .ok (.ifCond .ne 7, 3) := by decide +kernel
theorem dX8_node_11 : decode cX8_node 11 = .ok (.iconst 1, 1) := by decide +kernel
theorem dX8_node_12 : decode cX8_node 12 = .ok (.goto 17, 3) := by decide +kernel
theorem dX8_node_15 : decode cX8_node 15 = .ok (.aload_n 0, 1) := by decide +kernel
theorem dX8_node_16 : decode cX8_node 16 = .ok (.getfield 108, 3) := by decide +kernel
theorem dX8_node_19 : decode cX8_node 19 = .ok (.bipush 6, 2) := by decide +kernel
theorem dX8_node_21 : decode cX8_node 21 = .ok (.if_icmp .ne 7, 3) := by decide +kernel
theorem dX8_node_24 : decode cX8_node 24 = .ok (.iconst 2, 1) := by decide +kernel
theorem dX8_node_25 : decode cX8_node 25 = .ok (.goto 4, 3) := by decide +kernel
theorem dX8_node_28 : decode cX8_node 28 = .ok (.iconst 0, 1) := by decide +kernel
theorem dX8_node_29 : decode cX8_node 29 = .ok (.invokevirtual 121, 3) := by decide +kernel
theorem dX8_node_32 : decode cX8_node 32 = .ok (.ifCond .ne 5, 3) := by decide +kernel
theorem dX8_node_35 : decode cX8_node 35 = .ok (.iconst 0, 1) := by decide +kernel
theorem dX8_node_36 : decode cX8_node 36 = .ok (.ireturn, 1) := by decide +kernel
theorem dX8_node_37 : decode cX8_node 37 = .ok (.aload_n 0, 1) := by decide +kernel
theorem dX8_node_38 : decode cX8_node 38 = .ok (.getfield 7, 3) := by decide +kernel
theorem dX8_node_41 : decode cX8_node 41 = .ok (.aload_n 0, 1) := by decide +kernel
theorem dX8_node_42 : decode cX8_node 42 = .ok (.getfield 108, 3) := by decide +kernel
theorem dX8_node_45 : decode cX8_node 45 = .ok (.iload_n 1, 1) := by decide +kernel
theorem dX8_node_46 : decode cX8_node 46 = .ok (.iastore, 1) := by decide +kernel
theorem dX8_node_47 : decode cX8_node 47 = .ok (.aload_n 0, 1) := by decide +kernel
theorem dX8_node_48 : decode cX8_node 48 = .ok (.dup, 1) := by decide +kernel
theorem dX8_node_49 : decode cX8_node 49 = .ok (.getfield 108, 3) := by decide +kernel
theorem dX8_node_52 : decode cX8_node 52 = .ok (.iconst 1, 1) := by decide +kernel
theorem dX8_node_53 : decode cX8_node 53 = .ok (.iadd, 1) := by decide +kernel
theorem dX8_node_54 : decode cX8_node 54 = .ok (.putfield 108, 3) := by decide +kernel
theorem dX8_node_57 : decode cX8_node 57 = .ok (.aload_n 0, 1) := by decide +kernel
theorem dX8_node_58 : decode cX8_node 58 = .ok (.getfield 108, 3) := by decide +kernel
theorem dX8_node_61 : decode cX8_node 61 = .ok (.iconst 1, 1) := by decide +kernel
theorem dX8_node_62 : decode cX8_node 62 = .ok (.isub, 1) := by decide +kernel
theorem dX8_node_63 : decode cX8_node 63 = .ok (.ireturn, 1) := by decide +kernel
def F_X8_node_29  (K29 : Int32 → Int32 → Mm → Prop) (q : Int32 → Mm → Prop) (x1 : Int32) (y0 : Int32) (μ : Mm) : Prop :=
  Wp_X8_can y0 μ (fun b2 μ1 => ((¬ ((bI b2) = 0) → vp_in (μ1 p_MO 1) 6 ∧ q (((up2 (up2 μ1 p_MO_nodeRoom ((μ1 p_MO 1)).toNatClampNeg x1) p_MO 1 (((up2 μ1 p_MO_nodeRoom ((μ1 p_MO 1)).toNatClampNeg x1) p_MO 1) + (1 : Int32))) p_MO 1) - (1 : Int32)) (up2 (up2 μ1 p_MO_nodeRoom ((μ1 p_MO 1)).toNatClampNeg x1) p_MO 1 (((up2 μ1 p_MO_nodeRoom ((μ1 p_MO 1)).toNatClampNeg x1) p_MO 1) + (1 : Int32)))) ∧ ((bI b2) = 0 → q (0 : Int32) μ1)))
def F_X8_node_e  (K29 : Int32 → Int32 → Mm → Prop) (q : Int32 → Mm → Prop) (x1 : Int32) (μ : Mm) : Prop :=
  Wp_X8_isIn x1 (1 : Int32) (99 : Int32) μ (fun b2 μ1 => ((¬ ((bI b2) = 0) → ((¬ ((μ1 p_MO 1) = (6 : Int32)) → K29 x1 (0 : Int32) μ1) ∧ ((μ1 p_MO 1) = (6 : Int32) → K29 x1 (2 : Int32) μ1))) ∧ ((bI b2) = 0 → K29 x1 (1 : Int32) μ1)))
def Wp_X8_node  (x1 : Int32) (μ : Mm) (q : Int32 → Mm → Prop) : Prop := ∀ (K29 : Int32 → Int32 → Mm → Prop), (∀ (x1 : Int32) (y0 : Int32) (μ : Mm), F_X8_node_29  K29 q x1 y0 μ → K29 x1 y0 μ) → F_X8_node_e  K29 q x1 μ
abbrev KK_X8_node_29 (g : GE) (f : FE)  : Int32 → Int32 → Mm → Prop := fun x1 y0 μ => KW g f 2 0 0 29 [some (.ref p_MO), some (.int x1)] [.int y0, .ref p_MO] μ
set_option maxHeartbeats 2000000 in
theorem b_X8_node_29  {g : GE} {f : FE} {q : Int32 → Mm → Prop} (cx : Cx g f cX8_node 2 RX8 1 22 0 0) (hr : (f_M f).sig.returnType = (some .int)) (hl : (f_M f).locks = false) (hQ : f_Q f = MQ (f_b f) (QW g (qI q)) (f_a f) (f_s f) 0 0 (fun q => g.2.2.2 ≤ q))  {x1 : Int32} {y0 : Int32} {μ : Mm} (h : F_X8_node_29  (KK_X8_node_29 g f ) q x1 y0 μ) : KK_X8_node_29 g f  x1 y0 μ := by
  unfold F_X8_node_29 at h
  show KW g f 2 0 0 29 [some (.ref p_MO), some (.int x1)] [.int y0, .ref p_MO] μ
  refine k_callV (As := [.int y0]) (rest := []) cx (m_X8_can h) cv_X8_121 ob_MO rfl rfl rfl rfl (Nat.le_of_ble_eq_true rfl) ⟨Nat.le_of_ble_eq_true rfl, Nat.le_of_ble_eq_true rfl⟩ dX8_node_29 (fun v μ1 hq => ?_)
  obtain ⟨b2, rfl, h⟩ := hq
  refine k_if_ne (tgt := 37) cx dX8_node_32 (by decide) (fun hc => ?_) (fun hc => ?_)
  · replace h := h.1 hc
    refine k_aload_n cx dX8_node_37 rfl rfl ?_
    refine k_get (o := some p_MO_nodeRoom) (v := .ref p_MO_nodeRoom) cx fl_X8_7 ob_MO rfl rfl dX8_node_38 ?_
    refine k_aload_n cx dX8_node_41 rfl rfl ?_
    refine k_get (o := none) (v := .int (μ1 p_MO 1)) cx fl_X8_108 ob_MO rfl rfl dX8_node_42 ?_
    refine k_iload_n cx dX8_node_45 rfl rfl ?_
    obtain ⟨hi, h⟩ := h
    refine k_iast cx ar_MO_nodeRoom hi dX8_node_46 ?_
    refine k_aload_n cx dX8_node_47 rfl rfl ?_
    refine k_dup cx dX8_node_48 rfl ?_
    refine k_get (o := none) (v := .int ((up2 μ1 p_MO_nodeRoom ((μ1 p_MO 1)).toNatClampNeg x1) p_MO 1)) cx fl_X8_108 ob_MO rfl rfl dX8_node_49 ?_
    refine k_iconst (v := (1 : Int32)) cx dX8_node_52 (by decide +kernel) ?_
    refine k_iadd cx dX8_node_53 ?_
    refine k_put cx fp_X8_108 ob_MO rfl rfl rfl dX8_node_54 ?_
    refine k_aload_n cx dX8_node_57 rfl rfl ?_
    refine k_get (o := none) (v := .int ((up2 (up2 μ1 p_MO_nodeRoom ((μ1 p_MO 1)).toNatClampNeg x1) p_MO 1 (((up2 μ1 p_MO_nodeRoom ((μ1 p_MO 1)).toNatClampNeg x1) p_MO 1) + (1 : Int32))) p_MO 1)) cx fl_X8_108 ob_MO rfl rfl dX8_node_58 ?_
    refine k_iconst (v := (1 : Int32)) cx dX8_node_61 (by decide +kernel) ?_
    refine k_isub cx dX8_node_62 ?_
    exact k_ret_I cx hr hl hQ dX8_node_63 h
  · replace h := h.2 hc
    refine k_iconst (v := (0 : Int32)) cx dX8_node_35 (by decide +kernel) ?_
    exact k_ret_I cx hr hl hQ dX8_node_36 h
set_option maxHeartbeats 2000000 in
theorem b_X8_node_e  {g : GE} {f : FE} {q : Int32 → Mm → Prop} (cx : Cx g f cX8_node 2 RX8 1 22 0 0) (hr : (f_M f).sig.returnType = (some .int)) (hl : (f_M f).locks = false) (hQ : f_Q f = MQ (f_b f) (QW g (qI q)) (f_a f) (f_s f) 0 0 (fun q => g.2.2.2 ≤ q))  {x1 : Int32} {μ : Mm} (h : F_X8_node_e  (KK_X8_node_29 g f ) q x1 μ) : KW g f 2 0 0 0 [some (.ref p_MO), some (.int x1)] [] μ := by
  unfold F_X8_node_e at h
  refine k_aload_n cx dX8_node_0 rfl rfl ?_
  refine k_iload_n cx dX8_node_1 rfl rfl ?_
  refine k_iconst (v := (1 : Int32)) cx dX8_node_2 (by decide +kernel) ?_
  refine k_bipush (v := (99 : Int32)) cx dX8_node_3 (by decide +kernel) ?_
  refine k_callS (As := [.int x1, .int (1 : Int32), .int (99 : Int32)]) (rest := [.ref p_MO]) cx (m_X8_isIn h) cv_X8_111 rfl rfl (Nat.le_of_ble_eq_true rfl) ⟨Nat.le_of_ble_eq_true rfl, Nat.le_of_ble_eq_true rfl⟩ dX8_node_5 (fun v μ1 hq => ?_)
  obtain ⟨b2, rfl, h⟩ := hq
  refine k_if_ne (tgt := 15) cx dX8_node_8 (by decide) (fun hc => ?_) (fun hc => ?_)
  · replace h := h.1 hc
    refine k_aload_n cx dX8_node_15 rfl rfl ?_
    refine k_get (o := none) (v := .int (μ1 p_MO 1)) cx fl_X8_108 ob_MO rfl rfl dX8_node_16 ?_
    refine k_bipush (v := (6 : Int32)) cx dX8_node_19 (by decide +kernel) ?_
    refine k_icmp_ne (tgt := 28) cx dX8_node_21 (by decide) (fun hc => ?_) (fun hc => ?_)
    · replace h := h.1 hc
      refine k_iconst (v := (0 : Int32)) cx dX8_node_28 (by decide +kernel) ?_
      exact k_weak h (lsLe.keep (lsLe.keep lsLe.nil))
    · replace h := h.2 hc
      refine k_iconst (v := (2 : Int32)) cx dX8_node_24 (by decide +kernel) ?_
      refine k_goto (tgt := 29) cx dX8_node_25 (by decide) ?_
      exact k_weak h (lsLe.keep (lsLe.keep lsLe.nil))
  · replace h := h.2 hc
    refine k_iconst (v := (1 : Int32)) cx dX8_node_11 (by decide +kernel) ?_
    refine k_goto (tgt := 29) cx dX8_node_12 (by decide) ?_
    exact k_weak h (lsLe.keep (lsLe.keep lsLe.nil))
theorem m_X8_node {g : GE} {l : Launch} {μ : Mm} {q : Int32 → Mm → Prop} {x1 : Int32}  (h : Wp_X8_node  x1 μ q) : MW g l yX8_node cX8_node 2 (some .int) 1 22 [.ref p_MO, .int x1] μ (qI q) := by
  refine met_of (by decide) (Nat.le_of_ble_eq_true rfl) (by intro v hv; simp only [List.mem_cons, List.not_mem_nil, or_false] at hv; rcases hv with rfl | rfl <;> rfl) ?_
  intro f hfl cx hr hl hQ
  exact b_X8_node_e  cx hr hl hQ (h (KK_X8_node_29 g f ) (fun _ _ _ h => b_X8_node_29  cx hr hl hQ h))
theorem dX8_now_0 : decode cX8_now 0 = .ok (.aload_n 0, 1) := by decide +kernel
theorem dX8_now_1 : decode cX8_now 1 = .ok (.iconst 0, 1) := by decide +kernel
theorem dX8_now_2 : decode cX8_now 2 = .ok (.putfield 104, 3) := by decide +kernel
theorem dX8_now_5 : decode cX8_now 5 = .ok (.aload_n 0, 1) := by decide +kernel
theorem dX8_now_6 : decode cX8_now 6 = .ok (.getfield 223, 3) := by decide +kernel
theorem dX8_now_9 : decode cX8_now 9 = .ok (.ireturn, 1) := by decide +kernel
def F_X8_now_e   (q : Int32 → Mm → Prop)  (μ : Mm) : Prop :=
  q ((up2 μ p_MO 35 (0 : Int32)) p_MO 0) (up2 μ p_MO 35 (0 : Int32))
def Wp_X8_now   (μ : Mm) (q : Int32 → Mm → Prop) : Prop := F_X8_now_e   q  μ
set_option maxHeartbeats 2000000 in
theorem b_X8_now_e  {g : GE} {f : FE} {q : Int32 → Mm → Prop} (cx : Cx g f cX8_now 1 RX8 0 0 0 0) (hr : (f_M f).sig.returnType = (some .int)) (hl : (f_M f).locks = false) (hQ : f_Q f = MQ (f_b f) (QW g (qI q)) (f_a f) (f_s f) 0 0 (fun q => g.2.2.2 ≤ q))   {μ : Mm} (h : F_X8_now_e   q  μ) : KW g f 1 0 0 0 [some (.ref p_MO)] [] μ := by
  unfold F_X8_now_e at h
  refine k_aload_n cx dX8_now_0 rfl rfl ?_
  refine k_iconst (v := (0 : Int32)) cx dX8_now_1 (by decide +kernel) ?_
  refine k_put cx fp_X8_104 ob_MO rfl rfl rfl dX8_now_2 ?_
  refine k_aload_n cx dX8_now_5 rfl rfl ?_
  refine k_get (o := none) (v := .int ((up2 μ p_MO 35 (0 : Int32)) p_MO 0)) cx fl_X8_223 ob_MO rfl rfl dX8_now_6 ?_
  exact k_ret_I cx hr hl hQ dX8_now_9 h
theorem m_X8_now {g : GE} {l : Launch} {μ : Mm} {q : Int32 → Mm → Prop}  (h : Wp_X8_now   μ q) : MW g l yX8_now cX8_now 1 (some .int) 0 0 [.ref p_MO] μ (qI q) := by
  refine met_of (by decide) (Nat.le_of_ble_eq_true rfl) (by intro v hv; simp only [List.mem_cons, List.not_mem_nil, or_false] at hv; subst hv; rfl) ?_
  intro f hfl cx hr hl hQ
  exact b_X8_now_e  cx hr hl hQ (h  )
theorem dX8_ofLink_0 : decode cX8_ofLink 0 = .ok (.aload_n 0, 1) := by decide +kernel
theorem dX8_ofLink_1 : decode cX8_ofLink 1 = .ok (.aload_n 0, 1) := by decide +kernel
theorem dX8_ofLink_2 : decode cX8_ofLink 2 = .ok (.iload_n 1, 1) := by decide +kernel
theorem dX8_ofLink_3 : decode cX8_ofLink 3 = .ok (.invokevirtual 253, 3) := by decide +kernel
theorem dX8_ofLink_6 : decode cX8_ofLink 6 = .ok (.ifCond .ne 7, 3) := by decide +kernel
theorem dX8_ofLink_9 : decode cX8_ofLink 9 = .ok (.iconst 1, 1) := by decide +kernel
theorem dX8_ofLink_10 : decode cX8_ofLink 10 = .ok (.goto 17, 3) := by decide +kernel
theorem dX8_ofLink_13 : decode cX8_ofLink 13 = .ok (.iload_n 2, 1) := by decide +kernel
theorem dX8_ofLink_14 : decode cX8_ofLink 14 = .ok (.iconst 0, 1) := by decide +kernel
theorem dX8_ofLink_15 : decode cX8_ofLink 15 = .ok (.iconst 3, 1) := by decide +kernel
theorem dX8_ofLink_16 : decode cX8_ofLink 16 = .ok (.invokestatic 111, 3) := by decide +kernel
theorem dX8_ofLink_19 : decode cX8_ofLink 19 = .ok (.ifCond .eq 7, 3) := by decide +kernel
theorem dX8_ofLink_22 : decode cX8_ofLink 22 = .ok (.iconst 0, 1) := by decide +kernel
theorem dX8_ofLink_23 : decode cX8_ofLink 23 = .ok (.goto 4, 3) := by decide +kernel
theorem dX8_ofLink_26 : decode cX8_ofLink 26 = .ok (.iconst 2, 1) := by decide +kernel
theorem dX8_ofLink_27 : decode cX8_ofLink 27 = .ok (.invokevirtual 121, 3) := by decide +kernel
theorem dX8_ofLink_30 : decode cX8_ofLink 30 = .ok (.ifCond .ne 5, 3) := by decide +kernel
theorem dX8_ofLink_33 : decode cX8_ofLink 33 = .ok (.iconst 0, 1) := by decide +kernel
theorem dX8_ofLink_34 : decode cX8_ofLink 34 = .ok (.ireturn, 1) := by decide +kernel
theorem dX8_ofLink_35 : decode cX8_ofLink 35 = .ok (.iload_n 2, 1) := by decide +kernel
theorem dX8_ofLink_36 : decode cX8_ofLink 36 = .ok (.tableswitch 67 0 2 #[28, 34, 44], 28) := by decide +kernel
theorem dX8_ofLink_64 : decode cX8_ofLink 64 = .ok (.aload_n 0, 1) := by decide +kernel
theorem dX8_ofLink_65 : decode cX8_ofLink 65 = .ok (.iload_n 1, 1) := by decide +kernel
theorem dX8_ofLink_66 : decode cX8_ofLink 66 = .ok (.invokevirtual 147, 3) := by decide +kernel
theorem dX8_ofLink_69 : decode cX8_ofLink 69 = .ok (.ireturn, 1) := by decide +kernel
theorem dX8_ofLink_70 : decode cX8_ofLink 70 = .ok (.aload_n 0, 1) := by decide +kernel
theorem dX8_ofLink_71 : decode cX8_ofLink 71 = .ok (.iload_n 1, 1) := by decide +kernel
theorem dX8_ofLink_72 : decode cX8_ofLink 72 = .ok (.aload_n 0, 1) := by decide +kernel
theorem dX8_ofLink_73 : decode cX8_ofLink 73 = .ok (.getfield 118, 3) := by decide +kernel
theorem dX8_ofLink_76 : decode cX8_ofLink 76 = .ok (.invokevirtual 150, 3) := by decide +kernel
theorem dX8_ofLink_79 : decode cX8_ofLink 79 = .ok (.ireturn, 1) := by decide +kernel
theorem dX8_ofLink_80 : decode cX8_ofLink 80 = .ok (.aload_n 0, 1) := by decide +kernel
theorem dX8_ofLink_81 : decode cX8_ofLink 81 = .ok (.getfield 19, 3) := by decide +kernel
theorem dX8_ofLink_84 : decode cX8_ofLink 84 = .ok (.iload_n 1, 1) := by decide +kernel
theorem dX8_ofLink_85 : decode cX8_ofLink 85 = .ok (.iaload, 1) := by decide +kernel
theorem dX8_ofLink_86 : decode cX8_ofLink 86 = .ok (.aload_n 0, 1) := by decide +kernel
theorem dX8_ofLink_87 : decode cX8_ofLink 87 = .ok (.iload_n 1, 1) := by decide +kernel
theorem dX8_ofLink_88 : decode cX8_ofLink 88 = .ok (.invokevirtual 147, 3) := by decide +kernel
theorem dX8_ofLink_91 : decode cX8_ofLink 91 = .ok (.isub, 1) := by decide +kernel
theorem dX8_ofLink_92 : decode cX8_ofLink 92 = .ok (.aload_n 0, 1) := by decide +kernel
theorem dX8_ofLink_93 : decode cX8_ofLink 93 = .ok (.iload_n 1, 1) := by decide +kernel
theorem dX8_ofLink_94 : decode cX8_ofLink 94 = .ok (.aload_n 0, 1) := by decide +kernel
theorem dX8_ofLink_95 : decode cX8_ofLink 95 = .ok (.getfield 118, 3) := by decide +kernel
theorem dX8_ofLink_98 : decode cX8_ofLink 98 = .ok (.invokevirtual 150, 3) := by decide +kernel
theorem dX8_ofLink_101 : decode cX8_ofLink 101 = .ok (.isub, 1) := by decide +kernel
theorem dX8_ofLink_102 : decode cX8_ofLink 102 = .ok (.ireturn, 1) := by decide +kernel
theorem dX8_ofLink_103 : decode cX8_ofLink 103 = .ok (.aload_n 0, 1) := by decide +kernel
theorem dX8_ofLink_104 : decode cX8_ofLink 104 = .ok (.getfield 22, 3) := by decide +kernel
theorem dX8_ofLink_107 : decode cX8_ofLink 107 = .ok (.iload_n 1, 1) := by decide +kernel
theorem dX8_ofLink_108 : decode cX8_ofLink 108 = .ok (.baload, 1) := by decide +kernel
theorem dX8_ofLink_109 : decode cX8_ofLink 109 = .ok (.ifCond .eq 7, 3) := by decide +kernel
theorem dX8_ofLink_112 : decode cX8_ofLink 112 = .ok (.iconst 1, 1) := by decide +kernel
theorem dX8_ofLink_113 : decode cX8_ofLink 113 = .ok (.goto 4, 3) := by decide +kernel
theorem dX8_ofLink_116 : decode cX8_ofLink 116 = .ok (.iconst 0, 1) := by decide +kernel
theorem dX8_ofLink_117 : decode cX8_ofLink 117 = .ok (.ireturn, 1) := by decide +kernel
def F_X8_ofLink_27  (K27 : Int32 → Int32 → Int32 → Mm → Prop) (q : Int32 → Mm → Prop) (x1 : Int32) (x2 : Int32) (y0 : Int32) (μ : Mm) : Prop :=
  Wp_X8_can y0 μ (fun b2 μ1 => ((¬ ((bI b2) = 0) → (((x2 = 0 → Wp_X8_needs x1 μ1 (fun z4 μ3 => q z4 μ3)) ∧ (x2 = 1 → Wp_X8_reserved x1 (μ1 p_MO 8) μ1 (fun z6 μ5 => q z6 μ5)) ∧ (x2 = 2 → vp_in x1 9 ∧ Wp_X8_needs x1 μ1 (fun z8 μ7 => Wp_X8_reserved x1 (μ7 p_MO 8) μ7 (fun z10 μ9 => q (((μ1 p_MO_linkRoom (x1).toNatClampNeg) - z8) - z10) μ9)))) ∧ ((x2).toInt < 0 ∨ 2 < (x2).toInt → vp_in x1 9 ∧ (((μ1 p_MO_hasFailed (x1).toNatClampNeg) = 0 → q (0 : Int32) μ1) ∧ (¬ ((μ1 p_MO_hasFailed (x1).toNatClampNeg) = 0) → q (1 : Int32) μ1))))) ∧ ((bI b2) = 0 → q (0 : Int32) μ1)))
def F_X8_ofLink_e  (K27 : Int32 → Int32 → Int32 → Mm → Prop) (q : Int32 → Mm → Prop) (x1 : Int32) (x2 : Int32) (μ : Mm) : Prop :=
  Wp_X8_isLink x1 μ (fun b2 μ1 => ((¬ ((bI b2) = 0) → Wp_X8_isIn x2 (0 : Int32) (3 : Int32) μ1 (fun b4 μ3 => (((bI b4) = 0 → K27 x1 x2 (2 : Int32) μ3) ∧ (¬ ((bI b4) = 0) → K27 x1 x2 (0 : Int32) μ3)))) ∧ ((bI b2) = 0 → K27 x1 x2 (1 : Int32) μ1)))
def Wp_X8_ofLink  (x1 : Int32) (x2 : Int32) (μ : Mm) (q : Int32 → Mm → Prop) : Prop := ∀ (K27 : Int32 → Int32 → Int32 → Mm → Prop), (∀ (x1 : Int32) (x2 : Int32) (y0 : Int32) (μ : Mm), F_X8_ofLink_27  K27 q x1 x2 y0 μ → K27 x1 x2 y0 μ) → F_X8_ofLink_e  K27 q x1 x2 μ
abbrev KK_X8_ofLink_27 (g : GE) (f : FE)  : Int32 → Int32 → Int32 → Mm → Prop := fun x1 x2 y0 μ => KW g f 3 0 0 27 [some (.ref p_MO), some (.int x1), some (.int x2)] [.int y0, .ref p_MO] μ
set_option maxHeartbeats 2000000 in
theorem b_X8_ofLink_27  {g : GE} {f : FE} {q : Int32 → Mm → Prop} (cx : Cx g f cX8_ofLink 3 RX8 3 72 0 0) (hr : (f_M f).sig.returnType = (some .int)) (hl : (f_M f).locks = false) (hQ : f_Q f = MQ (f_b f) (QW g (qI q)) (f_a f) (f_s f) 0 0 (fun q => g.2.2.2 ≤ q))  {x1 : Int32} {x2 : Int32} {y0 : Int32} {μ : Mm} (h : F_X8_ofLink_27  (KK_X8_ofLink_27 g f ) q x1 x2 y0 μ) : KK_X8_ofLink_27 g f  x1 x2 y0 μ := by
  unfold F_X8_ofLink_27 at h
  show KW g f 3 0 0 27 [some (.ref p_MO), some (.int x1), some (.int x2)] [.int y0, .ref p_MO] μ
  refine k_callV (As := [.int y0]) (rest := []) cx (m_X8_can h) cv_X8_121 ob_MO rfl rfl rfl rfl (Nat.le_of_ble_eq_true rfl) ⟨Nat.le_of_ble_eq_true rfl, Nat.le_of_ble_eq_true rfl⟩ dX8_ofLink_27 (fun v μ1 hq => ?_)
  obtain ⟨b2, rfl, h⟩ := hq
  refine k_if_ne (tgt := 35) cx dX8_ofLink_30 (by decide) (fun hc => ?_) (fun hc => ?_)
  · replace h := h.1 hc
    refine k_iload_n cx dX8_ofLink_35 rfl rfl ?_
    by_cases hx : (x2).toInt < 0 ∨ 2 < (x2).toInt
    · replace h := h.2 hx
      refine k_tableOut (tgt := 103) cx dX8_ofLink_36 hx (by decide) ?_
      refine k_aload_n cx dX8_ofLink_103 rfl rfl ?_
      refine k_get (o := some p_MO_hasFailed) (v := .ref p_MO_hasFailed) cx fl_X8_22 ob_MO rfl rfl dX8_ofLink_104 ?_
      refine k_iload_n cx dX8_ofLink_107 rfl rfl ?_
      obtain ⟨hi, h⟩ := h
      refine k_zald cx ar_MO_hasFailed hi dX8_ofLink_108 ?_
      refine k_if_eq (tgt := 116) cx dX8_ofLink_109 (by decide) (fun hc => ?_) (fun hc => ?_)
      · replace h := h.1 hc
        refine k_iconst (v := (0 : Int32)) cx dX8_ofLink_116 (by decide +kernel) ?_
        exact k_ret_I cx hr hl hQ dX8_ofLink_117 h
      · replace h := h.2 hc
        refine k_iconst (v := (1 : Int32)) cx dX8_ofLink_112 (by decide +kernel) ?_
        refine k_goto (tgt := 117) cx dX8_ofLink_113 (by decide) ?_
        exact k_ret_I cx hr hl hQ dX8_ofLink_117 h
    · replace h := h.1
      rcases sw_2 hx with hx | hx | hx
      · replace h := h.1 hx
        refine k_tableIn (off := 28) (tgt := 64) cx dX8_ofLink_36 (by rw [hx]; decide) (by rw [hx]; decide) (by rw [hx]; decide) (by decide) ?_
        refine k_aload_n cx dX8_ofLink_64 rfl rfl ?_
        refine k_iload_n cx dX8_ofLink_65 rfl rfl ?_
        refine k_callV (As := [.int x1]) (rest := []) cx (m_X8_needs h) cv_X8_147 ob_MO rfl rfl rfl rfl (Nat.le_of_ble_eq_true rfl) ⟨Nat.le_of_ble_eq_true rfl, Nat.le_of_ble_eq_true rfl⟩ dX8_ofLink_66 (fun v μ3 hq => ?_)
        obtain ⟨z4, rfl, h⟩ := hq
        exact k_ret_I cx hr hl hQ dX8_ofLink_69 h
      · replace h := h.2.1 hx
        refine k_tableIn (off := 34) (tgt := 70) cx dX8_ofLink_36 (by rw [hx]; decide) (by rw [hx]; decide) (by rw [hx]; decide) (by decide) ?_
        refine k_aload_n cx dX8_ofLink_70 rfl rfl ?_
        refine k_iload_n cx dX8_ofLink_71 rfl rfl ?_
        refine k_aload_n cx dX8_ofLink_72 rfl rfl ?_
        refine k_get (o := none) (v := .int (μ1 p_MO 8)) cx fl_X8_118 ob_MO rfl rfl dX8_ofLink_73 ?_
        refine k_callV (As := [.int x1, .int (μ1 p_MO 8)]) (rest := []) cx (m_X8_reserved h) cv_X8_150 ob_MO rfl rfl rfl rfl (Nat.le_of_ble_eq_true rfl) ⟨Nat.le_of_ble_eq_true rfl, Nat.le_of_ble_eq_true rfl⟩ dX8_ofLink_76 (fun v μ5 hq => ?_)
        obtain ⟨z6, rfl, h⟩ := hq
        exact k_ret_I cx hr hl hQ dX8_ofLink_79 h
      · replace h := h.2.2 hx
        refine k_tableIn (off := 44) (tgt := 80) cx dX8_ofLink_36 (by rw [hx]; decide) (by rw [hx]; decide) (by rw [hx]; decide) (by decide) ?_
        refine k_aload_n cx dX8_ofLink_80 rfl rfl ?_
        refine k_get (o := some p_MO_linkRoom) (v := .ref p_MO_linkRoom) cx fl_X8_19 ob_MO rfl rfl dX8_ofLink_81 ?_
        refine k_iload_n cx dX8_ofLink_84 rfl rfl ?_
        obtain ⟨hi, h⟩ := h
        refine k_iald cx ar_MO_linkRoom hi dX8_ofLink_85 ?_
        refine k_aload_n cx dX8_ofLink_86 rfl rfl ?_
        refine k_iload_n cx dX8_ofLink_87 rfl rfl ?_
        refine k_callV (As := [.int x1]) (rest := [.int (μ1 p_MO_linkRoom (x1).toNatClampNeg)]) cx (m_X8_needs h) cv_X8_147 ob_MO rfl rfl rfl rfl (Nat.le_of_ble_eq_true rfl) ⟨Nat.le_of_ble_eq_true rfl, Nat.le_of_ble_eq_true rfl⟩ dX8_ofLink_88 (fun v μ7 hq => ?_)
        obtain ⟨z8, rfl, h⟩ := hq
        refine k_isub cx dX8_ofLink_91 ?_
        refine k_aload_n cx dX8_ofLink_92 rfl rfl ?_
        refine k_iload_n cx dX8_ofLink_93 rfl rfl ?_
        refine k_aload_n cx dX8_ofLink_94 rfl rfl ?_
        refine k_get (o := none) (v := .int (μ7 p_MO 8)) cx fl_X8_118 ob_MO rfl rfl dX8_ofLink_95 ?_
        refine k_callV (As := [.int x1, .int (μ7 p_MO 8)]) (rest := [.int ((μ1 p_MO_linkRoom (x1).toNatClampNeg) - z8)]) cx (m_X8_reserved h) cv_X8_150 ob_MO rfl rfl rfl rfl (Nat.le_of_ble_eq_true rfl) ⟨Nat.le_of_ble_eq_true rfl, Nat.le_of_ble_eq_true rfl⟩ dX8_ofLink_98 (fun v μ9 hq => ?_)
        obtain ⟨z10, rfl, h⟩ := hq
        refine k_isub cx dX8_ofLink_101 ?_
        exact k_ret_I cx hr hl hQ dX8_ofLink_102 h
  · replace h := h.2 hc
    refine k_iconst (v := (0 : Int32)) cx dX8_ofLink_33 (by decide +kernel) ?_
    exact k_ret_I cx hr hl hQ dX8_ofLink_34 h
set_option maxHeartbeats 2000000 in
theorem b_X8_ofLink_e  {g : GE} {f : FE} {q : Int32 → Mm → Prop} (cx : Cx g f cX8_ofLink 3 RX8 3 72 0 0) (hr : (f_M f).sig.returnType = (some .int)) (hl : (f_M f).locks = false) (hQ : f_Q f = MQ (f_b f) (QW g (qI q)) (f_a f) (f_s f) 0 0 (fun q => g.2.2.2 ≤ q))  {x1 : Int32} {x2 : Int32} {μ : Mm} (h : F_X8_ofLink_e  (KK_X8_ofLink_27 g f ) q x1 x2 μ) : KW g f 3 0 0 0 [some (.ref p_MO), some (.int x1), some (.int x2)] [] μ := by
  unfold F_X8_ofLink_e at h
  refine k_aload_n cx dX8_ofLink_0 rfl rfl ?_
  refine k_aload_n cx dX8_ofLink_1 rfl rfl ?_
  refine k_iload_n cx dX8_ofLink_2 rfl rfl ?_
  refine k_callV (As := [.int x1]) (rest := [.ref p_MO]) cx (m_X8_isLink h) cv_X8_253 ob_MO rfl rfl rfl rfl (Nat.le_of_ble_eq_true rfl) ⟨Nat.le_of_ble_eq_true rfl, Nat.le_of_ble_eq_true rfl⟩ dX8_ofLink_3 (fun v μ1 hq => ?_)
  obtain ⟨b2, rfl, h⟩ := hq
  refine k_if_ne (tgt := 13) cx dX8_ofLink_6 (by decide) (fun hc => ?_) (fun hc => ?_)
  · replace h := h.1 hc
    refine k_iload_n cx dX8_ofLink_13 rfl rfl ?_
    refine k_iconst (v := (0 : Int32)) cx dX8_ofLink_14 (by decide +kernel) ?_
    refine k_iconst (v := (3 : Int32)) cx dX8_ofLink_15 (by decide +kernel) ?_
    refine k_callS (As := [.int x2, .int (0 : Int32), .int (3 : Int32)]) (rest := [.ref p_MO]) cx (m_X8_isIn h) cv_X8_111 rfl rfl (Nat.le_of_ble_eq_true rfl) ⟨Nat.le_of_ble_eq_true rfl, Nat.le_of_ble_eq_true rfl⟩ dX8_ofLink_16 (fun v μ3 hq => ?_)
    obtain ⟨b4, rfl, h⟩ := hq
    refine k_if_eq (tgt := 26) cx dX8_ofLink_19 (by decide) (fun hc => ?_) (fun hc => ?_)
    · replace h := h.1 hc
      refine k_iconst (v := (2 : Int32)) cx dX8_ofLink_26 (by decide +kernel) ?_
      exact k_weak h (lsLe.keep (lsLe.keep (lsLe.keep lsLe.nil)))
    · replace h := h.2 hc
      refine k_iconst (v := (0 : Int32)) cx dX8_ofLink_22 (by decide +kernel) ?_
      refine k_goto (tgt := 27) cx dX8_ofLink_23 (by decide) ?_
      exact k_weak h (lsLe.keep (lsLe.keep (lsLe.keep lsLe.nil)))
  · replace h := h.2 hc
    refine k_iconst (v := (1 : Int32)) cx dX8_ofLink_9 (by decide +kernel) ?_
    refine k_goto (tgt := 27) cx dX8_ofLink_10 (by decide) ?_
    exact k_weak h (lsLe.keep (lsLe.keep (lsLe.keep lsLe.nil)))
theorem m_X8_ofLink {g : GE} {l : Launch} {μ : Mm} {q : Int32 → Mm → Prop} {x1 : Int32} {x2 : Int32}  (h : Wp_X8_ofLink  x1 x2 μ q) : MW g l yX8_ofLink cX8_ofLink 3 (some .int) 3 72 [.ref p_MO, .int x1, .int x2] μ (qI q) := by
  refine met_of (by decide) (Nat.le_of_ble_eq_true rfl) (by intro v hv; simp only [List.mem_cons, List.not_mem_nil, or_false] at hv; rcases hv with rfl | rfl | rfl <;> rfl) ?_
  intro f hfl cx hr hl hQ
  exact b_X8_ofLink_e  cx hr hl hQ (h (KK_X8_ofLink_27 g f ) (fun _ _ _ _ h => b_X8_ofLink_27  cx hr hl hQ h))
