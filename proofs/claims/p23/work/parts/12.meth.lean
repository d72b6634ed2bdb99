theorem dX5_setWay_0 : decode cX5_setWay 0 = .ok (.aload_n 0, 1) := by decide +kernel
theorem dX5_setWay_1 : decode cX5_setWay 1 = .ok (.getfield 30, 3) := by decide +kernel
theorem dX5_setWay_4 : decode cX5_setWay 4 = .ok (.iload_n 1, 1) := by decide +kernel
theorem dX5_setWay_5 : decode cX5_setWay 5 = .ok (.iload_n 2, 1) := by decide +kernel
theorem dX5_setWay_6 : decode cX5_setWay 6 = .ok (.iastore, 1) := by decide +kernel
theorem dX5_setWay_7 : decode cX5_setWay 7 = .ok (.aload_n 0, 1) := by decide +kernel
theorem dX5_setWay_8 : decode cX5_setWay 8 = .ok (.getfield 33, 3) := by decide +kernel
theorem dX5_setWay_11 : decode cX5_setWay 11 = .ok (.iload_n 1, 1) := by decide +kernel
theorem dX5_setWay_12 : decode cX5_setWay 12 = .ok (.aload_n 0, 1) := by decide +kernel
theorem dX5_setWay_13 : decode cX5_setWay 13 = .ok (.getfield 27, 3) := by decide +kernel
theorem dX5_setWay_16 : decode cX5_setWay 16 = .ok (.iload_n 1, 1) := by decide +kernel
theorem dX5_setWay_17 : decode cX5_setWay 17 = .ok (.iaload, 1) := by decide +kernel
theorem dX5_setWay_18 : decode cX5_setWay 18 = .ok (.iastore, 1) := by decide +kernel
theorem dX5_setWay_19 : decode cX5_setWay 19 = .ok (.aload_n 0, 1) := by decide +kernel
theorem dX5_setWay_20 : decode cX5_setWay 20 = .ok (.getfield 36, 3) := by decide +kernel
theorem dX5_setWay_23 : decode cX5_setWay 23 = .ok (.iload_n 1, 1) := by decide +kernel
theorem dX5_setWay_24 : decode cX5_setWay 24 = .ok (.iconst 0, 1) := by decide +kernel
theorem dX5_setWay_25 : decode cX5_setWay 25 = .ok (.iastore, 1) := by decide +kernel
theorem dX5_setWay_26 : decode cX5_setWay 26 = .ok (.aload_n 0, 1) := by decide +kernel
theorem dX5_setWay_27 : decode cX5_setWay 27 = .ok (.getfield 39, 3) := by decide +kernel
theorem dX5_setWay_30 : decode cX5_setWay 30 = .ok (.iload_n 1, 1) := by decide +kernel
theorem dX5_setWay_31 : decode cX5_setWay 31 = .ok (.iconst 0, 1) := by decide +kernel
theorem dX5_setWay_32 : decode cX5_setWay 32 = .ok (.iastore, 1) := by decide +kernel
theorem dX5_setWay_33 : decode cX5_setWay 33 = .ok (.return_, 1) := by decide +kernel
def F_X5_setWay_e (p0 : Nat)  (q : Mm → Prop) (x1 : Int32) (x2 : Int32) (μ : Mm) : Prop :=
  vp_in x1 3 ∧ vp_in x1 3 ∧ vp_in x1 3 ∧ vp_in x1 3 ∧ vp_in x1 3 ∧ q (up2 (up2 (up2 (up2 μ (p0 + 7) (x1).toNatClampNeg x2) (p0 + 8) (x1).toNatClampNeg ((up2 μ (p0 + 7) (x1).toNatClampNeg x2) (p0 + 6) (x1).toNatClampNeg)) (p0 + 9) (x1).toNatClampNeg (0 : Int32)) (p0 + 10) (x1).toNatClampNeg (0 : Int32))
def Wp_X5_setWay (p0 : Nat) (x1 : Int32) (x2 : Int32) (μ : Mm) (q : Mm → Prop) : Prop := F_X5_setWay_e p0  q x1 x2 μ
set_option maxHeartbeats 2000000 in
theorem b_X5_setWay_e {p0 : Nat} (h_p0 : isReq p0) {g : GE} {f : FE} {q : Mm → Prop} (cx : Cx g f cX5_setWay 3 RX5 0 0 0 0) (hr : (f_M f).sig.returnType = none) (hl : (f_M f).locks = false) (hQ : f_Q f = MQ (f_b f) (QW g (qV q)) (f_a f) (f_s f) 0 0 (fun q => g.2.2.2.1 ≤ q))  {x1 : Int32} {x2 : Int32} {μ : Mm} (h : F_X5_setWay_e p0  q x1 x2 μ) : KW g f 3 0 0 0 [some (.ref p0), some (.int x1), some (.int x2)] [] μ := by
  unfold F_X5_setWay_e at h
  refine k_aload_n cx dX5_setWay_0 rfl rfl ?_
  refine k_get (o := some (p0 + 7)) (v := .ref (p0 + 7)) cx fl_X5_30 (ob_RQ h_p0) rfl rfl dX5_setWay_1 ?_
  refine k_iload_n cx dX5_setWay_4 rfl rfl ?_
  refine k_iload_n cx dX5_setWay_5 rfl rfl ?_
  obtain ⟨hi, h⟩ := h
  refine k_iast cx (ar_RQ h_p0 7 (by decide) (by decide)) hi dX5_setWay_6 ?_
  refine k_aload_n cx dX5_setWay_7 rfl rfl ?_
  refine k_get (o := some (p0 + 8)) (v := .ref (p0 + 8)) cx fl_X5_33 (ob_RQ h_p0) rfl rfl dX5_setWay_8 ?_
  refine k_iload_n cx dX5_setWay_11 rfl rfl ?_
  refine k_aload_n cx dX5_setWay_12 rfl rfl ?_
  refine k_get (o := some (p0 + 6)) (v := .ref (p0 + 6)) cx fl_X5_27 (ob_RQ h_p0) rfl rfl dX5_setWay_13 ?_
  refine k_iload_n cx dX5_setWay_16 rfl rfl ?_
  obtain ⟨hi, h⟩ := h
  refine k_iald cx (ar_RQ h_p0 6 (by decide) (by decide)) hi dX5_setWay_17 ?_
  obtain ⟨hi, h⟩ := h
  refine k_iast cx (ar_RQ h_p0 8 (by decide) (by decide)) hi dX5_setWay_18 ?_
  refine k_aload_n cx dX5_setWay_19 rfl rfl ?_
  refine k_get (o := some (p0 + 9)) (v := .ref (p0 + 9)) cx fl_X5_36 (ob_RQ h_p0) rfl rfl dX5_setWay_20 ?_
  refine k_iload_n cx dX5_setWay_23 rfl rfl ?_
  refine k_iconst (v := (0 : Int32)) cx dX5_setWay_24 (by decide +kernel) ?_
  obtain ⟨hi, h⟩ := h
  refine k_iast cx (ar_RQ h_p0 9 (by decide) (by decide)) hi dX5_setWay_25 ?_
  refine k_aload_n cx dX5_setWay_26 rfl rfl ?_
  refine k_get (o := some (p0 + 10)) (v := .ref (p0 + 10)) cx fl_X5_39 (ob_RQ h_p0) rfl rfl dX5_setWay_27 ?_
  refine k_iload_n cx dX5_setWay_30 rfl rfl ?_
  refine k_iconst (v := (0 : Int32)) cx dX5_setWay_31 (by decide +kernel) ?_
  obtain ⟨hi, h⟩ := h
  refine k_iast cx (ar_RQ h_p0 10 (by decide) (by decide)) hi dX5_setWay_32 ?_
  exact k_ret_V cx hr hl hQ dX5_setWay_33 h
theorem m_X5_setWay {g : GE} {l : Launch} {μ : Mm} {q : Mm → Prop} {p0 : Nat} {x1 : Int32} {x2 : Int32} (h_p0 : isReq p0) (h : Wp_X5_setWay p0 x1 x2 μ q) : MW g l yX5_setWay cX5_setWay 3 none 0 0 [.ref p0, .int x1, .int x2] μ (qV q) := by
  refine met_of (by decide) (Nat.le_of_ble_eq_true rfl) (by intro v hv; simp only [List.mem_cons, List.not_mem_nil, or_false] at hv; rcases hv with rfl | rfl | rfl <;> rfl) ?_
  intro f hfl cx hr hl hQ
  exact b_X5_setWay_e h_p0 cx hr hl hQ (h  )
theorem dX4_splitLine_0 : decode cX4_splitLine 0 = .ok (.aload_n 1, 1) := by decide +kernel
theorem dX4_splitLine_1 : decode cX4_splitLine 1 = .ok (.iload_n 2, 1) := by decide +kernel
theorem dX4_splitLine_2 : decode cX4_splitLine 2 = .ok (.invokevirtual 79, 3) := by decide +kernel
theorem dX4_splitLine_5 : decode cX4_splitLine 5 = .ok (.istore_n 3, 1) := by decide +kernel
theorem dX4_splitLine_6 : decode cX4_splitLine 6 = .ok (.aload_n 1, 1) := by decide +kernel
theorem dX4_splitLine_7 : decode cX4_splitLine 7 = .ok (.getfield 83, 3) := by decide +kernel
theorem dX4_splitLine_10 : decode cX4_splitLine 10 = .ok (.iload_n 2, 1) := by decide +kernel
theorem dX4_splitLine_11 : decode cX4_splitLine 11 = .ok (.iaload, 1) := by decide +kernel
theorem dX4_splitLine_12 : decode cX4_splitLine 12 = .ok (.istore 4, 2) := by decide +kernel
theorem dX4_splitLine_14 : decode cX4_splitLine 14 = .ok (.aload_n 0, 1) := by decide +kernel
theorem dX4_splitLine_15 : decode cX4_splitLine 15 = .ok (.getfield 9, 3) := by decide +kernel
theorem dX4_splitLine_18 : decode cX4_splitLine 18 = .ok (.iload_n 3, 1) := by decide +kernel
theorem dX4_splitLine_19 : decode cX4_splitLine 19 = .ok (.aload_n 0, 1) := by decide +kernel
theorem dX4_splitLine_20 : decode cX4_splitLine 20 = .ok (.getfield 15, 3) := by decide +kernel
theorem dX4_splitLine_23 : decode cX4_splitLine 23 = .ok (.iload 4, 2) := by decide +kernel
theorem dX4_splitLine_25 : decode cX4_splitLine 25 = .ok (.invokevirtual 87, 3) := by decide +kernel
theorem dX4_splitLine_28 : decode cX4_splitLine 28 = .ok (.invokevirtual 90, 3) := by decide +kernel
theorem dX4_splitLine_31 : decode cX4_splitLine 31 = .ok (.istore 5, 2) := by decide +kernel
theorem dX4_splitLine_33 : decode cX4_splitLine 33 = .ok (.iload 5, 2) := by decide +kernel
theorem dX4_splitLine_35 : decode cX4_splitLine 35 = .ok (.ifCond .ne 34, 3) := by decide +kernel
theorem dX4_splitLine_38 : decode cX4_splitLine 38 = .ok (.iload 4, 2) := by decide +kernel
theorem dX4_splitLine_40 : decode cX4_splitLine 40 = .ok (.iconst 1, 1) := by decide +kernel
theorem dX4_splitLine_41 : decode cX4_splitLine 41 = .ok (.if_icmp .le 28, 3) := by decide +kernel
theorem dX4_splitLine_44 : decode cX4_splitLine 44 = .ok (.iinc 4 (-1), 3) := by decide +kernel
theorem dX4_splitLine_47 : decode cX4_splitLine 47 = .ok (.aload_n 0, 1) := by decide +kernel
theorem dX4_splitLine_48 : decode cX4_splitLine 48 = .ok (.getfield 9, 3) := by decide +kernel
theorem dX4_splitLine_51 : decode cX4_splitLine 51 = .ok (.iload_n 3, 1) := by decide +kernel
theorem dX4_splitLine_52 : decode cX4_splitLine 52 = .ok (.aload_n 0, 1) := by decide +kernel
theorem dX4_splitLine_53 : decode cX4_splitLine 53 = .ok (.getfield 15, 3) := by decide +kernel
theorem dX4_splitLine_56 : decode cX4_splitLine 56 = .ok (.iload 4, 2) := by decide +kernel
theorem dX4_splitLine_58 : decode cX4_splitLine 58 = .ok (.invokevirtual 87, 3) := by decide +kernel
theorem dX4_splitLine_61 : decode cX4_splitLine 61 = .ok (.invokevirtual 90, 3) := by decide +kernel
theorem dX4_splitLine_64 : decode cX4_splitLine 64 = .ok (.istore 5, 2) := by decide +kernel
theorem dX4_splitLine_66 : decode cX4_splitLine 66 = .ok (.goto (-33), 3) := by decide +kernel
theorem dX4_splitLine_69 : decode cX4_splitLine 69 = .ok (.aload_n 1, 1) := by decide +kernel
theorem dX4_splitLine_70 : decode cX4_splitLine 70 = .ok (.iload_n 2, 1) := by decide +kernel
theorem dX4_splitLine_71 : decode cX4_splitLine 71 = .ok (.iload 5, 2) := by decide +kernel
theorem dX4_splitLine_73 : decode cX4_splitLine 73 = .ok (.invokevirtual 96, 3) := by decide +kernel
theorem dX4_splitLine_76 : decode cX4_splitLine 76 = .ok (.aload_n 1, 1) := by decide +kernel
theorem dX4_splitLine_77 : decode cX4_splitLine 77 = .ok (.getfield 100, 3) := by decide +kernel
theorem dX4_splitLine_80 : decode cX4_splitLine 80 = .ok (.iload_n 2, 1) := by decide +kernel
theorem dX4_splitLine_81 : decode cX4_splitLine 81 = .ok (.iload 4, 2) := by decide +kernel
theorem dX4_splitLine_83 : decode cX4_splitLine 83 = .ok (.iastore, 1) := by decide +kernel
theorem dX4_splitLine_84 : decode cX4_splitLine 84 = .ok (.aload_n 1, 1) := by decide +kernel
theorem dX4_splitLine_85 : decode cX4_splitLine 85 = .ok (.iload_n 2, 1) := by decide +kernel
theorem dX4_splitLine_86 : decode cX4_splitLine 86 = .ok (.invokevirtual 103, 3) := by decide +kernel
theorem dX4_splitLine_89 : decode cX4_splitLine 89 = .ok (.istore 6, 2) := by decide +kernel
theorem dX4_splitLine_91 : decode cX4_splitLine 91 = .ok (.iload 5, 2) := by decide +kernel
theorem dX4_splitLine_93 : decode cX4_splitLine 93 = .ok (.ifCond .eq 8, 3) := by decide +kernel
theorem dX4_splitLine_96 : decode cX4_splitLine 96 = .ok (.iload 6, 2) := by decide +kernel
theorem dX4_splitLine_98 : decode cX4_splitLine 98 = .ok (.ifCond .ne 14, 3) := by decide +kernel
theorem dX4_splitLine_101 : decode cX4_splitLine 101 = .ok (.iload 5, 2) := by decide +kernel
theorem dX4_splitLine_103 : decode cX4_splitLine 103 = .ok (.ifCond .eq 7, 3) := by decide +kernel
theorem dX4_splitLine_106 : decode cX4_splitLine 106 = .ok (.iconst 1, 1) := by decide +kernel
theorem dX4_splitLine_107 : decode cX4_splitLine 107 = .ok (.goto 4, 3) := by decide +kernel
theorem dX4_splitLine_110 : decode cX4_splitLine 110 = .ok (.iconst 0, 1) := by decide +kernel
theorem dX4_splitLine_111 : decode cX4_splitLine 111 = .ok (.ireturn, 1) := by decide +kernel
theorem dX4_splitLine_112 : decode cX4_splitLine 112 = .ok (.aload_n 0, 1) := by decide +kernel
theorem dX4_splitLine_113 : decode cX4_splitLine 113 = .ok (.getfield 15, 3) := by decide +kernel
theorem dX4_splitLine_116 : decode cX4_splitLine 116 = .ok (.iload 5, 2) := by decide +kernel
theorem dX4_splitLine_118 : decode cX4_splitLine 118 = .ok (.iload 4, 2) := by decide +kernel
theorem dX4_splitLine_120 : decode cX4_splitLine 120 = .ok (.invokevirtual 106, 3) := by decide +kernel
theorem dX4_splitLine_123 : decode cX4_splitLine 123 = .ok (.aload_n 1, 1) := by decide +kernel
theorem dX4_splitLine_124 : decode cX4_splitLine 124 = .ok (.getfield 109, 3) := by decide +kernel
theorem dX4_splitLine_127 : decode cX4_splitLine 127 = .ok (.iload_n 2, 1) := by decide +kernel
theorem dX4_splitLine_128 : decode cX4_splitLine 128 = .ok (.aload_n 0, 1) := by decide +kernel
theorem dX4_splitLine_129 : decode cX4_splitLine 129 = .ok (.getfield 9, 3) := by decide +kernel
theorem dX4_splitLine_132 : decode cX4_splitLine 132 = .ok (.iload_n 3, 1) := by decide +kernel
theorem dX4_splitLine_133 : decode cX4_splitLine 133 = .ok (.aload_n 0, 1) := by decide +kernel
theorem dX4_splitLine_134 : decode cX4_splitLine 134 = .ok (.getfield 15, 3) := by decide +kernel
theorem dX4_splitLine_137 : decode cX4_splitLine 137 = .ok (.iload 6, 2) := by decide +kernel
theorem dX4_splitLine_139 : decode cX4_splitLine 139 = .ok (.invokevirtual 87, 3) := by decide +kernel
theorem dX4_splitLine_142 : decode cX4_splitLine 142 = .ok (.invokevirtual 90, 3) := by decide +kernel
theorem dX4_splitLine_145 : decode cX4_splitLine 145 = .ok (.iastore, 1) := by decide +kernel
theorem dX4_splitLine_146 : decode cX4_splitLine 146 = .ok (.aload_n 0, 1) := by decide +kernel
theorem dX4_splitLine_147 : decode cX4_splitLine 147 = .ok (.getfield 15, 3) := by decide +kernel
theorem dX4_splitLine_150 : decode cX4_splitLine 150 = .ok (.iload 5, 2) := by decide +kernel
theorem dX4_splitLine_152 : decode cX4_splitLine 152 = .ok (.iload 4, 2) := by decide +kernel
theorem dX4_splitLine_154 : decode cX4_splitLine 154 = .ok (.ineg, 1) := by decide +kernel
theorem dX4_splitLine_155 : decode cX4_splitLine 155 = .ok (.invokevirtual 106, 3) := by decide +kernel
theorem dX4_splitLine_158 : decode cX4_splitLine 158 = .ok (.aload_n 1, 1) := by decide +kernel
theorem dX4_splitLine_159 : decode cX4_splitLine 159 = .ok (.getfield 109, 3) := by decide +kernel
theorem dX4_splitLine_162 : decode cX4_splitLine 162 = .ok (.iload_n 2, 1) := by decide +kernel
theorem dX4_splitLine_163 : decode cX4_splitLine 163 = .ok (.iaload, 1) := by decide +kernel
theorem dX4_splitLine_164 : decode cX4_splitLine 164 = .ok (.ifCond .eq 7, 3) := by decide +kernel
theorem dX4_splitLine_167 : decode cX4_splitLine 167 = .ok (.iconst 1, 1) := by decide +kernel
theorem dX4_splitLine_168 : decode cX4_splitLine 168 = .ok (.goto 4, 3) := by decide +kernel
theorem dX4_splitLine_171 : decode cX4_splitLine 171 = .ok (.iconst 0, 1) := by decide +kernel
theorem dX4_splitLine_172 : decode cX4_splitLine 172 = .ok (.ireturn, 1) := by decide +kernel
def F_X4_splitLine_33 (p1 : Nat) (K33 : Int32 → Int32 → Int32 → Int32 → Mm → Prop) (K69 : Int32 → Int32 → Int32 → Int32 → Mm → Prop) (q : Bool → Mm → Prop) (x2 : Int32) (x3 : Int32) (x4 : Int32) (x5 : Int32) (μ : Mm) : Prop :=
  ((¬ (x5 = 0) → K69 x2 x3 x4 x5 μ) ∧ (x5 = 0 → ((x4 ≤ (1 : Int32) → K69 x2 x3 x4 x5 μ) ∧ (¬ (x4 ≤ (1 : Int32)) → Wp_X0_openFor (x4 + (-1 : Int32)) μ (fun z2 μ1 => Wp_X2_shortest x3 z2 μ1 (fun z4 μ3 => K33 x2 x3 (x4 + (-1 : Int32)) z4 μ3))))))
def F_X4_splitLine_69 (p1 : Nat) (K33 : Int32 → Int32 → Int32 → Int32 → Mm → Prop) (K69 : Int32 → Int32 → Int32 → Int32 → Mm → Prop) (q : Bool → Mm → Prop) (x2 : Int32) (x3 : Int32) (x4 : Int32) (x5 : Int32) (μ : Mm) : Prop :=
  Wp_X5_setWay p1 x2 x5 μ (fun μ1 => vp_in x2 3 ∧ Wp_X5_restOf p1 x2 (up2 μ1 (p1 + 8) (x2).toNatClampNeg x4) (fun z3 μ2 => ((x5 = 0 → ((x5 = 0 → q false μ2) ∧ (¬ (x5 = 0) → q true μ2))) ∧ (¬ (x5 = 0) → ((¬ (z3 = 0) → Wp_X0_carry x5 x4 μ2 (fun μ4 => Wp_X0_openFor z3 μ4 (fun z6 μ5 => Wp_X2_shortest x3 z6 μ5 (fun z8 μ7 => vp_in x2 3 ∧ Wp_X0_carry x5 (-x4) (up2 μ7 (p1 + 9) (x2).toNatClampNeg z8) (fun μ9 => vp_in x2 3 ∧ (((μ9 (p1 + 9) (x2).toNatClampNeg) = 0 → q false μ9) ∧ (¬ ((μ9 (p1 + 9) (x2).toNatClampNeg) = 0) → q true μ9))))))) ∧ (z3 = 0 → ((x5 = 0 → q false μ2) ∧ (¬ (x5 = 0) → q true μ2))))))))
def F_X4_splitLine_e (p1 : Nat) (K33 : Int32 → Int32 → Int32 → Int32 → Mm → Prop) (K69 : Int32 → Int32 → Int32 → Int32 → Mm → Prop) (q : Bool → Mm → Prop) (x2 : Int32) (μ : Mm) : Prop :=
  Wp_X5_pairOf p1 x2 μ (fun z2 μ1 => vp_in x2 3 ∧ Wp_X0_openFor (μ1 (p1 + 6) (x2).toNatClampNeg) μ1 (fun z4 μ3 => Wp_X2_shortest z2 z4 μ3 (fun z6 μ5 => K33 x2 z2 (μ1 (p1 + 6) (x2).toNatClampNeg) z6 μ5)))
def Wp_X4_splitLine (p1 : Nat) (x2 : Int32) (μ : Mm) (q : Bool → Mm → Prop) : Prop := ∀ (K33 : Int32 → Int32 → Int32 → Int32 → Mm → Prop) (K69 : Int32 → Int32 → Int32 → Int32 → Mm → Prop), (∀ (x2 : Int32) (x3 : Int32) (x4 : Int32) (x5 : Int32) (μ : Mm), F_X4_splitLine_33 p1 K33 K69 q x2 x3 x4 x5 μ → K33 x2 x3 x4 x5 μ) → (∀ (x2 : Int32) (x3 : Int32) (x4 : Int32) (x5 : Int32) (μ : Mm), F_X4_splitLine_69 p1 K33 K69 q x2 x3 x4 x5 μ → K69 x2 x3 x4 x5 μ) → F_X4_splitLine_e p1 K33 K69 q x2 μ
abbrev KK_X4_splitLine_33 (g : GE) (f : FE) (p1 : Nat) : Int32 → Int32 → Int32 → Int32 → Mm → Prop := fun x2 x3 x4 x5 μ => KW g f 7 0 0 33 [some (.ref p_PL), some (.ref p1), some (.int x2), some (.int x3), some (.int x4), some (.int x5), none] [] μ
abbrev KK_X4_splitLine_69 (g : GE) (f : FE) (p1 : Nat) : Int32 → Int32 → Int32 → Int32 → Mm → Prop := fun x2 x3 x4 x5 μ => KW g f 7 0 0 69 [some (.ref p_PL), some (.ref p1), some (.int x2), some (.int x3), some (.int x4), some (.int x5), none] [] μ
set_option maxHeartbeats 2000000 in
theorem b_X4_splitLine_33 {p1 : Nat} (h_p1 : isReq p1) {g : GE} {f : FE} {q : Bool → Mm → Prop} (cx : Cx g f cX4_splitLine 7 RX4 2 50 0 0) (hr : (f_M f).sig.returnType = (some .boolean)) (hl : (f_M f).locks = false) (hQ : f_Q f = MQ (f_b f) (QW g (qZ q)) (f_a f) (f_s f) 0 0 (fun q => g.2.2.2.1 ≤ q))  {x2 : Int32} {x3 : Int32} {x4 : Int32} {x5 : Int32} {μ : Mm} (h : F_X4_splitLine_33 p1 (KK_X4_splitLine_33 g f p1) (KK_X4_splitLine_69 g f p1) q x2 x3 x4 x5 μ) : KK_X4_splitLine_33 g f p1 x2 x3 x4 x5 μ := by
  unfold F_X4_splitLine_33 at h
  show KW g f 7 0 0 33 [some (.ref p_PL), some (.ref p1), some (.int x2), some (.int x3), some (.int x4), some (.int x5), none] [] μ
  refine k_iload cx dX4_splitLine_33 rfl ?_
  refine k_if_ne (tgt := 69) cx dX4_splitLine_35 (by decide) (fun hc => ?_) (fun hc => ?_)
  · replace h := h.1 hc
    exact k_weak h (lsLe.keep (lsLe.keep (lsLe.keep (lsLe.keep (lsLe.keep (lsLe.keep (lsLe.keep lsLe.nil)))))))
  · replace h := h.2 hc
    refine k_iload cx dX4_splitLine_38 rfl ?_
    refine k_iconst (v := (1 : Int32)) cx dX4_splitLine_40 (by decide +kernel) ?_
    refine k_icmp_le (tgt := 69) cx dX4_splitLine_41 (by decide) (fun hc => ?_) (fun hc => ?_)
    · replace h := h.1 hc
      exact k_weak h (lsLe.keep (lsLe.keep (lsLe.keep (lsLe.keep (lsLe.keep (lsLe.keep (lsLe.keep lsLe.nil)))))))
    · replace h := h.2 hc
      refine k_iinc (v := (x4 + (-1 : Int32))) cx dX4_splitLine_44 rfl rfl (by decide) ?_
      refine k_aload_n cx dX4_splitLine_47 rfl rfl ?_
      refine k_get (o := some p_GR) (v := .ref p_GR) cx fl_X4_9 ob_PL rfl rfl dX4_splitLine_48 ?_
      refine k_iload_n cx dX4_splitLine_51 rfl rfl ?_
      refine k_aload_n cx dX4_splitLine_52 rfl rfl ?_
      refine k_get (o := some p_BK) (v := .ref p_BK) cx fl_X4_15 ob_PL rfl rfl dX4_splitLine_53 ?_
      refine k_iload cx dX4_splitLine_56 rfl ?_
      refine k_callV (As := [.int (x4 + (-1 : Int32))]) (rest := [.int x3, .ref p_GR]) cx (m_X0_openFor h) cv_X4_87 ob_BK rfl rfl rfl rfl (Nat.le_of_ble_eq_true rfl) ⟨Nat.le_of_ble_eq_true rfl, Nat.le_of_ble_eq_true rfl⟩ dX4_splitLine_58 (fun v μ1 hq => ?_)
      obtain ⟨z2, rfl, h⟩ := hq
      refine k_callV (As := [.int x3, .int z2]) (rest := []) cx (m_X2_shortest h) cv_X4_90 ob_GR rfl rfl rfl rfl (Nat.le_of_ble_eq_true rfl) ⟨Nat.le_of_ble_eq_true rfl, Nat.le_of_ble_eq_true rfl⟩ dX4_splitLine_61 (fun v μ3 hq => ?_)
      obtain ⟨z4, rfl, h⟩ := hq
      refine k_istore cx dX4_splitLine_64 (by decide) ?_
      refine k_goto (tgt := 33) cx dX4_splitLine_66 (by decide) ?_
      exact k_weak h (lsLe.keep (lsLe.keep (lsLe.keep (lsLe.keep (lsLe.keep (lsLe.keep (lsLe.keep lsLe.nil)))))))
set_option maxHeartbeats 2000000 in
theorem b_X4_splitLine_69 {p1 : Nat} (h_p1 : isReq p1) {g : GE} {f : FE} {q : Bool → Mm → Prop} (cx : Cx g f cX4_splitLine 7 RX4 2 50 0 0) (hr : (f_M f).sig.returnType = (some .boolean)) (hl : (f_M f).locks = false) (hQ : f_Q f = MQ (f_b f) (QW g (qZ q)) (f_a f) (f_s f) 0 0 (fun q => g.2.2.2.1 ≤ q))  {x2 : Int32} {x3 : Int32} {x4 : Int32} {x5 : Int32} {μ : Mm} (h : F_X4_splitLine_69 p1 (KK_X4_splitLine_33 g f p1) (KK_X4_splitLine_69 g f p1) q x2 x3 x4 x5 μ) : KK_X4_splitLine_69 g f p1 x2 x3 x4 x5 μ := by
  unfold F_X4_splitLine_69 at h
  show KW g f 7 0 0 69 [some (.ref p_PL), some (.ref p1), some (.int x2), some (.int x3), some (.int x4), some (.int x5), none] [] μ
  refine k_aload_n cx dX4_splitLine_69 rfl rfl ?_
  refine k_iload_n cx dX4_splitLine_70 rfl rfl ?_
  refine k_iload cx dX4_splitLine_71 rfl ?_
  refine k_callV (As := [.int x2, .int x5]) (rest := []) cx (m_X5_setWay h_p1 h) cv_X4_96 (ob_RQ h_p1) rfl rfl rfl rfl (Nat.le_of_ble_eq_true rfl) ⟨Nat.le_of_ble_eq_true rfl, Nat.le_of_ble_eq_true rfl⟩ dX4_splitLine_73 (fun v μ1 hq => ?_)
  obtain ⟨rfl, h⟩ := hq
  refine k_aload_n cx dX4_splitLine_76 rfl rfl ?_
  refine k_get (o := some (p1 + 8)) (v := .ref (p1 + 8)) cx fl_X4_100 (ob_RQ h_p1) rfl rfl dX4_splitLine_77 ?_
  refine k_iload_n cx dX4_splitLine_80 rfl rfl ?_
  refine k_iload cx dX4_splitLine_81 rfl ?_
  obtain ⟨hi, h⟩ := h
  refine k_iast cx (ar_RQ h_p1 8 (by decide) (by decide)) hi dX4_splitLine_83 ?_
  refine k_aload_n cx dX4_splitLine_84 rfl rfl ?_
  refine k_iload_n cx dX4_splitLine_85 rfl rfl ?_
  refine k_callV (As := [.int x2]) (rest := []) cx (m_X5_restOf h_p1 h) cv_X4_103 (ob_RQ h_p1) rfl rfl rfl rfl (Nat.le_of_ble_eq_true rfl) ⟨Nat.le_of_ble_eq_true rfl, Nat.le_of_ble_eq_true rfl⟩ dX4_splitLine_86 (fun v μ2 hq => ?_)
  obtain ⟨z3, rfl, h⟩ := hq
  refine k_istore cx dX4_splitLine_89 (by decide) ?_
  refine k_iload cx dX4_splitLine_91 rfl ?_
  refine k_if_eq (tgt := 101) cx dX4_splitLine_93 (by decide) (fun hc => ?_) (fun hc => ?_)
  · replace h := h.1 hc
    refine k_iload cx dX4_splitLine_101 rfl ?_
    refine k_if_eq (tgt := 110) cx dX4_splitLine_103 (by decide) (fun hc => ?_) (fun hc => ?_)
    · replace h := h.1 hc
      refine k_iconst (v := (0 : Int32)) cx dX4_splitLine_110 (by decide +kernel) ?_
      exact k_ret_Z (b := false) cx hr hl hQ dX4_splitLine_111 rfl h
    · replace h := h.2 hc
      refine k_iconst (v := (1 : Int32)) cx dX4_splitLine_106 (by decide +kernel) ?_
      refine k_goto (tgt := 111) cx dX4_splitLine_107 (by decide) ?_
      exact k_ret_Z (b := true) cx hr hl hQ dX4_splitLine_111 rfl h
  · replace h := h.2 hc
    refine k_iload cx dX4_splitLine_96 rfl ?_
    refine k_if_ne (tgt := 112) cx dX4_splitLine_98 (by decide) (fun hc => ?_) (fun hc => ?_)
    · replace h := h.1 hc
      refine k_aload_n cx dX4_splitLine_112 rfl rfl ?_
      refine k_get (o := some p_BK) (v := .ref p_BK) cx fl_X4_15 ob_PL rfl rfl dX4_splitLine_113 ?_
      refine k_iload cx dX4_splitLine_116 rfl ?_
      refine k_iload cx dX4_splitLine_118 rfl ?_
      refine k_callV (As := [.int x5, .int x4]) (rest := []) cx (m_X0_carry h) cv_X4_106 ob_BK rfl rfl rfl rfl (Nat.le_of_ble_eq_true rfl) ⟨Nat.le_of_ble_eq_true rfl, Nat.le_of_ble_eq_true rfl⟩ dX4_splitLine_120 (fun v μ4 hq => ?_)
      obtain ⟨rfl, h⟩ := hq
      refine k_aload_n cx dX4_splitLine_123 rfl rfl ?_
      refine k_get (o := some (p1 + 9)) (v := .ref (p1 + 9)) cx fl_X4_109 (ob_RQ h_p1) rfl rfl dX4_splitLine_124 ?_
      refine k_iload_n cx dX4_splitLine_127 rfl rfl ?_
      refine k_aload_n cx dX4_splitLine_128 rfl rfl ?_
      refine k_get (o := some p_GR) (v := .ref p_GR) cx fl_X4_9 ob_PL rfl rfl dX4_splitLine_129 ?_
      refine k_iload_n cx dX4_splitLine_132 rfl rfl ?_
      refine k_aload_n cx dX4_splitLine_133 rfl rfl ?_
      refine k_get (o := some p_BK) (v := .ref p_BK) cx fl_X4_15 ob_PL rfl rfl dX4_splitLine_134 ?_
      refine k_iload cx dX4_splitLine_137 rfl ?_
      refine k_callV (As := [.int z3]) (rest := [.int x3, .ref p_GR, .int x2, .ref (p1 + 9)]) cx (m_X0_openFor h) cv_X4_87 ob_BK rfl rfl rfl rfl (Nat.le_of_ble_eq_true rfl) ⟨Nat.le_of_ble_eq_true rfl, Nat.le_of_ble_eq_true rfl⟩ dX4_splitLine_139 (fun v μ5 hq => ?_)
      obtain ⟨z6, rfl, h⟩ := hq
      refine k_callV (As := [.int x3, .int z6]) (rest := [.int x2, .ref (p1 + 9)]) cx (m_X2_shortest h) cv_X4_90 ob_GR rfl rfl rfl rfl (Nat.le_of_ble_eq_true rfl) ⟨Nat.le_of_ble_eq_true rfl, Nat.le_of_ble_eq_true rfl⟩ dX4_splitLine_142 (fun v μ7 hq => ?_)
      obtain ⟨z8, rfl, h⟩ := hq
      obtain ⟨hi, h⟩ := h
      refine k_iast cx (ar_RQ h_p1 9 (by decide) (by decide)) hi dX4_splitLine_145 ?_
      refine k_aload_n cx dX4_splitLine_146 rfl rfl ?_
      refine k_get (o := some p_BK) (v := .ref p_BK) cx fl_X4_15 ob_PL rfl rfl dX4_splitLine_147 ?_
      refine k_iload cx dX4_splitLine_150 rfl ?_
      refine k_iload cx dX4_splitLine_152 rfl ?_
      refine k_ineg cx dX4_splitLine_154 ?_
      refine k_callV (As := [.int x5, .int (-x4)]) (rest := []) cx (m_X0_carry h) cv_X4_106 ob_BK rfl rfl rfl rfl (Nat.le_of_ble_eq_true rfl) ⟨Nat.le_of_ble_eq_true rfl, Nat.le_of_ble_eq_true rfl⟩ dX4_splitLine_155 (fun v μ9 hq => ?_)
      obtain ⟨rfl, h⟩ := hq
      refine k_aload_n cx dX4_splitLine_158 rfl rfl ?_
      refine k_get (o := some (p1 + 9)) (v := .ref (p1 + 9)) cx fl_X4_109 (ob_RQ h_p1) rfl rfl dX4_splitLine_159 ?_
      refine k_iload_n cx dX4_splitLine_162 rfl rfl ?_
      obtain ⟨hi, h⟩ := h
      refine k_iald cx (ar_RQ h_p1 9 (by decide) (by decide)) hi dX4_splitLine_163 ?_
      refine k_if_eq (tgt := 171) cx dX4_splitLine_164 (by decide) (fun hc => ?_) (fun hc => ?_)
      · replace h := h.1 hc
        refine k_iconst (v := (0 : Int32)) cx dX4_splitLine_171 (by decide +kernel) ?_
        exact k_ret_Z (b := false) cx hr hl hQ dX4_splitLine_172 rfl h
      · replace h := h.2 hc
        refine k_iconst (v := (1 : Int32)) cx dX4_splitLine_167 (by decide +kernel) ?_
        refine k_goto (tgt := 172) cx dX4_splitLine_168 (by decide) ?_
        exact k_ret_Z (b := true) cx hr hl hQ dX4_splitLine_172 rfl h
    · replace h := h.2 hc
      refine k_iload cx dX4_splitLine_101 rfl ?_
      refine k_if_eq (tgt := 110) cx dX4_splitLine_103 (by decide) (fun hc => ?_) (fun hc => ?_)
      · replace h := h.1 hc
        refine k_iconst (v := (0 : Int32)) cx dX4_splitLine_110 (by decide +kernel) ?_
        exact k_ret_Z (b := false) cx hr hl hQ dX4_splitLine_111 rfl h
      · replace h := h.2 hc
        refine k_iconst (v := (1 : Int32)) cx dX4_splitLine_106 (by decide +kernel) ?_
        refine k_goto (tgt := 111) cx dX4_splitLine_107 (by decide) ?_
        exact k_ret_Z (b := true) cx hr hl hQ dX4_splitLine_111 rfl h
set_option maxHeartbeats 2000000 in
theorem b_X4_splitLine_e {p1 : Nat} (h_p1 : isReq p1) {g : GE} {f : FE} {q : Bool → Mm → Prop} (cx : Cx g f cX4_splitLine 7 RX4 2 50 0 0) (hr : (f_M f).sig.returnType = (some .boolean)) (hl : (f_M f).locks = false) (hQ : f_Q f = MQ (f_b f) (QW g (qZ q)) (f_a f) (f_s f) 0 0 (fun q => g.2.2.2.1 ≤ q))  {x2 : Int32} {μ : Mm} (h : F_X4_splitLine_e p1 (KK_X4_splitLine_33 g f p1) (KK_X4_splitLine_69 g f p1) q x2 μ) : KW g f 7 0 0 0 [some (.ref p_PL), some (.ref p1), some (.int x2), none, none, none, none] [] μ := by
  unfold F_X4_splitLine_e at h
  refine k_aload_n cx dX4_splitLine_0 rfl rfl ?_
  refine k_iload_n cx dX4_splitLine_1 rfl rfl ?_
  refine k_callV (As := [.int x2]) (rest := []) cx (m_X5_pairOf h_p1 h) cv_X4_79 (ob_RQ h_p1) rfl rfl rfl rfl (Nat.le_of_ble_eq_true rfl) ⟨Nat.le_of_ble_eq_true rfl, Nat.le_of_ble_eq_true rfl⟩ dX4_splitLine_2 (fun v μ1 hq => ?_)
  obtain ⟨z2, rfl, h⟩ := hq
  refine k_istore_n cx dX4_splitLine_5 rfl (by decide) ?_
  refine k_aload_n cx dX4_splitLine_6 rfl rfl ?_
  refine k_get (o := some (p1 + 6)) (v := .ref (p1 + 6)) cx fl_X4_83 (ob_RQ h_p1) rfl rfl dX4_splitLine_7 ?_
  refine k_iload_n cx dX4_splitLine_10 rfl rfl ?_
  obtain ⟨hi, h⟩ := h
  refine k_iald cx (ar_RQ h_p1 6 (by decide) (by decide)) hi dX4_splitLine_11 ?_
  refine k_istore cx dX4_splitLine_12 (by decide) ?_
  refine k_aload_n cx dX4_splitLine_14 rfl rfl ?_
  refine k_get (o := some p_GR) (v := .ref p_GR) cx fl_X4_9 ob_PL rfl rfl dX4_splitLine_15 ?_
  refine k_iload_n cx dX4_splitLine_18 rfl rfl ?_
  refine k_aload_n cx dX4_splitLine_19 rfl rfl ?_
  refine k_get (o := some p_BK) (v := .ref p_BK) cx fl_X4_15 ob_PL rfl rfl dX4_splitLine_20 ?_
  refine k_iload cx dX4_splitLine_23 rfl ?_
  refine k_callV (As := [.int (μ1 (p1 + 6) (x2).toNatClampNeg)]) (rest := [.int z2, .ref p_GR]) cx (m_X0_openFor h) cv_X4_87 ob_BK rfl rfl rfl rfl (Nat.le_of_ble_eq_true rfl) ⟨Nat.le_of_ble_eq_true rfl, Nat.le_of_ble_eq_true rfl⟩ dX4_splitLine_25 (fun v μ3 hq => ?_)
  obtain ⟨z4, rfl, h⟩ := hq
  refine k_callV (As := [.int z2, .int z4]) (rest := []) cx (m_X2_shortest h) cv_X4_90 ob_GR rfl rfl rfl rfl (Nat.le_of_ble_eq_true rfl) ⟨Nat.le_of_ble_eq_true rfl, Nat.le_of_ble_eq_true rfl⟩ dX4_splitLine_28 (fun v μ5 hq => ?_)
  obtain ⟨z6, rfl, h⟩ := hq
  refine k_istore cx dX4_splitLine_31 (by decide) ?_
  exact k_weak h (lsLe.keep (lsLe.keep (lsLe.keep (lsLe.keep (lsLe.keep (lsLe.keep (lsLe.keep lsLe.nil)))))))
theorem m_X4_splitLine {g : GE} {l : Launch} {μ : Mm} {q : Bool → Mm → Prop} {p1 : Nat} {x2 : Int32} (h_p1 : isReq p1) (h : Wp_X4_splitLine p1 x2 μ q) : MW g l yX4_splitLine cX4_splitLine 7 (some .boolean) 2 50 [.ref p_PL, .ref p1, .int x2] μ (qZ q) := by
  refine met_of (by decide) (Nat.le_of_ble_eq_true rfl) (by intro v hv; simp only [List.mem_cons, List.not_mem_nil, or_false] at hv; rcases hv with rfl | rfl | rfl <;> rfl) ?_
  intro f hfl cx hr hl hQ
  exact b_X4_splitLine_e h_p1 cx hr hl hQ (h (KK_X4_splitLine_33 g f p1) (KK_X4_splitLine_69 g f p1) (fun _ _ _ _ _ h => b_X4_splitLine_33 h_p1 cx hr hl hQ h) (fun _ _ _ _ _ h => b_X4_splitLine_69 h_p1 cx hr hl hQ h))
theorem dX4_splitLines_0 : decode cX4_splitLines 0 = .ok (.iconst 0, 1) := by decide +kernel
theorem dX4_splitLines_1 : decode cX4_splitLines 1 = .ok (.istore_n 2, 1) := by decide +kernel
theorem dX4_splitLines_2 : decode cX4_splitLines 2 = .ok (.iload_n 2, 1) := by decide +kernel
theorem dX4_splitLines_3 : decode cX4_splitLines 3 = .ok (.aload_n 1, 1) := by decide +kernel
theorem dX4_splitLines_4 : decode cX4_splitLines 4 = .ok (.getfield 66, 3) := by decide +kernel
theorem dX4_splitLines_7 : decode cX4_splitLines 7 = .ok (.if_icmp .ge 28, 3) := by decide +kernel
theorem dX4_splitLines_10 : decode cX4_splitLines 10 = .ok (.aload_n 0, 1) := by decide +kernel
theorem dX4_splitLines_11 : decode cX4_splitLines 11 = .ok (.aload_n 1, 1) := by decide +kernel
theorem dX4_splitLines_12 : decode cX4_splitLines 12 = .ok (.iload_n 2, 1) := by decide +kernel
theorem dX4_splitLines_13 : decode cX4_splitLines 13 = .ok (.invokevirtual 72, 3) := by decide +kernel
theorem dX4_splitLines_16 : decode cX4_splitLines 16 = .ok (.ifCond .eq 19, 3) := by decide +kernel
theorem dX4_splitLines_19 : decode cX4_splitLines 19 = .ok (.aload_n 0, 1) := by decide +kernel
theorem dX4_splitLines_20 : decode cX4_splitLines 20 = .ok (.getfield 15, 3) := by decide +kernel
theorem dX4_splitLines_23 : decode cX4_splitLines 23 = .ok (.aload_n 1, 1) := by decide +kernel
theorem dX4_splitLines_24 : decode cX4_splitLines 24 = .ok (.iload_n 2, 1) := by decide +kernel
theorem dX4_splitLines_25 : decode cX4_splitLines 25 = .ok (.iconst 1, 1) := by decide +kernel
theorem dX4_splitLines_26 : decode cX4_splitLines 26 = .ok (.invokevirtual 75, 3) := by decide +kernel
theorem dX4_splitLines_29 : decode cX4_splitLines 29 = .ok (.iinc 2 1, 3) := by decide +kernel
theorem dX4_splitLines_32 : decode cX4_splitLines 32 = .ok (.goto (-30), 3) := by decide +kernel
theorem dX4_splitLines_35 : decode cX4_splitLines 35 = .ok (.iconst 0, 1) := by decide +kernel
theorem dX4_splitLines_36 : decode cX4_splitLines 36 = .ok (.istore_n 3, 1) := by decide +kernel
theorem dX4_splitLines_37 : decode cX4_splitLines 37 = .ok (.iload_n 3, 1) := by decide +kernel
theorem dX4_splitLines_38 : decode cX4_splitLines 38 = .ok (.iload_n 2, 1) := by decide +kernel
theorem dX4_splitLines_39 : decode cX4_splitLines 39 = .ok (.if_icmp .ge 19, 3) := by decide +kernel
theorem dX4_splitLines_42 : decode cX4_splitLines 42 = .ok (.aload_n 0, 1) := by decide +kernel
theorem dX4_splitLines_43 : decode cX4_splitLines 43 = .ok (.getfield 15, 3) := by decide +kernel
theorem dX4_splitLines_46 : decode cX4_splitLines 46 = .ok (.aload_n 1, 1) := by decide +kernel
theorem dX4_splitLines_47 : decode cX4_splitLines 47 = .ok (.iload_n 3, 1) := by decide +kernel
theorem dX4_splitLines_48 : decode cX4_splitLines 48 = .ok (.iconst (-1), 1) := by decide +kernel
theorem dX4_splitLines_49 : decode cX4_splitLines 49 = .ok (.invokevirtual 75, 3) := by decide +kernel
theorem dX4_splitLines_52 : decode cX4_splitLines 52 = .ok (.iinc 3 1, 3) := by decide +kernel
theorem dX4_splitLines_55 : decode cX4_splitLines 55 = .ok (.goto (-18), 3) := by decide +kernel
theorem dX4_splitLines_58 : decode cX4_splitLines 58 = .ok (.iload_n 2, 1) := by decide +kernel
theorem dX4_splitLines_59 : decode cX4_splitLines 59 = .ok (.aload_n 1, 1) := by decide +kernel
theorem dX4_splitLines_60 : decode cX4_splitLines 60 = .ok (.getfield 66, 3) := by decide +kernel
theorem dX4_splitLines_63 : decode cX4_splitLines 63 = .ok (.if_icmp .ne 7, 3) := by decide +kernel
theorem dX4_splitLines_66 : decode cX4_splitLines 66 = .ok (.iconst 1, 1) := by decide +kernel
theorem dX4_splitLines_67 : decode cX4_splitLines 67 = .ok (.goto 4, 3) := by decide +kernel
theorem dX4_splitLines_70 : decode cX4_splitLines 70 = .ok (.iconst 0, 1) := by decide +kernel
theorem dX4_splitLines_71 : decode cX4_splitLines 71 = .ok (.ireturn, 1) := by decide +kernel
def F_X4_splitLines_2 (p1 : Nat) (K2 : Int32 → Mm → Prop) (K37 : Int32 → Int32 → Mm → Prop) (q : Bool → Mm → Prop) (x2 : Int32) (μ : Mm) : Prop :=
  (((μ p1 11) ≤ x2 → K37 x2 (0 : Int32) μ) ∧ (¬ ((μ p1 11) ≤ x2) → Wp_X4_splitLine p1 x2 μ (fun b2 μ1 => (((bI b2) = 0 → K37 x2 (0 : Int32) μ1) ∧ (¬ ((bI b2) = 0) → Wp_X0_enterWays p1 x2 (1 : Int32) μ1 (fun μ3 => K2 (x2 + (1 : Int32)) μ3))))))
def F_X4_splitLines_37 (p1 : Nat) (K2 : Int32 → Mm → Prop) (K37 : Int32 → Int32 → Mm → Prop) (q : Bool → Mm → Prop) (x2 : Int32) (x3 : Int32) (μ : Mm) : Prop :=
  ((x2 ≤ x3 → ((¬ (x2 = (μ p1 11)) → q false μ) ∧ (x2 = (μ p1 11) → q true μ))) ∧ (¬ (x2 ≤ x3) → Wp_X0_enterWays p1 x3 (-1 : Int32) μ (fun μ1 => K37 x2 (x3 + (1 : Int32)) μ1)))
def F_X4_splitLines_e (p1 : Nat) (K2 : Int32 → Mm → Prop) (K37 : Int32 → Int32 → Mm → Prop) (q : Bool → Mm → Prop)  (μ : Mm) : Prop :=
  K2 (0 : Int32) μ
def Wp_X4_splitLines (p1 : Nat)  (μ : Mm) (q : Bool → Mm → Prop) : Prop := ∀ (K2 : Int32 → Mm → Prop) (K37 : Int32 → Int32 → Mm → Prop), (∀ (x2 : Int32) (μ : Mm), F_X4_splitLines_2 p1 K2 K37 q x2 μ → K2 x2 μ) → (∀ (x2 : Int32) (x3 : Int32) (μ : Mm), F_X4_splitLines_37 p1 K2 K37 q x2 x3 μ → K37 x2 x3 μ) → F_X4_splitLines_e p1 K2 K37 q  μ
abbrev KK_X4_splitLines_2 (g : GE) (f : FE) (p1 : Nat) : Int32 → Mm → Prop := fun x2 μ => KW g f 4 0 0 2 [some (.ref p_PL), some (.ref p1), some (.int x2), none] [] μ
abbrev KK_X4_splitLines_37 (g : GE) (f : FE) (p1 : Nat) : Int32 → Int32 → Mm → Prop := fun x2 x3 μ => KW g f 4 0 0 37 [some (.ref p_PL), some (.ref p1), some (.int x2), some (.int x3)] [] μ
set_option maxHeartbeats 2000000 in
theorem b_X4_splitLines_2 {p1 : Nat} (h_p1 : isReq p1) {g : GE} {f : FE} {q : Bool → Mm → Prop} (cx : Cx g f cX4_splitLines 4 RX4 3 76 0 0) (hr : (f_M f).sig.returnType = (some .boolean)) (hl : (f_M f).locks = false) (hQ : f_Q f = MQ (f_b f) (QW g (qZ q)) (f_a f) (f_s f) 0 0 (fun q => g.2.2.2.1 ≤ q))  {x2 : Int32} {μ : Mm} (h : F_X4_splitLines_2 p1 (KK_X4_splitLines_2 g f p1) (KK_X4_splitLines_37 g f p1) q x2 μ) : KK_X4_splitLines_2 g f p1 x2 μ := by
  unfold F_X4_splitLines_2 at h
  show KW g f 4 0 0 2 [some (.ref p_PL), some (.ref p1), some (.int x2), none] [] μ
  refine k_iload_n cx dX4_splitLines_2 rfl rfl ?_
  refine k_aload_n cx dX4_splitLines_3 rfl rfl ?_
  refine k_get (o := none) (v := .int (μ p1 11)) cx fl_X4_66 (ob_RQ h_p1) rfl rfl dX4_splitLines_4 ?_
  refine k_icmp_ge (tgt := 35) cx dX4_splitLines_7 (by decide) (fun hc => ?_) (fun hc => ?_)
  · replace h := h.1 hc
    refine k_iconst (v := (0 : Int32)) cx dX4_splitLines_35 (by decide +kernel) ?_
    refine k_istore_n cx dX4_splitLines_36 rfl (by decide) ?_
    exact k_weak h (lsLe.keep (lsLe.keep (lsLe.keep (lsLe.keep lsLe.nil))))
  · replace h := h.2 hc
    refine k_aload_n cx dX4_splitLines_10 rfl rfl ?_
    refine k_aload_n cx dX4_splitLines_11 rfl rfl ?_
    refine k_iload_n cx dX4_splitLines_12 rfl rfl ?_
    refine k_callV (As := [.ref p1, .int x2]) (rest := []) cx (m_X4_splitLine h_p1 h) cv_X4_72 ob_PL rfl rfl rfl rfl (Nat.le_of_ble_eq_true rfl) ⟨Nat.le_of_ble_eq_true rfl, Nat.le_of_ble_eq_true rfl⟩ dX4_splitLines_13 (fun v μ1 hq => ?_)
    obtain ⟨b2, rfl, h⟩ := hq
    refine k_if_eq (tgt := 35) cx dX4_splitLines_16 (by decide) (fun hc => ?_) (fun hc => ?_)
    · replace h := h.1 hc
      refine k_iconst (v := (0 : Int32)) cx dX4_splitLines_35 (by decide +kernel) ?_
      refine k_istore_n cx dX4_splitLines_36 rfl (by decide) ?_
      exact k_weak h (lsLe.keep (lsLe.keep (lsLe.keep (lsLe.keep lsLe.nil))))
    · replace h := h.2 hc
      refine k_aload_n cx dX4_splitLines_19 rfl rfl ?_
      refine k_get (o := some p_BK) (v := .ref p_BK) cx fl_X4_15 ob_PL rfl rfl dX4_splitLines_20 ?_
      refine k_aload_n cx dX4_splitLines_23 rfl rfl ?_
      refine k_iload_n cx dX4_splitLines_24 rfl rfl ?_
      refine k_iconst (v := (1 : Int32)) cx dX4_splitLines_25 (by decide +kernel) ?_
      refine k_callV (As := [.ref p1, .int x2, .int (1 : Int32)]) (rest := []) cx (m_X0_enterWays h_p1 h) cv_X4_75 ob_BK rfl rfl rfl rfl (Nat.le_of_ble_eq_true rfl) ⟨Nat.le_of_ble_eq_true rfl, Nat.le_of_ble_eq_true rfl⟩ dX4_splitLines_26 (fun v μ3 hq => ?_)
      obtain ⟨rfl, h⟩ := hq
      refine k_iinc (v := (x2 + (1 : Int32))) cx dX4_splitLines_29 rfl rfl (by decide) ?_
      refine k_goto (tgt := 2) cx dX4_splitLines_32 (by decide) ?_
      exact k_weak h (lsLe.keep (lsLe.keep (lsLe.keep (lsLe.keep lsLe.nil))))
set_option maxHeartbeats 2000000 in
theorem b_X4_splitLines_37 {p1 : Nat} (h_p1 : isReq p1) {g : GE} {f : FE} {q : Bool → Mm → Prop} (cx : Cx g f cX4_splitLines 4 RX4 3 76 0 0) (hr : (f_M f).sig.returnType = (some .boolean)) (hl : (f_M f).locks = false) (hQ : f_Q f = MQ (f_b f) (QW g (qZ q)) (f_a f) (f_s f) 0 0 (fun q => g.2.2.2.1 ≤ q))  {x2 : Int32} {x3 : Int32} {μ : Mm} (h : F_X4_splitLines_37 p1 (KK_X4_splitLines_2 g f p1) (KK_X4_splitLines_37 g f p1) q x2 x3 μ) : KK_X4_splitLines_37 g f p1 x2 x3 μ := by
  unfold F_X4_splitLines_37 at h
  show KW g f 4 0 0 37 [some (.ref p_PL), some (.ref p1), some (.int x2), some (.int x3)] [] μ
  refine k_iload_n cx dX4_splitLines_37 rfl rfl ?_
  refine k_iload_n cx dX4_splitLines_38 rfl rfl ?_
  refine k_icmp_ge (tgt := 58) cx dX4_splitLines_39 (by decide) (fun hc => ?_) (fun hc => ?_)
  · replace h := h.1 hc
    refine k_iload_n cx dX4_splitLines_58 rfl rfl ?_
    refine k_aload_n cx dX4_splitLines_59 rfl rfl ?_
    refine k_get (o := none) (v := .int (μ p1 11)) cx fl_X4_66 (ob_RQ h_p1) rfl rfl dX4_splitLines_60 ?_
    refine k_icmp_ne (tgt := 70) cx dX4_splitLines_63 (by decide) (fun hc => ?_) (fun hc => ?_)
    · replace h := h.1 hc
      refine k_iconst (v := (0 : Int32)) cx dX4_splitLines_70 (by decide +kernel) ?_
      exact k_ret_Z (b := false) cx hr hl hQ dX4_splitLines_71 rfl h
    · replace h := h.2 hc
      refine k_iconst (v := (1 : Int32)) cx dX4_splitLines_66 (by decide +kernel) ?_
      refine k_goto (tgt := 71) cx dX4_splitLines_67 (by decide) ?_
      exact k_ret_Z (b := true) cx hr hl hQ dX4_splitLines_71 rfl h
  · replace h := h.2 hc
    refine k_aload_n cx dX4_splitLines_42 rfl rfl ?_
    refine k_get (o := some p_BK) (v := .ref p_BK) cx fl_X4_15 ob_PL rfl rfl dX4_splitLines_43 ?_
    refine k_aload_n cx dX4_splitLines_46 rfl rfl ?_
    refine k_iload_n cx dX4_splitLines_47 rfl rfl ?_
    refine k_iconst (v := (-1 : Int32)) cx dX4_splitLines_48 (by decide +kernel) ?_
    refine k_callV (As := [.ref p1, .int x3, .int (-1 : Int32)]) (rest := []) cx (m_X0_enterWays h_p1 h) cv_X4_75 ob_BK rfl rfl rfl rfl (Nat.le_of_ble_eq_true rfl) ⟨Nat.le_of_ble_eq_true rfl, Nat.le_of_ble_eq_true rfl⟩ dX4_splitLines_49 (fun v μ1 hq => ?_)
    obtain ⟨rfl, h⟩ := hq
    refine k_iinc (v := (x3 + (1 : Int32))) cx dX4_splitLines_52 rfl rfl (by decide) ?_
    refine k_goto (tgt := 37) cx dX4_splitLines_55 (by decide) ?_
    exact k_weak h (lsLe.keep (lsLe.keep (lsLe.keep (lsLe.keep lsLe.nil))))
set_option maxHeartbeats 2000000 in
theorem b_X4_splitLines_e {p1 : Nat} (h_p1 : isReq p1) {g : GE} {f : FE} {q : Bool → Mm → Prop} (cx : Cx g f cX4_splitLines 4 RX4 3 76 0 0) (hr : (f_M f).sig.returnType = (some .boolean)) (hl : (f_M f).locks = false) (hQ : f_Q f = MQ (f_b f) (QW g (qZ q)) (f_a f) (f_s f) 0 0 (fun q => g.2.2.2.1 ≤ q))   {μ : Mm} (h : F_X4_splitLines_e p1 (KK_X4_splitLines_2 g f p1) (KK_X4_splitLines_37 g f p1) q  μ) : KW g f 4 0 0 0 [some (.ref p_PL), some (.ref p1), none, none] [] μ := by
  unfold F_X4_splitLines_e at h
  refine k_iconst (v := (0 : Int32)) cx dX4_splitLines_0 (by decide +kernel) ?_
  refine k_istore_n cx dX4_splitLines_1 rfl (by decide) ?_
  exact k_weak h (lsLe.keep (lsLe.keep (lsLe.keep (lsLe.keep lsLe.nil))))
theorem m_X4_splitLines {g : GE} {l : Launch} {μ : Mm} {q : Bool → Mm → Prop} {p1 : Nat} (h_p1 : isReq p1) (h : Wp_X4_splitLines p1  μ q) : MW g l yX4_splitLines cX4_splitLines 4 (some .boolean) 3 76 [.ref p_PL, .ref p1] μ (qZ q) := by
  refine met_of (by decide) (Nat.le_of_ble_eq_true rfl) (by intro v hv; simp only [List.mem_cons, List.not_mem_nil, or_false] at hv; rcases hv with rfl | rfl <;> rfl) ?_
  intro f hfl cx hr hl hQ
  exact b_X4_splitLines_e h_p1 cx hr hl hQ (h (KK_X4_splitLines_2 g f p1) (KK_X4_splitLines_37 g f p1) (fun _ _ h => b_X4_splitLines_2 h_p1 cx hr hl hQ h) (fun _ _ _ h => b_X4_splitLines_37 h_p1 cx hr hl hQ h))
theorem dX4_mapSplit_0 : decode cX4_mapSplit 0 = .ok (.aload_n 0, 1) := by decide +kernel
theorem dX4_mapSplit_1 : decode cX4_mapSplit 1 = .ok (.getfield 28, 3) := by decide +kernel
theorem dX4_mapSplit_4 : decode cX4_mapSplit 4 = .ok (.aload_n 1, 1) := by decide +kernel
theorem dX4_mapSplit_5 : decode cX4_mapSplit 5 = .ok (.invokevirtual 55, 3) := by decide +kernel
theorem dX4_mapSplit_8 : decode cX4_mapSplit 8 = .ok (.istore_n 2, 1) := by decide +kernel
theorem dX4_mapSplit_9 : decode cX4_mapSplit 9 = .ok (.iconst 0, 1) := by decide +kernel
theorem dX4_mapSplit_10 : decode cX4_mapSplit 10 = .ok (.istore_n 3, 1) := by decide +kernel
theorem dX4_mapSplit_11 : decode cX4_mapSplit 11 = .ok (.iload_n 3, 1) := by decide +kernel
theorem dX4_mapSplit_12 : decode cX4_mapSplit 12 = .ok (.iload_n 2, 1) := by decide +kernel
theorem dX4_mapSplit_13 : decode cX4_mapSplit 13 = .ok (.if_icmp .ge 31, 3) := by decide +kernel
theorem dX4_mapSplit_16 : decode cX4_mapSplit 16 = .ok (.aload_n 0, 1) := by decide +kernel
theorem dX4_mapSplit_17 : decode cX4_mapSplit 17 = .ok (.getfield 28, 3) := by decide +kernel
theorem dX4_mapSplit_20 : decode cX4_mapSplit 20 = .ok (.aload_n 1, 1) := by decide +kernel
theorem dX4_mapSplit_21 : decode cX4_mapSplit 21 = .ok (.iload_n 3, 1) := by decide +kernel
theorem dX4_mapSplit_22 : decode cX4_mapSplit 22 = .ok (.invokevirtual 59, 3) := by decide +kernel
theorem dX4_mapSplit_25 : decode cX4_mapSplit 25 = .ok (.ifCond .eq 13, 3) := by decide +kernel
theorem dX4_mapSplit_28 : decode cX4_mapSplit 28 = .ok (.aload_n 0, 1) := by decide +kernel
theorem dX4_mapSplit_29 : decode cX4_mapSplit 29 = .ok (.aload_n 1, 1) := by decide +kernel
theorem dX4_mapSplit_30 : decode cX4_mapSplit 30 = .ok (.invokevirtual 63, 3) := by decide +kernel
theorem dX4_mapSplit_33 : decode cX4_mapSplit 33 = .ok (.ifCond .eq 5, 3) := by decide +kernel
theorem dX4_mapSplit_36 : decode cX4_mapSplit 36 = .ok (.iconst 1, 1) := by decide +kernel
theorem dX4_mapSplit_37 : decode cX4_mapSplit 37 = .ok (.ireturn, 1) := by decide +kernel
theorem dX4_mapSplit_38 : decode cX4_mapSplit 38 = .ok (.iinc 3 1, 3) := by decide +kernel
theorem dX4_mapSplit_41 : decode cX4_mapSplit 41 = .ok (.goto (-30), 3) := by decide +kernel
theorem dX4_mapSplit_44 : decode cX4_mapSplit 44 = .ok (.iconst 0, 1) := by decide +kernel
theorem dX4_mapSplit_45 : decode cX4_mapSplit 45 = .ok (.ireturn, 1) := by decide +kernel
def F_X4_mapSplit_11 (p1 : Nat) (K11 : Int32 → Int32 → Mm → Prop) (q : Bool → Mm → Prop) (x2 : Int32) (x3 : Int32) (μ : Mm) : Prop :=
  ((x2 ≤ x3 → q false μ) ∧ (¬ (x2 ≤ x3) → Wp_X1_take p_CP p1 x3 μ (fun b2 μ1 => (((bI b2) = 0 → K11 x2 (x3 + (1 : Int32)) μ1) ∧ (¬ ((bI b2) = 0) → Wp_X4_splitLines p1 μ1 (fun b4 μ3 => (((bI b4) = 0 → K11 x2 (x3 + (1 : Int32)) μ3) ∧ (¬ ((bI b4) = 0) → q true μ3))))))))
def F_X4_mapSplit_e (p1 : Nat) (K11 : Int32 → Int32 → Mm → Prop) (q : Bool → Mm → Prop)  (μ : Mm) : Prop :=
  Wp_X1_prepare p_CP p1 μ (fun z2 μ1 => K11 z2 (0 : Int32) μ1)
def Wp_X4_mapSplit (p1 : Nat)  (μ : Mm) (q : Bool → Mm → Prop) : Prop := ∀ (K11 : Int32 → Int32 → Mm → Prop), (∀ (x2 : Int32) (x3 : Int32) (μ : Mm), F_X4_mapSplit_11 p1 K11 q x2 x3 μ → K11 x2 x3 μ) → F_X4_mapSplit_e p1 K11 q  μ
abbrev KK_X4_mapSplit_11 (g : GE) (f : FE) (p1 : Nat) : Int32 → Int32 → Mm → Prop := fun x2 x3 μ => KW g f 4 0 0 11 [some (.ref p_PL), some (.ref p1), some (.int x2), some (.int x3)] [] μ
set_option maxHeartbeats 2000000 in
theorem b_X4_mapSplit_11 {p1 : Nat} (h_p1 : isReq p1) {g : GE} {f : FE} {q : Bool → Mm → Prop} (cx : Cx g f cX4_mapSplit 4 RX4 4 99 0 0) (hr : (f_M f).sig.returnType = (some .boolean)) (hl : (f_M f).locks = false) (hQ : f_Q f = MQ (f_b f) (QW g (qZ q)) (f_a f) (f_s f) 0 0 (fun q => g.2.2.2.1 ≤ q))  {x2 : Int32} {x3 : Int32} {μ : Mm} (h : F_X4_mapSplit_11 p1 (KK_X4_mapSplit_11 g f p1) q x2 x3 μ) : KK_X4_mapSplit_11 g f p1 x2 x3 μ := by
  unfold F_X4_mapSplit_11 at h
  show KW g f 4 0 0 11 [some (.ref p_PL), some (.ref p1), some (.int x2), some (.int x3)] [] μ
  refine k_iload_n cx dX4_mapSplit_11 rfl rfl ?_
  refine k_iload_n cx dX4_mapSplit_12 rfl rfl ?_
  refine k_icmp_ge (tgt := 44) cx dX4_mapSplit_13 (by decide) (fun hc => ?_) (fun hc => ?_)
  · replace h := h.1 hc
    refine k_iconst (v := (0 : Int32)) cx dX4_mapSplit_44 (by decide +kernel) ?_
    exact k_ret_Z (b := false) cx hr hl hQ dX4_mapSplit_45 rfl h
  · replace h := h.2 hc
    refine k_aload_n cx dX4_mapSplit_16 rfl rfl ?_
    refine k_get (o := some p_CP) (v := .ref p_CP) cx fl_X4_28 ob_PL rfl rfl dX4_mapSplit_17 ?_
    refine k_aload_n cx dX4_mapSplit_20 rfl rfl ?_
    refine k_iload_n cx dX4_mapSplit_21 rfl rfl ?_
    refine k_callV (As := [.ref p1, .int x3]) (rest := []) cx (m_X1_take ch_CP h_p1 h) cv_X4_59 (ob_CH ch_CP) rfl rfl rfl rfl (Nat.le_of_ble_eq_true rfl) ⟨Nat.le_of_ble_eq_true rfl, Nat.le_of_ble_eq_true rfl⟩ dX4_mapSplit_22 (fun v μ1 hq => ?_)
    obtain ⟨b2, rfl, h⟩ := hq
    refine k_if_eq (tgt := 38) cx dX4_mapSplit_25 (by decide) (fun hc => ?_) (fun hc => ?_)
    · replace h := h.1 hc
      refine k_iinc (v := (x3 + (1 : Int32))) cx dX4_mapSplit_38 rfl rfl (by decide) ?_
      refine k_goto (tgt := 11) cx dX4_mapSplit_41 (by decide) ?_
      exact k_weak h (lsLe.keep (lsLe.keep (lsLe.keep (lsLe.keep lsLe.nil))))
    · replace h := h.2 hc
      refine k_aload_n cx dX4_mapSplit_28 rfl rfl ?_
      refine k_aload_n cx dX4_mapSplit_29 rfl rfl ?_
      refine k_callV (As := [.ref p1]) (rest := []) cx (m_X4_splitLines h_p1 h) cv_X4_63 ob_PL rfl rfl rfl rfl (Nat.le_of_ble_eq_true rfl) ⟨Nat.le_of_ble_eq_true rfl, Nat.le_of_ble_eq_true rfl⟩ dX4_mapSplit_30 (fun v μ3 hq => ?_)
      obtain ⟨b4, rfl, h⟩ := hq
      refine k_if_eq (tgt := 38) cx dX4_mapSplit_33 (by decide) (fun hc => ?_) (fun hc => ?_)
      · replace h := h.1 hc
        refine k_iinc (v := (x3 + (1 : Int32))) cx dX4_mapSplit_38 rfl rfl (by decide) ?_
        refine k_goto (tgt := 11) cx dX4_mapSplit_41 (by decide) ?_
        exact k_weak h (lsLe.keep (lsLe.keep (lsLe.keep (lsLe.keep lsLe.nil))))
      · replace h := h.2 hc
        refine k_iconst (v := (1 : Int32)) cx dX4_mapSplit_36 (by decide +kernel) ?_
        exact k_ret_Z (b := true) cx hr hl hQ dX4_mapSplit_37 rfl h
set_option maxHeartbeats 2000000 in
theorem b_X4_mapSplit_e {p1 : Nat} (h_p1 : isReq p1) {g : GE} {f : FE} {q : Bool → Mm → Prop} (cx : Cx g f cX4_mapSplit 4 RX4 4 99 0 0) (hr : (f_M f).sig.returnType = (some .boolean)) (hl : (f_M f).locks = false) (hQ : f_Q f = MQ (f_b f) (QW g (qZ q)) (f_a f) (f_s f) 0 0 (fun q => g.2.2.2.1 ≤ q))   {μ : Mm} (h : F_X4_mapSplit_e p1 (KK_X4_mapSplit_11 g f p1) q  μ) : KW g f 4 0 0 0 [some (.ref p_PL), some (.ref p1), none, none] [] μ := by
  unfold F_X4_mapSplit_e at h
  refine k_aload_n cx dX4_mapSplit_0 rfl rfl ?_
  refine k_get (o := some p_CP) (v := .ref p_CP) cx fl_X4_28 ob_PL rfl rfl dX4_mapSplit_1 ?_
  refine k_aload_n cx dX4_mapSplit_4 rfl rfl ?_
  refine k_callV (As := [.ref p1]) (rest := []) cx (m_X1_prepare ch_CP h_p1 h) cv_X4_55 (ob_CH ch_CP) rfl rfl rfl rfl (Nat.le_of_ble_eq_true rfl) ⟨Nat.le_of_ble_eq_true rfl, Nat.le_of_ble_eq_true rfl⟩ dX4_mapSplit_5 (fun v μ1 hq => ?_)
  obtain ⟨z2, rfl, h⟩ := hq
  refine k_istore_n cx dX4_mapSplit_8 rfl (by decide) ?_
  refine k_iconst (v := (0 : Int32)) cx dX4_mapSplit_9 (by decide +kernel) ?_
  refine k_istore_n cx dX4_mapSplit_10 rfl (by decide) ?_
  exact k_weak h (lsLe.keep (lsLe.keep (lsLe.keep (lsLe.keep lsLe.nil))))
theorem m_X4_mapSplit {g : GE} {l : Launch} {μ : Mm} {q : Bool → Mm → Prop} {p1 : Nat} (h_p1 : isReq p1) (h : Wp_X4_mapSplit p1  μ q) : MW g l yX4_mapSplit cX4_mapSplit 4 (some .boolean) 4 99 [.ref p_PL, .ref p1] μ (qZ q) := by
  refine met_of (by decide) (Nat.le_of_ble_eq_true rfl) (by intro v hv; simp only [List.mem_cons, List.not_mem_nil, or_false] at hv; rcases hv with rfl | rfl <;> rfl) ?_
  intro f hfl cx hr hl hQ
  exact b_X4_mapSplit_e h_p1 cx hr hl hQ (h (KK_X4_mapSplit_11 g f p1) (fun _ _ _ h => b_X4_mapSplit_11 h_p1 cx hr hl hQ h))
theorem dX4_secure_0 : decode cX4_secure 0 = .ok (.iconst 0, 1) := by decide +kernel
theorem dX4_secure_1 : decode cX4_secure 1 = .ok (.istore_n 2, 1) := by decide +kernel
theorem dX4_secure_2 : decode cX4_secure 2 = .ok (.iload_n 2, 1) := by decide +kernel
theorem dX4_secure_3 : decode cX4_secure 3 = .ok (.aload_n 1, 1) := by decide +kernel
theorem dX4_secure_4 : decode cX4_secure 4 = .ok (.getfield 66, 3) := by decide +kernel
theorem dX4_secure_7 : decode cX4_secure 7 = .ok (.if_icmp .ge 69, 3) := by decide +kernel
theorem dX4_secure_10 : decode cX4_secure 10 = .ok (.aload_n 0, 1) := by decide +kernel
theorem dX4_secure_11 : decode cX4_secure 11 = .ok (.getfield 15, 3) := by decide +kernel
theorem dX4_secure_14 : decode cX4_secure 14 = .ok (.aload_n 1, 1) := by decide +kernel
theorem dX4_secure_15 : decode cX4_secure 15 = .ok (.getfield 112, 3) := by decide +kernel
theorem dX4_secure_18 : decode cX4_secure 18 = .ok (.iload_n 2, 1) := by decide +kernel
theorem dX4_secure_19 : decode cX4_secure 19 = .ok (.iaload, 1) := by decide +kernel
theorem dX4_secure_20 : decode cX4_secure 20 = .ok (.aload_n 1, 1) := by decide +kernel
theorem dX4_secure_21 : decode cX4_secure 21 = .ok (.getfield 83, 3) := by decide +kernel
theorem dX4_secure_24 : decode cX4_secure 24 = .ok (.iload_n 2, 1) := by decide +kernel
theorem dX4_secure_25 : decode cX4_secure 25 = .ok (.iaload, 1) := by decide +kernel
theorem dX4_secure_26 : decode cX4_secure 26 = .ok (.invokevirtual 115, 3) := by decide +kernel
theorem dX4_secure_29 : decode cX4_secure 29 = .ok (.istore_n 3, 1) := by decide +kernel
theorem dX4_secure_30 : decode cX4_secure 30 = .ok (.aload_n 1, 1) := by decide +kernel
theorem dX4_secure_31 : decode cX4_secure 31 = .ok (.getfield 118, 3) := by decide +kernel
theorem dX4_secure_34 : decode cX4_secure 34 = .ok (.iload_n 2, 1) := by decide +kernel
theorem dX4_secure_35 : decode cX4_secure 35 = .ok (.aload_n 0, 1) := by decide +kernel
theorem dX4_secure_36 : decode cX4_secure 36 = .ok (.getfield 9, 3) := by decide +kernel
theorem dX4_secure_39 : decode cX4_secure 39 = .ok (.aload_n 1, 1) := by decide +kernel
theorem dX4_secure_40 : decode cX4_secure 40 = .ok (.iload_n 2, 1) := by decide +kernel
theorem dX4_secure_41 : decode cX4_secure 41 = .ok (.invokevirtual 79, 3) := by decide +kernel
theorem dX4_secure_44 : decode cX4_secure 44 = .ok (.iload_n 3, 1) := by decide +kernel
theorem dX4_secure_45 : decode cX4_secure 45 = .ok (.invokevirtual 90, 3) := by decide +kernel
theorem dX4_secure_48 : decode cX4_secure 48 = .ok (.iastore, 1) := by decide +kernel
theorem dX4_secure_49 : decode cX4_secure 49 = .ok (.aload_n 1, 1) := by decide +kernel
theorem dX4_secure_50 : decode cX4_secure 50 = .ok (.getfield 118, 3) := by decide +kernel
theorem dX4_secure_53 : decode cX4_secure 53 = .ok (.iload_n 2, 1) := by decide +kernel
theorem dX4_secure_54 : decode cX4_secure 54 = .ok (.iaload, 1) := by decide +kernel
theorem dX4_secure_55 : decode cX4_secure 55 = .ok (.ifCond .ne 5, 3) := by decide +kernel
theorem dX4_secure_58 : decode cX4_secure 58 = .ok (.iconst 0, 1) := by decide +kernel
theorem dX4_secure_59 : decode cX4_secure 59 = .ok (.ireturn, 1) := by decide +kernel
theorem dX4_secure_60 : decode cX4_secure 60 = .ok (.aload_n 0, 1) := by decide +kernel
theorem dX4_secure_61 : decode cX4_secure 61 = .ok (.getfield 15, 3) := by decide +kernel
theorem dX4_secure_64 : decode cX4_secure 64 = .ok (.aload_n 1, 1) := by decide +kernel
theorem dX4_secure_65 : decode cX4_secure 65 = .ok (.iload_n 2, 1) := by decide +kernel
theorem dX4_secure_66 : decode cX4_secure 66 = .ok (.iconst 1, 1) := by decide +kernel
theorem dX4_secure_67 : decode cX4_secure 67 = .ok (.invokevirtual 121, 3) := by decide +kernel
theorem dX4_secure_70 : decode cX4_secure 70 = .ok (.iinc 2 1, 3) := by decide +kernel
theorem dX4_secure_73 : decode cX4_secure 73 = .ok (.goto (-71), 3) := by decide +kernel
theorem dX4_secure_76 : decode cX4_secure 76 = .ok (.iconst 1, 1) := by decide +kernel
theorem dX4_secure_77 : decode cX4_secure 77 = .ok (.ireturn, 1) := by decide +kernel
def F_X4_secure_2 (p1 : Nat) (K2 : Int32 → Mm → Prop) (q : Bool → Mm → Prop) (x2 : Int32) (μ : Mm) : Prop :=
  (((μ p1 11) ≤ x2 → q true μ) ∧ (¬ ((μ p1 11) ≤ x2) → vp_in x2 3 ∧ vp_in x2 3 ∧ Wp_X0_openBehind (μ (p1 + 7) (x2).toNatClampNeg) (μ (p1 + 6) (x2).toNatClampNeg) μ (fun z2 μ1 => Wp_X5_pairOf p1 x2 μ1 (fun z4 μ3 => Wp_X2_shortest z4 z2 μ3 (fun z6 μ5 => vp_in x2 3 ∧ vp_in x2 3 ∧ ((¬ (((up2 μ5 (p1 + 10) (x2).toNatClampNeg z6) (p1 + 10) (x2).toNatClampNeg) = 0) → Wp_X0_enterSecondWay p1 x2 (1 : Int32) (up2 μ5 (p1 + 10) (x2).toNatClampNeg z6) (fun μ7 => K2 (x2 + (1 : Int32)) μ7)) ∧ (((up2 μ5 (p1 + 10) (x2).toNatClampNeg z6) (p1 + 10) (x2).toNatClampNeg) = 0 → q false (up2 μ5 (p1 + 10) (x2).toNatClampNeg z6))))))))
def F_X4_secure_e (p1 : Nat) (K2 : Int32 → Mm → Prop) (q : Bool → Mm → Prop)  (μ : Mm) : Prop :=
  K2 (0 : Int32) μ
def Wp_X4_secure (p1 : Nat)  (μ : Mm) (q : Bool → Mm → Prop) : Prop := ∀ (K2 : Int32 → Mm → Prop), (∀ (x2 : Int32) (μ : Mm), F_X4_secure_2 p1 K2 q x2 μ → K2 x2 μ) → F_X4_secure_e p1 K2 q  μ
abbrev KK_X4_secure_2 (g : GE) (f : FE) (p1 : Nat) : Int32 → Mm → Prop := fun x2 μ => KW g f 4 0 0 2 [some (.ref p_PL), some (.ref p1), some (.int x2), none] [] μ
set_option maxHeartbeats 2000000 in
theorem b_X4_secure_2 {p1 : Nat} (h_p1 : isReq p1) {g : GE} {f : FE} {q : Bool → Mm → Prop} (cx : Cx g f cX4_secure 4 RX4 3 70 0 0) (hr : (f_M f).sig.returnType = (some .boolean)) (hl : (f_M f).locks = false) (hQ : f_Q f = MQ (f_b f) (QW g (qZ q)) (f_a f) (f_s f) 0 0 (fun q => g.2.2.2.1 ≤ q))  {x2 : Int32} {μ : Mm} (h : F_X4_secure_2 p1 (KK_X4_secure_2 g f p1) q x2 μ) : KK_X4_secure_2 g f p1 x2 μ := by
  unfold F_X4_secure_2 at h
  show KW g f 4 0 0 2 [some (.ref p_PL), some (.ref p1), some (.int x2), none] [] μ
  refine k_iload_n cx dX4_secure_2 rfl rfl ?_
  refine k_aload_n cx dX4_secure_3 rfl rfl ?_
  refine k_get (o := none) (v := .int (μ p1 11)) cx fl_X4_66 (ob_RQ h_p1) rfl rfl dX4_secure_4 ?_
  refine k_icmp_ge (tgt := 76) cx dX4_secure_7 (by decide) (fun hc => ?_) (fun hc => ?_)
  · replace h := h.1 hc
    refine k_iconst (v := (1 : Int32)) cx dX4_secure_76 (by decide +kernel) ?_
    exact k_ret_Z (b := true) cx hr hl hQ dX4_secure_77 rfl h
  · replace h := h.2 hc
    refine k_aload_n cx dX4_secure_10 rfl rfl ?_
    refine k_get (o := some p_BK) (v := .ref p_BK) cx fl_X4_15 ob_PL rfl rfl dX4_secure_11 ?_
    refine k_aload_n cx dX4_secure_14 rfl rfl ?_
    refine k_get (o := some (p1 + 7)) (v := .ref (p1 + 7)) cx fl_X4_112 (ob_RQ h_p1) rfl rfl dX4_secure_15 ?_
    refine k_iload_n cx dX4_secure_18 rfl rfl ?_
    obtain ⟨hi, h⟩ := h
    refine k_iald cx (ar_RQ h_p1 7 (by decide) (by decide)) hi dX4_secure_19 ?_
    refine k_aload_n cx dX4_secure_20 rfl rfl ?_
    refine k_get (o := some (p1 + 6)) (v := .ref (p1 + 6)) cx fl_X4_83 (ob_RQ h_p1) rfl rfl dX4_secure_21 ?_
    refine k_iload_n cx dX4_secure_24 rfl rfl ?_
    obtain ⟨hi, h⟩ := h
    refine k_iald cx (ar_RQ h_p1 6 (by decide) (by decide)) hi dX4_secure_25 ?_
    refine k_callV (As := [.int (μ (p1 + 7) (x2).toNatClampNeg), .int (μ (p1 + 6) (x2).toNatClampNeg)]) (rest := []) cx (m_X0_openBehind h) cv_X4_115 ob_BK rfl rfl rfl rfl (Nat.le_of_ble_eq_true rfl) ⟨Nat.le_of_ble_eq_true rfl, Nat.le_of_ble_eq_true rfl⟩ dX4_secure_26 (fun v μ1 hq => ?_)
    obtain ⟨z2, rfl, h⟩ := hq
    refine k_istore_n cx dX4_secure_29 rfl (by decide) ?_
    refine k_aload_n cx dX4_secure_30 rfl rfl ?_
    refine k_get (o := some (p1 + 10)) (v := .ref (p1 + 10)) cx fl_X4_118 (ob_RQ h_p1) rfl rfl dX4_secure_31 ?_
    refine k_iload_n cx dX4_secure_34 rfl rfl ?_
    refine k_aload_n cx dX4_secure_35 rfl rfl ?_
    refine k_get (o := some p_GR) (v := .ref p_GR) cx fl_X4_9 ob_PL rfl rfl dX4_secure_36 ?_
    refine k_aload_n cx dX4_secure_39 rfl rfl ?_
    refine k_iload_n cx dX4_secure_40 rfl rfl ?_
    refine k_callV (As := [.int x2]) (rest := [.ref p_GR, .int x2, .ref (p1 + 10)]) cx (m_X5_pairOf h_p1 h) cv_X4_79 (ob_RQ h_p1) rfl rfl rfl rfl (Nat.le_of_ble_eq_true rfl) ⟨Nat.le_of_ble_eq_true rfl, Nat.le_of_ble_eq_true rfl⟩ dX4_secure_41 (fun v μ3 hq => ?_)
    obtain ⟨z4, rfl, h⟩ := hq
    refine k_iload_n cx dX4_secure_44 rfl rfl ?_
    refine k_callV (As := [.int z4, .int z2]) (rest := [.int x2, .ref (p1 + 10)]) cx (m_X2_shortest h) cv_X4_90 ob_GR rfl rfl rfl rfl (Nat.le_of_ble_eq_true rfl) ⟨Nat.le_of_ble_eq_true rfl, Nat.le_of_ble_eq_true rfl⟩ dX4_secure_45 (fun v μ5 hq => ?_)
    obtain ⟨z6, rfl, h⟩ := hq
    obtain ⟨hi, h⟩ := h
    refine k_iast cx (ar_RQ h_p1 10 (by decide) (by decide)) hi dX4_secure_48 ?_
    refine k_aload_n cx dX4_secure_49 rfl rfl ?_
    refine k_get (o := some (p1 + 10)) (v := .ref (p1 + 10)) cx fl_X4_118 (ob_RQ h_p1) rfl rfl dX4_secure_50 ?_
    refine k_iload_n cx dX4_secure_53 rfl rfl ?_
    obtain ⟨hi, h⟩ := h
    refine k_iald cx (ar_RQ h_p1 10 (by decide) (by decide)) hi dX4_secure_54 ?_
    refine k_if_ne (tgt := 60) cx dX4_secure_55 (by decide) (fun hc => ?_) (fun hc => ?_)
    · replace h := h.1 hc
      refine k_aload_n cx dX4_secure_60 rfl rfl ?_
      refine k_get (o := some p_BK) (v := .ref p_BK) cx fl_X4_15 ob_PL rfl rfl dX4_secure_61 ?_
      refine k_aload_n cx dX4_secure_64 rfl rfl ?_
      refine k_iload_n cx dX4_secure_65 rfl rfl ?_
      refine k_iconst (v := (1 : Int32)) cx dX4_secure_66 (by decide +kernel) ?_
      refine k_callV (As := [.ref p1, .int x2, .int (1 : Int32)]) (rest := []) cx (m_X0_enterSecondWay h_p1 h) cv_X4_121 ob_BK rfl rfl rfl rfl (Nat.le_of_ble_eq_true rfl) ⟨Nat.le_of_ble_eq_true rfl, Nat.le_of_ble_eq_true rfl⟩ dX4_secure_67 (fun v μ7 hq => ?_)
      obtain ⟨rfl, h⟩ := hq
      refine k_iinc (v := (x2 + (1 : Int32))) cx dX4_secure_70 rfl rfl (by decide) ?_
      refine k_goto (tgt := 2) cx dX4_secure_73 (by decide) ?_
      exact k_weak h (lsLe.keep (lsLe.keep (lsLe.keep (lsLe.drop lsLe.nil))))
    · replace h := h.2 hc
      refine k_iconst (v := (0 : Int32)) cx dX4_secure_58 (by decide +kernel) ?_
      exact k_ret_Z (b := false) cx hr hl hQ dX4_secure_59 rfl h
set_option maxHeartbeats 2000000 in
theorem b_X4_secure_e {p1 : Nat} (h_p1 : isReq p1) {g : GE} {f : FE} {q : Bool → Mm → Prop} (cx : Cx g f cX4_secure 4 RX4 3 70 0 0) (hr : (f_M f).sig.returnType = (some .boolean)) (hl : (f_M f).locks = false) (hQ : f_Q f = MQ (f_b f) (QW g (qZ q)) (f_a f) (f_s f) 0 0 (fun q => g.2.2.2.1 ≤ q))   {μ : Mm} (h : F_X4_secure_e p1 (KK_X4_secure_2 g f p1) q  μ) : KW g f 4 0 0 0 [some (.ref p_PL), some (.ref p1), none, none] [] μ := by
  unfold F_X4_secure_e at h
  refine k_iconst (v := (0 : Int32)) cx dX4_secure_0 (by decide +kernel) ?_
  refine k_istore_n cx dX4_secure_1 rfl (by decide) ?_
  exact k_weak h (lsLe.keep (lsLe.keep (lsLe.keep (lsLe.keep lsLe.nil))))
theorem m_X4_secure {g : GE} {l : Launch} {μ : Mm} {q : Bool → Mm → Prop} {p1 : Nat} (h_p1 : isReq p1) (h : Wp_X4_secure p1  μ q) : MW g l yX4_secure cX4_secure 4 (some .boolean) 3 70 [.ref p_PL, .ref p1] μ (qZ q) := by
  refine met_of (by decide) (Nat.le_of_ble_eq_true rfl) (by intro v hv; simp only [List.mem_cons, List.not_mem_nil, or_false] at hv; rcases hv with rfl | rfl <;> rfl) ?_
  intro f hfl cx hr hl hQ
  exact b_X4_secure_e h_p1 cx hr hl hQ (h (KK_X4_secure_2 g f p1) (fun _ _ h => b_X4_secure_2 h_p1 cx hr hl hQ h))
theorem dX6_handOver_0 : decode cX6_handOver 0 = .ok (.iconst 0, 1) := by decide +kernel
theorem dX6_handOver_1 : decode cX6_handOver 1 = .ok (.istore_n 2, 1) := by decide +kernel
theorem dX6_handOver_2 : decode cX6_handOver 2 = .ok (.iload_n 2, 1) := by decide +kernel
theorem dX6_handOver_3 : decode cX6_handOver 3 = .ok (.aload_n 1, 1) := by decide +kernel
theorem dX6_handOver_4 : decode cX6_handOver 4 = .ok (.getfield 68, 3) := by decide +kernel
theorem dX6_handOver_7 : decode cX6_handOver 7 = .ok (.if_icmp .ge 21, 3) := by decide +kernel
theorem dX6_handOver_10 : decode cX6_handOver 10 = .ok (.aload_n 1, 1) := by decide +kernel
theorem dX6_handOver_11 : decode cX6_handOver 11 = .ok (.getfield 73, 3) := by decide +kernel
theorem dX6_handOver_14 : decode cX6_handOver 14 = .ok (.iload_n 2, 1) := by decide +kernel
theorem dX6_handOver_15 : decode cX6_handOver 15 = .ok (.aload_n 0, 1) := by decide +kernel
theorem dX6_handOver_16 : decode cX6_handOver 16 = .ok (.getfield 18, 3) := by decide +kernel
theorem dX6_handOver_19 : decode cX6_handOver 19 = .ok (.iload_n 2, 1) := by decide +kernel
theorem dX6_handOver_20 : decode cX6_handOver 20 = .ok (.iaload, 1) := by decide +kernel
theorem dX6_handOver_21 : decode cX6_handOver 21 = .ok (.iastore, 1) := by decide +kernel
theorem dX6_handOver_22 : decode cX6_handOver 22 = .ok (.iinc 2 1, 3) := by decide +kernel
theorem dX6_handOver_25 : decode cX6_handOver 25 = .ok (.goto (-23), 3) := by decide +kernel
theorem dX6_handOver_28 : decode cX6_handOver 28 = .ok (.iconst 0, 1) := by decide +kernel
theorem dX6_handOver_29 : decode cX6_handOver 29 = .ok (.istore_n 2, 1) := by decide +kernel
theorem dX6_handOver_30 : decode cX6_handOver 30 = .ok (.iload_n 2, 1) := by decide +kernel
theorem dX6_handOver_31 : decode cX6_handOver 31 = .ok (.aload_n 1, 1) := by decide +kernel
theorem dX6_handOver_32 : decode cX6_handOver 32 = .ok (.getfield 76, 3) := by decide +kernel
theorem dX6_handOver_35 : decode cX6_handOver 35 = .ok (.if_icmp .ge 20, 3) := by decide +kernel
theorem dX6_handOver_38 : decode cX6_handOver 38 = .ok (.aload_n 1, 1) := by decide +kernel
theorem dX6_handOver_39 : decode cX6_handOver 39 = .ok (.iload_n 2, 1) := by decide +kernel
theorem dX6_handOver_40 : decode cX6_handOver 40 = .ok (.aload_n 0, 1) := by decide +kernel
theorem dX6_handOver_41 : decode cX6_handOver 41 = .ok (.getfield 21, 3) := by decide +kernel
theorem dX6_handOver_44 : decode cX6_handOver 44 = .ok (.iload_n 2, 1) := by decide +kernel
theorem dX6_handOver_45 : decode cX6_handOver 45 = .ok (.iaload, 1) := by decide +kernel
theorem dX6_handOver_46 : decode cX6_handOver 46 = .ok (.invokevirtual 79, 3) := by decide +kernel
theorem dX6_handOver_49 : decode cX6_handOver 49 = .ok (.iinc 2 1, 3) := by decide +kernel
theorem dX6_handOver_52 : decode cX6_handOver 52 = .ok (.goto (-22), 3) := by decide +kernel
theorem dX6_handOver_55 : decode cX6_handOver 55 = .ok (.return_, 1) := by decide +kernel
def F_X6_handOver_2 (p1 : Nat) (K2 : Int32 → Mm → Prop) (K30 : Int32 → Mm → Prop) (q : Mm → Prop) (x2 : Int32) (μ : Mm) : Prop :=
  (((μ p1 10) ≤ x2 → K30 (0 : Int32) μ) ∧ (¬ ((μ p1 10) ≤ x2) → vp_in x2 3 ∧ vp_in x2 3 ∧ K2 (x2 + (1 : Int32)) (up2 μ (p1 + 3) (x2).toNatClampNeg (μ p_SE_leastPlaces (x2).toNatClampNeg))))
def F_X6_handOver_30 (p1 : Nat) (K2 : Int32 → Mm → Prop) (K30 : Int32 → Mm → Prop) (q : Mm → Prop) (x2 : Int32) (μ : Mm) : Prop :=
  (((μ p1 11) ≤ x2 → q μ) ∧ (¬ ((μ p1 11) ≤ x2) → vp_in x2 3 ∧ Wp_X5_setWay p1 x2 (μ p_SE_leastWays (x2).toNatClampNeg) μ (fun μ1 => K30 (x2 + (1 : Int32)) μ1)))
def F_X6_handOver_e (p1 : Nat) (K2 : Int32 → Mm → Prop) (K30 : Int32 → Mm → Prop) (q : Mm → Prop)  (μ : Mm) : Prop :=
  K2 (0 : Int32) μ
def Wp_X6_handOver (p1 : Nat)  (μ : Mm) (q : Mm → Prop) : Prop := ∀ (K2 : Int32 → Mm → Prop) (K30 : Int32 → Mm → Prop), (∀ (x2 : Int32) (μ : Mm), F_X6_handOver_2 p1 K2 K30 q x2 μ → K2 x2 μ) → (∀ (x2 : Int32) (μ : Mm), F_X6_handOver_30 p1 K2 K30 q x2 μ → K30 x2 μ) → F_X6_handOver_e p1 K2 K30 q  μ
abbrev KK_X6_handOver_2 (g : GE) (f : FE) (p1 : Nat) : Int32 → Mm → Prop := fun x2 μ => KW g f 3 0 0 2 [some (.ref p_SE), some (.ref p1), some (.int x2)] [] μ
abbrev KK_X6_handOver_30 (g : GE) (f : FE) (p1 : Nat) : Int32 → Mm → Prop := fun x2 μ => KW g f 3 0 0 30 [some (.ref p_SE), some (.ref p1), some (.int x2)] [] μ
set_option maxHeartbeats 2000000 in
theorem b_X6_handOver_2 {p1 : Nat} (h_p1 : isReq p1) {g : GE} {f : FE} {q : Mm → Prop} (cx : Cx g f cX6_handOver 3 RX6 1 22 0 0) (hr : (f_M f).sig.returnType = none) (hl : (f_M f).locks = false) (hQ : f_Q f = MQ (f_b f) (QW g (qV q)) (f_a f) (f_s f) 0 0 (fun q => g.2.2.2.1 ≤ q))  {x2 : Int32} {μ : Mm} (h : F_X6_handOver_2 p1 (KK_X6_handOver_2 g f p1) (KK_X6_handOver_30 g f p1) q x2 μ) : KK_X6_handOver_2 g f p1 x2 μ := by
  unfold F_X6_handOver_2 at h
  show KW g f 3 0 0 2 [some (.ref p_SE), some (.ref p1), some (.int x2)] [] μ
  refine k_iload_n cx dX6_handOver_2 rfl rfl ?_
  refine k_aload_n cx dX6_handOver_3 rfl rfl ?_
  refine k_get (o := none) (v := .int (μ p1 10)) cx fl_X6_68 (ob_RQ h_p1) rfl rfl dX6_handOver_4 ?_
  refine k_icmp_ge (tgt := 28) cx dX6_handOver_7 (by decide) (fun hc => ?_) (fun hc => ?_)
  · replace h := h.1 hc
    refine k_iconst (v := (0 : Int32)) cx dX6_handOver_28 (by decide +kernel) ?_
    refine k_istore_n cx dX6_handOver_29 rfl (by decide) ?_
    exact k_weak h (lsLe.keep (lsLe.keep (lsLe.keep lsLe.nil)))
  · replace h := h.2 hc
    refine k_aload_n cx dX6_handOver_10 rfl rfl ?_
    refine k_get (o := some (p1 + 3)) (v := .ref (p1 + 3)) cx fl_X6_73 (ob_RQ h_p1) rfl rfl dX6_handOver_11 ?_
    refine k_iload_n cx dX6_handOver_14 rfl rfl ?_
    refine k_aload_n cx dX6_handOver_15 rfl rfl ?_
    refine k_get (o := some p_SE_leastPlaces) (v := .ref p_SE_leastPlaces) cx fl_X6_18 ob_SE rfl rfl dX6_handOver_16 ?_
    refine k_iload_n cx dX6_handOver_19 rfl rfl ?_
    obtain ⟨hi, h⟩ := h
    refine k_iald cx ar_SE_leastPlaces hi dX6_handOver_20 ?_
    obtain ⟨hi, h⟩ := h
    refine k_iast cx (ar_RQ h_p1 3 (by decide) (by decide)) hi dX6_handOver_21 ?_
    refine k_iinc (v := (x2 + (1 : Int32))) cx dX6_handOver_22 rfl rfl (by decide) ?_
    refine k_goto (tgt := 2) cx dX6_handOver_25 (by decide) ?_
    exact k_weak h (lsLe.keep (lsLe.keep (lsLe.keep lsLe.nil)))
set_option maxHeartbeats 2000000 in
theorem b_X6_handOver_30 {p1 : Nat} (h_p1 : isReq p1) {g : GE} {f : FE} {q : Mm → Prop} (cx : Cx g f cX6_handOver 3 RX6 1 22 0 0) (hr : (f_M f).sig.returnType = none) (hl : (f_M f).locks = false) (hQ : f_Q f = MQ (f_b f) (QW g (qV q)) (f_a f) (f_s f) 0 0 (fun q => g.2.2.2.1 ≤ q))  {x2 : Int32} {μ : Mm} (h : F_X6_handOver_30 p1 (KK_X6_handOver_2 g f p1) (KK_X6_handOver_30 g f p1) q x2 μ) : KK_X6_handOver_30 g f p1 x2 μ := by
  unfold F_X6_handOver_30 at h
  show KW g f 3 0 0 30 [some (.ref p_SE), some (.ref p1), some (.int x2)] [] μ
  refine k_iload_n cx dX6_handOver_30 rfl rfl ?_
  refine k_aload_n cx dX6_handOver_31 rfl rfl ?_
  refine k_get (o := none) (v := .int (μ p1 11)) cx fl_X6_76 (ob_RQ h_p1) rfl rfl dX6_handOver_32 ?_
  refine k_icmp_ge (tgt := 55) cx dX6_handOver_35 (by decide) (fun hc => ?_) (fun hc => ?_)
  · replace h := h.1 hc
    exact k_ret_V cx hr hl hQ dX6_handOver_55 h
  · replace h := h.2 hc
    refine k_aload_n cx dX6_handOver_38 rfl rfl ?_
    refine k_iload_n cx dX6_handOver_39 rfl rfl ?_
    refine k_aload_n cx dX6_handOver_40 rfl rfl ?_
    refine k_get (o := some p_SE_leastWays) (v := .ref p_SE_leastWays) cx fl_X6_21 ob_SE rfl rfl dX6_handOver_41 ?_
    refine k_iload_n cx dX6_handOver_44 rfl rfl ?_
    obtain ⟨hi, h⟩ := h
    refine k_iald cx ar_SE_leastWays hi dX6_handOver_45 ?_
    refine k_callV (As := [.int x2, .int (μ p_SE_leastWays (x2).toNatClampNeg)]) (rest := []) cx (m_X5_setWay h_p1 h) cv_X6_79 (ob_RQ h_p1) rfl rfl rfl rfl (Nat.le_of_ble_eq_true rfl) ⟨Nat.le_of_ble_eq_true rfl, Nat.le_of_ble_eq_true rfl⟩ dX6_handOver_46 (fun v μ1 hq => ?_)
    obtain ⟨rfl, h⟩ := hq
    refine k_iinc (v := (x2 + (1 : Int32))) cx dX6_handOver_49 rfl rfl (by decide) ?_
    refine k_goto (tgt := 30) cx dX6_handOver_52 (by decide) ?_
    exact k_weak h (lsLe.keep (lsLe.keep (lsLe.keep lsLe.nil)))
set_option maxHeartbeats 2000000 in
theorem b_X6_handOver_e {p1 : Nat} (h_p1 : isReq p1) {g : GE} {f : FE} {q : Mm → Prop} (cx : Cx g f cX6_handOver 3 RX6 1 22 0 0) (hr : (f_M f).sig.returnType = none) (hl : (f_M f).locks = false) (hQ : f_Q f = MQ (f_b f) (QW g (qV q)) (f_a f) (f_s f) 0 0 (fun q => g.2.2.2.1 ≤ q))   {μ : Mm} (h : F_X6_handOver_e p1 (KK_X6_handOver_2 g f p1) (KK_X6_handOver_30 g f p1) q  μ) : KW g f 3 0 0 0 [some (.ref p_SE), some (.ref p1), none] [] μ := by
  unfold F_X6_handOver_e at h
  refine k_iconst (v := (0 : Int32)) cx dX6_handOver_0 (by decide +kernel) ?_
  refine k_istore_n cx dX6_handOver_1 rfl (by decide) ?_
  exact k_weak h (lsLe.keep (lsLe.keep (lsLe.keep lsLe.nil)))
theorem m_X6_handOver {g : GE} {l : Launch} {μ : Mm} {q : Mm → Prop} {p1 : Nat} (h_p1 : isReq p1) (h : Wp_X6_handOver p1  μ q) : MW g l yX6_handOver cX6_handOver 3 none 1 22 [.ref p_SE, .ref p1] μ (qV q) := by
  refine met_of (by decide) (Nat.le_of_ble_eq_true rfl) (by intro v hv; simp only [List.mem_cons, List.not_mem_nil, or_false] at hv; rcases hv with rfl | rfl <;> rfl) ?_
  intro f hfl cx hr hl hQ
  exact b_X6_handOver_e h_p1 cx hr hl hQ (h (KK_X6_handOver_2 g f p1) (KK_X6_handOver_30 g f p1) (fun _ _ h => b_X6_handOver_2 h_p1 cx hr hl hQ h) (fun _ _ h => b_X6_handOver_30 h_p1 cx hr hl hQ h))
theorem dX6_isCut_0 : decode cX6_isCut 0 = .ok (.aload_n 0, 1) := by decide +kernel
theorem dX6_isCut_1 : decode cX6_isCut 1 = .ok (.getfield 41, 3) := by decide +kernel
theorem dX6_isCut_4 : decode cX6_isCut 4 = .ok (.iconst 1, 1) := by decide +kernel
theorem dX6_isCut_5 : decode cX6_isCut 5 = .ok (.if_icmp .eq 18, 3) := by decide +kernel
theorem dX6_isCut_8 : decode cX6_isCut 8 = .ok (.aload_n 0, 1) := by decide +kernel
theorem dX6_isCut_9 : decode cX6_isCut 9 = .ok (.getfield 41, 3) := by decide +kernel
theorem dX6_isCut_12 : decode cX6_isCut 12 = .ok (.ifCond .ne 15, 3) := by decide +kernel
theorem dX6_isCut_15 : decode cX6_isCut 15 = .ok (.iload_n 1, 1) := by decide +kernel
theorem dX6_isCut_16 : decode cX6_isCut 16 = .ok (.aload_n 0, 1) := by decide +kernel
theorem dX6_isCut_17 : decode cX6_isCut 17 = .ok (.getfield 45, 3) := by decide +kernel
theorem dX6_isCut_20 : decode cX6_isCut 20 = .ok (.if_icmp .ge 7, 3) := by decide +kernel
theorem dX6_isCut_23 : decode cX6_isCut 23 = .ok (.iconst 1, 1) := by decide +kernel
theorem dX6_isCut_24 : decode cX6_isCut 24 = .ok (.goto 4, 3) := by decide +kernel
theorem dX6_isCut_27 : decode cX6_isCut 27 = .ok (.iconst 0, 1) := by decide +kernel
theorem dX6_isCut_28 : decode cX6_isCut 28 = .ok (.istore_n 2, 1) := by decide +kernel
theorem dX6_isCut_29 : decode cX6_isCut 29 = .ok (.aload_n 0, 1) := by decide +kernel
theorem dX6_isCut_30 : decode cX6_isCut 30 = .ok (.getfield 45, 3) := by decide +kernel
theorem dX6_isCut_33 : decode cX6_isCut 33 = .ok (.iconst (-1), 1) := by decide +kernel
theorem dX6_isCut_34 : decode cX6_isCut 34 = .ok (.if_icmp .eq 11, 3) := by decide +kernel
theorem dX6_isCut_37 : decode cX6_isCut 37 = .ok (.iload_n 2, 1) := by decide +kernel
theorem dX6_isCut_38 : decode cX6_isCut 38 = .ok (.ifCond .ne 7, 3) := by decide +kernel
theorem dX6_isCut_41 : decode cX6_isCut 41 = .ok (.iconst 1, 1) := by decide +kernel
theorem dX6_isCut_42 : decode cX6_isCut 42 = .ok (.goto 4, 3) := by decide +kernel
theorem dX6_isCut_45 : decode cX6_isCut 45 = .ok (.iconst 0, 1) := by decide +kernel
theorem dX6_isCut_46 : decode cX6_isCut 46 = .ok (.ireturn, 1) := by decide +kernel
def F_X6_isCut_28  (K28 : Int32 → Mm → Prop) (q : Bool → Mm → Prop) (y0 : Int32) (μ : Mm) : Prop :=
  (((μ p_SE 8) = (-1 : Int32) → q false μ) ∧ (¬ ((μ p_SE 8) = (-1 : Int32)) → ((¬ (y0 = 0) → q false μ) ∧ (y0 = 0 → q true μ))))
def F_X6_isCut_e  (K28 : Int32 → Mm → Prop) (q : Bool → Mm → Prop) (x1 : Int32) (μ : Mm) : Prop :=
  (((μ p_SE 7) = (1 : Int32) → K28 (1 : Int32) μ) ∧ (¬ ((μ p_SE 7) = (1 : Int32)) → ((¬ ((μ p_SE 7) = 0) → K28 (0 : Int32) μ) ∧ ((μ p_SE 7) = 0 → (((μ p_SE 8) ≤ x1 → K28 (0 : Int32) μ) ∧ (¬ ((μ p_SE 8) ≤ x1) → K28 (1 : Int32) μ))))))
def Wp_X6_isCut  (x1 : Int32) (μ : Mm) (q : Bool → Mm → Prop) : Prop := ∀ (K28 : Int32 → Mm → Prop), (∀ (y0 : Int32) (μ : Mm), F_X6_isCut_28  K28 q y0 μ → K28 y0 μ) → F_X6_isCut_e  K28 q x1 μ
abbrev KK_X6_isCut_28 (g : GE) (f : FE)  : Int32 → Mm → Prop := fun y0 μ => KW g f 3 0 0 28 [some (.ref p_SE), none, none] [.int y0] μ
set_option maxHeartbeats 2000000 in
theorem b_X6_isCut_28  {g : GE} {f : FE} {q : Bool → Mm → Prop} (cx : Cx g f cX6_isCut 3 RX6 0 0 0 0) (hr : (f_M f).sig.returnType = (some .boolean)) (hl : (f_M f).locks = false) (hQ : f_Q f = MQ (f_b f) (QW g (qZ q)) (f_a f) (f_s f) 0 0 (fun q => g.2.2.2.1 ≤ q))  {y0 : Int32} {μ : Mm} (h : F_X6_isCut_28  (KK_X6_isCut_28 g f ) q y0 μ) : KK_X6_isCut_28 g f  y0 μ := by
  unfold F_X6_isCut_28 at h
  show KW g f 3 0 0 28 [some (.ref p_SE), none, none] [.int y0] μ
  refine k_istore_n cx dX6_isCut_28 rfl (by decide) ?_
  refine k_aload_n cx dX6_isCut_29 rfl rfl ?_
  refine k_get (o := none) (v := .int (μ p_SE 8)) cx fl_X6_45 ob_SE rfl rfl dX6_isCut_30 ?_
  refine k_iconst (v := (-1 : Int32)) cx dX6_isCut_33 (by decide +kernel) ?_
  refine k_icmp_eq (tgt := 45) cx dX6_isCut_34 (by decide) (fun hc => ?_) (fun hc => ?_)
  · replace h := h.1 hc
    refine k_iconst (v := (0 : Int32)) cx dX6_isCut_45 (by decide +kernel) ?_
    exact k_ret_Z (b := false) cx hr hl hQ dX6_isCut_46 rfl h
  · replace h := h.2 hc
    refine k_iload_n cx dX6_isCut_37 rfl rfl ?_
    refine k_if_ne (tgt := 45) cx dX6_isCut_38 (by decide) (fun hc => ?_) (fun hc => ?_)
    · replace h := h.1 hc
      refine k_iconst (v := (0 : Int32)) cx dX6_isCut_45 (by decide +kernel) ?_
      exact k_ret_Z (b := false) cx hr hl hQ dX6_isCut_46 rfl h
    · replace h := h.2 hc
      refine k_iconst (v := (1 : Int32)) cx dX6_isCut_41 (by decide +kernel) ?_
      refine k_goto (tgt := 46) cx dX6_isCut_42 (by decide) ?_
      exact k_ret_Z (b := true) cx hr hl hQ dX6_isCut_46 rfl h
set_option maxHeartbeats 2000000 in
theorem b_X6_isCut_e  {g : GE} {f : FE} {q : Bool → Mm → Prop} (cx : Cx g f cX6_isCut 3 RX6 0 0 0 0) (hr : (f_M f).sig.returnType = (some .boolean)) (hl : (f_M f).locks = false) (hQ : f_Q f = MQ (f_b f) (QW g (qZ q)) (f_a f) (f_s f) 0 0 (fun q => g.2.2.2.1 ≤ q))  {x1 : Int32} {μ : Mm} (h : F_X6_isCut_e  (KK_X6_isCut_28 g f ) q x1 μ) : KW g f 3 0 0 0 [some (.ref p_SE), some (.int x1), none] [] μ := by
  unfold F_X6_isCut_e at h
  refine k_aload_n cx dX6_isCut_0 rfl rfl ?_
  refine k_get (o := none) (v := .int (μ p_SE 7)) cx fl_X6_41 ob_SE rfl rfl dX6_isCut_1 ?_
  refine k_iconst (v := (1 : Int32)) cx dX6_isCut_4 (by decide +kernel) ?_
  refine k_icmp_eq (tgt := 23) cx dX6_isCut_5 (by decide) (fun hc => ?_) (fun hc => ?_)
  · replace h := h.1 hc
    refine k_iconst (v := (1 : Int32)) cx dX6_isCut_23 (by decide +kernel) ?_
    refine k_goto (tgt := 28) cx dX6_isCut_24 (by decide) ?_
    exact k_weak h (lsLe.keep (lsLe.drop (lsLe.keep lsLe.nil)))
  · replace h := h.2 hc
    refine k_aload_n cx dX6_isCut_8 rfl rfl ?_
    refine k_get (o := none) (v := .int (μ p_SE 7)) cx fl_X6_41 ob_SE rfl rfl dX6_isCut_9 ?_
    refine k_if_ne (tgt := 27) cx dX6_isCut_12 (by decide) (fun hc => ?_) (fun hc => ?_)
    · replace h := h.1 hc
      refine k_iconst (v := (0 : Int32)) cx dX6_isCut_27 (by decide +kernel) ?_
      exact k_weak h (lsLe.keep (lsLe.drop (lsLe.keep lsLe.nil)))
    · replace h := h.2 hc
      refine k_iload_n cx dX6_isCut_15 rfl rfl ?_
      refine k_aload_n cx dX6_isCut_16 rfl rfl ?_
      refine k_get (o := none) (v := .int (μ p_SE 8)) cx fl_X6_45 ob_SE rfl rfl dX6_isCut_17 ?_
      refine k_icmp_ge (tgt := 27) cx dX6_isCut_20 (by decide) (fun hc => ?_) (fun hc => ?_)
      · replace h := h.1 hc
        refine k_iconst (v := (0 : Int32)) cx dX6_isCut_27 (by decide +kernel) ?_
        exact k_weak h (lsLe.keep (lsLe.drop (lsLe.keep lsLe.nil)))
      · replace h := h.2 hc
        refine k_iconst (v := (1 : Int32)) cx dX6_isCut_23 (by decide +kernel) ?_
        refine k_goto (tgt := 28) cx dX6_isCut_24 (by decide) ?_
        exact k_weak h (lsLe.keep (lsLe.drop (lsLe.keep lsLe.nil)))
theorem m_X6_isCut {g : GE} {l : Launch} {μ : Mm} {q : Bool → Mm → Prop} {x1 : Int32}  (h : Wp_X6_isCut  x1 μ q) : MW g l yX6_isCut cX6_isCut 3 (some .boolean) 0 0 [.ref p_SE, .int x1] μ (qZ q) := by
  refine met_of (by decide) (Nat.le_of_ble_eq_true rfl) (by intro v hv; simp only [List.mem_cons, List.not_mem_nil, or_false] at hv; rcases hv with rfl | rfl <;> rfl) ?_
  intro f hfl cx hr hl hQ
  exact b_X6_isCut_e  cx hr hl hQ (h (KK_X6_isCut_28 g f ) (fun _ _ h => b_X6_isCut_28  cx hr hl hQ h))
theorem dX6_keepLeast_0 : decode cX6_keepLeast 0 = .ok (.aload_n 0, 1) := by decide +kernel
theorem dX6_keepLeast_1 : decode cX6_keepLeast 1 = .ok (.getfield 45, 3) := by decide +kernel
theorem dX6_keepLeast_4 : decode cX6_keepLeast 4 = .ok (.iconst (-1), 1) := by decide +kernel
theorem dX6_keepLeast_5 : decode cX6_keepLeast 5 = .ok (.if_icmp .eq 12, 3) := by decide +kernel
theorem dX6_keepLeast_8 : decode cX6_keepLeast 8 = .ok (.iload_n 2, 1) := by decide +kernel
theorem dX6_keepLeast_9 : decode cX6_keepLeast 9 = .ok (.aload_n 0, 1) := by decide +kernel
theorem dX6_keepLeast_10 : decode cX6_keepLeast 10 = .ok (.getfield 45, 3) := by decide +kernel
theorem dX6_keepLeast_13 : decode cX6_keepLeast 13 = .ok (.if_icmp .lt 4, 3) := by decide +kernel
theorem dX6_keepLeast_16 : decode cX6_keepLeast 16 = .ok (.return_, 1) := by decide +kernel
theorem dX6_keepLeast_17 : decode cX6_keepLeast 17 = .ok (.aload_n 0, 1) := by decide +kernel
theorem dX6_keepLeast_18 : decode cX6_keepLeast 18 = .ok (.iload_n 2, 1) := by decide +kernel
theorem dX6_keepLeast_19 : decode cX6_keepLeast 19 = .ok (.putfield 45, 3) := by decide +kernel
theorem dX6_keepLeast_22 : decode cX6_keepLeast 22 = .ok (.iconst 0, 1) := by decide +kernel
theorem dX6_keepLeast_23 : decode cX6_keepLeast 23 = .ok (.istore_n 3, 1) := by decide +kernel
theorem dX6_keepLeast_24 : decode cX6_keepLeast 24 = .ok (.iload_n 3, 1) := by decide +kernel
theorem dX6_keepLeast_25 : decode cX6_keepLeast 25 = .ok (.aload_n 1, 1) := by decide +kernel
theorem dX6_keepLeast_26 : decode cX6_keepLeast 26 = .ok (.getfield 68, 3) := by decide +kernel
theorem dX6_keepLeast_29 : decode cX6_keepLeast 29 = .ok (.if_icmp .ge 21, 3) := by decide +kernel
theorem dX6_keepLeast_32 : decode cX6_keepLeast 32 = .ok (.aload_n 0, 1) := by decide +kernel
theorem dX6_keepLeast_33 : decode cX6_keepLeast 33 = .ok (.getfield 18, 3) := by decide +kernel
theorem dX6_keepLeast_36 : decode cX6_keepLeast 36 = .ok (.iload_n 3, 1) := by decide +kernel
theorem dX6_keepLeast_37 : decode cX6_keepLeast 37 = .ok (.aload_n 1, 1) := by decide +kernel
theorem dX6_keepLeast_38 : decode cX6_keepLeast 38 = .ok (.getfield 73, 3) := by decide +kernel
theorem dX6_keepLeast_41 : decode cX6_keepLeast 41 = .ok (.iload_n 3, 1) := by decide +kernel
theorem dX6_keepLeast_42 : decode cX6_keepLeast 42 = .ok (.iaload, 1) := by decide +kernel
theorem dX6_keepLeast_43 : decode cX6_keepLeast 43 = .ok (.iastore, 1) := by decide +kernel
theorem dX6_keepLeast_44 : decode cX6_keepLeast 44 = .ok (.iinc 3 1, 3) := by decide +kernel
theorem dX6_keepLeast_47 : decode cX6_keepLeast 47 = .ok (.goto (-23), 3) := by decide +kernel
theorem dX6_keepLeast_50 : decode cX6_keepLeast 50 = .ok (.iconst 0, 1) := by decide +kernel
theorem dX6_keepLeast_51 : decode cX6_keepLeast 51 = .ok (.istore_n 3, 1) := by decide +kernel
theorem dX6_keepLeast_52 : decode cX6_keepLeast 52 = .ok (.iload_n 3, 1) := by decide +kernel
theorem dX6_keepLeast_53 : decode cX6_keepLeast 53 = .ok (.aload_n 1, 1) := by decide +kernel
theorem dX6_keepLeast_54 : decode cX6_keepLeast 54 = .ok (.getfield 76, 3) := by decide +kernel
theorem dX6_keepLeast_57 : decode cX6_keepLeast 57 = .ok (.if_icmp .ge 21, 3) := by decide +kernel
theorem dX6_keepLeast_60 : decode cX6_keepLeast 60 = .ok (.aload_n 0, 1) := by decide +kernel
theorem dX6_keepLeast_61 : decode cX6_keepLeast 61 = .ok (.getfield 21, 3) := by decide +kernel
theorem dX6_keepLeast_64 : decode cX6_keepLeast 64 = .ok (.iload_n 3, 1) := by decide +kernel
theorem dX6_keepLeast_65 : decode cX6_keepLeast 65 = .ok (.aload_n 0, 1) := by decide +kernel
theorem dX6_keepLeast_66 : decode cX6_keepLeast 66 = .ok (.getfield 9, 3) := by decide +kernel
theorem dX6_keepLeast_69 : decode cX6_keepLeast 69 = .ok (.iload_n 3, 1) := by decide +kernel
theorem dX6_keepLeast_70 : decode cX6_keepLeast 70 = .ok (.iaload, 1) := by decide +kernel
theorem dX6_keepLeast_71 : decode cX6_keepLeast 71 = .ok (.iastore, 1) := by decide +kernel
theorem dX6_keepLeast_72 : decode cX6_keepLeast 72 = .ok (.iinc 3 1, 3) := by decide +kernel
theorem dX6_keepLeast_75 : decode cX6_keepLeast 75 = .ok (.goto (-23), 3) := by decide +kernel
theorem dX6_keepLeast_78 : decode cX6_keepLeast 78 = .ok (.return_, 1) := by decide +kernel
def F_X6_keepLeast_24 (p1 : Nat) (K24 : Int32 → Mm → Prop) (K52 : Int32 → Mm → Prop) (q : Mm → Prop) (x3 : Int32) (μ : Mm) : Prop :=
  (((μ p1 10) ≤ x3 → K52 (0 : Int32) μ) ∧ (¬ ((μ p1 10) ≤ x3) → vp_in x3 3 ∧ vp_in x3 3 ∧ K24 (x3 + (1 : Int32)) (up2 μ p_SE_leastPlaces (x3).toNatClampNeg (μ (p1 + 3) (x3).toNatClampNeg))))
def F_X6_keepLeast_52 (p1 : Nat) (K24 : Int32 → Mm → Prop) (K52 : Int32 → Mm → Prop) (q : Mm → Prop) (x3 : Int32) (μ : Mm) : Prop :=
  (((μ p1 11) ≤ x3 → q μ) ∧ (¬ ((μ p1 11) ≤ x3) → vp_in x3 3 ∧ vp_in x3 3 ∧ K52 (x3 + (1 : Int32)) (up2 μ p_SE_leastWays (x3).toNatClampNeg (μ p_SE_tried (x3).toNatClampNeg))))
def F_X6_keepLeast_e (p1 : Nat) (K24 : Int32 → Mm → Prop) (K52 : Int32 → Mm → Prop) (q : Mm → Prop) (x2 : Int32) (μ : Mm) : Prop :=
  (((μ p_SE 8) = (-1 : Int32) → K24 (0 : Int32) (up2 μ p_SE 8 x2)) ∧ (¬ ((μ p_SE 8) = (-1 : Int32)) → ((x2 < (μ p_SE 8) → K24 (0 : Int32) (up2 μ p_SE 8 x2)) ∧ (¬ (x2 < (μ p_SE 8)) → q μ))))
def Wp_X6_keepLeast (p1 : Nat) (x2 : Int32) (μ : Mm) (q : Mm → Prop) : Prop := ∀ (K24 : Int32 → Mm → Prop) (K52 : Int32 → Mm → Prop), (∀ (x3 : Int32) (μ : Mm), F_X6_keepLeast_24 p1 K24 K52 q x3 μ → K24 x3 μ) → (∀ (x3 : Int32) (μ : Mm), F_X6_keepLeast_52 p1 K24 K52 q x3 μ → K52 x3 μ) → F_X6_keepLeast_e p1 K24 K52 q x2 μ
abbrev KK_X6_keepLeast_24 (g : GE) (f : FE) (p1 : Nat) : Int32 → Mm → Prop := fun x3 μ => KW g f 4 0 0 24 [some (.ref p_SE), some (.ref p1), none, some (.int x3)] [] μ
abbrev KK_X6_keepLeast_52 (g : GE) (f : FE) (p1 : Nat) : Int32 → Mm → Prop := fun x3 μ => KW g f 4 0 0 52 [some (.ref p_SE), some (.ref p1), none, some (.int x3)] [] μ
set_option maxHeartbeats 2000000 in
theorem b_X6_keepLeast_24 {p1 : Nat} (h_p1 : isReq p1) {g : GE} {f : FE} {q : Mm → Prop} (cx : Cx g f cX6_keepLeast 4 RX6 0 0 0 0) (hr : (f_M f).sig.returnType = none) (hl : (f_M f).locks = false) (hQ : f_Q f = MQ (f_b f) (QW g (qV q)) (f_a f) (f_s f) 0 0 (fun q => g.2.2.2.1 ≤ q))  {x3 : Int32} {μ : Mm} (h : F_X6_keepLeast_24 p1 (KK_X6_keepLeast_24 g f p1) (KK_X6_keepLeast_52 g f p1) q x3 μ) : KK_X6_keepLeast_24 g f p1 x3 μ := by
  unfold F_X6_keepLeast_24 at h
  show KW g f 4 0 0 24 [some (.ref p_SE), some (.ref p1), none, some (.int x3)] [] μ
  refine k_iload_n cx dX6_keepLeast_24 rfl rfl ?_
  refine k_aload_n cx dX6_keepLeast_25 rfl rfl ?_
  refine k_get (o := none) (v := .int (μ p1 10)) cx fl_X6_68 (ob_RQ h_p1) rfl rfl dX6_keepLeast_26 ?_
  refine k_icmp_ge (tgt := 50) cx dX6_keepLeast_29 (by decide) (fun hc => ?_) (fun hc => ?_)
  · replace h := h.1 hc
    refine k_iconst (v := (0 : Int32)) cx dX6_keepLeast_50 (by decide +kernel) ?_
    refine k_istore_n cx dX6_keepLeast_51 rfl (by decide) ?_
    exact k_weak h (lsLe.keep (lsLe.keep (lsLe.keep (lsLe.keep lsLe.nil))))
  · replace h := h.2 hc
    refine k_aload_n cx dX6_keepLeast_32 rfl rfl ?_
    refine k_get (o := some p_SE_leastPlaces) (v := .ref p_SE_leastPlaces) cx fl_X6_18 ob_SE rfl rfl dX6_keepLeast_33 ?_
    refine k_iload_n cx dX6_keepLeast_36 rfl rfl ?_
    refine k_aload_n cx dX6_keepLeast_37 rfl rfl ?_
    refine k_get (o := some (p1 + 3)) (v := .ref (p1 + 3)) cx fl_X6_73 (ob_RQ h_p1) rfl rfl dX6_keepLeast_38 ?_
    refine k_iload_n cx dX6_keepLeast_41 rfl rfl ?_
    obtain ⟨hi, h⟩ := h
    refine k_iald cx (ar_RQ h_p1 3 (by decide) (by decide)) hi dX6_keepLeast_42 ?_
    obtain ⟨hi, h⟩ := h
    refine k_iast cx ar_SE_leastPlaces hi dX6_keepLeast_43 ?_
    refine k_iinc (v := (x3 + (1 : Int32))) cx dX6_keepLeast_44 rfl rfl (by decide) ?_
    refine k_goto (tgt := 24) cx dX6_keepLeast_47 (by decide) ?_
    exact k_weak h (lsLe.keep (lsLe.keep (lsLe.keep (lsLe.keep lsLe.nil))))
set_option maxHeartbeats 2000000 in
theorem b_X6_keepLeast_52 {p1 : Nat} (h_p1 : isReq p1) {g : GE} {f : FE} {q : Mm → Prop} (cx : Cx g f cX6_keepLeast 4 RX6 0 0 0 0) (hr : (f_M f).sig.returnType = none) (hl : (f_M f).locks = false) (hQ : f_Q f = MQ (f_b f) (QW g (qV q)) (f_a f) (f_s f) 0 0 (fun q => g.2.2.2.1 ≤ q))  {x3 : Int32} {μ : Mm} (h : F_X6_keepLeast_52 p1 (KK_X6_keepLeast_24 g f p1) (KK_X6_keepLeast_52 g f p1) q x3 μ) : KK_X6_keepLeast_52 g f p1 x3 μ := by
  unfold F_X6_keepLeast_52 at h
  show KW g f 4 0 0 52 [some (.ref p_SE), some (.ref p1), none, some (.int x3)] [] μ
  refine k_iload_n cx dX6_keepLeast_52 rfl rfl ?_
  refine k_aload_n cx dX6_keepLeast_53 rfl rfl ?_
  refine k_get (o := none) (v := .int (μ p1 11)) cx fl_X6_76 (ob_RQ h_p1) rfl rfl dX6_keepLeast_54 ?_
  refine k_icmp_ge (tgt := 78) cx dX6_keepLeast_57 (by decide) (fun hc => ?_) (fun hc => ?_)
  · replace h := h.1 hc
    exact k_ret_V cx hr hl hQ dX6_keepLeast_78 h
  · replace h := h.2 hc
    refine k_aload_n cx dX6_keepLeast_60 rfl rfl ?_
    refine k_get (o := some p_SE_leastWays) (v := .ref p_SE_leastWays) cx fl_X6_21 ob_SE rfl rfl dX6_keepLeast_61 ?_
    refine k_iload_n cx dX6_keepLeast_64 rfl rfl ?_
    refine k_aload_n cx dX6_keepLeast_65 rfl rfl ?_
    refine k_get (o := some p_SE_tried) (v := .ref p_SE_tried) cx fl_X6_9 ob_SE rfl rfl dX6_keepLeast_66 ?_
    refine k_iload_n cx dX6_keepLeast_69 rfl rfl ?_
    obtain ⟨hi, h⟩ := h
    refine k_iald cx ar_SE_tried hi dX6_keepLeast_70 ?_
    obtain ⟨hi, h⟩ := h
    refine k_iast cx ar_SE_leastWays hi dX6_keepLeast_71 ?_
    refine k_iinc (v := (x3 + (1 : Int32))) cx dX6_keepLeast_72 rfl rfl (by decide) ?_
    refine k_goto (tgt := 52) cx dX6_keepLeast_75 (by decide) ?_
    exact k_weak h (lsLe.keep (lsLe.keep (lsLe.keep (lsLe.keep lsLe.nil))))
set_option maxHeartbeats 2000000 in
theorem b_X6_keepLeast_e {p1 : Nat} (h_p1 : isReq p1) {g : GE} {f : FE} {q : Mm → Prop} (cx : Cx g f cX6_keepLeast 4 RX6 0 0 0 0) (hr : (f_M f).sig.returnType = none) (hl : (f_M f).locks = false) (hQ : f_Q f = MQ (f_b f) (QW g (qV q)) (f_a f) (f_s f) 0 0 (fun q => g.2.2.2.1 ≤ q))  {x2 : Int32} {μ : Mm} (h : F_X6_keepLeast_e p1 (KK_X6_keepLeast_24 g f p1) (KK_X6_keepLeast_52 g f p1) q x2 μ) : KW g f 4 0 0 0 [some (.ref p_SE), some (.ref p1), some (.int x2), none] [] μ := by
  unfold F_X6_keepLeast_e at h
  refine k_aload_n cx dX6_keepLeast_0 rfl rfl ?_
  refine k_get (o := none) (v := .int (μ p_SE 8)) cx fl_X6_45 ob_SE rfl rfl dX6_keepLeast_1 ?_
  refine k_iconst (v := (-1 : Int32)) cx dX6_keepLeast_4 (by decide +kernel) ?_
  refine k_icmp_eq (tgt := 17) cx dX6_keepLeast_5 (by decide) (fun hc => ?_) (fun hc => ?_)
  · replace h := h.1 hc
    refine k_aload_n cx dX6_keepLeast_17 rfl rfl ?_
    refine k_iload_n cx dX6_keepLeast_18 rfl rfl ?_
    refine k_put cx fp_X6_45 ob_SE rfl rfl rfl dX6_keepLeast_19 ?_
    refine k_iconst (v := (0 : Int32)) cx dX6_keepLeast_22 (by decide +kernel) ?_
    refine k_istore_n cx dX6_keepLeast_23 rfl (by decide) ?_
    exact k_weak h (lsLe.keep (lsLe.keep (lsLe.drop (lsLe.keep lsLe.nil))))
  · replace h := h.2 hc
    refine k_iload_n cx dX6_keepLeast_8 rfl rfl ?_
    refine k_aload_n cx dX6_keepLeast_9 rfl rfl ?_
    refine k_get (o := none) (v := .int (μ p_SE 8)) cx fl_X6_45 ob_SE rfl rfl dX6_keepLeast_10 ?_
    refine k_icmp_lt (tgt := 17) cx dX6_keepLeast_13 (by decide) (fun hc => ?_) (fun hc => ?_)
    · replace h := h.1 hc
      refine k_aload_n cx dX6_keepLeast_17 rfl rfl ?_
      refine k_iload_n cx dX6_keepLeast_18 rfl rfl ?_
      refine k_put cx fp_X6_45 ob_SE rfl rfl rfl dX6_keepLeast_19 ?_
      refine k_iconst (v := (0 : Int32)) cx dX6_keepLeast_22 (by decide +kernel) ?_
      refine k_istore_n cx dX6_keepLeast_23 rfl (by decide) ?_
      exact k_weak h (lsLe.keep (lsLe.keep (lsLe.drop (lsLe.keep lsLe.nil))))
    · replace h := h.2 hc
      exact k_ret_V cx hr hl hQ dX6_keepLeast_16 h
theorem m_X6_keepLeast {g : GE} {l : Launch} {μ : Mm} {q : Mm → Prop} {p1 : Nat} {x2 : Int32} (h_p1 : isReq p1) (h : Wp_X6_keepLeast p1 x2 μ q) : MW g l yX6_keepLeast cX6_keepLeast 4 none 0 0 [.ref p_SE, .ref p1, .int x2] μ (qV q) := by
  refine met_of (by decide) (Nat.le_of_ble_eq_true rfl) (by intro v hv; simp only [List.mem_cons, List.not_mem_nil, or_false] at hv; rcases hv with rfl | rfl | rfl <;> rfl) ?_
  intro f hfl cx hr hl hQ
  exact b_X6_keepLeast_e h_p1 cx hr hl hQ (h (KK_X6_keepLeast_24 g f p1) (KK_X6_keepLeast_52 g f p1) (fun _ _ h => b_X6_keepLeast_24 h_p1 cx hr hl hQ h) (fun _ _ h => b_X6_keepLeast_52 h_p1 cx hr hl hQ h))
theorem dX6_chooseWays_0 : decode cX6_chooseWays 0 = .ok (.iload_n 2, 1) := by decide +kernel
theorem dX6_chooseWays_1 : decode cX6_chooseWays 1 = .ok (.aload_n 1, 1) := by decide +kernel
theorem dX6_chooseWays_2 : decode cX6_chooseWays 2 = .ok (.getfield 76, 3) := by decide +kernel
theorem dX6_chooseWays_5 : decode cX6_chooseWays 5 = .ok (.if_icmp .lt 10, 3) := by decide +kernel
theorem dX6_chooseWays_8 : decode cX6_chooseWays 8 = .ok (.aload_n 0, 1) := by decide +kernel
theorem dX6_chooseWays_9 : decode cX6_chooseWays 9 = .ok (.aload_n 1, 1) := by decide +kernel
theorem dX6_chooseWays_10 : decode cX6_chooseWays 10 = .ok (.iload_n 3, 1) := by decide +kernel
theorem dX6_chooseWays_11 : decode cX6_chooseWays 11 = .ok (.invokevirtual 106, 3) := by decide +kernel
theorem dX6_chooseWays_14 : decode cX6_chooseWays 14 = .ok (.return_, 1) := by decide +kernel
theorem dX6_chooseWays_15 : decode cX6_chooseWays 15 = .ok (.aload_n 1, 1) := by decide +kernel
theorem dX6_chooseWays_16 : decode cX6_chooseWays 16 = .ok (.getfield 83, 3) := by decide +kernel
theorem dX6_chooseWays_19 : decode cX6_chooseWays 19 = .ok (.iload_n 2, 1) := by decide +kernel
theorem dX6_chooseWays_20 : decode cX6_chooseWays 20 = .ok (.iaload, 1) := by decide +kernel
theorem dX6_chooseWays_21 : decode cX6_chooseWays 21 = .ok (.istore 4, 2) := by decide +kernel
theorem dX6_chooseWays_23 : decode cX6_chooseWays 23 = .ok (.aload_n 0, 1) := by decide +kernel
theorem dX6_chooseWays_24 : decode cX6_chooseWays 24 = .ok (.getfield 28, 3) := by decide +kernel
theorem dX6_chooseWays_27 : decode cX6_chooseWays 27 = .ok (.iload 4, 2) := by decide +kernel
theorem dX6_chooseWays_29 : decode cX6_chooseWays 29 = .ok (.invokevirtual 90, 3) := by decide +kernel
theorem dX6_chooseWays_32 : decode cX6_chooseWays 32 = .ok (.istore 5, 2) := by decide +kernel
theorem dX6_chooseWays_34 : decode cX6_chooseWays 34 = .ok (.aload_n 1, 1) := by decide +kernel
theorem dX6_chooseWays_35 : decode cX6_chooseWays 35 = .ok (.iload_n 2, 1) := by decide +kernel
theorem dX6_chooseWays_36 : decode cX6_chooseWays 36 = .ok (.invokevirtual 86, 3) := by decide +kernel
theorem dX6_chooseWays_39 : decode cX6_chooseWays 39 = .ok (.istore 6, 2) := by decide +kernel
theorem dX6_chooseWays_41 : decode cX6_chooseWays 41 = .ok (.aload_n 0, 1) := by decide +kernel
theorem dX6_chooseWays_42 : decode cX6_chooseWays 42 = .ok (.getfield 24, 3) := by decide +kernel
theorem dX6_chooseWays_45 : decode cX6_chooseWays 45 = .ok (.iload 6, 2) := by decide +kernel
theorem dX6_chooseWays_47 : decode cX6_chooseWays 47 = .ok (.invokevirtual 110, 3) := by decide +kernel
theorem dX6_chooseWays_50 : decode cX6_chooseWays 50 = .ok (.istore 7, 2) := by decide +kernel
theorem dX6_chooseWays_52 : decode cX6_chooseWays 52 = .ok (.iconst 0, 1) := by decide +kernel
theorem dX6_chooseWays_53 : decode cX6_chooseWays 53 = .ok (.istore 8, 2) := by decide +kernel
theorem dX6_chooseWays_55 : decode cX6_chooseWays 55 = .ok (.iload 8, 2) := by decide +kernel
theorem dX6_chooseWays_57 : decode cX6_chooseWays 57 = .ok (.iload 7, 2) := by decide +kernel
theorem dX6_chooseWays_59 : decode cX6_chooseWays 59 = .ok (.if_icmp .ge 103, 3) := by decide +kernel
theorem dX6_chooseWays_62 : decode cX6_chooseWays 62 = .ok (.aload_n 0, 1) := by decide +kernel
theorem dX6_chooseWays_63 : decode cX6_chooseWays 63 = .ok (.getfield 24, 3) := by decide +kernel
theorem dX6_chooseWays_66 : decode cX6_chooseWays 66 = .ok (.iload 6, 2) := by decide +kernel
theorem dX6_chooseWays_68 : decode cX6_chooseWays 68 = .ok (.iload 8, 2) := by decide +kernel
theorem dX6_chooseWays_70 : decode cX6_chooseWays 70 = .ok (.invokevirtual 113, 3) := by decide +kernel
theorem dX6_chooseWays_73 : decode cX6_chooseWays 73 = .ok (.istore 9, 2) := by decide +kernel
theorem dX6_chooseWays_75 : decode cX6_chooseWays 75 = .ok (.iload_n 3, 1) := by decide +kernel
theorem dX6_chooseWays_76 : decode cX6_chooseWays 76 = .ok (.iload 4, 2) := by decide +kernel
theorem dX6_chooseWays_78 : decode cX6_chooseWays 78 = .ok (.iload 9, 2) := by decide +kernel
theorem dX6_chooseWays_80 : decode cX6_chooseWays 80 = .ok (.invokestatic 101, 3) := by decide +kernel
theorem dX6_chooseWays_83 : decode cX6_chooseWays 83 = .ok (.imul, 1) := by decide +kernel
theorem dX6_chooseWays_84 : decode cX6_chooseWays 84 = .ok (.iadd, 1) := by decide +kernel
theorem dX6_chooseWays_85 : decode cX6_chooseWays 85 = .ok (.istore 10, 2) := by decide +kernel
theorem dX6_chooseWays_87 : decode cX6_chooseWays 87 = .ok (.iload 9, 2) := by decide +kernel
theorem dX6_chooseWays_89 : decode cX6_chooseWays 89 = .ok (.iload 5, 2) := by decide +kernel
theorem dX6_chooseWays_91 : decode cX6_chooseWays 91 = .ok (.iconst (-1), 1) := by decide +kernel
theorem dX6_chooseWays_92 : decode cX6_chooseWays 92 = .ok (.ixor, 1) := by decide +kernel
theorem dX6_chooseWays_93 : decode cX6_chooseWays 93 = .ok (.iand, 1) := by decide +kernel
theorem dX6_chooseWays_94 : decode cX6_chooseWays 94 = .ok (.ifCond .ne 62, 3) := by decide +kernel
theorem dX6_chooseWays_97 : decode cX6_chooseWays 97 = .ok (.aload_n 0, 1) := by decide +kernel
theorem dX6_chooseWays_98 : decode cX6_chooseWays 98 = .ok (.iload 10, 2) := by decide +kernel
theorem dX6_chooseWays_100 : decode cX6_chooseWays 100 = .ok (.aload_n 0, 1) := by decide +kernel
theorem dX6_chooseWays_101 : decode cX6_chooseWays 101 = .ok (.getfield 15, 3) := by decide +kernel
theorem dX6_chooseWays_104 : decode cX6_chooseWays 104 = .ok (.iload_n 2, 1) := by decide +kernel
theorem dX6_chooseWays_105 : decode cX6_chooseWays 105 = .ok (.iconst 1, 1) := by decide +kernel
theorem dX6_chooseWays_106 : decode cX6_chooseWays 106 = .ok (.iadd, 1) := by decide +kernel
theorem dX6_chooseWays_107 : decode cX6_chooseWays 107 = .ok (.iaload, 1) := by decide +kernel
theorem dX6_chooseWays_108 : decode cX6_chooseWays 108 = .ok (.iadd, 1) := by decide +kernel
theorem dX6_chooseWays_109 : decode cX6_chooseWays 109 = .ok (.invokevirtual 60, 3) := by decide +kernel
theorem dX6_chooseWays_112 : decode cX6_chooseWays 112 = .ok (.ifCond .ne 44, 3) := by decide +kernel
theorem dX6_chooseWays_115 : decode cX6_chooseWays 115 = .ok (.aload_n 0, 1) := by decide +kernel
theorem dX6_chooseWays_116 : decode cX6_chooseWays 116 = .ok (.getfield 9, 3) := by decide +kernel
theorem dX6_chooseWays_119 : decode cX6_chooseWays 119 = .ok (.iload_n 2, 1) := by decide +kernel
theorem dX6_chooseWays_120 : decode cX6_chooseWays 120 = .ok (.iload 9, 2) := by decide +kernel
theorem dX6_chooseWays_122 : decode cX6_chooseWays 122 = .ok (.iastore, 1) := by decide +kernel
theorem dX6_chooseWays_123 : decode cX6_chooseWays 123 = .ok (.aload_n 0, 1) := by decide +kernel
theorem dX6_chooseWays_124 : decode cX6_chooseWays 124 = .ok (.getfield 28, 3) := by decide +kernel
theorem dX6_chooseWays_127 : decode cX6_chooseWays 127 = .ok (.iload 9, 2) := by decide +kernel
theorem dX6_chooseWays_129 : decode cX6_chooseWays 129 = .ok (.iload 4, 2) := by decide +kernel
theorem dX6_chooseWays_131 : decode cX6_chooseWays 131 = .ok (.invokevirtual 116, 3) := by decide +kernel
theorem dX6_chooseWays_134 : decode cX6_chooseWays 134 = .ok (.aload_n 0, 1) := by decide +kernel
theorem dX6_chooseWays_135 : decode cX6_chooseWays 135 = .ok (.aload_n 1, 1) := by decide +kernel
theorem dX6_chooseWays_136 : decode cX6_chooseWays 136 = .ok (.iload_n 2, 1) := by decide +kernel
theorem dX6_chooseWays_137 : decode cX6_chooseWays 137 = .ok (.iconst 1, 1) := by decide +kernel
theorem dX6_chooseWays_138 : decode cX6_chooseWays 138 = .ok (.iadd, 1) := by decide +kernel
theorem dX6_chooseWays_139 : decode cX6_chooseWays 139 = .ok (.iload 10, 2) := by decide +kernel
theorem dX6_chooseWays_141 : decode cX6_chooseWays 141 = .ok (.invokestatic 64, 3) := by decide +kernel
theorem dX6_chooseWays_144 : decode cX6_chooseWays 144 = .ok (.aload_n 0, 1) := by decide +kernel
theorem dX6_chooseWays_145 : decode cX6_chooseWays 145 = .ok (.getfield 28, 3) := by decide +kernel
theorem dX6_chooseWays_148 : decode cX6_chooseWays 148 = .ok (.iload 9, 2) := by decide +kernel
theorem dX6_chooseWays_150 : decode cX6_chooseWays 150 = .ok (.iload 4, 2) := by decide +kernel
theorem dX6_chooseWays_152 : decode cX6_chooseWays 152 = .ok (.ineg, 1) := by decide +kernel
theorem dX6_chooseWays_153 : decode cX6_chooseWays 153 = .ok (.invokevirtual 116, 3) := by decide +kernel
theorem dX6_chooseWays_156 : decode cX6_chooseWays 156 = .ok (.iinc 8 1, 3) := by decide +kernel
theorem dX6_chooseWays_159 : decode cX6_chooseWays 159 = .ok (.goto (-104), 3) := by decide +kernel
theorem dX6_chooseWays_162 : decode cX6_chooseWays 162 = .ok (.return_, 1) := by decide +kernel
def F_X6_chooseWays_55 (Wr : Nat → Int32 → Int32 → Mm → (Mm → Prop) → Prop) (p1 : Nat) (K55 : Int32 → Int32 → Int32 → Int32 → Int32 → Int32 → Int32 → Mm → Prop) (q : Mm → Prop) (x2 : Int32) (x3 : Int32) (x4 : Int32) (x5 : Int32) (x6 : Int32) (x7 : Int32) (x8 : Int32) (μ : Mm) : Prop :=
  ((x7 ≤ x8 → q μ) ∧ (¬ (x7 ≤ x8) → Wp_X2_wayOf x6 x8 μ (fun z2 μ1 => Wp_J6_bitCount_0f7a4 z2 μ1 (fun z4 μ3 => ((¬ ((z2 &&& (x5 ^^^ (-1 : Int32))) = 0) → K55 x2 x3 x4 x5 x6 x7 (x8 + (1 : Int32)) μ3) ∧ ((z2 &&& (x5 ^^^ (-1 : Int32))) = 0 → vp_in (x2 + (1 : Int32)) 4 ∧ Wp_X6_isCut ((x3 + (x4 * z4)) + (μ3 p_SE_floors ((x2 + (1 : Int32))).toNatClampNeg)) μ3 (fun b6 μ5 => ((¬ ((bI b6) = 0) → K55 x2 x3 x4 x5 x6 x7 (x8 + (1 : Int32)) μ5) ∧ ((bI b6) = 0 → vp_in x2 3 ∧ Wp_X0_carry z2 x4 (up2 μ5 p_SE_tried (x2).toNatClampNeg z2) (fun μ7 => Wr p1 (x2 + (1 : Int32)) (x3 + (x4 * z4)) μ7 (fun μ8 => Wp_X0_carry z2 (-x4) μ8 (fun μ9 => K55 x2 x3 x4 x5 x6 x7 (x8 + (1 : Int32)) μ9))))))))))))
def F_X6_chooseWays_e (Wr : Nat → Int32 → Int32 → Mm → (Mm → Prop) → Prop) (p1 : Nat) (K55 : Int32 → Int32 → Int32 → Int32 → Int32 → Int32 → Int32 → Mm → Prop) (q : Mm → Prop) (x2 : Int32) (x3 : Int32) (μ : Mm) : Prop :=
  ((x2 < (μ p1 11) → vp_in x2 3 ∧ Wp_X0_openFor (μ (p1 + 6) (x2).toNatClampNeg) μ (fun z2 μ1 => Wp_X5_pairOf p1 x2 μ1 (fun z4 μ3 => Wp_X2_countOfWays z4 μ3 (fun z6 μ5 => K55 x2 x3 (μ (p1 + 6) (x2).toNatClampNeg) z2 z4 z6 (0 : Int32) μ5)))) ∧ (¬ (x2 < (μ p1 11)) → Wp_X6_keepLeast p1 x3 μ (fun μ7 => q μ7)))
def Wp_X6_chooseWays : Nat → Nat → Int32 → Int32 → Mm → (Mm → Prop) → Prop
  | 0 => fun _ _ _ _ _ => False
  | d + 1 => fun p1 x2 x3 μ q => ∀ (K55 : Int32 → Int32 → Int32 → Int32 → Int32 → Int32 → Int32 → Mm → Prop), (∀ (x2 : Int32) (x3 : Int32) (x4 : Int32) (x5 : Int32) (x6 : Int32) (x7 : Int32) (x8 : Int32) (μ : Mm), F_X6_chooseWays_55 (Wp_X6_chooseWays d) p1 K55 q x2 x3 x4 x5 x6 x7 x8 μ → K55 x2 x3 x4 x5 x6 x7 x8 μ) → F_X6_chooseWays_e (Wp_X6_chooseWays d) p1 K55 q x2 x3 μ
abbrev KK_X6_chooseWays_55 (g : GE) (f : FE) (p1 : Nat) : Int32 → Int32 → Int32 → Int32 → Int32 → Int32 → Int32 → Mm → Prop := fun x2 x3 x4 x5 x6 x7 x8 μ => KW g f 11 0 0 55 [some (.ref p_SE), some (.ref p1), some (.int x2), some (.int x3), some (.int x4), some (.int x5), some (.int x6), some (.int x7), some (.int x8), none, none] [] μ
set_option maxHeartbeats 2000000 in
theorem b_X6_chooseWays_55 {d : Nat} {Wr : Nat → Int32 → Int32 → Mm → (Mm → Prop) → Prop} {p1 : Nat} (h_p1 : isReq p1) {g : GE} {f : FE} {q : Mm → Prop} (cx : Cx g f cX6_chooseWays 11 RX6 (2 + (d + 1)) (44 + (d + 1) * 30) 0 0) (hr : (f_M f).sig.returnType = none) (hl : (f_M f).locks = false) (hQ : f_Q f = MQ (f_b f) (QW g (qV q)) (f_a f) (f_s f) 0 0 (fun q => g.2.2.2.1 ≤ q)) (hrec : ∀ (p1 : Nat) (x2 : Int32) (x3 : Int32) (μ : Mm) (q : Mm → Prop), isReq p1 → Wr p1 x2 x3 μ q → MW g (f_l f) yX6_chooseWays cX6_chooseWays 11 none (2 + d) (44 + d * 30) [.ref p_SE, .ref p1, .int x2, .int x3] μ (qV q))  {x2 : Int32} {x3 : Int32} {x4 : Int32} {x5 : Int32} {x6 : Int32} {x7 : Int32} {x8 : Int32} {μ : Mm} (h : F_X6_chooseWays_55 Wr p1 (KK_X6_chooseWays_55 g f p1) q x2 x3 x4 x5 x6 x7 x8 μ) : KK_X6_chooseWays_55 g f p1 x2 x3 x4 x5 x6 x7 x8 μ := by
  unfold F_X6_chooseWays_55 at h
  show KW g f 11 0 0 55 [some (.ref p_SE), some (.ref p1), some (.int x2), some (.int x3), some (.int x4), some (.int x5), some (.int x6), some (.int x7), some (.int x8), none, none] [] μ
  refine k_iload cx dX6_chooseWays_55 rfl ?_
  refine k_iload cx dX6_chooseWays_57 rfl ?_
  refine k_icmp_ge (tgt := 162) cx dX6_chooseWays_59 (by decide) (fun hc => ?_) (fun hc => ?_)
  · replace h := h.1 hc
    exact k_ret_V cx hr hl hQ dX6_chooseWays_162 h
  · replace h := h.2 hc
    refine k_aload_n cx dX6_chooseWays_62 rfl rfl ?_
    refine k_get (o := some p_GR) (v := .ref p_GR) cx fl_X6_24 ob_SE rfl rfl dX6_chooseWays_63 ?_
    refine k_iload cx dX6_chooseWays_66 rfl ?_
    refine k_iload cx dX6_chooseWays_68 rfl ?_
    refine k_callV (As := [.int x6, .int x8]) (rest := []) cx (m_X2_wayOf h) cv_X6_113 ob_GR rfl rfl rfl rfl (Nat.le_of_ble_eq_true rfl) ⟨by omega, by omega⟩ dX6_chooseWays_70 (fun v μ1 hq => ?_)
    obtain ⟨z2, rfl, h⟩ := hq
    refine k_istore cx dX6_chooseWays_73 (by decide) ?_
    refine k_iload_n cx dX6_chooseWays_75 rfl rfl ?_
    refine k_iload cx dX6_chooseWays_76 rfl ?_
    refine k_iload cx dX6_chooseWays_78 rfl ?_
    refine k_callS (As := [.int z2]) (rest := [.int x4, .int x3]) cx (m_J6_bitCount_0f7a4 h) cv_X6_101 rfl rfl (Nat.le_of_ble_eq_true rfl) ⟨by omega, by omega⟩ dX6_chooseWays_80 (fun v μ3 hq => ?_)
    obtain ⟨z4, rfl, h⟩ := hq
    refine k_imul cx dX6_chooseWays_83 ?_
    refine k_iadd cx dX6_chooseWays_84 ?_
    refine k_istore cx dX6_chooseWays_85 (by decide) ?_
    refine k_iload cx dX6_chooseWays_87 rfl ?_
    refine k_iload cx dX6_chooseWays_89 rfl ?_
    refine k_iconst (v := (-1 : Int32)) cx dX6_chooseWays_91 (by decide +kernel) ?_
    refine k_ixor cx dX6_chooseWays_92 ?_
    refine k_iand cx dX6_chooseWays_93 ?_
    refine k_if_ne (tgt := 156) cx dX6_chooseWays_94 (by decide) (fun hc => ?_) (fun hc => ?_)
    · replace h := h.1 hc
      refine k_iinc (v := (x8 + (1 : Int32))) cx dX6_chooseWays_156 rfl rfl (by decide) ?_
      refine k_goto (tgt := 55) cx dX6_chooseWays_159 (by decide) ?_
      exact k_weak h (lsLe.keep (lsLe.keep (lsLe.keep (lsLe.keep (lsLe.keep (lsLe.keep (lsLe.keep (lsLe.keep (lsLe.keep (lsLe.drop (lsLe.drop lsLe.nil)))))))))))
    · replace h := h.2 hc
      refine k_aload_n cx dX6_chooseWays_97 rfl rfl ?_
      refine k_iload cx dX6_chooseWays_98 rfl ?_
      refine k_aload_n cx dX6_chooseWays_100 rfl rfl ?_
      refine k_get (o := some p_SE_floors) (v := .ref p_SE_floors) cx fl_X6_15 ob_SE rfl rfl dX6_chooseWays_101 ?_
      refine k_iload_n cx dX6_chooseWays_104 rfl rfl ?_
      refine k_iconst (v := (1 : Int32)) cx dX6_chooseWays_105 (by decide +kernel) ?_
      refine k_iadd cx dX6_chooseWays_106 ?_
      obtain ⟨hi, h⟩ := h
      refine k_iald cx ar_SE_floors hi dX6_chooseWays_107 ?_
      refine k_iadd cx dX6_chooseWays_108 ?_
      refine k_callV (As := [.int ((x3 + (x4 * z4)) + (μ3 p_SE_floors ((x2 + (1 : Int32))).toNatClampNeg))]) (rest := []) cx (m_X6_isCut h) cv_X6_60 ob_SE rfl rfl rfl rfl (Nat.le_of_ble_eq_true rfl) ⟨by omega, by omega⟩ dX6_chooseWays_109 (fun v μ5 hq => ?_)
      obtain ⟨b6, rfl, h⟩ := hq
      refine k_if_ne (tgt := 156) cx dX6_chooseWays_112 (by decide) (fun hc => ?_) (fun hc => ?_)
      · replace h := h.1 hc
        refine k_iinc (v := (x8 + (1 : Int32))) cx dX6_chooseWays_156 rfl rfl (by decide) ?_
        refine k_goto (tgt := 55) cx dX6_chooseWays_159 (by decide) ?_
        exact k_weak h (lsLe.keep (lsLe.keep (lsLe.keep (lsLe.keep (lsLe.keep (lsLe.keep (lsLe.keep (lsLe.keep (lsLe.keep (lsLe.drop (lsLe.drop lsLe.nil)))))))))))
      · replace h := h.2 hc
        refine k_aload_n cx dX6_chooseWays_115 rfl rfl ?_
        refine k_get (o := some p_SE_tried) (v := .ref p_SE_tried) cx fl_X6_9 ob_SE rfl rfl dX6_chooseWays_116 ?_
        refine k_iload_n cx dX6_chooseWays_119 rfl rfl ?_
        refine k_iload cx dX6_chooseWays_120 rfl ?_
        obtain ⟨hi, h⟩ := h
        refine k_iast cx ar_SE_tried hi dX6_chooseWays_122 ?_
        refine k_aload_n cx dX6_chooseWays_123 rfl rfl ?_
        refine k_get (o := some p_BK) (v := .ref p_BK) cx fl_X6_28 ob_SE rfl rfl dX6_chooseWays_124 ?_
        refine k_iload cx dX6_chooseWays_127 rfl ?_
        refine k_iload cx dX6_chooseWays_129 rfl ?_
        refine k_callV (As := [.int z2, .int x4]) (rest := []) cx (m_X0_carry h) cv_X6_116 ob_BK rfl rfl rfl rfl (Nat.le_of_ble_eq_true rfl) ⟨by omega, by omega⟩ dX6_chooseWays_131 (fun v μ7 hq => ?_)
        obtain ⟨rfl, h⟩ := hq
        refine k_aload_n cx dX6_chooseWays_134 rfl rfl ?_
        refine k_aload_n cx dX6_chooseWays_135 rfl rfl ?_
        refine k_iload_n cx dX6_chooseWays_136 rfl rfl ?_
        refine k_iconst (v := (1 : Int32)) cx dX6_chooseWays_137 (by decide +kernel) ?_
        refine k_iadd cx dX6_chooseWays_138 ?_
        refine k_iload cx dX6_chooseWays_139 rfl ?_
        refine k_callS (As := [.ref p_SE, .ref p1, .int (x2 + (1 : Int32)), .int (x3 + (x4 * z4))]) (rest := []) cx (hrec _ _ _ _ _ h_p1 h) cv_X6_64 rfl rfl (Nat.le_of_ble_eq_true rfl) ⟨by omega, by omega⟩ dX6_chooseWays_141 (fun v μ8 hq => ?_)
        obtain ⟨rfl, h⟩ := hq
        refine k_aload_n cx dX6_chooseWays_144 rfl rfl ?_
        refine k_get (o := some p_BK) (v := .ref p_BK) cx fl_X6_28 ob_SE rfl rfl dX6_chooseWays_145 ?_
        refine k_iload cx dX6_chooseWays_148 rfl ?_
        refine k_iload cx dX6_chooseWays_150 rfl ?_
        refine k_ineg cx dX6_chooseWays_152 ?_
        refine k_callV (As := [.int z2, .int (-x4)]) (rest := []) cx (m_X0_carry h) cv_X6_116 ob_BK rfl rfl rfl rfl (Nat.le_of_ble_eq_true rfl) ⟨by omega, by omega⟩ dX6_chooseWays_153 (fun v μ9 hq => ?_)
        obtain ⟨rfl, h⟩ := hq
        refine k_iinc (v := (x8 + (1 : Int32))) cx dX6_chooseWays_156 rfl rfl (by decide) ?_
        refine k_goto (tgt := 55) cx dX6_chooseWays_159 (by decide) ?_
        exact k_weak h (lsLe.keep (lsLe.keep (lsLe.keep (lsLe.keep (lsLe.keep (lsLe.keep (lsLe.keep (lsLe.keep (lsLe.keep (lsLe.drop (lsLe.drop lsLe.nil)))))))))))
set_option maxHeartbeats 2000000 in
theorem b_X6_chooseWays_e {d : Nat} {Wr : Nat → Int32 → Int32 → Mm → (Mm → Prop) → Prop} {p1 : Nat} (h_p1 : isReq p1) {g : GE} {f : FE} {q : Mm → Prop} (cx : Cx g f cX6_chooseWays 11 RX6 (2 + (d + 1)) (44 + (d + 1) * 30) 0 0) (hr : (f_M f).sig.returnType = none) (hl : (f_M f).locks = false) (hQ : f_Q f = MQ (f_b f) (QW g (qV q)) (f_a f) (f_s f) 0 0 (fun q => g.2.2.2.1 ≤ q)) (hrec : ∀ (p1 : Nat) (x2 : Int32) (x3 : Int32) (μ : Mm) (q : Mm → Prop), isReq p1 → Wr p1 x2 x3 μ q → MW g (f_l f) yX6_chooseWays cX6_chooseWays 11 none (2 + d) (44 + d * 30) [.ref p_SE, .ref p1, .int x2, .int x3] μ (qV q))  {x2 : Int32} {x3 : Int32} {μ : Mm} (h : F_X6_chooseWays_e Wr p1 (KK_X6_chooseWays_55 g f p1) q x2 x3 μ) : KW g f 11 0 0 0 [some (.ref p_SE), some (.ref p1), some (.int x2), some (.int x3), none, none, none, none, none, none, none] [] μ := by
  unfold F_X6_chooseWays_e at h
  refine k_iload_n cx dX6_chooseWays_0 rfl rfl ?_
  refine k_aload_n cx dX6_chooseWays_1 rfl rfl ?_
  refine k_get (o := none) (v := .int (μ p1 11)) cx fl_X6_76 (ob_RQ h_p1) rfl rfl dX6_chooseWays_2 ?_
  refine k_icmp_lt (tgt := 15) cx dX6_chooseWays_5 (by decide) (fun hc => ?_) (fun hc => ?_)
  · replace h := h.1 hc
    refine k_aload_n cx dX6_chooseWays_15 rfl rfl ?_
    refine k_get (o := some (p1 + 6)) (v := .ref (p1 + 6)) cx fl_X6_83 (ob_RQ h_p1) rfl rfl dX6_chooseWays_16 ?_
    refine k_iload_n cx dX6_chooseWays_19 rfl rfl ?_
    obtain ⟨hi, h⟩ := h
    refine k_iald cx (ar_RQ h_p1 6 (by decide) (by decide)) hi dX6_chooseWays_20 ?_
    refine k_istore cx dX6_chooseWays_21 (by decide) ?_
    refine k_aload_n cx dX6_chooseWays_23 rfl rfl ?_
    refine k_get (o := some p_BK) (v := .ref p_BK) cx fl_X6_28 ob_SE rfl rfl dX6_chooseWays_24 ?_
    refine k_iload cx dX6_chooseWays_27 rfl ?_
    refine k_callV (As := [.int (μ (p1 + 6) (x2).toNatClampNeg)]) (rest := []) cx (m_X0_openFor h) cv_X6_90 ob_BK rfl rfl rfl rfl (Nat.le_of_ble_eq_true rfl) ⟨by omega, by omega⟩ dX6_chooseWays_29 (fun v μ1 hq => ?_)
    obtain ⟨z2, rfl, h⟩ := hq
    refine k_istore cx dX6_chooseWays_32 (by decide) ?_
    refine k_aload_n cx dX6_chooseWays_34 rfl rfl ?_
    refine k_iload_n cx dX6_chooseWays_35 rfl rfl ?_
    refine k_callV (As := [.int x2]) (rest := []) cx (m_X5_pairOf h_p1 h) cv_X6_86 (ob_RQ h_p1) rfl rfl rfl rfl (Nat.le_of_ble_eq_true rfl) ⟨by omega, by omega⟩ dX6_chooseWays_36 (fun v μ3 hq => ?_)
    obtain ⟨z4, rfl, h⟩ := hq
    refine k_istore cx dX6_chooseWays_39 (by decide) ?_
    refine k_aload_n cx dX6_chooseWays_41 rfl rfl ?_
    refine k_get (o := some p_GR) (v := .ref p_GR) cx fl_X6_24 ob_SE rfl rfl dX6_chooseWays_42 ?_
    refine k_iload cx dX6_chooseWays_45 rfl ?_
    refine k_callV (As := [.int z4]) (rest := []) cx (m_X2_countOfWays h) cv_X6_110 ob_GR rfl rfl rfl rfl (Nat.le_of_ble_eq_true rfl) ⟨by omega, by omega⟩ dX6_chooseWays_47 (fun v μ5 hq => ?_)
    obtain ⟨z6, rfl, h⟩ := hq
    refine k_istore cx dX6_chooseWays_50 (by decide) ?_
    refine k_iconst (v := (0 : Int32)) cx dX6_chooseWays_52 (by decide +kernel) ?_
    refine k_istore cx dX6_chooseWays_53 (by decide) ?_
    exact k_weak h (lsLe.keep (lsLe.keep (lsLe.keep (lsLe.keep (lsLe.keep (lsLe.keep (lsLe.keep (lsLe.keep (lsLe.keep (lsLe.keep (lsLe.keep lsLe.nil)))))))))))
  · replace h := h.2 hc
    refine k_aload_n cx dX6_chooseWays_8 rfl rfl ?_
    refine k_aload_n cx dX6_chooseWays_9 rfl rfl ?_
    refine k_iload_n cx dX6_chooseWays_10 rfl rfl ?_
    refine k_callV (As := [.ref p1, .int x3]) (rest := []) cx (m_X6_keepLeast h_p1 h) cv_X6_106 ob_SE rfl rfl rfl rfl (Nat.le_of_ble_eq_true rfl) ⟨by omega, by omega⟩ dX6_chooseWays_11 (fun v μ7 hq => ?_)
    obtain ⟨rfl, h⟩ := hq
    exact k_ret_V cx hr hl hQ dX6_chooseWays_14 h
theorem m_X6_chooseWays {g : GE} {l : Launch} : ∀ (d : Nat) (p1 : Nat) (x2 : Int32) (x3 : Int32) (μ : Mm) (q : Mm → Prop), isReq p1 → Wp_X6_chooseWays d p1 x2 x3 μ q → MW g l yX6_chooseWays cX6_chooseWays 11 none (2 + d) (44 + d * 30) [.ref p_SE, .ref p1, .int x2, .int x3] μ (qV q) := by
  intro d
  induction d with
  | zero => intros; contradiction
  | succ d ih =>
    intro p1 x2 x3 μ q h_p1 h
    refine met_of (by decide) (Nat.le_of_ble_eq_true rfl) (by intro v hv; simp only [List.mem_cons, List.not_mem_nil, or_false] at hv; rcases hv with rfl | rfl | rfl | rfl <;> rfl) ?_
    intro f hfl cx hr hl hQ
    subst hfl
    exact b_X6_chooseWays_e h_p1 cx hr hl hQ ih (h (KK_X6_chooseWays_55 g f p1) (fun _ _ _ _ _ _ _ _ h => b_X6_chooseWays_55 h_p1 cx hr hl hQ ih h))
theorem dX6_findFloors_0 : decode cX6_findFloors 0 = .ok (.aload_n 0, 1) := by decide +kernel
theorem dX6_findFloors_1 : decode cX6_findFloors 1 = .ok (.getfield 15, 3) := by decide +kernel
theorem dX6_findFloors_4 : decode cX6_findFloors 4 = .ok (.aload_n 1, 1) := by decide +kernel
theorem dX6_findFloors_5 : decode cX6_findFloors 5 = .ok (.getfield 76, 3) := by decide +kernel
theorem dX6_findFloors_8 : decode cX6_findFloors 8 = .ok (.iconst 0, 1) := by decide +kernel
theorem dX6_findFloors_9 : decode cX6_findFloors 9 = .ok (.iastore, 1) := by decide +kernel
theorem dX6_findFloors_10 : decode cX6_findFloors 10 = .ok (.aload_n 1, 1) := by decide +kernel
theorem dX6_findFloors_11 : decode cX6_findFloors 11 = .ok (.getfield 76, 3) := by decide +kernel
theorem dX6_findFloors_14 : decode cX6_findFloors 14 = .ok (.iconst 1, 1) := by decide +kernel
theorem dX6_findFloors_15 : decode cX6_findFloors 15 = .ok (.isub, 1) := by decide +kernel
theorem dX6_findFloors_16 : decode cX6_findFloors 16 = .ok (.istore_n 2, 1) := by decide +kernel
theorem dX6_findFloors_17 : decode cX6_findFloors 17 = .ok (.iload_n 2, 1) := by decide +kernel
theorem dX6_findFloors_18 : decode cX6_findFloors 18 = .ok (.ifCond .lt 85, 3) := by decide +kernel
theorem dX6_findFloors_21 : decode cX6_findFloors 21 = .ok (.aload_n 0, 1) := by decide +kernel
theorem dX6_findFloors_22 : decode cX6_findFloors 22 = .ok (.getfield 15, 3) := by decide +kernel
theorem dX6_findFloors_25 : decode cX6_findFloors 25 = .ok (.iload_n 2, 1) := by decide +kernel
theorem dX6_findFloors_26 : decode cX6_findFloors 26 = .ok (.iconst 0, 1) := by decide +kernel
theorem dX6_findFloors_27 : decode cX6_findFloors 27 = .ok (.iastore, 1) := by decide +kernel
theorem dX6_findFloors_28 : decode cX6_findFloors 28 = .ok (.aload_n 0, 1) := by decide +kernel
theorem dX6_findFloors_29 : decode cX6_findFloors 29 = .ok (.getfield 41, 3) := by decide +kernel
theorem dX6_findFloors_32 : decode cX6_findFloors 32 = .ok (.iconst 1, 1) := by decide +kernel
theorem dX6_findFloors_33 : decode cX6_findFloors 33 = .ok (.if_icmp .ne 6, 3) := by decide +kernel
theorem dX6_findFloors_36 : decode cX6_findFloors 36 = .ok (.goto 61, 3) := by decide +kernel
theorem dX6_findFloors_39 : decode cX6_findFloors 39 = .ok (.aload_n 1, 1) := by decide +kernel
theorem dX6_findFloors_40 : decode cX6_findFloors 40 = .ok (.getfield 83, 3) := by decide +kernel
theorem dX6_findFloors_43 : decode cX6_findFloors 43 = .ok (.iload_n 2, 1) := by decide +kernel
theorem dX6_findFloors_44 : decode cX6_findFloors 44 = .ok (.iaload, 1) := by decide +kernel
theorem dX6_findFloors_45 : decode cX6_findFloors 45 = .ok (.istore_n 3, 1) := by decide +kernel
theorem dX6_findFloors_46 : decode cX6_findFloors 46 = .ok (.aload_n 0, 1) := by decide +kernel
theorem dX6_findFloors_47 : decode cX6_findFloors 47 = .ok (.getfield 24, 3) := by decide +kernel
theorem dX6_findFloors_50 : decode cX6_findFloors 50 = .ok (.aload_n 1, 1) := by decide +kernel
theorem dX6_findFloors_51 : decode cX6_findFloors 51 = .ok (.iload_n 2, 1) := by decide +kernel
theorem dX6_findFloors_52 : decode cX6_findFloors 52 = .ok (.invokevirtual 86, 3) := by decide +kernel
theorem dX6_findFloors_55 : decode cX6_findFloors 55 = .ok (.aload_n 0, 1) := by decide +kernel
theorem dX6_findFloors_56 : decode cX6_findFloors 56 = .ok (.getfield 28, 3) := by decide +kernel
theorem dX6_findFloors_59 : decode cX6_findFloors 59 = .ok (.iload_n 3, 1) := by decide +kernel
theorem dX6_findFloors_60 : decode cX6_findFloors 60 = .ok (.invokevirtual 90, 3) := by decide +kernel
theorem dX6_findFloors_63 : decode cX6_findFloors 63 = .ok (.invokevirtual 95, 3) := by decide +kernel
theorem dX6_findFloors_66 : decode cX6_findFloors 66 = .ok (.istore 4, 2) := by decide +kernel
theorem dX6_findFloors_68 : decode cX6_findFloors 68 = .ok (.iload 4, 2) := by decide +kernel
theorem dX6_findFloors_70 : decode cX6_findFloors 70 = .ok (.ifCond .ne 5, 3) := by decide +kernel
theorem dX6_findFloors_73 : decode cX6_findFloors 73 = .ok (.iconst 0, 1) := by decide +kernel
theorem dX6_findFloors_74 : decode cX6_findFloors 74 = .ok (.ireturn, 1) := by decide +kernel
theorem dX6_findFloors_75 : decode cX6_findFloors 75 = .ok (.aload_n 0, 1) := by decide +kernel
theorem dX6_findFloors_76 : decode cX6_findFloors 76 = .ok (.getfield 15, 3) := by decide +kernel
theorem dX6_findFloors_79 : decode cX6_findFloors 79 = .ok (.iload_n 2, 1) := by decide +kernel
theorem dX6_findFloors_80 : decode cX6_findFloors 80 = .ok (.aload_n 0, 1) := by decide +kernel
theorem dX6_findFloors_81 : decode cX6_findFloors 81 = .ok (.getfield 15, 3) := by decide +kernel
theorem dX6_findFloors_84 : decode cX6_findFloors 84 = .ok (.iload_n 2, 1) := by decide +kernel
theorem dX6_findFloors_85 : decode cX6_findFloors 85 = .ok (.iconst 1, 1) := by decide +kernel
theorem dX6_findFloors_86 : decode cX6_findFloors 86 = .ok (.iadd, 1) := by decide +kernel
theorem dX6_findFloors_87 : decode cX6_findFloors 87 = .ok (.iaload, 1) := by decide +kernel
theorem dX6_findFloors_88 : decode cX6_findFloors 88 = .ok (.iload_n 3, 1) := by decide +kernel
theorem dX6_findFloors_89 : decode cX6_findFloors 89 = .ok (.iload 4, 2) := by decide +kernel
theorem dX6_findFloors_91 : decode cX6_findFloors 91 = .ok (.invokestatic 101, 3) := by decide +kernel
theorem dX6_findFloors_94 : decode cX6_findFloors 94 = .ok (.imul, 1) := by decide +kernel
theorem dX6_findFloors_95 : decode cX6_findFloors 95 = .ok (.iadd, 1) := by decide +kernel
theorem dX6_findFloors_96 : decode cX6_findFloors 96 = .ok (.iastore, 1) := by decide +kernel
theorem dX6_findFloors_97 : decode cX6_findFloors 97 = .ok (.iinc 2 (-1), 3) := by decide +kernel
theorem dX6_findFloors_100 : decode cX6_findFloors 100 = .ok (.goto (-83), 3) := by decide +kernel
theorem dX6_findFloors_103 : decode cX6_findFloors 103 = .ok (.iconst 1, 1) := by decide +kernel
theorem dX6_findFloors_104 : decode cX6_findFloors 104 = .ok (.ireturn, 1) := by decide +kernel
def F_X6_findFloors_17 (p1 : Nat) (K17 : Int32 → Mm → Prop) (q : Bool → Mm → Prop) (x2 : Int32) (μ : Mm) : Prop :=
  ((x2 < 0 → q true μ) ∧ (¬ (x2 < 0) → vp_in x2 4 ∧ ((¬ (((up2 μ p_SE_floors (x2).toNatClampNeg (0 : Int32)) p_SE 7) = (1 : Int32)) → vp_in x2 3 ∧ Wp_X5_pairOf p1 x2 (up2 μ p_SE_floors (x2).toNatClampNeg (0 : Int32)) (fun z2 μ1 => Wp_X0_openFor ((up2 μ p_SE_floors (x2).toNatClampNeg (0 : Int32)) (p1 + 6) (x2).toNatClampNeg) μ1 (fun z4 μ3 => Wp_X2_shortest z2 z4 μ3 (fun z6 μ5 => ((¬ (z6 = 0) → vp_in (x2 + (1 : Int32)) 4 ∧ Wp_J6_bitCount_0f7a4 z6 μ5 (fun z8 μ7 => vp_in x2 4 ∧ K17 (x2 + (-1 : Int32)) (up2 μ7 p_SE_floors (x2).toNatClampNeg ((μ5 p_SE_floors ((x2 + (1 : Int32))).toNatClampNeg) + (((up2 μ p_SE_floors (x2).toNatClampNeg (0 : Int32)) (p1 + 6) (x2).toNatClampNeg) * z8))))) ∧ (z6 = 0 → q false μ5)))))) ∧ (((up2 μ p_SE_floors (x2).toNatClampNeg (0 : Int32)) p_SE 7) = (1 : Int32) → K17 (x2 + (-1 : Int32)) (up2 μ p_SE_floors (x2).toNatClampNeg (0 : Int32))))))
def F_X6_findFloors_e (p1 : Nat) (K17 : Int32 → Mm → Prop) (q : Bool → Mm → Prop)  (μ : Mm) : Prop :=
  vp_in (μ p1 11) 4 ∧ K17 (((up2 μ p_SE_floors ((μ p1 11)).toNatClampNeg (0 : Int32)) p1 11) - (1 : Int32)) (up2 μ p_SE_floors ((μ p1 11)).toNatClampNeg (0 : Int32))
def Wp_X6_findFloors (p1 : Nat)  (μ : Mm) (q : Bool → Mm → Prop) : Prop := ∀ (K17 : Int32 → Mm → Prop), (∀ (x2 : Int32) (μ : Mm), F_X6_findFloors_17 p1 K17 q x2 μ → K17 x2 μ) → F_X6_findFloors_e p1 K17 q  μ
abbrev KK_X6_findFloors_17 (g : GE) (f : FE) (p1 : Nat) : Int32 → Mm → Prop := fun x2 μ => KW g f 5 0 0 17 [some (.ref p_SE), some (.ref p1), some (.int x2), none, none] [] μ
set_option maxHeartbeats 2000000 in
theorem b_X6_findFloors_17 {p1 : Nat} (h_p1 : isReq p1) {g : GE} {f : FE} {q : Bool → Mm → Prop} (cx : Cx g f cX6_findFloors 5 RX6 2 50 0 0) (hr : (f_M f).sig.returnType = (some .boolean)) (hl : (f_M f).locks = false) (hQ : f_Q f = MQ (f_b f) (QW g (qZ q)) (f_a f) (f_s f) 0 0 (fun q => g.2.2.2.1 ≤ q))  {x2 : Int32} {μ : Mm} (h : F_X6_findFloors_17 p1 (KK_X6_findFloors_17 g f p1) q x2 μ) : KK_X6_findFloors_17 g f p1 x2 μ := by
  unfold F_X6_findFloors_17 at h
  show KW g f 5 0 0 17 [some (.ref p_SE), some (.ref p1), some (.int x2), none, none] [] μ
  refine k_iload_n cx dX6_findFloors_17 rfl rfl ?_
  refine k_if_lt (tgt := 103) cx dX6_findFloors_18 (by decide) (fun hc => ?_) (fun hc => ?_)
  · replace h := h.1 hc
    refine k_iconst (v := (1 : Int32)) cx dX6_findFloors_103 (by decide +kernel) ?_
    exact k_ret_Z (b := true) cx hr hl hQ dX6_findFloors_104 rfl h
  · replace h := h.2 hc
    refine k_aload_n cx dX6_findFloors_21 rfl rfl ?_
    refine k_get (o := some p_SE_floors) (v := .ref p_SE_floors) cx fl_X6_15 ob_SE rfl rfl dX6_findFloors_22 ?_
    refine k_iload_n cx dX6_findFloors_25 rfl rfl ?_
    refine k_iconst (v := (0 : Int32)) cx dX6_findFloors_26 (by decide +kernel) ?_
    obtain ⟨hi, h⟩ := h
    refine k_iast cx ar_SE_floors hi dX6_findFloors_27 ?_
    refine k_aload_n cx dX6_findFloors_28 rfl rfl ?_
    refine k_get (o := none) (v := .int ((up2 μ p_SE_floors (x2).toNatClampNeg (0 : Int32)) p_SE 7)) cx fl_X6_41 ob_SE rfl rfl dX6_findFloors_29 ?_
    refine k_iconst (v := (1 : Int32)) cx dX6_findFloors_32 (by decide +kernel) ?_
    refine k_icmp_ne (tgt := 39) cx dX6_findFloors_33 (by decide) (fun hc => ?_) (fun hc => ?_)
    · replace h := h.1 hc
      refine k_aload_n cx dX6_findFloors_39 rfl rfl ?_
      refine k_get (o := some (p1 + 6)) (v := .ref (p1 + 6)) cx fl_X6_83 (ob_RQ h_p1) rfl rfl dX6_findFloors_40 ?_
      refine k_iload_n cx dX6_findFloors_43 rfl rfl ?_
      obtain ⟨hi, h⟩ := h
      refine k_iald cx (ar_RQ h_p1 6 (by decide) (by decide)) hi dX6_findFloors_44 ?_
      refine k_istore_n cx dX6_findFloors_45 rfl (by decide) ?_
      refine k_aload_n cx dX6_findFloors_46 rfl rfl ?_
      refine k_get (o := some p_GR) (v := .ref p_GR) cx fl_X6_24 ob_SE rfl rfl dX6_findFloors_47 ?_
      refine k_aload_n cx dX6_findFloors_50 rfl rfl ?_
      refine k_iload_n cx dX6_findFloors_51 rfl rfl ?_
      refine k_callV (As := [.int x2]) (rest := [.ref p_GR]) cx (m_X5_pairOf h_p1 h) cv_X6_86 (ob_RQ h_p1) rfl rfl rfl rfl (Nat.le_of_ble_eq_true rfl) ⟨Nat.le_of_ble_eq_true rfl, Nat.le_of_ble_eq_true rfl⟩ dX6_findFloors_52 (fun v μ1 hq => ?_)
      obtain ⟨z2, rfl, h⟩ := hq
      refine k_aload_n cx dX6_findFloors_55 rfl rfl ?_
      refine k_get (o := some p_BK) (v := .ref p_BK) cx fl_X6_28 ob_SE rfl rfl dX6_findFloors_56 ?_
      refine k_iload_n cx dX6_findFloors_59 rfl rfl ?_
      refine k_callV (As := [.int ((up2 μ p_SE_floors (x2).toNatClampNeg (0 : Int32)) (p1 + 6) (x2).toNatClampNeg)]) (rest := [.int z2, .ref p_GR]) cx (m_X0_openFor h) cv_X6_90 ob_BK rfl rfl rfl rfl (Nat.le_of_ble_eq_true rfl) ⟨Nat.le_of_ble_eq_true rfl, Nat.le_of_ble_eq_true rfl⟩ dX6_findFloors_60 (fun v μ3 hq => ?_)
      obtain ⟨z4, rfl, h⟩ := hq
      refine k_callV (As := [.int z2, .int z4]) (rest := []) cx (m_X2_shortest h) cv_X6_95 ob_GR rfl rfl rfl rfl (Nat.le_of_ble_eq_true rfl) ⟨Nat.le_of_ble_eq_true rfl, Nat.le_of_ble_eq_true rfl⟩ dX6_findFloors_63 (fun v μ5 hq => ?_)
      obtain ⟨z6, rfl, h⟩ := hq
      refine k_istore cx dX6_findFloors_66 (by decide) ?_
      refine k_iload cx dX6_findFloors_68 rfl ?_
      refine k_if_ne (tgt := 75) cx dX6_findFloors_70 (by decide) (fun hc => ?_) (fun hc => ?_)
      · replace h := h.1 hc
        refine k_aload_n cx dX6_findFloors_75 rfl rfl ?_
        refine k_get (o := some p_SE_floors) (v := .ref p_SE_floors) cx fl_X6_15 ob_SE rfl rfl dX6_findFloors_76 ?_
        refine k_iload_n cx dX6_findFloors_79 rfl rfl ?_
        refine k_aload_n cx dX6_findFloors_80 rfl rfl ?_
        refine k_get (o := some p_SE_floors) (v := .ref p_SE_floors) cx fl_X6_15 ob_SE rfl rfl dX6_findFloors_81 ?_
        refine k_iload_n cx dX6_findFloors_84 rfl rfl ?_
        refine k_iconst (v := (1 : Int32)) cx dX6_findFloors_85 (by decide +kernel) ?_
        refine k_iadd cx dX6_findFloors_86 ?_
        obtain ⟨hi, h⟩ := h
        refine k_iald cx ar_SE_floors hi dX6_findFloors_87 ?_
        refine k_iload_n cx dX6_findFloors_88 rfl rfl ?_
        refine k_iload cx dX6_findFloors_89 rfl ?_
        refine k_callS (As := [.int z6]) (rest := [.int ((up2 μ p_SE_floors (x2).toNatClampNeg (0 : Int32)) (p1 + 6) (x2).toNatClampNeg), .int (μ5 p_SE_floors ((x2 + (1 : Int32))).toNatClampNeg), .int x2, .ref p_SE_floors]) cx (m_J6_bitCount_0f7a4 h) cv_X6_101 rfl rfl (Nat.le_of_ble_eq_true rfl) ⟨Nat.le_of_ble_eq_true rfl, Nat.le_of_ble_eq_true rfl⟩ dX6_findFloors_91 (fun v μ7 hq => ?_)
        obtain ⟨z8, rfl, h⟩ := hq
        refine k_imul cx dX6_findFloors_94 ?_
        refine k_iadd cx dX6_findFloors_95 ?_
        obtain ⟨hi, h⟩ := h
        refine k_iast cx ar_SE_floors hi dX6_findFloors_96 ?_
        refine k_iinc (v := (x2 + (-1 : Int32))) cx dX6_findFloors_97 rfl rfl (by decide) ?_
        refine k_goto (tgt := 17) cx dX6_findFloors_100 (by decide) ?_
        exact k_weak h (lsLe.keep (lsLe.keep (lsLe.keep (lsLe.drop (lsLe.drop lsLe.nil)))))
      · replace h := h.2 hc
        refine k_iconst (v := (0 : Int32)) cx dX6_findFloors_73 (by decide +kernel) ?_
        exact k_ret_Z (b := false) cx hr hl hQ dX6_findFloors_74 rfl h
    · replace h := h.2 hc
      refine k_goto (tgt := 97) cx dX6_findFloors_36 (by decide) ?_
      refine k_iinc (v := (x2 + (-1 : Int32))) cx dX6_findFloors_97 rfl rfl (by decide) ?_
      refine k_goto (tgt := 17) cx dX6_findFloors_100 (by decide) ?_
      exact k_weak h (lsLe.keep (lsLe.keep (lsLe.keep (lsLe.keep (lsLe.keep lsLe.nil)))))
set_option maxHeartbeats 2000000 in
theorem b_X6_findFloors_e {p1 : Nat} (h_p1 : isReq p1) {g : GE} {f : FE} {q : Bool → Mm → Prop} (cx : Cx g f cX6_findFloors 5 RX6 2 50 0 0) (hr : (f_M f).sig.returnType = (some .boolean)) (hl : (f_M f).locks = false) (hQ : f_Q f = MQ (f_b f) (QW g (qZ q)) (f_a f) (f_s f) 0 0 (fun q => g.2.2.2.1 ≤ q))   {μ : Mm} (h : F_X6_findFloors_e p1 (KK_X6_findFloors_17 g f p1) q  μ) : KW g f 5 0 0 0 [some (.ref p_SE), some (.ref p1), none, none, none] [] μ := by
  unfold F_X6_findFloors_e at h
  refine k_aload_n cx dX6_findFloors_0 rfl rfl ?_
  refine k_get (o := some p_SE_floors) (v := .ref p_SE_floors) cx fl_X6_15 ob_SE rfl rfl dX6_findFloors_1 ?_
  refine k_aload_n cx dX6_findFloors_4 rfl rfl ?_
  refine k_get (o := none) (v := .int (μ p1 11)) cx fl_X6_76 (ob_RQ h_p1) rfl rfl dX6_findFloors_5 ?_
  refine k_iconst (v := (0 : Int32)) cx dX6_findFloors_8 (by decide +kernel) ?_
  obtain ⟨hi, h⟩ := h
  refine k_iast cx ar_SE_floors hi dX6_findFloors_9 ?_
  refine k_aload_n cx dX6_findFloors_10 rfl rfl ?_
  refine k_get (o := none) (v := .int ((up2 μ p_SE_floors ((μ p1 11)).toNatClampNeg (0 : Int32)) p1 11)) cx fl_X6_76 (ob_RQ h_p1) rfl rfl dX6_findFloors_11 ?_
  refine k_iconst (v := (1 : Int32)) cx dX6_findFloors_14 (by decide +kernel) ?_
  refine k_isub cx dX6_findFloors_15 ?_
  refine k_istore_n cx dX6_findFloors_16 rfl (by decide) ?_
  exact k_weak h (lsLe.keep (lsLe.keep (lsLe.keep (lsLe.keep (lsLe.keep lsLe.nil)))))
theorem m_X6_findFloors {g : GE} {l : Launch} {μ : Mm} {q : Bool → Mm → Prop} {p1 : Nat} (h_p1 : isReq p1) (h : Wp_X6_findFloors p1  μ q) : MW g l yX6_findFloors cX6_findFloors 5 (some .boolean) 2 50 [.ref p_SE, .ref p1] μ (qZ q) := by
  refine met_of (by decide) (Nat.le_of_ble_eq_true rfl) (by intro v hv; simp only [List.mem_cons, List.not_mem_nil, or_false] at hv; rcases hv with rfl | rfl <;> rfl) ?_
  intro f hfl cx hr hl hQ
  exact b_X6_findFloors_e h_p1 cx hr hl hQ (h (KK_X6_findFloors_17 g f p1) (fun _ _ h => b_X6_findFloors_17 h_p1 cx hr hl hQ h))
theorem dX6_run_0 : decode cX6_run 0 = .ok (.aload_n 0, 1) := by decide +kernel
theorem dX6_run_1 : decode cX6_run 1 = .ok (.iload_n 2, 1) := by decide +kernel
theorem dX6_run_2 : decode cX6_run 2 = .ok (.putfield 41, 3) := by decide +kernel
theorem dX6_run_5 : decode cX6_run 5 = .ok (.aload_n 0, 1) := by decide +kernel
theorem dX6_run_6 : decode cX6_run 6 = .ok (.iconst (-1), 1) := by decide +kernel
theorem dX6_run_7 : decode cX6_run 7 = .ok (.putfield 45, 3) := by decide +kernel
theorem dX6_run_10 : decode cX6_run 10 = .ok (.aload_n 0, 1) := by decide +kernel
theorem dX6_run_11 : decode cX6_run 11 = .ok (.getfield 37, 3) := by decide +kernel
theorem dX6_run_14 : decode cX6_run 14 = .ok (.aload_n 1, 1) := by decide +kernel
theorem dX6_run_15 : decode cX6_run 15 = .ok (.invokevirtual 48, 3) := by decide +kernel
theorem dX6_run_18 : decode cX6_run 18 = .ok (.istore_n 3, 1) := by decide +kernel
theorem dX6_run_19 : decode cX6_run 19 = .ok (.iconst 0, 1) := by decide +kernel
theorem dX6_run_20 : decode cX6_run 20 = .ok (.istore 4, 2) := by decide +kernel
theorem dX6_run_22 : decode cX6_run 22 = .ok (.iload 4, 2) := by decide +kernel
theorem dX6_run_24 : decode cX6_run 24 = .ok (.iload_n 3, 1) := by decide +kernel
theorem dX6_run_25 : decode cX6_run 25 = .ok (.if_icmp .ge 50, 3) := by decide +kernel
theorem dX6_run_28 : decode cX6_run 28 = .ok (.aload_n 0, 1) := by decide +kernel
theorem dX6_run_29 : decode cX6_run 29 = .ok (.getfield 37, 3) := by decide +kernel
theorem dX6_run_32 : decode cX6_run 32 = .ok (.aload_n 1, 1) := by decide +kernel
theorem dX6_run_33 : decode cX6_run 33 = .ok (.iload 4, 2) := by decide +kernel
theorem dX6_run_35 : decode cX6_run 35 = .ok (.invokevirtual 52, 3) := by decide +kernel
theorem dX6_run_38 : decode cX6_run 38 = .ok (.ifCond .eq 31, 3) := by decide +kernel
theorem dX6_run_41 : decode cX6_run 41 = .ok (.aload_n 0, 1) := by decide +kernel
theorem dX6_run_42 : decode cX6_run 42 = .ok (.aload_n 1, 1) := by decide +kernel
theorem dX6_run_43 : decode cX6_run 43 = .ok (.invokevirtual 56, 3) := by decide +kernel
theorem dX6_run_46 : decode cX6_run 46 = .ok (.ifCond .eq 23, 3) := by decide +kernel
theorem dX6_run_49 : decode cX6_run 49 = .ok (.aload_n 0, 1) := by decide +kernel
theorem dX6_run_50 : decode cX6_run 50 = .ok (.aload_n 0, 1) := by decide +kernel
theorem dX6_run_51 : decode cX6_run 51 = .ok (.getfield 15, 3) := by decide +kernel
theorem dX6_run_54 : decode cX6_run 54 = .ok (.iconst 0, 1) := by decide +kernel
theorem dX6_run_55 : decode cX6_run 55 = .ok (.iaload, 1) := by decide +kernel
theorem dX6_run_56 : decode cX6_run 56 = .ok (.invokevirtual 60, 3) := by decide +kernel
theorem dX6_run_59 : decode cX6_run 59 = .ok (.ifCond .ne 10, 3) := by decide +kernel
theorem dX6_run_62 : decode cX6_run 62 = .ok (.aload_n 0, 1) := by decide +kernel
theorem dX6_run_63 : decode cX6_run 63 = .ok (.aload_n 1, 1) := by decide +kernel
theorem dX6_run_64 : decode cX6_run 64 = .ok (.iconst 0, 1) := by decide +kernel
theorem dX6_run_65 : decode cX6_run 65 = .ok (.iconst 0, 1) := by decide +kernel
theorem dX6_run_66 : decode cX6_run 66 = .ok (.invokestatic 64, 3) := by decide +kernel
theorem dX6_run_69 : decode cX6_run 69 = .ok (.iinc 4 1, 3) := by decide +kernel
theorem dX6_run_72 : decode cX6_run 72 = .ok (.goto (-50), 3) := by decide +kernel
theorem dX6_run_75 : decode cX6_run 75 = .ok (.aload_n 0, 1) := by decide +kernel
theorem dX6_run_76 : decode cX6_run 76 = .ok (.getfield 45, 3) := by decide +kernel
theorem dX6_run_79 : decode cX6_run 79 = .ok (.ireturn, 1) := by decide +kernel
def F_X6_run_22 (p1 : Nat) (K22 : Int32 → Int32 → Mm → Prop) (q : Int32 → Mm → Prop) (x3 : Int32) (x4 : Int32) (μ : Mm) : Prop :=
  ((x3 ≤ x4 → q (μ p_SE 8) μ) ∧ (¬ (x3 ≤ x4) → Wp_X1_take p_CS p1 x4 μ (fun b2 μ1 => (((bI b2) = 0 → K22 x3 (x4 + (1 : Int32)) μ1) ∧ (¬ ((bI b2) = 0) → Wp_X6_findFloors p1 μ1 (fun b4 μ3 => (((bI b4) = 0 → K22 x3 (x4 + (1 : Int32)) μ3) ∧ (¬ ((bI b4) = 0) → vp_in (0 : Int32) 4 ∧ Wp_X6_isCut (μ3 p_SE_floors ((0 : Int32)).toNatClampNeg) μ3 (fun b6 μ5 => ((¬ ((bI b6) = 0) → K22 x3 (x4 + (1 : Int32)) μ5) ∧ ((bI b6) = 0 → Wp_X6_chooseWays 4 p1 (0 : Int32) (0 : Int32) μ5 (fun μ7 => K22 x3 (x4 + (1 : Int32)) μ7))))))))))))
def F_X6_run_e (p1 : Nat) (K22 : Int32 → Int32 → Mm → Prop) (q : Int32 → Mm → Prop) (x2 : Int32) (μ : Mm) : Prop :=
  Wp_X1_prepare p_CS p1 (up2 (up2 μ p_SE 7 x2) p_SE 8 (-1 : Int32)) (fun z2 μ1 => K22 z2 (0 : Int32) μ1)
def Wp_X6_run (p1 : Nat) (x2 : Int32) (μ : Mm) (q : Int32 → Mm → Prop) : Prop := ∀ (K22 : Int32 → Int32 → Mm → Prop), (∀ (x3 : Int32) (x4 : Int32) (μ : Mm), F_X6_run_22 p1 K22 q x3 x4 μ → K22 x3 x4 μ) → F_X6_run_e p1 K22 q x2 μ
abbrev KK_X6_run_22 (g : GE) (f : FE) (p1 : Nat) : Int32 → Int32 → Mm → Prop := fun x3 x4 μ => KW g f 5 0 0 22 [some (.ref p_SE), some (.ref p1), none, some (.int x3), some (.int x4)] [] μ
set_option maxHeartbeats 2000000 in
theorem b_X6_run_22 {p1 : Nat} (h_p1 : isReq p1) {g : GE} {f : FE} {q : Int32 → Mm → Prop} (cx : Cx g f cX6_run 5 RX6 7 194 0 0) (hr : (f_M f).sig.returnType = (some .int)) (hl : (f_M f).locks = false) (hQ : f_Q f = MQ (f_b f) (QW g (qI q)) (f_a f) (f_s f) 0 0 (fun q => g.2.2.2.1 ≤ q))  {x3 : Int32} {x4 : Int32} {μ : Mm} (h : F_X6_run_22 p1 (KK_X6_run_22 g f p1) q x3 x4 μ) : KK_X6_run_22 g f p1 x3 x4 μ := by
  unfold F_X6_run_22 at h
  show KW g f 5 0 0 22 [some (.ref p_SE), some (.ref p1), none, some (.int x3), some (.int x4)] [] μ
  refine k_iload cx dX6_run_22 rfl ?_
  refine k_iload_n cx dX6_run_24 rfl rfl ?_
  refine k_icmp_ge (tgt := 75) cx dX6_run_25 (by decide) (fun hc => ?_) (fun hc => ?_)
  · replace h := h.1 hc
    refine k_aload_n cx dX6_run_75 rfl rfl ?_
    refine k_get (o := none) (v := .int (μ p_SE 8)) cx fl_X6_45 ob_SE rfl rfl dX6_run_76 ?_
    exact k_ret_I cx hr hl hQ dX6_run_79 h
  · replace h := h.2 hc
    refine k_aload_n cx dX6_run_28 rfl rfl ?_
    refine k_get (o := some p_CS) (v := .ref p_CS) cx fl_X6_37 ob_SE rfl rfl dX6_run_29 ?_
    refine k_aload_n cx dX6_run_32 rfl rfl ?_
    refine k_iload cx dX6_run_33 rfl ?_
    refine k_callV (As := [.ref p1, .int x4]) (rest := []) cx (m_X1_take ch_CS h_p1 h) cv_X6_52 (ob_CH ch_CS) rfl rfl rfl rfl (Nat.le_of_ble_eq_true rfl) ⟨Nat.le_of_ble_eq_true rfl, Nat.le_of_ble_eq_true rfl⟩ dX6_run_35 (fun v μ1 hq => ?_)
    obtain ⟨b2, rfl, h⟩ := hq
    refine k_if_eq (tgt := 69) cx dX6_run_38 (by decide) (fun hc => ?_) (fun hc => ?_)
    · replace h := h.1 hc
      refine k_iinc (v := (x4 + (1 : Int32))) cx dX6_run_69 rfl rfl (by decide) ?_
      refine k_goto (tgt := 22) cx dX6_run_72 (by decide) ?_
      exact k_weak h (lsLe.keep (lsLe.keep (lsLe.keep (lsLe.keep (lsLe.keep lsLe.nil)))))
    · replace h := h.2 hc
      refine k_aload_n cx dX6_run_41 rfl rfl ?_
      refine k_aload_n cx dX6_run_42 rfl rfl ?_
      refine k_callV (As := [.ref p1]) (rest := []) cx (m_X6_findFloors h_p1 h) cv_X6_56 ob_SE rfl rfl rfl rfl (Nat.le_of_ble_eq_true rfl) ⟨Nat.le_of_ble_eq_true rfl, Nat.le_of_ble_eq_true rfl⟩ dX6_run_43 (fun v μ3 hq => ?_)
      obtain ⟨b4, rfl, h⟩ := hq
      refine k_if_eq (tgt := 69) cx dX6_run_46 (by decide) (fun hc => ?_) (fun hc => ?_)
      · replace h := h.1 hc
        refine k_iinc (v := (x4 + (1 : Int32))) cx dX6_run_69 rfl rfl (by decide) ?_
        refine k_goto (tgt := 22) cx dX6_run_72 (by decide) ?_
        exact k_weak h (lsLe.keep (lsLe.keep (lsLe.keep (lsLe.keep (lsLe.keep lsLe.nil)))))
      · replace h := h.2 hc
        refine k_aload_n cx dX6_run_49 rfl rfl ?_
        refine k_aload_n cx dX6_run_50 rfl rfl ?_
        refine k_get (o := some p_SE_floors) (v := .ref p_SE_floors) cx fl_X6_15 ob_SE rfl rfl dX6_run_51 ?_
        refine k_iconst (v := (0 : Int32)) cx dX6_run_54 (by decide +kernel) ?_
        obtain ⟨hi, h⟩ := h
        refine k_iald cx ar_SE_floors hi dX6_run_55 ?_
        refine k_callV (As := [.int (μ3 p_SE_floors ((0 : Int32)).toNatClampNeg)]) (rest := []) cx (m_X6_isCut h) cv_X6_60 ob_SE rfl rfl rfl rfl (Nat.le_of_ble_eq_true rfl) ⟨Nat.le_of_ble_eq_true rfl, Nat.le_of_ble_eq_true rfl⟩ dX6_run_56 (fun v μ5 hq => ?_)
        obtain ⟨b6, rfl, h⟩ := hq
        refine k_if_ne (tgt := 69) cx dX6_run_59 (by decide) (fun hc => ?_) (fun hc => ?_)
        · replace h := h.1 hc
          refine k_iinc (v := (x4 + (1 : Int32))) cx dX6_run_69 rfl rfl (by decide) ?_
          refine k_goto (tgt := 22) cx dX6_run_72 (by decide) ?_
          exact k_weak h (lsLe.keep (lsLe.keep (lsLe.keep (lsLe.keep (lsLe.keep lsLe.nil)))))
        · replace h := h.2 hc
          refine k_aload_n cx dX6_run_62 rfl rfl ?_
          refine k_aload_n cx dX6_run_63 rfl rfl ?_
          refine k_iconst (v := (0 : Int32)) cx dX6_run_64 (by decide +kernel) ?_
          refine k_iconst (v := (0 : Int32)) cx dX6_run_65 (by decide +kernel) ?_
          refine k_callS (As := [.ref p_SE, .ref p1, .int (0 : Int32), .int (0 : Int32)]) (rest := []) cx (m_X6_chooseWays 4 _ _ _ _ _ h_p1 h) cv_X6_64 rfl rfl (Nat.le_of_ble_eq_true rfl) ⟨Nat.le_of_ble_eq_true rfl, Nat.le_of_ble_eq_true rfl⟩ dX6_run_66 (fun v μ7 hq => ?_)
          obtain ⟨rfl, h⟩ := hq
          refine k_iinc (v := (x4 + (1 : Int32))) cx dX6_run_69 rfl rfl (by decide) ?_
          refine k_goto (tgt := 22) cx dX6_run_72 (by decide) ?_
          exact k_weak h (lsLe.keep (lsLe.keep (lsLe.keep (lsLe.keep (lsLe.keep lsLe.nil)))))
set_option maxHeartbeats 2000000 in
theorem b_X6_run_e {p1 : Nat} (h_p1 : isReq p1) {g : GE} {f : FE} {q : Int32 → Mm → Prop} (cx : Cx g f cX6_run 5 RX6 7 194 0 0) (hr : (f_M f).sig.returnType = (some .int)) (hl : (f_M f).locks = false) (hQ : f_Q f = MQ (f_b f) (QW g (qI q)) (f_a f) (f_s f) 0 0 (fun q => g.2.2.2.1 ≤ q))  {x2 : Int32} {μ : Mm} (h : F_X6_run_e p1 (KK_X6_run_22 g f p1) q x2 μ) : KW g f 5 0 0 0 [some (.ref p_SE), some (.ref p1), some (.int x2), none, none] [] μ := by
  unfold F_X6_run_e at h
  refine k_aload_n cx dX6_run_0 rfl rfl ?_
  refine k_iload_n cx dX6_run_1 rfl rfl ?_
  refine k_put cx fp_X6_41 ob_SE rfl rfl rfl dX6_run_2 ?_
  refine k_aload_n cx dX6_run_5 rfl rfl ?_
  refine k_iconst (v := (-1 : Int32)) cx dX6_run_6 (by decide +kernel) ?_
  refine k_put cx fp_X6_45 ob_SE rfl rfl rfl dX6_run_7 ?_
  refine k_aload_n cx dX6_run_10 rfl rfl ?_
  refine k_get (o := some p_CS) (v := .ref p_CS) cx fl_X6_37 ob_SE rfl rfl dX6_run_11 ?_
  refine k_aload_n cx dX6_run_14 rfl rfl ?_
  refine k_callV (As := [.ref p1]) (rest := []) cx (m_X1_prepare ch_CS h_p1 h) cv_X6_48 (ob_CH ch_CS) rfl rfl rfl rfl (Nat.le_of_ble_eq_true rfl) ⟨Nat.le_of_ble_eq_true rfl, Nat.le_of_ble_eq_true rfl⟩ dX6_run_15 (fun v μ1 hq => ?_)
  obtain ⟨z2, rfl, h⟩ := hq
  refine k_istore_n cx dX6_run_18 rfl (by decide) ?_
  refine k_iconst (v := (0 : Int32)) cx dX6_run_19 (by decide +kernel) ?_
  refine k_istore cx dX6_run_20 (by decide) ?_
  exact k_weak h (lsLe.keep (lsLe.keep (lsLe.drop (lsLe.keep (lsLe.keep lsLe.nil)))))
theorem m_X6_run {g : GE} {l : Launch} {μ : Mm} {q : Int32 → Mm → Prop} {p1 : Nat} {x2 : Int32} (h_p1 : isReq p1) (h : Wp_X6_run p1 x2 μ q) : MW g l yX6_run cX6_run 5 (some .int) 7 194 [.ref p_SE, .ref p1, .int x2] μ (qI q) := by
  refine met_of (by decide) (Nat.le_of_ble_eq_true rfl) (by intro v hv; simp only [List.mem_cons, List.not_mem_nil, or_false] at hv; rcases hv with rfl | rfl | rfl <;> rfl) ?_
  intro f hfl cx hr hl hQ
  exact b_X6_run_e h_p1 cx hr hl hQ (h (KK_X6_run_22 g f p1) (fun _ _ _ h => b_X6_run_22 h_p1 cx hr hl hQ h))
