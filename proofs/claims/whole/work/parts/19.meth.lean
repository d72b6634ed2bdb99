theorem dX8_ofNode_0 : decode cX8_ofNode 0 = .ok (.aload_n 0, 1) := by decide +kernel
theorem dX8_ofNode_1 : decode cX8_ofNode 1 = .ok (.aload_n 0, 1) := by decide +kernel
theorem dX8_ofNode_2 : decode cX8_ofNode 2 = .ok (.iload_n 1, 1) := by decide +kernel
theorem dX8_ofNode_3 : decode cX8_ofNode 3 = .ok (.invokevirtual 125, 3) := by decide +kernel
theorem dX8_ofNode_6 : decode cX8_ofNode 6 = .ok (.ifCond .ne 7, 3) := by decide +kernel
theorem dX8_ofNode_9 : decode cX8_ofNode 9 = .ok (.iconst 1, 1) := by decide +kernel
theorem dX8_ofNode_10 : decode cX8_ofNode 10 = .ok (.goto 17, 3) := by decide +kernel
theorem dX8_ofNode_13 : decode cX8_ofNode 13 = .ok (.iload_n 2, 1) := by decide +kernel
theorem dX8_ofNode_14 : decode cX8_ofNode 14 = .ok (.iconst 0, 1) := by decide +kernel
theorem dX8_ofNode_15 : decode cX8_ofNode 15 = .ok (.iconst 1, 1) := by decide +kernel
theorem dX8_ofNode_16 : decode cX8_ofNode 16 = .ok (.invokestatic 111, 3) := by decide +kernel
theorem dX8_ofNode_19 : decode cX8_ofNode 19 = .ok (.ifCond .eq 7, 3) := by decide +kernel
theorem dX8_ofNode_22 : decode cX8_ofNode 22 = .ok (.iconst 0, 1) := by decide +kernel
theorem dX8_ofNode_23 : decode cX8_ofNode 23 = .ok (.goto 4, 3) := by decide +kernel
theorem dX8_ofNode_26 : decode cX8_ofNode 26 = .ok (.iconst 2, 1) := by decide +kernel
theorem dX8_ofNode_27 : decode cX8_ofNode 27 = .ok (.invokevirtual 121, 3) := by decide +kernel
theorem dX8_ofNode_30 : decode cX8_ofNode 30 = .ok (.ifCond .ne 5, 3) := by decide +kernel
theorem dX8_ofNode_33 : decode cX8_ofNode 33 = .ok (.iconst 0, 1) := by decide +kernel
theorem dX8_ofNode_34 : decode cX8_ofNode 34 = .ok (.ireturn, 1) := by decide +kernel
theorem dX8_ofNode_35 : decode cX8_ofNode 35 = .ok (.iconst 0, 1) := by decide +kernel
theorem dX8_ofNode_36 : decode cX8_ofNode 36 = .ok (.istore_n 3, 1) := by decide +kernel
theorem dX8_ofNode_37 : decode cX8_ofNode 37 = .ok (.iconst 0, 1) := by decide +kernel
theorem dX8_ofNode_38 : decode cX8_ofNode 38 = .ok (.istore 4, 2) := by decide +kernel
theorem dX8_ofNode_40 : decode cX8_ofNode 40 = .ok (.iload 4, 2) := by decide +kernel
theorem dX8_ofNode_42 : decode cX8_ofNode 42 = .ok (.iconst 3, 1) := by decide +kernel
theorem dX8_ofNode_43 : decode cX8_ofNode 43 = .ok (.aload_n 0, 1) := by decide +kernel
theorem dX8_ofNode_44 : decode cX8_ofNode 44 = .ok (.getfield 118, 3) := by decide +kernel
theorem dX8_ofNode_47 : decode cX8_ofNode 47 = .ok (.imul, 1) := by decide +kernel
theorem dX8_ofNode_48 : decode cX8_ofNode 48 = .ok (.if_icmp .ge 56, 3) := by decide +kernel
theorem dX8_ofNode_51 : decode cX8_ofNode 51 = .ok (.iload_n 3, 1) := by decide +kernel
theorem dX8_ofNode_52 : decode cX8_ofNode 52 = .ok (.aload_n 0, 1) := by decide +kernel
theorem dX8_ofNode_53 : decode cX8_ofNode 53 = .ok (.getfield 62, 3) := by decide +kernel
theorem dX8_ofNode_56 : decode cX8_ofNode 56 = .ok (.iload 4, 2) := by decide +kernel
theorem dX8_ofNode_58 : decode cX8_ofNode 58 = .ok (.iconst 3, 1) := by decide +kernel
theorem dX8_ofNode_59 : decode cX8_ofNode 59 = .ok (.idiv, 1) := by decide +kernel
theorem dX8_ofNode_60 : decode cX8_ofNode 60 = .ok (.baload, 1) := by decide +kernel
theorem dX8_ofNode_61 : decode cX8_ofNode 61 = .ok (.ifCond .ne 34, 3) := by decide +kernel
theorem dX8_ofNode_64 : decode cX8_ofNode 64 = .ok (.iload 4, 2) := by decide +kernel
theorem dX8_ofNode_66 : decode cX8_ofNode 66 = .ok (.iconst 3, 1) := by decide +kernel
theorem dX8_ofNode_67 : decode cX8_ofNode 67 = .ok (.irem, 1) := by decide +kernel
theorem dX8_ofNode_68 : decode cX8_ofNode 68 = .ok (.aload_n 0, 1) := by decide +kernel
theorem dX8_ofNode_69 : decode cX8_ofNode 69 = .ok (.getfield 26, 3) := by decide +kernel
theorem dX8_ofNode_72 : decode cX8_ofNode 72 = .ok (.iload 4, 2) := by decide +kernel
theorem dX8_ofNode_74 : decode cX8_ofNode 74 = .ok (.iconst 3, 1) := by decide +kernel
theorem dX8_ofNode_75 : decode cX8_ofNode 75 = .ok (.idiv, 1) := by decide +kernel
theorem dX8_ofNode_76 : decode cX8_ofNode 76 = .ok (.iaload, 1) := by decide +kernel
theorem dX8_ofNode_77 : decode cX8_ofNode 77 = .ok (.if_icmp .ge 18, 3) := by decide +kernel
theorem dX8_ofNode_80 : decode cX8_ofNode 80 = .ok (.aload_n 0, 1) := by decide +kernel
theorem dX8_ofNode_81 : decode cX8_ofNode 81 = .ok (.getfield 38, 3) := by decide +kernel
theorem dX8_ofNode_84 : decode cX8_ofNode 84 = .ok (.iload 4, 2) := by decide +kernel
theorem dX8_ofNode_86 : decode cX8_ofNode 86 = .ok (.iaload, 1) := by decide +kernel
theorem dX8_ofNode_87 : decode cX8_ofNode 87 = .ok (.iload_n 1, 1) := by decide +kernel
theorem dX8_ofNode_88 : decode cX8_ofNode 88 = .ok (.if_icmp .ne 7, 3) := by decide +kernel
theorem dX8_ofNode_91 : decode cX8_ofNode 91 = .ok (.iconst 1, 1) := by decide +kernel
theorem dX8_ofNode_92 : decode cX8_ofNode 92 = .ok (.goto 4, 3) := by decide +kernel
theorem dX8_ofNode_95 : decode cX8_ofNode 95 = .ok (.iconst 0, 1) := by decide +kernel
theorem dX8_ofNode_96 : decode cX8_ofNode 96 = .ok (.iadd, 1) := by decide +kernel
theorem dX8_ofNode_97 : decode cX8_ofNode 97 = .ok (.istore_n 3, 1) := by decide +kernel
theorem dX8_ofNode_98 : decode cX8_ofNode 98 = .ok (.iinc 4 1, 3) := by decide +kernel
theorem dX8_ofNode_101 : decode cX8_ofNode 101 = .ok (.goto (-61), 3) := by decide +kernel
theorem dX8_ofNode_104 : decode cX8_ofNode 104 = .ok (.iload_n 2, 1) := by decide +kernel
theorem dX8_ofNode_105 : decode cX8_ofNode 105 = .ok (.ifCond .ne 18, 3) := by decide +kernel
theorem dX8_ofNode_108 : decode cX8_ofNode 108 = .ok (.aload_n 0, 1) := by decide +kernel
theorem dX8_ofNode_109 : decode cX8_ofNode 109 = .ok (.getfield 7, 3) := by decide +kernel
theorem dX8_ofNode_112 : decode cX8_ofNode 112 = .ok (.iload_n 1, 1) := by decide +kernel
theorem dX8_ofNode_113 : decode cX8_ofNode 113 = .ok (.iaload, 1) := by decide +kernel
theorem dX8_ofNode_114 : decode cX8_ofNode 114 = .ok (.aload_n 0, 1) := by decide +kernel
theorem dX8_ofNode_115 : decode cX8_ofNode 115 = .ok (.iload_n 1, 1) := by decide +kernel
theorem dX8_ofNode_116 : decode cX8_ofNode 116 = .ok (.invokevirtual 143, 3) := by decide +kernel
theorem dX8_ofNode_119 : decode cX8_ofNode 119 = .ok (.isub, 1) := by decide +kernel
theorem dX8_ofNode_120 : decode cX8_ofNode 120 = .ok (.goto 4, 3) := by decide +kernel
theorem dX8_ofNode_123 : decode cX8_ofNode 123 = .ok (.iload_n 3, 1) := by decide +kernel
theorem dX8_ofNode_124 : decode cX8_ofNode 124 = .ok (.ireturn, 1) := by decide +kernel
def F_X8_ofNode_27  (K27 : Int32 → Int32 → Int32 → Mm → Prop) (K40 : Int32 → Int32 → Int32 → Int32 → Mm → Prop) (q : Int32 → Mm → Prop) (x1 : Int32) (x2 : Int32) (y0 : Int32) (μ : Mm) : Prop :=
  Wp_X8_can y0 μ (fun b2 μ1 => ((¬ ((bI b2) = 0) → K40 x1 x2 (0 : Int32) (0 : Int32) μ1) ∧ ((bI b2) = 0 → q (0 : Int32) μ1)))
def F_X8_ofNode_40  (K27 : Int32 → Int32 → Int32 → Mm → Prop) (K40 : Int32 → Int32 → Int32 → Int32 → Mm → Prop) (q : Int32 → Mm → Prop) (x1 : Int32) (x2 : Int32) (x3 : Int32) (x4 : Int32) (μ : Mm) : Prop :=
  ((((3 : Int32) * (μ p_MO 8)) ≤ x4 → ((¬ (x2 = 0) → q x3 μ) ∧ (x2 = 0 → vp_in x1 6 ∧ Wp_X8_needsAt x1 μ (fun z2 μ1 => q ((μ p_MO_nodeRoom (x1).toNatClampNeg) - z2) μ1)))) ∧ (¬ (((3 : Int32) * (μ p_MO 8)) ≤ x4) → vp_in (x4 / (3 : Int32)) 13 ∧ ((¬ ((μ p_MO_hasEnded ((x4 / (3 : Int32))).toNatClampNeg) = 0) → K40 x1 x2 (x3 + (0 : Int32)) (x4 + (1 : Int32)) μ) ∧ ((μ p_MO_hasEnded ((x4 / (3 : Int32))).toNatClampNeg) = 0 → vp_in (x4 / (3 : Int32)) 13 ∧ (((μ p_MO_parts ((x4 / (3 : Int32))).toNatClampNeg) ≤ (x4 - x4 / (3 : Int32) * (3 : Int32)) → K40 x1 x2 (x3 + (0 : Int32)) (x4 + (1 : Int32)) μ) ∧ (¬ ((μ p_MO_parts ((x4 / (3 : Int32))).toNatClampNeg) ≤ (x4 - x4 / (3 : Int32) * (3 : Int32))) → vp_in x4 39 ∧ ((¬ ((μ p_MO_at (x4).toNatClampNeg) = x1) → K40 x1 x2 (x3 + (0 : Int32)) (x4 + (1 : Int32)) μ) ∧ ((μ p_MO_at (x4).toNatClampNeg) = x1 → K40 x1 x2 (x3 + (1 : Int32)) (x4 + (1 : Int32)) μ))))))))
def F_X8_ofNode_e  (K27 : Int32 → Int32 → Int32 → Mm → Prop) (K40 : Int32 → Int32 → Int32 → Int32 → Mm → Prop) (q : Int32 → Mm → Prop) (x1 : Int32) (x2 : Int32) (μ : Mm) : Prop :=
  Wp_X8_isNode x1 μ (fun b2 μ1 => ((¬ ((bI b2) = 0) → Wp_X8_isIn x2 (0 : Int32) (1 : Int32) μ1 (fun b4 μ3 => (((bI b4) = 0 → K27 x1 x2 (2 : Int32) μ3) ∧ (¬ ((bI b4) = 0) → K27 x1 x2 (0 : Int32) μ3)))) ∧ ((bI b2) = 0 → K27 x1 x2 (1 : Int32) μ1)))
def Wp_X8_ofNode  (x1 : Int32) (x2 : Int32) (μ : Mm) (q : Int32 → Mm → Prop) : Prop := ∀ (K27 : Int32 → Int32 → Int32 → Mm → Prop) (K40 : Int32 → Int32 → Int32 → Int32 → Mm → Prop), (∀ (x1 : Int32) (x2 : Int32) (y0 : Int32) (μ : Mm), F_X8_ofNode_27  K27 K40 q x1 x2 y0 μ → K27 x1 x2 y0 μ) → (∀ (x1 : Int32) (x2 : Int32) (x3 : Int32) (x4 : Int32) (μ : Mm), F_X8_ofNode_40  K27 K40 q x1 x2 x3 x4 μ → K40 x1 x2 x3 x4 μ) → F_X8_ofNode_e  K27 K40 q x1 x2 μ
abbrev KK_X8_ofNode_27 (g : GE) (f : FE)  : Int32 → Int32 → Int32 → Mm → Prop := fun x1 x2 y0 μ => KW g f 5 0 0 27 [some (.ref p_MO), some (.int x1), some (.int x2), none, none] [.int y0, .ref p_MO] μ
abbrev KK_X8_ofNode_40 (g : GE) (f : FE)  : Int32 → Int32 → Int32 → Int32 → Mm → Prop := fun x1 x2 x3 x4 μ => KW g f 5 0 0 40 [some (.ref p_MO), some (.int x1), some (.int x2), some (.int x3), some (.int x4)] [] μ
set_option maxHeartbeats 2000000 in
theorem b_X8_ofNode_27  {g : GE} {f : FE} {q : Int32 → Mm → Prop} (cx : Cx g f cX8_ofNode 5 RX8 2 43 0 0) (hr : (f_M f).sig.returnType = (some .int)) (hl : (f_M f).locks = false) (hQ : f_Q f = MQ (f_b f) (QW g (qI q)) (f_a f) (f_s f) 0 0 (fun q => g.2.2.2 ≤ q))  {x1 : Int32} {x2 : Int32} {y0 : Int32} {μ : Mm} (h : F_X8_ofNode_27  (KK_X8_ofNode_27 g f ) (KK_X8_ofNode_40 g f ) q x1 x2 y0 μ) : KK_X8_ofNode_27 g f  x1 x2 y0 μ := by
  unfold F_X8_ofNode_27 at h
  show KW g f 5 0 0 27 [some (.ref p_MO), some (.int x1), some (.int x2), none, none] [.int y0, .ref p_MO] μ
  refine k_callV (As := [.int y0]) (rest := []) cx (m_X8_can h) cv_X8_121 ob_MO rfl rfl rfl rfl (Nat.le_of_ble_eq_true rfl) ⟨Nat.le_of_ble_eq_true rfl, Nat.le_of_ble_eq_true rfl⟩ dX8_ofNode_27 (fun v μ1 hq => ?_)
  obtain ⟨b2, rfl, h⟩ := hq
  refine k_if_ne (tgt := 35) cx dX8_ofNode_30 (by decide) (fun hc => ?_) (fun hc => ?_)
  · replace h := h.1 hc
    refine k_iconst (v := (0 : Int32)) cx dX8_ofNode_35 (by decide +kernel) ?_
    refine k_istore_n cx dX8_ofNode_36 rfl (by decide) ?_
    refine k_iconst (v := (0 : Int32)) cx dX8_ofNode_37 (by decide +kernel) ?_
    refine k_istore cx dX8_ofNode_38 (by decide) ?_
    exact k_weak h (lsLe.keep (lsLe.keep (lsLe.keep (lsLe.keep (lsLe.keep lsLe.nil)))))
  · replace h := h.2 hc
    refine k_iconst (v := (0 : Int32)) cx dX8_ofNode_33 (by decide +kernel) ?_
    exact k_ret_I cx hr hl hQ dX8_ofNode_34 h
set_option maxHeartbeats 2000000 in
theorem b_X8_ofNode_40  {g : GE} {f : FE} {q : Int32 → Mm → Prop} (cx : Cx g f cX8_ofNode 5 RX8 2 43 0 0) (hr : (f_M f).sig.returnType = (some .int)) (hl : (f_M f).locks = false) (hQ : f_Q f = MQ (f_b f) (QW g (qI q)) (f_a f) (f_s f) 0 0 (fun q => g.2.2.2 ≤ q))  {x1 : Int32} {x2 : Int32} {x3 : Int32} {x4 : Int32} {μ : Mm} (h : F_X8_ofNode_40  (KK_X8_ofNode_27 g f ) (KK_X8_ofNode_40 g f ) q x1 x2 x3 x4 μ) : KK_X8_ofNode_40 g f  x1 x2 x3 x4 μ := by
  unfold F_X8_ofNode_40 at h
  show KW g f 5 0 0 40 [some (.ref p_MO), some (.int x1), some (.int x2), some (.int x3), some (.int x4)] [] μ
  refine k_iload cx dX8_ofNode_40 rfl ?_
  refine k_iconst (v := (3 : Int32)) cx dX8_ofNode_42 (by decide +kernel) ?_
  refine k_aload_n cx dX8_ofNode_43 rfl rfl ?_
  refine k_get (o := none) (v := .int (μ p_MO 8)) cx fl_X8_118 ob_MO rfl rfl dX8_ofNode_44 ?_
  refine k_imul cx dX8_ofNode_47 ?_
  refine k_icmp_ge (tgt := 104) cx dX8_ofNode_48 (by decide) (fun hc => ?_) (fun hc => ?_)
  · replace h := h.1 hc
    refine k_iload_n cx dX8_ofNode_104 rfl rfl ?_
    refine k_if_ne (tgt := 123) cx dX8_ofNode_105 (by decide) (fun hc => ?_) (fun hc => ?_)
    · replace h := h.1 hc
      refine k_iload_n cx dX8_ofNode_123 rfl rfl ?_
      exact k_ret_I cx hr hl hQ dX8_ofNode_124 h
    · replace h := h.2 hc
      refine k_aload_n cx dX8_ofNode_108 rfl rfl ?_
      refine k_get (o := some p_MO_nodeRoom) (v := .ref p_MO_nodeRoom) cx fl_X8_7 ob_MO rfl rfl dX8_ofNode_109 ?_
      refine k_iload_n cx dX8_ofNode_112 rfl rfl ?_
      obtain ⟨hi, h⟩ := h
      refine k_iald cx ar_MO_nodeRoom hi dX8_ofNode_113 ?_
      refine k_aload_n cx dX8_ofNode_114 rfl rfl ?_
      refine k_iload_n cx dX8_ofNode_115 rfl rfl ?_
      refine k_callV (As := [.int x1]) (rest := [.int (μ p_MO_nodeRoom (x1).toNatClampNeg)]) cx (m_X8_needsAt h) cv_X8_143 ob_MO rfl rfl rfl rfl (Nat.le_of_ble_eq_true rfl) ⟨Nat.le_of_ble_eq_true rfl, Nat.le_of_ble_eq_true rfl⟩ dX8_ofNode_116 (fun v μ1 hq => ?_)
      obtain ⟨z2, rfl, h⟩ := hq
      refine k_isub cx dX8_ofNode_119 ?_
      refine k_goto (tgt := 124) cx dX8_ofNode_120 (by decide) ?_
      exact k_ret_I cx hr hl hQ dX8_ofNode_124 h
  · replace h := h.2 hc
    refine k_iload_n cx dX8_ofNode_51 rfl rfl ?_
    refine k_aload_n cx dX8_ofNode_52 rfl rfl ?_
    refine k_get (o := some p_MO_hasEnded) (v := .ref p_MO_hasEnded) cx fl_X8_62 ob_MO rfl rfl dX8_ofNode_53 ?_
    refine k_iload cx dX8_ofNode_56 rfl ?_
    refine k_iconst (v := (3 : Int32)) cx dX8_ofNode_58 (by decide +kernel) ?_
    refine k_idiv cx dX8_ofNode_59 (by decide) ?_
    obtain ⟨hi, h⟩ := h
    refine k_zald cx ar_MO_hasEnded hi dX8_ofNode_60 ?_
    refine k_if_ne (tgt := 95) cx dX8_ofNode_61 (by decide) (fun hc => ?_) (fun hc => ?_)
    · replace h := h.1 hc
      refine k_iconst (v := (0 : Int32)) cx dX8_ofNode_95 (by decide +kernel) ?_
      refine k_iadd cx dX8_ofNode_96 ?_
      refine k_istore_n cx dX8_ofNode_97 rfl (by decide) ?_
      refine k_iinc (v := (x4 + (1 : Int32))) cx dX8_ofNode_98 rfl rfl (by decide) ?_
      refine k_goto (tgt := 40) cx dX8_ofNode_101 (by decide) ?_
      exact k_weak h (lsLe.keep (lsLe.keep (lsLe.keep (lsLe.keep (lsLe.keep lsLe.nil)))))
    · replace h := h.2 hc
      refine k_iload cx dX8_ofNode_64 rfl ?_
      refine k_iconst (v := (3 : Int32)) cx dX8_ofNode_66 (by decide +kernel) ?_
      refine k_irem cx dX8_ofNode_67 (by decide) ?_
      refine k_aload_n cx dX8_ofNode_68 rfl rfl ?_
      refine k_get (o := some p_MO_parts) (v := .ref p_MO_parts) cx fl_X8_26 ob_MO rfl rfl dX8_ofNode_69 ?_
      refine k_iload cx dX8_ofNode_72 rfl ?_
      refine k_iconst (v := (3 : Int32)) cx dX8_ofNode_74 (by decide +kernel) ?_
      refine k_idiv cx dX8_ofNode_75 (by decide) ?_
      obtain ⟨hi, h⟩ := h
      refine k_iald cx ar_MO_parts hi dX8_ofNode_76 ?_
      refine k_icmp_ge (tgt := 95) cx dX8_ofNode_77 (by decide) (fun hc => ?_) (fun hc => ?_)
      · replace h := h.1 hc
        refine k_iconst (v := (0 : Int32)) cx dX8_ofNode_95 (by decide +kernel) ?_
        refine k_iadd cx dX8_ofNode_96 ?_
        refine k_istore_n cx dX8_ofNode_97 rfl (by decide) ?_
        refine k_iinc (v := (x4 + (1 : Int32))) cx dX8_ofNode_98 rfl rfl (by decide) ?_
        refine k_goto (tgt := 40) cx dX8_ofNode_101 (by decide) ?_
        exact k_weak h (lsLe.keep (lsLe.keep (lsLe.keep (lsLe.keep (lsLe.keep lsLe.nil)))))
      · replace h := h.2 hc
        refine k_aload_n cx dX8_ofNode_80 rfl rfl ?_
        refine k_get (o := some p_MO_at) (v := .ref p_MO_at) cx fl_X8_38 ob_MO rfl rfl dX8_ofNode_81 ?_
        refine k_iload cx dX8_ofNode_84 rfl ?_
        obtain ⟨hi, h⟩ := h
        refine k_iald cx ar_MO_at hi dX8_ofNode_86 ?_
        refine k_iload_n cx dX8_ofNode_87 rfl rfl ?_
        refine k_icmp_ne (tgt := 95) cx dX8_ofNode_88 (by decide) (fun hc => ?_) (fun hc => ?_)
        · replace h := h.1 hc
          refine k_iconst (v := (0 : Int32)) cx dX8_ofNode_95 (by decide +kernel) ?_
          refine k_iadd cx dX8_ofNode_96 ?_
          refine k_istore_n cx dX8_ofNode_97 rfl (by decide) ?_
          refine k_iinc (v := (x4 + (1 : Int32))) cx dX8_ofNode_98 rfl rfl (by decide) ?_
          refine k_goto (tgt := 40) cx dX8_ofNode_101 (by decide) ?_
          exact k_weak h (lsLe.keep (lsLe.keep (lsLe.keep (lsLe.keep (lsLe.keep lsLe.nil)))))
        · replace h := h.2 hc
          refine k_iconst (v := (1 : Int32)) cx dX8_ofNode_91 (by decide +kernel) ?_
          refine k_goto (tgt := 96) cx dX8_ofNode_92 (by decide) ?_
          refine k_iadd cx dX8_ofNode_96 ?_
          refine k_istore_n cx dX8_ofNode_97 rfl (by decide) ?_
          refine k_iinc (v := (x4 + (1 : Int32))) cx dX8_ofNode_98 rfl rfl (by decide) ?_
          refine k_goto (tgt := 40) cx dX8_ofNode_101 (by decide) ?_
          exact k_weak h (lsLe.keep (lsLe.keep (lsLe.keep (lsLe.keep (lsLe.keep lsLe.nil)))))
set_option maxHeartbeats 2000000 in
theorem b_X8_ofNode_e  {g : GE} {f : FE} {q : Int32 → Mm → Prop} (cx : Cx g f cX8_ofNode 5 RX8 2 43 0 0) (hr : (f_M f).sig.returnType = (some .int)) (hl : (f_M f).locks = false) (hQ : f_Q f = MQ (f_b f) (QW g (qI q)) (f_a f) (f_s f) 0 0 (fun q => g.2.2.2 ≤ q))  {x1 : Int32} {x2 : Int32} {μ : Mm} (h : F_X8_ofNode_e  (KK_X8_ofNode_27 g f ) (KK_X8_ofNode_40 g f ) q x1 x2 μ) : KW g f 5 0 0 0 [some (.ref p_MO), some (.int x1), some (.int x2), none, none] [] μ := by
  unfold F_X8_ofNode_e at h
  refine k_aload_n cx dX8_ofNode_0 rfl rfl ?_
  refine k_aload_n cx dX8_ofNode_1 rfl rfl ?_
  refine k_iload_n cx dX8_ofNode_2 rfl rfl ?_
  refine k_callV (As := [.int x1]) (rest := [.ref p_MO]) cx (m_X8_isNode h) cv_X8_125 ob_MO rfl rfl rfl rfl (Nat.le_of_ble_eq_true rfl) ⟨Nat.le_of_ble_eq_true rfl, Nat.le_of_ble_eq_true rfl⟩ dX8_ofNode_3 (fun v μ1 hq => ?_)
  obtain ⟨b2, rfl, h⟩ := hq
  refine k_if_ne (tgt := 13) cx dX8_ofNode_6 (by decide) (fun hc => ?_) (fun hc => ?_)
  · replace h := h.1 hc
    refine k_iload_n cx dX8_ofNode_13 rfl rfl ?_
    refine k_iconst (v := (0 : Int32)) cx dX8_ofNode_14 (by decide +kernel) ?_
    refine k_iconst (v := (1 : Int32)) cx dX8_ofNode_15 (by decide +kernel) ?_
    refine k_callS (As := [.int x2, .int (0 : Int32), .int (1 : Int32)]) (rest := [.ref p_MO]) cx (m_X8_isIn h) cv_X8_111 rfl rfl (Nat.le_of_ble_eq_true rfl) ⟨Nat.le_of_ble_eq_true rfl, Nat.le_of_ble_eq_true rfl⟩ dX8_ofNode_16 (fun v μ3 hq => ?_)
    obtain ⟨b4, rfl, h⟩ := hq
    refine k_if_eq (tgt := 26) cx dX8_ofNode_19 (by decide) (fun hc => ?_) (fun hc => ?_)
    · replace h := h.1 hc
      refine k_iconst (v := (2 : Int32)) cx dX8_ofNode_26 (by decide +kernel) ?_
      exact k_weak h (lsLe.keep (lsLe.keep (lsLe.keep (lsLe.keep (lsLe.keep lsLe.nil)))))
    · replace h := h.2 hc
      refine k_iconst (v := (0 : Int32)) cx dX8_ofNode_22 (by decide +kernel) ?_
      refine k_goto (tgt := 27) cx dX8_ofNode_23 (by decide) ?_
      exact k_weak h (lsLe.keep (lsLe.keep (lsLe.keep (lsLe.keep (lsLe.keep lsLe.nil)))))
  · replace h := h.2 hc
    refine k_iconst (v := (1 : Int32)) cx dX8_ofNode_9 (by decide +kernel) ?_
    refine k_goto (tgt := 27) cx dX8_ofNode_10 (by decide) ?_
    exact k_weak h (lsLe.keep (lsLe.keep (lsLe.keep (lsLe.keep (lsLe.keep lsLe.nil)))))
theorem m_X8_ofNode {g : GE} {l : Launch} {μ : Mm} {q : Int32 → Mm → Prop} {x1 : Int32} {x2 : Int32}  (h : Wp_X8_ofNode  x1 x2 μ q) : MW g l yX8_ofNode cX8_ofNode 5 (some .int) 2 43 [.ref p_MO, .int x1, .int x2] μ (qI q) := by
  refine met_of (by decide) (Nat.le_of_ble_eq_true rfl) (by intro v hv; simp only [List.mem_cons, List.not_mem_nil, or_false] at hv; rcases hv with rfl | rfl | rfl <;> rfl) ?_
  intro f hfl cx hr hl hQ
  exact b_X8_ofNode_e  cx hr hl hQ (h (KK_X8_ofNode_27 g f ) (KK_X8_ofNode_40 g f ) (fun _ _ _ _ h => b_X8_ofNode_27  cx hr hl hQ h) (fun _ _ _ _ _ h => b_X8_ofNode_40  cx hr hl hQ h))
theorem dX8_part_0 : decode cX8_part 0 = .ok (.aload_n 0, 1) := by decide +kernel
theorem dX8_part_1 : decode cX8_part 1 = .ok (.getfield 118, 3) := by decide +kernel
theorem dX8_part_4 : decode cX8_part 4 = .ok (.istore_n 3, 1) := by decide +kernel
theorem dX8_part_5 : decode cX8_part 5 = .ok (.aload_n 0, 1) := by decide +kernel
theorem dX8_part_6 : decode cX8_part 6 = .ok (.iload_n 1, 1) := by decide +kernel
theorem dX8_part_7 : decode cX8_part 7 = .ok (.iconst 1, 1) := by decide +kernel
theorem dX8_part_8 : decode cX8_part 8 = .ok (.bipush 20, 2) := by decide +kernel
theorem dX8_part_10 : decode cX8_part 10 = .ok (.invokestatic 111, 3) := by decide +kernel
theorem dX8_part_13 : decode cX8_part 13 = .ok (.ifCond .eq 13, 3) := by decide +kernel
theorem dX8_part_16 : decode cX8_part 16 = .ok (.iload_n 2, 1) := by decide +kernel
theorem dX8_part_17 : decode cX8_part 17 = .ok (.iconst 1, 1) := by decide +kernel
theorem dX8_part_18 : decode cX8_part 18 = .ok (.bipush 63, 2) := by decide +kernel
theorem dX8_part_20 : decode cX8_part 20 = .ok (.invokestatic 111, 3) := by decide +kernel
theorem dX8_part_23 : decode cX8_part 23 = .ok (.ifCond .ne 7, 3) := by decide +kernel
theorem dX8_part_26 : decode cX8_part 26 = .ok (.iconst 1, 1) := by decide +kernel
theorem dX8_part_27 : decode cX8_part 27 = .ok (.goto 18, 3) := by decide +kernel
theorem dX8_part_30 : decode cX8_part 30 = .ok (.aload_n 0, 1) := by decide +kernel
theorem dX8_part_31 : decode cX8_part 31 = .ok (.getfield 26, 3) := by decide +kernel
theorem dX8_part_34 : decode cX8_part 34 = .ok (.iload_n 3, 1) := by decide +kernel
theorem dX8_part_35 : decode cX8_part 35 = .ok (.iaload, 1) := by decide +kernel
theorem dX8_part_36 : decode cX8_part 36 = .ok (.iconst 3, 1) := by decide +kernel
theorem dX8_part_37 : decode cX8_part 37 = .ok (.if_icmp .ne 7, 3) := by decide +kernel
theorem dX8_part_40 : decode cX8_part 40 = .ok (.iconst 2, 1) := by decide +kernel
theorem dX8_part_41 : decode cX8_part 41 = .ok (.goto 4, 3) := by decide +kernel
theorem dX8_part_44 : decode cX8_part 44 = .ok (.iconst 0, 1) := by decide +kernel
theorem dX8_part_45 : decode cX8_part 45 = .ok (.invokevirtual 121, 3) := by decide +kernel
theorem dX8_part_48 : decode cX8_part 48 = .ok (.ifCond .ne 5, 3) := by decide +kernel
theorem dX8_part_51 : decode cX8_part 51 = .ok (.iconst 0, 1) := by decide +kernel
theorem dX8_part_52 : decode cX8_part 52 = .ok (.ireturn, 1) := by decide +kernel
theorem dX8_part_53 : decode cX8_part 53 = .ok (.iconst 3, 1) := by decide +kernel
theorem dX8_part_54 : decode cX8_part 54 = .ok (.iload_n 3, 1) := by decide +kernel
theorem dX8_part_55 : decode cX8_part 55 = .ok (.imul, 1) := by decide +kernel
theorem dX8_part_56 : decode cX8_part 56 = .ok (.aload_n 0, 1) := by decide +kernel
theorem dX8_part_57 : decode cX8_part 57 = .ok (.getfield 26, 3) := by decide +kernel
theorem dX8_part_60 : decode cX8_part 60 = .ok (.iload_n 3, 1) := by decide +kernel
theorem dX8_part_61 : decode cX8_part 61 = .ok (.iaload, 1) := by decide +kernel
theorem dX8_part_62 : decode cX8_part 62 = .ok (.iadd, 1) := by decide +kernel
theorem dX8_part_63 : decode cX8_part 63 = .ok (.istore 4, 2) := by decide +kernel
theorem dX8_part_65 : decode cX8_part 65 = .ok (.aload_n 0, 1) := by decide +kernel
theorem dX8_part_66 : decode cX8_part 66 = .ok (.getfield 32, 3) := by decide +kernel
theorem dX8_part_69 : decode cX8_part 69 = .ok (.iload 4, 2) := by decide +kernel
theorem dX8_part_71 : decode cX8_part 71 = .ok (.iload_n 1, 1) := by decide +kernel
theorem dX8_part_72 : decode cX8_part 72 = .ok (.iastore, 1) := by decide +kernel
theorem dX8_part_73 : decode cX8_part 73 = .ok (.aload_n 0, 1) := by decide +kernel
theorem dX8_part_74 : decode cX8_part 74 = .ok (.getfield 35, 3) := by decide +kernel
theorem dX8_part_77 : decode cX8_part 77 = .ok (.iload 4, 2) := by decide +kernel
theorem dX8_part_79 : decode cX8_part 79 = .ok (.iload_n 2, 1) := by decide +kernel
theorem dX8_part_80 : decode cX8_part 80 = .ok (.iastore, 1) := by decide +kernel
theorem dX8_part_81 : decode cX8_part 81 = .ok (.aload_n 0, 1) := by decide +kernel
theorem dX8_part_82 : decode cX8_part 82 = .ok (.getfield 26, 3) := by decide +kernel
theorem dX8_part_85 : decode cX8_part 85 = .ok (.iload_n 3, 1) := by decide +kernel
theorem dX8_part_86 : decode cX8_part 86 = .ok (.dup2, 1) := by decide +kernel
theorem dX8_part_87 : decode cX8_part 87 = .ok (.iaload, 1) := by decide +kernel
theorem dX8_part_88 : decode cX8_part 88 = .ok (.iconst 1, 1) := by decide +kernel
theorem dX8_part_89 : decode cX8_part 89 = .ok (.iadd, 1) := by decide +kernel
theorem dX8_part_90 : decode cX8_part 90 = .ok (.iastore, 1) := by decide +kernel
theorem dX8_part_91 : decode cX8_part 91 = .ok (.aload_n 0, 1) := by decide +kernel
theorem dX8_part_92 : decode cX8_part 92 = .ok (.getfield 26, 3) := by decide +kernel
theorem dX8_part_95 : decode cX8_part 95 = .ok (.iload_n 3, 1) := by decide +kernel
theorem dX8_part_96 : decode cX8_part 96 = .ok (.iaload, 1) := by decide +kernel
theorem dX8_part_97 : decode cX8_part 97 = .ok (.iconst 1, 1) := by decide +kernel
theorem dX8_part_98 : decode cX8_part 98 = .ok (.isub, 1) := by decide +kernel
theorem dX8_part_99 : decode cX8_part 99 = .ok (.ireturn, 1) := by decide +kernel
def F_X8_part_45  (K45 : Int32 → Int32 → Int32 → Int32 → Mm → Prop) (q : Int32 → Mm → Prop) (x1 : Int32) (x2 : Int32) (x3 : Int32) (y0 : Int32) (μ : Mm) : Prop :=
  Wp_X8_can y0 μ (fun b2 μ1 => ((¬ ((bI b2) = 0) → vp_in x3 13 ∧ vp_in (((3 : Int32) * x3) + (μ1 p_MO_parts (x3).toNatClampNeg)) 39 ∧ vp_in (((3 : Int32) * x3) + (μ1 p_MO_parts (x3).toNatClampNeg)) 39 ∧ vp_in x3 13 ∧ vp_in x3 13 ∧ vp_in x3 13 ∧ q (((up2 (up2 (up2 μ1 p_MO_partNeed ((((3 : Int32) * x3) + (μ1 p_MO_parts (x3).toNatClampNeg))).toNatClampNeg x1) p_MO_partSet ((((3 : Int32) * x3) + (μ1 p_MO_parts (x3).toNatClampNeg))).toNatClampNeg x2) p_MO_parts (x3).toNatClampNeg (((up2 (up2 μ1 p_MO_partNeed ((((3 : Int32) * x3) + (μ1 p_MO_parts (x3).toNatClampNeg))).toNatClampNeg x1) p_MO_partSet ((((3 : Int32) * x3) + (μ1 p_MO_parts (x3).toNatClampNeg))).toNatClampNeg x2) p_MO_parts (x3).toNatClampNeg) + (1 : Int32))) p_MO_parts (x3).toNatClampNeg) - (1 : Int32)) (up2 (up2 (up2 μ1 p_MO_partNeed ((((3 : Int32) * x3) + (μ1 p_MO_parts (x3).toNatClampNeg))).toNatClampNeg x1) p_MO_partSet ((((3 : Int32) * x3) + (μ1 p_MO_parts (x3).toNatClampNeg))).toNatClampNeg x2) p_MO_parts (x3).toNatClampNeg (((up2 (up2 μ1 p_MO_partNeed ((((3 : Int32) * x3) + (μ1 p_MO_parts (x3).toNatClampNeg))).toNatClampNeg x1) p_MO_partSet ((((3 : Int32) * x3) + (μ1 p_MO_parts (x3).toNatClampNeg))).toNatClampNeg x2) p_MO_parts (x3).toNatClampNeg) + (1 : Int32)))) ∧ ((bI b2) = 0 → q (0 : Int32) μ1)))
def F_X8_part_e  (K45 : Int32 → Int32 → Int32 → Int32 → Mm → Prop) (q : Int32 → Mm → Prop) (x1 : Int32) (x2 : Int32) (μ : Mm) : Prop :=
  Wp_X8_isIn x1 (1 : Int32) (20 : Int32) μ (fun b2 μ1 => (((bI b2) = 0 → K45 x1 x2 (μ p_MO 8) (1 : Int32) μ1) ∧ (¬ ((bI b2) = 0) → Wp_X8_isIn x2 (1 : Int32) (63 : Int32) μ1 (fun b4 μ3 => ((¬ ((bI b4) = 0) → vp_in (μ p_MO 8) 13 ∧ ((¬ ((μ3 p_MO_parts ((μ p_MO 8)).toNatClampNeg) = (3 : Int32)) → K45 x1 x2 (μ p_MO 8) (0 : Int32) μ3) ∧ ((μ3 p_MO_parts ((μ p_MO 8)).toNatClampNeg) = (3 : Int32) → K45 x1 x2 (μ p_MO 8) (2 : Int32) μ3))) ∧ ((bI b4) = 0 → K45 x1 x2 (μ p_MO 8) (1 : Int32) μ3))))))
def Wp_X8_part  (x1 : Int32) (x2 : Int32) (μ : Mm) (q : Int32 → Mm → Prop) : Prop := ∀ (K45 : Int32 → Int32 → Int32 → Int32 → Mm → Prop), (∀ (x1 : Int32) (x2 : Int32) (x3 : Int32) (y0 : Int32) (μ : Mm), F_X8_part_45  K45 q x1 x2 x3 y0 μ → K45 x1 x2 x3 y0 μ) → F_X8_part_e  K45 q x1 x2 μ
abbrev KK_X8_part_45 (g : GE) (f : FE)  : Int32 → Int32 → Int32 → Int32 → Mm → Prop := fun x1 x2 x3 y0 μ => KW g f 5 0 0 45 [some (.ref p_MO), some (.int x1), some (.int x2), some (.int x3), none] [.int y0, .ref p_MO] μ
set_option maxHeartbeats 2000000 in
theorem b_X8_part_45  {g : GE} {f : FE} {q : Int32 → Mm → Prop} (cx : Cx g f cX8_part 5 RX8 1 22 0 0) (hr : (f_M f).sig.returnType = (some .int)) (hl : (f_M f).locks = false) (hQ : f_Q f = MQ (f_b f) (QW g (qI q)) (f_a f) (f_s f) 0 0 (fun q => g.2.2.2 ≤ q))  {x1 : Int32} {x2 : Int32} {x3 : Int32} {y0 : Int32} {μ : Mm} (h : F_X8_part_45  (KK_X8_part_45 g f ) q x1 x2 x3 y0 μ) : KK_X8_part_45 g f  x1 x2 x3 y0 μ := by
  unfold F_X8_part_45 at h
  show KW g f 5 0 0 45 [some (.ref p_MO), some (.int x1), some (.int x2), some (.int x3), none] [.int y0, .ref p_MO] μ
  refine k_callV (As := [.int y0]) (rest := []) cx (m_X8_can h) cv_X8_121 ob_MO rfl rfl rfl rfl (Nat.le_of_ble_eq_true rfl) ⟨Nat.le_of_ble_eq_true rfl, Nat.le_of_ble_eq_true rfl⟩ dX8_part_45 (fun v μ1 hq => ?_)
  obtain ⟨b2, rfl, h⟩ := hq
  refine k_if_ne (tgt := 53) cx dX8_part_48 (by decide) (fun hc => ?_) (fun hc => ?_)
  · replace h := h.1 hc
    refine k_iconst (v := (3 : Int32)) cx dX8_part_53 (by decide +kernel) ?_
    refine k_iload_n cx dX8_part_54 rfl rfl ?_
    refine k_imul cx dX8_part_55 ?_
    refine k_aload_n cx dX8_part_56 rfl rfl ?_
    refine k_get (o := some p_MO_parts) (v := .ref p_MO_parts) cx fl_X8_26 ob_MO rfl rfl dX8_part_57 ?_
    refine k_iload_n cx dX8_part_60 rfl rfl ?_
    obtain ⟨hi, h⟩ := h
    refine k_iald cx ar_MO_parts hi dX8_part_61 ?_
    refine k_iadd cx dX8_part_62 ?_
    refine k_istore cx dX8_part_63 (by decide) ?_
    refine k_aload_n cx dX8_part_65 rfl rfl ?_
    refine k_get (o := some p_MO_partNeed) (v := .ref p_MO_partNeed) cx fl_X8_32 ob_MO rfl rfl dX8_part_66 ?_
    refine k_iload cx dX8_part_69 rfl ?_
    refine k_iload_n cx dX8_part_71 rfl rfl ?_
    obtain ⟨hi, h⟩ := h
    refine k_iast cx ar_MO_partNeed hi dX8_part_72 ?_
    refine k_aload_n cx dX8_part_73 rfl rfl ?_
    refine k_get (o := some p_MO_partSet) (v := .ref p_MO_partSet) cx fl_X8_35 ob_MO rfl rfl dX8_part_74 ?_
    refine k_iload cx dX8_part_77 rfl ?_
    refine k_iload_n cx dX8_part_79 rfl rfl ?_
    obtain ⟨hi, h⟩ := h
    refine k_iast cx ar_MO_partSet hi dX8_part_80 ?_
    refine k_aload_n cx dX8_part_81 rfl rfl ?_
    refine k_get (o := some p_MO_parts) (v := .ref p_MO_parts) cx fl_X8_26 ob_MO rfl rfl dX8_part_82 ?_
    refine k_iload_n cx dX8_part_85 rfl rfl ?_
    refine k_dup2 cx dX8_part_86 rfl rfl ?_
    obtain ⟨hi, h⟩ := h
    refine k_iald cx ar_MO_parts hi dX8_part_87 ?_
    refine k_iconst (v := (1 : Int32)) cx dX8_part_88 (by decide +kernel) ?_
    refine k_iadd cx dX8_part_89 ?_
    obtain ⟨hi, h⟩ := h
    refine k_iast cx ar_MO_parts hi dX8_part_90 ?_
    refine k_aload_n cx dX8_part_91 rfl rfl ?_
    refine k_get (o := some p_MO_parts) (v := .ref p_MO_parts) cx fl_X8_26 ob_MO rfl rfl dX8_part_92 ?_
    refine k_iload_n cx dX8_part_95 rfl rfl ?_
    obtain ⟨hi, h⟩ := h
    refine k_iald cx ar_MO_parts hi dX8_part_96 ?_
    refine k_iconst (v := (1 : Int32)) cx dX8_part_97 (by decide +kernel) ?_
    refine k_isub cx dX8_part_98 ?_
    exact k_ret_I cx hr hl hQ dX8_part_99 h
  · replace h := h.2 hc
    refine k_iconst (v := (0 : Int32)) cx dX8_part_51 (by decide +kernel) ?_
    exact k_ret_I cx hr hl hQ dX8_part_52 h
set_option maxHeartbeats 2000000 in
theorem b_X8_part_e  {g : GE} {f : FE} {q : Int32 → Mm → Prop} (cx : Cx g f cX8_part 5 RX8 1 22 0 0) (hr : (f_M f).sig.returnType = (some .int)) (hl : (f_M f).locks = false) (hQ : f_Q f = MQ (f_b f) (QW g (qI q)) (f_a f) (f_s f) 0 0 (fun q => g.2.2.2 ≤ q))  {x1 : Int32} {x2 : Int32} {μ : Mm} (h : F_X8_part_e  (KK_X8_part_45 g f ) q x1 x2 μ) : KW g f 5 0 0 0 [some (.ref p_MO), some (.int x1), some (.int x2), none, none] [] μ := by
  unfold F_X8_part_e at h
  refine k_aload_n cx dX8_part_0 rfl rfl ?_
  refine k_get (o := none) (v := .int (μ p_MO 8)) cx fl_X8_118 ob_MO rfl rfl dX8_part_1 ?_
  refine k_istore_n cx dX8_part_4 rfl (by decide) ?_
  refine k_aload_n cx dX8_part_5 rfl rfl ?_
  refine k_iload_n cx dX8_part_6 rfl rfl ?_
  refine k_iconst (v := (1 : Int32)) cx dX8_part_7 (by decide +kernel) ?_
  refine k_bipush (v := (20 : Int32)) cx dX8_part_8 (by decide +kernel) ?_
  refine k_callS (As := [.int x1, .int (1 : Int32), .int (20 : Int32)]) (rest := [.ref p_MO]) cx (m_X8_isIn h) cv_X8_111 rfl rfl (Nat.le_of_ble_eq_true rfl) ⟨Nat.le_of_ble_eq_true rfl, Nat.le_of_ble_eq_true rfl⟩ dX8_part_10 (fun v μ1 hq => ?_)
  obtain ⟨b2, rfl, h⟩ := hq
  refine k_if_eq (tgt := 26) cx dX8_part_13 (by decide) (fun hc => ?_) (fun hc => ?_)
  · replace h := h.1 hc
    refine k_iconst (v := (1 : Int32)) cx dX8_part_26 (by decide +kernel) ?_
    refine k_goto (tgt := 45) cx dX8_part_27 (by decide) ?_
    exact k_weak h (lsLe.keep (lsLe.keep (lsLe.keep (lsLe.keep (lsLe.keep lsLe.nil)))))
  · replace h := h.2 hc
    refine k_iload_n cx dX8_part_16 rfl rfl ?_
    refine k_iconst (v := (1 : Int32)) cx dX8_part_17 (by decide +kernel) ?_
    refine k_bipush (v := (63 : Int32)) cx dX8_part_18 (by decide +kernel) ?_
    refine k_callS (As := [.int x2, .int (1 : Int32), .int (63 : Int32)]) (rest := [.ref p_MO]) cx (m_X8_isIn h) cv_X8_111 rfl rfl (Nat.le_of_ble_eq_true rfl) ⟨Nat.le_of_ble_eq_true rfl, Nat.le_of_ble_eq_true rfl⟩ dX8_part_20 (fun v μ3 hq => ?_)
    obtain ⟨b4, rfl, h⟩ := hq
    refine k_if_ne (tgt := 30) cx dX8_part_23 (by decide) (fun hc => ?_) (fun hc => ?_)
    · replace h := h.1 hc
      refine k_aload_n cx dX8_part_30 rfl rfl ?_
      refine k_get (o := some p_MO_parts) (v := .ref p_MO_parts) cx fl_X8_26 ob_MO rfl rfl dX8_part_31 ?_
      refine k_iload_n cx dX8_part_34 rfl rfl ?_
      obtain ⟨hi, h⟩ := h
      refine k_iald cx ar_MO_parts hi dX8_part_35 ?_
      refine k_iconst (v := (3 : Int32)) cx dX8_part_36 (by decide +kernel) ?_
      refine k_icmp_ne (tgt := 44) cx dX8_part_37 (by decide) (fun hc => ?_) (fun hc => ?_)
      · replace h := h.1 hc
        refine k_iconst (v := (0 : Int32)) cx dX8_part_44 (by decide +kernel) ?_
        exact k_weak h (lsLe.keep (lsLe.keep (lsLe.keep (lsLe.keep (lsLe.keep lsLe.nil)))))
      · replace h := h.2 hc
        refine k_iconst (v := (2 : Int32)) cx dX8_part_40 (by decide +kernel) ?_
        refine k_goto (tgt := 45) cx dX8_part_41 (by decide) ?_
        exact k_weak h (lsLe.keep (lsLe.keep (lsLe.keep (lsLe.keep (lsLe.keep lsLe.nil)))))
    · replace h := h.2 hc
      refine k_iconst (v := (1 : Int32)) cx dX8_part_26 (by decide +kernel) ?_
      refine k_goto (tgt := 45) cx dX8_part_27 (by decide) ?_
      exact k_weak h (lsLe.keep (lsLe.keep (lsLe.keep (lsLe.keep (lsLe.keep lsLe.nil)))))
theorem m_X8_part {g : GE} {l : Launch} {μ : Mm} {q : Int32 → Mm → Prop} {x1 : Int32} {x2 : Int32}  (h : Wp_X8_part  x1 x2 μ q) : MW g l yX8_part cX8_part 5 (some .int) 1 22 [.ref p_MO, .int x1, .int x2] μ (qI q) := by
  refine met_of (by decide) (Nat.le_of_ble_eq_true rfl) (by intro v hv; simp only [List.mem_cons, List.not_mem_nil, or_false] at hv; rcases hv with rfl | rfl | rfl <;> rfl) ?_
  intro f hfl cx hr hl hQ
  exact b_X8_part_e  cx hr hl hQ (h (KK_X8_part_45 g f ) (fun _ _ _ _ _ h => b_X8_part_45  cx hr hl hQ h))
theorem dX8_pass_0 : decode cX8_pass 0 = .ok (.aload_n 0, 1) := by decide +kernel
theorem dX8_pass_1 : decode cX8_pass 1 = .ok (.iload_n 1, 1) := by decide +kernel
theorem dX8_pass_2 : decode cX8_pass 2 = .ok (.iconst 1, 1) := by decide +kernel
theorem dX8_pass_3 : decode cX8_pass 3 = .ok (.bipush 100, 2) := by decide +kernel
theorem dX8_pass_5 : decode cX8_pass 5 = .ok (.invokestatic 111, 3) := by decide +kernel
theorem dX8_pass_8 : decode cX8_pass 8 = .ok (.ifCond .eq 7, 3) := by decide +kernel
theorem dX8_pass_11 : decode cX8_pass 11 = .ok (.iconst 0, 1) := by decide +kernel
theorem dX8_pass_12 : decode cX8_pass 12 = .ok (.goto 4, 3) := by decide +kernel
theorem dX8_pass_15 : decode cX8_pass 15 = .ok (.iconst 1, 1) := by decide +kernel
theorem dX8_pass_16 : decode cX8_pass 16 = .ok (.invokevirtual 121, 3) := by decide +kernel
theorem dX8_pass_19 : decode cX8_pass 19 = .ok (.ifCond .ne 5, 3) := by decide +kernel
theorem dX8_pass_22 : decode cX8_pass 22 = .ok (.iconst 0, 1) := by decide +kernel
theorem dX8_pass_23 : decode cX8_pass 23 = .ok (.ireturn, 1) := by decide +kernel
theorem dX8_pass_24 : decode cX8_pass 24 = .ok (.aload_n 0, 1) := by decide +kernel
theorem dX8_pass_25 : decode cX8_pass 25 = .ok (.dup, 1) := by decide +kernel
theorem dX8_pass_26 : decode cX8_pass 26 = .ok (.getfield 223, 3) := by decide +kernel
theorem dX8_pass_29 : decode cX8_pass 29 = .ok (.iload_n 1, 1) := by decide +kernel
theorem dX8_pass_30 : decode cX8_pass 30 = .ok (.iadd, 1) := by decide +kernel
theorem dX8_pass_31 : decode cX8_pass 31 = .ok (.putfield 223, 3) := by decide +kernel
theorem dX8_pass_34 : decode cX8_pass 34 = .ok (.iconst 0, 1) := by decide +kernel
theorem dX8_pass_35 : decode cX8_pass 35 = .ok (.istore_n 2, 1) := by decide +kernel
theorem dX8_pass_36 : decode cX8_pass 36 = .ok (.iload_n 2, 1) := by decide +kernel
theorem dX8_pass_37 : decode cX8_pass 37 = .ok (.aload_n 0, 1) := by decide +kernel
theorem dX8_pass_38 : decode cX8_pass 38 = .ok (.getfield 118, 3) := by decide +kernel
theorem dX8_pass_41 : decode cX8_pass 41 = .ok (.if_icmp .ge 42, 3) := by decide +kernel
theorem dX8_pass_44 : decode cX8_pass 44 = .ok (.aload_n 0, 1) := by decide +kernel
theorem dX8_pass_45 : decode cX8_pass 45 = .ok (.getfield 62, 3) := by decide +kernel
theorem dX8_pass_48 : decode cX8_pass 48 = .ok (.iload_n 2, 1) := by decide +kernel
theorem dX8_pass_49 : decode cX8_pass 49 = .ok (.aload_n 0, 1) := by decide +kernel
theorem dX8_pass_50 : decode cX8_pass 50 = .ok (.getfield 62, 3) := by decide +kernel
theorem dX8_pass_53 : decode cX8_pass 53 = .ok (.iload_n 2, 1) := by decide +kernel
theorem dX8_pass_54 : decode cX8_pass 54 = .ok (.baload, 1) := by decide +kernel
theorem dX8_pass_55 : decode cX8_pass 55 = .ok (.ifCond .ne 16, 3) := by decide +kernel
theorem dX8_pass_58 : decode cX8_pass 58 = .ok (.aload_n 0, 1) := by decide +kernel
theorem dX8_pass_59 : decode cX8_pass 59 = .ok (.getfield 68, 3) := by decide +kernel
theorem dX8_pass_62 : decode cX8_pass 62 = .ok (.iload_n 2, 1) := by decide +kernel
theorem dX8_pass_63 : decode cX8_pass 63 = .ok (.iaload, 1) := by decide +kernel
theorem dX8_pass_64 : decode cX8_pass 64 = .ok (.aload_n 0, 1) := by decide +kernel
theorem dX8_pass_65 : decode cX8_pass 65 = .ok (.getfield 223, 3) := by decide +kernel
theorem dX8_pass_68 : decode cX8_pass 68 = .ok (.if_icmp .gt 7, 3) := by decide +kernel
theorem dX8_pass_71 : decode cX8_pass 71 = .ok (.iconst 1, 1) := by decide +kernel
theorem dX8_pass_72 : decode cX8_pass 72 = .ok (.goto 4, 3) := by decide +kernel
theorem dX8_pass_75 : decode cX8_pass 75 = .ok (.iconst 0, 1) := by decide +kernel
theorem dX8_pass_76 : decode cX8_pass 76 = .ok (.bastore, 1) := by decide +kernel
theorem dX8_pass_77 : decode cX8_pass 77 = .ok (.iinc 2 1, 3) := by decide +kernel
theorem dX8_pass_80 : decode cX8_pass 80 = .ok (.goto (-44), 3) := by decide +kernel
theorem dX8_pass_83 : decode cX8_pass 83 = .ok (.aload_n 0, 1) := by decide +kernel
theorem dX8_pass_84 : decode cX8_pass 84 = .ok (.getfield 223, 3) := by decide +kernel
theorem dX8_pass_87 : decode cX8_pass 87 = .ok (.ireturn, 1) := by decide +kernel
def F_X8_pass_16  (K16 : Int32 → Int32 → Mm → Prop) (K36 : Int32 → Mm → Prop) (q : Int32 → Mm → Prop) (x1 : Int32) (y0 : Int32) (μ : Mm) : Prop :=
  Wp_X8_can y0 μ (fun b2 μ1 => ((¬ ((bI b2) = 0) → K36 (0 : Int32) (up2 μ1 p_MO 0 ((μ1 p_MO 0) + x1))) ∧ ((bI b2) = 0 → q (0 : Int32) μ1)))
def F_X8_pass_36  (K16 : Int32 → Int32 → Mm → Prop) (K36 : Int32 → Mm → Prop) (q : Int32 → Mm → Prop) (x2 : Int32) (μ : Mm) : Prop :=
  (((μ p_MO 8) ≤ x2 → q (μ p_MO 0) μ) ∧ (¬ ((μ p_MO 8) ≤ x2) → vp_in x2 13 ∧ ((¬ ((μ p_MO_hasEnded (x2).toNatClampNeg) = 0) → vp_in x2 13 ∧ K36 (x2 + (1 : Int32)) (up2 μ p_MO_hasEnded (x2).toNatClampNeg (vp_nar .boolean (1 : Int32)))) ∧ ((μ p_MO_hasEnded (x2).toNatClampNeg) = 0 → vp_in x2 13 ∧ (((μ p_MO 0) < (μ p_MO_time (x2).toNatClampNeg) → vp_in x2 13 ∧ K36 (x2 + (1 : Int32)) (up2 μ p_MO_hasEnded (x2).toNatClampNeg (vp_nar .boolean (0 : Int32)))) ∧ (¬ ((μ p_MO 0) < (μ p_MO_time (x2).toNatClampNeg)) → vp_in x2 13 ∧ K36 (x2 + (1 : Int32)) (up2 μ p_MO_hasEnded (x2).toNatClampNeg (vp_nar .boolean (1 : Int32)))))))))
def F_X8_pass_e  (K16 : Int32 → Int32 → Mm → Prop) (K36 : Int32 → Mm → Prop) (q : Int32 → Mm → Prop) (x1 : Int32) (μ : Mm) : Prop :=
  Wp_X8_isIn x1 (1 : Int32) (100 : Int32) μ (fun b2 μ1 => (((bI b2) = 0 → K16 x1 (1 : Int32) μ1) ∧ (¬ ((bI b2) = 0) → K16 x1 (0 : Int32) μ1)))
def Wp_X8_pass  (x1 : Int32) (μ : Mm) (q : Int32 → Mm → Prop) : Prop := ∀ (K16 : Int32 → Int32 → Mm → Prop) (K36 : Int32 → Mm → Prop), (∀ (x1 : Int32) (y0 : Int32) (μ : Mm), F_X8_pass_16  K16 K36 q x1 y0 μ → K16 x1 y0 μ) → (∀ (x2 : Int32) (μ : Mm), F_X8_pass_36  K16 K36 q x2 μ → K36 x2 μ) → F_X8_pass_e  K16 K36 q x1 μ
abbrev KK_X8_pass_16 (g : GE) (f : FE)  : Int32 → Int32 → Mm → Prop := fun x1 y0 μ => KW g f 3 0 0 16 [some (.ref p_MO), some (.int x1), none] [.int y0, .ref p_MO] μ
abbrev KK_X8_pass_36 (g : GE) (f : FE)  : Int32 → Mm → Prop := fun x2 μ => KW g f 3 0 0 36 [some (.ref p_MO), none, some (.int x2)] [] μ
set_option maxHeartbeats 2000000 in
theorem b_X8_pass_16  {g : GE} {f : FE} {q : Int32 → Mm → Prop} (cx : Cx g f cX8_pass 3 RX8 1 22 0 0) (hr : (f_M f).sig.returnType = (some .int)) (hl : (f_M f).locks = false) (hQ : f_Q f = MQ (f_b f) (QW g (qI q)) (f_a f) (f_s f) 0 0 (fun q => g.2.2.2 ≤ q))  {x1 : Int32} {y0 : Int32} {μ : Mm} (h : F_X8_pass_16  (KK_X8_pass_16 g f ) (KK_X8_pass_36 g f ) q x1 y0 μ) : KK_X8_pass_16 g f  x1 y0 μ := by
  unfold F_X8_pass_16 at h
  show KW g f 3 0 0 16 [some (.ref p_MO), some (.int x1), none] [.int y0, .ref p_MO] μ
  refine k_callV (As := [.int y0]) (rest := []) cx (m_X8_can h) cv_X8_121 ob_MO rfl rfl rfl rfl (Nat.le_of_ble_eq_true rfl) ⟨Nat.le_of_ble_eq_true rfl, Nat.le_of_ble_eq_true rfl⟩ dX8_pass_16 (fun v μ1 hq => ?_)
  obtain ⟨b2, rfl, h⟩ := hq
  refine k_if_ne (tgt := 24) cx dX8_pass_19 (by decide) (fun hc => ?_) (fun hc => ?_)
  · replace h := h.1 hc
    refine k_aload_n cx dX8_pass_24 rfl rfl ?_
    refine k_dup cx dX8_pass_25 rfl ?_
    refine k_get (o := none) (v := .int (μ1 p_MO 0)) cx fl_X8_223 ob_MO rfl rfl dX8_pass_26 ?_
    refine k_iload_n cx dX8_pass_29 rfl rfl ?_
    refine k_iadd cx dX8_pass_30 ?_
    refine k_put cx fp_X8_223 ob_MO rfl rfl rfl dX8_pass_31 ?_
    refine k_iconst (v := (0 : Int32)) cx dX8_pass_34 (by decide +kernel) ?_
    refine k_istore_n cx dX8_pass_35 rfl (by decide) ?_
    exact k_weak h (lsLe.keep (lsLe.drop (lsLe.keep lsLe.nil)))
  · replace h := h.2 hc
    refine k_iconst (v := (0 : Int32)) cx dX8_pass_22 (by decide +kernel) ?_
    exact k_ret_I cx hr hl hQ dX8_pass_23 h
set_option maxHeartbeats 2000000 in
theorem b_X8_pass_36  {g : GE} {f : FE} {q : Int32 → Mm → Prop} (cx : Cx g f cX8_pass 3 RX8 1 22 0 0) (hr : (f_M f).sig.returnType = (some .int)) (hl : (f_M f).locks = false) (hQ : f_Q f = MQ (f_b f) (QW g (qI q)) (f_a f) (f_s f) 0 0 (fun q => g.2.2.2 ≤ q))  {x2 : Int32} {μ : Mm} (h : F_X8_pass_36  (KK_X8_pass_16 g f ) (KK_X8_pass_36 g f ) q x2 μ) : KK_X8_pass_36 g f  x2 μ := by
  unfold F_X8_pass_36 at h
  show KW g f 3 0 0 36 [some (.ref p_MO), none, some (.int x2)] [] μ
  refine k_iload_n cx dX8_pass_36 rfl rfl ?_
  refine k_aload_n cx dX8_pass_37 rfl rfl ?_
  refine k_get (o := none) (v := .int (μ p_MO 8)) cx fl_X8_118 ob_MO rfl rfl dX8_pass_38 ?_
  refine k_icmp_ge (tgt := 83) cx dX8_pass_41 (by decide) (fun hc => ?_) (fun hc => ?_)
  · replace h := h.1 hc
    refine k_aload_n cx dX8_pass_83 rfl rfl ?_
    refine k_get (o := none) (v := .int (μ p_MO 0)) cx fl_X8_223 ob_MO rfl rfl dX8_pass_84 ?_
    exact k_ret_I cx hr hl hQ dX8_pass_87 h
  · replace h := h.2 hc
    refine k_aload_n cx dX8_pass_44 rfl rfl ?_
    refine k_get (o := some p_MO_hasEnded) (v := .ref p_MO_hasEnded) cx fl_X8_62 ob_MO rfl rfl dX8_pass_45 ?_
    refine k_iload_n cx dX8_pass_48 rfl rfl ?_
    refine k_aload_n cx dX8_pass_49 rfl rfl ?_
    refine k_get (o := some p_MO_hasEnded) (v := .ref p_MO_hasEnded) cx fl_X8_62 ob_MO rfl rfl dX8_pass_50 ?_
    refine k_iload_n cx dX8_pass_53 rfl rfl ?_
    obtain ⟨hi, h⟩ := h
    refine k_zald cx ar_MO_hasEnded hi dX8_pass_54 ?_
    refine k_if_ne (tgt := 71) cx dX8_pass_55 (by decide) (fun hc => ?_) (fun hc => ?_)
    · replace h := h.1 hc
      refine k_iconst (v := (1 : Int32)) cx dX8_pass_71 (by decide +kernel) ?_
      refine k_goto (tgt := 76) cx dX8_pass_72 (by decide) ?_
      obtain ⟨hi, h⟩ := h
      refine k_zast cx ar_MO_hasEnded hi dX8_pass_76 ?_
      refine k_iinc (v := (x2 + (1 : Int32))) cx dX8_pass_77 rfl rfl (by decide) ?_
      refine k_goto (tgt := 36) cx dX8_pass_80 (by decide) ?_
      exact k_weak h (lsLe.keep (lsLe.keep (lsLe.keep lsLe.nil)))
    · replace h := h.2 hc
      refine k_aload_n cx dX8_pass_58 rfl rfl ?_
      refine k_get (o := some p_MO_time) (v := .ref p_MO_time) cx fl_X8_68 ob_MO rfl rfl dX8_pass_59 ?_
      refine k_iload_n cx dX8_pass_62 rfl rfl ?_
      obtain ⟨hi, h⟩ := h
      refine k_iald cx ar_MO_time hi dX8_pass_63 ?_
      refine k_aload_n cx dX8_pass_64 rfl rfl ?_
      refine k_get (o := none) (v := .int (μ p_MO 0)) cx fl_X8_223 ob_MO rfl rfl dX8_pass_65 ?_
      refine k_icmp_gt (tgt := 75) cx dX8_pass_68 (by decide) (fun hc => ?_) (fun hc => ?_)
      · replace h := h.1 hc
        refine k_iconst (v := (0 : Int32)) cx dX8_pass_75 (by decide +kernel) ?_
        obtain ⟨hi, h⟩ := h
        refine k_zast cx ar_MO_hasEnded hi dX8_pass_76 ?_
        refine k_iinc (v := (x2 + (1 : Int32))) cx dX8_pass_77 rfl rfl (by decide) ?_
        refine k_goto (tgt := 36) cx dX8_pass_80 (by decide) ?_
        exact k_weak h (lsLe.keep (lsLe.keep (lsLe.keep lsLe.nil)))
      · replace h := h.2 hc
        refine k_iconst (v := (1 : Int32)) cx dX8_pass_71 (by decide +kernel) ?_
        refine k_goto (tgt := 76) cx dX8_pass_72 (by decide) ?_
        obtain ⟨hi, h⟩ := h
        refine k_zast cx ar_MO_hasEnded hi dX8_pass_76 ?_
        refine k_iinc (v := (x2 + (1 : Int32))) cx dX8_pass_77 rfl rfl (by decide) ?_
        refine k_goto (tgt := 36) cx dX8_pass_80 (by decide) ?_
        exact k_weak h (lsLe.keep (lsLe.keep (lsLe.keep lsLe.nil)))
set_option maxHeartbeats 2000000 in
theorem b_X8_pass_e  {g : GE} {f : FE} {q : Int32 → Mm → Prop} (cx : Cx g f cX8_pass 3 RX8 1 22 0 0) (hr : (f_M f).sig.returnType = (some .int)) (hl : (f_M f).locks = false) (hQ : f_Q f = MQ (f_b f) (QW g (qI q)) (f_a f) (f_s f) 0 0 (fun q => g.2.2.2 ≤ q))  {x1 : Int32} {μ : Mm} (h : F_X8_pass_e  (KK_X8_pass_16 g f ) (KK_X8_pass_36 g f ) q x1 μ) : KW g f 3 0 0 0 [some (.ref p_MO), some (.int x1), none] [] μ := by
  unfold F_X8_pass_e at h
  refine k_aload_n cx dX8_pass_0 rfl rfl ?_
  refine k_iload_n cx dX8_pass_1 rfl rfl ?_
  refine k_iconst (v := (1 : Int32)) cx dX8_pass_2 (by decide +kernel) ?_
  refine k_bipush (v := (100 : Int32)) cx dX8_pass_3 (by decide +kernel) ?_
  refine k_callS (As := [.int x1, .int (1 : Int32), .int (100 : Int32)]) (rest := [.ref p_MO]) cx (m_X8_isIn h) cv_X8_111 rfl rfl (Nat.le_of_ble_eq_true rfl) ⟨Nat.le_of_ble_eq_true rfl, Nat.le_of_ble_eq_true rfl⟩ dX8_pass_5 (fun v μ1 hq => ?_)
  obtain ⟨b2, rfl, h⟩ := hq
  refine k_if_eq (tgt := 15) cx dX8_pass_8 (by decide) (fun hc => ?_) (fun hc => ?_)
  · replace h := h.1 hc
    refine k_iconst (v := (1 : Int32)) cx dX8_pass_15 (by decide +kernel) ?_
    exact k_weak h (lsLe.keep (lsLe.keep (lsLe.keep lsLe.nil)))
  · replace h := h.2 hc
    refine k_iconst (v := (0 : Int32)) cx dX8_pass_11 (by decide +kernel) ?_
    refine k_goto (tgt := 16) cx dX8_pass_12 (by decide) ?_
    exact k_weak h (lsLe.keep (lsLe.keep (lsLe.keep lsLe.nil)))
theorem m_X8_pass {g : GE} {l : Launch} {μ : Mm} {q : Int32 → Mm → Prop} {x1 : Int32}  (h : Wp_X8_pass  x1 μ q) : MW g l yX8_pass cX8_pass 3 (some .int) 1 22 [.ref p_MO, .int x1] μ (qI q) := by
  refine met_of (by decide) (Nat.le_of_ble_eq_true rfl) (by intro v hv; simp only [List.mem_cons, List.not_mem_nil, or_false] at hv; rcases hv with rfl | rfl <;> rfl) ?_
  intro f hfl cx hr hl hQ
  exact b_X8_pass_e  cx hr hl hQ (h (KK_X8_pass_16 g f ) (KK_X8_pass_36 g f ) (fun _ _ _ h => b_X8_pass_16  cx hr hl hQ h) (fun _ _ h => b_X8_pass_36  cx hr hl hQ h))
theorem dX8_placesLeast_0 : decode cX8_placesLeast 0 = .ok (.iconst 0, 1) := by decide +kernel
theorem dX8_placesLeast_1 : decode cX8_placesLeast 1 = .ok (.istore_n 1, 1) := by decide +kernel
theorem dX8_placesLeast_2 : decode cX8_placesLeast 2 = .ok (.iload_n 1, 1) := by decide +kernel
theorem dX8_placesLeast_3 : decode cX8_placesLeast 3 = .ok (.iconst 3, 1) := by decide +kernel
theorem dX8_placesLeast_4 : decode cX8_placesLeast 4 = .ok (.if_icmp .ge 68, 3) := by decide +kernel
theorem dX8_placesLeast_7 : decode cX8_placesLeast 7 = .ok (.iconst 3, 1) := by decide +kernel
theorem dX8_placesLeast_8 : decode cX8_placesLeast 8 = .ok (.aload_n 0, 1) := by decide +kernel
theorem dX8_placesLeast_9 : decode cX8_placesLeast 9 = .ok (.getfield 118, 3) := by decide +kernel
theorem dX8_placesLeast_12 : decode cX8_placesLeast 12 = .ok (.imul, 1) := by decide +kernel
theorem dX8_placesLeast_13 : decode cX8_placesLeast 13 = .ok (.iload_n 1, 1) := by decide +kernel
theorem dX8_placesLeast_14 : decode cX8_placesLeast 14 = .ok (.iadd, 1) := by decide +kernel
theorem dX8_placesLeast_15 : decode cX8_placesLeast 15 = .ok (.istore_n 2, 1) := by decide +kernel
theorem dX8_placesLeast_16 : decode cX8_placesLeast 16 = .ok (.aload_n 0, 1) := by decide +kernel
theorem dX8_placesLeast_17 : decode cX8_placesLeast 17 = .ok (.getfield 38, 3) := by decide +kernel
theorem dX8_placesLeast_20 : decode cX8_placesLeast 20 = .ok (.iload_n 2, 1) := by decide +kernel
theorem dX8_placesLeast_21 : decode cX8_placesLeast 21 = .ok (.aload_n 0, 1) := by decide +kernel
theorem dX8_placesLeast_22 : decode cX8_placesLeast 22 = .ok (.getfield 95, 3) := by decide +kernel
theorem dX8_placesLeast_25 : decode cX8_placesLeast 25 = .ok (.iload_n 1, 1) := by decide +kernel
theorem dX8_placesLeast_26 : decode cX8_placesLeast 26 = .ok (.iaload, 1) := by decide +kernel
theorem dX8_placesLeast_27 : decode cX8_placesLeast 27 = .ok (.iastore, 1) := by decide +kernel
theorem dX8_placesLeast_28 : decode cX8_placesLeast 28 = .ok (.aload_n 0, 1) := by decide +kernel
theorem dX8_placesLeast_29 : decode cX8_placesLeast 29 = .ok (.getfield 53, 3) := by decide +kernel
theorem dX8_placesLeast_32 : decode cX8_placesLeast 32 = .ok (.iload_n 2, 1) := by decide +kernel
theorem dX8_placesLeast_33 : decode cX8_placesLeast 33 = .ok (.aload_n 0, 1) := by decide +kernel
theorem dX8_placesLeast_34 : decode cX8_placesLeast 34 = .ok (.getfield 98, 3) := by decide +kernel
theorem dX8_placesLeast_37 : decode cX8_placesLeast 37 = .ok (.iload_n 1, 1) := by decide +kernel
theorem dX8_placesLeast_38 : decode cX8_placesLeast 38 = .ok (.iaload, 1) := by decide +kernel
theorem dX8_placesLeast_39 : decode cX8_placesLeast 39 = .ok (.iastore, 1) := by decide +kernel
theorem dX8_placesLeast_40 : decode cX8_placesLeast 40 = .ok (.aload_n 0, 1) := by decide +kernel
theorem dX8_placesLeast_41 : decode cX8_placesLeast 41 = .ok (.getfield 50, 3) := by decide +kernel
theorem dX8_placesLeast_44 : decode cX8_placesLeast 44 = .ok (.iload_n 2, 1) := by decide +kernel
theorem dX8_placesLeast_45 : decode cX8_placesLeast 45 = .ok (.aload_n 0, 1) := by decide +kernel
theorem dX8_placesLeast_46 : decode cX8_placesLeast 46 = .ok (.getfield 47, 3) := by decide +kernel
theorem dX8_placesLeast_49 : decode cX8_placesLeast 49 = .ok (.iload_n 2, 1) := by decide +kernel
theorem dX8_placesLeast_50 : decode cX8_placesLeast 50 = .ok (.iaload, 1) := by decide +kernel
theorem dX8_placesLeast_51 : decode cX8_placesLeast 51 = .ok (.iastore, 1) := by decide +kernel
theorem dX8_placesLeast_52 : decode cX8_placesLeast 52 = .ok (.aload_n 0, 1) := by decide +kernel
theorem dX8_placesLeast_53 : decode cX8_placesLeast 53 = .ok (.getfield 56, 3) := by decide +kernel
theorem dX8_placesLeast_56 : decode cX8_placesLeast 56 = .ok (.iload_n 2, 1) := by decide +kernel
theorem dX8_placesLeast_57 : decode cX8_placesLeast 57 = .ok (.iconst 0, 1) := by decide +kernel
theorem dX8_placesLeast_58 : decode cX8_placesLeast 58 = .ok (.iastore, 1) := by decide +kernel
theorem dX8_placesLeast_59 : decode cX8_placesLeast 59 = .ok (.aload_n 0, 1) := by decide +kernel
theorem dX8_placesLeast_60 : decode cX8_placesLeast 60 = .ok (.getfield 59, 3) := by decide +kernel
theorem dX8_placesLeast_63 : decode cX8_placesLeast 63 = .ok (.iload_n 2, 1) := by decide +kernel
theorem dX8_placesLeast_64 : decode cX8_placesLeast 64 = .ok (.iconst 0, 1) := by decide +kernel
theorem dX8_placesLeast_65 : decode cX8_placesLeast 65 = .ok (.iastore, 1) := by decide +kernel
theorem dX8_placesLeast_66 : decode cX8_placesLeast 66 = .ok (.iinc 1 1, 3) := by decide +kernel
theorem dX8_placesLeast_69 : decode cX8_placesLeast 69 = .ok (.goto (-67), 3) := by decide +kernel
theorem dX8_placesLeast_72 : decode cX8_placesLeast 72 = .ok (.return_, 1) := by decide +kernel
def F_X8_placesLeast_2  (K2 : Int32 → Mm → Prop) (q : Mm → Prop) (x1 : Int32) (μ : Mm) : Prop :=
  (((3 : Int32) ≤ x1 → q μ) ∧ (¬ ((3 : Int32) ≤ x1) → vp_in x1 3 ∧ vp_in (((3 : Int32) * (μ p_MO 8)) + x1) 39 ∧ vp_in x1 3 ∧ vp_in (((3 : Int32) * (μ p_MO 8)) + x1) 39 ∧ vp_in (((3 : Int32) * (μ p_MO 8)) + x1) 39 ∧ vp_in (((3 : Int32) * (μ p_MO 8)) + x1) 39 ∧ vp_in (((3 : Int32) * (μ p_MO 8)) + x1) 39 ∧ vp_in (((3 : Int32) * (μ p_MO 8)) + x1) 39 ∧ K2 (x1 + (1 : Int32)) (up2 (up2 (up2 (up2 (up2 μ p_MO_at ((((3 : Int32) * (μ p_MO 8)) + x1)).toNatClampNeg (μ p_MO_bestAt (x1).toNatClampNeg)) p_MO_way ((((3 : Int32) * (μ p_MO 8)) + x1)).toNatClampNeg ((up2 μ p_MO_at ((((3 : Int32) * (μ p_MO 8)) + x1)).toNatClampNeg (μ p_MO_bestAt (x1).toNatClampNeg)) p_MO_bestWay (x1).toNatClampNeg)) p_MO_amount ((((3 : Int32) * (μ p_MO 8)) + x1)).toNatClampNeg ((up2 (up2 μ p_MO_at ((((3 : Int32) * (μ p_MO 8)) + x1)).toNatClampNeg (μ p_MO_bestAt (x1).toNatClampNeg)) p_MO_way ((((3 : Int32) * (μ p_MO 8)) + x1)).toNatClampNeg ((up2 μ p_MO_at ((((3 : Int32) * (μ p_MO 8)) + x1)).toNatClampNeg (μ p_MO_bestAt (x1).toNatClampNeg)) p_MO_bestWay (x1).toNatClampNeg)) p_MO_lineNeed ((((3 : Int32) * (μ p_MO 8)) + x1)).toNatClampNeg)) p_MO_rest ((((3 : Int32) * (μ p_MO 8)) + x1)).toNatClampNeg (0 : Int32)) p_MO_second ((((3 : Int32) * (μ p_MO 8)) + x1)).toNatClampNeg (0 : Int32))))
def F_X8_placesLeast_e  (K2 : Int32 → Mm → Prop) (q : Mm → Prop)  (μ : Mm) : Prop :=
  K2 (0 : Int32) μ
def Wp_X8_placesLeast   (μ : Mm) (q : Mm → Prop) : Prop := ∀ (K2 : Int32 → Mm → Prop), (∀ (x1 : Int32) (μ : Mm), F_X8_placesLeast_2  K2 q x1 μ → K2 x1 μ) → F_X8_placesLeast_e  K2 q  μ
abbrev KK_X8_placesLeast_2 (g : GE) (f : FE)  : Int32 → Mm → Prop := fun x1 μ => KW g f 3 0 0 2 [some (.ref p_MO), some (.int x1), none] [] μ
set_option maxHeartbeats 2000000 in
theorem b_X8_placesLeast_2  {g : GE} {f : FE} {q : Mm → Prop} (cx : Cx g f cX8_placesLeast 3 RX8 0 0 0 0) (hr : (f_M f).sig.returnType = none) (hl : (f_M f).locks = false) (hQ : f_Q f = MQ (f_b f) (QW g (qV q)) (f_a f) (f_s f) 0 0 (fun q => g.2.2.2 ≤ q))  {x1 : Int32} {μ : Mm} (h : F_X8_placesLeast_2  (KK_X8_placesLeast_2 g f ) q x1 μ) : KK_X8_placesLeast_2 g f  x1 μ := by
  unfold F_X8_placesLeast_2 at h
  show KW g f 3 0 0 2 [some (.ref p_MO), some (.int x1), none] [] μ
  refine k_iload_n cx dX8_placesLeast_2 rfl rfl ?_
  refine k_iconst (v := (3 : Int32)) cx dX8_placesLeast_3 (by decide +kernel) ?_
  refine k_icmp_ge (tgt := 72) cx dX8_placesLeast_4 (by decide) (fun hc => ?_) (fun hc => ?_)
  · replace h := h.1 hc
    exact k_ret_V cx hr hl hQ dX8_placesLeast_72 h
  · replace h := h.2 hc
    refine k_iconst (v := (3 : Int32)) cx dX8_placesLeast_7 (by decide +kernel) ?_
    refine k_aload_n cx dX8_placesLeast_8 rfl rfl ?_
    refine k_get (o := none) (v := .int (μ p_MO 8)) cx fl_X8_118 ob_MO rfl rfl dX8_placesLeast_9 ?_
    refine k_imul cx dX8_placesLeast_12 ?_
    refine k_iload_n cx dX8_placesLeast_13 rfl rfl ?_
    refine k_iadd cx dX8_placesLeast_14 ?_
    refine k_istore_n cx dX8_placesLeast_15 rfl (by decide) ?_
    refine k_aload_n cx dX8_placesLeast_16 rfl rfl ?_
    refine k_get (o := some p_MO_at) (v := .ref p_MO_at) cx fl_X8_38 ob_MO rfl rfl dX8_placesLeast_17 ?_
    refine k_iload_n cx dX8_placesLeast_20 rfl rfl ?_
    refine k_aload_n cx dX8_placesLeast_21 rfl rfl ?_
    refine k_get (o := some p_MO_bestAt) (v := .ref p_MO_bestAt) cx fl_X8_95 ob_MO rfl rfl dX8_placesLeast_22 ?_
    refine k_iload_n cx dX8_placesLeast_25 rfl rfl ?_
    obtain ⟨hi, h⟩ := h
    refine k_iald cx ar_MO_bestAt hi dX8_placesLeast_26 ?_
    obtain ⟨hi, h⟩ := h
    refine k_iast cx ar_MO_at hi dX8_placesLeast_27 ?_
    refine k_aload_n cx dX8_placesLeast_28 rfl rfl ?_
    refine k_get (o := some p_MO_way) (v := .ref p_MO_way) cx fl_X8_53 ob_MO rfl rfl dX8_placesLeast_29 ?_
    refine k_iload_n cx dX8_placesLeast_32 rfl rfl ?_
    refine k_aload_n cx dX8_placesLeast_33 rfl rfl ?_
    refine k_get (o := some p_MO_bestWay) (v := .ref p_MO_bestWay) cx fl_X8_98 ob_MO rfl rfl dX8_placesLeast_34 ?_
    refine k_iload_n cx dX8_placesLeast_37 rfl rfl ?_
    obtain ⟨hi, h⟩ := h
    refine k_iald cx ar_MO_bestWay hi dX8_placesLeast_38 ?_
    obtain ⟨hi, h⟩ := h
    refine k_iast cx ar_MO_way hi dX8_placesLeast_39 ?_
    refine k_aload_n cx dX8_placesLeast_40 rfl rfl ?_
    refine k_get (o := some p_MO_amount) (v := .ref p_MO_amount) cx fl_X8_50 ob_MO rfl rfl dX8_placesLeast_41 ?_
    refine k_iload_n cx dX8_placesLeast_44 rfl rfl ?_
    refine k_aload_n cx dX8_placesLeast_45 rfl rfl ?_
    refine k_get (o := some p_MO_lineNeed) (v := .ref p_MO_lineNeed) cx fl_X8_47 ob_MO rfl rfl dX8_placesLeast_46 ?_
    refine k_iload_n cx dX8_placesLeast_49 rfl rfl ?_
    obtain ⟨hi, h⟩ := h
    refine k_iald cx ar_MO_lineNeed hi dX8_placesLeast_50 ?_
    obtain ⟨hi, h⟩ := h
    refine k_iast cx ar_MO_amount hi dX8_placesLeast_51 ?_
    refine k_aload_n cx dX8_placesLeast_52 rfl rfl ?_
    refine k_get (o := some p_MO_rest) (v := .ref p_MO_rest) cx fl_X8_56 ob_MO rfl rfl dX8_placesLeast_53 ?_
    refine k_iload_n cx dX8_placesLeast_56 rfl rfl ?_
    refine k_iconst (v := (0 : Int32)) cx dX8_placesLeast_57 (by decide +kernel) ?_
    obtain ⟨hi, h⟩ := h
    refine k_iast cx ar_MO_rest hi dX8_placesLeast_58 ?_
    refine k_aload_n cx dX8_placesLeast_59 rfl rfl ?_
    refine k_get (o := some p_MO_second) (v := .ref p_MO_second) cx fl_X8_59 ob_MO rfl rfl dX8_placesLeast_60 ?_
    refine k_iload_n cx dX8_placesLeast_63 rfl rfl ?_
    refine k_iconst (v := (0 : Int32)) cx dX8_placesLeast_64 (by decide +kernel) ?_
    obtain ⟨hi, h⟩ := h
    refine k_iast cx ar_MO_second hi dX8_placesLeast_65 ?_
    refine k_iinc (v := (x1 + (1 : Int32))) cx dX8_placesLeast_66 rfl rfl (by decide) ?_
    refine k_goto (tgt := 2) cx dX8_placesLeast_69 (by decide) ?_
    exact k_weak h (lsLe.keep (lsLe.keep (lsLe.drop lsLe.nil)))
set_option maxHeartbeats 2000000 in
theorem b_X8_placesLeast_e  {g : GE} {f : FE} {q : Mm → Prop} (cx : Cx g f cX8_placesLeast 3 RX8 0 0 0 0) (hr : (f_M f).sig.returnType = none) (hl : (f_M f).locks = false) (hQ : f_Q f = MQ (f_b f) (QW g (qV q)) (f_a f) (f_s f) 0 0 (fun q => g.2.2.2 ≤ q))   {μ : Mm} (h : F_X8_placesLeast_e  (KK_X8_placesLeast_2 g f ) q  μ) : KW g f 3 0 0 0 [some (.ref p_MO), none, none] [] μ := by
  unfold F_X8_placesLeast_e at h
  refine k_iconst (v := (0 : Int32)) cx dX8_placesLeast_0 (by decide +kernel) ?_
  refine k_istore_n cx dX8_placesLeast_1 rfl (by decide) ?_
  exact k_weak h (lsLe.keep (lsLe.keep (lsLe.keep lsLe.nil)))
theorem m_X8_placesLeast {g : GE} {l : Launch} {μ : Mm} {q : Mm → Prop}  (h : Wp_X8_placesLeast   μ q) : MW g l yX8_placesLeast cX8_placesLeast 3 none 0 0 [.ref p_MO] μ (qV q) := by
  refine met_of (by decide) (Nat.le_of_ble_eq_true rfl) (by intro v hv; simp only [List.mem_cons, List.not_mem_nil, or_false] at hv; subst hv; rfl) ?_
  intro f hfl cx hr hl hQ
  exact b_X8_placesLeast_e  cx hr hl hQ (h (KK_X8_placesLeast_2 g f ) (fun _ _ h => b_X8_placesLeast_2  cx hr hl hQ h))
theorem dX8_roomOf_0 : decode cX8_roomOf 0 = .ok (.bipush 99, 2) := by decide +kernel
theorem dX8_roomOf_2 : decode cX8_roomOf 2 = .ok (.istore_n 2, 1) := by decide +kernel
theorem dX8_roomOf_3 : decode cX8_roomOf 3 = .ok (.iconst 0, 1) := by decide +kernel
theorem dX8_roomOf_4 : decode cX8_roomOf 4 = .ok (.istore_n 3, 1) := by decide +kernel
theorem dX8_roomOf_5 : decode cX8_roomOf 5 = .ok (.iload_n 3, 1) := by decide +kernel
theorem dX8_roomOf_6 : decode cX8_roomOf 6 = .ok (.aload_n 0, 1) := by decide +kernel
theorem dX8_roomOf_7 : decode cX8_roomOf 7 = .ok (.getfield 115, 3) := by decide +kernel
theorem dX8_roomOf_10 : decode cX8_roomOf 10 = .ok (.if_icmp .ge 38, 3) := by decide +kernel
theorem dX8_roomOf_13 : decode cX8_roomOf 13 = .ok (.iload_n 1, 1) := by decide +kernel
theorem dX8_roomOf_14 : decode cX8_roomOf 14 = .ok (.iload_n 3, 1) := by decide +kernel
theorem dX8_roomOf_15 : decode cX8_roomOf 15 = .ok (.invokestatic 136, 3) := by decide +kernel
theorem dX8_roomOf_18 : decode cX8_roomOf 18 = .ok (.ifCond .eq 22, 3) := by decide +kernel
theorem dX8_roomOf_21 : decode cX8_roomOf 21 = .ok (.aload_n 0, 1) := by decide +kernel
theorem dX8_roomOf_22 : decode cX8_roomOf 22 = .ok (.getfield 74, 3) := by decide +kernel
theorem dX8_roomOf_25 : decode cX8_roomOf 25 = .ok (.iload_n 3, 1) := by decide +kernel
theorem dX8_roomOf_26 : decode cX8_roomOf 26 = .ok (.iaload, 1) := by decide +kernel
theorem dX8_roomOf_27 : decode cX8_roomOf 27 = .ok (.iload_n 2, 1) := by decide +kernel
theorem dX8_roomOf_28 : decode cX8_roomOf 28 = .ok (.if_icmp .ge 12, 3) := by decide +kernel
theorem dX8_roomOf_31 : decode cX8_roomOf 31 = .ok (.aload_n 0, 1) := by decide +kernel
theorem dX8_roomOf_32 : decode cX8_roomOf 32 = .ok (.getfield 74, 3) := by decide +kernel
theorem dX8_roomOf_35 : decode cX8_roomOf 35 = .ok (.iload_n 3, 1) := by decide +kernel
theorem dX8_roomOf_36 : decode cX8_roomOf 36 = .ok (.iaload, 1) := by decide +kernel
theorem dX8_roomOf_37 : decode cX8_roomOf 37 = .ok (.goto 4, 3) := by decide +kernel
theorem dX8_roomOf_40 : decode cX8_roomOf 40 = .ok (.iload_n 2, 1) := by decide +kernel
theorem dX8_roomOf_41 : decode cX8_roomOf 41 = .ok (.istore_n 2, 1) := by decide +kernel
theorem dX8_roomOf_42 : decode cX8_roomOf 42 = .ok (.iinc 3 1, 3) := by decide +kernel
theorem dX8_roomOf_45 : decode cX8_roomOf 45 = .ok (.goto (-40), 3) := by decide +kernel
theorem dX8_roomOf_48 : decode cX8_roomOf 48 = .ok (.iload_n 2, 1) := by decide +kernel
theorem dX8_roomOf_49 : decode cX8_roomOf 49 = .ok (.ireturn, 1) := by decide +kernel
def F_X8_roomOf_5  (K5 : Int32 → Int32 → Int32 → Mm → Prop) (q : Int32 → Mm → Prop) (x1 : Int32) (x2 : Int32) (x3 : Int32) (μ : Mm) : Prop :=
  (((μ p_MO 3) ≤ x3 → q x2 μ) ∧ (¬ ((μ p_MO 3) ≤ x3) → Wp_X8_has x1 x3 μ (fun b2 μ1 => (((bI b2) = 0 → K5 x1 x2 (x3 + (1 : Int32)) μ1) ∧ (¬ ((bI b2) = 0) → vp_in x3 9 ∧ ((x2 ≤ (μ1 p_MO_free (x3).toNatClampNeg) → K5 x1 x2 (x3 + (1 : Int32)) μ1) ∧ (¬ (x2 ≤ (μ1 p_MO_free (x3).toNatClampNeg)) → vp_in x3 9 ∧ K5 x1 (μ1 p_MO_free (x3).toNatClampNeg) (x3 + (1 : Int32)) μ1)))))))
def F_X8_roomOf_e  (K5 : Int32 → Int32 → Int32 → Mm → Prop) (q : Int32 → Mm → Prop) (x1 : Int32) (μ : Mm) : Prop :=
  K5 x1 (99 : Int32) (0 : Int32) μ
def Wp_X8_roomOf  (x1 : Int32) (μ : Mm) (q : Int32 → Mm → Prop) : Prop := ∀ (K5 : Int32 → Int32 → Int32 → Mm → Prop), (∀ (x1 : Int32) (x2 : Int32) (x3 : Int32) (μ : Mm), F_X8_roomOf_5  K5 q x1 x2 x3 μ → K5 x1 x2 x3 μ) → F_X8_roomOf_e  K5 q x1 μ
abbrev KK_X8_roomOf_5 (g : GE) (f : FE)  : Int32 → Int32 → Int32 → Mm → Prop := fun x1 x2 x3 μ => KW g f 4 0 0 5 [some (.ref p_MO), some (.int x1), some (.int x2), some (.int x3)] [] μ
set_option maxHeartbeats 2000000 in
theorem b_X8_roomOf_5  {g : GE} {f : FE} {q : Int32 → Mm → Prop} (cx : Cx g f cX8_roomOf 4 RX8 1 21 0 0) (hr : (f_M f).sig.returnType = (some .int)) (hl : (f_M f).locks = false) (hQ : f_Q f = MQ (f_b f) (QW g (qI q)) (f_a f) (f_s f) 0 0 (fun q => g.2.2.2 ≤ q))  {x1 : Int32} {x2 : Int32} {x3 : Int32} {μ : Mm} (h : F_X8_roomOf_5  (KK_X8_roomOf_5 g f ) q x1 x2 x3 μ) : KK_X8_roomOf_5 g f  x1 x2 x3 μ := by
  unfold F_X8_roomOf_5 at h
  show KW g f 4 0 0 5 [some (.ref p_MO), some (.int x1), some (.int x2), some (.int x3)] [] μ
  refine k_iload_n cx dX8_roomOf_5 rfl rfl ?_
  refine k_aload_n cx dX8_roomOf_6 rfl rfl ?_
  refine k_get (o := none) (v := .int (μ p_MO 3)) cx fl_X8_115 ob_MO rfl rfl dX8_roomOf_7 ?_
  refine k_icmp_ge (tgt := 48) cx dX8_roomOf_10 (by decide) (fun hc => ?_) (fun hc => ?_)
  · replace h := h.1 hc
    refine k_iload_n cx dX8_roomOf_48 rfl rfl ?_
    exact k_ret_I cx hr hl hQ dX8_roomOf_49 h
  · replace h := h.2 hc
    refine k_iload_n cx dX8_roomOf_13 rfl rfl ?_
    refine k_iload_n cx dX8_roomOf_14 rfl rfl ?_
    refine k_callS (As := [.int x1, .int x3]) (rest := []) cx (m_X8_has h) cv_X8_136 rfl rfl (Nat.le_of_ble_eq_true rfl) ⟨Nat.le_of_ble_eq_true rfl, Nat.le_of_ble_eq_true rfl⟩ dX8_roomOf_15 (fun v μ1 hq => ?_)
    obtain ⟨b2, rfl, h⟩ := hq
    refine k_if_eq (tgt := 40) cx dX8_roomOf_18 (by decide) (fun hc => ?_) (fun hc => ?_)
    · replace h := h.1 hc
      refine k_iload_n cx dX8_roomOf_40 rfl rfl ?_
      refine k_istore_n cx dX8_roomOf_41 rfl (by decide) ?_
      refine k_iinc (v := (x3 + (1 : Int32))) cx dX8_roomOf_42 rfl rfl (by decide) ?_
      refine k_goto (tgt := 5) cx dX8_roomOf_45 (by decide) ?_
      exact k_weak h (lsLe.keep (lsLe.keep (lsLe.keep (lsLe.keep lsLe.nil))))
    · replace h := h.2 hc
      refine k_aload_n cx dX8_roomOf_21 rfl rfl ?_
      refine k_get (o := some p_MO_free) (v := .ref p_MO_free) cx fl_X8_74 ob_MO rfl rfl dX8_roomOf_22 ?_
      refine k_iload_n cx dX8_roomOf_25 rfl rfl ?_
      obtain ⟨hi, h⟩ := h
      refine k_iald cx ar_MO_free hi dX8_roomOf_26 ?_
      refine k_iload_n cx dX8_roomOf_27 rfl rfl ?_
      refine k_icmp_ge (tgt := 40) cx dX8_roomOf_28 (by decide) (fun hc => ?_) (fun hc => ?_)
      · replace h := h.1 hc
        refine k_iload_n cx dX8_roomOf_40 rfl rfl ?_
        refine k_istore_n cx dX8_roomOf_41 rfl (by decide) ?_
        refine k_iinc (v := (x3 + (1 : Int32))) cx dX8_roomOf_42 rfl rfl (by decide) ?_
        refine k_goto (tgt := 5) cx dX8_roomOf_45 (by decide) ?_
        exact k_weak h (lsLe.keep (lsLe.keep (lsLe.keep (lsLe.keep lsLe.nil))))
      · replace h := h.2 hc
        refine k_aload_n cx dX8_roomOf_31 rfl rfl ?_
        refine k_get (o := some p_MO_free) (v := .ref p_MO_free) cx fl_X8_74 ob_MO rfl rfl dX8_roomOf_32 ?_
        refine k_iload_n cx dX8_roomOf_35 rfl rfl ?_
        obtain ⟨hi, h⟩ := h
        refine k_iald cx ar_MO_free hi dX8_roomOf_36 ?_
        refine k_goto (tgt := 41) cx dX8_roomOf_37 (by decide) ?_
        refine k_istore_n cx dX8_roomOf_41 rfl (by decide) ?_
        refine k_iinc (v := (x3 + (1 : Int32))) cx dX8_roomOf_42 rfl rfl (by decide) ?_
        refine k_goto (tgt := 5) cx dX8_roomOf_45 (by decide) ?_
        exact k_weak h (lsLe.keep (lsLe.keep (lsLe.keep (lsLe.keep lsLe.nil))))
set_option maxHeartbeats 2000000 in
theorem b_X8_roomOf_e  {g : GE} {f : FE} {q : Int32 → Mm → Prop} (cx : Cx g f cX8_roomOf 4 RX8 1 21 0 0) (hr : (f_M f).sig.returnType = (some .int)) (hl : (f_M f).locks = false) (hQ : f_Q f = MQ (f_b f) (QW g (qI q)) (f_a f) (f_s f) 0 0 (fun q => g.2.2.2 ≤ q))  {x1 : Int32} {μ : Mm} (h : F_X8_roomOf_e  (KK_X8_roomOf_5 g f ) q x1 μ) : KW g f 4 0 0 0 [some (.ref p_MO), some (.int x1), none, none] [] μ := by
  unfold F_X8_roomOf_e at h
  refine k_bipush (v := (99 : Int32)) cx dX8_roomOf_0 (by decide +kernel) ?_
  refine k_istore_n cx dX8_roomOf_2 rfl (by decide) ?_
  refine k_iconst (v := (0 : Int32)) cx dX8_roomOf_3 (by decide +kernel) ?_
  refine k_istore_n cx dX8_roomOf_4 rfl (by decide) ?_
  exact k_weak h (lsLe.keep (lsLe.keep (lsLe.keep (lsLe.keep lsLe.nil))))
theorem m_X8_roomOf {g : GE} {l : Launch} {μ : Mm} {q : Int32 → Mm → Prop} {x1 : Int32}  (h : Wp_X8_roomOf  x1 μ q) : MW g l yX8_roomOf cX8_roomOf 4 (some .int) 1 21 [.ref p_MO, .int x1] μ (qI q) := by
  refine met_of (by decide) (Nat.le_of_ble_eq_true rfl) (by intro v hv; simp only [List.mem_cons, List.not_mem_nil, or_false] at hv; rcases hv with rfl | rfl <;> rfl) ?_
  intro f hfl cx hr hl hQ
  exact b_X8_roomOf_e  cx hr hl hQ (h (KK_X8_roomOf_5 g f ) (fun _ _ _ _ h => b_X8_roomOf_5  cx hr hl hQ h))
theorem dX8_widest_0 : decode cX8_widest 0 = .ok (.iconst 0, 1) := by decide +kernel
theorem dX8_widest_1 : decode cX8_widest 1 = .ok (.istore_n 2, 1) := by decide +kernel
theorem dX8_widest_2 : decode cX8_widest 2 = .ok (.iconst 0, 1) := by decide +kernel
theorem dX8_widest_3 : decode cX8_widest 3 = .ok (.istore_n 3, 1) := by decide +kernel
theorem dX8_widest_4 : decode cX8_widest 4 = .ok (.iload_n 3, 1) := by decide +kernel
theorem dX8_widest_5 : decode cX8_widest 5 = .ok (.aload_n 0, 1) := by decide +kernel
theorem dX8_widest_6 : decode cX8_widest 6 = .ok (.getfield 80, 3) := by decide +kernel
theorem dX8_widest_9 : decode cX8_widest 9 = .ok (.iload_n 1, 1) := by decide +kernel
theorem dX8_widest_10 : decode cX8_widest 10 = .ok (.iaload, 1) := by decide +kernel
theorem dX8_widest_11 : decode cX8_widest 11 = .ok (.if_icmp .ge 95, 3) := by decide +kernel
theorem dX8_widest_14 : decode cX8_widest 14 = .ok (.aload_n 0, 1) := by decide +kernel
theorem dX8_widest_15 : decode cX8_widest 15 = .ok (.getfield 77, 3) := by decide +kernel
theorem dX8_widest_18 : decode cX8_widest 18 = .ok (.bipush 64, 2) := by decide +kernel
theorem dX8_widest_20 : decode cX8_widest 20 = .ok (.iload_n 1, 1) := by decide +kernel
theorem dX8_widest_21 : decode cX8_widest 21 = .ok (.imul, 1) := by decide +kernel
theorem dX8_widest_22 : decode cX8_widest 22 = .ok (.iload_n 3, 1) := by decide +kernel
theorem dX8_widest_23 : decode cX8_widest 23 = .ok (.iadd, 1) := by decide +kernel
theorem dX8_widest_24 : decode cX8_widest 24 = .ok (.iaload, 1) := by decide +kernel
theorem dX8_widest_25 : decode cX8_widest 25 = .ok (.istore 4, 2) := by decide +kernel
theorem dX8_widest_27 : decode cX8_widest 27 = .ok (.iload_n 2, 1) := by decide +kernel
theorem dX8_widest_28 : decode cX8_widest 28 = .ok (.ifCond .ne 7, 3) := by decide +kernel
theorem dX8_widest_31 : decode cX8_widest 31 = .ok (.iconst 1, 1) := by decide +kernel
theorem dX8_widest_32 : decode cX8_widest 32 = .ok (.goto 15, 3) := by decide +kernel
theorem dX8_widest_35 : decode cX8_widest 35 = .ok (.aload_n 0, 1) := by decide +kernel
theorem dX8_widest_36 : decode cX8_widest 36 = .ok (.iload 4, 2) := by decide +kernel
theorem dX8_widest_38 : decode cX8_widest 38 = .ok (.invokevirtual 192, 3) := by decide +kernel
theorem dX8_widest_41 : decode cX8_widest 41 = .ok (.aload_n 0, 1) := by decide +kernel
theorem dX8_widest_42 : decode cX8_widest 42 = .ok (.iload_n 2, 1) := by decide +kernel
theorem dX8_widest_43 : decode cX8_widest 43 = .ok (.invokevirtual 192, 3) := by decide +kernel
theorem dX8_widest_46 : decode cX8_widest 46 = .ok (.isub, 1) := by decide +kernel
theorem dX8_widest_47 : decode cX8_widest 47 = .ok (.istore 5, 2) := by decide +kernel
theorem dX8_widest_49 : decode cX8_widest 49 = .ok (.iload 5, 2) := by decide +kernel
theorem dX8_widest_51 : decode cX8_widest 51 = .ok (.ifCond .gt 20, 3) := by decide +kernel
theorem dX8_widest_54 : decode cX8_widest 54 = .ok (.iload 5, 2) := by decide +kernel
theorem dX8_widest_56 : decode cX8_widest 56 = .ok (.ifCond .ne 19, 3) := by decide +kernel
theorem dX8_widest_59 : decode cX8_widest 59 = .ok (.iload 4, 2) := by decide +kernel
theorem dX8_widest_61 : decode cX8_widest 61 = .ok (.invokestatic 167, 3) := by decide +kernel
theorem dX8_widest_64 : decode cX8_widest 64 = .ok (.iload_n 2, 1) := by decide +kernel
theorem dX8_widest_65 : decode cX8_widest 65 = .ok (.invokestatic 167, 3) := by decide +kernel
theorem dX8_widest_68 : decode cX8_widest 68 = .ok (.if_icmp .ge 7, 3) := by decide +kernel
theorem dX8_widest_71 : decode cX8_widest 71 = .ok (.iconst 1, 1) := by decide +kernel
theorem dX8_widest_72 : decode cX8_widest 72 = .ok (.goto 4, 3) := by decide +kernel
theorem dX8_widest_75 : decode cX8_widest 75 = .ok (.iconst 0, 1) := by decide +kernel
theorem dX8_widest_76 : decode cX8_widest 76 = .ok (.istore 6, 2) := by decide +kernel
theorem dX8_widest_78 : decode cX8_widest 78 = .ok (.aload_n 0, 1) := by decide +kernel
theorem dX8_widest_79 : decode cX8_widest 79 = .ok (.iload 4, 2) := by decide +kernel
theorem dX8_widest_81 : decode cX8_widest 81 = .ok (.invokevirtual 192, 3) := by decide +kernel
theorem dX8_widest_84 : decode cX8_widest 84 = .ok (.iconst 1, 1) := by decide +kernel
theorem dX8_widest_85 : decode cX8_widest 85 = .ok (.if_icmp .lt 13, 3) := by decide +kernel
theorem dX8_widest_88 : decode cX8_widest 88 = .ok (.iload 6, 2) := by decide +kernel
theorem dX8_widest_90 : decode cX8_widest 90 = .ok (.ifCond .eq 8, 3) := by decide +kernel
theorem dX8_widest_93 : decode cX8_widest 93 = .ok (.iload 4, 2) := by decide +kernel
theorem dX8_widest_95 : decode cX8_widest 95 = .ok (.goto 4, 3) := by decide +kernel
theorem dX8_widest_98 : decode cX8_widest 98 = .ok (.iload_n 2, 1) := by decide +kernel
theorem dX8_widest_99 : decode cX8_widest 99 = .ok (.istore_n 2, 1) := by decide +kernel
theorem dX8_widest_100 : decode cX8_widest 100 = .ok (.iinc 3 1, 3) := by decide +kernel
theorem dX8_widest_103 : decode cX8_widest 103 = .ok (.goto (-99), 3) := by decide +kernel
theorem dX8_widest_106 : decode cX8_widest 106 = .ok (.iload_n 2, 1) := by decide +kernel
theorem dX8_widest_107 : decode cX8_widest 107 = .ok (.ireturn, 1) := by decide +kernel
def F_X8_widest_4  (K4 : Int32 → Int32 → Int32 → Mm → Prop) (K47 : Int32 → Int32 → Int32 → Int32 → Int32 → Mm → Prop) (K76 : Int32 → Int32 → Int32 → Int32 → Int32 → Mm → Prop) (q : Int32 → Mm → Prop) (x1 : Int32) (x2 : Int32) (x3 : Int32) (μ : Mm) : Prop :=
  vp_in x1 3 ∧ (((μ p_MO_many (x1).toNatClampNeg) ≤ x3 → q x2 μ) ∧ (¬ ((μ p_MO_many (x1).toNatClampNeg) ≤ x3) → vp_in (((64 : Int32) * x1) + x3) 192 ∧ ((¬ (x2 = 0) → Wp_X8_roomOf (μ p_MO_found ((((64 : Int32) * x1) + x3)).toNatClampNeg) μ (fun z2 μ1 => Wp_X8_roomOf x2 μ1 (fun z4 μ3 => K47 x1 x2 x3 (μ p_MO_found ((((64 : Int32) * x1) + x3)).toNatClampNeg) (z2 - z4) μ3))) ∧ (x2 = 0 → K47 x1 x2 x3 (μ p_MO_found ((((64 : Int32) * x1) + x3)).toNatClampNeg) (1 : Int32) μ))))
def F_X8_widest_47  (K4 : Int32 → Int32 → Int32 → Mm → Prop) (K47 : Int32 → Int32 → Int32 → Int32 → Int32 → Mm → Prop) (K76 : Int32 → Int32 → Int32 → Int32 → Int32 → Mm → Prop) (q : Int32 → Mm → Prop) (x1 : Int32) (x2 : Int32) (x3 : Int32) (x4 : Int32) (y0 : Int32) (μ : Mm) : Prop :=
  ((0 < y0 → K76 x1 x2 x3 x4 (1 : Int32) μ) ∧ (¬ (0 < y0) → ((¬ (y0 = 0) → K76 x1 x2 x3 x4 (0 : Int32) μ) ∧ (y0 = 0 → Wp_X8_bits x4 μ (fun z2 μ1 => Wp_X8_bits x2 μ1 (fun z4 μ3 => ((z4 ≤ z2 → K76 x1 x2 x3 x4 (0 : Int32) μ3) ∧ (¬ (z4 ≤ z2) → K76 x1 x2 x3 x4 (1 : Int32) μ3))))))))
def F_X8_widest_76  (K4 : Int32 → Int32 → Int32 → Mm → Prop) (K47 : Int32 → Int32 → Int32 → Int32 → Int32 → Mm → Prop) (K76 : Int32 → Int32 → Int32 → Int32 → Int32 → Mm → Prop) (q : Int32 → Mm → Prop) (x1 : Int32) (x2 : Int32) (x3 : Int32) (x4 : Int32) (y0 : Int32) (μ : Mm) : Prop :=
  Wp_X8_roomOf x4 μ (fun z2 μ1 => ((z2 < (1 : Int32) → K4 x1 x2 (x3 + (1 : Int32)) μ1) ∧ (¬ (z2 < (1 : Int32)) → ((y0 = 0 → K4 x1 x2 (x3 + (1 : Int32)) μ1) ∧ (¬ (y0 = 0) → K4 x1 x4 (x3 + (1 : Int32)) μ1)))))
def F_X8_widest_e  (K4 : Int32 → Int32 → Int32 → Mm → Prop) (K47 : Int32 → Int32 → Int32 → Int32 → Int32 → Mm → Prop) (K76 : Int32 → Int32 → Int32 → Int32 → Int32 → Mm → Prop) (q : Int32 → Mm → Prop) (x1 : Int32) (μ : Mm) : Prop :=
  K4 x1 (0 : Int32) (0 : Int32) μ
def Wp_X8_widest  (x1 : Int32) (μ : Mm) (q : Int32 → Mm → Prop) : Prop := ∀ (K4 : Int32 → Int32 → Int32 → Mm → Prop) (K47 : Int32 → Int32 → Int32 → Int32 → Int32 → Mm → Prop) (K76 : Int32 → Int32 → Int32 → Int32 → Int32 → Mm → Prop), (∀ (x1 : Int32) (x2 : Int32) (x3 : Int32) (μ : Mm), F_X8_widest_4  K4 K47 K76 q x1 x2 x3 μ → K4 x1 x2 x3 μ) → (∀ (x1 : Int32) (x2 : Int32) (x3 : Int32) (x4 : Int32) (y0 : Int32) (μ : Mm), F_X8_widest_47  K4 K47 K76 q x1 x2 x3 x4 y0 μ → K47 x1 x2 x3 x4 y0 μ) → (∀ (x1 : Int32) (x2 : Int32) (x3 : Int32) (x4 : Int32) (y0 : Int32) (μ : Mm), F_X8_widest_76  K4 K47 K76 q x1 x2 x3 x4 y0 μ → K76 x1 x2 x3 x4 y0 μ) → F_X8_widest_e  K4 K47 K76 q x1 μ
abbrev KK_X8_widest_4 (g : GE) (f : FE)  : Int32 → Int32 → Int32 → Mm → Prop := fun x1 x2 x3 μ => KW g f 7 0 0 4 [some (.ref p_MO), some (.int x1), some (.int x2), some (.int x3), none, none, none] [] μ
abbrev KK_X8_widest_47 (g : GE) (f : FE)  : Int32 → Int32 → Int32 → Int32 → Int32 → Mm → Prop := fun x1 x2 x3 x4 y0 μ => KW g f 7 0 0 47 [some (.ref p_MO), some (.int x1), some (.int x2), some (.int x3), some (.int x4), none, none] [.int y0] μ
abbrev KK_X8_widest_76 (g : GE) (f : FE)  : Int32 → Int32 → Int32 → Int32 → Int32 → Mm → Prop := fun x1 x2 x3 x4 y0 μ => KW g f 7 0 0 76 [some (.ref p_MO), some (.int x1), some (.int x2), some (.int x3), some (.int x4), none, none] [.int y0] μ
set_option maxHeartbeats 2000000 in
theorem b_X8_widest_4  {g : GE} {f : FE} {q : Int32 → Mm → Prop} (cx : Cx g f cX8_widest 7 RX8 2 44 0 0) (hr : (f_M f).sig.returnType = (some .int)) (hl : (f_M f).locks = false) (hQ : f_Q f = MQ (f_b f) (QW g (qI q)) (f_a f) (f_s f) 0 0 (fun q => g.2.2.2 ≤ q))  {x1 : Int32} {x2 : Int32} {x3 : Int32} {μ : Mm} (h : F_X8_widest_4  (KK_X8_widest_4 g f ) (KK_X8_widest_47 g f ) (KK_X8_widest_76 g f ) q x1 x2 x3 μ) : KK_X8_widest_4 g f  x1 x2 x3 μ := by
  unfold F_X8_widest_4 at h
  show KW g f 7 0 0 4 [some (.ref p_MO), some (.int x1), some (.int x2), some (.int x3), none, none, none] [] μ
  refine k_iload_n cx dX8_widest_4 rfl rfl ?_
  refine k_aload_n cx dX8_widest_5 rfl rfl ?_
  refine k_get (o := some p_MO_many) (v := .ref p_MO_many) cx fl_X8_80 ob_MO rfl rfl dX8_widest_6 ?_
  refine k_iload_n cx dX8_widest_9 rfl rfl ?_
  obtain ⟨hi, h⟩ := h
  refine k_iald cx ar_MO_many hi dX8_widest_10 ?_
  refine k_icmp_ge (tgt := 106) cx dX8_widest_11 (by decide) (fun hc => ?_) (fun hc => ?_)
  · replace h := h.1 hc
    refine k_iload_n cx dX8_widest_106 rfl rfl ?_
    exact k_ret_I cx hr hl hQ dX8_widest_107 h
  · replace h := h.2 hc
    refine k_aload_n cx dX8_widest_14 rfl rfl ?_
    refine k_get (o := some p_MO_found) (v := .ref p_MO_found) cx fl_X8_77 ob_MO rfl rfl dX8_widest_15 ?_
    refine k_bipush (v := (64 : Int32)) cx dX8_widest_18 (by decide +kernel) ?_
    refine k_iload_n cx dX8_widest_20 rfl rfl ?_
    refine k_imul cx dX8_widest_21 ?_
    refine k_iload_n cx dX8_widest_22 rfl rfl ?_
    refine k_iadd cx dX8_widest_23 ?_
    obtain ⟨hi, h⟩ := h
    refine k_iald cx ar_MO_found hi dX8_widest_24 ?_
    refine k_istore cx dX8_widest_25 (by decide) ?_
    refine k_iload_n cx dX8_widest_27 rfl rfl ?_
    refine k_if_ne (tgt := 35) cx dX8_widest_28 (by decide) (fun hc => ?_) (fun hc => ?_)
    · replace h := h.1 hc
      refine k_aload_n cx dX8_widest_35 rfl rfl ?_
      refine k_iload cx dX8_widest_36 rfl ?_
      refine k_callV (As := [.int (μ p_MO_found ((((64 : Int32) * x1) + x3)).toNatClampNeg)]) (rest := []) cx (m_X8_roomOf h) cv_X8_192 ob_MO rfl rfl rfl rfl (Nat.le_of_ble_eq_true rfl) ⟨Nat.le_of_ble_eq_true rfl, Nat.le_of_ble_eq_true rfl⟩ dX8_widest_38 (fun v μ1 hq => ?_)
      obtain ⟨z2, rfl, h⟩ := hq
      refine k_aload_n cx dX8_widest_41 rfl rfl ?_
      refine k_iload_n cx dX8_widest_42 rfl rfl ?_
      refine k_callV (As := [.int x2]) (rest := [.int z2]) cx (m_X8_roomOf h) cv_X8_192 ob_MO rfl rfl rfl rfl (Nat.le_of_ble_eq_true rfl) ⟨Nat.le_of_ble_eq_true rfl, Nat.le_of_ble_eq_true rfl⟩ dX8_widest_43 (fun v μ3 hq => ?_)
      obtain ⟨z4, rfl, h⟩ := hq
      refine k_isub cx dX8_widest_46 ?_
      exact k_weak h (lsLe.keep (lsLe.keep (lsLe.keep (lsLe.keep (lsLe.keep (lsLe.keep (lsLe.keep lsLe.nil)))))))
    · replace h := h.2 hc
      refine k_iconst (v := (1 : Int32)) cx dX8_widest_31 (by decide +kernel) ?_
      refine k_goto (tgt := 47) cx dX8_widest_32 (by decide) ?_
      exact k_weak h (lsLe.keep (lsLe.keep (lsLe.keep (lsLe.keep (lsLe.keep (lsLe.keep (lsLe.keep lsLe.nil)))))))
set_option maxHeartbeats 2000000 in
theorem b_X8_widest_47  {g : GE} {f : FE} {q : Int32 → Mm → Prop} (cx : Cx g f cX8_widest 7 RX8 2 44 0 0) (hr : (f_M f).sig.returnType = (some .int)) (hl : (f_M f).locks = false) (hQ : f_Q f = MQ (f_b f) (QW g (qI q)) (f_a f) (f_s f) 0 0 (fun q => g.2.2.2 ≤ q))  {x1 : Int32} {x2 : Int32} {x3 : Int32} {x4 : Int32} {y0 : Int32} {μ : Mm} (h : F_X8_widest_47  (KK_X8_widest_4 g f ) (KK_X8_widest_47 g f ) (KK_X8_widest_76 g f ) q x1 x2 x3 x4 y0 μ) : KK_X8_widest_47 g f  x1 x2 x3 x4 y0 μ := by
  unfold F_X8_widest_47 at h
  show KW g f 7 0 0 47 [some (.ref p_MO), some (.int x1), some (.int x2), some (.int x3), some (.int x4), none, none] [.int y0] μ
  refine k_istore cx dX8_widest_47 (by decide) ?_
  refine k_iload cx dX8_widest_49 rfl ?_
  refine k_if_gt (tgt := 71) cx dX8_widest_51 (by decide) (fun hc => ?_) (fun hc => ?_)
  · replace h := h.1 hc
    refine k_iconst (v := (1 : Int32)) cx dX8_widest_71 (by decide +kernel) ?_
    refine k_goto (tgt := 76) cx dX8_widest_72 (by decide) ?_
    exact k_weak h (lsLe.keep (lsLe.keep (lsLe.keep (lsLe.keep (lsLe.keep (lsLe.drop (lsLe.keep lsLe.nil)))))))
  · replace h := h.2 hc
    refine k_iload cx dX8_widest_54 rfl ?_
    refine k_if_ne (tgt := 75) cx dX8_widest_56 (by decide) (fun hc => ?_) (fun hc => ?_)
    · replace h := h.1 hc
      refine k_iconst (v := (0 : Int32)) cx dX8_widest_75 (by decide +kernel) ?_
      exact k_weak h (lsLe.keep (lsLe.keep (lsLe.keep (lsLe.keep (lsLe.keep (lsLe.drop (lsLe.keep lsLe.nil)))))))
    · replace h := h.2 hc
      refine k_iload cx dX8_widest_59 rfl ?_
      refine k_callS (As := [.int x4]) (rest := []) cx (m_X8_bits h) cv_X8_167 rfl rfl (Nat.le_of_ble_eq_true rfl) ⟨Nat.le_of_ble_eq_true rfl, Nat.le_of_ble_eq_true rfl⟩ dX8_widest_61 (fun v μ1 hq => ?_)
      obtain ⟨z2, rfl, h⟩ := hq
      refine k_iload_n cx dX8_widest_64 rfl rfl ?_
      refine k_callS (As := [.int x2]) (rest := [.int z2]) cx (m_X8_bits h) cv_X8_167 rfl rfl (Nat.le_of_ble_eq_true rfl) ⟨Nat.le_of_ble_eq_true rfl, Nat.le_of_ble_eq_true rfl⟩ dX8_widest_65 (fun v μ3 hq => ?_)
      obtain ⟨z4, rfl, h⟩ := hq
      refine k_icmp_ge (tgt := 75) cx dX8_widest_68 (by decide) (fun hc => ?_) (fun hc => ?_)
      · replace h := h.1 hc
        refine k_iconst (v := (0 : Int32)) cx dX8_widest_75 (by decide +kernel) ?_
        exact k_weak h (lsLe.keep (lsLe.keep (lsLe.keep (lsLe.keep (lsLe.keep (lsLe.drop (lsLe.keep lsLe.nil)))))))
      · replace h := h.2 hc
        refine k_iconst (v := (1 : Int32)) cx dX8_widest_71 (by decide +kernel) ?_
        refine k_goto (tgt := 76) cx dX8_widest_72 (by decide) ?_
        exact k_weak h (lsLe.keep (lsLe.keep (lsLe.keep (lsLe.keep (lsLe.keep (lsLe.drop (lsLe.keep lsLe.nil)))))))
set_option maxHeartbeats 2000000 in
theorem b_X8_widest_76  {g : GE} {f : FE} {q : Int32 → Mm → Prop} (cx : Cx g f cX8_widest 7 RX8 2 44 0 0) (hr : (f_M f).sig.returnType = (some .int)) (hl : (f_M f).locks = false) (hQ : f_Q f = MQ (f_b f) (QW g (qI q)) (f_a f) (f_s f) 0 0 (fun q => g.2.2.2 ≤ q))  {x1 : Int32} {x2 : Int32} {x3 : Int32} {x4 : Int32} {y0 : Int32} {μ : Mm} (h : F_X8_widest_76  (KK_X8_widest_4 g f ) (KK_X8_widest_47 g f ) (KK_X8_widest_76 g f ) q x1 x2 x3 x4 y0 μ) : KK_X8_widest_76 g f  x1 x2 x3 x4 y0 μ := by
  unfold F_X8_widest_76 at h
  show KW g f 7 0 0 76 [some (.ref p_MO), some (.int x1), some (.int x2), some (.int x3), some (.int x4), none, none] [.int y0] μ
  refine k_istore cx dX8_widest_76 (by decide) ?_
  refine k_aload_n cx dX8_widest_78 rfl rfl ?_
  refine k_iload cx dX8_widest_79 rfl ?_
  refine k_callV (As := [.int x4]) (rest := []) cx (m_X8_roomOf h) cv_X8_192 ob_MO rfl rfl rfl rfl (Nat.le_of_ble_eq_true rfl) ⟨Nat.le_of_ble_eq_true rfl, Nat.le_of_ble_eq_true rfl⟩ dX8_widest_81 (fun v μ1 hq => ?_)
  obtain ⟨z2, rfl, h⟩ := hq
  refine k_iconst (v := (1 : Int32)) cx dX8_widest_84 (by decide +kernel) ?_
  refine k_icmp_lt (tgt := 98) cx dX8_widest_85 (by decide) (fun hc => ?_) (fun hc => ?_)
  · replace h := h.1 hc
    refine k_iload_n cx dX8_widest_98 rfl rfl ?_
    refine k_istore_n cx dX8_widest_99 rfl (by decide) ?_
    refine k_iinc (v := (x3 + (1 : Int32))) cx dX8_widest_100 rfl rfl (by decide) ?_
    refine k_goto (tgt := 4) cx dX8_widest_103 (by decide) ?_
    exact k_weak h (lsLe.keep (lsLe.keep (lsLe.keep (lsLe.keep (lsLe.drop (lsLe.keep (lsLe.drop lsLe.nil)))))))
  · replace h := h.2 hc
    refine k_iload cx dX8_widest_88 rfl ?_
    refine k_if_eq (tgt := 98) cx dX8_widest_90 (by decide) (fun hc => ?_) (fun hc => ?_)
    · replace h := h.1 hc
      refine k_iload_n cx dX8_widest_98 rfl rfl ?_
      refine k_istore_n cx dX8_widest_99 rfl (by decide) ?_
      refine k_iinc (v := (x3 + (1 : Int32))) cx dX8_widest_100 rfl rfl (by decide) ?_
      refine k_goto (tgt := 4) cx dX8_widest_103 (by decide) ?_
      exact k_weak h (lsLe.keep (lsLe.keep (lsLe.keep (lsLe.keep (lsLe.drop (lsLe.keep (lsLe.drop lsLe.nil)))))))
    · replace h := h.2 hc
      refine k_iload cx dX8_widest_93 rfl ?_
      refine k_goto (tgt := 99) cx dX8_widest_95 (by decide) ?_
      refine k_istore_n cx dX8_widest_99 rfl (by decide) ?_
      refine k_iinc (v := (x3 + (1 : Int32))) cx dX8_widest_100 rfl rfl (by decide) ?_
      refine k_goto (tgt := 4) cx dX8_widest_103 (by decide) ?_
      exact k_weak h (lsLe.keep (lsLe.keep (lsLe.keep (lsLe.keep (lsLe.drop (lsLe.keep (lsLe.drop lsLe.nil)))))))
set_option maxHeartbeats 2000000 in
theorem b_X8_widest_e  {g : GE} {f : FE} {q : Int32 → Mm → Prop} (cx : Cx g f cX8_widest 7 RX8 2 44 0 0) (hr : (f_M f).sig.returnType = (some .int)) (hl : (f_M f).locks = false) (hQ : f_Q f = MQ (f_b f) (QW g (qI q)) (f_a f) (f_s f) 0 0 (fun q => g.2.2.2 ≤ q))  {x1 : Int32} {μ : Mm} (h : F_X8_widest_e  (KK_X8_widest_4 g f ) (KK_X8_widest_47 g f ) (KK_X8_widest_76 g f ) q x1 μ) : KW g f 7 0 0 0 [some (.ref p_MO), some (.int x1), none, none, none, none, none] [] μ := by
  unfold F_X8_widest_e at h
  refine k_iconst (v := (0 : Int32)) cx dX8_widest_0 (by decide +kernel) ?_
  refine k_istore_n cx dX8_widest_1 rfl (by decide) ?_
  refine k_iconst (v := (0 : Int32)) cx dX8_widest_2 (by decide +kernel) ?_
  refine k_istore_n cx dX8_widest_3 rfl (by decide) ?_
  exact k_weak h (lsLe.keep (lsLe.keep (lsLe.keep (lsLe.keep (lsLe.keep (lsLe.keep (lsLe.keep lsLe.nil)))))))
theorem m_X8_widest {g : GE} {l : Launch} {μ : Mm} {q : Int32 → Mm → Prop} {x1 : Int32}  (h : Wp_X8_widest  x1 μ q) : MW g l yX8_widest cX8_widest 7 (some .int) 2 44 [.ref p_MO, .int x1] μ (qI q) := by
  refine met_of (by decide) (Nat.le_of_ble_eq_true rfl) (by intro v hv; simp only [List.mem_cons, List.not_mem_nil, or_false] at hv; rcases hv with rfl | rfl <;> rfl) ?_
  intro f hfl cx hr hl hQ
  exact b_X8_widest_e  cx hr hl hQ (h (KK_X8_widest_4 g f ) (KK_X8_widest_47 g f ) (KK_X8_widest_76 g f ) (fun _ _ _ _ h => b_X8_widest_4  cx hr hl hQ h) (fun _ _ _ _ _ _ h => b_X8_widest_47  cx hr hl hQ h) (fun _ _ _ _ _ _ h => b_X8_widest_76  cx hr hl hQ h))
theorem dX8_splits_0 : decode cX8_splits 0 = .ok (.iconst 1, 1) := by decide +kernel
theorem dX8_splits_1 : decode cX8_splits 1 = .ok (.istore_n 1, 1) := by decide +kernel
theorem dX8_splits_2 : decode cX8_splits 2 = .ok (.iconst 0, 1) := by decide +kernel
theorem dX8_splits_3 : decode cX8_splits 3 = .ok (.istore_n 2, 1) := by decide +kernel
theorem dX8_splits_4 : decode cX8_splits 4 = .ok (.iload_n 2, 1) := by decide +kernel
theorem dX8_splits_5 : decode cX8_splits 5 = .ok (.aload_n 0, 1) := by decide +kernel
theorem dX8_splits_6 : decode cX8_splits 6 = .ok (.getfield 29, 3) := by decide +kernel
theorem dX8_splits_9 : decode cX8_splits 9 = .ok (.aload_n 0, 1) := by decide +kernel
theorem dX8_splits_10 : decode cX8_splits 10 = .ok (.getfield 118, 3) := by decide +kernel
theorem dX8_splits_13 : decode cX8_splits 13 = .ok (.iaload, 1) := by decide +kernel
theorem dX8_splits_14 : decode cX8_splits 14 = .ok (.if_icmp .ge 249, 3) := by decide +kernel
theorem dX8_splits_17 : decode cX8_splits 17 = .ok (.iload_n 1, 1) := by decide +kernel
theorem dX8_splits_18 : decode cX8_splits 18 = .ok (.ifCond .eq 245, 3) := by decide +kernel
theorem dX8_splits_21 : decode cX8_splits 21 = .ok (.iconst 3, 1) := by decide +kernel
theorem dX8_splits_22 : decode cX8_splits 22 = .ok (.aload_n 0, 1) := by decide +kernel
theorem dX8_splits_23 : decode cX8_splits 23 = .ok (.getfield 118, 3) := by decide +kernel
theorem dX8_splits_26 : decode cX8_splits 26 = .ok (.imul, 1) := by decide +kernel
theorem dX8_splits_27 : decode cX8_splits 27 = .ok (.iload_n 2, 1) := by decide +kernel
theorem dX8_splits_28 : decode cX8_splits 28 = .ok (.iadd, 1) := by decide +kernel
theorem dX8_splits_29 : decode cX8_splits 29 = .ok (.istore_n 3, 1) := by decide +kernel
theorem dX8_splits_30 : decode cX8_splits 30 = .ok (.aload_n 0, 1) := by decide +kernel
theorem dX8_splits_31 : decode cX8_splits 31 = .ok (.iload_n 2, 1) := by decide +kernel
theorem dX8_splits_32 : decode cX8_splits 32 = .ok (.aload_n 0, 1) := by decide +kernel
theorem dX8_splits_33 : decode cX8_splits 33 = .ok (.getfield 92, 3) := by decide +kernel
theorem dX8_splits_36 : decode cX8_splits 36 = .ok (.aload_n 0, 1) := by decide +kernel
theorem dX8_splits_37 : decode cX8_splits 37 = .ok (.getfield 41, 3) := by decide +kernel
theorem dX8_splits_40 : decode cX8_splits 40 = .ok (.iload_n 3, 1) := by decide +kernel
theorem dX8_splits_41 : decode cX8_splits 41 = .ok (.iaload, 1) := by decide +kernel
theorem dX8_splits_42 : decode cX8_splits 42 = .ok (.iaload, 1) := by decide +kernel
theorem dX8_splits_43 : decode cX8_splits 43 = .ok (.aload_n 0, 1) := by decide +kernel
theorem dX8_splits_44 : decode cX8_splits 44 = .ok (.getfield 92, 3) := by decide +kernel
theorem dX8_splits_47 : decode cX8_splits 47 = .ok (.aload_n 0, 1) := by decide +kernel
theorem dX8_splits_48 : decode cX8_splits 48 = .ok (.getfield 44, 3) := by decide +kernel
theorem dX8_splits_51 : decode cX8_splits 51 = .ok (.iload_n 3, 1) := by decide +kernel
theorem dX8_splits_52 : decode cX8_splits 52 = .ok (.iaload, 1) := by decide +kernel
theorem dX8_splits_53 : decode cX8_splits 53 = .ok (.iaload, 1) := by decide +kernel
theorem dX8_splits_54 : decode cX8_splits 54 = .ok (.invokevirtual 160, 3) := by decide +kernel
theorem dX8_splits_57 : decode cX8_splits 57 = .ok (.aload_n 0, 1) := by decide +kernel
theorem dX8_splits_58 : decode cX8_splits 58 = .ok (.getfield 56, 3) := by decide +kernel
theorem dX8_splits_61 : decode cX8_splits 61 = .ok (.iload_n 3, 1) := by decide +kernel
theorem dX8_splits_62 : decode cX8_splits 62 = .ok (.iconst 0, 1) := by decide +kernel
theorem dX8_splits_63 : decode cX8_splits 63 = .ok (.iastore, 1) := by decide +kernel
theorem dX8_splits_64 : decode cX8_splits 64 = .ok (.aload_n 0, 1) := by decide +kernel
theorem dX8_splits_65 : decode cX8_splits 65 = .ok (.getfield 50, 3) := by decide +kernel
theorem dX8_splits_68 : decode cX8_splits 68 = .ok (.iload_n 3, 1) := by decide +kernel
theorem dX8_splits_69 : decode cX8_splits 69 = .ok (.aload_n 0, 1) := by decide +kernel
theorem dX8_splits_70 : decode cX8_splits 70 = .ok (.getfield 47, 3) := by decide +kernel
theorem dX8_splits_73 : decode cX8_splits 73 = .ok (.iload_n 3, 1) := by decide +kernel
theorem dX8_splits_74 : decode cX8_splits 74 = .ok (.iaload, 1) := by decide +kernel
theorem dX8_splits_75 : decode cX8_splits 75 = .ok (.iastore, 1) := by decide +kernel
theorem dX8_splits_76 : decode cX8_splits 76 = .ok (.aload_n 0, 1) := by decide +kernel
theorem dX8_splits_77 : decode cX8_splits 77 = .ok (.getfield 53, 3) := by decide +kernel
theorem dX8_splits_80 : decode cX8_splits 80 = .ok (.iload_n 3, 1) := by decide +kernel
theorem dX8_splits_81 : decode cX8_splits 81 = .ok (.aload_n 0, 1) := by decide +kernel
theorem dX8_splits_82 : decode cX8_splits 82 = .ok (.iload_n 2, 1) := by decide +kernel
theorem dX8_splits_83 : decode cX8_splits 83 = .ok (.aload_n 0, 1) := by decide +kernel
theorem dX8_splits_84 : decode cX8_splits 84 = .ok (.getfield 47, 3) := by decide +kernel
theorem dX8_splits_87 : decode cX8_splits 87 = .ok (.iload_n 3, 1) := by decide +kernel
theorem dX8_splits_88 : decode cX8_splits 88 = .ok (.iaload, 1) := by decide +kernel
theorem dX8_splits_89 : decode cX8_splits 89 = .ok (.invokevirtual 195, 3) := by decide +kernel
theorem dX8_splits_92 : decode cX8_splits 92 = .ok (.iastore, 1) := by decide +kernel
theorem dX8_splits_93 : decode cX8_splits 93 = .ok (.aload_n 0, 1) := by decide +kernel
theorem dX8_splits_94 : decode cX8_splits 94 = .ok (.getfield 53, 3) := by decide +kernel
theorem dX8_splits_97 : decode cX8_splits 97 = .ok (.iload_n 3, 1) := by decide +kernel
theorem dX8_splits_98 : decode cX8_splits 98 = .ok (.iaload, 1) := by decide +kernel
theorem dX8_splits_99 : decode cX8_splits 99 = .ok (.ifCond .ne 142, 3) := by decide +kernel
theorem dX8_splits_102 : decode cX8_splits 102 = .ok (.aload_n 0, 1) := by decide +kernel
theorem dX8_splits_103 : decode cX8_splits 103 = .ok (.getfield 53, 3) := by decide +kernel
theorem dX8_splits_106 : decode cX8_splits 106 = .ok (.iload_n 3, 1) := by decide +kernel
theorem dX8_splits_107 : decode cX8_splits 107 = .ok (.aload_n 0, 1) := by decide +kernel
theorem dX8_splits_108 : decode cX8_splits 108 = .ok (.iload_n 2, 1) := by decide +kernel
theorem dX8_splits_109 : decode cX8_splits 109 = .ok (.invokevirtual 198, 3) := by decide +kernel
theorem dX8_splits_112 : decode cX8_splits 112 = .ok (.iastore, 1) := by decide +kernel
theorem dX8_splits_113 : decode cX8_splits 113 = .ok (.aload_n 0, 1) := by decide +kernel
theorem dX8_splits_114 : decode cX8_splits 114 = .ok (.getfield 53, 3) := by decide +kernel
theorem dX8_splits_117 : decode cX8_splits 117 = .ok (.iload_n 3, 1) := by decide +kernel
theorem dX8_splits_118 : decode cX8_splits 118 = .ok (.iaload, 1) := by decide +kernel
theorem dX8_splits_119 : decode cX8_splits 119 = .ok (.ifCond .eq 7, 3) := by decide +kernel
theorem dX8_splits_122 : decode cX8_splits 122 = .ok (.iconst 1, 1) := by decide +kernel
theorem dX8_splits_123 : decode cX8_splits 123 = .ok (.goto 4, 3) := by decide +kernel
theorem dX8_splits_126 : decode cX8_splits 126 = .ok (.iconst 0, 1) := by decide +kernel
theorem dX8_splits_127 : decode cX8_splits 127 = .ok (.istore_n 1, 1) := by decide +kernel
theorem dX8_splits_128 : decode cX8_splits 128 = .ok (.aload_n 0, 1) := by decide +kernel
theorem dX8_splits_129 : decode cX8_splits 129 = .ok (.getfield 50, 3) := by decide +kernel
theorem dX8_splits_132 : decode cX8_splits 132 = .ok (.iload_n 3, 1) := by decide +kernel
theorem dX8_splits_133 : decode cX8_splits 133 = .ok (.iload_n 1, 1) := by decide +kernel
theorem dX8_splits_134 : decode cX8_splits 134 = .ok (.ifCond .eq 16, 3) := by decide +kernel
theorem dX8_splits_137 : decode cX8_splits 137 = .ok (.aload_n 0, 1) := by decide +kernel
theorem dX8_splits_138 : decode cX8_splits 138 = .ok (.aload_n 0, 1) := by decide +kernel
theorem dX8_splits_139 : decode cX8_splits 139 = .ok (.getfield 53, 3) := by decide +kernel
theorem dX8_splits_142 : decode cX8_splits 142 = .ok (.iload_n 3, 1) := by decide +kernel
theorem dX8_splits_143 : decode cX8_splits 143 = .ok (.iaload, 1) := by decide +kernel
theorem dX8_splits_144 : decode cX8_splits 144 = .ok (.invokevirtual 192, 3) := by decide +kernel
theorem dX8_splits_147 : decode cX8_splits 147 = .ok (.goto 4, 3) := by decide +kernel
theorem dX8_splits_150 : decode cX8_splits 150 = .ok (.iconst 0, 1) := by decide +kernel
theorem dX8_splits_151 : decode cX8_splits 151 = .ok (.iastore, 1) := by decide +kernel
theorem dX8_splits_152 : decode cX8_splits 152 = .ok (.aload_n 0, 1) := by decide +kernel
theorem dX8_splits_153 : decode cX8_splits 153 = .ok (.aload_n 0, 1) := by decide +kernel
theorem dX8_splits_154 : decode cX8_splits 154 = .ok (.getfield 53, 3) := by decide +kernel
theorem dX8_splits_157 : decode cX8_splits 157 = .ok (.iload_n 3, 1) := by decide +kernel
theorem dX8_splits_158 : decode cX8_splits 158 = .ok (.iaload, 1) := by decide +kernel
theorem dX8_splits_159 : decode cX8_splits 159 = .ok (.aload_n 0, 1) := by decide +kernel
theorem dX8_splits_160 : decode cX8_splits 160 = .ok (.getfield 50, 3) := by decide +kernel
theorem dX8_splits_163 : decode cX8_splits 163 = .ok (.iload_n 3, 1) := by decide +kernel
theorem dX8_splits_164 : decode cX8_splits 164 = .ok (.iaload, 1) := by decide +kernel
theorem dX8_splits_165 : decode cX8_splits 165 = .ok (.invokevirtual 176, 3) := by decide +kernel
theorem dX8_splits_168 : decode cX8_splits 168 = .ok (.aload_n 0, 1) := by decide +kernel
theorem dX8_splits_169 : decode cX8_splits 169 = .ok (.getfield 56, 3) := by decide +kernel
theorem dX8_splits_172 : decode cX8_splits 172 = .ok (.iload_n 3, 1) := by decide +kernel
theorem dX8_splits_173 : decode cX8_splits 173 = .ok (.iload_n 1, 1) := by decide +kernel
theorem dX8_splits_174 : decode cX8_splits 174 = .ok (.ifCond .eq 24, 3) := by decide +kernel
theorem dX8_splits_177 : decode cX8_splits 177 = .ok (.aload_n 0, 1) := by decide +kernel
theorem dX8_splits_178 : decode cX8_splits 178 = .ok (.iload_n 2, 1) := by decide +kernel
theorem dX8_splits_179 : decode cX8_splits 179 = .ok (.aload_n 0, 1) := by decide +kernel
theorem dX8_splits_180 : decode cX8_splits 180 = .ok (.getfield 47, 3) := by decide +kernel
theorem dX8_splits_183 : decode cX8_splits 183 = .ok (.iload_n 3, 1) := by decide +kernel
theorem dX8_splits_184 : decode cX8_splits 184 = .ok (.iaload, 1) := by decide +kernel
theorem dX8_splits_185 : decode cX8_splits 185 = .ok (.aload_n 0, 1) := by decide +kernel
theorem dX8_splits_186 : decode cX8_splits 186 = .ok (.getfield 50, 3) := by decide +kernel
theorem dX8_splits_189 : decode cX8_splits 189 = .ok (.iload_n 3, 1) := by decide +kernel
theorem dX8_splits_190 : decode cX8_splits 190 = .ok (.iaload, 1) := by decide +kernel
theorem dX8_splits_191 : decode cX8_splits 191 = .ok (.isub, 1) := by decide +kernel
theorem dX8_splits_192 : decode cX8_splits 192 = .ok (.invokevirtual 195, 3) := by decide +kernel
theorem dX8_splits_195 : decode cX8_splits 195 = .ok (.goto 4, 3) := by decide +kernel
theorem dX8_splits_198 : decode cX8_splits 198 = .ok (.iconst 0, 1) := by decide +kernel
theorem dX8_splits_199 : decode cX8_splits 199 = .ok (.iastore, 1) := by decide +kernel
theorem dX8_splits_200 : decode cX8_splits 200 = .ok (.aload_n 0, 1) := by decide +kernel
theorem dX8_splits_201 : decode cX8_splits 201 = .ok (.getfield 56, 3) := by decide +kernel
theorem dX8_splits_204 : decode cX8_splits 204 = .ok (.iload_n 3, 1) := by decide +kernel
theorem dX8_splits_205 : decode cX8_splits 205 = .ok (.iaload, 1) := by decide +kernel
theorem dX8_splits_206 : decode cX8_splits 206 = .ok (.ifCond .eq 7, 3) := by decide +kernel
theorem dX8_splits_209 : decode cX8_splits 209 = .ok (.iconst 1, 1) := by decide +kernel
theorem dX8_splits_210 : decode cX8_splits 210 = .ok (.goto 4, 3) := by decide +kernel
theorem dX8_splits_213 : decode cX8_splits 213 = .ok (.iconst 0, 1) := by decide +kernel
theorem dX8_splits_214 : decode cX8_splits 214 = .ok (.istore_n 1, 1) := by decide +kernel
theorem dX8_splits_215 : decode cX8_splits 215 = .ok (.aload_n 0, 1) := by decide +kernel
theorem dX8_splits_216 : decode cX8_splits 216 = .ok (.aload_n 0, 1) := by decide +kernel
theorem dX8_splits_217 : decode cX8_splits 217 = .ok (.getfield 56, 3) := by decide +kernel
theorem dX8_splits_220 : decode cX8_splits 220 = .ok (.iload_n 3, 1) := by decide +kernel
theorem dX8_splits_221 : decode cX8_splits 221 = .ok (.iaload, 1) := by decide +kernel
theorem dX8_splits_222 : decode cX8_splits 222 = .ok (.aload_n 0, 1) := by decide +kernel
theorem dX8_splits_223 : decode cX8_splits 223 = .ok (.getfield 47, 3) := by decide +kernel
theorem dX8_splits_226 : decode cX8_splits 226 = .ok (.iload_n 3, 1) := by decide +kernel
theorem dX8_splits_227 : decode cX8_splits 227 = .ok (.iaload, 1) := by decide +kernel
theorem dX8_splits_228 : decode cX8_splits 228 = .ok (.aload_n 0, 1) := by decide +kernel
theorem dX8_splits_229 : decode cX8_splits 229 = .ok (.getfield 50, 3) := by decide +kernel
theorem dX8_splits_232 : decode cX8_splits 232 = .ok (.iload_n 3, 1) := by decide +kernel
theorem dX8_splits_233 : decode cX8_splits 233 = .ok (.iaload, 1) := by decide +kernel
theorem dX8_splits_234 : decode cX8_splits 234 = .ok (.isub, 1) := by decide +kernel
theorem dX8_splits_235 : decode cX8_splits 235 = .ok (.invokevirtual 176, 3) := by decide +kernel
theorem dX8_splits_238 : decode cX8_splits 238 = .ok (.goto 19, 3) := by decide +kernel
theorem dX8_splits_241 : decode cX8_splits 241 = .ok (.aload_n 0, 1) := by decide +kernel
theorem dX8_splits_242 : decode cX8_splits 242 = .ok (.aload_n 0, 1) := by decide +kernel
theorem dX8_splits_243 : decode cX8_splits 243 = .ok (.getfield 53, 3) := by decide +kernel
theorem dX8_splits_246 : decode cX8_splits 246 = .ok (.iload_n 3, 1) := by decide +kernel
theorem dX8_splits_247 : decode cX8_splits 247 = .ok (.iaload, 1) := by decide +kernel
theorem dX8_splits_248 : decode cX8_splits 248 = .ok (.aload_n 0, 1) := by decide +kernel
theorem dX8_splits_249 : decode cX8_splits 249 = .ok (.getfield 50, 3) := by decide +kernel
theorem dX8_splits_252 : decode cX8_splits 252 = .ok (.iload_n 3, 1) := by decide +kernel
theorem dX8_splits_253 : decode cX8_splits 253 = .ok (.iaload, 1) := by decide +kernel
theorem dX8_splits_254 : decode cX8_splits 254 = .ok (.invokevirtual 176, 3) := by decide +kernel
theorem dX8_splits_257 : decode cX8_splits 257 = .ok (.iinc 2 1, 3) := by decide +kernel
theorem dX8_splits_260 : decode cX8_splits 260 = .ok (.goto (-256), 3) := by decide +kernel
theorem dX8_splits_263 : decode cX8_splits 263 = .ok (.iload_n 1, 1) := by decide +kernel
theorem dX8_splits_264 : decode cX8_splits 264 = .ok (.ireturn, 1) := by decide +kernel
def F_X8_splits_4  (K4 : Int32 → Int32 → Mm → Prop) (K127 : Int32 → Int32 → Int32 → Mm → Prop) (K151 : Int32 → Int32 → Int32 → Int32 → Int32 → Mm → Prop) (K199 : Int32 → Int32 → Int32 → Int32 → Mm → Prop) (K214 : Int32 → Int32 → Int32 → Mm → Prop) (q : Bool → Mm → Prop) (x1 : Int32) (x2 : Int32) (μ : Mm) : Prop :=
  vp_in (μ p_MO 8) 13 ∧ (((μ p_MO_lines ((μ p_MO 8)).toNatClampNeg) ≤ x2 → ∃ b : Bool, x1 = bI b ∧ q b μ) ∧ (¬ ((μ p_MO_lines ((μ p_MO 8)).toNatClampNeg) ≤ x2) → ((x1 = 0 → ∃ b : Bool, x1 = bI b ∧ q b μ) ∧ (¬ (x1 = 0) → vp_in (((3 : Int32) * (μ p_MO 8)) + x2) 39 ∧ vp_in (μ p_MO_lineFrom ((((3 : Int32) * (μ p_MO 8)) + x2)).toNatClampNeg) 3 ∧ vp_in (((3 : Int32) * (μ p_MO 8)) + x2) 39 ∧ vp_in (μ p_MO_lineTo ((((3 : Int32) * (μ p_MO 8)) + x2)).toNatClampNeg) 3 ∧ Wp_X8_finds x2 (μ p_MO_tries ((μ p_MO_lineFrom ((((3 : Int32) * (μ p_MO 8)) + x2)).toNatClampNeg)).toNatClampNeg) (μ p_MO_tries ((μ p_MO_lineTo ((((3 : Int32) * (μ p_MO 8)) + x2)).toNatClampNeg)).toNatClampNeg) μ (fun μ1 => vp_in (((3 : Int32) * (μ p_MO 8)) + x2) 39 ∧ vp_in (((3 : Int32) * (μ p_MO 8)) + x2) 39 ∧ vp_in (((3 : Int32) * (μ p_MO 8)) + x2) 39 ∧ vp_in (((3 : Int32) * (μ p_MO 8)) + x2) 39 ∧ Wp_X8_fewest x2 ((up2 (up2 μ1 p_MO_rest ((((3 : Int32) * (μ p_MO 8)) + x2)).toNatClampNeg (0 : Int32)) p_MO_amount ((((3 : Int32) * (μ p_MO 8)) + x2)).toNatClampNeg ((up2 μ1 p_MO_rest ((((3 : Int32) * (μ p_MO 8)) + x2)).toNatClampNeg (0 : Int32)) p_MO_lineNeed ((((3 : Int32) * (μ p_MO 8)) + x2)).toNatClampNeg)) p_MO_lineNeed ((((3 : Int32) * (μ p_MO 8)) + x2)).toNatClampNeg) (up2 (up2 μ1 p_MO_rest ((((3 : Int32) * (μ p_MO 8)) + x2)).toNatClampNeg (0 : Int32)) p_MO_amount ((((3 : Int32) * (μ p_MO 8)) + x2)).toNatClampNeg ((up2 μ1 p_MO_rest ((((3 : Int32) * (μ p_MO 8)) + x2)).toNatClampNeg (0 : Int32)) p_MO_lineNeed ((((3 : Int32) * (μ p_MO 8)) + x2)).toNatClampNeg)) (fun z3 μ2 => vp_in (((3 : Int32) * (μ p_MO 8)) + x2) 39 ∧ vp_in (((3 : Int32) * (μ p_MO 8)) + x2) 39 ∧ ((¬ (((up2 μ2 p_MO_way ((((3 : Int32) * (μ p_MO 8)) + x2)).toNatClampNeg z3) p_MO_way ((((3 : Int32) * (μ p_MO 8)) + x2)).toNatClampNeg) = 0) → vp_in (((3 : Int32) * (μ p_MO 8)) + x2) 39 ∧ vp_in (((3 : Int32) * (μ p_MO 8)) + x2) 39 ∧ Wp_X8_takes ((up2 μ2 p_MO_way ((((3 : Int32) * (μ p_MO 8)) + x2)).toNatClampNeg z3) p_MO_way ((((3 : Int32) * (μ p_MO 8)) + x2)).toNatClampNeg) ((up2 μ2 p_MO_way ((((3 : Int32) * (μ p_MO 8)) + x2)).toNatClampNeg z3) p_MO_amount ((((3 : Int32) * (μ p_MO 8)) + x2)).toNatClampNeg) (up2 μ2 p_MO_way ((((3 : Int32) * (μ p_MO 8)) + x2)).toNatClampNeg z3) (fun μ4 => K4 x1 (x2 + (1 : Int32)) μ4)) ∧ (((up2 μ2 p_MO_way ((((3 : Int32) * (μ p_MO 8)) + x2)).toNatClampNeg z3) p_MO_way ((((3 : Int32) * (μ p_MO 8)) + x2)).toNatClampNeg) = 0 → Wp_X8_widest x2 (up2 μ2 p_MO_way ((((3 : Int32) * (μ p_MO 8)) + x2)).toNatClampNeg z3) (fun z6 μ5 => vp_in (((3 : Int32) * (μ p_MO 8)) + x2) 39 ∧ vp_in (((3 : Int32) * (μ p_MO 8)) + x2) 39 ∧ ((((up2 μ5 p_MO_way ((((3 : Int32) * (μ p_MO 8)) + x2)).toNatClampNeg z6) p_MO_way ((((3 : Int32) * (μ p_MO 8)) + x2)).toNatClampNeg) = 0 → K127 x2 (((3 : Int32) * (μ p_MO 8)) + x2) (0 : Int32) (up2 μ5 p_MO_way ((((3 : Int32) * (μ p_MO 8)) + x2)).toNatClampNeg z6)) ∧ (¬ (((up2 μ5 p_MO_way ((((3 : Int32) * (μ p_MO 8)) + x2)).toNatClampNeg z6) p_MO_way ((((3 : Int32) * (μ p_MO 8)) + x2)).toNatClampNeg) = 0) → K127 x2 (((3 : Int32) * (μ p_MO 8)) + x2) (1 : Int32) (up2 μ5 p_MO_way ((((3 : Int32) * (μ p_MO 8)) + x2)).toNatClampNeg z6))))))))))))
def F_X8_splits_127  (K4 : Int32 → Int32 → Mm → Prop) (K127 : Int32 → Int32 → Int32 → Mm → Prop) (K151 : Int32 → Int32 → Int32 → Int32 → Int32 → Mm → Prop) (K199 : Int32 → Int32 → Int32 → Int32 → Mm → Prop) (K214 : Int32 → Int32 → Int32 → Mm → Prop) (q : Bool → Mm → Prop) (x2 : Int32) (x3 : Int32) (y0 : Int32) (μ : Mm) : Prop :=
  ((y0 = 0 → K151 y0 x2 x3 (0 : Int32) x3 μ) ∧ (¬ (y0 = 0) → vp_in x3 39 ∧ Wp_X8_roomOf (μ p_MO_way (x3).toNatClampNeg) μ (fun z2 μ1 => K151 y0 x2 x3 z2 x3 μ1)))
def F_X8_splits_151  (K4 : Int32 → Int32 → Mm → Prop) (K127 : Int32 → Int32 → Int32 → Mm → Prop) (K151 : Int32 → Int32 → Int32 → Int32 → Int32 → Mm → Prop) (K199 : Int32 → Int32 → Int32 → Int32 → Mm → Prop) (K214 : Int32 → Int32 → Int32 → Mm → Prop) (q : Bool → Mm → Prop) (x1 : Int32) (x2 : Int32) (x3 : Int32) (y0 : Int32) (y1 : Int32) (μ : Mm) : Prop :=
  vp_in y1 39 ∧ vp_in x3 39 ∧ vp_in x3 39 ∧ Wp_X8_takes ((up2 μ p_MO_amount (y1).toNatClampNeg y0) p_MO_way (x3).toNatClampNeg) ((up2 μ p_MO_amount (y1).toNatClampNeg y0) p_MO_amount (x3).toNatClampNeg) (up2 μ p_MO_amount (y1).toNatClampNeg y0) (fun μ1 => ((x1 = 0 → K199 x2 x3 (0 : Int32) x3 μ1) ∧ (¬ (x1 = 0) → vp_in x3 39 ∧ vp_in x3 39 ∧ Wp_X8_fewest x2 ((μ1 p_MO_lineNeed (x3).toNatClampNeg) - (μ1 p_MO_amount (x3).toNatClampNeg)) μ1 (fun z3 μ2 => K199 x2 x3 z3 x3 μ2))))
def F_X8_splits_199  (K4 : Int32 → Int32 → Mm → Prop) (K127 : Int32 → Int32 → Int32 → Mm → Prop) (K151 : Int32 → Int32 → Int32 → Int32 → Int32 → Mm → Prop) (K199 : Int32 → Int32 → Int32 → Int32 → Mm → Prop) (K214 : Int32 → Int32 → Int32 → Mm → Prop) (q : Bool → Mm → Prop) (x2 : Int32) (x3 : Int32) (y0 : Int32) (y1 : Int32) (μ : Mm) : Prop :=
  vp_in y1 39 ∧ vp_in x3 39 ∧ ((((up2 μ p_MO_rest (y1).toNatClampNeg y0) p_MO_rest (x3).toNatClampNeg) = 0 → K214 x2 x3 (0 : Int32) (up2 μ p_MO_rest (y1).toNatClampNeg y0)) ∧ (¬ (((up2 μ p_MO_rest (y1).toNatClampNeg y0) p_MO_rest (x3).toNatClampNeg) = 0) → K214 x2 x3 (1 : Int32) (up2 μ p_MO_rest (y1).toNatClampNeg y0)))
def F_X8_splits_214  (K4 : Int32 → Int32 → Mm → Prop) (K127 : Int32 → Int32 → Int32 → Mm → Prop) (K151 : Int32 → Int32 → Int32 → Int32 → Int32 → Mm → Prop) (K199 : Int32 → Int32 → Int32 → Int32 → Mm → Prop) (K214 : Int32 → Int32 → Int32 → Mm → Prop) (q : Bool → Mm → Prop) (x2 : Int32) (x3 : Int32) (y0 : Int32) (μ : Mm) : Prop :=
  vp_in x3 39 ∧ vp_in x3 39 ∧ vp_in x3 39 ∧ Wp_X8_takes (μ p_MO_rest (x3).toNatClampNeg) ((μ p_MO_lineNeed (x3).toNatClampNeg) - (μ p_MO_amount (x3).toNatClampNeg)) μ (fun μ1 => K4 y0 (x2 + (1 : Int32)) μ1)
def F_X8_splits_e  (K4 : Int32 → Int32 → Mm → Prop) (K127 : Int32 → Int32 → Int32 → Mm → Prop) (K151 : Int32 → Int32 → Int32 → Int32 → Int32 → Mm → Prop) (K199 : Int32 → Int32 → Int32 → Int32 → Mm → Prop) (K214 : Int32 → Int32 → Int32 → Mm → Prop) (q : Bool → Mm → Prop)  (μ : Mm) : Prop :=
  K4 (1 : Int32) (0 : Int32) μ
def Wp_X8_splits   (μ : Mm) (q : Bool → Mm → Prop) : Prop := ∀ (K4 : Int32 → Int32 → Mm → Prop) (K127 : Int32 → Int32 → Int32 → Mm → Prop) (K151 : Int32 → Int32 → Int32 → Int32 → Int32 → Mm → Prop) (K199 : Int32 → Int32 → Int32 → Int32 → Mm → Prop) (K214 : Int32 → Int32 → Int32 → Mm → Prop), (∀ (x1 : Int32) (x2 : Int32) (μ : Mm), F_X8_splits_4  K4 K127 K151 K199 K214 q x1 x2 μ → K4 x1 x2 μ) → (∀ (x2 : Int32) (x3 : Int32) (y0 : Int32) (μ : Mm), F_X8_splits_127  K4 K127 K151 K199 K214 q x2 x3 y0 μ → K127 x2 x3 y0 μ) → (∀ (x1 : Int32) (x2 : Int32) (x3 : Int32) (y0 : Int32) (y1 : Int32) (μ : Mm), F_X8_splits_151  K4 K127 K151 K199 K214 q x1 x2 x3 y0 y1 μ → K151 x1 x2 x3 y0 y1 μ) → (∀ (x2 : Int32) (x3 : Int32) (y0 : Int32) (y1 : Int32) (μ : Mm), F_X8_splits_199  K4 K127 K151 K199 K214 q x2 x3 y0 y1 μ → K199 x2 x3 y0 y1 μ) → (∀ (x2 : Int32) (x3 : Int32) (y0 : Int32) (μ : Mm), F_X8_splits_214  K4 K127 K151 K199 K214 q x2 x3 y0 μ → K214 x2 x3 y0 μ) → F_X8_splits_e  K4 K127 K151 K199 K214 q  μ
abbrev KK_X8_splits_4 (g : GE) (f : FE)  : Int32 → Int32 → Mm → Prop := fun x1 x2 μ => KW g f 4 0 0 4 [some (.ref p_MO), some (.int x1), some (.int x2), none] [] μ
abbrev KK_X8_splits_127 (g : GE) (f : FE)  : Int32 → Int32 → Int32 → Mm → Prop := fun x2 x3 y0 μ => KW g f 4 0 0 127 [some (.ref p_MO), none, some (.int x2), some (.int x3)] [.int y0] μ
abbrev KK_X8_splits_151 (g : GE) (f : FE)  : Int32 → Int32 → Int32 → Int32 → Int32 → Mm → Prop := fun x1 x2 x3 y0 y1 μ => KW g f 4 0 0 151 [some (.ref p_MO), some (.int x1), some (.int x2), some (.int x3)] [.int y0, .int y1, .ref p_MO_amount] μ
abbrev KK_X8_splits_199 (g : GE) (f : FE)  : Int32 → Int32 → Int32 → Int32 → Mm → Prop := fun x2 x3 y0 y1 μ => KW g f 4 0 0 199 [some (.ref p_MO), none, some (.int x2), some (.int x3)] [.int y0, .int y1, .ref p_MO_rest] μ
abbrev KK_X8_splits_214 (g : GE) (f : FE)  : Int32 → Int32 → Int32 → Mm → Prop := fun x2 x3 y0 μ => KW g f 4 0 0 214 [some (.ref p_MO), none, some (.int x2), some (.int x3)] [.int y0] μ
set_option maxHeartbeats 2000000 in
theorem b_X8_splits_4  {g : GE} {f : FE} {q : Bool → Mm → Prop} (cx : Cx g f cX8_splits 4 RX8 3 70 0 0) (hr : (f_M f).sig.returnType = (some .boolean)) (hl : (f_M f).locks = false) (hQ : f_Q f = MQ (f_b f) (QW g (qZ q)) (f_a f) (f_s f) 0 0 (fun q => g.2.2.2 ≤ q))  {x1 : Int32} {x2 : Int32} {μ : Mm} (h : F_X8_splits_4  (KK_X8_splits_4 g f ) (KK_X8_splits_127 g f ) (KK_X8_splits_151 g f ) (KK_X8_splits_199 g f ) (KK_X8_splits_214 g f ) q x1 x2 μ) : KK_X8_splits_4 g f  x1 x2 μ := by
  unfold F_X8_splits_4 at h
  show KW g f 4 0 0 4 [some (.ref p_MO), some (.int x1), some (.int x2), none] [] μ
  refine k_iload_n cx dX8_splits_4 rfl rfl ?_
  refine k_aload_n cx dX8_splits_5 rfl rfl ?_
  refine k_get (o := some p_MO_lines) (v := .ref p_MO_lines) cx fl_X8_29 ob_MO rfl rfl dX8_splits_6 ?_
  refine k_aload_n cx dX8_splits_9 rfl rfl ?_
  refine k_get (o := none) (v := .int (μ p_MO 8)) cx fl_X8_118 ob_MO rfl rfl dX8_splits_10 ?_
  obtain ⟨hi, h⟩ := h
  refine k_iald cx ar_MO_lines hi dX8_splits_13 ?_
  refine k_icmp_ge (tgt := 263) cx dX8_splits_14 (by decide) (fun hc => ?_) (fun hc => ?_)
  · replace h := h.1 hc
    refine k_iload_n cx dX8_splits_263 rfl rfl ?_
    obtain ⟨b, hb, h⟩ := h
    exact k_ret_Z (b := b) cx hr hl hQ dX8_splits_264 hb h
  · replace h := h.2 hc
    refine k_iload_n cx dX8_splits_17 rfl rfl ?_
    refine k_if_eq (tgt := 263) cx dX8_splits_18 (by decide) (fun hc => ?_) (fun hc => ?_)
    · replace h := h.1 hc
      refine k_iload_n cx dX8_splits_263 rfl rfl ?_
      obtain ⟨b, hb, h⟩ := h
      exact k_ret_Z (b := b) cx hr hl hQ dX8_splits_264 hb h
    · replace h := h.2 hc
      refine k_iconst (v := (3 : Int32)) cx dX8_splits_21 (by decide +kernel) ?_
      refine k_aload_n cx dX8_splits_22 rfl rfl ?_
      refine k_get (o := none) (v := .int (μ p_MO 8)) cx fl_X8_118 ob_MO rfl rfl dX8_splits_23 ?_
      refine k_imul cx dX8_splits_26 ?_
      refine k_iload_n cx dX8_splits_27 rfl rfl ?_
      refine k_iadd cx dX8_splits_28 ?_
      refine k_istore_n cx dX8_splits_29 rfl (by decide) ?_
      refine k_aload_n cx dX8_splits_30 rfl rfl ?_
      refine k_iload_n cx dX8_splits_31 rfl rfl ?_
      refine k_aload_n cx dX8_splits_32 rfl rfl ?_
      refine k_get (o := some p_MO_tries) (v := .ref p_MO_tries) cx fl_X8_92 ob_MO rfl rfl dX8_splits_33 ?_
      refine k_aload_n cx dX8_splits_36 rfl rfl ?_
      refine k_get (o := some p_MO_lineFrom) (v := .ref p_MO_lineFrom) cx fl_X8_41 ob_MO rfl rfl dX8_splits_37 ?_
      refine k_iload_n cx dX8_splits_40 rfl rfl ?_
      obtain ⟨hi, h⟩ := h
      refine k_iald cx ar_MO_lineFrom hi dX8_splits_41 ?_
      obtain ⟨hi, h⟩ := h
      refine k_iald cx ar_MO_tries hi dX8_splits_42 ?_
      refine k_aload_n cx dX8_splits_43 rfl rfl ?_
      refine k_get (o := some p_MO_tries) (v := .ref p_MO_tries) cx fl_X8_92 ob_MO rfl rfl dX8_splits_44 ?_
      refine k_aload_n cx dX8_splits_47 rfl rfl ?_
      refine k_get (o := some p_MO_lineTo) (v := .ref p_MO_lineTo) cx fl_X8_44 ob_MO rfl rfl dX8_splits_48 ?_
      refine k_iload_n cx dX8_splits_51 rfl rfl ?_
      obtain ⟨hi, h⟩ := h
      refine k_iald cx ar_MO_lineTo hi dX8_splits_52 ?_
      obtain ⟨hi, h⟩ := h
      refine k_iald cx ar_MO_tries hi dX8_splits_53 ?_
      refine k_callV (As := [.int x2, .int (μ p_MO_tries ((μ p_MO_lineFrom ((((3 : Int32) * (μ p_MO 8)) + x2)).toNatClampNeg)).toNatClampNeg), .int (μ p_MO_tries ((μ p_MO_lineTo ((((3 : Int32) * (μ p_MO 8)) + x2)).toNatClampNeg)).toNatClampNeg)]) (rest := []) cx (m_X8_finds h) cv_X8_160 ob_MO rfl rfl rfl rfl (Nat.le_of_ble_eq_true rfl) ⟨Nat.le_of_ble_eq_true rfl, Nat.le_of_ble_eq_true rfl⟩ dX8_splits_54 (fun v μ1 hq => ?_)
      obtain ⟨rfl, h⟩ := hq
      refine k_aload_n cx dX8_splits_57 rfl rfl ?_
      refine k_get (o := some p_MO_rest) (v := .ref p_MO_rest) cx fl_X8_56 ob_MO rfl rfl dX8_splits_58 ?_
      refine k_iload_n cx dX8_splits_61 rfl rfl ?_
      refine k_iconst (v := (0 : Int32)) cx dX8_splits_62 (by decide +kernel) ?_
      obtain ⟨hi, h⟩ := h
      refine k_iast cx ar_MO_rest hi dX8_splits_63 ?_
      refine k_aload_n cx dX8_splits_64 rfl rfl ?_
      refine k_get (o := some p_MO_amount) (v := .ref p_MO_amount) cx fl_X8_50 ob_MO rfl rfl dX8_splits_65 ?_
      refine k_iload_n cx dX8_splits_68 rfl rfl ?_
      refine k_aload_n cx dX8_splits_69 rfl rfl ?_
      refine k_get (o := some p_MO_lineNeed) (v := .ref p_MO_lineNeed) cx fl_X8_47 ob_MO rfl rfl dX8_splits_70 ?_
      refine k_iload_n cx dX8_splits_73 rfl rfl ?_
      obtain ⟨hi, h⟩ := h
      refine k_iald cx ar_MO_lineNeed hi dX8_splits_74 ?_
      obtain ⟨hi, h⟩ := h
      refine k_iast cx ar_MO_amount hi dX8_splits_75 ?_
      refine k_aload_n cx dX8_splits_76 rfl rfl ?_
      refine k_get (o := some p_MO_way) (v := .ref p_MO_way) cx fl_X8_53 ob_MO rfl rfl dX8_splits_77 ?_
      refine k_iload_n cx dX8_splits_80 rfl rfl ?_
      refine k_aload_n cx dX8_splits_81 rfl rfl ?_
      refine k_iload_n cx dX8_splits_82 rfl rfl ?_
      refine k_aload_n cx dX8_splits_83 rfl rfl ?_
      refine k_get (o := some p_MO_lineNeed) (v := .ref p_MO_lineNeed) cx fl_X8_47 ob_MO rfl rfl dX8_splits_84 ?_
      refine k_iload_n cx dX8_splits_87 rfl rfl ?_
      obtain ⟨hi, h⟩ := h
      refine k_iald cx ar_MO_lineNeed hi dX8_splits_88 ?_
      refine k_callV (As := [.int x2, .int ((up2 (up2 μ1 p_MO_rest ((((3 : Int32) * (μ p_MO 8)) + x2)).toNatClampNeg (0 : Int32)) p_MO_amount ((((3 : Int32) * (μ p_MO 8)) + x2)).toNatClampNeg ((up2 μ1 p_MO_rest ((((3 : Int32) * (μ p_MO 8)) + x2)).toNatClampNeg (0 : Int32)) p_MO_lineNeed ((((3 : Int32) * (μ p_MO 8)) + x2)).toNatClampNeg)) p_MO_lineNeed ((((3 : Int32) * (μ p_MO 8)) + x2)).toNatClampNeg)]) (rest := [.int (((3 : Int32) * (μ p_MO 8)) + x2), .ref p_MO_way]) cx (m_X8_fewest h) cv_X8_195 ob_MO rfl rfl rfl rfl (Nat.le_of_ble_eq_true rfl) ⟨Nat.le_of_ble_eq_true rfl, Nat.le_of_ble_eq_true rfl⟩ dX8_splits_89 (fun v μ2 hq => ?_)
      obtain ⟨z3, rfl, h⟩ := hq
      obtain ⟨hi, h⟩ := h
      refine k_iast cx ar_MO_way hi dX8_splits_92 ?_
      refine k_aload_n cx dX8_splits_93 rfl rfl ?_
      refine k_get (o := some p_MO_way) (v := .ref p_MO_way) cx fl_X8_53 ob_MO rfl rfl dX8_splits_94 ?_
      refine k_iload_n cx dX8_splits_97 rfl rfl ?_
      obtain ⟨hi, h⟩ := h
      refine k_iald cx ar_MO_way hi dX8_splits_98 ?_
      refine k_if_ne (tgt := 241) cx dX8_splits_99 (by decide) (fun hc => ?_) (fun hc => ?_)
      · replace h := h.1 hc
        refine k_aload_n cx dX8_splits_241 rfl rfl ?_
        refine k_aload_n cx dX8_splits_242 rfl rfl ?_
        refine k_get (o := some p_MO_way) (v := .ref p_MO_way) cx fl_X8_53 ob_MO rfl rfl dX8_splits_243 ?_
        refine k_iload_n cx dX8_splits_246 rfl rfl ?_
        obtain ⟨hi, h⟩ := h
        refine k_iald cx ar_MO_way hi dX8_splits_247 ?_
        refine k_aload_n cx dX8_splits_248 rfl rfl ?_
        refine k_get (o := some p_MO_amount) (v := .ref p_MO_amount) cx fl_X8_50 ob_MO rfl rfl dX8_splits_249 ?_
        refine k_iload_n cx dX8_splits_252 rfl rfl ?_
        obtain ⟨hi, h⟩ := h
        refine k_iald cx ar_MO_amount hi dX8_splits_253 ?_
        refine k_callV (As := [.int ((up2 μ2 p_MO_way ((((3 : Int32) * (μ p_MO 8)) + x2)).toNatClampNeg z3) p_MO_way ((((3 : Int32) * (μ p_MO 8)) + x2)).toNatClampNeg), .int ((up2 μ2 p_MO_way ((((3 : Int32) * (μ p_MO 8)) + x2)).toNatClampNeg z3) p_MO_amount ((((3 : Int32) * (μ p_MO 8)) + x2)).toNatClampNeg)]) (rest := []) cx (m_X8_takes h) cv_X8_176 ob_MO rfl rfl rfl rfl (Nat.le_of_ble_eq_true rfl) ⟨Nat.le_of_ble_eq_true rfl, Nat.le_of_ble_eq_true rfl⟩ dX8_splits_254 (fun v μ4 hq => ?_)
        obtain ⟨rfl, h⟩ := hq
        refine k_iinc (v := (x2 + (1 : Int32))) cx dX8_splits_257 rfl rfl (by decide) ?_
        refine k_goto (tgt := 4) cx dX8_splits_260 (by decide) ?_
        exact k_weak h (lsLe.keep (lsLe.keep (lsLe.keep (lsLe.drop lsLe.nil))))
      · replace h := h.2 hc
        refine k_aload_n cx dX8_splits_102 rfl rfl ?_
        refine k_get (o := some p_MO_way) (v := .ref p_MO_way) cx fl_X8_53 ob_MO rfl rfl dX8_splits_103 ?_
        refine k_iload_n cx dX8_splits_106 rfl rfl ?_
        refine k_aload_n cx dX8_splits_107 rfl rfl ?_
        refine k_iload_n cx dX8_splits_108 rfl rfl ?_
        refine k_callV (As := [.int x2]) (rest := [.int (((3 : Int32) * (μ p_MO 8)) + x2), .ref p_MO_way]) cx (m_X8_widest h) cv_X8_198 ob_MO rfl rfl rfl rfl (Nat.le_of_ble_eq_true rfl) ⟨Nat.le_of_ble_eq_true rfl, Nat.le_of_ble_eq_true rfl⟩ dX8_splits_109 (fun v μ5 hq => ?_)
        obtain ⟨z6, rfl, h⟩ := hq
        obtain ⟨hi, h⟩ := h
        refine k_iast cx ar_MO_way hi dX8_splits_112 ?_
        refine k_aload_n cx dX8_splits_113 rfl rfl ?_
        refine k_get (o := some p_MO_way) (v := .ref p_MO_way) cx fl_X8_53 ob_MO rfl rfl dX8_splits_114 ?_
        refine k_iload_n cx dX8_splits_117 rfl rfl ?_
        obtain ⟨hi, h⟩ := h
        refine k_iald cx ar_MO_way hi dX8_splits_118 ?_
        refine k_if_eq (tgt := 126) cx dX8_splits_119 (by decide) (fun hc => ?_) (fun hc => ?_)
        · replace h := h.1 hc
          refine k_iconst (v := (0 : Int32)) cx dX8_splits_126 (by decide +kernel) ?_
          exact k_weak h (lsLe.keep (lsLe.drop (lsLe.keep (lsLe.keep lsLe.nil))))
        · replace h := h.2 hc
          refine k_iconst (v := (1 : Int32)) cx dX8_splits_122 (by decide +kernel) ?_
          refine k_goto (tgt := 127) cx dX8_splits_123 (by decide) ?_
          exact k_weak h (lsLe.keep (lsLe.drop (lsLe.keep (lsLe.keep lsLe.nil))))
set_option maxHeartbeats 2000000 in
theorem b_X8_splits_127  {g : GE} {f : FE} {q : Bool → Mm → Prop} (cx : Cx g f cX8_splits 4 RX8 3 70 0 0) (hr : (f_M f).sig.returnType = (some .boolean)) (hl : (f_M f).locks = false) (hQ : f_Q f = MQ (f_b f) (QW g (qZ q)) (f_a f) (f_s f) 0 0 (fun q => g.2.2.2 ≤ q))  {x2 : Int32} {x3 : Int32} {y0 : Int32} {μ : Mm} (h : F_X8_splits_127  (KK_X8_splits_4 g f ) (KK_X8_splits_127 g f ) (KK_X8_splits_151 g f ) (KK_X8_splits_199 g f ) (KK_X8_splits_214 g f ) q x2 x3 y0 μ) : KK_X8_splits_127 g f  x2 x3 y0 μ := by
  unfold F_X8_splits_127 at h
  show KW g f 4 0 0 127 [some (.ref p_MO), none, some (.int x2), some (.int x3)] [.int y0] μ
  refine k_istore_n cx dX8_splits_127 rfl (by decide) ?_
  refine k_aload_n cx dX8_splits_128 rfl rfl ?_
  refine k_get (o := some p_MO_amount) (v := .ref p_MO_amount) cx fl_X8_50 ob_MO rfl rfl dX8_splits_129 ?_
  refine k_iload_n cx dX8_splits_132 rfl rfl ?_
  refine k_iload_n cx dX8_splits_133 rfl rfl ?_
  refine k_if_eq (tgt := 150) cx dX8_splits_134 (by decide) (fun hc => ?_) (fun hc => ?_)
  · replace h := h.1 hc
    refine k_iconst (v := (0 : Int32)) cx dX8_splits_150 (by decide +kernel) ?_
    exact k_weak h (lsLe.keep (lsLe.keep (lsLe.keep (lsLe.keep lsLe.nil))))
  · replace h := h.2 hc
    refine k_aload_n cx dX8_splits_137 rfl rfl ?_
    refine k_aload_n cx dX8_splits_138 rfl rfl ?_
    refine k_get (o := some p_MO_way) (v := .ref p_MO_way) cx fl_X8_53 ob_MO rfl rfl dX8_splits_139 ?_
    refine k_iload_n cx dX8_splits_142 rfl rfl ?_
    obtain ⟨hi, h⟩ := h
    refine k_iald cx ar_MO_way hi dX8_splits_143 ?_
    refine k_callV (As := [.int (μ p_MO_way (x3).toNatClampNeg)]) (rest := [.int x3, .ref p_MO_amount]) cx (m_X8_roomOf h) cv_X8_192 ob_MO rfl rfl rfl rfl (Nat.le_of_ble_eq_true rfl) ⟨Nat.le_of_ble_eq_true rfl, Nat.le_of_ble_eq_true rfl⟩ dX8_splits_144 (fun v μ1 hq => ?_)
    obtain ⟨z2, rfl, h⟩ := hq
    refine k_goto (tgt := 151) cx dX8_splits_147 (by decide) ?_
    exact k_weak h (lsLe.keep (lsLe.keep (lsLe.keep (lsLe.keep lsLe.nil))))
set_option maxHeartbeats 2000000 in
theorem b_X8_splits_151  {g : GE} {f : FE} {q : Bool → Mm → Prop} (cx : Cx g f cX8_splits 4 RX8 3 70 0 0) (hr : (f_M f).sig.returnType = (some .boolean)) (hl : (f_M f).locks = false) (hQ : f_Q f = MQ (f_b f) (QW g (qZ q)) (f_a f) (f_s f) 0 0 (fun q => g.2.2.2 ≤ q))  {x1 : Int32} {x2 : Int32} {x3 : Int32} {y0 : Int32} {y1 : Int32} {μ : Mm} (h : F_X8_splits_151  (KK_X8_splits_4 g f ) (KK_X8_splits_127 g f ) (KK_X8_splits_151 g f ) (KK_X8_splits_199 g f ) (KK_X8_splits_214 g f ) q x1 x2 x3 y0 y1 μ) : KK_X8_splits_151 g f  x1 x2 x3 y0 y1 μ := by
  unfold F_X8_splits_151 at h
  show KW g f 4 0 0 151 [some (.ref p_MO), some (.int x1), some (.int x2), some (.int x3)] [.int y0, .int y1, .ref p_MO_amount] μ
  obtain ⟨hi, h⟩ := h
  refine k_iast cx ar_MO_amount hi dX8_splits_151 ?_
  refine k_aload_n cx dX8_splits_152 rfl rfl ?_
  refine k_aload_n cx dX8_splits_153 rfl rfl ?_
  refine k_get (o := some p_MO_way) (v := .ref p_MO_way) cx fl_X8_53 ob_MO rfl rfl dX8_splits_154 ?_
  refine k_iload_n cx dX8_splits_157 rfl rfl ?_
  obtain ⟨hi, h⟩ := h
  refine k_iald cx ar_MO_way hi dX8_splits_158 ?_
  refine k_aload_n cx dX8_splits_159 rfl rfl ?_
  refine k_get (o := some p_MO_amount) (v := .ref p_MO_amount) cx fl_X8_50 ob_MO rfl rfl dX8_splits_160 ?_
  refine k_iload_n cx dX8_splits_163 rfl rfl ?_
  obtain ⟨hi, h⟩ := h
  refine k_iald cx ar_MO_amount hi dX8_splits_164 ?_
  refine k_callV (As := [.int ((up2 μ p_MO_amount (y1).toNatClampNeg y0) p_MO_way (x3).toNatClampNeg), .int ((up2 μ p_MO_amount (y1).toNatClampNeg y0) p_MO_amount (x3).toNatClampNeg)]) (rest := []) cx (m_X8_takes h) cv_X8_176 ob_MO rfl rfl rfl rfl (Nat.le_of_ble_eq_true rfl) ⟨Nat.le_of_ble_eq_true rfl, Nat.le_of_ble_eq_true rfl⟩ dX8_splits_165 (fun v μ1 hq => ?_)
  obtain ⟨rfl, h⟩ := hq
  refine k_aload_n cx dX8_splits_168 rfl rfl ?_
  refine k_get (o := some p_MO_rest) (v := .ref p_MO_rest) cx fl_X8_56 ob_MO rfl rfl dX8_splits_169 ?_
  refine k_iload_n cx dX8_splits_172 rfl rfl ?_
  refine k_iload_n cx dX8_splits_173 rfl rfl ?_
  refine k_if_eq (tgt := 198) cx dX8_splits_174 (by decide) (fun hc => ?_) (fun hc => ?_)
  · replace h := h.1 hc
    refine k_iconst (v := (0 : Int32)) cx dX8_splits_198 (by decide +kernel) ?_
    exact k_weak h (lsLe.keep (lsLe.drop (lsLe.keep (lsLe.keep lsLe.nil))))
  · replace h := h.2 hc
    refine k_aload_n cx dX8_splits_177 rfl rfl ?_
    refine k_iload_n cx dX8_splits_178 rfl rfl ?_
    refine k_aload_n cx dX8_splits_179 rfl rfl ?_
    refine k_get (o := some p_MO_lineNeed) (v := .ref p_MO_lineNeed) cx fl_X8_47 ob_MO rfl rfl dX8_splits_180 ?_
    refine k_iload_n cx dX8_splits_183 rfl rfl ?_
    obtain ⟨hi, h⟩ := h
    refine k_iald cx ar_MO_lineNeed hi dX8_splits_184 ?_
    refine k_aload_n cx dX8_splits_185 rfl rfl ?_
    refine k_get (o := some p_MO_amount) (v := .ref p_MO_amount) cx fl_X8_50 ob_MO rfl rfl dX8_splits_186 ?_
    refine k_iload_n cx dX8_splits_189 rfl rfl ?_
    obtain ⟨hi, h⟩ := h
    refine k_iald cx ar_MO_amount hi dX8_splits_190 ?_
    refine k_isub cx dX8_splits_191 ?_
    refine k_callV (As := [.int x2, .int ((μ1 p_MO_lineNeed (x3).toNatClampNeg) - (μ1 p_MO_amount (x3).toNatClampNeg))]) (rest := [.int x3, .ref p_MO_rest]) cx (m_X8_fewest h) cv_X8_195 ob_MO rfl rfl rfl rfl (Nat.le_of_ble_eq_true rfl) ⟨Nat.le_of_ble_eq_true rfl, Nat.le_of_ble_eq_true rfl⟩ dX8_splits_192 (fun v μ2 hq => ?_)
    obtain ⟨z3, rfl, h⟩ := hq
    refine k_goto (tgt := 199) cx dX8_splits_195 (by decide) ?_
    exact k_weak h (lsLe.keep (lsLe.drop (lsLe.keep (lsLe.keep lsLe.nil))))
set_option maxHeartbeats 2000000 in
theorem b_X8_splits_199  {g : GE} {f : FE} {q : Bool → Mm → Prop} (cx : Cx g f cX8_splits 4 RX8 3 70 0 0) (hr : (f_M f).sig.returnType = (some .boolean)) (hl : (f_M f).locks = false) (hQ : f_Q f = MQ (f_b f) (QW g (qZ q)) (f_a f) (f_s f) 0 0 (fun q => g.2.2.2 ≤ q))  {x2 : Int32} {x3 : Int32} {y0 : Int32} {y1 : Int32} {μ : Mm} (h : F_X8_splits_199  (KK_X8_splits_4 g f ) (KK_X8_splits_127 g f ) (KK_X8_splits_151 g f ) (KK_X8_splits_199 g f ) (KK_X8_splits_214 g f ) q x2 x3 y0 y1 μ) : KK_X8_splits_199 g f  x2 x3 y0 y1 μ := by
  unfold F_X8_splits_199 at h
  show KW g f 4 0 0 199 [some (.ref p_MO), none, some (.int x2), some (.int x3)] [.int y0, .int y1, .ref p_MO_rest] μ
  obtain ⟨hi, h⟩ := h
  refine k_iast cx ar_MO_rest hi dX8_splits_199 ?_
  refine k_aload_n cx dX8_splits_200 rfl rfl ?_
  refine k_get (o := some p_MO_rest) (v := .ref p_MO_rest) cx fl_X8_56 ob_MO rfl rfl dX8_splits_201 ?_
  refine k_iload_n cx dX8_splits_204 rfl rfl ?_
  obtain ⟨hi, h⟩ := h
  refine k_iald cx ar_MO_rest hi dX8_splits_205 ?_
  refine k_if_eq (tgt := 213) cx dX8_splits_206 (by decide) (fun hc => ?_) (fun hc => ?_)
  · replace h := h.1 hc
    refine k_iconst (v := (0 : Int32)) cx dX8_splits_213 (by decide +kernel) ?_
    exact k_weak h (lsLe.keep (lsLe.keep (lsLe.keep (lsLe.keep lsLe.nil))))
  · replace h := h.2 hc
    refine k_iconst (v := (1 : Int32)) cx dX8_splits_209 (by decide +kernel) ?_
    refine k_goto (tgt := 214) cx dX8_splits_210 (by decide) ?_
    exact k_weak h (lsLe.keep (lsLe.keep (lsLe.keep (lsLe.keep lsLe.nil))))
set_option maxHeartbeats 2000000 in
theorem b_X8_splits_214  {g : GE} {f : FE} {q : Bool → Mm → Prop} (cx : Cx g f cX8_splits 4 RX8 3 70 0 0) (hr : (f_M f).sig.returnType = (some .boolean)) (hl : (f_M f).locks = false) (hQ : f_Q f = MQ (f_b f) (QW g (qZ q)) (f_a f) (f_s f) 0 0 (fun q => g.2.2.2 ≤ q))  {x2 : Int32} {x3 : Int32} {y0 : Int32} {μ : Mm} (h : F_X8_splits_214  (KK_X8_splits_4 g f ) (KK_X8_splits_127 g f ) (KK_X8_splits_151 g f ) (KK_X8_splits_199 g f ) (KK_X8_splits_214 g f ) q x2 x3 y0 μ) : KK_X8_splits_214 g f  x2 x3 y0 μ := by
  unfold F_X8_splits_214 at h
  show KW g f 4 0 0 214 [some (.ref p_MO), none, some (.int x2), some (.int x3)] [.int y0] μ
  refine k_istore_n cx dX8_splits_214 rfl (by decide) ?_
  refine k_aload_n cx dX8_splits_215 rfl rfl ?_
  refine k_aload_n cx dX8_splits_216 rfl rfl ?_
  refine k_get (o := some p_MO_rest) (v := .ref p_MO_rest) cx fl_X8_56 ob_MO rfl rfl dX8_splits_217 ?_
  refine k_iload_n cx dX8_splits_220 rfl rfl ?_
  obtain ⟨hi, h⟩ := h
  refine k_iald cx ar_MO_rest hi dX8_splits_221 ?_
  refine k_aload_n cx dX8_splits_222 rfl rfl ?_
  refine k_get (o := some p_MO_lineNeed) (v := .ref p_MO_lineNeed) cx fl_X8_47 ob_MO rfl rfl dX8_splits_223 ?_
  refine k_iload_n cx dX8_splits_226 rfl rfl ?_
  obtain ⟨hi, h⟩ := h
  refine k_iald cx ar_MO_lineNeed hi dX8_splits_227 ?_
  refine k_aload_n cx dX8_splits_228 rfl rfl ?_
  refine k_get (o := some p_MO_amount) (v := .ref p_MO_amount) cx fl_X8_50 ob_MO rfl rfl dX8_splits_229 ?_
  refine k_iload_n cx dX8_splits_232 rfl rfl ?_
  obtain ⟨hi, h⟩ := h
  refine k_iald cx ar_MO_amount hi dX8_splits_233 ?_
  refine k_isub cx dX8_splits_234 ?_
  refine k_callV (As := [.int (μ p_MO_rest (x3).toNatClampNeg), .int ((μ p_MO_lineNeed (x3).toNatClampNeg) - (μ p_MO_amount (x3).toNatClampNeg))]) (rest := []) cx (m_X8_takes h) cv_X8_176 ob_MO rfl rfl rfl rfl (Nat.le_of_ble_eq_true rfl) ⟨Nat.le_of_ble_eq_true rfl, Nat.le_of_ble_eq_true rfl⟩ dX8_splits_235 (fun v μ1 hq => ?_)
  obtain ⟨rfl, h⟩ := hq
  refine k_goto (tgt := 257) cx dX8_splits_238 (by decide) ?_
  refine k_iinc (v := (x2 + (1 : Int32))) cx dX8_splits_257 rfl rfl (by decide) ?_
  refine k_goto (tgt := 4) cx dX8_splits_260 (by decide) ?_
  exact k_weak h (lsLe.keep (lsLe.keep (lsLe.keep (lsLe.drop lsLe.nil))))
set_option maxHeartbeats 2000000 in
theorem b_X8_splits_e  {g : GE} {f : FE} {q : Bool → Mm → Prop} (cx : Cx g f cX8_splits 4 RX8 3 70 0 0) (hr : (f_M f).sig.returnType = (some .boolean)) (hl : (f_M f).locks = false) (hQ : f_Q f = MQ (f_b f) (QW g (qZ q)) (f_a f) (f_s f) 0 0 (fun q => g.2.2.2 ≤ q))   {μ : Mm} (h : F_X8_splits_e  (KK_X8_splits_4 g f ) (KK_X8_splits_127 g f ) (KK_X8_splits_151 g f ) (KK_X8_splits_199 g f ) (KK_X8_splits_214 g f ) q  μ) : KW g f 4 0 0 0 [some (.ref p_MO), none, none, none] [] μ := by
  unfold F_X8_splits_e at h
  refine k_iconst (v := (1 : Int32)) cx dX8_splits_0 (by decide +kernel) ?_
  refine k_istore_n cx dX8_splits_1 rfl (by decide) ?_
  refine k_iconst (v := (0 : Int32)) cx dX8_splits_2 (by decide +kernel) ?_
  refine k_istore_n cx dX8_splits_3 rfl (by decide) ?_
  exact k_weak h (lsLe.keep (lsLe.keep (lsLe.keep (lsLe.keep lsLe.nil))))
theorem m_X8_splits {g : GE} {l : Launch} {μ : Mm} {q : Bool → Mm → Prop}  (h : Wp_X8_splits   μ q) : MW g l yX8_splits cX8_splits 4 (some .boolean) 3 70 [.ref p_MO] μ (qZ q) := by
  refine met_of (by decide) (Nat.le_of_ble_eq_true rfl) (by intro v hv; simp only [List.mem_cons, List.not_mem_nil, or_false] at hv; subst hv; rfl) ?_
  intro f hfl cx hr hl hQ
  exact b_X8_splits_e  cx hr hl hQ (h (KK_X8_splits_4 g f ) (KK_X8_splits_127 g f ) (KK_X8_splits_151 g f ) (KK_X8_splits_199 g f ) (KK_X8_splits_214 g f ) (fun _ _ _ h => b_X8_splits_4  cx hr hl hQ h) (fun _ _ _ _ h => b_X8_splits_127  cx hr hl hQ h) (fun _ _ _ _ _ _ h => b_X8_splits_151  cx hr hl hQ h) (fun _ _ _ _ _ h => b_X8_splits_199  cx hr hl hQ h) (fun _ _ _ _ h => b_X8_splits_214  cx hr hl hQ h))
theorem dX8_placesSplit_0 : decode cX8_placesSplit 0 = .ok (.iconst 0, 1) := by decide +kernel
theorem dX8_placesSplit_1 : decode cX8_placesSplit 1 = .ok (.istore_n 1, 1) := by decide +kernel
theorem dX8_placesSplit_2 : decode cX8_placesSplit 2 = .ok (.iload_n 1, 1) := by decide +kernel
theorem dX8_placesSplit_3 : decode cX8_placesSplit 3 = .ok (.sipush 216, 3) := by decide +kernel
theorem dX8_placesSplit_6 : decode cX8_placesSplit 6 = .ok (.if_icmp .ge 70, 3) := by decide +kernel
theorem dX8_placesSplit_9 : decode cX8_placesSplit 9 = .ok (.aload_n 0, 1) := by decide +kernel
theorem dX8_placesSplit_10 : decode cX8_placesSplit 10 = .ok (.iload_n 1, 1) := by decide +kernel
theorem dX8_placesSplit_11 : decode cX8_placesSplit 11 = .ok (.invokevirtual 183, 3) := by decide +kernel
theorem dX8_placesSplit_14 : decode cX8_placesSplit 14 = .ok (.ifCond .eq 56, 3) := by decide +kernel
theorem dX8_placesSplit_17 : decode cX8_placesSplit 17 = .ok (.aload_n 0, 1) := by decide +kernel
theorem dX8_placesSplit_18 : decode cX8_placesSplit 18 = .ok (.invokevirtual 201, 3) := by decide +kernel
theorem dX8_placesSplit_21 : decode cX8_placesSplit 21 = .ok (.ifCond .eq 45, 3) := by decide +kernel
theorem dX8_placesSplit_24 : decode cX8_placesSplit 24 = .ok (.iconst 0, 1) := by decide +kernel
theorem dX8_placesSplit_25 : decode cX8_placesSplit 25 = .ok (.istore_n 2, 1) := by decide +kernel
theorem dX8_placesSplit_26 : decode cX8_placesSplit 26 = .ok (.iload_n 2, 1) := by decide +kernel
theorem dX8_placesSplit_27 : decode cX8_placesSplit 27 = .ok (.aload_n 0, 1) := by decide +kernel
theorem dX8_placesSplit_28 : decode cX8_placesSplit 28 = .ok (.getfield 26, 3) := by decide +kernel
theorem dX8_placesSplit_31 : decode cX8_placesSplit 31 = .ok (.aload_n 0, 1) := by decide +kernel
theorem dX8_placesSplit_32 : decode cX8_placesSplit 32 = .ok (.getfield 118, 3) := by decide +kernel
theorem dX8_placesSplit_35 : decode cX8_placesSplit 35 = .ok (.iaload, 1) := by decide +kernel
theorem dX8_placesSplit_36 : decode cX8_placesSplit 36 = .ok (.if_icmp .ge 28, 3) := by decide +kernel
theorem dX8_placesSplit_39 : decode cX8_placesSplit 39 = .ok (.aload_n 0, 1) := by decide +kernel
theorem dX8_placesSplit_40 : decode cX8_placesSplit 40 = .ok (.getfield 38, 3) := by decide +kernel
theorem dX8_placesSplit_43 : decode cX8_placesSplit 43 = .ok (.iconst 3, 1) := by decide +kernel
theorem dX8_placesSplit_44 : decode cX8_placesSplit 44 = .ok (.aload_n 0, 1) := by decide +kernel
theorem dX8_placesSplit_45 : decode cX8_placesSplit 45 = .ok (.getfield 118, 3) := by decide +kernel
theorem dX8_placesSplit_48 : decode cX8_placesSplit 48 = .ok (.imul, 1) := by decide +kernel
theorem dX8_placesSplit_49 : decode cX8_placesSplit 49 = .ok (.iload_n 2, 1) := by decide +kernel
theorem dX8_placesSplit_50 : decode cX8_placesSplit 50 = .ok (.iadd, 1) := by decide +kernel
theorem dX8_placesSplit_51 : decode cX8_placesSplit 51 = .ok (.aload_n 0, 1) := by decide +kernel
theorem dX8_placesSplit_52 : decode cX8_placesSplit 52 = .ok (.getfield 92, 3) := by decide +kernel
theorem dX8_placesSplit_55 : decode cX8_placesSplit 55 = .ok (.iload_n 2, 1) := by decide +kernel
theorem dX8_placesSplit_56 : decode cX8_placesSplit 56 = .ok (.iaload, 1) := by decide +kernel
theorem dX8_placesSplit_57 : decode cX8_placesSplit 57 = .ok (.iastore, 1) := by decide +kernel
theorem dX8_placesSplit_58 : decode cX8_placesSplit 58 = .ok (.iinc 2 1, 3) := by decide +kernel
theorem dX8_placesSplit_61 : decode cX8_placesSplit 61 = .ok (.goto (-35), 3) := by decide +kernel
theorem dX8_placesSplit_64 : decode cX8_placesSplit 64 = .ok (.iconst 1, 1) := by decide +kernel
theorem dX8_placesSplit_65 : decode cX8_placesSplit 65 = .ok (.ireturn, 1) := by decide +kernel
theorem dX8_placesSplit_66 : decode cX8_placesSplit 66 = .ok (.aload_n 0, 1) := by decide +kernel
theorem dX8_placesSplit_67 : decode cX8_placesSplit 67 = .ok (.invokevirtual 204, 3) := by decide +kernel
theorem dX8_placesSplit_70 : decode cX8_placesSplit 70 = .ok (.iinc 1 1, 3) := by decide +kernel
theorem dX8_placesSplit_73 : decode cX8_placesSplit 73 = .ok (.goto (-71), 3) := by decide +kernel
theorem dX8_placesSplit_76 : decode cX8_placesSplit 76 = .ok (.iconst 0, 1) := by decide +kernel
theorem dX8_placesSplit_77 : decode cX8_placesSplit 77 = .ok (.ireturn, 1) := by decide +kernel
def F_X8_placesSplit_2  (K2 : Int32 → Mm → Prop) (K26 : Int32 → Mm → Prop) (q : Bool → Mm → Prop) (x1 : Int32) (μ : Mm) : Prop :=
  (((216 : Int32) ≤ x1 → q false μ) ∧ (¬ ((216 : Int32) ≤ x1) → Wp_X8_chooses x1 μ (fun b2 μ1 => (((bI b2) = 0 → K2 (x1 + (1 : Int32)) μ1) ∧ (¬ ((bI b2) = 0) → Wp_X8_splits μ1 (fun b4 μ3 => (((bI b4) = 0 → Wp_X8_sumsRooms μ3 (fun μ5 => K2 (x1 + (1 : Int32)) μ5)) ∧ (¬ ((bI b4) = 0) → K26 (0 : Int32) μ3))))))))
def F_X8_placesSplit_26  (K2 : Int32 → Mm → Prop) (K26 : Int32 → Mm → Prop) (q : Bool → Mm → Prop) (x2 : Int32) (μ : Mm) : Prop :=
  vp_in (μ p_MO 8) 13 ∧ (((μ p_MO_parts ((μ p_MO 8)).toNatClampNeg) ≤ x2 → q true μ) ∧ (¬ ((μ p_MO_parts ((μ p_MO 8)).toNatClampNeg) ≤ x2) → vp_in x2 3 ∧ vp_in (((3 : Int32) * (μ p_MO 8)) + x2) 39 ∧ K26 (x2 + (1 : Int32)) (up2 μ p_MO_at ((((3 : Int32) * (μ p_MO 8)) + x2)).toNatClampNeg (μ p_MO_tries (x2).toNatClampNeg))))
def F_X8_placesSplit_e  (K2 : Int32 → Mm → Prop) (K26 : Int32 → Mm → Prop) (q : Bool → Mm → Prop)  (μ : Mm) : Prop :=
  K2 (0 : Int32) μ
def Wp_X8_placesSplit   (μ : Mm) (q : Bool → Mm → Prop) : Prop := ∀ (K2 : Int32 → Mm → Prop) (K26 : Int32 → Mm → Prop), (∀ (x1 : Int32) (μ : Mm), F_X8_placesSplit_2  K2 K26 q x1 μ → K2 x1 μ) → (∀ (x2 : Int32) (μ : Mm), F_X8_placesSplit_26  K2 K26 q x2 μ → K26 x2 μ) → F_X8_placesSplit_e  K2 K26 q  μ
abbrev KK_X8_placesSplit_2 (g : GE) (f : FE)  : Int32 → Mm → Prop := fun x1 μ => KW g f 3 0 0 2 [some (.ref p_MO), some (.int x1), none] [] μ
abbrev KK_X8_placesSplit_26 (g : GE) (f : FE)  : Int32 → Mm → Prop := fun x2 μ => KW g f 3 0 0 26 [some (.ref p_MO), none, some (.int x2)] [] μ
set_option maxHeartbeats 2000000 in
theorem b_X8_placesSplit_2  {g : GE} {f : FE} {q : Bool → Mm → Prop} (cx : Cx g f cX8_placesSplit 3 RX8 4 93 0 0) (hr : (f_M f).sig.returnType = (some .boolean)) (hl : (f_M f).locks = false) (hQ : f_Q f = MQ (f_b f) (QW g (qZ q)) (f_a f) (f_s f) 0 0 (fun q => g.2.2.2 ≤ q))  {x1 : Int32} {μ : Mm} (h : F_X8_placesSplit_2  (KK_X8_placesSplit_2 g f ) (KK_X8_placesSplit_26 g f ) q x1 μ) : KK_X8_placesSplit_2 g f  x1 μ := by
  unfold F_X8_placesSplit_2 at h
  show KW g f 3 0 0 2 [some (.ref p_MO), some (.int x1), none] [] μ
  refine k_iload_n cx dX8_placesSplit_2 rfl rfl ?_
  refine k_sipush (v := (216 : Int32)) cx dX8_placesSplit_3 (by decide +kernel) ?_
  refine k_icmp_ge (tgt := 76) cx dX8_placesSplit_6 (by decide) (fun hc => ?_) (fun hc => ?_)
  · replace h := h.1 hc
    refine k_iconst (v := (0 : Int32)) cx dX8_placesSplit_76 (by decide +kernel) ?_
    exact k_ret_Z (b := false) cx hr hl hQ dX8_placesSplit_77 rfl h
  · replace h := h.2 hc
    refine k_aload_n cx dX8_placesSplit_9 rfl rfl ?_
    refine k_iload_n cx dX8_placesSplit_10 rfl rfl ?_
    refine k_callV (As := [.int x1]) (rest := []) cx (m_X8_chooses h) cv_X8_183 ob_MO rfl rfl rfl rfl (Nat.le_of_ble_eq_true rfl) ⟨Nat.le_of_ble_eq_true rfl, Nat.le_of_ble_eq_true rfl⟩ dX8_placesSplit_11 (fun v μ1 hq => ?_)
    obtain ⟨b2, rfl, h⟩ := hq
    refine k_if_eq (tgt := 70) cx dX8_placesSplit_14 (by decide) (fun hc => ?_) (fun hc => ?_)
    · replace h := h.1 hc
      refine k_iinc (v := (x1 + (1 : Int32))) cx dX8_placesSplit_70 rfl rfl (by decide) ?_
      refine k_goto (tgt := 2) cx dX8_placesSplit_73 (by decide) ?_
      exact k_weak h (lsLe.keep (lsLe.keep (lsLe.keep lsLe.nil)))
    · replace h := h.2 hc
      refine k_aload_n cx dX8_placesSplit_17 rfl rfl ?_
      refine k_callV (As := []) (rest := []) cx (m_X8_splits h) cv_X8_201 ob_MO rfl rfl rfl rfl (Nat.le_of_ble_eq_true rfl) ⟨Nat.le_of_ble_eq_true rfl, Nat.le_of_ble_eq_true rfl⟩ dX8_placesSplit_18 (fun v μ3 hq => ?_)
      obtain ⟨b4, rfl, h⟩ := hq
      refine k_if_eq (tgt := 66) cx dX8_placesSplit_21 (by decide) (fun hc => ?_) (fun hc => ?_)
      · replace h := h.1 hc
        refine k_aload_n cx dX8_placesSplit_66 rfl rfl ?_
        refine k_callV (As := []) (rest := []) cx (m_X8_sumsRooms h) cv_X8_204 ob_MO rfl rfl rfl rfl (Nat.le_of_ble_eq_true rfl) ⟨Nat.le_of_ble_eq_true rfl, Nat.le_of_ble_eq_true rfl⟩ dX8_placesSplit_67 (fun v μ5 hq => ?_)
        obtain ⟨rfl, h⟩ := hq
        refine k_iinc (v := (x1 + (1 : Int32))) cx dX8_placesSplit_70 rfl rfl (by decide) ?_
        refine k_goto (tgt := 2) cx dX8_placesSplit_73 (by decide) ?_
        exact k_weak h (lsLe.keep (lsLe.keep (lsLe.keep lsLe.nil)))
      · replace h := h.2 hc
        refine k_iconst (v := (0 : Int32)) cx dX8_placesSplit_24 (by decide +kernel) ?_
        refine k_istore_n cx dX8_placesSplit_25 rfl (by decide) ?_
        exact k_weak h (lsLe.keep (lsLe.drop (lsLe.keep lsLe.nil)))
set_option maxHeartbeats 2000000 in
theorem b_X8_placesSplit_26  {g : GE} {f : FE} {q : Bool → Mm → Prop} (cx : Cx g f cX8_placesSplit 3 RX8 4 93 0 0) (hr : (f_M f).sig.returnType = (some .boolean)) (hl : (f_M f).locks = false) (hQ : f_Q f = MQ (f_b f) (QW g (qZ q)) (f_a f) (f_s f) 0 0 (fun q => g.2.2.2 ≤ q))  {x2 : Int32} {μ : Mm} (h : F_X8_placesSplit_26  (KK_X8_placesSplit_2 g f ) (KK_X8_placesSplit_26 g f ) q x2 μ) : KK_X8_placesSplit_26 g f  x2 μ := by
  unfold F_X8_placesSplit_26 at h
  show KW g f 3 0 0 26 [some (.ref p_MO), none, some (.int x2)] [] μ
  refine k_iload_n cx dX8_placesSplit_26 rfl rfl ?_
  refine k_aload_n cx dX8_placesSplit_27 rfl rfl ?_
  refine k_get (o := some p_MO_parts) (v := .ref p_MO_parts) cx fl_X8_26 ob_MO rfl rfl dX8_placesSplit_28 ?_
  refine k_aload_n cx dX8_placesSplit_31 rfl rfl ?_
  refine k_get (o := none) (v := .int (μ p_MO 8)) cx fl_X8_118 ob_MO rfl rfl dX8_placesSplit_32 ?_
  obtain ⟨hi, h⟩ := h
  refine k_iald cx ar_MO_parts hi dX8_placesSplit_35 ?_
  refine k_icmp_ge (tgt := 64) cx dX8_placesSplit_36 (by decide) (fun hc => ?_) (fun hc => ?_)
  · replace h := h.1 hc
    refine k_iconst (v := (1 : Int32)) cx dX8_placesSplit_64 (by decide +kernel) ?_
    exact k_ret_Z (b := true) cx hr hl hQ dX8_placesSplit_65 rfl h
  · replace h := h.2 hc
    refine k_aload_n cx dX8_placesSplit_39 rfl rfl ?_
    refine k_get (o := some p_MO_at) (v := .ref p_MO_at) cx fl_X8_38 ob_MO rfl rfl dX8_placesSplit_40 ?_
    refine k_iconst (v := (3 : Int32)) cx dX8_placesSplit_43 (by decide +kernel) ?_
    refine k_aload_n cx dX8_placesSplit_44 rfl rfl ?_
    refine k_get (o := none) (v := .int (μ p_MO 8)) cx fl_X8_118 ob_MO rfl rfl dX8_placesSplit_45 ?_
    refine k_imul cx dX8_placesSplit_48 ?_
    refine k_iload_n cx dX8_placesSplit_49 rfl rfl ?_
    refine k_iadd cx dX8_placesSplit_50 ?_
    refine k_aload_n cx dX8_placesSplit_51 rfl rfl ?_
    refine k_get (o := some p_MO_tries) (v := .ref p_MO_tries) cx fl_X8_92 ob_MO rfl rfl dX8_placesSplit_52 ?_
    refine k_iload_n cx dX8_placesSplit_55 rfl rfl ?_
    obtain ⟨hi, h⟩ := h
    refine k_iald cx ar_MO_tries hi dX8_placesSplit_56 ?_
    obtain ⟨hi, h⟩ := h
    refine k_iast cx ar_MO_at hi dX8_placesSplit_57 ?_
    refine k_iinc (v := (x2 + (1 : Int32))) cx dX8_placesSplit_58 rfl rfl (by decide) ?_
    refine k_goto (tgt := 26) cx dX8_placesSplit_61 (by decide) ?_
    exact k_weak h (lsLe.keep (lsLe.keep (lsLe.keep lsLe.nil)))
set_option maxHeartbeats 2000000 in
theorem b_X8_placesSplit_e  {g : GE} {f : FE} {q : Bool → Mm → Prop} (cx : Cx g f cX8_placesSplit 3 RX8 4 93 0 0) (hr : (f_M f).sig.returnType = (some .boolean)) (hl : (f_M f).locks = false) (hQ : f_Q f = MQ (f_b f) (QW g (qZ q)) (f_a f) (f_s f) 0 0 (fun q => g.2.2.2 ≤ q))   {μ : Mm} (h : F_X8_placesSplit_e  (KK_X8_placesSplit_2 g f ) (KK_X8_placesSplit_26 g f ) q  μ) : KW g f 3 0 0 0 [some (.ref p_MO), none, none] [] μ := by
  unfold F_X8_placesSplit_e at h
  refine k_iconst (v := (0 : Int32)) cx dX8_placesSplit_0 (by decide +kernel) ?_
  refine k_istore_n cx dX8_placesSplit_1 rfl (by decide) ?_
  exact k_weak h (lsLe.keep (lsLe.keep (lsLe.keep lsLe.nil)))
theorem m_X8_placesSplit {g : GE} {l : Launch} {μ : Mm} {q : Bool → Mm → Prop}  (h : Wp_X8_placesSplit   μ q) : MW g l yX8_placesSplit cX8_placesSplit 3 (some .boolean) 4 93 [.ref p_MO] μ (qZ q) := by
  refine met_of (by decide) (Nat.le_of_ble_eq_true rfl) (by intro v hv; simp only [List.mem_cons, List.not_mem_nil, or_false] at hv; subst hv; rfl) ?_
  intro f hfl cx hr hl hQ
  exact b_X8_placesSplit_e  cx hr hl hQ (h (KK_X8_placesSplit_2 g f ) (KK_X8_placesSplit_26 g f ) (fun _ _ h => b_X8_placesSplit_2  cx hr hl hQ h) (fun _ _ h => b_X8_placesSplit_26  cx hr hl hQ h))
