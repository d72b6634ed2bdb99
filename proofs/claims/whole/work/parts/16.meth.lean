theorem dX8_findsAll_0 : decode cX8_findsAll 0 = .ok (.iconst 0, 1) := by decide +kernel
theorem dX8_findsAll_1 : decode cX8_findsAll 1 = .ok (.istore_n 1, 1) := by decide +kernel
theorem dX8_findsAll_2 : decode cX8_findsAll 2 = .ok (.iload_n 1, 1) := by decide +kernel
theorem dX8_findsAll_3 : decode cX8_findsAll 3 = .ok (.iconst 3, 1) := by decide +kernel
theorem dX8_findsAll_4 : decode cX8_findsAll 4 = .ok (.if_icmp .ge 78, 3) := by decide +kernel
theorem dX8_findsAll_7 : decode cX8_findsAll 7 = .ok (.iload_n 1, 1) := by decide +kernel
theorem dX8_findsAll_8 : decode cX8_findsAll 8 = .ok (.aload_n 0, 1) := by decide +kernel
theorem dX8_findsAll_9 : decode cX8_findsAll 9 = .ok (.getfield 29, 3) := by decide +kernel
theorem dX8_findsAll_12 : decode cX8_findsAll 12 = .ok (.aload_n 0, 1) := by decide +kernel
theorem dX8_findsAll_13 : decode cX8_findsAll 13 = .ok (.getfield 118, 3) := by decide +kernel
theorem dX8_findsAll_16 : decode cX8_findsAll 16 = .ok (.iaload, 1) := by decide +kernel
theorem dX8_findsAll_17 : decode cX8_findsAll 17 = .ok (.if_icmp .ge 42, 3) := by decide +kernel
theorem dX8_findsAll_20 : decode cX8_findsAll 20 = .ok (.iconst 3, 1) := by decide +kernel
theorem dX8_findsAll_21 : decode cX8_findsAll 21 = .ok (.aload_n 0, 1) := by decide +kernel
theorem dX8_findsAll_22 : decode cX8_findsAll 22 = .ok (.getfield 118, 3) := by decide +kernel
theorem dX8_findsAll_25 : decode cX8_findsAll 25 = .ok (.imul, 1) := by decide +kernel
theorem dX8_findsAll_26 : decode cX8_findsAll 26 = .ok (.iload_n 1, 1) := by decide +kernel
theorem dX8_findsAll_27 : decode cX8_findsAll 27 = .ok (.iadd, 1) := by decide +kernel
theorem dX8_findsAll_28 : decode cX8_findsAll 28 = .ok (.istore_n 2, 1) := by decide +kernel
theorem dX8_findsAll_29 : decode cX8_findsAll 29 = .ok (.aload_n 0, 1) := by decide +kernel
theorem dX8_findsAll_30 : decode cX8_findsAll 30 = .ok (.iload_n 1, 1) := by decide +kernel
theorem dX8_findsAll_31 : decode cX8_findsAll 31 = .ok (.aload_n 0, 1) := by decide +kernel
theorem dX8_findsAll_32 : decode cX8_findsAll 32 = .ok (.getfield 92, 3) := by decide +kernel
theorem dX8_findsAll_35 : decode cX8_findsAll 35 = .ok (.aload_n 0, 1) := by decide +kernel
theorem dX8_findsAll_36 : decode cX8_findsAll 36 = .ok (.getfield 41, 3) := by decide +kernel
theorem dX8_findsAll_39 : decode cX8_findsAll 39 = .ok (.iload_n 2, 1) := by decide +kernel
theorem dX8_findsAll_40 : decode cX8_findsAll 40 = .ok (.iaload, 1) := by decide +kernel
theorem dX8_findsAll_41 : decode cX8_findsAll 41 = .ok (.iaload, 1) := by decide +kernel
theorem dX8_findsAll_42 : decode cX8_findsAll 42 = .ok (.aload_n 0, 1) := by decide +kernel
theorem dX8_findsAll_43 : decode cX8_findsAll 43 = .ok (.getfield 92, 3) := by decide +kernel
theorem dX8_findsAll_46 : decode cX8_findsAll 46 = .ok (.aload_n 0, 1) := by decide +kernel
theorem dX8_findsAll_47 : decode cX8_findsAll 47 = .ok (.getfield 44, 3) := by decide +kernel
theorem dX8_findsAll_50 : decode cX8_findsAll 50 = .ok (.iload_n 2, 1) := by decide +kernel
theorem dX8_findsAll_51 : decode cX8_findsAll 51 = .ok (.iaload, 1) := by decide +kernel
theorem dX8_findsAll_52 : decode cX8_findsAll 52 = .ok (.iaload, 1) := by decide +kernel
theorem dX8_findsAll_53 : decode cX8_findsAll 53 = .ok (.invokevirtual 160, 3) := by decide +kernel
theorem dX8_findsAll_56 : decode cX8_findsAll 56 = .ok (.goto 20, 3) := by decide +kernel
theorem dX8_findsAll_59 : decode cX8_findsAll 59 = .ok (.aload_n 0, 1) := by decide +kernel
theorem dX8_findsAll_60 : decode cX8_findsAll 60 = .ok (.getfield 80, 3) := by decide +kernel
theorem dX8_findsAll_63 : decode cX8_findsAll 63 = .ok (.iload_n 1, 1) := by decide +kernel
theorem dX8_findsAll_64 : decode cX8_findsAll 64 = .ok (.iconst 1, 1) := by decide +kernel
theorem dX8_findsAll_65 : decode cX8_findsAll 65 = .ok (.iastore, 1) := by decide +kernel
theorem dX8_findsAll_66 : decode cX8_findsAll 66 = .ok (.aload_n 0, 1) := by decide +kernel
theorem dX8_findsAll_67 : decode cX8_findsAll 67 = .ok (.getfield 77, 3) := by decide +kernel
theorem dX8_findsAll_70 : decode cX8_findsAll 70 = .ok (.bipush 64, 2) := by decide +kernel
theorem dX8_findsAll_72 : decode cX8_findsAll 72 = .ok (.iload_n 1, 1) := by decide +kernel
theorem dX8_findsAll_73 : decode cX8_findsAll 73 = .ok (.imul, 1) := by decide +kernel
theorem dX8_findsAll_74 : decode cX8_findsAll 74 = .ok (.iconst 0, 1) := by decide +kernel
theorem dX8_findsAll_75 : decode cX8_findsAll 75 = .ok (.iastore, 1) := by decide +kernel
theorem dX8_findsAll_76 : decode cX8_findsAll 76 = .ok (.iinc 1 1, 3) := by decide +kernel
theorem dX8_findsAll_79 : decode cX8_findsAll 79 = .ok (.goto (-77), 3) := by decide +kernel
theorem dX8_findsAll_82 : decode cX8_findsAll 82 = .ok (.return_, 1) := by decide +kernel
def F_X8_findsAll_2  (K2 : Int32 → Mm → Prop) (q : Mm → Prop) (x1 : Int32) (μ : Mm) : Prop :=
  (((3 : Int32) ≤ x1 → q μ) ∧ (¬ ((3 : Int32) ≤ x1) → vp_in (μ p_MO 8) 13 ∧ (((μ p_MO_lines ((μ p_MO 8)).toNatClampNeg) ≤ x1 → vp_in x1 3 ∧ vp_in ((64 : Int32) * x1) 192 ∧ K2 (x1 + (1 : Int32)) (up2 (up2 μ p_MO_many (x1).toNatClampNeg (1 : Int32)) p_MO_found (((64 : Int32) * x1)).toNatClampNeg (0 : Int32))) ∧ (¬ ((μ p_MO_lines ((μ p_MO 8)).toNatClampNeg) ≤ x1) → vp_in (((3 : Int32) * (μ p_MO 8)) + x1) 39 ∧ vp_in (μ p_MO_lineFrom ((((3 : Int32) * (μ p_MO 8)) + x1)).toNatClampNeg) 3 ∧ vp_in (((3 : Int32) * (μ p_MO 8)) + x1) 39 ∧ vp_in (μ p_MO_lineTo ((((3 : Int32) * (μ p_MO 8)) + x1)).toNatClampNeg) 3 ∧ Wp_X8_finds x1 (μ p_MO_tries ((μ p_MO_lineFrom ((((3 : Int32) * (μ p_MO 8)) + x1)).toNatClampNeg)).toNatClampNeg) (μ p_MO_tries ((μ p_MO_lineTo ((((3 : Int32) * (μ p_MO 8)) + x1)).toNatClampNeg)).toNatClampNeg) μ (fun μ1 => K2 (x1 + (1 : Int32)) μ1)))))
def F_X8_findsAll_e  (K2 : Int32 → Mm → Prop) (q : Mm → Prop)  (μ : Mm) : Prop :=
  K2 (0 : Int32) μ
def Wp_X8_findsAll   (μ : Mm) (q : Mm → Prop) : Prop := ∀ (K2 : Int32 → Mm → Prop), (∀ (x1 : Int32) (μ : Mm), F_X8_findsAll_2  K2 q x1 μ → K2 x1 μ) → F_X8_findsAll_e  K2 q  μ
abbrev KK_X8_findsAll_2 (g : GE) (f : FE)  : Int32 → Mm → Prop := fun x1 μ => KW g f 3 0 0 2 [some (.ref p_MO), some (.int x1), none] [] μ
set_option maxHeartbeats 2000000 in
theorem b_X8_findsAll_2  {g : GE} {f : FE} {q : Mm → Prop} (cx : Cx g f cX8_findsAll 3 RX8 2 49 0 0) (hr : (f_M f).sig.returnType = none) (hl : (f_M f).locks = false) (hQ : f_Q f = MQ (f_b f) (QW g (qV q)) (f_a f) (f_s f) 0 0 (fun q => g.2.2.2 ≤ q))  {x1 : Int32} {μ : Mm} (h : F_X8_findsAll_2  (KK_X8_findsAll_2 g f ) q x1 μ) : KK_X8_findsAll_2 g f  x1 μ := by
  unfold F_X8_findsAll_2 at h
  show KW g f 3 0 0 2 [some (.ref p_MO), some (.int x1), none] [] μ
  refine k_iload_n cx dX8_findsAll_2 rfl rfl ?_
  refine k_iconst (v := (3 : Int32)) cx dX8_findsAll_3 (by decide +kernel) ?_
  refine k_icmp_ge (tgt := 82) cx dX8_findsAll_4 (by decide) (fun hc => ?_) (fun hc => ?_)
  · replace h := h.1 hc
    exact k_ret_V cx hr hl hQ dX8_findsAll_82 h
  · replace h := h.2 hc
    refine k_iload_n cx dX8_findsAll_7 rfl rfl ?_
    refine k_aload_n cx dX8_findsAll_8 rfl rfl ?_
    refine k_get (o := some p_MO_lines) (v := .ref p_MO_lines) cx fl_X8_29 ob_MO rfl rfl dX8_findsAll_9 ?_
    refine k_aload_n cx dX8_findsAll_12 rfl rfl ?_
    refine k_get (o := none) (v := .int (μ p_MO 8)) cx fl_X8_118 ob_MO rfl rfl dX8_findsAll_13 ?_
    obtain ⟨hi, h⟩ := h
    refine k_iald cx ar_MO_lines hi dX8_findsAll_16 ?_
    refine k_icmp_ge (tgt := 59) cx dX8_findsAll_17 (by decide) (fun hc => ?_) (fun hc => ?_)
    · replace h := h.1 hc
      refine k_aload_n cx dX8_findsAll_59 rfl rfl ?_
      refine k_get (o := some p_MO_many) (v := .ref p_MO_many) cx fl_X8_80 ob_MO rfl rfl dX8_findsAll_60 ?_
      refine k_iload_n cx dX8_findsAll_63 rfl rfl ?_
      refine k_iconst (v := (1 : Int32)) cx dX8_findsAll_64 (by decide +kernel) ?_
      obtain ⟨hi, h⟩ := h
      refine k_iast cx ar_MO_many hi dX8_findsAll_65 ?_
      refine k_aload_n cx dX8_findsAll_66 rfl rfl ?_
      refine k_get (o := some p_MO_found) (v := .ref p_MO_found) cx fl_X8_77 ob_MO rfl rfl dX8_findsAll_67 ?_
      refine k_bipush (v := (64 : Int32)) cx dX8_findsAll_70 (by decide +kernel) ?_
      refine k_iload_n cx dX8_findsAll_72 rfl rfl ?_
      refine k_imul cx dX8_findsAll_73 ?_
      refine k_iconst (v := (0 : Int32)) cx dX8_findsAll_74 (by decide +kernel) ?_
      obtain ⟨hi, h⟩ := h
      refine k_iast cx ar_MO_found hi dX8_findsAll_75 ?_
      refine k_iinc (v := (x1 + (1 : Int32))) cx dX8_findsAll_76 rfl rfl (by decide) ?_
      refine k_goto (tgt := 2) cx dX8_findsAll_79 (by decide) ?_
      exact k_weak h (lsLe.keep (lsLe.keep (lsLe.keep lsLe.nil)))
    · replace h := h.2 hc
      refine k_iconst (v := (3 : Int32)) cx dX8_findsAll_20 (by decide +kernel) ?_
      refine k_aload_n cx dX8_findsAll_21 rfl rfl ?_
      refine k_get (o := none) (v := .int (μ p_MO 8)) cx fl_X8_118 ob_MO rfl rfl dX8_findsAll_22 ?_
      refine k_imul cx dX8_findsAll_25 ?_
      refine k_iload_n cx dX8_findsAll_26 rfl rfl ?_
      refine k_iadd cx dX8_findsAll_27 ?_
      refine k_istore_n cx dX8_findsAll_28 rfl (by decide) ?_
      refine k_aload_n cx dX8_findsAll_29 rfl rfl ?_
      refine k_iload_n cx dX8_findsAll_30 rfl rfl ?_
      refine k_aload_n cx dX8_findsAll_31 rfl rfl ?_
      refine k_get (o := some p_MO_tries) (v := .ref p_MO_tries) cx fl_X8_92 ob_MO rfl rfl dX8_findsAll_32 ?_
      refine k_aload_n cx dX8_findsAll_35 rfl rfl ?_
      refine k_get (o := some p_MO_lineFrom) (v := .ref p_MO_lineFrom) cx fl_X8_41 ob_MO rfl rfl dX8_findsAll_36 ?_
      refine k_iload_n cx dX8_findsAll_39 rfl rfl ?_
      obtain ⟨hi, h⟩ := h
      refine k_iald cx ar_MO_lineFrom hi dX8_findsAll_40 ?_
      obtain ⟨hi, h⟩ := h
      refine k_iald cx ar_MO_tries hi dX8_findsAll_41 ?_
      refine k_aload_n cx dX8_findsAll_42 rfl rfl ?_
      refine k_get (o := some p_MO_tries) (v := .ref p_MO_tries) cx fl_X8_92 ob_MO rfl rfl dX8_findsAll_43 ?_
      refine k_aload_n cx dX8_findsAll_46 rfl rfl ?_
      refine k_get (o := some p_MO_lineTo) (v := .ref p_MO_lineTo) cx fl_X8_44 ob_MO rfl rfl dX8_findsAll_47 ?_
      refine k_iload_n cx dX8_findsAll_50 rfl rfl ?_
      obtain ⟨hi, h⟩ := h
      refine k_iald cx ar_MO_lineTo hi dX8_findsAll_51 ?_
      obtain ⟨hi, h⟩ := h
      refine k_iald cx ar_MO_tries hi dX8_findsAll_52 ?_
      refine k_callV (As := [.int x1, .int (μ p_MO_tries ((μ p_MO_lineFrom ((((3 : Int32) * (μ p_MO 8)) + x1)).toNatClampNeg)).toNatClampNeg), .int (μ p_MO_tries ((μ p_MO_lineTo ((((3 : Int32) * (μ p_MO 8)) + x1)).toNatClampNeg)).toNatClampNeg)]) (rest := []) cx (m_X8_finds h) cv_X8_160 ob_MO rfl rfl rfl rfl (Nat.le_of_ble_eq_true rfl) ⟨Nat.le_of_ble_eq_true rfl, Nat.le_of_ble_eq_true rfl⟩ dX8_findsAll_53 (fun v μ1 hq => ?_)
      obtain ⟨rfl, h⟩ := hq
      refine k_goto (tgt := 76) cx dX8_findsAll_56 (by decide) ?_
      refine k_iinc (v := (x1 + (1 : Int32))) cx dX8_findsAll_76 rfl rfl (by decide) ?_
      refine k_goto (tgt := 2) cx dX8_findsAll_79 (by decide) ?_
      exact k_weak h (lsLe.keep (lsLe.keep (lsLe.drop lsLe.nil)))
set_option maxHeartbeats 2000000 in
theorem b_X8_findsAll_e  {g : GE} {f : FE} {q : Mm → Prop} (cx : Cx g f cX8_findsAll 3 RX8 2 49 0 0) (hr : (f_M f).sig.returnType = none) (hl : (f_M f).locks = false) (hQ : f_Q f = MQ (f_b f) (QW g (qV q)) (f_a f) (f_s f) 0 0 (fun q => g.2.2.2 ≤ q))   {μ : Mm} (h : F_X8_findsAll_e  (KK_X8_findsAll_2 g f ) q  μ) : KW g f 3 0 0 0 [some (.ref p_MO), none, none] [] μ := by
  unfold F_X8_findsAll_e at h
  refine k_iconst (v := (0 : Int32)) cx dX8_findsAll_0 (by decide +kernel) ?_
  refine k_istore_n cx dX8_findsAll_1 rfl (by decide) ?_
  exact k_weak h (lsLe.keep (lsLe.keep (lsLe.keep lsLe.nil)))
theorem m_X8_findsAll {g : GE} {l : Launch} {μ : Mm} {q : Mm → Prop}  (h : Wp_X8_findsAll   μ q) : MW g l yX8_findsAll cX8_findsAll 3 none 2 49 [.ref p_MO] μ (qV q) := by
  refine met_of (by decide) (Nat.le_of_ble_eq_true rfl) (by intro v hv; simp only [List.mem_cons, List.not_mem_nil, or_false] at hv; subst hv; rfl) ?_
  intro f hfl cx hr hl hQ
  exact b_X8_findsAll_e  cx hr hl hQ (h (KK_X8_findsAll_2 g f ) (fun _ _ h => b_X8_findsAll_2  cx hr hl hQ h))
theorem dX8_keeps_0 : decode cX8_keeps 0 = .ok (.iconst 0, 1) := by decide +kernel
theorem dX8_keeps_1 : decode cX8_keeps 1 = .ok (.istore 4, 2) := by decide +kernel
theorem dX8_keeps_3 : decode cX8_keeps 3 = .ok (.iload 4, 2) := by decide +kernel
theorem dX8_keeps_5 : decode cX8_keeps 5 = .ok (.iconst 3, 1) := by decide +kernel
theorem dX8_keeps_6 : decode cX8_keeps 6 = .ok (.if_icmp .ge 23, 3) := by decide +kernel
theorem dX8_keeps_9 : decode cX8_keeps 9 = .ok (.aload_n 0, 1) := by decide +kernel
theorem dX8_keeps_10 : decode cX8_keeps 10 = .ok (.getfield 95, 3) := by decide +kernel
theorem dX8_keeps_13 : decode cX8_keeps 13 = .ok (.iload 4, 2) := by decide +kernel
theorem dX8_keeps_15 : decode cX8_keeps 15 = .ok (.aload_n 0, 1) := by decide +kernel
theorem dX8_keeps_16 : decode cX8_keeps 16 = .ok (.getfield 92, 3) := by decide +kernel
theorem dX8_keeps_19 : decode cX8_keeps 19 = .ok (.iload 4, 2) := by decide +kernel
theorem dX8_keeps_21 : decode cX8_keeps 21 = .ok (.iaload, 1) := by decide +kernel
theorem dX8_keeps_22 : decode cX8_keeps 22 = .ok (.iastore, 1) := by decide +kernel
theorem dX8_keeps_23 : decode cX8_keeps 23 = .ok (.iinc 4 1, 3) := by decide +kernel
theorem dX8_keeps_26 : decode cX8_keeps 26 = .ok (.goto (-23), 3) := by decide +kernel
theorem dX8_keeps_29 : decode cX8_keeps 29 = .ok (.aload_n 0, 1) := by decide +kernel
theorem dX8_keeps_30 : decode cX8_keeps 30 = .ok (.getfield 98, 3) := by decide +kernel
theorem dX8_keeps_33 : decode cX8_keeps 33 = .ok (.iconst 0, 1) := by decide +kernel
theorem dX8_keeps_34 : decode cX8_keeps 34 = .ok (.aload_n 0, 1) := by decide +kernel
theorem dX8_keeps_35 : decode cX8_keeps 35 = .ok (.getfield 77, 3) := by decide +kernel
theorem dX8_keeps_38 : decode cX8_keeps 38 = .ok (.iload_n 1, 1) := by decide +kernel
theorem dX8_keeps_39 : decode cX8_keeps 39 = .ok (.iaload, 1) := by decide +kernel
theorem dX8_keeps_40 : decode cX8_keeps 40 = .ok (.iastore, 1) := by decide +kernel
theorem dX8_keeps_41 : decode cX8_keeps 41 = .ok (.aload_n 0, 1) := by decide +kernel
theorem dX8_keeps_42 : decode cX8_keeps 42 = .ok (.getfield 98, 3) := by decide +kernel
theorem dX8_keeps_45 : decode cX8_keeps 45 = .ok (.iconst 1, 1) := by decide +kernel
theorem dX8_keeps_46 : decode cX8_keeps 46 = .ok (.aload_n 0, 1) := by decide +kernel
theorem dX8_keeps_47 : decode cX8_keeps 47 = .ok (.getfield 77, 3) := by decide +kernel
theorem dX8_keeps_50 : decode cX8_keeps 50 = .ok (.bipush 64, 2) := by decide +kernel
theorem dX8_keeps_52 : decode cX8_keeps 52 = .ok (.iload_n 2, 1) := by decide +kernel
theorem dX8_keeps_53 : decode cX8_keeps 53 = .ok (.iadd, 1) := by decide +kernel
theorem dX8_keeps_54 : decode cX8_keeps 54 = .ok (.iaload, 1) := by decide +kernel
theorem dX8_keeps_55 : decode cX8_keeps 55 = .ok (.iastore, 1) := by decide +kernel
theorem dX8_keeps_56 : decode cX8_keeps 56 = .ok (.aload_n 0, 1) := by decide +kernel
theorem dX8_keeps_57 : decode cX8_keeps 57 = .ok (.getfield 98, 3) := by decide +kernel
theorem dX8_keeps_60 : decode cX8_keeps 60 = .ok (.iconst 2, 1) := by decide +kernel
theorem dX8_keeps_61 : decode cX8_keeps 61 = .ok (.aload_n 0, 1) := by decide +kernel
theorem dX8_keeps_62 : decode cX8_keeps 62 = .ok (.getfield 77, 3) := by decide +kernel
theorem dX8_keeps_65 : decode cX8_keeps 65 = .ok (.sipush 128, 3) := by decide +kernel
theorem dX8_keeps_68 : decode cX8_keeps 68 = .ok (.iload_n 3, 1) := by decide +kernel
theorem dX8_keeps_69 : decode cX8_keeps 69 = .ok (.iadd, 1) := by decide +kernel
theorem dX8_keeps_70 : decode cX8_keeps 70 = .ok (.iaload, 1) := by decide +kernel
theorem dX8_keeps_71 : decode cX8_keeps 71 = .ok (.iastore, 1) := by decide +kernel
theorem dX8_keeps_72 : decode cX8_keeps 72 = .ok (.return_, 1) := by decide +kernel
def F_X8_keeps_3  (K3 : Int32 → Int32 → Int32 → Int32 → Mm → Prop) (q : Mm → Prop) (x1 : Int32) (x2 : Int32) (x3 : Int32) (x4 : Int32) (μ : Mm) : Prop :=
  (((3 : Int32) ≤ x4 → vp_in x1 192 ∧ vp_in (0 : Int32) 3 ∧ vp_in ((64 : Int32) + x2) 192 ∧ vp_in (1 : Int32) 3 ∧ vp_in ((128 : Int32) + x3) 192 ∧ vp_in (2 : Int32) 3 ∧ q (up2 (up2 (up2 μ p_MO_bestWay ((0 : Int32)).toNatClampNeg (μ p_MO_found (x1).toNatClampNeg)) p_MO_bestWay ((1 : Int32)).toNatClampNeg ((up2 μ p_MO_bestWay ((0 : Int32)).toNatClampNeg (μ p_MO_found (x1).toNatClampNeg)) p_MO_found (((64 : Int32) + x2)).toNatClampNeg)) p_MO_bestWay ((2 : Int32)).toNatClampNeg ((up2 (up2 μ p_MO_bestWay ((0 : Int32)).toNatClampNeg (μ p_MO_found (x1).toNatClampNeg)) p_MO_bestWay ((1 : Int32)).toNatClampNeg ((up2 μ p_MO_bestWay ((0 : Int32)).toNatClampNeg (μ p_MO_found (x1).toNatClampNeg)) p_MO_found (((64 : Int32) + x2)).toNatClampNeg)) p_MO_found (((128 : Int32) + x3)).toNatClampNeg))) ∧ (¬ ((3 : Int32) ≤ x4) → vp_in x4 3 ∧ vp_in x4 3 ∧ K3 x1 x2 x3 (x4 + (1 : Int32)) (up2 μ p_MO_bestAt (x4).toNatClampNeg (μ p_MO_tries (x4).toNatClampNeg))))
def F_X8_keeps_e  (K3 : Int32 → Int32 → Int32 → Int32 → Mm → Prop) (q : Mm → Prop) (x1 : Int32) (x2 : Int32) (x3 : Int32) (μ : Mm) : Prop :=
  K3 x1 x2 x3 (0 : Int32) μ
def Wp_X8_keeps  (x1 : Int32) (x2 : Int32) (x3 : Int32) (μ : Mm) (q : Mm → Prop) : Prop := ∀ (K3 : Int32 → Int32 → Int32 → Int32 → Mm → Prop), (∀ (x1 : Int32) (x2 : Int32) (x3 : Int32) (x4 : Int32) (μ : Mm), F_X8_keeps_3  K3 q x1 x2 x3 x4 μ → K3 x1 x2 x3 x4 μ) → F_X8_keeps_e  K3 q x1 x2 x3 μ
abbrev KK_X8_keeps_3 (g : GE) (f : FE)  : Int32 → Int32 → Int32 → Int32 → Mm → Prop := fun x1 x2 x3 x4 μ => KW g f 5 0 0 3 [some (.ref p_MO), some (.int x1), some (.int x2), some (.int x3), some (.int x4)] [] μ
set_option maxHeartbeats 2000000 in
theorem b_X8_keeps_3  {g : GE} {f : FE} {q : Mm → Prop} (cx : Cx g f cX8_keeps 5 RX8 0 0 0 0) (hr : (f_M f).sig.returnType = none) (hl : (f_M f).locks = false) (hQ : f_Q f = MQ (f_b f) (QW g (qV q)) (f_a f) (f_s f) 0 0 (fun q => g.2.2.2 ≤ q))  {x1 : Int32} {x2 : Int32} {x3 : Int32} {x4 : Int32} {μ : Mm} (h : F_X8_keeps_3  (KK_X8_keeps_3 g f ) q x1 x2 x3 x4 μ) : KK_X8_keeps_3 g f  x1 x2 x3 x4 μ := by
  unfold F_X8_keeps_3 at h
  show KW g f 5 0 0 3 [some (.ref p_MO), some (.int x1), some (.int x2), some (.int x3), some (.int x4)] [] μ
  refine k_iload cx dX8_keeps_3 rfl ?_
  refine k_iconst (v := (3 : Int32)) cx dX8_keeps_5 (by decide +kernel) ?_
  refine k_icmp_ge (tgt := 29) cx dX8_keeps_6 (by decide) (fun hc => ?_) (fun hc => ?_)
  · replace h := h.1 hc
    refine k_aload_n cx dX8_keeps_29 rfl rfl ?_
    refine k_get (o := some p_MO_bestWay) (v := .ref p_MO_bestWay) cx fl_X8_98 ob_MO rfl rfl dX8_keeps_30 ?_
    refine k_iconst (v := (0 : Int32)) cx dX8_keeps_33 (by decide +kernel) ?_
    refine k_aload_n cx dX8_keeps_34 rfl rfl ?_
    refine k_get (o := some p_MO_found) (v := .ref p_MO_found) cx fl_X8_77 ob_MO rfl rfl dX8_keeps_35 ?_
    refine k_iload_n cx dX8_keeps_38 rfl rfl ?_
    obtain ⟨hi, h⟩ := h
    refine k_iald cx ar_MO_found hi dX8_keeps_39 ?_
    obtain ⟨hi, h⟩ := h
    refine k_iast cx ar_MO_bestWay hi dX8_keeps_40 ?_
    refine k_aload_n cx dX8_keeps_41 rfl rfl ?_
    refine k_get (o := some p_MO_bestWay) (v := .ref p_MO_bestWay) cx fl_X8_98 ob_MO rfl rfl dX8_keeps_42 ?_
    refine k_iconst (v := (1 : Int32)) cx dX8_keeps_45 (by decide +kernel) ?_
    refine k_aload_n cx dX8_keeps_46 rfl rfl ?_
    refine k_get (o := some p_MO_found) (v := .ref p_MO_found) cx fl_X8_77 ob_MO rfl rfl dX8_keeps_47 ?_
    refine k_bipush (v := (64 : Int32)) cx dX8_keeps_50 (by decide +kernel) ?_
    refine k_iload_n cx dX8_keeps_52 rfl rfl ?_
    refine k_iadd cx dX8_keeps_53 ?_
    obtain ⟨hi, h⟩ := h
    refine k_iald cx ar_MO_found hi dX8_keeps_54 ?_
    obtain ⟨hi, h⟩ := h
    refine k_iast cx ar_MO_bestWay hi dX8_keeps_55 ?_
    refine k_aload_n cx dX8_keeps_56 rfl rfl ?_
    refine k_get (o := some p_MO_bestWay) (v := .ref p_MO_bestWay) cx fl_X8_98 ob_MO rfl rfl dX8_keeps_57 ?_
    refine k_iconst (v := (2 : Int32)) cx dX8_keeps_60 (by decide +kernel) ?_
    refine k_aload_n cx dX8_keeps_61 rfl rfl ?_
    refine k_get (o := some p_MO_found) (v := .ref p_MO_found) cx fl_X8_77 ob_MO rfl rfl dX8_keeps_62 ?_
    refine k_sipush (v := (128 : Int32)) cx dX8_keeps_65 (by decide +kernel) ?_
    refine k_iload_n cx dX8_keeps_68 rfl rfl ?_
    refine k_iadd cx dX8_keeps_69 ?_
    obtain ⟨hi, h⟩ := h
    refine k_iald cx ar_MO_found hi dX8_keeps_70 ?_
    obtain ⟨hi, h⟩ := h
    refine k_iast cx ar_MO_bestWay hi dX8_keeps_71 ?_
    exact k_ret_V cx hr hl hQ dX8_keeps_72 h
  · replace h := h.2 hc
    refine k_aload_n cx dX8_keeps_9 rfl rfl ?_
    refine k_get (o := some p_MO_bestAt) (v := .ref p_MO_bestAt) cx fl_X8_95 ob_MO rfl rfl dX8_keeps_10 ?_
    refine k_iload cx dX8_keeps_13 rfl ?_
    refine k_aload_n cx dX8_keeps_15 rfl rfl ?_
    refine k_get (o := some p_MO_tries) (v := .ref p_MO_tries) cx fl_X8_92 ob_MO rfl rfl dX8_keeps_16 ?_
    refine k_iload cx dX8_keeps_19 rfl ?_
    obtain ⟨hi, h⟩ := h
    refine k_iald cx ar_MO_tries hi dX8_keeps_21 ?_
    obtain ⟨hi, h⟩ := h
    refine k_iast cx ar_MO_bestAt hi dX8_keeps_22 ?_
    refine k_iinc (v := (x4 + (1 : Int32))) cx dX8_keeps_23 rfl rfl (by decide) ?_
    refine k_goto (tgt := 3) cx dX8_keeps_26 (by decide) ?_
    exact k_weak h (lsLe.keep (lsLe.keep (lsLe.keep (lsLe.keep (lsLe.keep lsLe.nil)))))
set_option maxHeartbeats 2000000 in
theorem b_X8_keeps_e  {g : GE} {f : FE} {q : Mm → Prop} (cx : Cx g f cX8_keeps 5 RX8 0 0 0 0) (hr : (f_M f).sig.returnType = none) (hl : (f_M f).locks = false) (hQ : f_Q f = MQ (f_b f) (QW g (qV q)) (f_a f) (f_s f) 0 0 (fun q => g.2.2.2 ≤ q))  {x1 : Int32} {x2 : Int32} {x3 : Int32} {μ : Mm} (h : F_X8_keeps_e  (KK_X8_keeps_3 g f ) q x1 x2 x3 μ) : KW g f 5 0 0 0 [some (.ref p_MO), some (.int x1), some (.int x2), some (.int x3), none] [] μ := by
  unfold F_X8_keeps_e at h
  refine k_iconst (v := (0 : Int32)) cx dX8_keeps_0 (by decide +kernel) ?_
  refine k_istore cx dX8_keeps_1 (by decide) ?_
  exact k_weak h (lsLe.keep (lsLe.keep (lsLe.keep (lsLe.keep (lsLe.keep lsLe.nil)))))
theorem m_X8_keeps {g : GE} {l : Launch} {μ : Mm} {q : Mm → Prop} {x1 : Int32} {x2 : Int32} {x3 : Int32}  (h : Wp_X8_keeps  x1 x2 x3 μ q) : MW g l yX8_keeps cX8_keeps 5 none 0 0 [.ref p_MO, .int x1, .int x2, .int x3] μ (qV q) := by
  refine met_of (by decide) (Nat.le_of_ble_eq_true rfl) (by intro v hv; simp only [List.mem_cons, List.not_mem_nil, or_false] at hv; rcases hv with rfl | rfl | rfl | rfl <;> rfl) ?_
  intro f hfl cx hr hl hQ
  exact b_X8_keeps_e  cx hr hl hQ (h (KK_X8_keeps_3 g f ) (fun _ _ _ _ _ h => b_X8_keeps_3  cx hr hl hQ h))
theorem dX8_takes_0 : decode cX8_takes 0 = .ok (.iconst 0, 1) := by decide +kernel
theorem dX8_takes_1 : decode cX8_takes 1 = .ok (.istore_n 3, 1) := by decide +kernel
theorem dX8_takes_2 : decode cX8_takes 2 = .ok (.iload_n 3, 1) := by decide +kernel
theorem dX8_takes_3 : decode cX8_takes 3 = .ok (.aload_n 0, 1) := by decide +kernel
theorem dX8_takes_4 : decode cX8_takes 4 = .ok (.getfield 115, 3) := by decide +kernel
theorem dX8_takes_7 : decode cX8_takes 7 = .ok (.if_icmp .ge 31, 3) := by decide +kernel
theorem dX8_takes_10 : decode cX8_takes 10 = .ok (.aload_n 0, 1) := by decide +kernel
theorem dX8_takes_11 : decode cX8_takes 11 = .ok (.getfield 74, 3) := by decide +kernel
theorem dX8_takes_14 : decode cX8_takes 14 = .ok (.iload_n 3, 1) := by decide +kernel
theorem dX8_takes_15 : decode cX8_takes 15 = .ok (.dup2, 1) := by decide +kernel
theorem dX8_takes_16 : decode cX8_takes 16 = .ok (.iaload, 1) := by decide +kernel
theorem dX8_takes_17 : decode cX8_takes 17 = .ok (.iload_n 1, 1) := by decide +kernel
theorem dX8_takes_18 : decode cX8_takes 18 = .ok (.iload_n 3, 1) := by decide +kernel
theorem dX8_takes_19 : decode cX8_takes 19 = .ok (.invokestatic 136, 3) := by decide +kernel
theorem dX8_takes_22 : decode cX8_takes 22 = .ok (.ifCond .eq 7, 3) := by decide +kernel
theorem dX8_takes_25 : decode cX8_takes 25 = .ok (.iload_n 2, 1) := by decide +kernel
theorem dX8_takes_26 : decode cX8_takes 26 = .ok (.goto 4, 3) := by decide +kernel
theorem dX8_takes_29 : decode cX8_takes 29 = .ok (.iconst 0, 1) := by decide +kernel
theorem dX8_takes_30 : decode cX8_takes 30 = .ok (.isub, 1) := by decide +kernel
theorem dX8_takes_31 : decode cX8_takes 31 = .ok (.iastore, 1) := by decide +kernel
theorem dX8_takes_32 : decode cX8_takes 32 = .ok (.iinc 3 1, 3) := by decide +kernel
theorem dX8_takes_35 : decode cX8_takes 35 = .ok (.goto (-33), 3) := by decide +kernel
theorem dX8_takes_38 : decode cX8_takes 38 = .ok (.return_, 1) := by decide +kernel
def F_X8_takes_2  (K2 : Int32 → Int32 → Int32 → Mm → Prop) (q : Mm → Prop) (x1 : Int32) (x2 : Int32) (x3 : Int32) (μ : Mm) : Prop :=
  (((μ p_MO 3) ≤ x3 → q μ) ∧ (¬ ((μ p_MO 3) ≤ x3) → vp_in x3 9 ∧ Wp_X8_has x1 x3 μ (fun b2 μ1 => (((bI b2) = 0 → vp_in x3 9 ∧ K2 x1 x2 (x3 + (1 : Int32)) (up2 μ1 p_MO_free (x3).toNatClampNeg ((μ p_MO_free (x3).toNatClampNeg) - (0 : Int32)))) ∧ (¬ ((bI b2) = 0) → vp_in x3 9 ∧ K2 x1 x2 (x3 + (1 : Int32)) (up2 μ1 p_MO_free (x3).toNatClampNeg ((μ p_MO_free (x3).toNatClampNeg) - x2)))))))
def F_X8_takes_e  (K2 : Int32 → Int32 → Int32 → Mm → Prop) (q : Mm → Prop) (x1 : Int32) (x2 : Int32) (μ : Mm) : Prop :=
  K2 x1 x2 (0 : Int32) μ
def Wp_X8_takes  (x1 : Int32) (x2 : Int32) (μ : Mm) (q : Mm → Prop) : Prop := ∀ (K2 : Int32 → Int32 → Int32 → Mm → Prop), (∀ (x1 : Int32) (x2 : Int32) (x3 : Int32) (μ : Mm), F_X8_takes_2  K2 q x1 x2 x3 μ → K2 x1 x2 x3 μ) → F_X8_takes_e  K2 q x1 x2 μ
abbrev KK_X8_takes_2 (g : GE) (f : FE)  : Int32 → Int32 → Int32 → Mm → Prop := fun x1 x2 x3 μ => KW g f 4 0 0 2 [some (.ref p_MO), some (.int x1), some (.int x2), some (.int x3)] [] μ
set_option maxHeartbeats 2000000 in
theorem b_X8_takes_2  {g : GE} {f : FE} {q : Mm → Prop} (cx : Cx g f cX8_takes 4 RX8 1 21 0 0) (hr : (f_M f).sig.returnType = none) (hl : (f_M f).locks = false) (hQ : f_Q f = MQ (f_b f) (QW g (qV q)) (f_a f) (f_s f) 0 0 (fun q => g.2.2.2 ≤ q))  {x1 : Int32} {x2 : Int32} {x3 : Int32} {μ : Mm} (h : F_X8_takes_2  (KK_X8_takes_2 g f ) q x1 x2 x3 μ) : KK_X8_takes_2 g f  x1 x2 x3 μ := by
  unfold F_X8_takes_2 at h
  show KW g f 4 0 0 2 [some (.ref p_MO), some (.int x1), some (.int x2), some (.int x3)] [] μ
  refine k_iload_n cx dX8_takes_2 rfl rfl ?_
  refine k_aload_n cx dX8_takes_3 rfl rfl ?_
  refine k_get (o := none) (v := .int (μ p_MO 3)) cx fl_X8_115 ob_MO rfl rfl dX8_takes_4 ?_
  refine k_icmp_ge (tgt := 38) cx dX8_takes_7 (by decide) (fun hc => ?_) (fun hc => ?_)
  · replace h := h.1 hc
    exact k_ret_V cx hr hl hQ dX8_takes_38 h
  · replace h := h.2 hc
    refine k_aload_n cx dX8_takes_10 rfl rfl ?_
    refine k_get (o := some p_MO_free) (v := .ref p_MO_free) cx fl_X8_74 ob_MO rfl rfl dX8_takes_11 ?_
    refine k_iload_n cx dX8_takes_14 rfl rfl ?_
    refine k_dup2 cx dX8_takes_15 rfl rfl ?_
    obtain ⟨hi, h⟩ := h
    refine k_iald cx ar_MO_free hi dX8_takes_16 ?_
    refine k_iload_n cx dX8_takes_17 rfl rfl ?_
    refine k_iload_n cx dX8_takes_18 rfl rfl ?_
    refine k_callS (As := [.int x1, .int x3]) (rest := [.int (μ p_MO_free (x3).toNatClampNeg), .int x3, .ref p_MO_free]) cx (m_X8_has h) cv_X8_136 rfl rfl (Nat.le_of_ble_eq_true rfl) ⟨Nat.le_of_ble_eq_true rfl, Nat.le_of_ble_eq_true rfl⟩ dX8_takes_19 (fun v μ1 hq => ?_)
    obtain ⟨b2, rfl, h⟩ := hq
    refine k_if_eq (tgt := 29) cx dX8_takes_22 (by decide) (fun hc => ?_) (fun hc => ?_)
    · replace h := h.1 hc
      refine k_iconst (v := (0 : Int32)) cx dX8_takes_29 (by decide +kernel) ?_
      refine k_isub cx dX8_takes_30 ?_
      obtain ⟨hi, h⟩ := h
      refine k_iast cx ar_MO_free hi dX8_takes_31 ?_
      refine k_iinc (v := (x3 + (1 : Int32))) cx dX8_takes_32 rfl rfl (by decide) ?_
      refine k_goto (tgt := 2) cx dX8_takes_35 (by decide) ?_
      exact k_weak h (lsLe.keep (lsLe.keep (lsLe.keep (lsLe.keep lsLe.nil))))
    · replace h := h.2 hc
      refine k_iload_n cx dX8_takes_25 rfl rfl ?_
      refine k_goto (tgt := 30) cx dX8_takes_26 (by decide) ?_
      refine k_isub cx dX8_takes_30 ?_
      obtain ⟨hi, h⟩ := h
      refine k_iast cx ar_MO_free hi dX8_takes_31 ?_
      refine k_iinc (v := (x3 + (1 : Int32))) cx dX8_takes_32 rfl rfl (by decide) ?_
      refine k_goto (tgt := 2) cx dX8_takes_35 (by decide) ?_
      exact k_weak h (lsLe.keep (lsLe.keep (lsLe.keep (lsLe.keep lsLe.nil))))
set_option maxHeartbeats 2000000 in
theorem b_X8_takes_e  {g : GE} {f : FE} {q : Mm → Prop} (cx : Cx g f cX8_takes 4 RX8 1 21 0 0) (hr : (f_M f).sig.returnType = none) (hl : (f_M f).locks = false) (hQ : f_Q f = MQ (f_b f) (QW g (qV q)) (f_a f) (f_s f) 0 0 (fun q => g.2.2.2 ≤ q))  {x1 : Int32} {x2 : Int32} {μ : Mm} (h : F_X8_takes_e  (KK_X8_takes_2 g f ) q x1 x2 μ) : KW g f 4 0 0 0 [some (.ref p_MO), some (.int x1), some (.int x2), none] [] μ := by
  unfold F_X8_takes_e at h
  refine k_iconst (v := (0 : Int32)) cx dX8_takes_0 (by decide +kernel) ?_
  refine k_istore_n cx dX8_takes_1 rfl (by decide) ?_
  exact k_weak h (lsLe.keep (lsLe.keep (lsLe.keep (lsLe.keep lsLe.nil))))
theorem m_X8_takes {g : GE} {l : Launch} {μ : Mm} {q : Mm → Prop} {x1 : Int32} {x2 : Int32}  (h : Wp_X8_takes  x1 x2 μ q) : MW g l yX8_takes cX8_takes 4 none 1 21 [.ref p_MO, .int x1, .int x2] μ (qV q) := by
  refine met_of (by decide) (Nat.le_of_ble_eq_true rfl) (by intro v hv; simp only [List.mem_cons, List.not_mem_nil, or_false] at hv; rcases hv with rfl | rfl | rfl <;> rfl) ?_
  intro f hfl cx hr hl hQ
  exact b_X8_takes_e  cx hr hl hQ (h (KK_X8_takes_2 g f ) (fun _ _ _ _ h => b_X8_takes_2  cx hr hl hQ h))
theorem dX8_leastBy_0 : decode cX8_leastBy 0 = .ok (.iload_n 1, 1) := by decide +kernel
theorem dX8_leastBy_1 : decode cX8_leastBy 1 = .ok (.istore_n 2, 1) := by decide +kernel
theorem dX8_leastBy_2 : decode cX8_leastBy 2 = .ok (.iconst 0, 1) := by decide +kernel
theorem dX8_leastBy_3 : decode cX8_leastBy 3 = .ok (.istore_n 3, 1) := by decide +kernel
theorem dX8_leastBy_4 : decode cX8_leastBy 4 = .ok (.iload_n 3, 1) := by decide +kernel
theorem dX8_leastBy_5 : decode cX8_leastBy 5 = .ok (.aload_n 0, 1) := by decide +kernel
theorem dX8_leastBy_6 : decode cX8_leastBy 6 = .ok (.getfield 80, 3) := by decide +kernel
theorem dX8_leastBy_9 : decode cX8_leastBy 9 = .ok (.iconst 0, 1) := by decide +kernel
theorem dX8_leastBy_10 : decode cX8_leastBy 10 = .ok (.iaload, 1) := by decide +kernel
theorem dX8_leastBy_11 : decode cX8_leastBy 11 = .ok (.if_icmp .ge 244, 3) := by decide +kernel
theorem dX8_leastBy_14 : decode cX8_leastBy 14 = .ok (.aload_n 0, 1) := by decide +kernel
theorem dX8_leastBy_15 : decode cX8_leastBy 15 = .ok (.iconst 0, 1) := by decide +kernel
theorem dX8_leastBy_16 : decode cX8_leastBy 16 = .ok (.iload_n 3, 1) := by decide +kernel
theorem dX8_leastBy_17 : decode cX8_leastBy 17 = .ok (.invokevirtual 170, 3) := by decide +kernel
theorem dX8_leastBy_20 : decode cX8_leastBy 20 = .ok (.istore 4, 2) := by decide +kernel
theorem dX8_leastBy_22 : decode cX8_leastBy 22 = .ok (.iload 4, 2) := by decide +kernel
theorem dX8_leastBy_24 : decode cX8_leastBy 24 = .ok (.iload_n 2, 1) := by decide +kernel
theorem dX8_leastBy_25 : decode cX8_leastBy 25 = .ok (.if_icmp .ge 224, 3) := by decide +kernel
theorem dX8_leastBy_28 : decode cX8_leastBy 28 = .ok (.aload_n 0, 1) := by decide +kernel
theorem dX8_leastBy_29 : decode cX8_leastBy 29 = .ok (.aload_n 0, 1) := by decide +kernel
theorem dX8_leastBy_30 : decode cX8_leastBy 30 = .ok (.getfield 77, 3) := by decide +kernel
theorem dX8_leastBy_33 : decode cX8_leastBy 33 = .ok (.iload_n 3, 1) := by decide +kernel
theorem dX8_leastBy_34 : decode cX8_leastBy 34 = .ok (.iaload, 1) := by decide +kernel
theorem dX8_leastBy_35 : decode cX8_leastBy 35 = .ok (.aload_n 0, 1) := by decide +kernel
theorem dX8_leastBy_36 : decode cX8_leastBy 36 = .ok (.iconst 0, 1) := by decide +kernel
theorem dX8_leastBy_37 : decode cX8_leastBy 37 = .ok (.invokevirtual 164, 3) := by decide +kernel
theorem dX8_leastBy_40 : decode cX8_leastBy 40 = .ok (.invokevirtual 173, 3) := by decide +kernel
theorem dX8_leastBy_43 : decode cX8_leastBy 43 = .ok (.ifCond .eq 206, 3) := by decide +kernel
theorem dX8_leastBy_46 : decode cX8_leastBy 46 = .ok (.aload_n 0, 1) := by decide +kernel
theorem dX8_leastBy_47 : decode cX8_leastBy 47 = .ok (.aload_n 0, 1) := by decide +kernel
theorem dX8_leastBy_48 : decode cX8_leastBy 48 = .ok (.getfield 77, 3) := by decide +kernel
theorem dX8_leastBy_51 : decode cX8_leastBy 51 = .ok (.iload_n 3, 1) := by decide +kernel
theorem dX8_leastBy_52 : decode cX8_leastBy 52 = .ok (.iaload, 1) := by decide +kernel
theorem dX8_leastBy_53 : decode cX8_leastBy 53 = .ok (.aload_n 0, 1) := by decide +kernel
theorem dX8_leastBy_54 : decode cX8_leastBy 54 = .ok (.iconst 0, 1) := by decide +kernel
theorem dX8_leastBy_55 : decode cX8_leastBy 55 = .ok (.invokevirtual 164, 3) := by decide +kernel
theorem dX8_leastBy_58 : decode cX8_leastBy 58 = .ok (.invokevirtual 176, 3) := by decide +kernel
theorem dX8_leastBy_61 : decode cX8_leastBy 61 = .ok (.iconst 0, 1) := by decide +kernel
theorem dX8_leastBy_62 : decode cX8_leastBy 62 = .ok (.istore 5, 2) := by decide +kernel
theorem dX8_leastBy_64 : decode cX8_leastBy 64 = .ok (.iload 5, 2) := by decide +kernel
theorem dX8_leastBy_66 : decode cX8_leastBy 66 = .ok (.aload_n 0, 1) := by decide +kernel
theorem dX8_leastBy_67 : decode cX8_leastBy 67 = .ok (.getfield 80, 3) := by decide +kernel
theorem dX8_leastBy_70 : decode cX8_leastBy 70 = .ok (.iconst 1, 1) := by decide +kernel
theorem dX8_leastBy_71 : decode cX8_leastBy 71 = .ok (.iaload, 1) := by decide +kernel
theorem dX8_leastBy_72 : decode cX8_leastBy 72 = .ok (.if_icmp .ge 161, 3) := by decide +kernel
theorem dX8_leastBy_75 : decode cX8_leastBy 75 = .ok (.iload 4, 2) := by decide +kernel
theorem dX8_leastBy_77 : decode cX8_leastBy 77 = .ok (.aload_n 0, 1) := by decide +kernel
theorem dX8_leastBy_78 : decode cX8_leastBy 78 = .ok (.iconst 1, 1) := by decide +kernel
theorem dX8_leastBy_79 : decode cX8_leastBy 79 = .ok (.iload 5, 2) := by decide +kernel
theorem dX8_leastBy_81 : decode cX8_leastBy 81 = .ok (.invokevirtual 170, 3) := by decide +kernel
theorem dX8_leastBy_84 : decode cX8_leastBy 84 = .ok (.iadd, 1) := by decide +kernel
theorem dX8_leastBy_85 : decode cX8_leastBy 85 = .ok (.istore 6, 2) := by decide +kernel
theorem dX8_leastBy_87 : decode cX8_leastBy 87 = .ok (.iload 6, 2) := by decide +kernel
theorem dX8_leastBy_89 : decode cX8_leastBy 89 = .ok (.iload_n 2, 1) := by decide +kernel
theorem dX8_leastBy_90 : decode cX8_leastBy 90 = .ok (.if_icmp .ge 137, 3) := by decide +kernel
theorem dX8_leastBy_93 : decode cX8_leastBy 93 = .ok (.aload_n 0, 1) := by decide +kernel
theorem dX8_leastBy_94 : decode cX8_leastBy 94 = .ok (.aload_n 0, 1) := by decide +kernel
theorem dX8_leastBy_95 : decode cX8_leastBy 95 = .ok (.getfield 77, 3) := by decide +kernel
theorem dX8_leastBy_98 : decode cX8_leastBy 98 = .ok (.bipush 64, 2) := by decide +kernel
theorem dX8_leastBy_100 : decode cX8_leastBy 100 = .ok (.iload 5, 2) := by decide +kernel
theorem dX8_leastBy_102 : decode cX8_leastBy 102 = .ok (.iadd, 1) := by decide +kernel
theorem dX8_leastBy_103 : decode cX8_leastBy 103 = .ok (.iaload, 1) := by decide +kernel
theorem dX8_leastBy_104 : decode cX8_leastBy 104 = .ok (.aload_n 0, 1) := by decide +kernel
theorem dX8_leastBy_105 : decode cX8_leastBy 105 = .ok (.iconst 1, 1) := by decide +kernel
theorem dX8_leastBy_106 : decode cX8_leastBy 106 = .ok (.invokevirtual 164, 3) := by decide +kernel
theorem dX8_leastBy_109 : decode cX8_leastBy 109 = .ok (.invokevirtual 173, 3) := by decide +kernel
theorem dX8_leastBy_112 : decode cX8_leastBy 112 = .ok (.ifCond .eq 115, 3) := by decide +kernel
theorem dX8_leastBy_115 : decode cX8_leastBy 115 = .ok (.aload_n 0, 1) := by decide +kernel
theorem dX8_leastBy_116 : decode cX8_leastBy 116 = .ok (.aload_n 0, 1) := by decide +kernel
theorem dX8_leastBy_117 : decode cX8_leastBy 117 = .ok (.getfield 77, 3) := by decide +kernel
theorem dX8_leastBy_120 : decode cX8_leastBy 120 = .ok (.bipush 64, 2) := by decide +kernel
theorem dX8_leastBy_122 : decode cX8_leastBy 122 = .ok (.iload 5, 2) := by decide +kernel
theorem dX8_leastBy_124 : decode cX8_leastBy 124 = .ok (.iadd, 1) := by decide +kernel
theorem dX8_leastBy_125 : decode cX8_leastBy 125 = .ok (.iaload, 1) := by decide +kernel
theorem dX8_leastBy_126 : decode cX8_leastBy 126 = .ok (.aload_n 0, 1) := by decide +kernel
theorem dX8_leastBy_127 : decode cX8_leastBy 127 = .ok (.iconst 1, 1) := by decide +kernel
theorem dX8_leastBy_128 : decode cX8_leastBy 128 = .ok (.invokevirtual 164, 3) := by decide +kernel
theorem dX8_leastBy_131 : decode cX8_leastBy 131 = .ok (.invokevirtual 176, 3) := by decide +kernel
theorem dX8_leastBy_134 : decode cX8_leastBy 134 = .ok (.iconst 0, 1) := by decide +kernel
theorem dX8_leastBy_135 : decode cX8_leastBy 135 = .ok (.istore 7, 2) := by decide +kernel
theorem dX8_leastBy_137 : decode cX8_leastBy 137 = .ok (.iload 7, 2) := by decide +kernel
theorem dX8_leastBy_139 : decode cX8_leastBy 139 = .ok (.aload_n 0, 1) := by decide +kernel
theorem dX8_leastBy_140 : decode cX8_leastBy 140 = .ok (.getfield 80, 3) := by decide +kernel
theorem dX8_leastBy_143 : decode cX8_leastBy 143 = .ok (.iconst 2, 1) := by decide +kernel
theorem dX8_leastBy_144 : decode cX8_leastBy 144 = .ok (.iaload, 1) := by decide +kernel
theorem dX8_leastBy_145 : decode cX8_leastBy 145 = .ok (.if_icmp .ge 62, 3) := by decide +kernel
theorem dX8_leastBy_148 : decode cX8_leastBy 148 = .ok (.iload 6, 2) := by decide +kernel
theorem dX8_leastBy_150 : decode cX8_leastBy 150 = .ok (.aload_n 0, 1) := by decide +kernel
theorem dX8_leastBy_151 : decode cX8_leastBy 151 = .ok (.iconst 2, 1) := by decide +kernel
theorem dX8_leastBy_152 : decode cX8_leastBy 152 = .ok (.iload 7, 2) := by decide +kernel
theorem dX8_leastBy_154 : decode cX8_leastBy 154 = .ok (.invokevirtual 170, 3) := by decide +kernel
theorem dX8_leastBy_157 : decode cX8_leastBy 157 = .ok (.iadd, 1) := by decide +kernel
theorem dX8_leastBy_158 : decode cX8_leastBy 158 = .ok (.istore 8, 2) := by decide +kernel
theorem dX8_leastBy_160 : decode cX8_leastBy 160 = .ok (.iload 8, 2) := by decide +kernel
theorem dX8_leastBy_162 : decode cX8_leastBy 162 = .ok (.iload_n 2, 1) := by decide +kernel
theorem dX8_leastBy_163 : decode cX8_leastBy 163 = .ok (.if_icmp .ge 38, 3) := by decide +kernel
theorem dX8_leastBy_166 : decode cX8_leastBy 166 = .ok (.aload_n 0, 1) := by decide +kernel
theorem dX8_leastBy_167 : decode cX8_leastBy 167 = .ok (.aload_n 0, 1) := by decide +kernel
theorem dX8_leastBy_168 : decode cX8_leastBy 168 = .ok (.getfield 77, 3) := by decide +kernel
theorem dX8_leastBy_171 : decode cX8_leastBy 171 = .ok (.sipush 128, 3) := by decide +kernel
theorem dX8_leastBy_174 : decode cX8_leastBy 174 = .ok (.iload 7, 2) := by decide +kernel
theorem dX8_leastBy_176 : decode cX8_leastBy 176 = .ok (.iadd, 1) := by decide +kernel
theorem dX8_leastBy_177 : decode cX8_leastBy 177 = .ok (.iaload, 1) := by decide +kernel
theorem dX8_leastBy_178 : decode cX8_leastBy 178 = .ok (.aload_n 0, 1) := by decide +kernel
theorem dX8_leastBy_179 : decode cX8_leastBy 179 = .ok (.iconst 2, 1) := by decide +kernel
theorem dX8_leastBy_180 : decode cX8_leastBy 180 = .ok (.invokevirtual 164, 3) := by decide +kernel
theorem dX8_leastBy_183 : decode cX8_leastBy 183 = .ok (.invokevirtual 173, 3) := by decide +kernel
theorem dX8_leastBy_186 : decode cX8_leastBy 186 = .ok (.ifCond .eq 15, 3) := by decide +kernel
theorem dX8_leastBy_189 : decode cX8_leastBy 189 = .ok (.iload 8, 2) := by decide +kernel
theorem dX8_leastBy_191 : decode cX8_leastBy 191 = .ok (.istore_n 2, 1) := by decide +kernel
theorem dX8_leastBy_192 : decode cX8_leastBy 192 = .ok (.aload_n 0, 1) := by decide +kernel
theorem dX8_leastBy_193 : decode cX8_leastBy 193 = .ok (.iload_n 3, 1) := by decide +kernel
theorem dX8_leastBy_194 : decode cX8_leastBy 194 = .ok (.iload 5, 2) := by decide +kernel
theorem dX8_leastBy_196 : decode cX8_leastBy 196 = .ok (.iload 7, 2) := by decide +kernel
theorem dX8_leastBy_198 : decode cX8_leastBy 198 = .ok (.invokevirtual 180, 3) := by decide +kernel
theorem dX8_leastBy_201 : decode cX8_leastBy 201 = .ok (.iinc 7 1, 3) := by decide +kernel
theorem dX8_leastBy_204 : decode cX8_leastBy 204 = .ok (.goto (-67), 3) := by decide +kernel
theorem dX8_leastBy_207 : decode cX8_leastBy 207 = .ok (.aload_n 0, 1) := by decide +kernel
theorem dX8_leastBy_208 : decode cX8_leastBy 208 = .ok (.aload_n 0, 1) := by decide +kernel
theorem dX8_leastBy_209 : decode cX8_leastBy 209 = .ok (.getfield 77, 3) := by decide +kernel
theorem dX8_leastBy_212 : decode cX8_leastBy 212 = .ok (.bipush 64, 2) := by decide +kernel
theorem dX8_leastBy_214 : decode cX8_leastBy 214 = .ok (.iload 5, 2) := by decide +kernel
theorem dX8_leastBy_216 : decode cX8_leastBy 216 = .ok (.iadd, 1) := by decide +kernel
theorem dX8_leastBy_217 : decode cX8_leastBy 217 = .ok (.iaload, 1) := by decide +kernel
theorem dX8_leastBy_218 : decode cX8_leastBy 218 = .ok (.aload_n 0, 1) := by decide +kernel
theorem dX8_leastBy_219 : decode cX8_leastBy 219 = .ok (.iconst 1, 1) := by decide +kernel
theorem dX8_leastBy_220 : decode cX8_leastBy 220 = .ok (.invokevirtual 164, 3) := by decide +kernel
theorem dX8_leastBy_223 : decode cX8_leastBy 223 = .ok (.ineg, 1) := by decide +kernel
theorem dX8_leastBy_224 : decode cX8_leastBy 224 = .ok (.invokevirtual 176, 3) := by decide +kernel
theorem dX8_leastBy_227 : decode cX8_leastBy 227 = .ok (.iinc 5 1, 3) := by decide +kernel
theorem dX8_leastBy_230 : decode cX8_leastBy 230 = .ok (.goto (-166), 3) := by decide +kernel
theorem dX8_leastBy_233 : decode cX8_leastBy 233 = .ok (.aload_n 0, 1) := by decide +kernel
theorem dX8_leastBy_234 : decode cX8_leastBy 234 = .ok (.aload_n 0, 1) := by decide +kernel
theorem dX8_leastBy_235 : decode cX8_leastBy 235 = .ok (.getfield 77, 3) := by decide +kernel
theorem dX8_leastBy_238 : decode cX8_leastBy 238 = .ok (.iload_n 3, 1) := by decide +kernel
theorem dX8_leastBy_239 : decode cX8_leastBy 239 = .ok (.iaload, 1) := by decide +kernel
theorem dX8_leastBy_240 : decode cX8_leastBy 240 = .ok (.aload_n 0, 1) := by decide +kernel
theorem dX8_leastBy_241 : decode cX8_leastBy 241 = .ok (.iconst 0, 1) := by decide +kernel
theorem dX8_leastBy_242 : decode cX8_leastBy 242 = .ok (.invokevirtual 164, 3) := by decide +kernel
theorem dX8_leastBy_245 : decode cX8_leastBy 245 = .ok (.ineg, 1) := by decide +kernel
theorem dX8_leastBy_246 : decode cX8_leastBy 246 = .ok (.invokevirtual 176, 3) := by decide +kernel
theorem dX8_leastBy_249 : decode cX8_leastBy 249 = .ok (.iinc 3 1, 3) := by decide +kernel
theorem dX8_leastBy_252 : decode cX8_leastBy 252 = .ok (.goto (-248), 3) := by decide +kernel
theorem dX8_leastBy_255 : decode cX8_leastBy 255 = .ok (.iload_n 2, 1) := by decide +kernel
theorem dX8_leastBy_256 : decode cX8_leastBy 256 = .ok (.ireturn, 1) := by decide +kernel
def F_X8_leastBy_4  (K4 : Int32 → Int32 → Mm → Prop) (K64 : Int32 → Int32 → Int32 → Int32 → Mm → Prop) (K137 : Int32 → Int32 → Int32 → Int32 → Int32 → Int32 → Mm → Prop) (q : Int32 → Mm → Prop) (x2 : Int32) (x3 : Int32) (μ : Mm) : Prop :=
  vp_in (0 : Int32) 3 ∧ (((μ p_MO_many ((0 : Int32)).toNatClampNeg) ≤ x3 → q x2 μ) ∧ (¬ ((μ p_MO_many ((0 : Int32)).toNatClampNeg) ≤ x3) → Wp_X8_cost (0 : Int32) x3 μ (fun z2 μ1 => ((x2 ≤ z2 → K4 x2 (x3 + (1 : Int32)) μ1) ∧ (¬ (x2 ≤ z2) → vp_in x3 192 ∧ Wp_X8_needOf (0 : Int32) μ1 (fun z4 μ3 => Wp_X8_fits (μ1 p_MO_found (x3).toNatClampNeg) z4 μ3 (fun b6 μ5 => (((bI b6) = 0 → K4 x2 (x3 + (1 : Int32)) μ5) ∧ (¬ ((bI b6) = 0) → vp_in x3 192 ∧ Wp_X8_needOf (0 : Int32) μ5 (fun z8 μ7 => Wp_X8_takes (μ5 p_MO_found (x3).toNatClampNeg) z8 μ7 (fun μ9 => K64 x2 x3 z2 (0 : Int32) μ9)))))))))))
def F_X8_leastBy_64  (K4 : Int32 → Int32 → Mm → Prop) (K64 : Int32 → Int32 → Int32 → Int32 → Mm → Prop) (K137 : Int32 → Int32 → Int32 → Int32 → Int32 → Int32 → Mm → Prop) (q : Int32 → Mm → Prop) (x2 : Int32) (x3 : Int32) (x4 : Int32) (x5 : Int32) (μ : Mm) : Prop :=
  vp_in (1 : Int32) 3 ∧ (((μ p_MO_many ((1 : Int32)).toNatClampNeg) ≤ x5 → vp_in x3 192 ∧ Wp_X8_needOf (0 : Int32) μ (fun z2 μ1 => Wp_X8_takes (μ p_MO_found (x3).toNatClampNeg) (-z2) μ1 (fun μ3 => K4 x2 (x3 + (1 : Int32)) μ3))) ∧ (¬ ((μ p_MO_many ((1 : Int32)).toNatClampNeg) ≤ x5) → Wp_X8_cost (1 : Int32) x5 μ (fun z5 μ4 => ((x2 ≤ (x4 + z5) → K64 x2 x3 x4 (x5 + (1 : Int32)) μ4) ∧ (¬ (x2 ≤ (x4 + z5)) → vp_in ((64 : Int32) + x5) 192 ∧ Wp_X8_needOf (1 : Int32) μ4 (fun z7 μ6 => Wp_X8_fits (μ4 p_MO_found (((64 : Int32) + x5)).toNatClampNeg) z7 μ6 (fun b9 μ8 => (((bI b9) = 0 → K64 x2 x3 x4 (x5 + (1 : Int32)) μ8) ∧ (¬ ((bI b9) = 0) → vp_in ((64 : Int32) + x5) 192 ∧ Wp_X8_needOf (1 : Int32) μ8 (fun z11 μ10 => Wp_X8_takes (μ8 p_MO_found (((64 : Int32) + x5)).toNatClampNeg) z11 μ10 (fun μ12 => K137 x2 x3 x4 x5 (x4 + z5) (0 : Int32) μ12)))))))))))
def F_X8_leastBy_137  (K4 : Int32 → Int32 → Mm → Prop) (K64 : Int32 → Int32 → Int32 → Int32 → Mm → Prop) (K137 : Int32 → Int32 → Int32 → Int32 → Int32 → Int32 → Mm → Prop) (q : Int32 → Mm → Prop) (x2 : Int32) (x3 : Int32) (x4 : Int32) (x5 : Int32) (x6 : Int32) (x7 : Int32) (μ : Mm) : Prop :=
  vp_in (2 : Int32) 3 ∧ (((μ p_MO_many ((2 : Int32)).toNatClampNeg) ≤ x7 → vp_in ((64 : Int32) + x5) 192 ∧ Wp_X8_needOf (1 : Int32) μ (fun z2 μ1 => Wp_X8_takes (μ p_MO_found (((64 : Int32) + x5)).toNatClampNeg) (-z2) μ1 (fun μ3 => K64 x2 x3 x4 (x5 + (1 : Int32)) μ3))) ∧ (¬ ((μ p_MO_many ((2 : Int32)).toNatClampNeg) ≤ x7) → Wp_X8_cost (2 : Int32) x7 μ (fun z5 μ4 => ((x2 ≤ (x6 + z5) → K137 x2 x3 x4 x5 x6 (x7 + (1 : Int32)) μ4) ∧ (¬ (x2 ≤ (x6 + z5)) → vp_in ((128 : Int32) + x7) 192 ∧ Wp_X8_needOf (2 : Int32) μ4 (fun z7 μ6 => Wp_X8_fits (μ4 p_MO_found (((128 : Int32) + x7)).toNatClampNeg) z7 μ6 (fun b9 μ8 => (((bI b9) = 0 → K137 x2 x3 x4 x5 x6 (x7 + (1 : Int32)) μ8) ∧ (¬ ((bI b9) = 0) → Wp_X8_keeps x3 x5 x7 μ8 (fun μ10 => K137 (x6 + z5) x3 x4 x5 x6 (x7 + (1 : Int32)) μ10))))))))))
def F_X8_leastBy_e  (K4 : Int32 → Int32 → Mm → Prop) (K64 : Int32 → Int32 → Int32 → Int32 → Mm → Prop) (K137 : Int32 → Int32 → Int32 → Int32 → Int32 → Int32 → Mm → Prop) (q : Int32 → Mm → Prop) (x1 : Int32) (μ : Mm) : Prop :=
  K4 x1 (0 : Int32) μ
def Wp_X8_leastBy  (x1 : Int32) (μ : Mm) (q : Int32 → Mm → Prop) : Prop := ∀ (K4 : Int32 → Int32 → Mm → Prop) (K64 : Int32 → Int32 → Int32 → Int32 → Mm → Prop) (K137 : Int32 → Int32 → Int32 → Int32 → Int32 → Int32 → Mm → Prop), (∀ (x2 : Int32) (x3 : Int32) (μ : Mm), F_X8_leastBy_4  K4 K64 K137 q x2 x3 μ → K4 x2 x3 μ) → (∀ (x2 : Int32) (x3 : Int32) (x4 : Int32) (x5 : Int32) (μ : Mm), F_X8_leastBy_64  K4 K64 K137 q x2 x3 x4 x5 μ → K64 x2 x3 x4 x5 μ) → (∀ (x2 : Int32) (x3 : Int32) (x4 : Int32) (x5 : Int32) (x6 : Int32) (x7 : Int32) (μ : Mm), F_X8_leastBy_137  K4 K64 K137 q x2 x3 x4 x5 x6 x7 μ → K137 x2 x3 x4 x5 x6 x7 μ) → F_X8_leastBy_e  K4 K64 K137 q x1 μ
abbrev KK_X8_leastBy_4 (g : GE) (f : FE)  : Int32 → Int32 → Mm → Prop := fun x2 x3 μ => KW g f 9 0 0 4 [some (.ref p_MO), none, some (.int x2), some (.int x3), none, none, none, none, none] [] μ
abbrev KK_X8_leastBy_64 (g : GE) (f : FE)  : Int32 → Int32 → Int32 → Int32 → Mm → Prop := fun x2 x3 x4 x5 μ => KW g f 9 0 0 64 [some (.ref p_MO), none, some (.int x2), some (.int x3), some (.int x4), some (.int x5), none, none, none] [] μ
abbrev KK_X8_leastBy_137 (g : GE) (f : FE)  : Int32 → Int32 → Int32 → Int32 → Int32 → Int32 → Mm → Prop := fun x2 x3 x4 x5 x6 x7 μ => KW g f 9 0 0 137 [some (.ref p_MO), none, some (.int x2), some (.int x3), some (.int x4), some (.int x5), some (.int x6), some (.int x7), none] [] μ
set_option maxHeartbeats 2000000 in
theorem b_X8_leastBy_4  {g : GE} {f : FE} {q : Int32 → Mm → Prop} (cx : Cx g f cX8_leastBy 9 RX8 2 45 0 0) (hr : (f_M f).sig.returnType = (some .int)) (hl : (f_M f).locks = false) (hQ : f_Q f = MQ (f_b f) (QW g (qI q)) (f_a f) (f_s f) 0 0 (fun q => g.2.2.2 ≤ q))  {x2 : Int32} {x3 : Int32} {μ : Mm} (h : F_X8_leastBy_4  (KK_X8_leastBy_4 g f ) (KK_X8_leastBy_64 g f ) (KK_X8_leastBy_137 g f ) q x2 x3 μ) : KK_X8_leastBy_4 g f  x2 x3 μ := by
  unfold F_X8_leastBy_4 at h
  show KW g f 9 0 0 4 [some (.ref p_MO), none, some (.int x2), some (.int x3), none, none, none, none, none] [] μ
  refine k_iload_n cx dX8_leastBy_4 rfl rfl ?_
  refine k_aload_n cx dX8_leastBy_5 rfl rfl ?_
  refine k_get (o := some p_MO_many) (v := .ref p_MO_many) cx fl_X8_80 ob_MO rfl rfl dX8_leastBy_6 ?_
  refine k_iconst (v := (0 : Int32)) cx dX8_leastBy_9 (by decide +kernel) ?_
  obtain ⟨hi, h⟩ := h
  refine k_iald cx ar_MO_many hi dX8_leastBy_10 ?_
  refine k_icmp_ge (tgt := 255) cx dX8_leastBy_11 (by decide) (fun hc => ?_) (fun hc => ?_)
  · replace h := h.1 hc
    refine k_iload_n cx dX8_leastBy_255 rfl rfl ?_
    exact k_ret_I cx hr hl hQ dX8_leastBy_256 h
  · replace h := h.2 hc
    refine k_aload_n cx dX8_leastBy_14 rfl rfl ?_
    refine k_iconst (v := (0 : Int32)) cx dX8_leastBy_15 (by decide +kernel) ?_
    refine k_iload_n cx dX8_leastBy_16 rfl rfl ?_
    refine k_callV (As := [.int (0 : Int32), .int x3]) (rest := []) cx (m_X8_cost h) cv_X8_170 ob_MO rfl rfl rfl rfl (Nat.le_of_ble_eq_true rfl) ⟨Nat.le_of_ble_eq_true rfl, Nat.le_of_ble_eq_true rfl⟩ dX8_leastBy_17 (fun v μ1 hq => ?_)
    obtain ⟨z2, rfl, h⟩ := hq
    refine k_istore cx dX8_leastBy_20 (by decide) ?_
    refine k_iload cx dX8_leastBy_22 rfl ?_
    refine k_iload_n cx dX8_leastBy_24 rfl rfl ?_
    refine k_icmp_ge (tgt := 249) cx dX8_leastBy_25 (by decide) (fun hc => ?_) (fun hc => ?_)
    · replace h := h.1 hc
      refine k_iinc (v := (x3 + (1 : Int32))) cx dX8_leastBy_249 rfl rfl (by decide) ?_
      refine k_goto (tgt := 4) cx dX8_leastBy_252 (by decide) ?_
      exact k_weak h (lsLe.keep (lsLe.keep (lsLe.keep (lsLe.keep (lsLe.drop (lsLe.keep (lsLe.keep (lsLe.keep (lsLe.keep lsLe.nil)))))))))
    · replace h := h.2 hc
      refine k_aload_n cx dX8_leastBy_28 rfl rfl ?_
      refine k_aload_n cx dX8_leastBy_29 rfl rfl ?_
      refine k_get (o := some p_MO_found) (v := .ref p_MO_found) cx fl_X8_77 ob_MO rfl rfl dX8_leastBy_30 ?_
      refine k_iload_n cx dX8_leastBy_33 rfl rfl ?_
      obtain ⟨hi, h⟩ := h
      refine k_iald cx ar_MO_found hi dX8_leastBy_34 ?_
      refine k_aload_n cx dX8_leastBy_35 rfl rfl ?_
      refine k_iconst (v := (0 : Int32)) cx dX8_leastBy_36 (by decide +kernel) ?_
      refine k_callV (As := [.int (0 : Int32)]) (rest := [.int (μ1 p_MO_found (x3).toNatClampNeg), .ref p_MO]) cx (m_X8_needOf h) cv_X8_164 ob_MO rfl rfl rfl rfl (Nat.le_of_ble_eq_true rfl) ⟨Nat.le_of_ble_eq_true rfl, Nat.le_of_ble_eq_true rfl⟩ dX8_leastBy_37 (fun v μ3 hq => ?_)
      obtain ⟨z4, rfl, h⟩ := hq
      refine k_callV (As := [.int (μ1 p_MO_found (x3).toNatClampNeg), .int z4]) (rest := []) cx (m_X8_fits h) cv_X8_173 ob_MO rfl rfl rfl rfl (Nat.le_of_ble_eq_true rfl) ⟨Nat.le_of_ble_eq_true rfl, Nat.le_of_ble_eq_true rfl⟩ dX8_leastBy_40 (fun v μ5 hq => ?_)
      obtain ⟨b6, rfl, h⟩ := hq
      refine k_if_eq (tgt := 249) cx dX8_leastBy_43 (by decide) (fun hc => ?_) (fun hc => ?_)
      · replace h := h.1 hc
        refine k_iinc (v := (x3 + (1 : Int32))) cx dX8_leastBy_249 rfl rfl (by decide) ?_
        refine k_goto (tgt := 4) cx dX8_leastBy_252 (by decide) ?_
        exact k_weak h (lsLe.keep (lsLe.keep (lsLe.keep (lsLe.keep (lsLe.drop (lsLe.keep (lsLe.keep (lsLe.keep (lsLe.keep lsLe.nil)))))))))
      · replace h := h.2 hc
        refine k_aload_n cx dX8_leastBy_46 rfl rfl ?_
        refine k_aload_n cx dX8_leastBy_47 rfl rfl ?_
        refine k_get (o := some p_MO_found) (v := .ref p_MO_found) cx fl_X8_77 ob_MO rfl rfl dX8_leastBy_48 ?_
        refine k_iload_n cx dX8_leastBy_51 rfl rfl ?_
        obtain ⟨hi, h⟩ := h
        refine k_iald cx ar_MO_found hi dX8_leastBy_52 ?_
        refine k_aload_n cx dX8_leastBy_53 rfl rfl ?_
        refine k_iconst (v := (0 : Int32)) cx dX8_leastBy_54 (by decide +kernel) ?_
        refine k_callV (As := [.int (0 : Int32)]) (rest := [.int (μ5 p_MO_found (x3).toNatClampNeg), .ref p_MO]) cx (m_X8_needOf h) cv_X8_164 ob_MO rfl rfl rfl rfl (Nat.le_of_ble_eq_true rfl) ⟨Nat.le_of_ble_eq_true rfl, Nat.le_of_ble_eq_true rfl⟩ dX8_leastBy_55 (fun v μ7 hq => ?_)
        obtain ⟨z8, rfl, h⟩ := hq
        refine k_callV (As := [.int (μ5 p_MO_found (x3).toNatClampNeg), .int z8]) (rest := []) cx (m_X8_takes h) cv_X8_176 ob_MO rfl rfl rfl rfl (Nat.le_of_ble_eq_true rfl) ⟨Nat.le_of_ble_eq_true rfl, Nat.le_of_ble_eq_true rfl⟩ dX8_leastBy_58 (fun v μ9 hq => ?_)
        obtain ⟨rfl, h⟩ := hq
        refine k_iconst (v := (0 : Int32)) cx dX8_leastBy_61 (by decide +kernel) ?_
        refine k_istore cx dX8_leastBy_62 (by decide) ?_
        exact k_weak h (lsLe.keep (lsLe.keep (lsLe.keep (lsLe.keep (lsLe.keep (lsLe.keep (lsLe.keep (lsLe.keep (lsLe.keep lsLe.nil)))))))))
set_option maxHeartbeats 2000000 in
theorem b_X8_leastBy_64  {g : GE} {f : FE} {q : Int32 → Mm → Prop} (cx : Cx g f cX8_leastBy 9 RX8 2 45 0 0) (hr : (f_M f).sig.returnType = (some .int)) (hl : (f_M f).locks = false) (hQ : f_Q f = MQ (f_b f) (QW g (qI q)) (f_a f) (f_s f) 0 0 (fun q => g.2.2.2 ≤ q))  {x2 : Int32} {x3 : Int32} {x4 : Int32} {x5 : Int32} {μ : Mm} (h : F_X8_leastBy_64  (KK_X8_leastBy_4 g f ) (KK_X8_leastBy_64 g f ) (KK_X8_leastBy_137 g f ) q x2 x3 x4 x5 μ) : KK_X8_leastBy_64 g f  x2 x3 x4 x5 μ := by
  unfold F_X8_leastBy_64 at h
  show KW g f 9 0 0 64 [some (.ref p_MO), none, some (.int x2), some (.int x3), some (.int x4), some (.int x5), none, none, none] [] μ
  refine k_iload cx dX8_leastBy_64 rfl ?_
  refine k_aload_n cx dX8_leastBy_66 rfl rfl ?_
  refine k_get (o := some p_MO_many) (v := .ref p_MO_many) cx fl_X8_80 ob_MO rfl rfl dX8_leastBy_67 ?_
  refine k_iconst (v := (1 : Int32)) cx dX8_leastBy_70 (by decide +kernel) ?_
  obtain ⟨hi, h⟩ := h
  refine k_iald cx ar_MO_many hi dX8_leastBy_71 ?_
  refine k_icmp_ge (tgt := 233) cx dX8_leastBy_72 (by decide) (fun hc => ?_) (fun hc => ?_)
  · replace h := h.1 hc
    refine k_aload_n cx dX8_leastBy_233 rfl rfl ?_
    refine k_aload_n cx dX8_leastBy_234 rfl rfl ?_
    refine k_get (o := some p_MO_found) (v := .ref p_MO_found) cx fl_X8_77 ob_MO rfl rfl dX8_leastBy_235 ?_
    refine k_iload_n cx dX8_leastBy_238 rfl rfl ?_
    obtain ⟨hi, h⟩ := h
    refine k_iald cx ar_MO_found hi dX8_leastBy_239 ?_
    refine k_aload_n cx dX8_leastBy_240 rfl rfl ?_
    refine k_iconst (v := (0 : Int32)) cx dX8_leastBy_241 (by decide +kernel) ?_
    refine k_callV (As := [.int (0 : Int32)]) (rest := [.int (μ p_MO_found (x3).toNatClampNeg), .ref p_MO]) cx (m_X8_needOf h) cv_X8_164 ob_MO rfl rfl rfl rfl (Nat.le_of_ble_eq_true rfl) ⟨Nat.le_of_ble_eq_true rfl, Nat.le_of_ble_eq_true rfl⟩ dX8_leastBy_242 (fun v μ1 hq => ?_)
    obtain ⟨z2, rfl, h⟩ := hq
    refine k_ineg cx dX8_leastBy_245 ?_
    refine k_callV (As := [.int (μ p_MO_found (x3).toNatClampNeg), .int (-z2)]) (rest := []) cx (m_X8_takes h) cv_X8_176 ob_MO rfl rfl rfl rfl (Nat.le_of_ble_eq_true rfl) ⟨Nat.le_of_ble_eq_true rfl, Nat.le_of_ble_eq_true rfl⟩ dX8_leastBy_246 (fun v μ3 hq => ?_)
    obtain ⟨rfl, h⟩ := hq
    refine k_iinc (v := (x3 + (1 : Int32))) cx dX8_leastBy_249 rfl rfl (by decide) ?_
    refine k_goto (tgt := 4) cx dX8_leastBy_252 (by decide) ?_
    exact k_weak h (lsLe.keep (lsLe.keep (lsLe.keep (lsLe.keep (lsLe.drop (lsLe.drop (lsLe.keep (lsLe.keep (lsLe.keep lsLe.nil)))))))))
  · replace h := h.2 hc
    refine k_iload cx dX8_leastBy_75 rfl ?_
    refine k_aload_n cx dX8_leastBy_77 rfl rfl ?_
    refine k_iconst (v := (1 : Int32)) cx dX8_leastBy_78 (by decide +kernel) ?_
    refine k_iload cx dX8_leastBy_79 rfl ?_
    refine k_callV (As := [.int (1 : Int32), .int x5]) (rest := [.int x4]) cx (m_X8_cost h) cv_X8_170 ob_MO rfl rfl rfl rfl (Nat.le_of_ble_eq_true rfl) ⟨Nat.le_of_ble_eq_true rfl, Nat.le_of_ble_eq_true rfl⟩ dX8_leastBy_81 (fun v μ4 hq => ?_)
    obtain ⟨z5, rfl, h⟩ := hq
    refine k_iadd cx dX8_leastBy_84 ?_
    refine k_istore cx dX8_leastBy_85 (by decide) ?_
    refine k_iload cx dX8_leastBy_87 rfl ?_
    refine k_iload_n cx dX8_leastBy_89 rfl rfl ?_
    refine k_icmp_ge (tgt := 227) cx dX8_leastBy_90 (by decide) (fun hc => ?_) (fun hc => ?_)
    · replace h := h.1 hc
      refine k_iinc (v := (x5 + (1 : Int32))) cx dX8_leastBy_227 rfl rfl (by decide) ?_
      refine k_goto (tgt := 64) cx dX8_leastBy_230 (by decide) ?_
      exact k_weak h (lsLe.keep (lsLe.keep (lsLe.keep (lsLe.keep (lsLe.keep (lsLe.keep (lsLe.drop (lsLe.keep (lsLe.keep lsLe.nil)))))))))
    · replace h := h.2 hc
      refine k_aload_n cx dX8_leastBy_93 rfl rfl ?_
      refine k_aload_n cx dX8_leastBy_94 rfl rfl ?_
      refine k_get (o := some p_MO_found) (v := .ref p_MO_found) cx fl_X8_77 ob_MO rfl rfl dX8_leastBy_95 ?_
      refine k_bipush (v := (64 : Int32)) cx dX8_leastBy_98 (by decide +kernel) ?_
      refine k_iload cx dX8_leastBy_100 rfl ?_
      refine k_iadd cx dX8_leastBy_102 ?_
      obtain ⟨hi, h⟩ := h
      refine k_iald cx ar_MO_found hi dX8_leastBy_103 ?_
      refine k_aload_n cx dX8_leastBy_104 rfl rfl ?_
      refine k_iconst (v := (1 : Int32)) cx dX8_leastBy_105 (by decide +kernel) ?_
      refine k_callV (As := [.int (1 : Int32)]) (rest := [.int (μ4 p_MO_found (((64 : Int32) + x5)).toNatClampNeg), .ref p_MO]) cx (m_X8_needOf h) cv_X8_164 ob_MO rfl rfl rfl rfl (Nat.le_of_ble_eq_true rfl) ⟨Nat.le_of_ble_eq_true rfl, Nat.le_of_ble_eq_true rfl⟩ dX8_leastBy_106 (fun v μ6 hq => ?_)
      obtain ⟨z7, rfl, h⟩ := hq
      refine k_callV (As := [.int (μ4 p_MO_found (((64 : Int32) + x5)).toNatClampNeg), .int z7]) (rest := []) cx (m_X8_fits h) cv_X8_173 ob_MO rfl rfl rfl rfl (Nat.le_of_ble_eq_true rfl) ⟨Nat.le_of_ble_eq_true rfl, Nat.le_of_ble_eq_true rfl⟩ dX8_leastBy_109 (fun v μ8 hq => ?_)
      obtain ⟨b9, rfl, h⟩ := hq
      refine k_if_eq (tgt := 227) cx dX8_leastBy_112 (by decide) (fun hc => ?_) (fun hc => ?_)
      · replace h := h.1 hc
        refine k_iinc (v := (x5 + (1 : Int32))) cx dX8_leastBy_227 rfl rfl (by decide) ?_
        refine k_goto (tgt := 64) cx dX8_leastBy_230 (by decide) ?_
        exact k_weak h (lsLe.keep (lsLe.keep (lsLe.keep (lsLe.keep (lsLe.keep (lsLe.keep (lsLe.drop (lsLe.keep (lsLe.keep lsLe.nil)))))))))
      · replace h := h.2 hc
        refine k_aload_n cx dX8_leastBy_115 rfl rfl ?_
        refine k_aload_n cx dX8_leastBy_116 rfl rfl ?_
        refine k_get (o := some p_MO_found) (v := .ref p_MO_found) cx fl_X8_77 ob_MO rfl rfl dX8_leastBy_117 ?_
        refine k_bipush (v := (64 : Int32)) cx dX8_leastBy_120 (by decide +kernel) ?_
        refine k_iload cx dX8_leastBy_122 rfl ?_
        refine k_iadd cx dX8_leastBy_124 ?_
        obtain ⟨hi, h⟩ := h
        refine k_iald cx ar_MO_found hi dX8_leastBy_125 ?_
        refine k_aload_n cx dX8_leastBy_126 rfl rfl ?_
        refine k_iconst (v := (1 : Int32)) cx dX8_leastBy_127 (by decide +kernel) ?_
        refine k_callV (As := [.int (1 : Int32)]) (rest := [.int (μ8 p_MO_found (((64 : Int32) + x5)).toNatClampNeg), .ref p_MO]) cx (m_X8_needOf h) cv_X8_164 ob_MO rfl rfl rfl rfl (Nat.le_of_ble_eq_true rfl) ⟨Nat.le_of_ble_eq_true rfl, Nat.le_of_ble_eq_true rfl⟩ dX8_leastBy_128 (fun v μ10 hq => ?_)
        obtain ⟨z11, rfl, h⟩ := hq
        refine k_callV (As := [.int (μ8 p_MO_found (((64 : Int32) + x5)).toNatClampNeg), .int z11]) (rest := []) cx (m_X8_takes h) cv_X8_176 ob_MO rfl rfl rfl rfl (Nat.le_of_ble_eq_true rfl) ⟨Nat.le_of_ble_eq_true rfl, Nat.le_of_ble_eq_true rfl⟩ dX8_leastBy_131 (fun v μ12 hq => ?_)
        obtain ⟨rfl, h⟩ := hq
        refine k_iconst (v := (0 : Int32)) cx dX8_leastBy_134 (by decide +kernel) ?_
        refine k_istore cx dX8_leastBy_135 (by decide) ?_
        exact k_weak h (lsLe.keep (lsLe.keep (lsLe.keep (lsLe.keep (lsLe.keep (lsLe.keep (lsLe.keep (lsLe.keep (lsLe.keep lsLe.nil)))))))))
set_option maxHeartbeats 2000000 in
theorem b_X8_leastBy_137  {g : GE} {f : FE} {q : Int32 → Mm → Prop} (cx : Cx g f cX8_leastBy 9 RX8 2 45 0 0) (hr : (f_M f).sig.returnType = (some .int)) (hl : (f_M f).locks = false) (hQ : f_Q f = MQ (f_b f) (QW g (qI q)) (f_a f) (f_s f) 0 0 (fun q => g.2.2.2 ≤ q))  {x2 : Int32} {x3 : Int32} {x4 : Int32} {x5 : Int32} {x6 : Int32} {x7 : Int32} {μ : Mm} (h : F_X8_leastBy_137  (KK_X8_leastBy_4 g f ) (KK_X8_leastBy_64 g f ) (KK_X8_leastBy_137 g f ) q x2 x3 x4 x5 x6 x7 μ) : KK_X8_leastBy_137 g f  x2 x3 x4 x5 x6 x7 μ := by
  unfold F_X8_leastBy_137 at h
  show KW g f 9 0 0 137 [some (.ref p_MO), none, some (.int x2), some (.int x3), some (.int x4), some (.int x5), some (.int x6), some (.int x7), none] [] μ
  refine k_iload cx dX8_leastBy_137 rfl ?_
  refine k_aload_n cx dX8_leastBy_139 rfl rfl ?_
  refine k_get (o := some p_MO_many) (v := .ref p_MO_many) cx fl_X8_80 ob_MO rfl rfl dX8_leastBy_140 ?_
  refine k_iconst (v := (2 : Int32)) cx dX8_leastBy_143 (by decide +kernel) ?_
  obtain ⟨hi, h⟩ := h
  refine k_iald cx ar_MO_many hi dX8_leastBy_144 ?_
  refine k_icmp_ge (tgt := 207) cx dX8_leastBy_145 (by decide) (fun hc => ?_) (fun hc => ?_)
  · replace h := h.1 hc
    refine k_aload_n cx dX8_leastBy_207 rfl rfl ?_
    refine k_aload_n cx dX8_leastBy_208 rfl rfl ?_
    refine k_get (o := some p_MO_found) (v := .ref p_MO_found) cx fl_X8_77 ob_MO rfl rfl dX8_leastBy_209 ?_
    refine k_bipush (v := (64 : Int32)) cx dX8_leastBy_212 (by decide +kernel) ?_
    refine k_iload cx dX8_leastBy_214 rfl ?_
    refine k_iadd cx dX8_leastBy_216 ?_
    obtain ⟨hi, h⟩ := h
    refine k_iald cx ar_MO_found hi dX8_leastBy_217 ?_
    refine k_aload_n cx dX8_leastBy_218 rfl rfl ?_
    refine k_iconst (v := (1 : Int32)) cx dX8_leastBy_219 (by decide +kernel) ?_
    refine k_callV (As := [.int (1 : Int32)]) (rest := [.int (μ p_MO_found (((64 : Int32) + x5)).toNatClampNeg), .ref p_MO]) cx (m_X8_needOf h) cv_X8_164 ob_MO rfl rfl rfl rfl (Nat.le_of_ble_eq_true rfl) ⟨Nat.le_of_ble_eq_true rfl, Nat.le_of_ble_eq_true rfl⟩ dX8_leastBy_220 (fun v μ1 hq => ?_)
    obtain ⟨z2, rfl, h⟩ := hq
    refine k_ineg cx dX8_leastBy_223 ?_
    refine k_callV (As := [.int (μ p_MO_found (((64 : Int32) + x5)).toNatClampNeg), .int (-z2)]) (rest := []) cx (m_X8_takes h) cv_X8_176 ob_MO rfl rfl rfl rfl (Nat.le_of_ble_eq_true rfl) ⟨Nat.le_of_ble_eq_true rfl, Nat.le_of_ble_eq_true rfl⟩ dX8_leastBy_224 (fun v μ3 hq => ?_)
    obtain ⟨rfl, h⟩ := hq
    refine k_iinc (v := (x5 + (1 : Int32))) cx dX8_leastBy_227 rfl rfl (by decide) ?_
    refine k_goto (tgt := 64) cx dX8_leastBy_230 (by decide) ?_
    exact k_weak h (lsLe.keep (lsLe.keep (lsLe.keep (lsLe.keep (lsLe.keep (lsLe.keep (lsLe.drop (lsLe.drop (lsLe.keep lsLe.nil)))))))))
  · replace h := h.2 hc
    refine k_iload cx dX8_leastBy_148 rfl ?_
    refine k_aload_n cx dX8_leastBy_150 rfl rfl ?_
    refine k_iconst (v := (2 : Int32)) cx dX8_leastBy_151 (by decide +kernel) ?_
    refine k_iload cx dX8_leastBy_152 rfl ?_
    refine k_callV (As := [.int (2 : Int32), .int x7]) (rest := [.int x6]) cx (m_X8_cost h) cv_X8_170 ob_MO rfl rfl rfl rfl (Nat.le_of_ble_eq_true rfl) ⟨Nat.le_of_ble_eq_true rfl, Nat.le_of_ble_eq_true rfl⟩ dX8_leastBy_154 (fun v μ4 hq => ?_)
    obtain ⟨z5, rfl, h⟩ := hq
    refine k_iadd cx dX8_leastBy_157 ?_
    refine k_istore cx dX8_leastBy_158 (by decide) ?_
    refine k_iload cx dX8_leastBy_160 rfl ?_
    refine k_iload_n cx dX8_leastBy_162 rfl rfl ?_
    refine k_icmp_ge (tgt := 201) cx dX8_leastBy_163 (by decide) (fun hc => ?_) (fun hc => ?_)
    · replace h := h.1 hc
      refine k_iinc (v := (x7 + (1 : Int32))) cx dX8_leastBy_201 rfl rfl (by decide) ?_
      refine k_goto (tgt := 137) cx dX8_leastBy_204 (by decide) ?_
      exact k_weak h (lsLe.keep (lsLe.keep (lsLe.keep (lsLe.keep (lsLe.keep (lsLe.keep (lsLe.keep (lsLe.keep (lsLe.drop lsLe.nil)))))))))
    · replace h := h.2 hc
      refine k_aload_n cx dX8_leastBy_166 rfl rfl ?_
      refine k_aload_n cx dX8_leastBy_167 rfl rfl ?_
      refine k_get (o := some p_MO_found) (v := .ref p_MO_found) cx fl_X8_77 ob_MO rfl rfl dX8_leastBy_168 ?_
      refine k_sipush (v := (128 : Int32)) cx dX8_leastBy_171 (by decide +kernel) ?_
      refine k_iload cx dX8_leastBy_174 rfl ?_
      refine k_iadd cx dX8_leastBy_176 ?_
      obtain ⟨hi, h⟩ := h
      refine k_iald cx ar_MO_found hi dX8_leastBy_177 ?_
      refine k_aload_n cx dX8_leastBy_178 rfl rfl ?_
      refine k_iconst (v := (2 : Int32)) cx dX8_leastBy_179 (by decide +kernel) ?_
      refine k_callV (As := [.int (2 : Int32)]) (rest := [.int (μ4 p_MO_found (((128 : Int32) + x7)).toNatClampNeg), .ref p_MO]) cx (m_X8_needOf h) cv_X8_164 ob_MO rfl rfl rfl rfl (Nat.le_of_ble_eq_true rfl) ⟨Nat.le_of_ble_eq_true rfl, Nat.le_of_ble_eq_true rfl⟩ dX8_leastBy_180 (fun v μ6 hq => ?_)
      obtain ⟨z7, rfl, h⟩ := hq
      refine k_callV (As := [.int (μ4 p_MO_found (((128 : Int32) + x7)).toNatClampNeg), .int z7]) (rest := []) cx (m_X8_fits h) cv_X8_173 ob_MO rfl rfl rfl rfl (Nat.le_of_ble_eq_true rfl) ⟨Nat.le_of_ble_eq_true rfl, Nat.le_of_ble_eq_true rfl⟩ dX8_leastBy_183 (fun v μ8 hq => ?_)
      obtain ⟨b9, rfl, h⟩ := hq
      refine k_if_eq (tgt := 201) cx dX8_leastBy_186 (by decide) (fun hc => ?_) (fun hc => ?_)
      · replace h := h.1 hc
        refine k_iinc (v := (x7 + (1 : Int32))) cx dX8_leastBy_201 rfl rfl (by decide) ?_
        refine k_goto (tgt := 137) cx dX8_leastBy_204 (by decide) ?_
        exact k_weak h (lsLe.keep (lsLe.keep (lsLe.keep (lsLe.keep (lsLe.keep (lsLe.keep (lsLe.keep (lsLe.keep (lsLe.drop lsLe.nil)))))))))
      · replace h := h.2 hc
        refine k_iload cx dX8_leastBy_189 rfl ?_
        refine k_istore_n cx dX8_leastBy_191 rfl (by decide) ?_
        refine k_aload_n cx dX8_leastBy_192 rfl rfl ?_
        refine k_iload_n cx dX8_leastBy_193 rfl rfl ?_
        refine k_iload cx dX8_leastBy_194 rfl ?_
        refine k_iload cx dX8_leastBy_196 rfl ?_
        refine k_callV (As := [.int x3, .int x5, .int x7]) (rest := []) cx (m_X8_keeps h) cv_X8_180 ob_MO rfl rfl rfl rfl (Nat.le_of_ble_eq_true rfl) ⟨Nat.le_of_ble_eq_true rfl, Nat.le_of_ble_eq_true rfl⟩ dX8_leastBy_198 (fun v μ10 hq => ?_)
        obtain ⟨rfl, h⟩ := hq
        refine k_iinc (v := (x7 + (1 : Int32))) cx dX8_leastBy_201 rfl rfl (by decide) ?_
        refine k_goto (tgt := 137) cx dX8_leastBy_204 (by decide) ?_
        exact k_weak h (lsLe.keep (lsLe.keep (lsLe.keep (lsLe.keep (lsLe.keep (lsLe.keep (lsLe.keep (lsLe.keep (lsLe.drop lsLe.nil)))))))))
set_option maxHeartbeats 2000000 in
theorem b_X8_leastBy_e  {g : GE} {f : FE} {q : Int32 → Mm → Prop} (cx : Cx g f cX8_leastBy 9 RX8 2 45 0 0) (hr : (f_M f).sig.returnType = (some .int)) (hl : (f_M f).locks = false) (hQ : f_Q f = MQ (f_b f) (QW g (qI q)) (f_a f) (f_s f) 0 0 (fun q => g.2.2.2 ≤ q))  {x1 : Int32} {μ : Mm} (h : F_X8_leastBy_e  (KK_X8_leastBy_4 g f ) (KK_X8_leastBy_64 g f ) (KK_X8_leastBy_137 g f ) q x1 μ) : KW g f 9 0 0 0 [some (.ref p_MO), some (.int x1), none, none, none, none, none, none, none] [] μ := by
  unfold F_X8_leastBy_e at h
  refine k_iload_n cx dX8_leastBy_0 rfl rfl ?_
  refine k_istore_n cx dX8_leastBy_1 rfl (by decide) ?_
  refine k_iconst (v := (0 : Int32)) cx dX8_leastBy_2 (by decide +kernel) ?_
  refine k_istore_n cx dX8_leastBy_3 rfl (by decide) ?_
  exact k_weak h (lsLe.keep (lsLe.drop (lsLe.keep (lsLe.keep (lsLe.keep (lsLe.keep (lsLe.keep (lsLe.keep (lsLe.keep lsLe.nil)))))))))
theorem m_X8_leastBy {g : GE} {l : Launch} {μ : Mm} {q : Int32 → Mm → Prop} {x1 : Int32}  (h : Wp_X8_leastBy  x1 μ q) : MW g l yX8_leastBy cX8_leastBy 9 (some .int) 2 45 [.ref p_MO, .int x1] μ (qI q) := by
  refine met_of (by decide) (Nat.le_of_ble_eq_true rfl) (by intro v hv; simp only [List.mem_cons, List.not_mem_nil, or_false] at hv; rcases hv with rfl | rfl <;> rfl) ?_
  intro f hfl cx hr hl hQ
  exact b_X8_leastBy_e  cx hr hl hQ (h (KK_X8_leastBy_4 g f ) (KK_X8_leastBy_64 g f ) (KK_X8_leastBy_137 g f ) (fun _ _ _ h => b_X8_leastBy_4  cx hr hl hQ h) (fun _ _ _ _ _ h => b_X8_leastBy_64  cx hr hl hQ h) (fun _ _ _ _ _ _ _ h => b_X8_leastBy_137  cx hr hl hQ h))
theorem dX8_leastOf_0 : decode cX8_leastOf 0 = .ok (.sipush 9999, 3) := by decide +kernel
theorem dX8_leastOf_3 : decode cX8_leastOf 3 = .ok (.istore_n 2, 1) := by decide +kernel
theorem dX8_leastOf_4 : decode cX8_leastOf 4 = .ok (.iconst 0, 1) := by decide +kernel
theorem dX8_leastOf_5 : decode cX8_leastOf 5 = .ok (.istore_n 3, 1) := by decide +kernel
theorem dX8_leastOf_6 : decode cX8_leastOf 6 = .ok (.iload_n 3, 1) := by decide +kernel
theorem dX8_leastOf_7 : decode cX8_leastOf 7 = .ok (.sipush 216, 3) := by decide +kernel
theorem dX8_leastOf_10 : decode cX8_leastOf 10 = .ok (.if_icmp .ge 50, 3) := by decide +kernel
theorem dX8_leastOf_13 : decode cX8_leastOf 13 = .ok (.aload_n 0, 1) := by decide +kernel
theorem dX8_leastOf_14 : decode cX8_leastOf 14 = .ok (.getfield 26, 3) := by decide +kernel
theorem dX8_leastOf_17 : decode cX8_leastOf 17 = .ok (.aload_n 0, 1) := by decide +kernel
theorem dX8_leastOf_18 : decode cX8_leastOf 18 = .ok (.getfield 118, 3) := by decide +kernel
theorem dX8_leastOf_21 : decode cX8_leastOf 21 = .ok (.iaload, 1) := by decide +kernel
theorem dX8_leastOf_22 : decode cX8_leastOf 22 = .ok (.ifCond .le 38, 3) := by decide +kernel
theorem dX8_leastOf_25 : decode cX8_leastOf 25 = .ok (.iload_n 1, 1) := by decide +kernel
theorem dX8_leastOf_26 : decode cX8_leastOf 26 = .ok (.ifCond .eq 10, 3) := by decide +kernel
theorem dX8_leastOf_29 : decode cX8_leastOf 29 = .ok (.iload_n 2, 1) := by decide +kernel
theorem dX8_leastOf_30 : decode cX8_leastOf 30 = .ok (.sipush 9999, 3) := by decide +kernel
theorem dX8_leastOf_33 : decode cX8_leastOf 33 = .ok (.if_icmp .lt 27, 3) := by decide +kernel
theorem dX8_leastOf_36 : decode cX8_leastOf 36 = .ok (.aload_n 0, 1) := by decide +kernel
theorem dX8_leastOf_37 : decode cX8_leastOf 37 = .ok (.iload_n 3, 1) := by decide +kernel
theorem dX8_leastOf_38 : decode cX8_leastOf 38 = .ok (.invokevirtual 183, 3) := by decide +kernel
theorem dX8_leastOf_41 : decode cX8_leastOf 41 = .ok (.ifCond .eq 13, 3) := by decide +kernel
theorem dX8_leastOf_44 : decode cX8_leastOf 44 = .ok (.aload_n 0, 1) := by decide +kernel
theorem dX8_leastOf_45 : decode cX8_leastOf 45 = .ok (.invokevirtual 186, 3) := by decide +kernel
theorem dX8_leastOf_48 : decode cX8_leastOf 48 = .ok (.aload_n 0, 1) := by decide +kernel
theorem dX8_leastOf_49 : decode cX8_leastOf 49 = .ok (.iload_n 2, 1) := by decide +kernel
theorem dX8_leastOf_50 : decode cX8_leastOf 50 = .ok (.invokevirtual 189, 3) := by decide +kernel
theorem dX8_leastOf_53 : decode cX8_leastOf 53 = .ok (.istore_n 2, 1) := by decide +kernel
theorem dX8_leastOf_54 : decode cX8_leastOf 54 = .ok (.iinc 3 1, 3) := by decide +kernel
theorem dX8_leastOf_57 : decode cX8_leastOf 57 = .ok (.goto (-51), 3) := by decide +kernel
theorem dX8_leastOf_60 : decode cX8_leastOf 60 = .ok (.iload_n 2, 1) := by decide +kernel
theorem dX8_leastOf_61 : decode cX8_leastOf 61 = .ok (.sipush 9999, 3) := by decide +kernel
theorem dX8_leastOf_64 : decode cX8_leastOf 64 = .ok (.if_icmp .ne 7, 3) := by decide +kernel
theorem dX8_leastOf_67 : decode cX8_leastOf 67 = .ok (.iconst (-1), 1) := by decide +kernel
theorem dX8_leastOf_68 : decode cX8_leastOf 68 = .ok (.goto 4, 3) := by decide +kernel
theorem dX8_leastOf_71 : decode cX8_leastOf 71 = .ok (.iload_n 2, 1) := by decide +kernel
theorem dX8_leastOf_72 : decode cX8_leastOf 72 = .ok (.ireturn, 1) := by decide +kernel
def F_X8_leastOf_6  (K6 : Int32 → Int32 → Int32 → Mm → Prop) (K36 : Int32 → Int32 → Int32 → Mm → Prop) (q : Int32 → Mm → Prop) (x1 : Int32) (x2 : Int32) (x3 : Int32) (μ : Mm) : Prop :=
  (((216 : Int32) ≤ x3 → ((¬ (x2 = (9999 : Int32)) → q x2 μ) ∧ (x2 = (9999 : Int32) → q (-1 : Int32) μ))) ∧ (¬ ((216 : Int32) ≤ x3) → vp_in (μ p_MO 8) 13 ∧ (((μ p_MO_parts ((μ p_MO 8)).toNatClampNeg) ≤ 0 → ((¬ (x2 = (9999 : Int32)) → q x2 μ) ∧ (x2 = (9999 : Int32) → q (-1 : Int32) μ))) ∧ (¬ ((μ p_MO_parts ((μ p_MO 8)).toNatClampNeg) ≤ 0) → ((x1 = 0 → K36 x1 x2 x3 μ) ∧ (¬ (x1 = 0) → ((x2 < (9999 : Int32) → ((¬ (x2 = (9999 : Int32)) → q x2 μ) ∧ (x2 = (9999 : Int32) → q (-1 : Int32) μ))) ∧ (¬ (x2 < (9999 : Int32)) → K36 x1 x2 x3 μ))))))))
def F_X8_leastOf_36  (K6 : Int32 → Int32 → Int32 → Mm → Prop) (K36 : Int32 → Int32 → Int32 → Mm → Prop) (q : Int32 → Mm → Prop) (x1 : Int32) (x2 : Int32) (x3 : Int32) (μ : Mm) : Prop :=
  Wp_X8_chooses x3 μ (fun b2 μ1 => (((bI b2) = 0 → K6 x1 x2 (x3 + (1 : Int32)) μ1) ∧ (¬ ((bI b2) = 0) → Wp_X8_findsAll μ1 (fun μ3 => Wp_X8_leastBy x2 μ3 (fun z5 μ4 => K6 x1 z5 (x3 + (1 : Int32)) μ4)))))
def F_X8_leastOf_e  (K6 : Int32 → Int32 → Int32 → Mm → Prop) (K36 : Int32 → Int32 → Int32 → Mm → Prop) (q : Int32 → Mm → Prop) (x1 : Int32) (μ : Mm) : Prop :=
  K6 x1 (9999 : Int32) (0 : Int32) μ
def Wp_X8_leastOf  (x1 : Int32) (μ : Mm) (q : Int32 → Mm → Prop) : Prop := ∀ (K6 : Int32 → Int32 → Int32 → Mm → Prop) (K36 : Int32 → Int32 → Int32 → Mm → Prop), (∀ (x1 : Int32) (x2 : Int32) (x3 : Int32) (μ : Mm), F_X8_leastOf_6  K6 K36 q x1 x2 x3 μ → K6 x1 x2 x3 μ) → (∀ (x1 : Int32) (x2 : Int32) (x3 : Int32) (μ : Mm), F_X8_leastOf_36  K6 K36 q x1 x2 x3 μ → K36 x1 x2 x3 μ) → F_X8_leastOf_e  K6 K36 q x1 μ
abbrev KK_X8_leastOf_6 (g : GE) (f : FE)  : Int32 → Int32 → Int32 → Mm → Prop := fun x1 x2 x3 μ => KW g f 4 0 0 6 [some (.ref p_MO), some (.int x1), some (.int x2), some (.int x3)] [] μ
abbrev KK_X8_leastOf_36 (g : GE) (f : FE)  : Int32 → Int32 → Int32 → Mm → Prop := fun x1 x2 x3 μ => KW g f 4 0 0 36 [some (.ref p_MO), some (.int x1), some (.int x2), some (.int x3)] [] μ
set_option maxHeartbeats 2000000 in
theorem b_X8_leastOf_6  {g : GE} {f : FE} {q : Int32 → Mm → Prop} (cx : Cx g f cX8_leastOf 4 RX8 4 90 0 0) (hr : (f_M f).sig.returnType = (some .int)) (hl : (f_M f).locks = false) (hQ : f_Q f = MQ (f_b f) (QW g (qI q)) (f_a f) (f_s f) 0 0 (fun q => g.2.2.2 ≤ q))  {x1 : Int32} {x2 : Int32} {x3 : Int32} {μ : Mm} (h : F_X8_leastOf_6  (KK_X8_leastOf_6 g f ) (KK_X8_leastOf_36 g f ) q x1 x2 x3 μ) : KK_X8_leastOf_6 g f  x1 x2 x3 μ := by
  unfold F_X8_leastOf_6 at h
  show KW g f 4 0 0 6 [some (.ref p_MO), some (.int x1), some (.int x2), some (.int x3)] [] μ
  refine k_iload_n cx dX8_leastOf_6 rfl rfl ?_
  refine k_sipush (v := (216 : Int32)) cx dX8_leastOf_7 (by decide +kernel) ?_
  refine k_icmp_ge (tgt := 60) cx dX8_leastOf_10 (by decide) (fun hc => ?_) (fun hc => ?_)
  · replace h := h.1 hc
    refine k_iload_n cx dX8_leastOf_60 rfl rfl ?_
    refine k_sipush (v := (9999 : Int32)) cx dX8_leastOf_61 (by decide +kernel) ?_
    refine k_icmp_ne (tgt := 71) cx dX8_leastOf_64 (by decide) (fun hc => ?_) (fun hc => ?_)
    · replace h := h.1 hc
      refine k_iload_n cx dX8_leastOf_71 rfl rfl ?_
      exact k_ret_I cx hr hl hQ dX8_leastOf_72 h
    · replace h := h.2 hc
      refine k_iconst (v := (-1 : Int32)) cx dX8_leastOf_67 (by decide +kernel) ?_
      refine k_goto (tgt := 72) cx dX8_leastOf_68 (by decide) ?_
      exact k_ret_I cx hr hl hQ dX8_leastOf_72 h
  · replace h := h.2 hc
    refine k_aload_n cx dX8_leastOf_13 rfl rfl ?_
    refine k_get (o := some p_MO_parts) (v := .ref p_MO_parts) cx fl_X8_26 ob_MO rfl rfl dX8_leastOf_14 ?_
    refine k_aload_n cx dX8_leastOf_17 rfl rfl ?_
    refine k_get (o := none) (v := .int (μ p_MO 8)) cx fl_X8_118 ob_MO rfl rfl dX8_leastOf_18 ?_
    obtain ⟨hi, h⟩ := h
    refine k_iald cx ar_MO_parts hi dX8_leastOf_21 ?_
    refine k_if_le (tgt := 60) cx dX8_leastOf_22 (by decide) (fun hc => ?_) (fun hc => ?_)
    · replace h := h.1 hc
      refine k_iload_n cx dX8_leastOf_60 rfl rfl ?_
      refine k_sipush (v := (9999 : Int32)) cx dX8_leastOf_61 (by decide +kernel) ?_
      refine k_icmp_ne (tgt := 71) cx dX8_leastOf_64 (by decide) (fun hc => ?_) (fun hc => ?_)
      · replace h := h.1 hc
        refine k_iload_n cx dX8_leastOf_71 rfl rfl ?_
        exact k_ret_I cx hr hl hQ dX8_leastOf_72 h
      · replace h := h.2 hc
        refine k_iconst (v := (-1 : Int32)) cx dX8_leastOf_67 (by decide +kernel) ?_
        refine k_goto (tgt := 72) cx dX8_leastOf_68 (by decide) ?_
        exact k_ret_I cx hr hl hQ dX8_leastOf_72 h
    · replace h := h.2 hc
      refine k_iload_n cx dX8_leastOf_25 rfl rfl ?_
      refine k_if_eq (tgt := 36) cx dX8_leastOf_26 (by decide) (fun hc => ?_) (fun hc => ?_)
      · replace h := h.1 hc
        exact k_weak h (lsLe.keep (lsLe.keep (lsLe.keep (lsLe.keep lsLe.nil))))
      · replace h := h.2 hc
        refine k_iload_n cx dX8_leastOf_29 rfl rfl ?_
        refine k_sipush (v := (9999 : Int32)) cx dX8_leastOf_30 (by decide +kernel) ?_
        refine k_icmp_lt (tgt := 60) cx dX8_leastOf_33 (by decide) (fun hc => ?_) (fun hc => ?_)
        · replace h := h.1 hc
          refine k_iload_n cx dX8_leastOf_60 rfl rfl ?_
          refine k_sipush (v := (9999 : Int32)) cx dX8_leastOf_61 (by decide +kernel) ?_
          refine k_icmp_ne (tgt := 71) cx dX8_leastOf_64 (by decide) (fun hc => ?_) (fun hc => ?_)
          · replace h := h.1 hc
            refine k_iload_n cx dX8_leastOf_71 rfl rfl ?_
            exact k_ret_I cx hr hl hQ dX8_leastOf_72 h
          · replace h := h.2 hc
            refine k_iconst (v := (-1 : Int32)) cx dX8_leastOf_67 (by decide +kernel) ?_
            refine k_goto (tgt := 72) cx dX8_leastOf_68 (by decide) ?_
            exact k_ret_I cx hr hl hQ dX8_leastOf_72 h
        · replace h := h.2 hc
          exact k_weak h (lsLe.keep (lsLe.keep (lsLe.keep (lsLe.keep lsLe.nil))))
set_option maxHeartbeats 2000000 in
theorem b_X8_leastOf_36  {g : GE} {f : FE} {q : Int32 → Mm → Prop} (cx : Cx g f cX8_leastOf 4 RX8 4 90 0 0) (hr : (f_M f).sig.returnType = (some .int)) (hl : (f_M f).locks = false) (hQ : f_Q f = MQ (f_b f) (QW g (qI q)) (f_a f) (f_s f) 0 0 (fun q => g.2.2.2 ≤ q))  {x1 : Int32} {x2 : Int32} {x3 : Int32} {μ : Mm} (h : F_X8_leastOf_36  (KK_X8_leastOf_6 g f ) (KK_X8_leastOf_36 g f ) q x1 x2 x3 μ) : KK_X8_leastOf_36 g f  x1 x2 x3 μ := by
  unfold F_X8_leastOf_36 at h
  show KW g f 4 0 0 36 [some (.ref p_MO), some (.int x1), some (.int x2), some (.int x3)] [] μ
  refine k_aload_n cx dX8_leastOf_36 rfl rfl ?_
  refine k_iload_n cx dX8_leastOf_37 rfl rfl ?_
  refine k_callV (As := [.int x3]) (rest := []) cx (m_X8_chooses h) cv_X8_183 ob_MO rfl rfl rfl rfl (Nat.le_of_ble_eq_true rfl) ⟨Nat.le_of_ble_eq_true rfl, Nat.le_of_ble_eq_true rfl⟩ dX8_leastOf_38 (fun v μ1 hq => ?_)
  obtain ⟨b2, rfl, h⟩ := hq
  refine k_if_eq (tgt := 54) cx dX8_leastOf_41 (by decide) (fun hc => ?_) (fun hc => ?_)
  · replace h := h.1 hc
    refine k_iinc (v := (x3 + (1 : Int32))) cx dX8_leastOf_54 rfl rfl (by decide) ?_
    refine k_goto (tgt := 6) cx dX8_leastOf_57 (by decide) ?_
    exact k_weak h (lsLe.keep (lsLe.keep (lsLe.keep (lsLe.keep lsLe.nil))))
  · replace h := h.2 hc
    refine k_aload_n cx dX8_leastOf_44 rfl rfl ?_
    refine k_callV (As := []) (rest := []) cx (m_X8_findsAll h) cv_X8_186 ob_MO rfl rfl rfl rfl (Nat.le_of_ble_eq_true rfl) ⟨Nat.le_of_ble_eq_true rfl, Nat.le_of_ble_eq_true rfl⟩ dX8_leastOf_45 (fun v μ3 hq => ?_)
    obtain ⟨rfl, h⟩ := hq
    refine k_aload_n cx dX8_leastOf_48 rfl rfl ?_
    refine k_iload_n cx dX8_leastOf_49 rfl rfl ?_
    refine k_callV (As := [.int x2]) (rest := []) cx (m_X8_leastBy h) cv_X8_189 ob_MO rfl rfl rfl rfl (Nat.le_of_ble_eq_true rfl) ⟨Nat.le_of_ble_eq_true rfl, Nat.le_of_ble_eq_true rfl⟩ dX8_leastOf_50 (fun v μ4 hq => ?_)
    obtain ⟨z5, rfl, h⟩ := hq
    refine k_istore_n cx dX8_leastOf_53 rfl (by decide) ?_
    refine k_iinc (v := (x3 + (1 : Int32))) cx dX8_leastOf_54 rfl rfl (by decide) ?_
    refine k_goto (tgt := 6) cx dX8_leastOf_57 (by decide) ?_
    exact k_weak h (lsLe.keep (lsLe.keep (lsLe.keep (lsLe.keep lsLe.nil))))
set_option maxHeartbeats 2000000 in
theorem b_X8_leastOf_e  {g : GE} {f : FE} {q : Int32 → Mm → Prop} (cx : Cx g f cX8_leastOf 4 RX8 4 90 0 0) (hr : (f_M f).sig.returnType = (some .int)) (hl : (f_M f).locks = false) (hQ : f_Q f = MQ (f_b f) (QW g (qI q)) (f_a f) (f_s f) 0 0 (fun q => g.2.2.2 ≤ q))  {x1 : Int32} {μ : Mm} (h : F_X8_leastOf_e  (KK_X8_leastOf_6 g f ) (KK_X8_leastOf_36 g f ) q x1 μ) : KW g f 4 0 0 0 [some (.ref p_MO), some (.int x1), none, none] [] μ := by
  unfold F_X8_leastOf_e at h
  refine k_sipush (v := (9999 : Int32)) cx dX8_leastOf_0 (by decide +kernel) ?_
  refine k_istore_n cx dX8_leastOf_3 rfl (by decide) ?_
  refine k_iconst (v := (0 : Int32)) cx dX8_leastOf_4 (by decide +kernel) ?_
  refine k_istore_n cx dX8_leastOf_5 rfl (by decide) ?_
  exact k_weak h (lsLe.keep (lsLe.keep (lsLe.keep (lsLe.keep lsLe.nil))))
theorem m_X8_leastOf {g : GE} {l : Launch} {μ : Mm} {q : Int32 → Mm → Prop} {x1 : Int32}  (h : Wp_X8_leastOf  x1 μ q) : MW g l yX8_leastOf cX8_leastOf 4 (some .int) 4 90 [.ref p_MO, .int x1] μ (qI q) := by
  refine met_of (by decide) (Nat.le_of_ble_eq_true rfl) (by intro v hv; simp only [List.mem_cons, List.not_mem_nil, or_false] at hv; rcases hv with rfl | rfl <;> rfl) ?_
  intro f hfl cx hr hl hQ
  exact b_X8_leastOf_e  cx hr hl hQ (h (KK_X8_leastOf_6 g f ) (KK_X8_leastOf_36 g f ) (fun _ _ _ _ h => b_X8_leastOf_6  cx hr hl hQ h) (fun _ _ _ _ h => b_X8_leastOf_36  cx hr hl hQ h))
theorem dX8_isOf_0 : decode cX8_isOf 0 = .ok (.aload_n 0, 1) := by decide +kernel
theorem dX8_isOf_1 : decode cX8_isOf 1 = .ok (.getfield 41, 3) := by decide +kernel
theorem dX8_isOf_4 : decode cX8_isOf 4 = .ok (.iload_n 1, 1) := by decide +kernel
theorem dX8_isOf_5 : decode cX8_isOf 5 = .ok (.iaload, 1) := by decide +kernel
theorem dX8_isOf_6 : decode cX8_isOf 6 = .ok (.iload_n 2, 1) := by decide +kernel
theorem dX8_isOf_7 : decode cX8_isOf 7 = .ok (.if_icmp .eq 13, 3) := by decide +kernel
theorem dX8_isOf_10 : decode cX8_isOf 10 = .ok (.aload_n 0, 1) := by decide +kernel
theorem dX8_isOf_11 : decode cX8_isOf 11 = .ok (.getfield 44, 3) := by decide +kernel
theorem dX8_isOf_14 : decode cX8_isOf 14 = .ok (.iload_n 1, 1) := by decide +kernel
theorem dX8_isOf_15 : decode cX8_isOf 15 = .ok (.iaload, 1) := by decide +kernel
theorem dX8_isOf_16 : decode cX8_isOf 16 = .ok (.iload_n 2, 1) := by decide +kernel
theorem dX8_isOf_17 : decode cX8_isOf 17 = .ok (.if_icmp .ne 7, 3) := by decide +kernel
theorem dX8_isOf_20 : decode cX8_isOf 20 = .ok (.iconst 1, 1) := by decide +kernel
theorem dX8_isOf_21 : decode cX8_isOf 21 = .ok (.goto 4, 3) := by decide +kernel
theorem dX8_isOf_24 : decode cX8_isOf 24 = .ok (.iconst 0, 1) := by decide +kernel
theorem dX8_isOf_25 : decode cX8_isOf 25 = .ok (.ireturn, 1) := by decide +kernel
def F_X8_isOf_e   (q : Bool → Mm → Prop) (x1 : Int32) (x2 : Int32) (μ : Mm) : Prop :=
  vp_in x1 39 ∧ (((μ p_MO_lineFrom (x1).toNatClampNeg) = x2 → q true μ) ∧ (¬ ((μ p_MO_lineFrom (x1).toNatClampNeg) = x2) → vp_in x1 39 ∧ ((¬ ((μ p_MO_lineTo (x1).toNatClampNeg) = x2) → q false μ) ∧ ((μ p_MO_lineTo (x1).toNatClampNeg) = x2 → q true μ))))
def Wp_X8_isOf  (x1 : Int32) (x2 : Int32) (μ : Mm) (q : Bool → Mm → Prop) : Prop := F_X8_isOf_e   q x1 x2 μ
set_option maxHeartbeats 2000000 in
theorem b_X8_isOf_e  {g : GE} {f : FE} {q : Bool → Mm → Prop} (cx : Cx g f cX8_isOf 3 RX8 0 0 0 0) (hr : (f_M f).sig.returnType = (some .boolean)) (hl : (f_M f).locks = false) (hQ : f_Q f = MQ (f_b f) (QW g (qZ q)) (f_a f) (f_s f) 0 0 (fun q => g.2.2.2 ≤ q))  {x1 : Int32} {x2 : Int32} {μ : Mm} (h : F_X8_isOf_e   q x1 x2 μ) : KW g f 3 0 0 0 [some (.ref p_MO), some (.int x1), some (.int x2)] [] μ := by
  unfold F_X8_isOf_e at h
  refine k_aload_n cx dX8_isOf_0 rfl rfl ?_
  refine k_get (o := some p_MO_lineFrom) (v := .ref p_MO_lineFrom) cx fl_X8_41 ob_MO rfl rfl dX8_isOf_1 ?_
  refine k_iload_n cx dX8_isOf_4 rfl rfl ?_
  obtain ⟨hi, h⟩ := h
  refine k_iald cx ar_MO_lineFrom hi dX8_isOf_5 ?_
  refine k_iload_n cx dX8_isOf_6 rfl rfl ?_
  refine k_icmp_eq (tgt := 20) cx dX8_isOf_7 (by decide) (fun hc => ?_) (fun hc => ?_)
  · replace h := h.1 hc
    refine k_iconst (v := (1 : Int32)) cx dX8_isOf_20 (by decide +kernel) ?_
    refine k_goto (tgt := 25) cx dX8_isOf_21 (by decide) ?_
    exact k_ret_Z (b := true) cx hr hl hQ dX8_isOf_25 rfl h
  · replace h := h.2 hc
    refine k_aload_n cx dX8_isOf_10 rfl rfl ?_
    refine k_get (o := some p_MO_lineTo) (v := .ref p_MO_lineTo) cx fl_X8_44 ob_MO rfl rfl dX8_isOf_11 ?_
    refine k_iload_n cx dX8_isOf_14 rfl rfl ?_
    obtain ⟨hi, h⟩ := h
    refine k_iald cx ar_MO_lineTo hi dX8_isOf_15 ?_
    refine k_iload_n cx dX8_isOf_16 rfl rfl ?_
    refine k_icmp_ne (tgt := 24) cx dX8_isOf_17 (by decide) (fun hc => ?_) (fun hc => ?_)
    · replace h := h.1 hc
      refine k_iconst (v := (0 : Int32)) cx dX8_isOf_24 (by decide +kernel) ?_
      exact k_ret_Z (b := false) cx hr hl hQ dX8_isOf_25 rfl h
    · replace h := h.2 hc
      refine k_iconst (v := (1 : Int32)) cx dX8_isOf_20 (by decide +kernel) ?_
      refine k_goto (tgt := 25) cx dX8_isOf_21 (by decide) ?_
      exact k_ret_Z (b := true) cx hr hl hQ dX8_isOf_25 rfl h
theorem m_X8_isOf {g : GE} {l : Launch} {μ : Mm} {q : Bool → Mm → Prop} {x1 : Int32} {x2 : Int32}  (h : Wp_X8_isOf  x1 x2 μ q) : MW g l yX8_isOf cX8_isOf 3 (some .boolean) 0 0 [.ref p_MO, .int x1, .int x2] μ (qZ q) := by
  refine met_of (by decide) (Nat.le_of_ble_eq_true rfl) (by intro v hv; simp only [List.mem_cons, List.not_mem_nil, or_false] at hv; rcases hv with rfl | rfl | rfl <;> rfl) ?_
  intro f hfl cx hr hl hQ
  exact b_X8_isOf_e  cx hr hl hQ (h  )
theorem dX8_needs_0 : decode cX8_needs 0 = .ok (.iconst 0, 1) := by decide +kernel
theorem dX8_needs_1 : decode cX8_needs 1 = .ok (.istore_n 2, 1) := by decide +kernel
theorem dX8_needs_2 : decode cX8_needs 2 = .ok (.iconst 0, 1) := by decide +kernel
theorem dX8_needs_3 : decode cX8_needs 3 = .ok (.istore_n 3, 1) := by decide +kernel
theorem dX8_needs_4 : decode cX8_needs 4 = .ok (.iload_n 3, 1) := by decide +kernel
theorem dX8_needs_5 : decode cX8_needs 5 = .ok (.iconst 3, 1) := by decide +kernel
theorem dX8_needs_6 : decode cX8_needs 6 = .ok (.aload_n 0, 1) := by decide +kernel
theorem dX8_needs_7 : decode cX8_needs 7 = .ok (.getfield 118, 3) := by decide +kernel
theorem dX8_needs_10 : decode cX8_needs 10 = .ok (.imul, 1) := by decide +kernel
theorem dX8_needs_11 : decode cX8_needs 11 = .ok (.if_icmp .ge 93, 3) := by decide +kernel
theorem dX8_needs_14 : decode cX8_needs 14 = .ok (.aload_n 0, 1) := by decide +kernel
theorem dX8_needs_15 : decode cX8_needs 15 = .ok (.getfield 62, 3) := by decide +kernel
theorem dX8_needs_18 : decode cX8_needs 18 = .ok (.iload_n 3, 1) := by decide +kernel
theorem dX8_needs_19 : decode cX8_needs 19 = .ok (.iconst 3, 1) := by decide +kernel
theorem dX8_needs_20 : decode cX8_needs 20 = .ok (.idiv, 1) := by decide +kernel
theorem dX8_needs_21 : decode cX8_needs 21 = .ok (.baload, 1) := by decide +kernel
theorem dX8_needs_22 : decode cX8_needs 22 = .ok (.ifCond .ne 76, 3) := by decide +kernel
theorem dX8_needs_25 : decode cX8_needs 25 = .ok (.iload_n 3, 1) := by decide +kernel
theorem dX8_needs_26 : decode cX8_needs 26 = .ok (.iconst 3, 1) := by decide +kernel
theorem dX8_needs_27 : decode cX8_needs 27 = .ok (.irem, 1) := by decide +kernel
theorem dX8_needs_28 : decode cX8_needs 28 = .ok (.aload_n 0, 1) := by decide +kernel
theorem dX8_needs_29 : decode cX8_needs 29 = .ok (.getfield 29, 3) := by decide +kernel
theorem dX8_needs_32 : decode cX8_needs 32 = .ok (.iload_n 3, 1) := by decide +kernel
theorem dX8_needs_33 : decode cX8_needs 33 = .ok (.iconst 3, 1) := by decide +kernel
theorem dX8_needs_34 : decode cX8_needs 34 = .ok (.idiv, 1) := by decide +kernel
theorem dX8_needs_35 : decode cX8_needs 35 = .ok (.iaload, 1) := by decide +kernel
theorem dX8_needs_36 : decode cX8_needs 36 = .ok (.if_icmp .ge 62, 3) := by decide +kernel
theorem dX8_needs_39 : decode cX8_needs 39 = .ok (.iload_n 2, 1) := by decide +kernel
theorem dX8_needs_40 : decode cX8_needs 40 = .ok (.aload_n 0, 1) := by decide +kernel
theorem dX8_needs_41 : decode cX8_needs 41 = .ok (.getfield 53, 3) := by decide +kernel
theorem dX8_needs_44 : decode cX8_needs 44 = .ok (.iload_n 3, 1) := by decide +kernel
theorem dX8_needs_45 : decode cX8_needs 45 = .ok (.iaload, 1) := by decide +kernel
theorem dX8_needs_46 : decode cX8_needs 46 = .ok (.iload_n 1, 1) := by decide +kernel
theorem dX8_needs_47 : decode cX8_needs 47 = .ok (.invokestatic 136, 3) := by decide +kernel
theorem dX8_needs_50 : decode cX8_needs 50 = .ok (.ifCond .eq 12, 3) := by decide +kernel
theorem dX8_needs_53 : decode cX8_needs 53 = .ok (.aload_n 0, 1) := by decide +kernel
theorem dX8_needs_54 : decode cX8_needs 54 = .ok (.getfield 50, 3) := by decide +kernel
theorem dX8_needs_57 : decode cX8_needs 57 = .ok (.iload_n 3, 1) := by decide +kernel
theorem dX8_needs_58 : decode cX8_needs 58 = .ok (.iaload, 1) := by decide +kernel
theorem dX8_needs_59 : decode cX8_needs 59 = .ok (.goto 4, 3) := by decide +kernel
theorem dX8_needs_62 : decode cX8_needs 62 = .ok (.iconst 0, 1) := by decide +kernel
theorem dX8_needs_63 : decode cX8_needs 63 = .ok (.iadd, 1) := by decide +kernel
theorem dX8_needs_64 : decode cX8_needs 64 = .ok (.istore_n 2, 1) := by decide +kernel
theorem dX8_needs_65 : decode cX8_needs 65 = .ok (.iload_n 2, 1) := by decide +kernel
theorem dX8_needs_66 : decode cX8_needs 66 = .ok (.aload_n 0, 1) := by decide +kernel
theorem dX8_needs_67 : decode cX8_needs 67 = .ok (.getfield 56, 3) := by decide +kernel
theorem dX8_needs_70 : decode cX8_needs 70 = .ok (.iload_n 3, 1) := by decide +kernel
theorem dX8_needs_71 : decode cX8_needs 71 = .ok (.iaload, 1) := by decide +kernel
theorem dX8_needs_72 : decode cX8_needs 72 = .ok (.iload_n 1, 1) := by decide +kernel
theorem dX8_needs_73 : decode cX8_needs 73 = .ok (.invokestatic 136, 3) := by decide +kernel
theorem dX8_needs_76 : decode cX8_needs 76 = .ok (.ifCond .eq 19, 3) := by decide +kernel
theorem dX8_needs_79 : decode cX8_needs 79 = .ok (.aload_n 0, 1) := by decide +kernel
theorem dX8_needs_80 : decode cX8_needs 80 = .ok (.getfield 47, 3) := by decide +kernel
theorem dX8_needs_83 : decode cX8_needs 83 = .ok (.iload_n 3, 1) := by decide +kernel
theorem dX8_needs_84 : decode cX8_needs 84 = .ok (.iaload, 1) := by decide +kernel
theorem dX8_needs_85 : decode cX8_needs 85 = .ok (.aload_n 0, 1) := by decide +kernel
theorem dX8_needs_86 : decode cX8_needs 86 = .ok (.getfield 50, 3) := by decide +kernel
theorem dX8_needs_89 : decode cX8_needs 89 = .ok (.iload_n 3, 1) := by decide +kernel
theorem dX8_needs_90 : decode cX8_needs 90 = .ok (.iaload, 1) := by decide +kernel
theorem dX8_needs_91 : decode cX8_needs 91 = .ok (.isub, 1) := by decide +kernel
theorem dX8_needs_92 : decode cX8_needs 92 = .ok (.goto 4, 3) := by decide +kernel
theorem dX8_needs_95 : decode cX8_needs 95 = .ok (.iconst 0, 1) := by decide +kernel
theorem dX8_needs_96 : decode cX8_needs 96 = .ok (.iadd, 1) := by decide +kernel
theorem dX8_needs_97 : decode cX8_needs 97 = .ok (.istore_n 2, 1) := by decide +kernel
theorem dX8_needs_98 : decode cX8_needs 98 = .ok (.iinc 3 1, 3) := by decide +kernel
theorem dX8_needs_101 : decode cX8_needs 101 = .ok (.goto (-97), 3) := by decide +kernel
theorem dX8_needs_104 : decode cX8_needs 104 = .ok (.iload_n 2, 1) := by decide +kernel
theorem dX8_needs_105 : decode cX8_needs 105 = .ok (.ireturn, 1) := by decide +kernel
def F_X8_needs_4  (K4 : Int32 → Int32 → Int32 → Mm → Prop) (K63 : Int32 → Int32 → Int32 → Int32 → Mm → Prop) (q : Int32 → Mm → Prop) (x1 : Int32) (x2 : Int32) (x3 : Int32) (μ : Mm) : Prop :=
  ((((3 : Int32) * (μ p_MO 8)) ≤ x3 → q x2 μ) ∧ (¬ (((3 : Int32) * (μ p_MO 8)) ≤ x3) → vp_in (x3 / (3 : Int32)) 13 ∧ ((¬ ((μ p_MO_hasEnded ((x3 / (3 : Int32))).toNatClampNeg) = 0) → K4 x1 x2 (x3 + (1 : Int32)) μ) ∧ ((μ p_MO_hasEnded ((x3 / (3 : Int32))).toNatClampNeg) = 0 → vp_in (x3 / (3 : Int32)) 13 ∧ (((μ p_MO_lines ((x3 / (3 : Int32))).toNatClampNeg) ≤ (x3 - x3 / (3 : Int32) * (3 : Int32)) → K4 x1 x2 (x3 + (1 : Int32)) μ) ∧ (¬ ((μ p_MO_lines ((x3 / (3 : Int32))).toNatClampNeg) ≤ (x3 - x3 / (3 : Int32) * (3 : Int32))) → vp_in x3 39 ∧ Wp_X8_has (μ p_MO_way (x3).toNatClampNeg) x1 μ (fun b2 μ1 => (((bI b2) = 0 → K63 x1 x3 (0 : Int32) x2 μ1) ∧ (¬ ((bI b2) = 0) → vp_in x3 39 ∧ K63 x1 x3 (μ1 p_MO_amount (x3).toNatClampNeg) x2 μ1)))))))))
def F_X8_needs_63  (K4 : Int32 → Int32 → Int32 → Mm → Prop) (K63 : Int32 → Int32 → Int32 → Int32 → Mm → Prop) (q : Int32 → Mm → Prop) (x1 : Int32) (x3 : Int32) (y0 : Int32) (y1 : Int32) (μ : Mm) : Prop :=
  vp_in x3 39 ∧ Wp_X8_has (μ p_MO_rest (x3).toNatClampNeg) x1 μ (fun b2 μ1 => (((bI b2) = 0 → K4 x1 ((y1 + y0) + (0 : Int32)) (x3 + (1 : Int32)) μ1) ∧ (¬ ((bI b2) = 0) → vp_in x3 39 ∧ vp_in x3 39 ∧ K4 x1 ((y1 + y0) + ((μ1 p_MO_lineNeed (x3).toNatClampNeg) - (μ1 p_MO_amount (x3).toNatClampNeg))) (x3 + (1 : Int32)) μ1)))
def F_X8_needs_e  (K4 : Int32 → Int32 → Int32 → Mm → Prop) (K63 : Int32 → Int32 → Int32 → Int32 → Mm → Prop) (q : Int32 → Mm → Prop) (x1 : Int32) (μ : Mm) : Prop :=
  K4 x1 (0 : Int32) (0 : Int32) μ
def Wp_X8_needs  (x1 : Int32) (μ : Mm) (q : Int32 → Mm → Prop) : Prop := ∀ (K4 : Int32 → Int32 → Int32 → Mm → Prop) (K63 : Int32 → Int32 → Int32 → Int32 → Mm → Prop), (∀ (x1 : Int32) (x2 : Int32) (x3 : Int32) (μ : Mm), F_X8_needs_4  K4 K63 q x1 x2 x3 μ → K4 x1 x2 x3 μ) → (∀ (x1 : Int32) (x3 : Int32) (y0 : Int32) (y1 : Int32) (μ : Mm), F_X8_needs_63  K4 K63 q x1 x3 y0 y1 μ → K63 x1 x3 y0 y1 μ) → F_X8_needs_e  K4 K63 q x1 μ
abbrev KK_X8_needs_4 (g : GE) (f : FE)  : Int32 → Int32 → Int32 → Mm → Prop := fun x1 x2 x3 μ => KW g f 4 0 0 4 [some (.ref p_MO), some (.int x1), some (.int x2), some (.int x3)] [] μ
abbrev KK_X8_needs_63 (g : GE) (f : FE)  : Int32 → Int32 → Int32 → Int32 → Mm → Prop := fun x1 x3 y0 y1 μ => KW g f 4 0 0 63 [some (.ref p_MO), some (.int x1), none, some (.int x3)] [.int y0, .int y1] μ
set_option maxHeartbeats 2000000 in
theorem b_X8_needs_4  {g : GE} {f : FE} {q : Int32 → Mm → Prop} (cx : Cx g f cX8_needs 4 RX8 1 21 0 0) (hr : (f_M f).sig.returnType = (some .int)) (hl : (f_M f).locks = false) (hQ : f_Q f = MQ (f_b f) (QW g (qI q)) (f_a f) (f_s f) 0 0 (fun q => g.2.2.2 ≤ q))  {x1 : Int32} {x2 : Int32} {x3 : Int32} {μ : Mm} (h : F_X8_needs_4  (KK_X8_needs_4 g f ) (KK_X8_needs_63 g f ) q x1 x2 x3 μ) : KK_X8_needs_4 g f  x1 x2 x3 μ := by
  unfold F_X8_needs_4 at h
  show KW g f 4 0 0 4 [some (.ref p_MO), some (.int x1), some (.int x2), some (.int x3)] [] μ
  refine k_iload_n cx dX8_needs_4 rfl rfl ?_
  refine k_iconst (v := (3 : Int32)) cx dX8_needs_5 (by decide +kernel) ?_
  refine k_aload_n cx dX8_needs_6 rfl rfl ?_
  refine k_get (o := none) (v := .int (μ p_MO 8)) cx fl_X8_118 ob_MO rfl rfl dX8_needs_7 ?_
  refine k_imul cx dX8_needs_10 ?_
  refine k_icmp_ge (tgt := 104) cx dX8_needs_11 (by decide) (fun hc => ?_) (fun hc => ?_)
  · replace h := h.1 hc
    refine k_iload_n cx dX8_needs_104 rfl rfl ?_
    exact k_ret_I cx hr hl hQ dX8_needs_105 h
  · replace h := h.2 hc
    refine k_aload_n cx dX8_needs_14 rfl rfl ?_
    refine k_get (o := some p_MO_hasEnded) (v := .ref p_MO_hasEnded) cx fl_X8_62 ob_MO rfl rfl dX8_needs_15 ?_
    refine k_iload_n cx dX8_needs_18 rfl rfl ?_
    refine k_iconst (v := (3 : Int32)) cx dX8_needs_19 (by decide +kernel) ?_
    refine k_idiv cx dX8_needs_20 (by decide) ?_
    obtain ⟨hi, h⟩ := h
    refine k_zald cx ar_MO_hasEnded hi dX8_needs_21 ?_
    refine k_if_ne (tgt := 98) cx dX8_needs_22 (by decide) (fun hc => ?_) (fun hc => ?_)
    · replace h := h.1 hc
      refine k_iinc (v := (x3 + (1 : Int32))) cx dX8_needs_98 rfl rfl (by decide) ?_
      refine k_goto (tgt := 4) cx dX8_needs_101 (by decide) ?_
      exact k_weak h (lsLe.keep (lsLe.keep (lsLe.keep (lsLe.keep lsLe.nil))))
    · replace h := h.2 hc
      refine k_iload_n cx dX8_needs_25 rfl rfl ?_
      refine k_iconst (v := (3 : Int32)) cx dX8_needs_26 (by decide +kernel) ?_
      refine k_irem cx dX8_needs_27 (by decide) ?_
      refine k_aload_n cx dX8_needs_28 rfl rfl ?_
      refine k_get (o := some p_MO_lines) (v := .ref p_MO_lines) cx fl_X8_29 ob_MO rfl rfl dX8_needs_29 ?_
      refine k_iload_n cx dX8_needs_32 rfl rfl ?_
      refine k_iconst (v := (3 : Int32)) cx dX8_needs_33 (by decide +kernel) ?_
      refine k_idiv cx dX8_needs_34 (by decide) ?_
      obtain ⟨hi, h⟩ := h
      refine k_iald cx ar_MO_lines hi dX8_needs_35 ?_
      refine k_icmp_ge (tgt := 98) cx dX8_needs_36 (by decide) (fun hc => ?_) (fun hc => ?_)
      · replace h := h.1 hc
        refine k_iinc (v := (x3 + (1 : Int32))) cx dX8_needs_98 rfl rfl (by decide) ?_
        refine k_goto (tgt := 4) cx dX8_needs_101 (by decide) ?_
        exact k_weak h (lsLe.keep (lsLe.keep (lsLe.keep (lsLe.keep lsLe.nil))))
      · replace h := h.2 hc
        refine k_iload_n cx dX8_needs_39 rfl rfl ?_
        refine k_aload_n cx dX8_needs_40 rfl rfl ?_
        refine k_get (o := some p_MO_way) (v := .ref p_MO_way) cx fl_X8_53 ob_MO rfl rfl dX8_needs_41 ?_
        refine k_iload_n cx dX8_needs_44 rfl rfl ?_
        obtain ⟨hi, h⟩ := h
        refine k_iald cx ar_MO_way hi dX8_needs_45 ?_
        refine k_iload_n cx dX8_needs_46 rfl rfl ?_
        refine k_callS (As := [.int (μ p_MO_way (x3).toNatClampNeg), .int x1]) (rest := [.int x2]) cx (m_X8_has h) cv_X8_136 rfl rfl (Nat.le_of_ble_eq_true rfl) ⟨Nat.le_of_ble_eq_true rfl, Nat.le_of_ble_eq_true rfl⟩ dX8_needs_47 (fun v μ1 hq => ?_)
        obtain ⟨b2, rfl, h⟩ := hq
        refine k_if_eq (tgt := 62) cx dX8_needs_50 (by decide) (fun hc => ?_) (fun hc => ?_)
        · replace h := h.1 hc
          refine k_iconst (v := (0 : Int32)) cx dX8_needs_62 (by decide +kernel) ?_
          exact k_weak h (lsLe.keep (lsLe.keep (lsLe.drop (lsLe.keep lsLe.nil))))
        · replace h := h.2 hc
          refine k_aload_n cx dX8_needs_53 rfl rfl ?_
          refine k_get (o := some p_MO_amount) (v := .ref p_MO_amount) cx fl_X8_50 ob_MO rfl rfl dX8_needs_54 ?_
          refine k_iload_n cx dX8_needs_57 rfl rfl ?_
          obtain ⟨hi, h⟩ := h
          refine k_iald cx ar_MO_amount hi dX8_needs_58 ?_
          refine k_goto (tgt := 63) cx dX8_needs_59 (by decide) ?_
          exact k_weak h (lsLe.keep (lsLe.keep (lsLe.drop (lsLe.keep lsLe.nil))))
set_option maxHeartbeats 2000000 in
theorem b_X8_needs_63  {g : GE} {f : FE} {q : Int32 → Mm → Prop} (cx : Cx g f cX8_needs 4 RX8 1 21 0 0) (hr : (f_M f).sig.returnType = (some .int)) (hl : (f_M f).locks = false) (hQ : f_Q f = MQ (f_b f) (QW g (qI q)) (f_a f) (f_s f) 0 0 (fun q => g.2.2.2 ≤ q))  {x1 : Int32} {x3 : Int32} {y0 : Int32} {y1 : Int32} {μ : Mm} (h : F_X8_needs_63  (KK_X8_needs_4 g f ) (KK_X8_needs_63 g f ) q x1 x3 y0 y1 μ) : KK_X8_needs_63 g f  x1 x3 y0 y1 μ := by
  unfold F_X8_needs_63 at h
  show KW g f 4 0 0 63 [some (.ref p_MO), some (.int x1), none, some (.int x3)] [.int y0, .int y1] μ
  refine k_iadd cx dX8_needs_63 ?_
  refine k_istore_n cx dX8_needs_64 rfl (by decide) ?_
  refine k_iload_n cx dX8_needs_65 rfl rfl ?_
  refine k_aload_n cx dX8_needs_66 rfl rfl ?_
  refine k_get (o := some p_MO_rest) (v := .ref p_MO_rest) cx fl_X8_56 ob_MO rfl rfl dX8_needs_67 ?_
  refine k_iload_n cx dX8_needs_70 rfl rfl ?_
  obtain ⟨hi, h⟩ := h
  refine k_iald cx ar_MO_rest hi dX8_needs_71 ?_
  refine k_iload_n cx dX8_needs_72 rfl rfl ?_
  refine k_callS (As := [.int (μ p_MO_rest (x3).toNatClampNeg), .int x1]) (rest := [.int (y1 + y0)]) cx (m_X8_has h) cv_X8_136 rfl rfl (Nat.le_of_ble_eq_true rfl) ⟨Nat.le_of_ble_eq_true rfl, Nat.le_of_ble_eq_true rfl⟩ dX8_needs_73 (fun v μ1 hq => ?_)
  obtain ⟨b2, rfl, h⟩ := hq
  refine k_if_eq (tgt := 95) cx dX8_needs_76 (by decide) (fun hc => ?_) (fun hc => ?_)
  · replace h := h.1 hc
    refine k_iconst (v := (0 : Int32)) cx dX8_needs_95 (by decide +kernel) ?_
    refine k_iadd cx dX8_needs_96 ?_
    refine k_istore_n cx dX8_needs_97 rfl (by decide) ?_
    refine k_iinc (v := (x3 + (1 : Int32))) cx dX8_needs_98 rfl rfl (by decide) ?_
    refine k_goto (tgt := 4) cx dX8_needs_101 (by decide) ?_
    exact k_weak h (lsLe.keep (lsLe.keep (lsLe.keep (lsLe.keep lsLe.nil))))
  · replace h := h.2 hc
    refine k_aload_n cx dX8_needs_79 rfl rfl ?_
    refine k_get (o := some p_MO_lineNeed) (v := .ref p_MO_lineNeed) cx fl_X8_47 ob_MO rfl rfl dX8_needs_80 ?_
    refine k_iload_n cx dX8_needs_83 rfl rfl ?_
    obtain ⟨hi, h⟩ := h
    refine k_iald cx ar_MO_lineNeed hi dX8_needs_84 ?_
    refine k_aload_n cx dX8_needs_85 rfl rfl ?_
    refine k_get (o := some p_MO_amount) (v := .ref p_MO_amount) cx fl_X8_50 ob_MO rfl rfl dX8_needs_86 ?_
    refine k_iload_n cx dX8_needs_89 rfl rfl ?_
    obtain ⟨hi, h⟩ := h
    refine k_iald cx ar_MO_amount hi dX8_needs_90 ?_
    refine k_isub cx dX8_needs_91 ?_
    refine k_goto (tgt := 96) cx dX8_needs_92 (by decide) ?_
    refine k_iadd cx dX8_needs_96 ?_
    refine k_istore_n cx dX8_needs_97 rfl (by decide) ?_
    refine k_iinc (v := (x3 + (1 : Int32))) cx dX8_needs_98 rfl rfl (by decide) ?_
    refine k_goto (tgt := 4) cx dX8_needs_101 (by decide) ?_
    exact k_weak h (lsLe.keep (lsLe.keep (lsLe.keep (lsLe.keep lsLe.nil))))
set_option maxHeartbeats 2000000 in
theorem b_X8_needs_e  {g : GE} {f : FE} {q : Int32 → Mm → Prop} (cx : Cx g f cX8_needs 4 RX8 1 21 0 0) (hr : (f_M f).sig.returnType = (some .int)) (hl : (f_M f).locks = false) (hQ : f_Q f = MQ (f_b f) (QW g (qI q)) (f_a f) (f_s f) 0 0 (fun q => g.2.2.2 ≤ q))  {x1 : Int32} {μ : Mm} (h : F_X8_needs_e  (KK_X8_needs_4 g f ) (KK_X8_needs_63 g f ) q x1 μ) : KW g f 4 0 0 0 [some (.ref p_MO), some (.int x1), none, none] [] μ := by
  unfold F_X8_needs_e at h
  refine k_iconst (v := (0 : Int32)) cx dX8_needs_0 (by decide +kernel) ?_
  refine k_istore_n cx dX8_needs_1 rfl (by decide) ?_
  refine k_iconst (v := (0 : Int32)) cx dX8_needs_2 (by decide +kernel) ?_
  refine k_istore_n cx dX8_needs_3 rfl (by decide) ?_
  exact k_weak h (lsLe.keep (lsLe.keep (lsLe.keep (lsLe.keep lsLe.nil))))
theorem m_X8_needs {g : GE} {l : Launch} {μ : Mm} {q : Int32 → Mm → Prop} {x1 : Int32}  (h : Wp_X8_needs  x1 μ q) : MW g l yX8_needs cX8_needs 4 (some .int) 1 21 [.ref p_MO, .int x1] μ (qI q) := by
  refine met_of (by decide) (Nat.le_of_ble_eq_true rfl) (by intro v hv; simp only [List.mem_cons, List.not_mem_nil, or_false] at hv; rcases hv with rfl | rfl <;> rfl) ?_
  intro f hfl cx hr hl hQ
  exact b_X8_needs_e  cx hr hl hQ (h (KK_X8_needs_4 g f ) (KK_X8_needs_63 g f ) (fun _ _ _ _ h => b_X8_needs_4  cx hr hl hQ h) (fun _ _ _ _ _ h => b_X8_needs_63  cx hr hl hQ h))
theorem dX8_needsAt_0 : decode cX8_needsAt 0 = .ok (.iconst 0, 1) := by decide +kernel
theorem dX8_needsAt_1 : decode cX8_needsAt 1 = .ok (.istore_n 2, 1) := by decide +kernel
theorem dX8_needsAt_2 : decode cX8_needsAt 2 = .ok (.iconst 0, 1) := by decide +kernel
theorem dX8_needsAt_3 : decode cX8_needsAt 3 = .ok (.istore_n 3, 1) := by decide +kernel
theorem dX8_needsAt_4 : decode cX8_needsAt 4 = .ok (.iload_n 3, 1) := by decide +kernel
theorem dX8_needsAt_5 : decode cX8_needsAt 5 = .ok (.iconst 3, 1) := by decide +kernel
theorem dX8_needsAt_6 : decode cX8_needsAt 6 = .ok (.aload_n 0, 1) := by decide +kernel
theorem dX8_needsAt_7 : decode cX8_needsAt 7 = .ok (.getfield 118, 3) := by decide +kernel
theorem dX8_needsAt_10 : decode cX8_needsAt 10 = .ok (.imul, 1) := by decide +kernel
theorem dX8_needsAt_11 : decode cX8_needsAt 11 = .ok (.if_icmp .ge 69, 3) := by decide +kernel
theorem dX8_needsAt_14 : decode cX8_needsAt 14 = .ok (.aload_n 0, 1) := by decide +kernel
theorem dX8_needsAt_15 : decode cX8_needsAt 15 = .ok (.getfield 62, 3) := by decide +kernel
theorem dX8_needsAt_18 : decode cX8_needsAt 18 = .ok (.iload_n 3, 1) := by decide +kernel
theorem dX8_needsAt_19 : decode cX8_needsAt 19 = .ok (.iconst 3, 1) := by decide +kernel
theorem dX8_needsAt_20 : decode cX8_needsAt 20 = .ok (.idiv, 1) := by decide +kernel
theorem dX8_needsAt_21 : decode cX8_needsAt 21 = .ok (.baload, 1) := by decide +kernel
theorem dX8_needsAt_22 : decode cX8_needsAt 22 = .ok (.ifCond .ne 31, 3) := by decide +kernel
theorem dX8_needsAt_25 : decode cX8_needsAt 25 = .ok (.iload_n 3, 1) := by decide +kernel
theorem dX8_needsAt_26 : decode cX8_needsAt 26 = .ok (.iconst 3, 1) := by decide +kernel
theorem dX8_needsAt_27 : decode cX8_needsAt 27 = .ok (.irem, 1) := by decide +kernel
theorem dX8_needsAt_28 : decode cX8_needsAt 28 = .ok (.aload_n 0, 1) := by decide +kernel
theorem dX8_needsAt_29 : decode cX8_needsAt 29 = .ok (.getfield 26, 3) := by decide +kernel
theorem dX8_needsAt_32 : decode cX8_needsAt 32 = .ok (.iload_n 3, 1) := by decide +kernel
theorem dX8_needsAt_33 : decode cX8_needsAt 33 = .ok (.iconst 3, 1) := by decide +kernel
theorem dX8_needsAt_34 : decode cX8_needsAt 34 = .ok (.idiv, 1) := by decide +kernel
theorem dX8_needsAt_35 : decode cX8_needsAt 35 = .ok (.iaload, 1) := by decide +kernel
theorem dX8_needsAt_36 : decode cX8_needsAt 36 = .ok (.if_icmp .ge 17, 3) := by decide +kernel
theorem dX8_needsAt_39 : decode cX8_needsAt 39 = .ok (.aload_n 0, 1) := by decide +kernel
theorem dX8_needsAt_40 : decode cX8_needsAt 40 = .ok (.getfield 38, 3) := by decide +kernel
theorem dX8_needsAt_43 : decode cX8_needsAt 43 = .ok (.iload_n 3, 1) := by decide +kernel
theorem dX8_needsAt_44 : decode cX8_needsAt 44 = .ok (.iaload, 1) := by decide +kernel
theorem dX8_needsAt_45 : decode cX8_needsAt 45 = .ok (.iload_n 1, 1) := by decide +kernel
theorem dX8_needsAt_46 : decode cX8_needsAt 46 = .ok (.if_icmp .ne 7, 3) := by decide +kernel
theorem dX8_needsAt_49 : decode cX8_needsAt 49 = .ok (.iconst 1, 1) := by decide +kernel
theorem dX8_needsAt_50 : decode cX8_needsAt 50 = .ok (.goto 4, 3) := by decide +kernel
theorem dX8_needsAt_53 : decode cX8_needsAt 53 = .ok (.iconst 0, 1) := by decide +kernel
theorem dX8_needsAt_54 : decode cX8_needsAt 54 = .ok (.istore 4, 2) := by decide +kernel
theorem dX8_needsAt_56 : decode cX8_needsAt 56 = .ok (.iload_n 2, 1) := by decide +kernel
theorem dX8_needsAt_57 : decode cX8_needsAt 57 = .ok (.iload 4, 2) := by decide +kernel
theorem dX8_needsAt_59 : decode cX8_needsAt 59 = .ok (.ifCond .eq 12, 3) := by decide +kernel
theorem dX8_needsAt_62 : decode cX8_needsAt 62 = .ok (.aload_n 0, 1) := by decide +kernel
theorem dX8_needsAt_63 : decode cX8_needsAt 63 = .ok (.getfield 32, 3) := by decide +kernel
theorem dX8_needsAt_66 : decode cX8_needsAt 66 = .ok (.iload_n 3, 1) := by decide +kernel
theorem dX8_needsAt_67 : decode cX8_needsAt 67 = .ok (.iaload, 1) := by decide +kernel
theorem dX8_needsAt_68 : decode cX8_needsAt 68 = .ok (.goto 4, 3) := by decide +kernel
theorem dX8_needsAt_71 : decode cX8_needsAt 71 = .ok (.iconst 0, 1) := by decide +kernel
theorem dX8_needsAt_72 : decode cX8_needsAt 72 = .ok (.iadd, 1) := by decide +kernel
theorem dX8_needsAt_73 : decode cX8_needsAt 73 = .ok (.istore_n 2, 1) := by decide +kernel
theorem dX8_needsAt_74 : decode cX8_needsAt 74 = .ok (.iinc 3 1, 3) := by decide +kernel
theorem dX8_needsAt_77 : decode cX8_needsAt 77 = .ok (.goto (-73), 3) := by decide +kernel
theorem dX8_needsAt_80 : decode cX8_needsAt 80 = .ok (.iload_n 2, 1) := by decide +kernel
theorem dX8_needsAt_81 : decode cX8_needsAt 81 = .ok (.ireturn, 1) := by decide +kernel
def F_X8_needsAt_4  (K4 : Int32 → Int32 → Int32 → Mm → Prop) (K54 : Int32 → Int32 → Int32 → Int32 → Mm → Prop) (q : Int32 → Mm → Prop) (x1 : Int32) (x2 : Int32) (x3 : Int32) (μ : Mm) : Prop :=
  ((((3 : Int32) * (μ p_MO 8)) ≤ x3 → q x2 μ) ∧ (¬ (((3 : Int32) * (μ p_MO 8)) ≤ x3) → vp_in (x3 / (3 : Int32)) 13 ∧ ((¬ ((μ p_MO_hasEnded ((x3 / (3 : Int32))).toNatClampNeg) = 0) → K54 x1 x2 x3 (0 : Int32) μ) ∧ ((μ p_MO_hasEnded ((x3 / (3 : Int32))).toNatClampNeg) = 0 → vp_in (x3 / (3 : Int32)) 13 ∧ (((μ p_MO_parts ((x3 / (3 : Int32))).toNatClampNeg) ≤ (x3 - x3 / (3 : Int32) * (3 : Int32)) → K54 x1 x2 x3 (0 : Int32) μ) ∧ (¬ ((μ p_MO_parts ((x3 / (3 : Int32))).toNatClampNeg) ≤ (x3 - x3 / (3 : Int32) * (3 : Int32))) → vp_in x3 39 ∧ ((¬ ((μ p_MO_at (x3).toNatClampNeg) = x1) → K54 x1 x2 x3 (0 : Int32) μ) ∧ ((μ p_MO_at (x3).toNatClampNeg) = x1 → K54 x1 x2 x3 (1 : Int32) μ))))))))
def F_X8_needsAt_54  (K4 : Int32 → Int32 → Int32 → Mm → Prop) (K54 : Int32 → Int32 → Int32 → Int32 → Mm → Prop) (q : Int32 → Mm → Prop) (x1 : Int32) (x2 : Int32) (x3 : Int32) (y0 : Int32) (μ : Mm) : Prop :=
  ((y0 = 0 → K4 x1 (x2 + (0 : Int32)) (x3 + (1 : Int32)) μ) ∧ (¬ (y0 = 0) → vp_in x3 39 ∧ K4 x1 (x2 + (μ p_MO_partNeed (x3).toNatClampNeg)) (x3 + (1 : Int32)) μ))
def F_X8_needsAt_e  (K4 : Int32 → Int32 → Int32 → Mm → Prop) (K54 : Int32 → Int32 → Int32 → Int32 → Mm → Prop) (q : Int32 → Mm → Prop) (x1 : Int32) (μ : Mm) : Prop :=
  K4 x1 (0 : Int32) (0 : Int32) μ
def Wp_X8_needsAt  (x1 : Int32) (μ : Mm) (q : Int32 → Mm → Prop) : Prop := ∀ (K4 : Int32 → Int32 → Int32 → Mm → Prop) (K54 : Int32 → Int32 → Int32 → Int32 → Mm → Prop), (∀ (x1 : Int32) (x2 : Int32) (x3 : Int32) (μ : Mm), F_X8_needsAt_4  K4 K54 q x1 x2 x3 μ → K4 x1 x2 x3 μ) → (∀ (x1 : Int32) (x2 : Int32) (x3 : Int32) (y0 : Int32) (μ : Mm), F_X8_needsAt_54  K4 K54 q x1 x2 x3 y0 μ → K54 x1 x2 x3 y0 μ) → F_X8_needsAt_e  K4 K54 q x1 μ
abbrev KK_X8_needsAt_4 (g : GE) (f : FE)  : Int32 → Int32 → Int32 → Mm → Prop := fun x1 x2 x3 μ => KW g f 5 0 0 4 [some (.ref p_MO), some (.int x1), some (.int x2), some (.int x3), none] [] μ
abbrev KK_X8_needsAt_54 (g : GE) (f : FE)  : Int32 → Int32 → Int32 → Int32 → Mm → Prop := fun x1 x2 x3 y0 μ => KW g f 5 0 0 54 [some (.ref p_MO), some (.int x1), some (.int x2), some (.int x3), none] [.int y0] μ
set_option maxHeartbeats 2000000 in
theorem b_X8_needsAt_4  {g : GE} {f : FE} {q : Int32 → Mm → Prop} (cx : Cx g f cX8_needsAt 5 RX8 0 0 0 0) (hr : (f_M f).sig.returnType = (some .int)) (hl : (f_M f).locks = false) (hQ : f_Q f = MQ (f_b f) (QW g (qI q)) (f_a f) (f_s f) 0 0 (fun q => g.2.2.2 ≤ q))  {x1 : Int32} {x2 : Int32} {x3 : Int32} {μ : Mm} (h : F_X8_needsAt_4  (KK_X8_needsAt_4 g f ) (KK_X8_needsAt_54 g f ) q x1 x2 x3 μ) : KK_X8_needsAt_4 g f  x1 x2 x3 μ := by
  unfold F_X8_needsAt_4 at h
  show KW g f 5 0 0 4 [some (.ref p_MO), some (.int x1), some (.int x2), some (.int x3), none] [] μ
  refine k_iload_n cx dX8_needsAt_4 rfl rfl ?_
  refine k_iconst (v := (3 : Int32)) cx dX8_needsAt_5 (by decide +kernel) ?_
  refine k_aload_n cx dX8_needsAt_6 rfl rfl ?_
  refine k_get (o := none) (v := .int (μ p_MO 8)) cx fl_X8_118 ob_MO rfl rfl dX8_needsAt_7 ?_
  refine k_imul cx dX8_needsAt_10 ?_
  refine k_icmp_ge (tgt := 80) cx dX8_needsAt_11 (by decide) (fun hc => ?_) (fun hc => ?_)
  · replace h := h.1 hc
    refine k_iload_n cx dX8_needsAt_80 rfl rfl ?_
    exact k_ret_I cx hr hl hQ dX8_needsAt_81 h
  · replace h := h.2 hc
    refine k_aload_n cx dX8_needsAt_14 rfl rfl ?_
    refine k_get (o := some p_MO_hasEnded) (v := .ref p_MO_hasEnded) cx fl_X8_62 ob_MO rfl rfl dX8_needsAt_15 ?_
    refine k_iload_n cx dX8_needsAt_18 rfl rfl ?_
    refine k_iconst (v := (3 : Int32)) cx dX8_needsAt_19 (by decide +kernel) ?_
    refine k_idiv cx dX8_needsAt_20 (by decide) ?_
    obtain ⟨hi, h⟩ := h
    refine k_zald cx ar_MO_hasEnded hi dX8_needsAt_21 ?_
    refine k_if_ne (tgt := 53) cx dX8_needsAt_22 (by decide) (fun hc => ?_) (fun hc => ?_)
    · replace h := h.1 hc
      refine k_iconst (v := (0 : Int32)) cx dX8_needsAt_53 (by decide +kernel) ?_
      exact k_weak h (lsLe.keep (lsLe.keep (lsLe.keep (lsLe.keep (lsLe.keep lsLe.nil)))))
    · replace h := h.2 hc
      refine k_iload_n cx dX8_needsAt_25 rfl rfl ?_
      refine k_iconst (v := (3 : Int32)) cx dX8_needsAt_26 (by decide +kernel) ?_
      refine k_irem cx dX8_needsAt_27 (by decide) ?_
      refine k_aload_n cx dX8_needsAt_28 rfl rfl ?_
      refine k_get (o := some p_MO_parts) (v := .ref p_MO_parts) cx fl_X8_26 ob_MO rfl rfl dX8_needsAt_29 ?_
      refine k_iload_n cx dX8_needsAt_32 rfl rfl ?_
      refine k_iconst (v := (3 : Int32)) cx dX8_needsAt_33 (by decide +kernel) ?_
      refine k_idiv cx dX8_needsAt_34 (by decide) ?_
      obtain ⟨hi, h⟩ := h
      refine k_iald cx ar_MO_parts hi dX8_needsAt_35 ?_
      refine k_icmp_ge (tgt := 53) cx dX8_needsAt_36 (by decide) (fun hc => ?_) (fun hc => ?_)
      · replace h := h.1 hc
        refine k_iconst (v := (0 : Int32)) cx dX8_needsAt_53 (by decide +kernel) ?_
        exact k_weak h (lsLe.keep (lsLe.keep (lsLe.keep (lsLe.keep (lsLe.keep lsLe.nil)))))
      · replace h := h.2 hc
        refine k_aload_n cx dX8_needsAt_39 rfl rfl ?_
        refine k_get (o := some p_MO_at) (v := .ref p_MO_at) cx fl_X8_38 ob_MO rfl rfl dX8_needsAt_40 ?_
        refine k_iload_n cx dX8_needsAt_43 rfl rfl ?_
        obtain ⟨hi, h⟩ := h
        refine k_iald cx ar_MO_at hi dX8_needsAt_44 ?_
        refine k_iload_n cx dX8_needsAt_45 rfl rfl ?_
        refine k_icmp_ne (tgt := 53) cx dX8_needsAt_46 (by decide) (fun hc => ?_) (fun hc => ?_)
        · replace h := h.1 hc
          refine k_iconst (v := (0 : Int32)) cx dX8_needsAt_53 (by decide +kernel) ?_
          exact k_weak h (lsLe.keep (lsLe.keep (lsLe.keep (lsLe.keep (lsLe.keep lsLe.nil)))))
        · replace h := h.2 hc
          refine k_iconst (v := (1 : Int32)) cx dX8_needsAt_49 (by decide +kernel) ?_
          refine k_goto (tgt := 54) cx dX8_needsAt_50 (by decide) ?_
          exact k_weak h (lsLe.keep (lsLe.keep (lsLe.keep (lsLe.keep (lsLe.keep lsLe.nil)))))
set_option maxHeartbeats 2000000 in
theorem b_X8_needsAt_54  {g : GE} {f : FE} {q : Int32 → Mm → Prop} (cx : Cx g f cX8_needsAt 5 RX8 0 0 0 0) (hr : (f_M f).sig.returnType = (some .int)) (hl : (f_M f).locks = false) (hQ : f_Q f = MQ (f_b f) (QW g (qI q)) (f_a f) (f_s f) 0 0 (fun q => g.2.2.2 ≤ q))  {x1 : Int32} {x2 : Int32} {x3 : Int32} {y0 : Int32} {μ : Mm} (h : F_X8_needsAt_54  (KK_X8_needsAt_4 g f ) (KK_X8_needsAt_54 g f ) q x1 x2 x3 y0 μ) : KK_X8_needsAt_54 g f  x1 x2 x3 y0 μ := by
  unfold F_X8_needsAt_54 at h
  show KW g f 5 0 0 54 [some (.ref p_MO), some (.int x1), some (.int x2), some (.int x3), none] [.int y0] μ
  refine k_istore cx dX8_needsAt_54 (by decide) ?_
  refine k_iload_n cx dX8_needsAt_56 rfl rfl ?_
  refine k_iload cx dX8_needsAt_57 rfl ?_
  refine k_if_eq (tgt := 71) cx dX8_needsAt_59 (by decide) (fun hc => ?_) (fun hc => ?_)
  · replace h := h.1 hc
    refine k_iconst (v := (0 : Int32)) cx dX8_needsAt_71 (by decide +kernel) ?_
    refine k_iadd cx dX8_needsAt_72 ?_
    refine k_istore_n cx dX8_needsAt_73 rfl (by decide) ?_
    refine k_iinc (v := (x3 + (1 : Int32))) cx dX8_needsAt_74 rfl rfl (by decide) ?_
    refine k_goto (tgt := 4) cx dX8_needsAt_77 (by decide) ?_
    exact k_weak h (lsLe.keep (lsLe.keep (lsLe.keep (lsLe.keep (lsLe.drop lsLe.nil)))))
  · replace h := h.2 hc
    refine k_aload_n cx dX8_needsAt_62 rfl rfl ?_
    refine k_get (o := some p_MO_partNeed) (v := .ref p_MO_partNeed) cx fl_X8_32 ob_MO rfl rfl dX8_needsAt_63 ?_
    refine k_iload_n cx dX8_needsAt_66 rfl rfl ?_
    obtain ⟨hi, h⟩ := h
    refine k_iald cx ar_MO_partNeed hi dX8_needsAt_67 ?_
    refine k_goto (tgt := 72) cx dX8_needsAt_68 (by decide) ?_
    refine k_iadd cx dX8_needsAt_72 ?_
    refine k_istore_n cx dX8_needsAt_73 rfl (by decide) ?_
    refine k_iinc (v := (x3 + (1 : Int32))) cx dX8_needsAt_74 rfl rfl (by decide) ?_
    refine k_goto (tgt := 4) cx dX8_needsAt_77 (by decide) ?_
    exact k_weak h (lsLe.keep (lsLe.keep (lsLe.keep (lsLe.keep (lsLe.drop lsLe.nil)))))
set_option maxHeartbeats 2000000 in
theorem b_X8_needsAt_e  {g : GE} {f : FE} {q : Int32 → Mm → Prop} (cx : Cx g f cX8_needsAt 5 RX8 0 0 0 0) (hr : (f_M f).sig.returnType = (some .int)) (hl : (f_M f).locks = false) (hQ : f_Q f = MQ (f_b f) (QW g (qI q)) (f_a f) (f_s f) 0 0 (fun q => g.2.2.2 ≤ q))  {x1 : Int32} {μ : Mm} (h : F_X8_needsAt_e  (KK_X8_needsAt_4 g f ) (KK_X8_needsAt_54 g f ) q x1 μ) : KW g f 5 0 0 0 [some (.ref p_MO), some (.int x1), none, none, none] [] μ := by
  unfold F_X8_needsAt_e at h
  refine k_iconst (v := (0 : Int32)) cx dX8_needsAt_0 (by decide +kernel) ?_
  refine k_istore_n cx dX8_needsAt_1 rfl (by decide) ?_
  refine k_iconst (v := (0 : Int32)) cx dX8_needsAt_2 (by decide +kernel) ?_
  refine k_istore_n cx dX8_needsAt_3 rfl (by decide) ?_
  exact k_weak h (lsLe.keep (lsLe.keep (lsLe.keep (lsLe.keep (lsLe.keep lsLe.nil)))))
theorem m_X8_needsAt {g : GE} {l : Launch} {μ : Mm} {q : Int32 → Mm → Prop} {x1 : Int32}  (h : Wp_X8_needsAt  x1 μ q) : MW g l yX8_needsAt cX8_needsAt 5 (some .int) 0 0 [.ref p_MO, .int x1] μ (qI q) := by
  refine met_of (by decide) (Nat.le_of_ble_eq_true rfl) (by intro v hv; simp only [List.mem_cons, List.not_mem_nil, or_false] at hv; rcases hv with rfl | rfl <;> rfl) ?_
  intro f hfl cx hr hl hQ
  exact b_X8_needsAt_e  cx hr hl hQ (h (KK_X8_needsAt_4 g f ) (KK_X8_needsAt_54 g f ) (fun _ _ _ _ h => b_X8_needsAt_4  cx hr hl hQ h) (fun _ _ _ _ _ h => b_X8_needsAt_54  cx hr hl hQ h))
theorem dX8_shared_0 : decode cX8_shared 0 = .ok (.iconst 0, 1) := by decide +kernel
theorem dX8_shared_1 : decode cX8_shared 1 = .ok (.istore 4, 2) := by decide +kernel
theorem dX8_shared_3 : decode cX8_shared 3 = .ok (.iconst 0, 1) := by decide +kernel
theorem dX8_shared_4 : decode cX8_shared 4 = .ok (.istore 5, 2) := by decide +kernel
theorem dX8_shared_6 : decode cX8_shared 6 = .ok (.iload 5, 2) := by decide +kernel
theorem dX8_shared_8 : decode cX8_shared 8 = .ok (.iconst 3, 1) := by decide +kernel
theorem dX8_shared_9 : decode cX8_shared 9 = .ok (.iload_n 3, 1) := by decide +kernel
theorem dX8_shared_10 : decode cX8_shared 10 = .ok (.imul, 1) := by decide +kernel
theorem dX8_shared_11 : decode cX8_shared 11 = .ok (.if_icmp .ge 93, 3) := by decide +kernel
theorem dX8_shared_14 : decode cX8_shared 14 = .ok (.aload_n 0, 1) := by decide +kernel
theorem dX8_shared_15 : decode cX8_shared 15 = .ok (.getfield 62, 3) := by decide +kernel
theorem dX8_shared_18 : decode cX8_shared 18 = .ok (.iload 5, 2) := by decide +kernel
theorem dX8_shared_20 : decode cX8_shared 20 = .ok (.iconst 3, 1) := by decide +kernel
theorem dX8_shared_21 : decode cX8_shared 21 = .ok (.idiv, 1) := by decide +kernel
theorem dX8_shared_22 : decode cX8_shared 22 = .ok (.baload, 1) := by decide +kernel
theorem dX8_shared_23 : decode cX8_shared 23 = .ok (.ifCond .ne 23, 3) := by decide +kernel
theorem dX8_shared_26 : decode cX8_shared 26 = .ok (.iload 5, 2) := by decide +kernel
theorem dX8_shared_28 : decode cX8_shared 28 = .ok (.iconst 3, 1) := by decide +kernel
theorem dX8_shared_29 : decode cX8_shared 29 = .ok (.irem, 1) := by decide +kernel
theorem dX8_shared_30 : decode cX8_shared 30 = .ok (.aload_n 0, 1) := by decide +kernel
theorem dX8_shared_31 : decode cX8_shared 31 = .ok (.getfield 29, 3) := by decide +kernel
theorem dX8_shared_34 : decode cX8_shared 34 = .ok (.iload 5, 2) := by decide +kernel
theorem dX8_shared_36 : decode cX8_shared 36 = .ok (.iconst 3, 1) := by decide +kernel
theorem dX8_shared_37 : decode cX8_shared 37 = .ok (.idiv, 1) := by decide +kernel
theorem dX8_shared_38 : decode cX8_shared 38 = .ok (.iaload, 1) := by decide +kernel
theorem dX8_shared_39 : decode cX8_shared 39 = .ok (.if_icmp .ge 7, 3) := by decide +kernel
theorem dX8_shared_42 : decode cX8_shared 42 = .ok (.iconst 1, 1) := by decide +kernel
theorem dX8_shared_43 : decode cX8_shared 43 = .ok (.goto 4, 3) := by decide +kernel
theorem dX8_shared_46 : decode cX8_shared 46 = .ok (.iconst 0, 1) := by decide +kernel
theorem dX8_shared_47 : decode cX8_shared 47 = .ok (.istore 6, 2) := by decide +kernel
theorem dX8_shared_49 : decode cX8_shared 49 = .ok (.iload 4, 2) := by decide +kernel
theorem dX8_shared_51 : decode cX8_shared 51 = .ok (.iload 6, 2) := by decide +kernel
theorem dX8_shared_53 : decode cX8_shared 53 = .ok (.ifCond .eq 41, 3) := by decide +kernel
theorem dX8_shared_56 : decode cX8_shared 56 = .ok (.aload_n 0, 1) := by decide +kernel
theorem dX8_shared_57 : decode cX8_shared 57 = .ok (.getfield 53, 3) := by decide +kernel
theorem dX8_shared_60 : decode cX8_shared 60 = .ok (.iload 5, 2) := by decide +kernel
theorem dX8_shared_62 : decode cX8_shared 62 = .ok (.iaload, 1) := by decide +kernel
theorem dX8_shared_63 : decode cX8_shared 63 = .ok (.iload_n 2, 1) := by decide +kernel
theorem dX8_shared_64 : decode cX8_shared 64 = .ok (.invokestatic 136, 3) := by decide +kernel
theorem dX8_shared_67 : decode cX8_shared 67 = .ok (.ifCond .eq 27, 3) := by decide +kernel
theorem dX8_shared_70 : decode cX8_shared 70 = .ok (.aload_n 0, 1) := by decide +kernel
theorem dX8_shared_71 : decode cX8_shared 71 = .ok (.getfield 59, 3) := by decide +kernel
theorem dX8_shared_74 : decode cX8_shared 74 = .ok (.iload 5, 2) := by decide +kernel
theorem dX8_shared_76 : decode cX8_shared 76 = .ok (.iaload, 1) := by decide +kernel
theorem dX8_shared_77 : decode cX8_shared 77 = .ok (.iload_n 1, 1) := by decide +kernel
theorem dX8_shared_78 : decode cX8_shared 78 = .ok (.invokestatic 136, 3) := by decide +kernel
theorem dX8_shared_81 : decode cX8_shared 81 = .ok (.ifCond .eq 13, 3) := by decide +kernel
theorem dX8_shared_84 : decode cX8_shared 84 = .ok (.aload_n 0, 1) := by decide +kernel
theorem dX8_shared_85 : decode cX8_shared 85 = .ok (.getfield 47, 3) := by decide +kernel
theorem dX8_shared_88 : decode cX8_shared 88 = .ok (.iload 5, 2) := by decide +kernel
theorem dX8_shared_90 : decode cX8_shared 90 = .ok (.iaload, 1) := by decide +kernel
theorem dX8_shared_91 : decode cX8_shared 91 = .ok (.goto 4, 3) := by decide +kernel
theorem dX8_shared_94 : decode cX8_shared 94 = .ok (.iconst 0, 1) := by decide +kernel
theorem dX8_shared_95 : decode cX8_shared 95 = .ok (.iadd, 1) := by decide +kernel
theorem dX8_shared_96 : decode cX8_shared 96 = .ok (.istore 4, 2) := by decide +kernel
theorem dX8_shared_98 : decode cX8_shared 98 = .ok (.iinc 5 1, 3) := by decide +kernel
theorem dX8_shared_101 : decode cX8_shared 101 = .ok (.goto (-95), 3) := by decide +kernel
theorem dX8_shared_104 : decode cX8_shared 104 = .ok (.iload 4, 2) := by decide +kernel
theorem dX8_shared_106 : decode cX8_shared 106 = .ok (.ireturn, 1) := by decide +kernel
def F_X8_shared_6  (K6 : Int32 → Int32 → Int32 → Int32 → Int32 → Mm → Prop) (K47 : Int32 → Int32 → Int32 → Int32 → Int32 → Int32 → Mm → Prop) (q : Int32 → Mm → Prop) (x1 : Int32) (x2 : Int32) (x3 : Int32) (x4 : Int32) (x5 : Int32) (μ : Mm) : Prop :=
  ((((3 : Int32) * x3) ≤ x5 → q x4 μ) ∧ (¬ (((3 : Int32) * x3) ≤ x5) → vp_in (x5 / (3 : Int32)) 13 ∧ ((¬ ((μ p_MO_hasEnded ((x5 / (3 : Int32))).toNatClampNeg) = 0) → K47 x1 x2 x3 x4 x5 (0 : Int32) μ) ∧ ((μ p_MO_hasEnded ((x5 / (3 : Int32))).toNatClampNeg) = 0 → vp_in (x5 / (3 : Int32)) 13 ∧ (((μ p_MO_lines ((x5 / (3 : Int32))).toNatClampNeg) ≤ (x5 - x5 / (3 : Int32) * (3 : Int32)) → K47 x1 x2 x3 x4 x5 (0 : Int32) μ) ∧ (¬ ((μ p_MO_lines ((x5 / (3 : Int32))).toNatClampNeg) ≤ (x5 - x5 / (3 : Int32) * (3 : Int32))) → K47 x1 x2 x3 x4 x5 (1 : Int32) μ))))))
def F_X8_shared_47  (K6 : Int32 → Int32 → Int32 → Int32 → Int32 → Mm → Prop) (K47 : Int32 → Int32 → Int32 → Int32 → Int32 → Int32 → Mm → Prop) (q : Int32 → Mm → Prop) (x1 : Int32) (x2 : Int32) (x3 : Int32) (x4 : Int32) (x5 : Int32) (y0 : Int32) (μ : Mm) : Prop :=
  ((y0 = 0 → K6 x1 x2 x3 (x4 + (0 : Int32)) (x5 + (1 : Int32)) μ) ∧ (¬ (y0 = 0) → vp_in x5 39 ∧ Wp_X8_has (μ p_MO_way (x5).toNatClampNeg) x2 μ (fun b2 μ1 => (((bI b2) = 0 → K6 x1 x2 x3 (x4 + (0 : Int32)) (x5 + (1 : Int32)) μ1) ∧ (¬ ((bI b2) = 0) → vp_in x5 39 ∧ Wp_X8_has (μ1 p_MO_second (x5).toNatClampNeg) x1 μ1 (fun b4 μ3 => (((bI b4) = 0 → K6 x1 x2 x3 (x4 + (0 : Int32)) (x5 + (1 : Int32)) μ3) ∧ (¬ ((bI b4) = 0) → vp_in x5 39 ∧ K6 x1 x2 x3 (x4 + (μ3 p_MO_lineNeed (x5).toNatClampNeg)) (x5 + (1 : Int32)) μ3))))))))
def F_X8_shared_e  (K6 : Int32 → Int32 → Int32 → Int32 → Int32 → Mm → Prop) (K47 : Int32 → Int32 → Int32 → Int32 → Int32 → Int32 → Mm → Prop) (q : Int32 → Mm → Prop) (x1 : Int32) (x2 : Int32) (x3 : Int32) (μ : Mm) : Prop :=
  K6 x1 x2 x3 (0 : Int32) (0 : Int32) μ
def Wp_X8_shared  (x1 : Int32) (x2 : Int32) (x3 : Int32) (μ : Mm) (q : Int32 → Mm → Prop) : Prop := ∀ (K6 : Int32 → Int32 → Int32 → Int32 → Int32 → Mm → Prop) (K47 : Int32 → Int32 → Int32 → Int32 → Int32 → Int32 → Mm → Prop), (∀ (x1 : Int32) (x2 : Int32) (x3 : Int32) (x4 : Int32) (x5 : Int32) (μ : Mm), F_X8_shared_6  K6 K47 q x1 x2 x3 x4 x5 μ → K6 x1 x2 x3 x4 x5 μ) → (∀ (x1 : Int32) (x2 : Int32) (x3 : Int32) (x4 : Int32) (x5 : Int32) (y0 : Int32) (μ : Mm), F_X8_shared_47  K6 K47 q x1 x2 x3 x4 x5 y0 μ → K47 x1 x2 x3 x4 x5 y0 μ) → F_X8_shared_e  K6 K47 q x1 x2 x3 μ
abbrev KK_X8_shared_6 (g : GE) (f : FE)  : Int32 → Int32 → Int32 → Int32 → Int32 → Mm → Prop := fun x1 x2 x3 x4 x5 μ => KW g f 7 0 0 6 [some (.ref p_MO), some (.int x1), some (.int x2), some (.int x3), some (.int x4), some (.int x5), none] [] μ
abbrev KK_X8_shared_47 (g : GE) (f : FE)  : Int32 → Int32 → Int32 → Int32 → Int32 → Int32 → Mm → Prop := fun x1 x2 x3 x4 x5 y0 μ => KW g f 7 0 0 47 [some (.ref p_MO), some (.int x1), some (.int x2), some (.int x3), some (.int x4), some (.int x5), none] [.int y0] μ
set_option maxHeartbeats 2000000 in
theorem b_X8_shared_6  {g : GE} {f : FE} {q : Int32 → Mm → Prop} (cx : Cx g f cX8_shared 7 RX8 1 21 0 0) (hr : (f_M f).sig.returnType = (some .int)) (hl : (f_M f).locks = false) (hQ : f_Q f = MQ (f_b f) (QW g (qI q)) (f_a f) (f_s f) 0 0 (fun q => g.2.2.2 ≤ q))  {x1 : Int32} {x2 : Int32} {x3 : Int32} {x4 : Int32} {x5 : Int32} {μ : Mm} (h : F_X8_shared_6  (KK_X8_shared_6 g f ) (KK_X8_shared_47 g f ) q x1 x2 x3 x4 x5 μ) : KK_X8_shared_6 g f  x1 x2 x3 x4 x5 μ := by
  unfold F_X8_shared_6 at h
  show KW g f 7 0 0 6 [some (.ref p_MO), some (.int x1), some (.int x2), some (.int x3), some (.int x4), some (.int x5), none] [] μ
  refine k_iload cx dX8_shared_6 rfl ?_
  refine k_iconst (v := (3 : Int32)) cx dX8_shared_8 (by decide +kernel) ?_
  refine k_iload_n cx dX8_shared_9 rfl rfl ?_
  refine k_imul cx dX8_shared_10 ?_
  refine k_icmp_ge (tgt := 104) cx dX8_shared_11 (by decide) (fun hc => ?_) (fun hc => ?_)
  · replace h := h.1 hc
    refine k_iload cx dX8_shared_104 rfl ?_
    exact k_ret_I cx hr hl hQ dX8_shared_106 h
  · replace h := h.2 hc
    refine k_aload_n cx dX8_shared_14 rfl rfl ?_
    refine k_get (o := some p_MO_hasEnded) (v := .ref p_MO_hasEnded) cx fl_X8_62 ob_MO rfl rfl dX8_shared_15 ?_
    refine k_iload cx dX8_shared_18 rfl ?_
    refine k_iconst (v := (3 : Int32)) cx dX8_shared_20 (by decide +kernel) ?_
    refine k_idiv cx dX8_shared_21 (by decide) ?_
    obtain ⟨hi, h⟩ := h
    refine k_zald cx ar_MO_hasEnded hi dX8_shared_22 ?_
    refine k_if_ne (tgt := 46) cx dX8_shared_23 (by decide) (fun hc => ?_) (fun hc => ?_)
    · replace h := h.1 hc
      refine k_iconst (v := (0 : Int32)) cx dX8_shared_46 (by decide +kernel) ?_
      exact k_weak h (lsLe.keep (lsLe.keep (lsLe.keep (lsLe.keep (lsLe.keep (lsLe.keep (lsLe.keep lsLe.nil)))))))
    · replace h := h.2 hc
      refine k_iload cx dX8_shared_26 rfl ?_
      refine k_iconst (v := (3 : Int32)) cx dX8_shared_28 (by decide +kernel) ?_
      refine k_irem cx dX8_shared_29 (by decide) ?_
      refine k_aload_n cx dX8_shared_30 rfl rfl ?_
      refine k_get (o := some p_MO_lines) (v := .ref p_MO_lines) cx fl_X8_29 ob_MO rfl rfl dX8_shared_31 ?_
      refine k_iload cx dX8_shared_34 rfl ?_
      refine k_iconst (v := (3 : Int32)) cx dX8_shared_36 (by decide +kernel) ?_
      refine k_idiv cx dX8_shared_37 (by decide) ?_
      obtain ⟨hi, h⟩ := h
      refine k_iald cx ar_MO_lines hi dX8_shared_38 ?_
      refine k_icmp_ge (tgt := 46) cx dX8_shared_39 (by decide) (fun hc => ?_) (fun hc => ?_)
      · replace h := h.1 hc
        refine k_iconst (v := (0 : Int32)) cx dX8_shared_46 (by decide +kernel) ?_
        exact k_weak h (lsLe.keep (lsLe.keep (lsLe.keep (lsLe.keep (lsLe.keep (lsLe.keep (lsLe.keep lsLe.nil)))))))
      · replace h := h.2 hc
        refine k_iconst (v := (1 : Int32)) cx dX8_shared_42 (by decide +kernel) ?_
        refine k_goto (tgt := 47) cx dX8_shared_43 (by decide) ?_
        exact k_weak h (lsLe.keep (lsLe.keep (lsLe.keep (lsLe.keep (lsLe.keep (lsLe.keep (lsLe.keep lsLe.nil)))))))
set_option maxHeartbeats 2000000 in
theorem b_X8_shared_47  {g : GE} {f : FE} {q : Int32 → Mm → Prop} (cx : Cx g f cX8_shared 7 RX8 1 21 0 0) (hr : (f_M f).sig.returnType = (some .int)) (hl : (f_M f).locks = false) (hQ : f_Q f = MQ (f_b f) (QW g (qI q)) (f_a f) (f_s f) 0 0 (fun q => g.2.2.2 ≤ q))  {x1 : Int32} {x2 : Int32} {x3 : Int32} {x4 : Int32} {x5 : Int32} {y0 : Int32} {μ : Mm} (h : F_X8_shared_47  (KK_X8_shared_6 g f ) (KK_X8_shared_47 g f ) q x1 x2 x3 x4 x5 y0 μ) : KK_X8_shared_47 g f  x1 x2 x3 x4 x5 y0 μ := by
  unfold F_X8_shared_47 at h
  show KW g f 7 0 0 47 [some (.ref p_MO), some (.int x1), some (.int x2), some (.int x3), some (.int x4), some (.int x5), none] [.int y0] μ
  refine k_istore cx dX8_shared_47 (by decide) ?_
  refine k_iload cx dX8_shared_49 rfl ?_
  refine k_iload cx dX8_shared_51 rfl ?_
  refine k_if_eq (tgt := 94) cx dX8_shared_53 (by decide) (fun hc => ?_) (fun hc => ?_)
  · replace h := h.1 hc
    refine k_iconst (v := (0 : Int32)) cx dX8_shared_94 (by decide +kernel) ?_
    refine k_iadd cx dX8_shared_95 ?_
    refine k_istore cx dX8_shared_96 (by decide) ?_
    refine k_iinc (v := (x5 + (1 : Int32))) cx dX8_shared_98 rfl rfl (by decide) ?_
    refine k_goto (tgt := 6) cx dX8_shared_101 (by decide) ?_
    exact k_weak h (lsLe.keep (lsLe.keep (lsLe.keep (lsLe.keep (lsLe.keep (lsLe.keep (lsLe.drop lsLe.nil)))))))
  · replace h := h.2 hc
    refine k_aload_n cx dX8_shared_56 rfl rfl ?_
    refine k_get (o := some p_MO_way) (v := .ref p_MO_way) cx fl_X8_53 ob_MO rfl rfl dX8_shared_57 ?_
    refine k_iload cx dX8_shared_60 rfl ?_
    obtain ⟨hi, h⟩ := h
    refine k_iald cx ar_MO_way hi dX8_shared_62 ?_
    refine k_iload_n cx dX8_shared_63 rfl rfl ?_
    refine k_callS (As := [.int (μ p_MO_way (x5).toNatClampNeg), .int x2]) (rest := [.int x4]) cx (m_X8_has h) cv_X8_136 rfl rfl (Nat.le_of_ble_eq_true rfl) ⟨Nat.le_of_ble_eq_true rfl, Nat.le_of_ble_eq_true rfl⟩ dX8_shared_64 (fun v μ1 hq => ?_)
    obtain ⟨b2, rfl, h⟩ := hq
    refine k_if_eq (tgt := 94) cx dX8_shared_67 (by decide) (fun hc => ?_) (fun hc => ?_)
    · replace h := h.1 hc
      refine k_iconst (v := (0 : Int32)) cx dX8_shared_94 (by decide +kernel) ?_
      refine k_iadd cx dX8_shared_95 ?_
      refine k_istore cx dX8_shared_96 (by decide) ?_
      refine k_iinc (v := (x5 + (1 : Int32))) cx dX8_shared_98 rfl rfl (by decide) ?_
      refine k_goto (tgt := 6) cx dX8_shared_101 (by decide) ?_
      exact k_weak h (lsLe.keep (lsLe.keep (lsLe.keep (lsLe.keep (lsLe.keep (lsLe.keep (lsLe.drop lsLe.nil)))))))
    · replace h := h.2 hc
      refine k_aload_n cx dX8_shared_70 rfl rfl ?_
      refine k_get (o := some p_MO_second) (v := .ref p_MO_second) cx fl_X8_59 ob_MO rfl rfl dX8_shared_71 ?_
      refine k_iload cx dX8_shared_74 rfl ?_
      obtain ⟨hi, h⟩ := h
      refine k_iald cx ar_MO_second hi dX8_shared_76 ?_
      refine k_iload_n cx dX8_shared_77 rfl rfl ?_
      refine k_callS (As := [.int (μ1 p_MO_second (x5).toNatClampNeg), .int x1]) (rest := [.int x4]) cx (m_X8_has h) cv_X8_136 rfl rfl (Nat.le_of_ble_eq_true rfl) ⟨Nat.le_of_ble_eq_true rfl, Nat.le_of_ble_eq_true rfl⟩ dX8_shared_78 (fun v μ3 hq => ?_)
      obtain ⟨b4, rfl, h⟩ := hq
      refine k_if_eq (tgt := 94) cx dX8_shared_81 (by decide) (fun hc => ?_) (fun hc => ?_)
      · replace h := h.1 hc
        refine k_iconst (v := (0 : Int32)) cx dX8_shared_94 (by decide +kernel) ?_
        refine k_iadd cx dX8_shared_95 ?_
        refine k_istore cx dX8_shared_96 (by decide) ?_
        refine k_iinc (v := (x5 + (1 : Int32))) cx dX8_shared_98 rfl rfl (by decide) ?_
        refine k_goto (tgt := 6) cx dX8_shared_101 (by decide) ?_
        exact k_weak h (lsLe.keep (lsLe.keep (lsLe.keep (lsLe.keep (lsLe.keep (lsLe.keep (lsLe.drop lsLe.nil)))))))
      · replace h := h.2 hc
        refine k_aload_n cx dX8_shared_84 rfl rfl ?_
        refine k_get (o := some p_MO_lineNeed) (v := .ref p_MO_lineNeed) cx fl_X8_47 ob_MO rfl rfl dX8_shared_85 ?_
        refine k_iload cx dX8_shared_88 rfl ?_
        obtain ⟨hi, h⟩ := h
        refine k_iald cx ar_MO_lineNeed hi dX8_shared_90 ?_
        refine k_goto (tgt := 95) cx dX8_shared_91 (by decide) ?_
        refine k_iadd cx dX8_shared_95 ?_
        refine k_istore cx dX8_shared_96 (by decide) ?_
        refine k_iinc (v := (x5 + (1 : Int32))) cx dX8_shared_98 rfl rfl (by decide) ?_
        refine k_goto (tgt := 6) cx dX8_shared_101 (by decide) ?_
        exact k_weak h (lsLe.keep (lsLe.keep (lsLe.keep (lsLe.keep (lsLe.keep (lsLe.keep (lsLe.drop lsLe.nil)))))))
set_option maxHeartbeats 2000000 in
theorem b_X8_shared_e  {g : GE} {f : FE} {q : Int32 → Mm → Prop} (cx : Cx g f cX8_shared 7 RX8 1 21 0 0) (hr : (f_M f).sig.returnType = (some .int)) (hl : (f_M f).locks = false) (hQ : f_Q f = MQ (f_b f) (QW g (qI q)) (f_a f) (f_s f) 0 0 (fun q => g.2.2.2 ≤ q))  {x1 : Int32} {x2 : Int32} {x3 : Int32} {μ : Mm} (h : F_X8_shared_e  (KK_X8_shared_6 g f ) (KK_X8_shared_47 g f ) q x1 x2 x3 μ) : KW g f 7 0 0 0 [some (.ref p_MO), some (.int x1), some (.int x2), some (.int x3), none, none, none] [] μ := by
  unfold F_X8_shared_e at h
  refine k_iconst (v := (0 : Int32)) cx dX8_shared_0 (by decide +kernel) ?_
  refine k_istore cx dX8_shared_1 (by decide) ?_
  refine k_iconst (v := (0 : Int32)) cx dX8_shared_3 (by decide +kernel) ?_
  refine k_istore cx dX8_shared_4 (by decide) ?_
  exact k_weak h (lsLe.keep (lsLe.keep (lsLe.keep (lsLe.keep (lsLe.keep (lsLe.keep (lsLe.keep lsLe.nil)))))))
theorem m_X8_shared {g : GE} {l : Launch} {μ : Mm} {q : Int32 → Mm → Prop} {x1 : Int32} {x2 : Int32} {x3 : Int32}  (h : Wp_X8_shared  x1 x2 x3 μ q) : MW g l yX8_shared cX8_shared 7 (some .int) 1 21 [.ref p_MO, .int x1, .int x2, .int x3] μ (qI q) := by
  refine met_of (by decide) (Nat.le_of_ble_eq_true rfl) (by intro v hv; simp only [List.mem_cons, List.not_mem_nil, or_false] at hv; rcases hv with rfl | rfl | rfl | rfl <;> rfl) ?_
  intro f hfl cx hr hl hQ
  exact b_X8_shared_e  cx hr hl hQ (h (KK_X8_shared_6 g f ) (KK_X8_shared_47 g f ) (fun _ _ _ _ _ _ h => b_X8_shared_6  cx hr hl hQ h) (fun _ _ _ _ _ _ _ h => b_X8_shared_47  cx hr hl hQ h))
theorem dX8_reserved_0 : decode cX8_reserved 0 = .ok (.iconst 0, 1) := by decide +kernel
theorem dX8_reserved_1 : decode cX8_reserved 1 = .ok (.istore_n 3, 1) := by decide +kernel
theorem dX8_reserved_2 : decode cX8_reserved 2 = .ok (.iconst 0, 1) := by decide +kernel
theorem dX8_reserved_3 : decode cX8_reserved 3 = .ok (.istore 4, 2) := by decide +kernel
theorem dX8_reserved_5 : decode cX8_reserved 5 = .ok (.iload 4, 2) := by decide +kernel
theorem dX8_reserved_7 : decode cX8_reserved 7 = .ok (.aload_n 0, 1) := by decide +kernel
theorem dX8_reserved_8 : decode cX8_reserved 8 = .ok (.getfield 115, 3) := by decide +kernel
theorem dX8_reserved_11 : decode cX8_reserved 11 = .ok (.if_icmp .ge 42, 3) := by decide +kernel
theorem dX8_reserved_14 : decode cX8_reserved 14 = .ok (.iload 4, 2) := by decide +kernel
theorem dX8_reserved_16 : decode cX8_reserved 16 = .ok (.iload_n 1, 1) := by decide +kernel
theorem dX8_reserved_17 : decode cX8_reserved 17 = .ok (.if_icmp .ne 7, 3) := by decide +kernel
theorem dX8_reserved_20 : decode cX8_reserved 20 = .ok (.iconst 0, 1) := by decide +kernel
theorem dX8_reserved_21 : decode cX8_reserved 21 = .ok (.goto 11, 3) := by decide +kernel
theorem dX8_reserved_24 : decode cX8_reserved 24 = .ok (.aload_n 0, 1) := by decide +kernel
theorem dX8_reserved_25 : decode cX8_reserved 25 = .ok (.iload_n 1, 1) := by decide +kernel
theorem dX8_reserved_26 : decode cX8_reserved 26 = .ok (.iload 4, 2) := by decide +kernel
theorem dX8_reserved_28 : decode cX8_reserved 28 = .ok (.iload_n 2, 1) := by decide +kernel
theorem dX8_reserved_29 : decode cX8_reserved 29 = .ok (.invokevirtual 139, 3) := by decide +kernel
theorem dX8_reserved_32 : decode cX8_reserved 32 = .ok (.istore 5, 2) := by decide +kernel
theorem dX8_reserved_34 : decode cX8_reserved 34 = .ok (.iload 5, 2) := by decide +kernel
theorem dX8_reserved_36 : decode cX8_reserved 36 = .ok (.iload_n 3, 1) := by decide +kernel
theorem dX8_reserved_37 : decode cX8_reserved 37 = .ok (.if_icmp .le 8, 3) := by decide +kernel
theorem dX8_reserved_40 : decode cX8_reserved 40 = .ok (.iload 5, 2) := by decide +kernel
theorem dX8_reserved_42 : decode cX8_reserved 42 = .ok (.goto 4, 3) := by decide +kernel
theorem dX8_reserved_45 : decode cX8_reserved 45 = .ok (.iload_n 3, 1) := by decide +kernel
theorem dX8_reserved_46 : decode cX8_reserved 46 = .ok (.istore_n 3, 1) := by decide +kernel
theorem dX8_reserved_47 : decode cX8_reserved 47 = .ok (.iinc 4 1, 3) := by decide +kernel
theorem dX8_reserved_50 : decode cX8_reserved 50 = .ok (.goto (-45), 3) := by decide +kernel
theorem dX8_reserved_53 : decode cX8_reserved 53 = .ok (.iload_n 3, 1) := by decide +kernel
theorem dX8_reserved_54 : decode cX8_reserved 54 = .ok (.ireturn, 1) := by decide +kernel
def F_X8_reserved_5  (K5 : Int32 → Int32 → Int32 → Int32 → Mm → Prop) (K32 : Int32 → Int32 → Int32 → Int32 → Int32 → Mm → Prop) (q : Int32 → Mm → Prop) (x1 : Int32) (x2 : Int32) (x3 : Int32) (x4 : Int32) (μ : Mm) : Prop :=
  (((μ p_MO 3) ≤ x4 → q x3 μ) ∧ (¬ ((μ p_MO 3) ≤ x4) → ((¬ (x4 = x1) → Wp_X8_shared x1 x4 x2 μ (fun z2 μ1 => K32 x1 x2 x3 x4 z2 μ1)) ∧ (x4 = x1 → K32 x1 x2 x3 x4 (0 : Int32) μ))))
def F_X8_reserved_32  (K5 : Int32 → Int32 → Int32 → Int32 → Mm → Prop) (K32 : Int32 → Int32 → Int32 → Int32 → Int32 → Mm → Prop) (q : Int32 → Mm → Prop) (x1 : Int32) (x2 : Int32) (x3 : Int32) (x4 : Int32) (y0 : Int32) (μ : Mm) : Prop :=
  ((y0 ≤ x3 → K5 x1 x2 x3 (x4 + (1 : Int32)) μ) ∧ (¬ (y0 ≤ x3) → K5 x1 x2 y0 (x4 + (1 : Int32)) μ))
def F_X8_reserved_e  (K5 : Int32 → Int32 → Int32 → Int32 → Mm → Prop) (K32 : Int32 → Int32 → Int32 → Int32 → Int32 → Mm → Prop) (q : Int32 → Mm → Prop) (x1 : Int32) (x2 : Int32) (μ : Mm) : Prop :=
  K5 x1 x2 (0 : Int32) (0 : Int32) μ
def Wp_X8_reserved  (x1 : Int32) (x2 : Int32) (μ : Mm) (q : Int32 → Mm → Prop) : Prop := ∀ (K5 : Int32 → Int32 → Int32 → Int32 → Mm → Prop) (K32 : Int32 → Int32 → Int32 → Int32 → Int32 → Mm → Prop), (∀ (x1 : Int32) (x2 : Int32) (x3 : Int32) (x4 : Int32) (μ : Mm), F_X8_reserved_5  K5 K32 q x1 x2 x3 x4 μ → K5 x1 x2 x3 x4 μ) → (∀ (x1 : Int32) (x2 : Int32) (x3 : Int32) (x4 : Int32) (y0 : Int32) (μ : Mm), F_X8_reserved_32  K5 K32 q x1 x2 x3 x4 y0 μ → K32 x1 x2 x3 x4 y0 μ) → F_X8_reserved_e  K5 K32 q x1 x2 μ
abbrev KK_X8_reserved_5 (g : GE) (f : FE)  : Int32 → Int32 → Int32 → Int32 → Mm → Prop := fun x1 x2 x3 x4 μ => KW g f 6 0 0 5 [some (.ref p_MO), some (.int x1), some (.int x2), some (.int x3), some (.int x4), none] [] μ
abbrev KK_X8_reserved_32 (g : GE) (f : FE)  : Int32 → Int32 → Int32 → Int32 → Int32 → Mm → Prop := fun x1 x2 x3 x4 y0 μ => KW g f 6 0 0 32 [some (.ref p_MO), some (.int x1), some (.int x2), some (.int x3), some (.int x4), none] [.int y0] μ
set_option maxHeartbeats 2000000 in
theorem b_X8_reserved_5  {g : GE} {f : FE} {q : Int32 → Mm → Prop} (cx : Cx g f cX8_reserved 6 RX8 2 47 0 0) (hr : (f_M f).sig.returnType = (some .int)) (hl : (f_M f).locks = false) (hQ : f_Q f = MQ (f_b f) (QW g (qI q)) (f_a f) (f_s f) 0 0 (fun q => g.2.2.2 ≤ q))  {x1 : Int32} {x2 : Int32} {x3 : Int32} {x4 : Int32} {μ : Mm} (h : F_X8_reserved_5  (KK_X8_reserved_5 g f ) (KK_X8_reserved_32 g f ) q x1 x2 x3 x4 μ) : KK_X8_reserved_5 g f  x1 x2 x3 x4 μ := by
  unfold F_X8_reserved_5 at h
  show KW g f 6 0 0 5 [some (.ref p_MO), some (.int x1), some (.int x2), some (.int x3), some (.int x4), none] [] μ
  refine k_iload cx dX8_reserved_5 rfl ?_
  refine k_aload_n cx dX8_reserved_7 rfl rfl ?_
  refine k_get (o := none) (v := .int (μ p_MO 3)) cx fl_X8_115 ob_MO rfl rfl dX8_reserved_8 ?_
  refine k_icmp_ge (tgt := 53) cx dX8_reserved_11 (by decide) (fun hc => ?_) (fun hc => ?_)
  · replace h := h.1 hc
    refine k_iload_n cx dX8_reserved_53 rfl rfl ?_
    exact k_ret_I cx hr hl hQ dX8_reserved_54 h
  · replace h := h.2 hc
    refine k_iload cx dX8_reserved_14 rfl ?_
    refine k_iload_n cx dX8_reserved_16 rfl rfl ?_
    refine k_icmp_ne (tgt := 24) cx dX8_reserved_17 (by decide) (fun hc => ?_) (fun hc => ?_)
    · replace h := h.1 hc
      refine k_aload_n cx dX8_reserved_24 rfl rfl ?_
      refine k_iload_n cx dX8_reserved_25 rfl rfl ?_
      refine k_iload cx dX8_reserved_26 rfl ?_
      refine k_iload_n cx dX8_reserved_28 rfl rfl ?_
      refine k_callV (As := [.int x1, .int x4, .int x2]) (rest := []) cx (m_X8_shared h) cv_X8_139 ob_MO rfl rfl rfl rfl (Nat.le_of_ble_eq_true rfl) ⟨Nat.le_of_ble_eq_true rfl, Nat.le_of_ble_eq_true rfl⟩ dX8_reserved_29 (fun v μ1 hq => ?_)
      obtain ⟨z2, rfl, h⟩ := hq
      exact k_weak h (lsLe.keep (lsLe.keep (lsLe.keep (lsLe.keep (lsLe.keep (lsLe.keep lsLe.nil))))))
    · replace h := h.2 hc
      refine k_iconst (v := (0 : Int32)) cx dX8_reserved_20 (by decide +kernel) ?_
      refine k_goto (tgt := 32) cx dX8_reserved_21 (by decide) ?_
      exact k_weak h (lsLe.keep (lsLe.keep (lsLe.keep (lsLe.keep (lsLe.keep (lsLe.keep lsLe.nil))))))
set_option maxHeartbeats 2000000 in
theorem b_X8_reserved_32  {g : GE} {f : FE} {q : Int32 → Mm → Prop} (cx : Cx g f cX8_reserved 6 RX8 2 47 0 0) (hr : (f_M f).sig.returnType = (some .int)) (hl : (f_M f).locks = false) (hQ : f_Q f = MQ (f_b f) (QW g (qI q)) (f_a f) (f_s f) 0 0 (fun q => g.2.2.2 ≤ q))  {x1 : Int32} {x2 : Int32} {x3 : Int32} {x4 : Int32} {y0 : Int32} {μ : Mm} (h : F_X8_reserved_32  (KK_X8_reserved_5 g f ) (KK_X8_reserved_32 g f ) q x1 x2 x3 x4 y0 μ) : KK_X8_reserved_32 g f  x1 x2 x3 x4 y0 μ := by
  unfold F_X8_reserved_32 at h
  show KW g f 6 0 0 32 [some (.ref p_MO), some (.int x1), some (.int x2), some (.int x3), some (.int x4), none] [.int y0] μ
  refine k_istore cx dX8_reserved_32 (by decide) ?_
  refine k_iload cx dX8_reserved_34 rfl ?_
  refine k_iload_n cx dX8_reserved_36 rfl rfl ?_
  refine k_icmp_le (tgt := 45) cx dX8_reserved_37 (by decide) (fun hc => ?_) (fun hc => ?_)
  · replace h := h.1 hc
    refine k_iload_n cx dX8_reserved_45 rfl rfl ?_
    refine k_istore_n cx dX8_reserved_46 rfl (by decide) ?_
    refine k_iinc (v := (x4 + (1 : Int32))) cx dX8_reserved_47 rfl rfl (by decide) ?_
    refine k_goto (tgt := 5) cx dX8_reserved_50 (by decide) ?_
    exact k_weak h (lsLe.keep (lsLe.keep (lsLe.keep (lsLe.keep (lsLe.keep (lsLe.drop lsLe.nil))))))
  · replace h := h.2 hc
    refine k_iload cx dX8_reserved_40 rfl ?_
    refine k_goto (tgt := 46) cx dX8_reserved_42 (by decide) ?_
    refine k_istore_n cx dX8_reserved_46 rfl (by decide) ?_
    refine k_iinc (v := (x4 + (1 : Int32))) cx dX8_reserved_47 rfl rfl (by decide) ?_
    refine k_goto (tgt := 5) cx dX8_reserved_50 (by decide) ?_
    exact k_weak h (lsLe.keep (lsLe.keep (lsLe.keep (lsLe.keep (lsLe.keep (lsLe.drop lsLe.nil))))))
set_option maxHeartbeats 2000000 in
theorem b_X8_reserved_e  {g : GE} {f : FE} {q : Int32 → Mm → Prop} (cx : Cx g f cX8_reserved 6 RX8 2 47 0 0) (hr : (f_M f).sig.returnType = (some .int)) (hl : (f_M f).locks = false) (hQ : f_Q f = MQ (f_b f) (QW g (qI q)) (f_a f) (f_s f) 0 0 (fun q => g.2.2.2 ≤ q))  {x1 : Int32} {x2 : Int32} {μ : Mm} (h : F_X8_reserved_e  (KK_X8_reserved_5 g f ) (KK_X8_reserved_32 g f ) q x1 x2 μ) : KW g f 6 0 0 0 [some (.ref p_MO), some (.int x1), some (.int x2), none, none, none] [] μ := by
  unfold F_X8_reserved_e at h
  refine k_iconst (v := (0 : Int32)) cx dX8_reserved_0 (by decide +kernel) ?_
  refine k_istore_n cx dX8_reserved_1 rfl (by decide) ?_
  refine k_iconst (v := (0 : Int32)) cx dX8_reserved_2 (by decide +kernel) ?_
  refine k_istore cx dX8_reserved_3 (by decide) ?_
  exact k_weak h (lsLe.keep (lsLe.keep (lsLe.keep (lsLe.keep (lsLe.keep (lsLe.keep lsLe.nil))))))
theorem m_X8_reserved {g : GE} {l : Launch} {μ : Mm} {q : Int32 → Mm → Prop} {x1 : Int32} {x2 : Int32}  (h : Wp_X8_reserved  x1 x2 μ q) : MW g l yX8_reserved cX8_reserved 6 (some .int) 2 47 [.ref p_MO, .int x1, .int x2] μ (qI q) := by
  refine met_of (by decide) (Nat.le_of_ble_eq_true rfl) (by intro v hv; simp only [List.mem_cons, List.not_mem_nil, or_false] at hv; rcases hv with rfl | rfl | rfl <;> rfl) ?_
  intro f hfl cx hr hl hQ
  exact b_X8_reserved_e  cx hr hl hQ (h (KK_X8_reserved_5 g f ) (KK_X8_reserved_32 g f ) (fun _ _ _ _ _ h => b_X8_reserved_5  cx hr hl hQ h) (fun _ _ _ _ _ _ h => b_X8_reserved_32  cx hr hl hQ h))
