theorem dX7_freeing_0 : decode cX7_freeing 0 = .ok (.aload_n 0, 1) := by decide +kernel
theorem dX7_freeing_1 : decode cX7_freeing 1 = .ok (.invokevirtual 125, 3) := by decide +kernel
theorem dX7_freeing_4 : decode cX7_freeing 4 = .ok (.getfield 129, 3) := by decide +kernel
theorem dX7_freeing_7 : decode cX7_freeing 7 = .ok (.ifCond .eq 19, 3) := by decide +kernel
theorem dX7_freeing_10 : decode cX7_freeing 10 = .ok (.aload_n 0, 1) := by decide +kernel
theorem dX7_freeing_11 : decode cX7_freeing 11 = .ok (.getfield 30, 3) := by decide +kernel
theorem dX7_freeing_14 : decode cX7_freeing 14 = .ok (.aload_n 0, 1) := by decide +kernel
theorem dX7_freeing_15 : decode cX7_freeing 15 = .ok (.invokevirtual 125, 3) := by decide +kernel
theorem dX7_freeing_18 : decode cX7_freeing 18 = .ok (.iconst 2, 1) := by decide +kernel
theorem dX7_freeing_19 : decode cX7_freeing 19 = .ok (.invokevirtual 257, 3) := by decide +kernel
theorem dX7_freeing_22 : decode cX7_freeing 22 = .ok (.iconst (-1), 1) := by decide +kernel
theorem dX7_freeing_23 : decode cX7_freeing 23 = .ok (.if_icmp .eq 5, 3) := by decide +kernel
theorem dX7_freeing_26 : decode cX7_freeing 26 = .ok (.iconst (-1), 1) := by decide +kernel
theorem dX7_freeing_27 : decode cX7_freeing 27 = .ok (.ireturn, 1) := by decide +kernel
theorem dX7_freeing_28 : decode cX7_freeing 28 = .ok (.iconst 1, 1) := by decide +kernel
theorem dX7_freeing_29 : decode cX7_freeing 29 = .ok (.istore_n 1, 1) := by decide +kernel
theorem dX7_freeing_30 : decode cX7_freeing 30 = .ok (.iload_n 1, 1) := by decide +kernel
theorem dX7_freeing_31 : decode cX7_freeing 31 = .ok (.bipush 20, 2) := by decide +kernel
theorem dX7_freeing_33 : decode cX7_freeing 33 = .ok (.if_icmp .gt 79, 3) := by decide +kernel
theorem dX7_freeing_36 : decode cX7_freeing 36 = .ok (.iconst 0, 1) := by decide +kernel
theorem dX7_freeing_37 : decode cX7_freeing 37 = .ok (.istore_n 2, 1) := by decide +kernel
theorem dX7_freeing_38 : decode cX7_freeing 38 = .ok (.iload_n 2, 1) := by decide +kernel
theorem dX7_freeing_39 : decode cX7_freeing 39 = .ok (.aload_n 0, 1) := by decide +kernel
theorem dX7_freeing_40 : decode cX7_freeing 40 = .ok (.getfield 110, 3) := by decide +kernel
theorem dX7_freeing_43 : decode cX7_freeing 43 = .ok (.if_icmp .ge 63, 3) := by decide +kernel
theorem dX7_freeing_46 : decode cX7_freeing 46 = .ok (.iconst 0, 1) := by decide +kernel
theorem dX7_freeing_47 : decode cX7_freeing 47 = .ok (.istore_n 3, 1) := by decide +kernel
theorem dX7_freeing_48 : decode cX7_freeing 48 = .ok (.iload_n 3, 1) := by decide +kernel
theorem dX7_freeing_49 : decode cX7_freeing 49 = .ok (.aload_n 0, 1) := by decide +kernel
theorem dX7_freeing_50 : decode cX7_freeing 50 = .ok (.getfield 52, 3) := by decide +kernel
theorem dX7_freeing_53 : decode cX7_freeing 53 = .ok (.iload_n 2, 1) := by decide +kernel
theorem dX7_freeing_54 : decode cX7_freeing 54 = .ok (.aaload, 1) := by decide +kernel
theorem dX7_freeing_55 : decode cX7_freeing 55 = .ok (.getfield 129, 3) := by decide +kernel
theorem dX7_freeing_58 : decode cX7_freeing 58 = .ok (.if_icmp .ge 42, 3) := by decide +kernel
theorem dX7_freeing_61 : decode cX7_freeing 61 = .ok (.aload_n 0, 1) := by decide +kernel
theorem dX7_freeing_62 : decode cX7_freeing 62 = .ok (.aload_n 0, 1) := by decide +kernel
theorem dX7_freeing_63 : decode cX7_freeing 63 = .ok (.getfield 52, 3) := by decide +kernel
theorem dX7_freeing_66 : decode cX7_freeing 66 = .ok (.iload_n 2, 1) := by decide +kernel
theorem dX7_freeing_67 : decode cX7_freeing 67 = .ok (.aaload, 1) := by decide +kernel
theorem dX7_freeing_68 : decode cX7_freeing 68 = .ok (.iload_n 3, 1) := by decide +kernel
theorem dX7_freeing_69 : decode cX7_freeing 69 = .ok (.iload_n 1, 1) := by decide +kernel
theorem dX7_freeing_70 : decode cX7_freeing 70 = .ok (.invokevirtual 261, 3) := by decide +kernel
theorem dX7_freeing_73 : decode cX7_freeing 73 = .ok (.istore 4, 2) := by decide +kernel
theorem dX7_freeing_75 : decode cX7_freeing 75 = .ok (.iload 4, 2) := by decide +kernel
theorem dX7_freeing_77 : decode cX7_freeing 77 = .ok (.iconst (-1), 1) := by decide +kernel
theorem dX7_freeing_78 : decode cX7_freeing 78 = .ok (.if_icmp .eq 16, 3) := by decide +kernel
theorem dX7_freeing_81 : decode cX7_freeing 81 = .ok (.bipush 100, 2) := by decide +kernel
theorem dX7_freeing_83 : decode cX7_freeing 83 = .ok (.iload_n 2, 1) := by decide +kernel
theorem dX7_freeing_84 : decode cX7_freeing 84 = .ok (.imul, 1) := by decide +kernel
theorem dX7_freeing_85 : decode cX7_freeing 85 = .ok (.bipush 10, 2) := by decide +kernel
theorem dX7_freeing_87 : decode cX7_freeing 87 = .ok (.iload_n 3, 1) := by decide +kernel
theorem dX7_freeing_88 : decode cX7_freeing 88 = .ok (.imul, 1) := by decide +kernel
theorem dX7_freeing_89 : decode cX7_freeing 89 = .ok (.iadd, 1) := by decide +kernel
theorem dX7_freeing_90 : decode cX7_freeing 90 = .ok (.iload 4, 2) := by decide +kernel
theorem dX7_freeing_92 : decode cX7_freeing 92 = .ok (.iadd, 1) := by decide +kernel
theorem dX7_freeing_93 : decode cX7_freeing 93 = .ok (.ireturn, 1) := by decide +kernel
theorem dX7_freeing_94 : decode cX7_freeing 94 = .ok (.iinc 3 1, 3) := by decide +kernel
theorem dX7_freeing_97 : decode cX7_freeing 97 = .ok (.goto (-49), 3) := by decide +kernel
theorem dX7_freeing_100 : decode cX7_freeing 100 = .ok (.iinc 2 1, 3) := by decide +kernel
theorem dX7_freeing_103 : decode cX7_freeing 103 = .ok (.goto (-65), 3) := by decide +kernel
theorem dX7_freeing_106 : decode cX7_freeing 106 = .ok (.iinc 1 1, 3) := by decide +kernel
theorem dX7_freeing_109 : decode cX7_freeing 109 = .ok (.goto (-79), 3) := by decide +kernel
theorem dX7_freeing_112 : decode cX7_freeing 112 = .ok (.iconst (-1), 1) := by decide +kernel
theorem dX7_freeing_113 : decode cX7_freeing 113 = .ok (.ireturn, 1) := by decide +kernel
def F_X7_freeing_30  (K30 : Int32 → Mm → Prop) (K38 : Int32 → Int32 → Mm → Prop) (K48 : Int32 → Int32 → Int32 → Mm → Prop) (q : Int32 → Mm → Prop) (x1 : Int32) (μ : Mm) : Prop :=
  (((20 : Int32) < x1 → q (-1 : Int32) μ) ∧ (¬ ((20 : Int32) < x1) → K38 x1 (0 : Int32) μ))
def F_X7_freeing_38  (K30 : Int32 → Mm → Prop) (K38 : Int32 → Int32 → Mm → Prop) (K48 : Int32 → Int32 → Int32 → Mm → Prop) (q : Int32 → Mm → Prop) (x1 : Int32) (x2 : Int32) (μ : Mm) : Prop :=
  (((μ p_ML 6) ≤ x2 → K30 (x1 + (1 : Int32)) μ) ∧ (¬ ((μ p_ML 6) ≤ x2) → K48 x1 x2 (0 : Int32) μ))
def F_X7_freeing_48  (K30 : Int32 → Mm → Prop) (K38 : Int32 → Int32 → Mm → Prop) (K48 : Int32 → Int32 → Int32 → Mm → Prop) (q : Int32 → Mm → Prop) (x1 : Int32) (x2 : Int32) (x3 : Int32) (μ : Mm) : Prop :=
  vp_in x2 13 ∧ (((μ (p_RQ + 11 * (x2).toNatClampNeg) 10) ≤ x3 → K38 x1 (x2 + (1 : Int32)) μ) ∧ (¬ ((μ (p_RQ + 11 * (x2).toNatClampNeg) 10) ≤ x3) → vp_in x2 13 ∧ Wp_X7_freeingNode (p_RQ + 11 * (x2).toNatClampNeg) x3 x1 μ (fun z2 μ1 => ((z2 = (-1 : Int32) → K48 x1 x2 (x3 + (1 : Int32)) μ1) ∧ (¬ (z2 = (-1 : Int32)) → q ((((100 : Int32) * x2) + ((10 : Int32) * x3)) + z2) μ1)))))
def F_X7_freeing_e  (K30 : Int32 → Mm → Prop) (K38 : Int32 → Int32 → Mm → Prop) (K48 : Int32 → Int32 → Int32 → Mm → Prop) (q : Int32 → Mm → Prop)  (μ : Mm) : Prop :=
  Wp_X7_draft μ (fun r2 μ1 => (((μ1 r2 10) = 0 → q (-1 : Int32) μ1) ∧ (¬ ((μ1 r2 10) = 0) → Wp_X7_draft μ1 (fun r4 μ3 => Wp_X6_run r4 (2 : Int32) μ3 (fun z6 μ5 => ((z6 = (-1 : Int32) → K30 (1 : Int32) μ5) ∧ (¬ (z6 = (-1 : Int32)) → q (-1 : Int32) μ5)))))))
def Wp_X7_freeing   (μ : Mm) (q : Int32 → Mm → Prop) : Prop := ∀ (K30 : Int32 → Mm → Prop) (K38 : Int32 → Int32 → Mm → Prop) (K48 : Int32 → Int32 → Int32 → Mm → Prop), (∀ (x1 : Int32) (μ : Mm), F_X7_freeing_30  K30 K38 K48 q x1 μ → K30 x1 μ) → (∀ (x1 : Int32) (x2 : Int32) (μ : Mm), F_X7_freeing_38  K30 K38 K48 q x1 x2 μ → K38 x1 x2 μ) → (∀ (x1 : Int32) (x2 : Int32) (x3 : Int32) (μ : Mm), F_X7_freeing_48  K30 K38 K48 q x1 x2 x3 μ → K48 x1 x2 x3 μ) → F_X7_freeing_e  K30 K38 K48 q  μ
abbrev KK_X7_freeing_30 (g : GE) (f : FE)  : Int32 → Mm → Prop := fun x1 μ => KW g f 5 0 0 30 [some (.ref p_ML), some (.int x1), none, none, none] [] μ
abbrev KK_X7_freeing_38 (g : GE) (f : FE)  : Int32 → Int32 → Mm → Prop := fun x1 x2 μ => KW g f 5 0 0 38 [some (.ref p_ML), some (.int x1), some (.int x2), none, none] [] μ
abbrev KK_X7_freeing_48 (g : GE) (f : FE)  : Int32 → Int32 → Int32 → Mm → Prop := fun x1 x2 x3 μ => KW g f 5 0 0 48 [some (.ref p_ML), some (.int x1), some (.int x2), some (.int x3), none] [] μ
set_option maxHeartbeats 2000000 in
theorem b_X7_freeing_30  {g : GE} {f : FE} {q : Int32 → Mm → Prop} (cx : Cx g f cX7_freeing 5 RX7 9 244 0 0) (hr : (f_M f).sig.returnType = (some .int)) (hl : (f_M f).locks = false) (hQ : f_Q f = MQ (f_b f) (QW g (qI q)) (f_a f) (f_s f) 0 0 (fun q => g.2.2.2.1 ≤ q))  {x1 : Int32} {μ : Mm} (h : F_X7_freeing_30  (KK_X7_freeing_30 g f ) (KK_X7_freeing_38 g f ) (KK_X7_freeing_48 g f ) q x1 μ) : KK_X7_freeing_30 g f  x1 μ := by
  unfold F_X7_freeing_30 at h
  show KW g f 5 0 0 30 [some (.ref p_ML), some (.int x1), none, none, none] [] μ
  refine k_iload_n cx dX7_freeing_30 rfl rfl ?_
  refine k_bipush (v := (20 : Int32)) cx dX7_freeing_31 (by decide +kernel) ?_
  refine k_icmp_gt (tgt := 112) cx dX7_freeing_33 (by decide) (fun hc => ?_) (fun hc => ?_)
  · replace h := h.1 hc
    refine k_iconst (v := (-1 : Int32)) cx dX7_freeing_112 (by decide +kernel) ?_
    exact k_ret_I cx hr hl hQ dX7_freeing_113 h
  · replace h := h.2 hc
    refine k_iconst (v := (0 : Int32)) cx dX7_freeing_36 (by decide +kernel) ?_
    refine k_istore_n cx dX7_freeing_37 rfl (by decide) ?_
    exact k_weak h (lsLe.keep (lsLe.keep (lsLe.keep (lsLe.keep (lsLe.keep lsLe.nil)))))
set_option maxHeartbeats 2000000 in
theorem b_X7_freeing_38  {g : GE} {f : FE} {q : Int32 → Mm → Prop} (cx : Cx g f cX7_freeing 5 RX7 9 244 0 0) (hr : (f_M f).sig.returnType = (some .int)) (hl : (f_M f).locks = false) (hQ : f_Q f = MQ (f_b f) (QW g (qI q)) (f_a f) (f_s f) 0 0 (fun q => g.2.2.2.1 ≤ q))  {x1 : Int32} {x2 : Int32} {μ : Mm} (h : F_X7_freeing_38  (KK_X7_freeing_30 g f ) (KK_X7_freeing_38 g f ) (KK_X7_freeing_48 g f ) q x1 x2 μ) : KK_X7_freeing_38 g f  x1 x2 μ := by
  unfold F_X7_freeing_38 at h
  show KW g f 5 0 0 38 [some (.ref p_ML), some (.int x1), some (.int x2), none, none] [] μ
  refine k_iload_n cx dX7_freeing_38 rfl rfl ?_
  refine k_aload_n cx dX7_freeing_39 rfl rfl ?_
  refine k_get (o := none) (v := .int (μ p_ML 6)) cx fl_X7_110 ob_ML rfl rfl dX7_freeing_40 ?_
  refine k_icmp_ge (tgt := 106) cx dX7_freeing_43 (by decide) (fun hc => ?_) (fun hc => ?_)
  · replace h := h.1 hc
    refine k_iinc (v := (x1 + (1 : Int32))) cx dX7_freeing_106 rfl rfl (by decide) ?_
    refine k_goto (tgt := 30) cx dX7_freeing_109 (by decide) ?_
    exact k_weak h (lsLe.keep (lsLe.keep (lsLe.drop (lsLe.keep (lsLe.keep lsLe.nil)))))
  · replace h := h.2 hc
    refine k_iconst (v := (0 : Int32)) cx dX7_freeing_46 (by decide +kernel) ?_
    refine k_istore_n cx dX7_freeing_47 rfl (by decide) ?_
    exact k_weak h (lsLe.keep (lsLe.keep (lsLe.keep (lsLe.keep (lsLe.keep lsLe.nil)))))
set_option maxHeartbeats 2000000 in
theorem b_X7_freeing_48  {g : GE} {f : FE} {q : Int32 → Mm → Prop} (cx : Cx g f cX7_freeing 5 RX7 9 244 0 0) (hr : (f_M f).sig.returnType = (some .int)) (hl : (f_M f).locks = false) (hQ : f_Q f = MQ (f_b f) (QW g (qI q)) (f_a f) (f_s f) 0 0 (fun q => g.2.2.2.1 ≤ q))  {x1 : Int32} {x2 : Int32} {x3 : Int32} {μ : Mm} (h : F_X7_freeing_48  (KK_X7_freeing_30 g f ) (KK_X7_freeing_38 g f ) (KK_X7_freeing_48 g f ) q x1 x2 x3 μ) : KK_X7_freeing_48 g f  x1 x2 x3 μ := by
  unfold F_X7_freeing_48 at h
  show KW g f 5 0 0 48 [some (.ref p_ML), some (.int x1), some (.int x2), some (.int x3), none] [] μ
  refine k_iload_n cx dX7_freeing_48 rfl rfl ?_
  refine k_aload_n cx dX7_freeing_49 rfl rfl ?_
  refine k_get (o := some p_ML_requests) (v := .ref p_ML_requests) cx fl_X7_52 ob_ML rfl rfl dX7_freeing_50 ?_
  refine k_iload_n cx dX7_freeing_53 rfl rfl ?_
  obtain ⟨hi1, h⟩ := h
  refine k_aald_ML_requests cx hi1 dX7_freeing_54 ?_
  refine k_get (o := none) (v := .int (μ (p_RQ + 11 * (x2).toNatClampNeg) 10)) cx fl_X7_129 (ob_RQ (vp_req hi1)) rfl rfl dX7_freeing_55 ?_
  refine k_icmp_ge (tgt := 100) cx dX7_freeing_58 (by decide) (fun hc => ?_) (fun hc => ?_)
  · replace h := h.1 hc
    refine k_iinc (v := (x2 + (1 : Int32))) cx dX7_freeing_100 rfl rfl (by decide) ?_
    refine k_goto (tgt := 38) cx dX7_freeing_103 (by decide) ?_
    exact k_weak h (lsLe.keep (lsLe.keep (lsLe.keep (lsLe.drop (lsLe.keep lsLe.nil)))))
  · replace h := h.2 hc
    refine k_aload_n cx dX7_freeing_61 rfl rfl ?_
    refine k_aload_n cx dX7_freeing_62 rfl rfl ?_
    refine k_get (o := some p_ML_requests) (v := .ref p_ML_requests) cx fl_X7_52 ob_ML rfl rfl dX7_freeing_63 ?_
    refine k_iload_n cx dX7_freeing_66 rfl rfl ?_
    obtain ⟨hi2, h⟩ := h
    refine k_aald_ML_requests cx hi2 dX7_freeing_67 ?_
    refine k_iload_n cx dX7_freeing_68 rfl rfl ?_
    refine k_iload_n cx dX7_freeing_69 rfl rfl ?_
    refine k_callV (As := [.ref (p_RQ + 11 * (x2).toNatClampNeg), .int x3, .int x1]) (rest := []) cx (m_X7_freeingNode (vp_req hi2) h) cv_X7_261 ob_ML rfl rfl rfl rfl (Nat.le_of_ble_eq_true rfl) ⟨Nat.le_of_ble_eq_true rfl, Nat.le_of_ble_eq_true rfl⟩ dX7_freeing_70 (fun v μ1 hq => ?_)
    obtain ⟨z2, rfl, h⟩ := hq
    refine k_istore cx dX7_freeing_73 (by decide) ?_
    refine k_iload cx dX7_freeing_75 rfl ?_
    refine k_iconst (v := (-1 : Int32)) cx dX7_freeing_77 (by decide +kernel) ?_
    refine k_icmp_eq (tgt := 94) cx dX7_freeing_78 (by decide) (fun hc => ?_) (fun hc => ?_)
    · replace h := h.1 hc
      refine k_iinc (v := (x3 + (1 : Int32))) cx dX7_freeing_94 rfl rfl (by decide) ?_
      refine k_goto (tgt := 48) cx dX7_freeing_97 (by decide) ?_
      exact k_weak h (lsLe.keep (lsLe.keep (lsLe.keep (lsLe.keep (lsLe.drop lsLe.nil)))))
    · replace h := h.2 hc
      refine k_bipush (v := (100 : Int32)) cx dX7_freeing_81 (by decide +kernel) ?_
      refine k_iload_n cx dX7_freeing_83 rfl rfl ?_
      refine k_imul cx dX7_freeing_84 ?_
      refine k_bipush (v := (10 : Int32)) cx dX7_freeing_85 (by decide +kernel) ?_
      refine k_iload_n cx dX7_freeing_87 rfl rfl ?_
      refine k_imul cx dX7_freeing_88 ?_
      refine k_iadd cx dX7_freeing_89 ?_
      refine k_iload cx dX7_freeing_90 rfl ?_
      refine k_iadd cx dX7_freeing_92 ?_
      exact k_ret_I cx hr hl hQ dX7_freeing_93 h
set_option maxHeartbeats 2000000 in
theorem b_X7_freeing_e  {g : GE} {f : FE} {q : Int32 → Mm → Prop} (cx : Cx g f cX7_freeing 5 RX7 9 244 0 0) (hr : (f_M f).sig.returnType = (some .int)) (hl : (f_M f).locks = false) (hQ : f_Q f = MQ (f_b f) (QW g (qI q)) (f_a f) (f_s f) 0 0 (fun q => g.2.2.2.1 ≤ q))   {μ : Mm} (h : F_X7_freeing_e  (KK_X7_freeing_30 g f ) (KK_X7_freeing_38 g f ) (KK_X7_freeing_48 g f ) q  μ) : KW g f 5 0 0 0 [some (.ref p_ML), none, none, none, none] [] μ := by
  unfold F_X7_freeing_e at h
  refine k_aload_n cx dX7_freeing_0 rfl rfl ?_
  refine k_callV (As := []) (rest := []) cx (m_X7_draft h) cv_X7_125 ob_ML rfl rfl rfl rfl (Nat.le_of_ble_eq_true rfl) ⟨Nat.le_of_ble_eq_true rfl, Nat.le_of_ble_eq_true rfl⟩ dX7_freeing_1 (fun v μ1 hq => ?_)
  obtain ⟨r2, rfl, hr_r2, h⟩ := hq
  refine k_get (o := none) (v := .int (μ1 r2 10)) cx fl_X7_129 (ob_RQ hr_r2) rfl rfl dX7_freeing_4 ?_
  refine k_if_eq (tgt := 26) cx dX7_freeing_7 (by decide) (fun hc => ?_) (fun hc => ?_)
  · replace h := h.1 hc
    refine k_iconst (v := (-1 : Int32)) cx dX7_freeing_26 (by decide +kernel) ?_
    exact k_ret_I cx hr hl hQ dX7_freeing_27 h
  · replace h := h.2 hc
    refine k_aload_n cx dX7_freeing_10 rfl rfl ?_
    refine k_get (o := some p_SE) (v := .ref p_SE) cx fl_X7_30 ob_ML rfl rfl dX7_freeing_11 ?_
    refine k_aload_n cx dX7_freeing_14 rfl rfl ?_
    refine k_callV (As := []) (rest := [.ref p_SE]) cx (m_X7_draft h) cv_X7_125 ob_ML rfl rfl rfl rfl (Nat.le_of_ble_eq_true rfl) ⟨Nat.le_of_ble_eq_true rfl, Nat.le_of_ble_eq_true rfl⟩ dX7_freeing_15 (fun v μ3 hq => ?_)
    obtain ⟨r4, rfl, hr_r4, h⟩ := hq
    refine k_iconst (v := (2 : Int32)) cx dX7_freeing_18 (by decide +kernel) ?_
    refine k_callV (As := [.ref r4, .int (2 : Int32)]) (rest := []) cx (m_X6_run hr_r4 h) cv_X7_257 ob_SE rfl rfl rfl rfl (Nat.le_of_ble_eq_true rfl) ⟨Nat.le_of_ble_eq_true rfl, Nat.le_of_ble_eq_true rfl⟩ dX7_freeing_19 (fun v μ5 hq => ?_)
    obtain ⟨z6, rfl, h⟩ := hq
    refine k_iconst (v := (-1 : Int32)) cx dX7_freeing_22 (by decide +kernel) ?_
    refine k_icmp_eq (tgt := 28) cx dX7_freeing_23 (by decide) (fun hc => ?_) (fun hc => ?_)
    · replace h := h.1 hc
      refine k_iconst (v := (1 : Int32)) cx dX7_freeing_28 (by decide +kernel) ?_
      refine k_istore_n cx dX7_freeing_29 rfl (by decide) ?_
      exact k_weak h (lsLe.keep (lsLe.keep (lsLe.keep (lsLe.keep (lsLe.keep lsLe.nil)))))
    · replace h := h.2 hc
      refine k_iconst (v := (-1 : Int32)) cx dX7_freeing_26 (by decide +kernel) ?_
      exact k_ret_I cx hr hl hQ dX7_freeing_27 h
theorem m_X7_freeing {g : GE} {l : Launch} {μ : Mm} {q : Int32 → Mm → Prop}  (h : Wp_X7_freeing   μ q) : MW g l yX7_freeing cX7_freeing 5 (some .int) 9 244 [.ref p_ML] μ (qI q) := by
  refine met_of (by decide) (Nat.le_of_ble_eq_true rfl) (by intro v hv; simp only [List.mem_cons, List.not_mem_nil, or_false] at hv; subst hv; rfl) ?_
  intro f hfl cx hr hl hQ
  exact b_X7_freeing_e  cx hr hl hQ (h (KK_X7_freeing_30 g f ) (KK_X7_freeing_38 g f ) (KK_X7_freeing_48 g f ) (fun _ _ h => b_X7_freeing_30  cx hr hl hQ h) (fun _ _ _ h => b_X7_freeing_38  cx hr hl hQ h) (fun _ _ _ _ h => b_X7_freeing_48  cx hr hl hQ h))
theorem dX7_least_0 : decode cX7_least 0 = .ok (.aload_n 0, 1) := by decide +kernel
theorem dX7_least_1 : decode cX7_least 1 = .ok (.invokevirtual 125, 3) := by decide +kernel
theorem dX7_least_4 : decode cX7_least 4 = .ok (.getfield 129, 3) := by decide +kernel
theorem dX7_least_7 : decode cX7_least 7 = .ok (.ifCond .ne 7, 3) := by decide +kernel
theorem dX7_least_10 : decode cX7_least 10 = .ok (.iconst (-1), 1) := by decide +kernel
theorem dX7_least_11 : decode cX7_least 11 = .ok (.goto 15, 3) := by decide +kernel
theorem dX7_least_14 : decode cX7_least 14 = .ok (.aload_n 0, 1) := by decide +kernel
theorem dX7_least_15 : decode cX7_least 15 = .ok (.getfield 30, 3) := by decide +kernel
theorem dX7_least_18 : decode cX7_least 18 = .ok (.aload_n 0, 1) := by decide +kernel
theorem dX7_least_19 : decode cX7_least 19 = .ok (.invokevirtual 125, 3) := by decide +kernel
theorem dX7_least_22 : decode cX7_least 22 = .ok (.iconst 0, 1) := by decide +kernel
theorem dX7_least_23 : decode cX7_least 23 = .ok (.invokevirtual 257, 3) := by decide +kernel
theorem dX7_least_26 : decode cX7_least 26 = .ok (.ireturn, 1) := by decide +kernel
def F_X7_least_e   (q : Int32 → Mm → Prop)  (μ : Mm) : Prop :=
  Wp_X7_draft μ (fun r2 μ1 => ((¬ ((μ1 r2 10) = 0) → Wp_X7_draft μ1 (fun r4 μ3 => Wp_X6_run r4 (0 : Int32) μ3 (fun z6 μ5 => q z6 μ5))) ∧ ((μ1 r2 10) = 0 → q (-1 : Int32) μ1)))
def Wp_X7_least   (μ : Mm) (q : Int32 → Mm → Prop) : Prop := F_X7_least_e   q  μ
set_option maxHeartbeats 2000000 in
theorem b_X7_least_e  {g : GE} {f : FE} {q : Int32 → Mm → Prop} (cx : Cx g f cX7_least 1 RX7 8 218 0 0) (hr : (f_M f).sig.returnType = (some .int)) (hl : (f_M f).locks = false) (hQ : f_Q f = MQ (f_b f) (QW g (qI q)) (f_a f) (f_s f) 0 0 (fun q => g.2.2.2.1 ≤ q))   {μ : Mm} (h : F_X7_least_e   q  μ) : KW g f 1 0 0 0 [some (.ref p_ML)] [] μ := by
  unfold F_X7_least_e at h
  refine k_aload_n cx dX7_least_0 rfl rfl ?_
  refine k_callV (As := []) (rest := []) cx (m_X7_draft h) cv_X7_125 ob_ML rfl rfl rfl rfl (Nat.le_of_ble_eq_true rfl) ⟨Nat.le_of_ble_eq_true rfl, Nat.le_of_ble_eq_true rfl⟩ dX7_least_1 (fun v μ1 hq => ?_)
  obtain ⟨r2, rfl, hr_r2, h⟩ := hq
  refine k_get (o := none) (v := .int (μ1 r2 10)) cx fl_X7_129 (ob_RQ hr_r2) rfl rfl dX7_least_4 ?_
  refine k_if_ne (tgt := 14) cx dX7_least_7 (by decide) (fun hc => ?_) (fun hc => ?_)
  · replace h := h.1 hc
    refine k_aload_n cx dX7_least_14 rfl rfl ?_
    refine k_get (o := some p_SE) (v := .ref p_SE) cx fl_X7_30 ob_ML rfl rfl dX7_least_15 ?_
    refine k_aload_n cx dX7_least_18 rfl rfl ?_
    refine k_callV (As := []) (rest := [.ref p_SE]) cx (m_X7_draft h) cv_X7_125 ob_ML rfl rfl rfl rfl (Nat.le_of_ble_eq_true rfl) ⟨Nat.le_of_ble_eq_true rfl, Nat.le_of_ble_eq_true rfl⟩ dX7_least_19 (fun v μ3 hq => ?_)
    obtain ⟨r4, rfl, hr_r4, h⟩ := hq
    refine k_iconst (v := (0 : Int32)) cx dX7_least_22 (by decide +kernel) ?_
    refine k_callV (As := [.ref r4, .int (0 : Int32)]) (rest := []) cx (m_X6_run hr_r4 h) cv_X7_257 ob_SE rfl rfl rfl rfl (Nat.le_of_ble_eq_true rfl) ⟨Nat.le_of_ble_eq_true rfl, Nat.le_of_ble_eq_true rfl⟩ dX7_least_23 (fun v μ5 hq => ?_)
    obtain ⟨z6, rfl, h⟩ := hq
    exact k_ret_I cx hr hl hQ dX7_least_26 h
  · replace h := h.2 hc
    refine k_iconst (v := (-1 : Int32)) cx dX7_least_10 (by decide +kernel) ?_
    refine k_goto (tgt := 26) cx dX7_least_11 (by decide) ?_
    exact k_ret_I cx hr hl hQ dX7_least_26 h
theorem m_X7_least {g : GE} {l : Launch} {μ : Mm} {q : Int32 → Mm → Prop}  (h : Wp_X7_least   μ q) : MW g l yX7_least cX7_least 1 (some .int) 8 218 [.ref p_ML] μ (qI q) := by
  refine met_of (by decide) (Nat.le_of_ble_eq_true rfl) (by intro v hv; simp only [List.mem_cons, List.not_mem_nil, or_false] at hv; subst hv; rfl) ?_
  intro f hfl cx hr hl hQ
  exact b_X7_least_e  cx hr hl hQ (h  )
theorem dX7_leastAnew_0 : decode cX7_leastAnew 0 = .ok (.aload_n 0, 1) := by decide +kernel
theorem dX7_leastAnew_1 : decode cX7_leastAnew 1 = .ok (.invokevirtual 125, 3) := by decide +kernel
theorem dX7_leastAnew_4 : decode cX7_leastAnew 4 = .ok (.getfield 129, 3) := by decide +kernel
theorem dX7_leastAnew_7 : decode cX7_leastAnew 7 = .ok (.ifCond .ne 7, 3) := by decide +kernel
theorem dX7_leastAnew_10 : decode cX7_leastAnew 10 = .ok (.iconst (-1), 1) := by decide +kernel
theorem dX7_leastAnew_11 : decode cX7_leastAnew 11 = .ok (.goto 15, 3) := by decide +kernel
theorem dX7_leastAnew_14 : decode cX7_leastAnew 14 = .ok (.aload_n 0, 1) := by decide +kernel
theorem dX7_leastAnew_15 : decode cX7_leastAnew 15 = .ok (.getfield 30, 3) := by decide +kernel
theorem dX7_leastAnew_18 : decode cX7_leastAnew 18 = .ok (.aload_n 0, 1) := by decide +kernel
theorem dX7_leastAnew_19 : decode cX7_leastAnew 19 = .ok (.invokevirtual 125, 3) := by decide +kernel
theorem dX7_leastAnew_22 : decode cX7_leastAnew 22 = .ok (.iconst 1, 1) := by decide +kernel
theorem dX7_leastAnew_23 : decode cX7_leastAnew 23 = .ok (.invokevirtual 257, 3) := by decide +kernel
theorem dX7_leastAnew_26 : decode cX7_leastAnew 26 = .ok (.ireturn, 1) := by decide +kernel
def F_X7_leastAnew_e   (q : Int32 → Mm → Prop)  (μ : Mm) : Prop :=
  Wp_X7_draft μ (fun r2 μ1 => ((¬ ((μ1 r2 10) = 0) → Wp_X7_draft μ1 (fun r4 μ3 => Wp_X6_run r4 (1 : Int32) μ3 (fun z6 μ5 => q z6 μ5))) ∧ ((μ1 r2 10) = 0 → q (-1 : Int32) μ1)))
def Wp_X7_leastAnew   (μ : Mm) (q : Int32 → Mm → Prop) : Prop := F_X7_leastAnew_e   q  μ
set_option maxHeartbeats 2000000 in
theorem b_X7_leastAnew_e  {g : GE} {f : FE} {q : Int32 → Mm → Prop} (cx : Cx g f cX7_leastAnew 1 RX7 8 218 0 0) (hr : (f_M f).sig.returnType = (some .int)) (hl : (f_M f).locks = false) (hQ : f_Q f = MQ (f_b f) (QW g (qI q)) (f_a f) (f_s f) 0 0 (fun q => g.2.2.2.1 ≤ q))   {μ : Mm} (h : F_X7_leastAnew_e   q  μ) : KW g f 1 0 0 0 [some (.ref p_ML)] [] μ := by
  unfold F_X7_leastAnew_e at h
  refine k_aload_n cx dX7_leastAnew_0 rfl rfl ?_
  refine k_callV (As := []) (rest := []) cx (m_X7_draft h) cv_X7_125 ob_ML rfl rfl rfl rfl (Nat.le_of_ble_eq_true rfl) ⟨Nat.le_of_ble_eq_true rfl, Nat.le_of_ble_eq_true rfl⟩ dX7_leastAnew_1 (fun v μ1 hq => ?_)
  obtain ⟨r2, rfl, hr_r2, h⟩ := hq
  refine k_get (o := none) (v := .int (μ1 r2 10)) cx fl_X7_129 (ob_RQ hr_r2) rfl rfl dX7_leastAnew_4 ?_
  refine k_if_ne (tgt := 14) cx dX7_leastAnew_7 (by decide) (fun hc => ?_) (fun hc => ?_)
  · replace h := h.1 hc
    refine k_aload_n cx dX7_leastAnew_14 rfl rfl ?_
    refine k_get (o := some p_SE) (v := .ref p_SE) cx fl_X7_30 ob_ML rfl rfl dX7_leastAnew_15 ?_
    refine k_aload_n cx dX7_leastAnew_18 rfl rfl ?_
    refine k_callV (As := []) (rest := [.ref p_SE]) cx (m_X7_draft h) cv_X7_125 ob_ML rfl rfl rfl rfl (Nat.le_of_ble_eq_true rfl) ⟨Nat.le_of_ble_eq_true rfl, Nat.le_of_ble_eq_true rfl⟩ dX7_leastAnew_19 (fun v μ3 hq => ?_)
    obtain ⟨r4, rfl, hr_r4, h⟩ := hq
    refine k_iconst (v := (1 : Int32)) cx dX7_leastAnew_22 (by decide +kernel) ?_
    refine k_callV (As := [.ref r4, .int (1 : Int32)]) (rest := []) cx (m_X6_run hr_r4 h) cv_X7_257 ob_SE rfl rfl rfl rfl (Nat.le_of_ble_eq_true rfl) ⟨Nat.le_of_ble_eq_true rfl, Nat.le_of_ble_eq_true rfl⟩ dX7_leastAnew_23 (fun v μ5 hq => ?_)
    obtain ⟨z6, rfl, h⟩ := hq
    exact k_ret_I cx hr hl hQ dX7_leastAnew_26 h
  · replace h := h.2 hc
    refine k_iconst (v := (-1 : Int32)) cx dX7_leastAnew_10 (by decide +kernel) ?_
    refine k_goto (tgt := 26) cx dX7_leastAnew_11 (by decide) ?_
    exact k_ret_I cx hr hl hQ dX7_leastAnew_26 h
theorem m_X7_leastAnew {g : GE} {l : Launch} {μ : Mm} {q : Int32 → Mm → Prop}  (h : Wp_X7_leastAnew   μ q) : MW g l yX7_leastAnew cX7_leastAnew 1 (some .int) 8 218 [.ref p_ML] μ (qI q) := by
  refine met_of (by decide) (Nat.le_of_ble_eq_true rfl) (by intro v hv; simp only [List.mem_cons, List.not_mem_nil, or_false] at hv; subst hv; rfl) ?_
  intro f hfl cx hr hl hQ
  exact b_X7_leastAnew_e  cx hr hl hQ (h  )
theorem dX7_now_0 : decode cX7_now 0 = .ok (.aload_n 0, 1) := by decide +kernel
theorem dX7_now_1 : decode cX7_now 1 = .ok (.getfield 171, 3) := by decide +kernel
theorem dX7_now_4 : decode cX7_now 4 = .ok (.ireturn, 1) := by decide +kernel
def F_X7_now_e   (q : Int32 → Mm → Prop)  (μ : Mm) : Prop :=
  q (μ p_ML 7) μ
def Wp_X7_now   (μ : Mm) (q : Int32 → Mm → Prop) : Prop := F_X7_now_e   q  μ
set_option maxHeartbeats 2000000 in
theorem b_X7_now_e  {g : GE} {f : FE} {q : Int32 → Mm → Prop} (cx : Cx g f cX7_now 1 RX7 0 0 0 0) (hr : (f_M f).sig.returnType = (some .int)) (hl : (f_M f).locks = false) (hQ : f_Q f = MQ (f_b f) (QW g (qI q)) (f_a f) (f_s f) 0 0 (fun q => g.2.2.2.1 ≤ q))   {μ : Mm} (h : F_X7_now_e   q  μ) : KW g f 1 0 0 0 [some (.ref p_ML)] [] μ := by
  unfold F_X7_now_e at h
  refine k_aload_n cx dX7_now_0 rfl rfl ?_
  refine k_get (o := none) (v := .int (μ p_ML 7)) cx fl_X7_171 ob_ML rfl rfl dX7_now_1 ?_
  exact k_ret_I cx hr hl hQ dX7_now_4 h
theorem m_X7_now {g : GE} {l : Launch} {μ : Mm} {q : Int32 → Mm → Prop}  (h : Wp_X7_now   μ q) : MW g l yX7_now cX7_now 1 (some .int) 0 0 [.ref p_ML] μ (qI q) := by
  refine met_of (by decide) (Nat.le_of_ble_eq_true rfl) (by intro v hv; simp only [List.mem_cons, List.not_mem_nil, or_false] at hv; subst hv; rfl) ?_
  intro f hfl cx hr hl hQ
  exact b_X7_now_e  cx hr hl hQ (h  )
