theorem dX7_freeing_0 : decode cX7_freeing 0 = .ok (.aload_n 0, 1) := by decide +kernel
theorem dX7_freeing_1 : decode cX7_freeing 1 = .ok (.invokevirtual 125, 3) := by decide +kernel
theorem dX7_freeing_4 : decode cX7_freeing 4 = .ok (.getfield 129, 3) := by decide +kernel
theorem dX7_freeing_7 : decode cX7_freeing 7 = .ok (.ifCond .eq 19, 3) := by decide +kernel
theorem dX7_freeing_10 : decode cX7_freeing 10 = .ok (.aload_n 0, 1) := by decide +kernel
theorem dX7_freeing_11 : decode cX7_freeing 11 = .ok (.getfield 30, 3) := by decide +kernel
theorem dX7_freeing_14 : decode cX7_freeing 14 = .ok (.aload_n 0, 1) := by decide +kernel
theorem dX7_freeing_15 : decode cX7_freeing 15 = .ok (.invokevirtual 125, 3) := by decide +kernel
theorem dX7_freeing_18 : decode cX7_freeing 18 = .ok (.iconst 2, 1) := by decide +kernel
theorem dX7_freeing_19 : decode cX7_freeing 19 = .ok (.invokevirtual 257, 3) := by decide +kernel
theorem dX7_freeing_22 : decode cX7_freeing 22 = .ok (.iconst (-1), 1) := by decide +kernel
theorem dX7_freeing_23 : decode cX7_freeing 23 = .ok (.if_icmp .eq 5, 3) := by decide +kernel
theorem dX7_freeing_26 : decode cX7_freeing 26 = .ok (.iconst (-1), 1) := by decide +kernel
theorem dX7_freeing_27 : decode cX7_freeing 27 = .ok (.ireturn, 1) := by decide +kernel
theorem dX7_freeing_28 : decode cX7_freeing 28 = .ok (.iconst 1, 1) := by decide +kernel
theorem dX7_freeing_29 : decode cX7_freeing 29 = .ok (.istore_n 1, 1) := by decide +kernel
theorem dX7_freeing_30 : decode cX7_freeing 30 = .ok (.iload_n 1, 1) := by decide +kernel
theorem dX7_freeing_31 : decode cX7_freeing 31 = .ok (.bipush 20, 2) := by decide +kernel
theorem dX7_freeing_33 : decode cX7_freeing 33 = .ok (.if_icmp .gt 79, 3) := by decide +kernel
theorem dX7_freeing_36 : decode cX7_freeing 36 = .ok (.iconst 0, 1) := by decide +kernel
theorem dX7_freeing_37 : decode cX7_freeing 37 = .ok (.istore_n 2, 1) := by decide +kernel
theorem dX7_freeing_38 : decode cX7_freeing 38 = .ok (.iload_n 2, 1) := by decide +kernel
theorem dX7_freeing_39 : decode cX7_freeing 39 = .ok (.aload_n 0, 1) := by decide +kernel
theorem dX7_freeing_40 : decode cX7_freeing 40 = .ok (.getfield 110, 3) := by decide +kernel
theorem dX7_freeing_43 : decode cX7_freeing 43 = .ok (.if_icmp .ge 63, 3) := by decide +kernel
theorem dX7_freeing_46 : decode cX7_freeing 46 = .ok (.iconst 0, 1) := by decide +kernel
theorem dX7_freeing_47 : decode cX7_freeing 47 = .ok (.istore_n 3, 1) := by decide +kernel
theorem dX7_freeing_48 : decode cX7_freeing 48 = .ok (.iload_n 3, 1) := by decide +kernel
theorem dX7_freeing_49 : decode cX7_freeing 49 = .ok (.aload_n 0, 1) := by decide +kernel
theorem dX7_freeing_50 : decode cX7_freeing 50 = .ok (.getfield 52, 3) := by decide +kernel
theorem dX7_freeing_53 : decode cX7_freeing 53 = .ok (.iload_n 2, 1) := by decide +kernel
theorem dX7_freeing_54 : decode cX7_freeing 54 = .ok (.aaload, 1) := by decide +kernel
theorem dX7_freeing_55 : decode cX7_freeing 55 = .ok (.getfield 129, 3) := by decide +kernel
theorem dX7_freeing_58 : decode cX7_freeing 58 = .ok (.if_icmp .ge 42, 3) := by decide +kernel
theorem dX7_freeing_61 : decode cX7_freeing 61 = .ok (.aload_n 0, 1) := by decide +kernel
theorem dX7_freeing_62 : decode cX7_freeing 62 = .ok (.aload_n 0, 1) := by decide +kernel
theorem dX7_freeing_63 : decode cX7_freeing 63 = .ok (.getfield 52, 3) := by decide +kernel
theorem dX7_freeing_66 : decode cX7_freeing 66 = .ok (.iload_n 2, 1) := by decide +kernel
theorem dX7_freeing_67 : decode cX7_freeing 67 = .ok (.aaload, 1) := by decide +kernel
theorem dX7_freeing_68 : decode cX7_freeing 68 = .ok (.iload_n 3, 1) := by decide +kernel
theorem dX7_freeing_69 : decode cX7_freeing 69 = .ok (.iload_n 1, 1) := by decide +kernel
theorem dX7_freeing_70 : decode cX7_freeing 70 = .ok (.invokevirtual 261, 3) := by decide +kernel
theorem dX7_freeing_73 : decode cX7_freeing 73 = .ok (.istore 4, 2) := by decide +kernel
theorem dX7_freeing_75 : decode cX7_freeing 75 = .ok (.iload 4, 2) := by decide +kernel
theorem dX7_freeing_77 : decode cX7_freeing 77 = .ok (.iconst (-1), 1) := by decide +kernel
theorem dX7_freeing_78 : decode cX7_freeing 78 = .ok (.if_icmp .eq 16, 3) := by decide +kernel
theorem dX7_freeing_81 : decode cX7_freeing 81 = .ok (.bipush 100, 2) := by decide +kernel
theorem dX7_freeing_83 : decode cX7_freeing 83 = .ok (.iload_n 2, 1) := by decide +kernel
theorem dX7_freeing_84 : decode cX7_freeing 84 = .ok (.imul, 1) := by decide +kernel
theorem dX7_freeing_85 : decode cX7_freeing 85 = .ok (.bipush 10, 2) := by decide +kernel
theorem dX7_freeing_87 : decode cX7_freeing 87 = .ok (.iload_n 3, 1) := by decide +kernel
theorem dX7_freeing_88 : decode cX7_freeing 88 = .ok (.imul, 1) := by decide +kernel
theorem dX7_freeing_89 : decode cX7_freeing 89 = .ok (.iadd, 1) := by decide +kernel
theorem dX7_freeing_90 : decode cX7_freeing 90 = .ok (.iload 4, 2) := by decide +kernel
theorem dX7_freeing_92 : decode cX7_freeing 92 = .ok (.iadd, 1) := by decide +kernel
theorem dX7_freeing_93 : decode cX7_freeing 93 = .ok (.ireturn, 1) := by decide +kernel
theorem dX7_freeing_94 : decode cX7_freeing 94 = .ok (.iinc 3 1, 3) := by decide +kernel
theorem dX7_freeing_97 : decode cX7_freeing 97 = .ok (.goto (-49), 3) := by decide +kernel
theorem dX7_freeing_100 : decode cX7_freeing 100 = .ok (.iinc 2 1, 3) := by decide +kernel
theorem dX7_freeing_103 : decode cX7_freeing 103 = .ok (.goto (-65), 3) := by decide +kernel
theorem dX7_freeing_106 : decode cX7_freeing 106 = .ok (.iinc 1 1, 3) := by decide +kernel
theorem dX7_freeing_109 : decode cX7_freeing 109 = .ok (.goto (-79), 3) := by decide +kernel
theorem dX7_freeing_112 : decode cX7_freeing 112 = .ok (.iconst (-1), 1) := by decide +kernel
theorem dX7_freeing_113 : decode cX7_freeing 113 = .ok (.ireturn, 1) := by decide +kernel
def F_X7_freeing_30  (K30 : Int32 → Mm → Prop) (K38 : Int32 → Int32 → Mm → Prop) (K48 : Int32 → Int32 → Int32 → Mm → Prop) (q : Int32 → Mm → Prop) (x1 : Int32) (μ : Mm) : Prop :=
  (((20 : Int32) < x1 → q (-1 : Int32) μ) ∧ (¬ ((20 : Int32) < x1) → K38 x1 (0 : Int32) μ))
def F_X7_freeing_38  (K30 : Int32 → Mm → Prop) (K38 : Int32 → Int32 → Mm → Prop) (K48 : Int32 → Int32 → Int32 → Mm → Prop) (q : Int32 → Mm → Prop) (x1 : Int32) (x2 : Int32) (μ : Mm) : Prop :=
  (((μ p_ML 6) ≤ x2 → K30 (x1 + (1 : Int32)) μ) ∧ (¬ ((μ p_ML 6) ≤ x2) → K48 x1 x2 (0 : Int32) μ))
def F_X7_freeing_48  (K30 : Int32 → Mm → Prop) (K38 : Int32 → Int32 → Mm → Prop) (K48 : Int32 → Int32 → Int32 → Mm → Prop) (q : Int32 → Mm → Prop) (x1 : Int32) (x2 : Int32) (x3 : Int32) (μ : Mm) : Prop :=
  vp_in x2 13 ∧ (((μ (p_RQ + 11 * (x2).toNatClampNeg) 10) ≤ x3 → K38 x1 (x2 + (1 : Int32)) μ) ∧ (¬ ((μ (p_RQ + 11 * (x2).toNatClampNeg) 10) ≤ x3) → vp_in x2 13 ∧ Wp_X7_freeingNode (p_RQ + 11 * (x2).toNatClampNeg) x3 x1 μ (fun z2 μ1 => ((z2 = (-1 : Int32) → K48 x1 x2 (x3 + (1 : Int32)) μ1) ∧ (¬ (z2 = (-1 : Int32)) → q ((((100 : Int32) * x2) + ((10 : Int32) * x3)) + z2) μ1)))))
def F_X7_freeing_e  (K30 : Int32 → Mm → Prop) (K38 : Int32 → Int32 → Mm → Prop) (K48 : Int32 → Int32 → Int32 → Mm → Prop) (q : Int32 → Mm → Prop)  (μ : Mm) : Prop :=
  Wp_X7_draft μ (fun r2 μ1 => (((μ1 r2 10) = 0 → q (-1 : Int32) μ1) ∧ (¬ ((μ1 r2 10) = 0) → Wp_X7_draft μ1 (fun r4 μ3 => Wp_X6_run r4 (2 : Int32) μ3 (fun z6 μ5 => ((z6 = (-1 : Int32) → K30 (1 : Int32) μ5) ∧ (¬ (z6 = (-1 : Int32)) → q (-1 : Int32) μ5)))))))
def Wp_X7_freeing   (μ : Mm) (q : Int32 → Mm → Prop) : Prop := ∀ (K30 : Int32 → Mm → Prop) (K38 : Int32 → Int32 → Mm → Prop) (K48 : Int32 → Int32 → Int32 → Mm → Prop), (∀ (x1 : Int32) (μ : Mm), F_X7_freeing_30  K30 K38 K48 q x1 μ → K30 x1 μ) → (∀ (x1 : Int32) (x2 : Int32) (μ : Mm), F_X7_freeing_38  K30 K38 K48 q x1 x2 μ → K38 x1 x2 μ) → (∀ (x1 : Int32) (x2 : Int32) (x3 : Int32) (μ : Mm), F_X7_freeing_48  K30 K38 K48 q x1 x2 x3 μ → K48 x1 x2 x3 μ) → F_X7_freeing_e  K30 K38 K48 q  μ
abbrev KK_X7_freeing_30 (g : GE) (f : FE)  : Int32 → Mm → Prop := fun x1 μ => KW g f 5 0 0 30 [some (.ref p_ML), some (.int x1), none, none, none] [] μ
abbrev KK_X7_freeing_38 (g : GE) (f : FE)  : Int32 → Int32 → Mm → Prop := fun x1 x2 μ => KW g f 5 0 0 38 [some (.ref p_ML), some (.int x1), some (.int x2), none, none] [] μ
abbrev KK_X7_freeing_48 (g : GE) (f : FE)  : Int32 → Int32 → Int32 → Mm → Prop := fun x1 x2 x3 μ => KW g f 5 0 0 48 [some (.ref p_ML), some (.int x1), some (.int x2), some (.int x3), none] [] μ
set_option maxHeartbeats 2000000 in
theorem b_X7_freeing_30  {g : GE} {f : FE} {q : Int32 → Mm → Prop} (cx : Cx g f cX7_freeing 5 RX7 9 244 0 0) (hr : (f_M f).sig.returnType = (some .int)) (hl : (f_M f).locks = false) (hQ : f_Q f = MQ (f_b f) (QW g (qI q)) (f_a f) (f_s f) 0 0 (fun q => g.2.2.2 ≤ q))  {x1 : Int32} {μ : Mm} (h : F_X7_freeing_30  (KK_X7_freeing_30 g f ) (KK_X7_freeing_38 g f ) (KK_X7_freeing_48 g f ) q x1 μ) : KK_X7_freeing_30 g f  x1 μ := by
  unfold F_X7_freeing_30 at h
  show KW g f 5 0 0 30 [some (.ref p_ML), some (.int x1), none, none, none] [] μ
  refine k_iload_n cx dX7_freeing_30 rfl rfl ?_
  refine k_bipush (v := (20 : Int32)) cx dX7_freeing_31 (by decide +kernel) ?_
  refine k_icmp_gt (tgt := 112) cx dX7_freeing_33 (by decide) (fun hc => ?_) (fun hc => ?_)
  · replace h := h.1 hc
    refine k_iconst (v := (-1 : Int32)) cx dX7_freeing_112 (by decide +kernel) ?_
    exact k_ret_I cx hr hl hQ dX7_freeing_113 h
  · replace h := h.2 hc
    refine k_iconst (v := (0 : Int32)) cx dX7_freeing_36 (by decide +kernel) ?_
    refine k_istore_n cx dX7_freeing_37 rfl (by decide) ?_
    exact k_weak h (lsLe.keep (lsLe.keep (lsLe.keep (lsLe.keep (lsLe.keep lsLe.nil)))))
set_option maxHeartbeats 2000000 in
theorem b_X7_freeing_38  {g : GE} {f : FE} {q : Int32 → Mm → Prop} (cx : Cx g f cX7_freeing 5 RX7 9 244 0 0) (hr : (f_M f).sig.returnType = (some .int)) (hl : (f_M f).locks = false) (hQ : f_Q f = MQ (f_b f) (QW g (qI q)) (f_a f) (f_s f) 0 0 (fun q => g.2.2.2 ≤ q))  {x1 : Int32} {x2 : Int32} {μ : Mm} (h : F_X7_freeing_38  (KK_X7_freeing_30 g f ) (KK_X7_freeing_38 g f ) (KK_X7_freeing_48 g f ) q x1 x2 μ) : KK_X7_freeing_38 g f  x1 x2 μ := by
  unfold F_X7_freeing_38 at h
  show KW g f 5 0 0 38 [some (.ref p_ML), some (.int x1), some (.int x2), none, none] [] μ
  refine k_iload_n cx dX7_freeing_38 rfl rfl ?_
  refine k_aload_n cx dX7_freeing_39 rfl rfl ?_
  refine k_get (o := none) (v := .int (μ p_ML 6)) cx fl_X7_110 ob_ML rfl rfl dX7_freeing_40 ?_
  refine k_icmp_ge (tgt := 106) cx dX7_freeing_43 (by decide) (fun hc => ?_) (fun hc => ?_)
  · replace h := h.1 hc
    refine k_iinc (v := (x1 + (1 : Int32))) cx dX7_freeing_106 rfl rfl (by decide) ?_
    refine k_goto (tgt := 30) cx dX7_freeing_109 (by decide) ?_
    exact k_weak h (lsLe.keep (lsLe.keep (lsLe.drop (lsLe.keep (lsLe.keep lsLe.nil)))))
  · replace h := h.2 hc
    refine k_iconst (v := (0 : Int32)) cx dX7_freeing_46 (by decide +kernel) ?_
    refine k_istore_n cx dX7_freeing_47 rfl (by decide) ?_
    exact k_weak h (lsLe.keep (lsLe.keep (lsLe.keep (lsLe.keep (lsLe.keep lsLe.nil)))))
set_option maxHeartbeats 2000000 in
theorem b_X7_freeing_48  {g : GE} {f : FE} {q : Int32 → Mm → Prop} (cx : Cx g f cX7_freeing 5 RX7 9 244 0 0) (hr : (f_M f).sig.returnType = (some .int)) (hl : (f_M f).locks = false) (hQ : f_Q f = MQ (f_b f) (QW g (qI q)) (f_a f) (f_s f) 0 0 (fun q => g.2.2.2 ≤ q))  {x1 : Int32} {x2 : Int32} {x3 : Int32} {μ : Mm} (h : F_X7_freeing_48  (KK_X7_freeing_30 g f ) (KK_X7_freeing_38 g f ) (KK_X7_freeing_48 g f ) q x1 x2 x3 μ) : KK_X7_freeing_48 g f  x1 x2 x3 μ := by
  unfold F_X7_freeing_48 at h
  show KW g f 5 0 0 48 [some (.ref p_ML), some (.int x1), some (.int x2), some (.int x3), none] [] μ
  refine k_iload_n cx dX7_freeing_48 rfl rfl ?_
  refine k_aload_n cx dX7_freeing_49 rfl rfl ?_
  refine k_get (o := some p_ML_requests) (v := .ref p_ML_requests) cx fl_X7_52 ob_ML rfl rfl dX7_freeing_50 ?_
  refine k_iload_n cx dX7_freeing_53 rfl rfl ?_
  obtain ⟨hi1, h⟩ := h
  refine k_aald_ML_requests cx hi1 dX7_freeing_54 ?_
  refine k_get (o := none) (v := .int (μ (p_RQ + 11 * (x2).toNatClampNeg) 10)) cx fl_X7_129 (ob_RQ (vp_req hi1)) rfl rfl dX7_freeing_55 ?_
  refine k_icmp_ge (tgt := 100) cx dX7_freeing_58 (by decide) (fun hc => ?_) (fun hc => ?_)
  · replace h := h.1 hc
    refine k_iinc (v := (x2 + (1 : Int32))) cx dX7_freeing_100 rfl rfl (by decide) ?_
    refine k_goto (tgt := 38) cx dX7_freeing_103 (by decide) ?_
    exact k_weak h (lsLe.keep (lsLe.keep (lsLe.keep (lsLe.drop (lsLe.keep lsLe.nil)))))
  · replace h := h.2 hc
    refine k_aload_n cx dX7_freeing_61 rfl rfl ?_
    refine k_aload_n cx dX7_freeing_62 rfl rfl ?_
    refine k_get (o := some p_ML_requests) (v := .ref p_ML_requests) cx fl_X7_52 ob_ML rfl rfl dX7_freeing_63 ?_
    refine k_iload_n cx dX7_freeing_66 rfl rfl ?_
    obtain ⟨hi2, h⟩ := h
    refine k_aald_ML_requests cx hi2 dX7_freeing_67 ?_
    refine k_iload_n cx dX7_freeing_68 rfl rfl ?_
    refine k_iload_n cx dX7_freeing_69 rfl rfl ?_
    refine k_callV (As := [.ref (p_RQ + 11 * (x2).toNatClampNeg), .int x3, .int x1]) (rest := []) cx (m_X7_freeingNode (vp_req hi2) h) cv_X7_261 ob_ML rfl rfl rfl rfl (Nat.le_of_ble_eq_true rfl) ⟨Nat.le_of_ble_eq_true rfl, Nat.le_of_ble_eq_true rfl⟩ dX7_freeing_70 (fun v μ1 hq => ?_)
    obtain ⟨z2, rfl, h⟩ := hq
    refine k_istore cx dX7_freeing_73 (by decide) ?_
    refine k_iload cx dX7_freeing_75 rfl ?_
    refine k_iconst (v := (-1 : Int32)) cx dX7_freeing_77 (by decide +kernel) ?_
    refine k_icmp_eq (tgt := 94) cx dX7_freeing_78 (by decide) (fun hc => ?_) (fun hc => ?_)
    · replace h := h.1 hc
      refine k_iinc (v := (x3 + (1 : Int32))) cx dX7_freeing_94 rfl rfl (by decide) ?_
      refine k_goto (tgt := 48) cx dX7_freeing_97 (by decide) ?_
      exact k_weak h (lsLe.keep (lsLe.keep (lsLe.keep (lsLe.keep (lsLe.drop lsLe.nil)))))
    · replace h := h.2 hc
      refine k_bipush (v := (100 : Int32)) cx dX7_freeing_81 (by decide +kernel) ?_
      refine k_iload_n cx dX7_freeing_83 rfl rfl ?_
      refine k_imul cx dX7_freeing_84 ?_
      refine k_bipush (v := (10 : Int32)) cx dX7_freeing_85 (by decide +kernel) ?_
      refine k_iload_n cx dX7_freeing_87 rfl rfl ?_
      refine k_imul cx dX7_freeing_88 ?_
      refine k_iadd cx dX7_freeing_89 ?_
      refine k_iload cx dX7_freeing_90 rfl ?_
      refine k_iadd cx dX7_freeing_92 ?_
      exact k_ret_I cx hr hl hQ dX7_freeing_93 h
set_option maxHeartbeats 2000000 in
theorem b_X7_freeing_e  {g : GE} {f : FE} {q : Int32 → Mm → Prop} (cx : Cx g f cX7_freeing 5 RX7 9 244 0 0) (hr : (f_M f).sig.returnType = (some .int)) (hl : (f_M f).locks = false) (hQ : f_Q f = MQ (f_b f) (QW g (qI q)) (f_a f) (f_s f) 0 0 (fun q => g.2.2.2 ≤ q))   {μ : Mm} (h : F_X7_freeing_e  (KK_X7_freeing_30 g f ) (KK_X7_freeing_38 g f ) (KK_X7_freeing_48 g f ) q  μ) : KW g f 5 0 0 0 [some (.ref p_ML), none, none, none, none] [] μ := by
  unfold F_X7_freeing_e at h
  refine k_aload_n cx dX7_freeing_0 rfl rfl ?_
  refine k_callV (As := []) (rest := []) cx (m_X7_draft h) cv_X7_125 ob_ML rfl rfl rfl rfl (Nat.le_of_ble_eq_true rfl) ⟨Nat.le_of_ble_eq_true rfl, Nat.le_of_ble_eq_true rfl⟩ dX7_freeing_1 (fun v μ1 hq => ?_)
  obtain ⟨r2, rfl, hr_r2, h⟩ := hq
  refine k_get (o := none) (v := .int (μ1 r2 10)) cx fl_X7_129 (ob_RQ hr_r2) rfl rfl dX7_freeing_4 ?_
  refine k_if_eq (tgt := 26) cx dX7_freeing_7 (by decide) (fun hc => ?_) (fun hc => ?_)
  · replace h := h.1 hc
    refine k_iconst (v := (-1 : Int32)) cx dX7_freeing_26 (by decide +kernel) ?_
    exact k_ret_I cx hr hl hQ dX7_freeing_27 h
  · replace h := h.2 hc
    refine k_aload_n cx dX7_freeing_10 rfl rfl ?_
    refine k_get (o := some p_SE) (v := .ref p_SE) cx fl_X7_30 ob_ML rfl rfl dX7_freeing_11 ?_
    refine k_aload_n cx dX7_freeing_14 rfl rfl ?_
    refine k_callV (As := []) (rest := [.ref p_SE]) cx (m_X7_draft h) cv_X7_125 ob_ML rfl rfl rfl rfl (Nat.le_of_ble_eq_true rfl) ⟨Nat.le_of_ble_eq_true rfl, Nat.le_of_ble_eq_true rfl⟩ dX7_freeing_15 (fun v μ3 hq => ?_)
    obtain ⟨r4, rfl, hr_r4, h⟩ := hq
    refine k_iconst (v := (2 : Int32)) cx dX7_freeing_18 (by decide +kernel) ?_
    refine k_callV (As := [.ref r4, .int (2 : Int32)]) (rest := []) cx (m_X6_run hr_r4 h) cv_X7_257 ob_SE rfl rfl rfl rfl (Nat.le_of_ble_eq_true rfl) ⟨Nat.le_of_ble_eq_true rfl, Nat.le_of_ble_eq_true rfl⟩ dX7_freeing_19 (fun v μ5 hq => ?_)
    obtain ⟨z6, rfl, h⟩ := hq
    refine k_iconst (v := (-1 : Int32)) cx dX7_freeing_22 (by decide +kernel) ?_
    refine k_icmp_eq (tgt := 28) cx dX7_freeing_23 (by decide) (fun hc => ?_) (fun hc => ?_)
    · replace h := h.1 hc
      refine k_iconst (v := (1 : Int32)) cx dX7_freeing_28 (by decide +kernel) ?_
      refine k_istore_n cx dX7_freeing_29 rfl (by decide) ?_
      exact k_weak h (lsLe.keep (lsLe.keep (lsLe.keep (lsLe.keep (lsLe.keep lsLe.nil)))))
    · replace h := h.2 hc
      refine k_iconst (v := (-1 : Int32)) cx dX7_freeing_26 (by decide +kernel) ?_
      exact k_ret_I cx hr hl hQ dX7_freeing_27 h
theorem m_X7_freeing {g : GE} {l : Launch} {μ : Mm} {q : Int32 → Mm → Prop}  (h : Wp_X7_freeing   μ q) : MW g l yX7_freeing cX7_freeing 5 (some .int) 9 244 [.ref p_ML] μ (qI q) := by
  refine met_of (by decide) (Nat.le_of_ble_eq_true rfl) (by intro v hv; simp only [List.mem_cons, List.not_mem_nil, or_false] at hv; subst hv; rfl) ?_
  intro f hfl cx hr hl hQ
  exact b_X7_freeing_e  cx hr hl hQ (h (KK_X7_freeing_30 g f ) (KK_X7_freeing_38 g f ) (KK_X7_freeing_48 g f ) (fun _ _ h => b_X7_freeing_30  cx hr hl hQ h) (fun _ _ _ h => b_X7_freeing_38  cx hr hl hQ h) (fun _ _ _ _ h => b_X7_freeing_48  cx hr hl hQ h))
theorem dX7_least_0 : decode cX7_least 0 = .ok (.aload_n 0, 1) := by decide +kernel
theorem dX7_least_1 : decode cX7_least 1 = .ok (.invokevirtual 125, 3) := by decide +kernel
theorem dX7_least_4 : decode cX7_least 4 = .ok (.getfield 129, 3) := by decide +kernel
theorem dX7_least_7 : decode cX7_least 7 = .ok (.ifCond .ne 7, 3) := by decide +kernel
theorem dX7_least_10 : decode cX7_least 10 = .ok (.iconst (-1), 1) := by decide +kernel
theorem dX7_least_11 : decode cX7_least 11 = .ok (.goto 15, 3) := by decide +kernel
theorem dX7_least_14 : decode cX7_least 14 = .ok (.aload_n 0, 1) := by decide +kernel
theorem dX7_least_15 : decode cX7_least 15 = .ok (.getfield 30, 3) := by decide +kernel
theorem dX7_least_18 : decode cX7_least 18 = .ok (.aload_n 0, 1) := by decide +kernel
theorem dX7_least_19 : decode cX7_least 19 = .ok (.invokevirtual 125, 3) := by decide +kernel
theorem dX7_least_22 : decode cX7_least 22 = .ok (.iconst 0, 1) := by decide +kernel
theorem dX7_least_23 : decode cX7_least 23 = .ok (.invokevirtual 257, 3) := by decide +kernel
theorem dX7_least_26 : decode cX7_least 26 = .ok (.ireturn, 1) := by decide +kernel
def F_X7_least_e   (q : Int32 → Mm → Prop)  (μ : Mm) : Prop :=
  Wp_X7_draft μ (fun r2 μ1 => ((¬ ((μ1 r2 10) = 0) → Wp_X7_draft μ1 (fun r4 μ3 => Wp_X6_run r4 (0 : Int32) μ3 (fun z6 μ5 => q z6 μ5))) ∧ ((μ1 r2 10) = 0 → q (-1 : Int32) μ1)))
def Wp_X7_least   (μ : Mm) (q : Int32 → Mm → Prop) : Prop := F_X7_least_e   q  μ
set_option maxHeartbeats 2000000 in
theorem b_X7_least_e  {g : GE} {f : FE} {q : Int32 → Mm → Prop} (cx : Cx g f cX7_least 1 RX7 8 218 0 0) (hr : (f_M f).sig.returnType = (some .int)) (hl : (f_M f).locks = false) (hQ : f_Q f = MQ (f_b f) (QW g (qI q)) (f_a f) (f_s f) 0 0 (fun q => g.2.2.2 ≤ q))   {μ : Mm} (h : F_X7_least_e   q  μ) : KW g f 1 0 0 0 [some (.ref p_ML)] [] μ := by
  unfold F_X7_least_e at h
  refine k_aload_n cx dX7_least_0 rfl rfl ?_
  refine k_callV (As := []) (rest := []) cx (m_X7_draft h) cv_X7_125 ob_ML rfl rfl rfl rfl (Nat.le_of_ble_eq_true rfl) ⟨Nat.le_of_ble_eq_true rfl, Nat.le_of_ble_eq_true rfl⟩ dX7_least_1 (fun v μ1 hq => ?_)
  obtain ⟨r2, rfl, hr_r2, h⟩ := hq
  refine k_get (o := none) (v := .int (μ1 r2 10)) cx fl_X7_129 (ob_RQ hr_r2) rfl rfl dX7_least_4 ?_
  refine k_if_ne (tgt := 14) cx dX7_least_7 (by decide) (fun hc => ?_) (fun hc => ?_)
  · replace h := h.1 hc
    refine k_aload_n cx dX7_least_14 rfl rfl ?_
    refine k_get (o := some p_SE) (v := .ref p_SE) cx fl_X7_30 ob_ML rfl rfl dX7_least_15 ?_
    refine k_aload_n cx dX7_least_18 rfl rfl ?_
    refine k_callV (As := []) (rest := [.ref p_SE]) cx (m_X7_draft h) cv_X7_125 ob_ML rfl rfl rfl rfl (Nat.le_of_ble_eq_true rfl) ⟨Nat.le_of_ble_eq_true rfl, Nat.le_of_ble_eq_true rfl⟩ dX7_least_19 (fun v μ3 hq => ?_)
    obtain ⟨r4, rfl, hr_r4, h⟩ := hq
    refine k_iconst (v := (0 : Int32)) cx dX7_least_22 (by decide +kernel) ?_
    refine k_callV (As := [.ref r4, .int (0 : Int32)]) (rest := []) cx (m_X6_run hr_r4 h) cv_X7_257 ob_SE rfl rfl rfl rfl (Nat.le_of_ble_eq_true rfl) ⟨Nat.le_of_ble_eq_true rfl, Nat.le_of_ble_eq_true rfl⟩ dX7_least_23 (fun v μ5 hq => ?_)
    obtain ⟨z6, rfl, h⟩ := hq
    exact k_ret_I cx hr hl hQ dX7_least_26 h
  · replace h := h.2 hc
    refine k_iconst (v := (-1 : Int32)) cx dX7_least_10 (by decide +kernel) ?_
    refine k_goto (tgt := 26) cx dX7_least_11 (by decide) ?_
    exact k_ret_I cx hr hl hQ dX7_least_26 h
theorem m_X7_least {g : GE} {l : Launch} {μ : Mm} {q : Int32 → Mm → Prop}  (h : Wp_X7_least   μ q) : MW g l yX7_least cX7_least 1 (some .int) 8 218 [.ref p_ML] μ (qI q) := by
  refine met_of (by decide) (Nat.le_of_ble_eq_true rfl) (by intro v hv; simp only [List.mem_cons, List.not_mem_nil, or_false] at hv; subst hv; rfl) ?_
  intro f hfl cx hr hl hQ
  exact b_X7_least_e  cx hr hl hQ (h  )
theorem dX7_leastAnew_0 : decode cX7_leastAnew 0 = .ok (.aload_n 0, 1) := by decide +kernel
theorem dX7_leastAnew_1 : decode cX7_leastAnew 1 = .ok (.invokevirtual 125, 3) := by decide +kernel
theorem dX7_leastAnew_4 : decode cX7_leastAnew 4 = .ok (.getfield 129, 3) := by decide +kernel
theorem dX7_leastAnew_7 : decode cX7_leastAnew 7 = .ok (.ifCond .ne 7, 3) := by decide +kernel
theorem dX7_leastAnew_10 : decode cX7_leastAnew 10 = .ok (.iconst (-1), 1) := by decide +kernel
theorem dX7_leastAnew_11 : decode cX7_leastAnew 11 = .ok (.goto 15, 3) := by decide +kernel
theorem dX7_leastAnew_14 : decode cX7_leastAnew 14 = .ok (.aload_n 0, 1) := by decide +kernel
theorem dX7_leastAnew_15 : decode cX7_leastAnew 15 = .ok (.getfield 30, 3) := by decide +kernel
theorem dX7_leastAnew_18 : decode cX7_leastAnew 18 = .ok (.aload_n 0, 1) := by decide +kernel
theorem dX7_leastAnew_19 : decode cX7_leastAnew 19 = .ok (.invokevirtual 125, 3) := by decide +kernel
theorem dX7_leastAnew_22 : decode cX7_leastAnew 22 = .ok (.iconst 1, 1) := by decide +kernel
theorem dX7_leastAnew_23 : decode cX7_leastAnew 23 = .ok (.invokevirtual 257, 3) := by decide +kernel
theorem dX7_leastAnew_26 : decode cX7_leastAnew 26 = .ok (.ireturn, 1) := by decide +kernel
def F_X7_leastAnew_e   (q : Int32 → Mm → Prop)  (μ : Mm) : Prop :=
  Wp_X7_draft μ (fun r2 μ1 => ((¬ ((μ1 r2 10) = 0) → Wp_X7_draft μ1 (fun r4 μ3 => Wp_X6_run r4 (1 : Int32) μ3 (fun z6 μ5 => q z6 μ5))) ∧ ((μ1 r2 10) = 0 → q (-1 : Int32) μ1)))
def Wp_X7_leastAnew   (μ : Mm) (q : Int32 → Mm → Prop) : Prop := F_X7_leastAnew_e   q  μ
set_option maxHeartbeats 2000000 in
theorem b_X7_leastAnew_e  {g : GE} {f : FE} {q : Int32 → Mm → Prop} (cx : Cx g f cX7_leastAnew 1 RX7 8 218 0 0) (hr : (f_M f).sig.returnType = (some .int)) (hl : (f_M f).locks = false) (hQ : f_Q f = MQ (f_b f) (QW g (qI q)) (f_a f) (f_s f) 0 0 (fun q => g.2.2.2 ≤ q))   {μ : Mm} (h : F_X7_leastAnew_e   q  μ) : KW g f 1 0 0 0 [some (.ref p_ML)] [] μ := by
  unfold F_X7_leastAnew_e at h
  refine k_aload_n cx dX7_leastAnew_0 rfl rfl ?_
  refine k_callV (As := []) (rest := []) cx (m_X7_draft h) cv_X7_125 ob_ML rfl rfl rfl rfl (Nat.le_of_ble_eq_true rfl) ⟨Nat.le_of_ble_eq_true rfl, Nat.le_of_ble_eq_true rfl⟩ dX7_leastAnew_1 (fun v μ1 hq => ?_)
  obtain ⟨r2, rfl, hr_r2, h⟩ := hq
  refine k_get (o := none) (v := .int (μ1 r2 10)) cx fl_X7_129 (ob_RQ hr_r2) rfl rfl dX7_leastAnew_4 ?_
  refine k_if_ne (tgt := 14) cx dX7_leastAnew_7 (by decide) (fun hc => ?_) (fun hc => ?_)
  · replace h := h.1 hc
    refine k_aload_n cx dX7_leastAnew_14 rfl rfl ?_
    refine k_get (o := some p_SE) (v := .ref p_SE) cx fl_X7_30 ob_ML rfl rfl dX7_leastAnew_15 ?_
    refine k_aload_n cx dX7_leastAnew_18 rfl rfl ?_
    refine k_callV (As := []) (rest := [.ref p_SE]) cx (m_X7_draft h) cv_X7_125 ob_ML rfl rfl rfl rfl (Nat.le_of_ble_eq_true rfl) ⟨Nat.le_of_ble_eq_true rfl, Nat.le_of_ble_eq_true rfl⟩ dX7_leastAnew_19 (fun v μ3 hq => ?_)
    obtain ⟨r4, rfl, hr_r4, h⟩ := hq
    refine k_iconst (v := (1 : Int32)) cx dX7_leastAnew_22 (by decide +kernel) ?_
    refine k_callV (As := [.ref r4, .int (1 : Int32)]) (rest := []) cx (m_X6_run hr_r4 h) cv_X7_257 ob_SE rfl rfl rfl rfl (Nat.le_of_ble_eq_true rfl) ⟨Nat.le_of_ble_eq_true rfl, Nat.le_of_ble_eq_true rfl⟩ dX7_leastAnew_23 (fun v μ5 hq => ?_)
    obtain ⟨z6, rfl, h⟩ := hq
    exact k_ret_I cx hr hl hQ dX7_leastAnew_26 h
  · replace h := h.2 hc
    refine k_iconst (v := (-1 : Int32)) cx dX7_leastAnew_10 (by decide +kernel) ?_
    refine k_goto (tgt := 26) cx dX7_leastAnew_11 (by decide) ?_
    exact k_ret_I cx hr hl hQ dX7_leastAnew_26 h
theorem m_X7_leastAnew {g : GE} {l : Launch} {μ : Mm} {q : Int32 → Mm → Prop}  (h : Wp_X7_leastAnew   μ q) : MW g l yX7_leastAnew cX7_leastAnew 1 (some .int) 8 218 [.ref p_ML] μ (qI q) := by
  refine met_of (by decide) (Nat.le_of_ble_eq_true rfl) (by intro v hv; simp only [List.mem_cons, List.not_mem_nil, or_false] at hv; subst hv; rfl) ?_
  intro f hfl cx hr hl hQ
  exact b_X7_leastAnew_e  cx hr hl hQ (h  )
theorem dX7_now_0 : decode cX7_now 0 = .ok (.aload_n 0, 1) := by decide +kernel
theorem dX7_now_1 : decode cX7_now 1 = .ok (.getfield 171, 3) := by decide +kernel
theorem dX7_now_4 : decode cX7_now 4 = .ok (.ireturn, 1) := by decide +kernel
def F_X7_now_e   (q : Int32 → Mm → Prop)  (μ : Mm) : Prop :=
  q (μ p_ML 7) μ
def Wp_X7_now   (μ : Mm) (q : Int32 → Mm → Prop) : Prop := F_X7_now_e   q  μ
set_option maxHeartbeats 2000000 in
theorem b_X7_now_e  {g : GE} {f : FE} {q : Int32 → Mm → Prop} (cx : Cx g f cX7_now 1 RX7 0 0 0 0) (hr : (f_M f).sig.returnType = (some .int)) (hl : (f_M f).locks = false) (hQ : f_Q f = MQ (f_b f) (QW g (qI q)) (f_a f) (f_s f) 0 0 (fun q => g.2.2.2 ≤ q))   {μ : Mm} (h : F_X7_now_e   q  μ) : KW g f 1 0 0 0 [some (.ref p_ML)] [] μ := by
  unfold F_X7_now_e at h
  refine k_aload_n cx dX7_now_0 rfl rfl ?_
  refine k_get (o := none) (v := .int (μ p_ML 7)) cx fl_X7_171 ob_ML rfl rfl dX7_now_1 ?_
  exact k_ret_I cx hr hl hQ dX7_now_4 h
theorem m_X7_now {g : GE} {l : Launch} {μ : Mm} {q : Int32 → Mm → Prop}  (h : Wp_X7_now   μ q) : MW g l yX7_now cX7_now 1 (some .int) 0 0 [.ref p_ML] μ (qI q) := by
  refine met_of (by decide) (Nat.le_of_ble_eq_true rfl) (by intro v hv; simp only [List.mem_cons, List.not_mem_nil, or_false] at hv; subst hv; rfl) ?_
  intro f hfl cx hr hl hQ
  exact b_X7_now_e  cx hr hl hQ (h  )
theorem dX8_areLined_0 : decode cX8_areLined 0 = .ok (.iconst 0, 1) := by decide +kernel
theorem dX8_areLined_1 : decode cX8_areLined 1 = .ok (.istore_n 3, 1) := by decide +kernel
theorem dX8_areLined_2 : decode cX8_areLined 2 = .ok (.iconst 3, 1) := by decide +kernel
theorem dX8_areLined_3 : decode cX8_areLined 3 = .ok (.aload_n 0, 1) := by decide +kernel
theorem dX8_areLined_4 : decode cX8_areLined 4 = .ok (.getfield 118, 3) := by decide +kernel
theorem dX8_areLined_7 : decode cX8_areLined 7 = .ok (.imul, 1) := by decide +kernel
theorem dX8_areLined_8 : decode cX8_areLined 8 = .ok (.istore 4, 2) := by decide +kernel
theorem dX8_areLined_10 : decode cX8_areLined 10 = .ok (.iload 4, 2) := by decide +kernel
theorem dX8_areLined_12 : decode cX8_areLined 12 = .ok (.iconst 3, 1) := by decide +kernel
theorem dX8_areLined_13 : decode cX8_areLined 13 = .ok (.aload_n 0, 1) := by decide +kernel
theorem dX8_areLined_14 : decode cX8_areLined 14 = .ok (.getfield 118, 3) := by decide +kernel
theorem dX8_areLined_17 : decode cX8_areLined 17 = .ok (.imul, 1) := by decide +kernel
theorem dX8_areLined_18 : decode cX8_areLined 18 = .ok (.aload_n 0, 1) := by decide +kernel
theorem dX8_areLined_19 : decode cX8_areLined 19 = .ok (.getfield 29, 3) := by decide +kernel
theorem dX8_areLined_22 : decode cX8_areLined 22 = .ok (.aload_n 0, 1) := by decide +kernel
theorem dX8_areLined_23 : decode cX8_areLined 23 = .ok (.getfield 118, 3) := by decide +kernel
theorem dX8_areLined_26 : decode cX8_areLined 26 = .ok (.iaload, 1) := by decide +kernel
theorem dX8_areLined_27 : decode cX8_areLined 27 = .ok (.iadd, 1) := by decide +kernel
theorem dX8_areLined_28 : decode cX8_areLined 28 = .ok (.if_icmp .ge 63, 3) := by decide +kernel
theorem dX8_areLined_31 : decode cX8_areLined 31 = .ok (.iload_n 3, 1) := by decide +kernel
theorem dX8_areLined_32 : decode cX8_areLined 32 = .ok (.ifCond .ne 47, 3) := by decide +kernel
theorem dX8_areLined_35 : decode cX8_areLined 35 = .ok (.aload_n 0, 1) := by decide +kernel
theorem dX8_areLined_36 : decode cX8_areLined 36 = .ok (.getfield 41, 3) := by decide +kernel
theorem dX8_areLined_39 : decode cX8_areLined 39 = .ok (.iload 4, 2) := by decide +kernel
theorem dX8_areLined_41 : decode cX8_areLined 41 = .ok (.iaload, 1) := by decide +kernel
theorem dX8_areLined_42 : decode cX8_areLined 42 = .ok (.iload_n 1, 1) := by decide +kernel
theorem dX8_areLined_43 : decode cX8_areLined 43 = .ok (.if_icmp .ne 14, 3) := by decide +kernel
theorem dX8_areLined_46 : decode cX8_areLined 46 = .ok (.aload_n 0, 1) := by decide +kernel
theorem dX8_areLined_47 : decode cX8_areLined 47 = .ok (.getfield 44, 3) := by decide +kernel
theorem dX8_areLined_50 : decode cX8_areLined 50 = .ok (.iload 4, 2) := by decide +kernel
theorem dX8_areLined_52 : decode cX8_areLined 52 = .ok (.iaload, 1) := by decide +kernel
theorem dX8_areLined_53 : decode cX8_areLined 53 = .ok (.iload_n 2, 1) := by decide +kernel
theorem dX8_areLined_54 : decode cX8_areLined 54 = .ok (.if_icmp .eq 25, 3) := by decide +kernel
theorem dX8_areLined_57 : decode cX8_areLined 57 = .ok (.aload_n 0, 1) := by decide +kernel
theorem dX8_areLined_58 : decode cX8_areLined 58 = .ok (.getfield 41, 3) := by decide +kernel
theorem dX8_areLined_61 : decode cX8_areLined 61 = .ok (.iload 4, 2) := by decide +kernel
theorem dX8_areLined_63 : decode cX8_areLined 63 = .ok (.iaload, 1) := by decide +kernel
theorem dX8_areLined_64 : decode cX8_areLined 64 = .ok (.iload_n 2, 1) := by decide +kernel
theorem dX8_areLined_65 : decode cX8_areLined 65 = .ok (.if_icmp .ne 18, 3) := by decide +kernel
theorem dX8_areLined_68 : decode cX8_areLined 68 = .ok (.aload_n 0, 1) := by decide +kernel
theorem dX8_areLined_69 : decode cX8_areLined 69 = .ok (.getfield 44, 3) := by decide +kernel
theorem dX8_areLined_72 : decode cX8_areLined 72 = .ok (.iload 4, 2) := by decide +kernel
theorem dX8_areLined_74 : decode cX8_areLined 74 = .ok (.iaload, 1) := by decide +kernel
theorem dX8_areLined_75 : decode cX8_areLined 75 = .ok (.iload_n 1, 1) := by decide +kernel
theorem dX8_areLined_76 : decode cX8_areLined 76 = .ok (.if_icmp .ne 7, 3) := by decide +kernel
theorem dX8_areLined_79 : decode cX8_areLined 79 = .ok (.iconst 1, 1) := by decide +kernel
theorem dX8_areLined_80 : decode cX8_areLined 80 = .ok (.goto 4, 3) := by decide +kernel
theorem dX8_areLined_83 : decode cX8_areLined 83 = .ok (.iconst 0, 1) := by decide +kernel
theorem dX8_areLined_84 : decode cX8_areLined 84 = .ok (.istore_n 3, 1) := by decide +kernel
theorem dX8_areLined_85 : decode cX8_areLined 85 = .ok (.iinc 4 1, 3) := by decide +kernel
theorem dX8_areLined_88 : decode cX8_areLined 88 = .ok (.goto (-78), 3) := by decide +kernel
theorem dX8_areLined_91 : decode cX8_areLined 91 = .ok (.iload_n 3, 1) := by decide +kernel
theorem dX8_areLined_92 : decode cX8_areLined 92 = .ok (.ireturn, 1) := by decide +kernel
def F_X8_areLined_10  (K10 : Int32 → Int32 → Int32 → Int32 → Mm → Prop) (K57 : Int32 → Int32 → Int32 → Mm → Prop) (q : Bool → Mm → Prop) (x1 : Int32) (x2 : Int32) (x3 : Int32) (x4 : Int32) (μ : Mm) : Prop :=
  vp_in (μ p_MO 8) 13 ∧ (((((3 : Int32) * (μ p_MO 8)) + (μ p_MO_lines ((μ p_MO 8)).toNatClampNeg)) ≤ x4 → ∃ b : Bool, x3 = bI b ∧ q b μ) ∧ (¬ ((((3 : Int32) * (μ p_MO 8)) + (μ p_MO_lines ((μ p_MO 8)).toNatClampNeg)) ≤ x4) → ((¬ (x3 = 0) → K10 x1 x2 (1 : Int32) (x4 + (1 : Int32)) μ) ∧ (x3 = 0 → vp_in x4 39 ∧ ((¬ ((μ p_MO_lineFrom (x4).toNatClampNeg) = x1) → K57 x1 x2 x4 μ) ∧ ((μ p_MO_lineFrom (x4).toNatClampNeg) = x1 → vp_in x4 39 ∧ (((μ p_MO_lineTo (x4).toNatClampNeg) = x2 → K10 x1 x2 (1 : Int32) (x4 + (1 : Int32)) μ) ∧ (¬ ((μ p_MO_lineTo (x4).toNatClampNeg) = x2) → K57 x1 x2 x4 μ))))))))
def F_X8_areLined_57  (K10 : Int32 → Int32 → Int32 → Int32 → Mm → Prop) (K57 : Int32 → Int32 → Int32 → Mm → Prop) (q : Bool → Mm → Prop) (x1 : Int32) (x2 : Int32) (x4 : Int32) (μ : Mm) : Prop :=
  vp_in x4 39 ∧ ((¬ ((μ p_MO_lineFrom (x4).toNatClampNeg) = x2) → K10 x1 x2 (0 : Int32) (x4 + (1 : Int32)) μ) ∧ ((μ p_MO_lineFrom (x4).toNatClampNeg) = x2 → vp_in x4 39 ∧ ((¬ ((μ p_MO_lineTo (x4).toNatClampNeg) = x1) → K10 x1 x2 (0 : Int32) (x4 + (1 : Int32)) μ) ∧ ((μ p_MO_lineTo (x4).toNatClampNeg) = x1 → K10 x1 x2 (1 : Int32) (x4 + (1 : Int32)) μ))))
def F_X8_areLined_e  (K10 : Int32 → Int32 → Int32 → Int32 → Mm → Prop) (K57 : Int32 → Int32 → Int32 → Mm → Prop) (q : Bool → Mm → Prop) (x1 : Int32) (x2 : Int32) (μ : Mm) : Prop :=
  K10 x1 x2 (0 : Int32) ((3 : Int32) * (μ p_MO 8)) μ
def Wp_X8_areLined  (x1 : Int32) (x2 : Int32) (μ : Mm) (q : Bool → Mm → Prop) : Prop := ∀ (K10 : Int32 → Int32 → Int32 → Int32 → Mm → Prop) (K57 : Int32 → Int32 → Int32 → Mm → Prop), (∀ (x1 : Int32) (x2 : Int32) (x3 : Int32) (x4 : Int32) (μ : Mm), F_X8_areLined_10  K10 K57 q x1 x2 x3 x4 μ → K10 x1 x2 x3 x4 μ) → (∀ (x1 : Int32) (x2 : Int32) (x4 : Int32) (μ : Mm), F_X8_areLined_57  K10 K57 q x1 x2 x4 μ → K57 x1 x2 x4 μ) → F_X8_areLined_e  K10 K57 q x1 x2 μ
abbrev KK_X8_areLined_10 (g : GE) (f : FE)  : Int32 → Int32 → Int32 → Int32 → Mm → Prop := fun x1 x2 x3 x4 μ => KW g f 5 0 0 10 [some (.ref p_MO), some (.int x1), some (.int x2), some (.int x3), some (.int x4)] [] μ
abbrev KK_X8_areLined_57 (g : GE) (f : FE)  : Int32 → Int32 → Int32 → Mm → Prop := fun x1 x2 x4 μ => KW g f 5 0 0 57 [some (.ref p_MO), some (.int x1), some (.int x2), none, some (.int x4)] [] μ
set_option maxHeartbeats 2000000 in
theorem b_X8_areLined_10  {g : GE} {f : FE} {q : Bool → Mm → Prop} (cx : Cx g f cX8_areLined 5 RX8 0 0 0 0) (hr : (f_M f).sig.returnType = (some .boolean)) (hl : (f_M f).locks = false) (hQ : f_Q f = MQ (f_b f) (QW g (qZ q)) (f_a f) (f_s f) 0 0 (fun q => g.2.2.2 ≤ q))  {x1 : Int32} {x2 : Int32} {x3 : Int32} {x4 : Int32} {μ : Mm} (h : F_X8_areLined_10  (KK_X8_areLined_10 g f ) (KK_X8_areLined_57 g f ) q x1 x2 x3 x4 μ) : KK_X8_areLined_10 g f  x1 x2 x3 x4 μ := by
  unfold F_X8_areLined_10 at h
  show KW g f 5 0 0 10 [some (.ref p_MO), some (.int x1), some (.int x2), some (.int x3), some (.int x4)] [] μ
  refine k_iload cx dX8_areLined_10 rfl ?_
  refine k_iconst (v := (3 : Int32)) cx dX8_areLined_12 (by decide +kernel) ?_
  refine k_aload_n cx dX8_areLined_13 rfl rfl ?_
  refine k_get (o := none) (v := .int (μ p_MO 8)) cx fl_X8_118 ob_MO rfl rfl dX8_areLined_14 ?_
  refine k_imul cx dX8_areLined_17 ?_
  refine k_aload_n cx dX8_areLined_18 rfl rfl ?_
  refine k_get (o := some p_MO_lines) (v := .ref p_MO_lines) cx fl_X8_29 ob_MO rfl rfl dX8_areLined_19 ?_
  refine k_aload_n cx dX8_areLined_22 rfl rfl ?_
  refine k_get (o := none) (v := .int (μ p_MO 8)) cx fl_X8_118 ob_MO rfl rfl dX8_areLined_23 ?_
  obtain ⟨hi, h⟩ := h
  refine k_iald cx ar_MO_lines hi dX8_areLined_26 ?_
  refine k_iadd cx dX8_areLined_27 ?_
  refine k_icmp_ge (tgt := 91) cx dX8_areLined_28 (by decide) (fun hc => ?_) (fun hc => ?_)
  · replace h := h.1 hc
    refine k_iload_n cx dX8_areLined_91 rfl rfl ?_
    obtain ⟨b, hb, h⟩ := h
    exact k_ret_Z (b := b) cx hr hl hQ dX8_areLined_92 hb h
  · replace h := h.2 hc
    refine k_iload_n cx dX8_areLined_31 rfl rfl ?_
    refine k_if_ne (tgt := 79) cx dX8_areLined_32 (by decide) (fun hc => ?_) (fun hc => ?_)
    · replace h := h.1 hc
      refine k_iconst (v := (1 : Int32)) cx dX8_areLined_79 (by decide +kernel) ?_
      refine k_goto (tgt := 84) cx dX8_areLined_80 (by decide) ?_
      refine k_istore_n cx dX8_areLined_84 rfl (by decide) ?_
      refine k_iinc (v := (x4 + (1 : Int32))) cx dX8_areLined_85 rfl rfl (by decide) ?_
      refine k_goto (tgt := 10) cx dX8_areLined_88 (by decide) ?_
      exact k_weak h (lsLe.keep (lsLe.keep (lsLe.keep (lsLe.keep (lsLe.keep lsLe.nil)))))
    · replace h := h.2 hc
      refine k_aload_n cx dX8_areLined_35 rfl rfl ?_
      refine k_get (o := some p_MO_lineFrom) (v := .ref p_MO_lineFrom) cx fl_X8_41 ob_MO rfl rfl dX8_areLined_36 ?_
      refine k_iload cx dX8_areLined_39 rfl ?_
      obtain ⟨hi, h⟩ := h
      refine k_iald cx ar_MO_lineFrom hi dX8_areLined_41 ?_
      refine k_iload_n cx dX8_areLined_42 rfl rfl ?_
      refine k_icmp_ne (tgt := 57) cx dX8_areLined_43 (by decide) (fun hc => ?_) (fun hc => ?_)
      · replace h := h.1 hc
        exact k_weak h (lsLe.keep (lsLe.keep (lsLe.keep (lsLe.drop (lsLe.keep lsLe.nil)))))
      · replace h := h.2 hc
        refine k_aload_n cx dX8_areLined_46 rfl rfl ?_
        refine k_get (o := some p_MO_lineTo) (v := .ref p_MO_lineTo) cx fl_X8_44 ob_MO rfl rfl dX8_areLined_47 ?_
        refine k_iload cx dX8_areLined_50 rfl ?_
        obtain ⟨hi, h⟩ := h
        refine k_iald cx ar_MO_lineTo hi dX8_areLined_52 ?_
        refine k_iload_n cx dX8_areLined_53 rfl rfl ?_
        refine k_icmp_eq (tgt := 79) cx dX8_areLined_54 (by decide) (fun hc => ?_) (fun hc => ?_)
        · replace h := h.1 hc
          refine k_iconst (v := (1 : Int32)) cx dX8_areLined_79 (by decide +kernel) ?_
          refine k_goto (tgt := 84) cx dX8_areLined_80 (by decide) ?_
          refine k_istore_n cx dX8_areLined_84 rfl (by decide) ?_
          refine k_iinc (v := (x4 + (1 : Int32))) cx dX8_areLined_85 rfl rfl (by decide) ?_
          refine k_goto (tgt := 10) cx dX8_areLined_88 (by decide) ?_
          exact k_weak h (lsLe.keep (lsLe.keep (lsLe.keep (lsLe.keep (lsLe.keep lsLe.nil)))))
        · replace h := h.2 hc
          exact k_weak h (lsLe.keep (lsLe.keep (lsLe.keep (lsLe.drop (lsLe.keep lsLe.nil)))))
set_option maxHeartbeats 2000000 in
theorem b_X8_areLined_57  {g : GE} {f : FE} {q : Bool → Mm → Prop} (cx : Cx g f cX8_areLined 5 RX8 0 0 0 0) (hr : (f_M f).sig.returnType = (some .boolean)) (hl : (f_M f).locks = false) (hQ : f_Q f = MQ (f_b f) (QW g (qZ q)) (f_a f) (f_s f) 0 0 (fun q => g.2.2.2 ≤ q))  {x1 : Int32} {x2 : Int32} {x4 : Int32} {μ : Mm} (h : F_X8_areLined_57  (KK_X8_areLined_10 g f ) (KK_X8_areLined_57 g f ) q x1 x2 x4 μ) : KK_X8_areLined_57 g f  x1 x2 x4 μ := by
  unfold F_X8_areLined_57 at h
  show KW g f 5 0 0 57 [some (.ref p_MO), some (.int x1), some (.int x2), none, some (.int x4)] [] μ
  refine k_aload_n cx dX8_areLined_57 rfl rfl ?_
  refine k_get (o := some p_MO_lineFrom) (v := .ref p_MO_lineFrom) cx fl_X8_41 ob_MO rfl rfl dX8_areLined_58 ?_
  refine k_iload cx dX8_areLined_61 rfl ?_
  obtain ⟨hi, h⟩ := h
  refine k_iald cx ar_MO_lineFrom hi dX8_areLined_63 ?_
  refine k_iload_n cx dX8_areLined_64 rfl rfl ?_
  refine k_icmp_ne (tgt := 83) cx dX8_areLined_65 (by decide) (fun hc => ?_) (fun hc => ?_)
  · replace h := h.1 hc
    refine k_iconst (v := (0 : Int32)) cx dX8_areLined_83 (by decide +kernel) ?_
    refine k_istore_n cx dX8_areLined_84 rfl (by decide) ?_
    refine k_iinc (v := (x4 + (1 : Int32))) cx dX8_areLined_85 rfl rfl (by decide) ?_
    refine k_goto (tgt := 10) cx dX8_areLined_88 (by decide) ?_
    exact k_weak h (lsLe.keep (lsLe.keep (lsLe.keep (lsLe.keep (lsLe.keep lsLe.nil)))))
  · replace h := h.2 hc
    refine k_aload_n cx dX8_areLined_68 rfl rfl ?_
    refine k_get (o := some p_MO_lineTo) (v := .ref p_MO_lineTo) cx fl_X8_44 ob_MO rfl rfl dX8_areLined_69 ?_
    refine k_iload cx dX8_areLined_72 rfl ?_
    obtain ⟨hi, h⟩ := h
    refine k_iald cx ar_MO_lineTo hi dX8_areLined_74 ?_
    refine k_iload_n cx dX8_areLined_75 rfl rfl ?_
    refine k_icmp_ne (tgt := 83) cx dX8_areLined_76 (by decide) (fun hc => ?_) (fun hc => ?_)
    · replace h := h.1 hc
      refine k_iconst (v := (0 : Int32)) cx dX8_areLined_83 (by decide +kernel) ?_
      refine k_istore_n cx dX8_areLined_84 rfl (by decide) ?_
      refine k_iinc (v := (x4 + (1 : Int32))) cx dX8_areLined_85 rfl rfl (by decide) ?_
      refine k_goto (tgt := 10) cx dX8_areLined_88 (by decide) ?_
      exact k_weak h (lsLe.keep (lsLe.keep (lsLe.keep (lsLe.keep (lsLe.keep lsLe.nil)))))
    · replace h := h.2 hc
      refine k_iconst (v := (1 : Int32)) cx dX8_areLined_79 (by decide +kernel) ?_
      refine k_goto (tgt := 84) cx dX8_areLined_80 (by decide) ?_
      refine k_istore_n cx dX8_areLined_84 rfl (by decide) ?_
      refine k_iinc (v := (x4 + (1 : Int32))) cx dX8_areLined_85 rfl rfl (by decide) ?_
      refine k_goto (tgt := 10) cx dX8_areLined_88 (by decide) ?_
      exact k_weak h (lsLe.keep (lsLe.keep (lsLe.keep (lsLe.keep (lsLe.keep lsLe.nil)))))
set_option maxHeartbeats 2000000 in
theorem b_X8_areLined_e  {g : GE} {f : FE} {q : Bool → Mm → Prop} (cx : Cx g f cX8_areLined 5 RX8 0 0 0 0) (hr : (f_M f).sig.returnType = (some .boolean)) (hl : (f_M f).locks = false) (hQ : f_Q f = MQ (f_b f) (QW g (qZ q)) (f_a f) (f_s f) 0 0 (fun q => g.2.2.2 ≤ q))  {x1 : Int32} {x2 : Int32} {μ : Mm} (h : F_X8_areLined_e  (KK_X8_areLined_10 g f ) (KK_X8_areLined_57 g f ) q x1 x2 μ) : KW g f 5 0 0 0 [some (.ref p_MO), some (.int x1), some (.int x2), none, none] [] μ := by
  unfold F_X8_areLined_e at h
  refine k_iconst (v := (0 : Int32)) cx dX8_areLined_0 (by decide +kernel) ?_
  refine k_istore_n cx dX8_areLined_1 rfl (by decide) ?_
  refine k_iconst (v := (3 : Int32)) cx dX8_areLined_2 (by decide +kernel) ?_
  refine k_aload_n cx dX8_areLined_3 rfl rfl ?_
  refine k_get (o := none) (v := .int (μ p_MO 8)) cx fl_X8_118 ob_MO rfl rfl dX8_areLined_4 ?_
  refine k_imul cx dX8_areLined_7 ?_
  refine k_istore cx dX8_areLined_8 (by decide) ?_
  exact k_weak h (lsLe.keep (lsLe.keep (lsLe.keep (lsLe.keep (lsLe.keep lsLe.nil)))))
theorem m_X8_areLined {g : GE} {l : Launch} {μ : Mm} {q : Bool → Mm → Prop} {x1 : Int32} {x2 : Int32}  (h : Wp_X8_areLined  x1 x2 μ q) : MW g l yX8_areLined cX8_areLined 5 (some .boolean) 0 0 [.ref p_MO, .int x1, .int x2] μ (qZ q) := by
  refine met_of (by decide) (Nat.le_of_ble_eq_true rfl) (by intro v hv; simp only [List.mem_cons, List.not_mem_nil, or_false] at hv; rcases hv with rfl | rfl | rfl <;> rfl) ?_
  intro f hfl cx hr hl hQ
  exact b_X8_areLined_e  cx hr hl hQ (h (KK_X8_areLined_10 g f ) (KK_X8_areLined_57 g f ) (fun _ _ _ _ _ h => b_X8_areLined_10  cx hr hl hQ h) (fun _ _ _ _ h => b_X8_areLined_57  cx hr hl hQ h))
theorem dX8_areLinked_0 : decode cX8_areLinked 0 = .ok (.iconst 0, 1) := by decide +kernel
theorem dX8_areLinked_1 : decode cX8_areLinked 1 = .ok (.istore_n 3, 1) := by decide +kernel
theorem dX8_areLinked_2 : decode cX8_areLinked 2 = .ok (.iconst 0, 1) := by decide +kernel
theorem dX8_areLinked_3 : decode cX8_areLinked 3 = .ok (.istore 4, 2) := by decide +kernel
theorem dX8_areLinked_5 : decode cX8_areLinked 5 = .ok (.iload 4, 2) := by decide +kernel
theorem dX8_areLinked_7 : decode cX8_areLinked 7 = .ok (.aload_n 0, 1) := by decide +kernel
theorem dX8_areLinked_8 : decode cX8_areLinked 8 = .ok (.getfield 115, 3) := by decide +kernel
theorem dX8_areLinked_11 : decode cX8_areLinked 11 = .ok (.if_icmp .ge 63, 3) := by decide +kernel
theorem dX8_areLinked_14 : decode cX8_areLinked 14 = .ok (.iload_n 3, 1) := by decide +kernel
theorem dX8_areLinked_15 : decode cX8_areLinked 15 = .ok (.ifCond .ne 47, 3) := by decide +kernel
theorem dX8_areLinked_18 : decode cX8_areLinked 18 = .ok (.aload_n 0, 1) := by decide +kernel
theorem dX8_areLinked_19 : decode cX8_areLinked 19 = .ok (.getfield 13, 3) := by decide +kernel
theorem dX8_areLinked_22 : decode cX8_areLinked 22 = .ok (.iload 4, 2) := by decide +kernel
theorem dX8_areLinked_24 : decode cX8_areLinked 24 = .ok (.iaload, 1) := by decide +kernel
theorem dX8_areLinked_25 : decode cX8_areLinked 25 = .ok (.iload_n 1, 1) := by decide +kernel
theorem dX8_areLinked_26 : decode cX8_areLinked 26 = .ok (.if_icmp .ne 14, 3) := by decide +kernel
theorem dX8_areLinked_29 : decode cX8_areLinked 29 = .ok (.aload_n 0, 1) := by decide +kernel
theorem dX8_areLinked_30 : decode cX8_areLinked 30 = .ok (.getfield 16, 3) := by decide +kernel
theorem dX8_areLinked_33 : decode cX8_areLinked 33 = .ok (.iload 4, 2) := by decide +kernel
theorem dX8_areLinked_35 : decode cX8_areLinked 35 = .ok (.iaload, 1) := by decide +kernel
theorem dX8_areLinked_36 : decode cX8_areLinked 36 = .ok (.iload_n 2, 1) := by decide +kernel
theorem dX8_areLinked_37 : decode cX8_areLinked 37 = .ok (.if_icmp .eq 25, 3) := by decide +kernel
theorem dX8_areLinked_40 : decode cX8_areLinked 40 = .ok (.aload_n 0, 1) := by decide +kernel
theorem dX8_areLinked_41 : decode cX8_areLinked 41 = .ok (.getfield 13, 3) := by decide +kernel
theorem dX8_areLinked_44 : decode cX8_areLinked 44 = .ok (.iload 4, 2) := by decide +kernel
theorem dX8_areLinked_46 : decode cX8_areLinked 46 = .ok (.iaload, 1) := by decide +kernel
theorem dX8_areLinked_47 : decode cX8_areLinked 47 = .ok (.iload_n 2, 1) := by decide +kernel
theorem dX8_areLinked_48 : decode cX8_areLinked 48 = .ok (.if_icmp .ne 18, 3) := by decide +kernel
theorem dX8_areLinked_51 : decode cX8_areLinked 51 = .ok (.aload_n 0, 1) := by decide +kernel
theorem dX8_areLinked_52 : decode cX8_areLinked 52 = .ok (.getfield 16, 3) := by decide +kernel
theorem dX8_areLinked_55 : decode cX8_areLinked 55 = .ok (.iload 4, 2) := by decide +kernel
theorem dX8_areLinked_57 : decode cX8_areLinked 57 = .ok (.iaload, 1) := by decide +kernel
theorem dX8_areLinked_58 : decode cX8_areLinked 58 = .ok (.iload_n 1, 1) := by decide +kernel
theorem dX8_areLinked_59 : decode cX8_areLinked 59 = .ok (.if_icmp .ne 7, 3) := by decide +kernel
theorem dX8_areLinked_62 : decode cX8_areLinked 62 = .ok (.iconst 1, 1) := by decide +kernel
theorem dX8_areLinked_63 : decode cX8_areLinked 63 = .ok (.goto 4, 3) := by decide +kernel
theorem dX8_areLinked_66 : decode cX8_areLinked 66 = .ok (.iconst 0, 1) := by decide +kernel
theorem dX8_areLinked_67 : decode cX8_areLinked 67 = .ok (.istore_n 3, 1) := by decide +kernel
theorem dX8_areLinked_68 : decode cX8_areLinked 68 = .ok (.iinc 4 1, 3) := by decide +kernel
theorem dX8_areLinked_71 : decode cX8_areLinked 71 = .ok (.goto (-66), 3) := by decide +kernel
theorem dX8_areLinked_74 : decode cX8_areLinked 74 = .ok (.iload_n 3, 1) := by decide +kernel
theorem dX8_areLinked_75 : decode cX8_areLinked 75 = .ok (.ireturn, 1) := by decide +kernel
def F_X8_areLinked_5  (K5 : Int32 → Int32 → Int32 → Int32 → Mm → Prop) (K40 : Int32 → Int32 → Int32 → Mm → Prop) (q : Bool → Mm → Prop) (x1 : Int32) (x2 : Int32) (x3 : Int32) (x4 : Int32) (μ : Mm) : Prop :=
  (((μ p_MO 3) ≤ x4 → ∃ b : Bool, x3 = bI b ∧ q b μ) ∧ (¬ ((μ p_MO 3) ≤ x4) → ((¬ (x3 = 0) → K5 x1 x2 (1 : Int32) (x4 + (1 : Int32)) μ) ∧ (x3 = 0 → vp_in x4 9 ∧ ((¬ ((μ p_MO_one (x4).toNatClampNeg) = x1) → K40 x1 x2 x4 μ) ∧ ((μ p_MO_one (x4).toNatClampNeg) = x1 → vp_in x4 9 ∧ (((μ p_MO_other (x4).toNatClampNeg) = x2 → K5 x1 x2 (1 : Int32) (x4 + (1 : Int32)) μ) ∧ (¬ ((μ p_MO_other (x4).toNatClampNeg) = x2) → K40 x1 x2 x4 μ))))))))
def F_X8_areLinked_40  (K5 : Int32 → Int32 → Int32 → Int32 → Mm → Prop) (K40 : Int32 → Int32 → Int32 → Mm → Prop) (q : Bool → Mm → Prop) (x1 : Int32) (x2 : Int32) (x4 : Int32) (μ : Mm) : Prop :=
  vp_in x4 9 ∧ ((¬ ((μ p_MO_one (x4).toNatClampNeg) = x2) → K5 x1 x2 (0 : Int32) (x4 + (1 : Int32)) μ) ∧ ((μ p_MO_one (x4).toNatClampNeg) = x2 → vp_in x4 9 ∧ ((¬ ((μ p_MO_other (x4).toNatClampNeg) = x1) → K5 x1 x2 (0 : Int32) (x4 + (1 : Int32)) μ) ∧ ((μ p_MO_other (x4).toNatClampNeg) = x1 → K5 x1 x2 (1 : Int32) (x4 + (1 : Int32)) μ))))
def F_X8_areLinked_e  (K5 : Int32 → Int32 → Int32 → Int32 → Mm → Prop) (K40 : Int32 → Int32 → Int32 → Mm → Prop) (q : Bool → Mm → Prop) (x1 : Int32) (x2 : Int32) (μ : Mm) : Prop :=
  K5 x1 x2 (0 : Int32) (0 : Int32) μ
def Wp_X8_areLinked  (x1 : Int32) (x2 : Int32) (μ : Mm) (q : Bool → Mm → Prop) : Prop := ∀ (K5 : Int32 → Int32 → Int32 → Int32 → Mm → Prop) (K40 : Int32 → Int32 → Int32 → Mm → Prop), (∀ (x1 : Int32) (x2 : Int32) (x3 : Int32) (x4 : Int32) (μ : Mm), F_X8_areLinked_5  K5 K40 q x1 x2 x3 x4 μ → K5 x1 x2 x3 x4 μ) → (∀ (x1 : Int32) (x2 : Int32) (x4 : Int32) (μ : Mm), F_X8_areLinked_40  K5 K40 q x1 x2 x4 μ → K40 x1 x2 x4 μ) → F_X8_areLinked_e  K5 K40 q x1 x2 μ
abbrev KK_X8_areLinked_5 (g : GE) (f : FE)  : Int32 → Int32 → Int32 → Int32 → Mm → Prop := fun x1 x2 x3 x4 μ => KW g f 5 0 0 5 [some (.ref p_MO), some (.int x1), some (.int x2), some (.int x3), some (.int x4)] [] μ
abbrev KK_X8_areLinked_40 (g : GE) (f : FE)  : Int32 → Int32 → Int32 → Mm → Prop := fun x1 x2 x4 μ => KW g f 5 0 0 40 [some (.ref p_MO), some (.int x1), some (.int x2), none, some (.int x4)] [] μ
set_option maxHeartbeats 2000000 in
theorem b_X8_areLinked_5  {g : GE} {f : FE} {q : Bool → Mm → Prop} (cx : Cx g f cX8_areLinked 5 RX8 0 0 0 0) (hr : (f_M f).sig.returnType = (some .boolean)) (hl : (f_M f).locks = false) (hQ : f_Q f = MQ (f_b f) (QW g (qZ q)) (f_a f) (f_s f) 0 0 (fun q => g.2.2.2 ≤ q))  {x1 : Int32} {x2 : Int32} {x3 : Int32} {x4 : Int32} {μ : Mm} (h : F_X8_areLinked_5  (KK_X8_areLinked_5 g f ) (KK_X8_areLinked_40 g f ) q x1 x2 x3 x4 μ) : KK_X8_areLinked_5 g f  x1 x2 x3 x4 μ := by
  unfold F_X8_areLinked_5 at h
  show KW g f 5 0 0 5 [some (.ref p_MO), some (.int x1), some (.int x2), some (.int x3), some (.int x4)] [] μ
  refine k_iload cx dX8_areLinked_5 rfl ?_
  refine k_aload_n cx dX8_areLinked_7 rfl rfl ?_
  refine k_get (o := none) (v := .int (μ p_MO 3)) cx fl_X8_115 ob_MO rfl rfl dX8_areLinked_8 ?_
  refine k_icmp_ge (tgt := 74) cx dX8_areLinked_11 (by decide) (fun hc => ?_) (fun hc => ?_)
  · replace h := h.1 hc
    refine k_iload_n cx dX8_areLinked_74 rfl rfl ?_
    obtain ⟨b, hb, h⟩ := h
    exact k_ret_Z (b := b) cx hr hl hQ dX8_areLinked_75 hb h
  · replace h := h.2 hc
    refine k_iload_n cx dX8_areLinked_14 rfl rfl ?_
    refine k_if_ne (tgt := 62) cx dX8_areLinked_15 (by decide) (fun hc => ?_) (fun hc => ?_)
    · replace h := h.1 hc
      refine k_iconst (v := (1 : Int32)) cx dX8_areLinked_62 (by decide +kernel) ?_
      refine k_goto (tgt := 67) cx dX8_areLinked_63 (by decide) ?_
      refine k_istore_n cx dX8_areLinked_67 rfl (by decide) ?_
      refine k_iinc (v := (x4 + (1 : Int32))) cx dX8_areLinked_68 rfl rfl (by decide) ?_
      refine k_goto (tgt := 5) cx dX8_areLinked_71 (by decide) ?_
      exact k_weak h (lsLe.keep (lsLe.keep (lsLe.keep (lsLe.keep (lsLe.keep lsLe.nil)))))
    · replace h := h.2 hc
      refine k_aload_n cx dX8_areLinked_18 rfl rfl ?_
      refine k_get (o := some p_MO_one) (v := .ref p_MO_one) cx fl_X8_13 ob_MO rfl rfl dX8_areLinked_19 ?_
      refine k_iload cx dX8_areLinked_22 rfl ?_
      obtain ⟨hi, h⟩ := h
      refine k_iald cx ar_MO_one hi dX8_areLinked_24 ?_
      refine k_iload_n cx dX8_areLinked_25 rfl rfl ?_
      refine k_icmp_ne (tgt := 40) cx dX8_areLinked_26 (by decide) (fun hc => ?_) (fun hc => ?_)
      · replace h := h.1 hc
        exact k_weak h (lsLe.keep (lsLe.keep (lsLe.keep (lsLe.drop (lsLe.keep lsLe.nil)))))
      · replace h := h.2 hc
        refine k_aload_n cx dX8_areLinked_29 rfl rfl ?_
        refine k_get (o := some p_MO_other) (v := .ref p_MO_other) cx fl_X8_16 ob_MO rfl rfl dX8_areLinked_30 ?_
        refine k_iload cx dX8_areLinked_33 rfl ?_
        obtain ⟨hi, h⟩ := h
        refine k_iald cx ar_MO_other hi dX8_areLinked_35 ?_
        refine k_iload_n cx dX8_areLinked_36 rfl rfl ?_
        refine k_icmp_eq (tgt := 62) cx dX8_areLinked_37 (by decide) (fun hc => ?_) (fun hc => ?_)
        · replace h := h.1 hc
          refine k_iconst (v := (1 : Int32)) cx dX8_areLinked_62 (by decide +kernel) ?_
          refine k_goto (tgt := 67) cx dX8_areLinked_63 (by decide) ?_
          refine k_istore_n cx dX8_areLinked_67 rfl (by decide) ?_
          refine k_iinc (v := (x4 + (1 : Int32))) cx dX8_areLinked_68 rfl rfl (by decide) ?_
          refine k_goto (tgt := 5) cx dX8_areLinked_71 (by decide) ?_
          exact k_weak h (lsLe.keep (lsLe.keep (lsLe.keep (lsLe.keep (lsLe.keep lsLe.nil)))))
        · replace h := h.2 hc
          exact k_weak h (lsLe.keep (lsLe.keep (lsLe.keep (lsLe.drop (lsLe.keep lsLe.nil)))))
set_option maxHeartbeats 2000000 in
theorem b_X8_areLinked_40  {g : GE} {f : FE} {q : Bool → Mm → Prop} (cx : Cx g f cX8_areLinked 5 RX8 0 0 0 0) (hr : (f_M f).sig.returnType = (some .boolean)) (hl : (f_M f).locks = false) (hQ : f_Q f = MQ (f_b f) (QW g (qZ q)) (f_a f) (f_s f) 0 0 (fun q => g.2.2.2 ≤ q))  {x1 : Int32} {x2 : Int32} {x4 : Int32} {μ : Mm} (h : F_X8_areLinked_40  (KK_X8_areLinked_5 g f ) (KK_X8_areLinked_40 g f ) q x1 x2 x4 μ) : KK_X8_areLinked_40 g f  x1 x2 x4 μ := by
  unfold F_X8_areLinked_40 at h
  show KW g f 5 0 0 40 [some (.ref p_MO), some (.int x1), some (.int x2), none, some (.int x4)] [] μ
  refine k_aload_n cx dX8_areLinked_40 rfl rfl ?_
  refine k_get (o := some p_MO_one) (v := .ref p_MO_one) cx fl_X8_13 ob_MO rfl rfl dX8_areLinked_41 ?_
  refine k_iload cx dX8_areLinked_44 rfl ?_
  obtain ⟨hi, h⟩ := h
  refine k_iald cx ar_MO_one hi dX8_areLinked_46 ?_
  refine k_iload_n cx dX8_areLinked_47 rfl rfl ?_
  refine k_icmp_ne (tgt := 66) cx dX8_areLinked_48 (by decide) (fun hc => ?_) (fun hc => ?_)
  · replace h := h.1 hc
    refine k_iconst (v := (0 : Int32)) cx dX8_areLinked_66 (by decide +kernel) ?_
    refine k_istore_n cx dX8_areLinked_67 rfl (by decide) ?_
    refine k_iinc (v := (x4 + (1 : Int32))) cx dX8_areLinked_68 rfl rfl (by decide) ?_
    refine k_goto (tgt := 5) cx dX8_areLinked_71 (by decide) ?_
    exact k_weak h (lsLe.keep (lsLe.keep (lsLe.keep (lsLe.keep (lsLe.keep lsLe.nil)))))
  · replace h := h.2 hc
    refine k_aload_n cx dX8_areLinked_51 rfl rfl ?_
    refine k_get (o := some p_MO_other) (v := .ref p_MO_other) cx fl_X8_16 ob_MO rfl rfl dX8_areLinked_52 ?_
    refine k_iload cx dX8_areLinked_55 rfl ?_
    obtain ⟨hi, h⟩ := h
    refine k_iald cx ar_MO_other hi dX8_areLinked_57 ?_
    refine k_iload_n cx dX8_areLinked_58 rfl rfl ?_
    refine k_icmp_ne (tgt := 66) cx dX8_areLinked_59 (by decide) (fun hc => ?_) (fun hc => ?_)
    · replace h := h.1 hc
      refine k_iconst (v := (0 : Int32)) cx dX8_areLinked_66 (by decide +kernel) ?_
      refine k_istore_n cx dX8_areLinked_67 rfl (by decide) ?_
      refine k_iinc (v := (x4 + (1 : Int32))) cx dX8_areLinked_68 rfl rfl (by decide) ?_
      refine k_goto (tgt := 5) cx dX8_areLinked_71 (by decide) ?_
      exact k_weak h (lsLe.keep (lsLe.keep (lsLe.keep (lsLe.keep (lsLe.keep lsLe.nil)))))
    · replace h := h.2 hc
      refine k_iconst (v := (1 : Int32)) cx dX8_areLinked_62 (by decide +kernel) ?_
      refine k_goto (tgt := 67) cx dX8_areLinked_63 (by decide) ?_
      refine k_istore_n cx dX8_areLinked_67 rfl (by decide) ?_
      refine k_iinc (v := (x4 + (1 : Int32))) cx dX8_areLinked_68 rfl rfl (by decide) ?_
      refine k_goto (tgt := 5) cx dX8_areLinked_71 (by decide) ?_
      exact k_weak h (lsLe.keep (lsLe.keep (lsLe.keep (lsLe.keep (lsLe.keep lsLe.nil)))))
set_option maxHeartbeats 2000000 in
theorem b_X8_areLinked_e  {g : GE} {f : FE} {q : Bool → Mm → Prop} (cx : Cx g f cX8_areLinked 5 RX8 0 0 0 0) (hr : (f_M f).sig.returnType = (some .boolean)) (hl : (f_M f).locks = false) (hQ : f_Q f = MQ (f_b f) (QW g (qZ q)) (f_a f) (f_s f) 0 0 (fun q => g.2.2.2 ≤ q))  {x1 : Int32} {x2 : Int32} {μ : Mm} (h : F_X8_areLinked_e  (KK_X8_areLinked_5 g f ) (KK_X8_areLinked_40 g f ) q x1 x2 μ) : KW g f 5 0 0 0 [some (.ref p_MO), some (.int x1), some (.int x2), none, none] [] μ := by
  unfold F_X8_areLinked_e at h
  refine k_iconst (v := (0 : Int32)) cx dX8_areLinked_0 (by decide +kernel) ?_
  refine k_istore_n cx dX8_areLinked_1 rfl (by decide) ?_
  refine k_iconst (v := (0 : Int32)) cx dX8_areLinked_2 (by decide +kernel) ?_
  refine k_istore cx dX8_areLinked_3 (by decide) ?_
  exact k_weak h (lsLe.keep (lsLe.keep (lsLe.keep (lsLe.keep (lsLe.keep lsLe.nil)))))
theorem m_X8_areLinked {g : GE} {l : Launch} {μ : Mm} {q : Bool → Mm → Prop} {x1 : Int32} {x2 : Int32}  (h : Wp_X8_areLinked  x1 x2 μ q) : MW g l yX8_areLinked cX8_areLinked 5 (some .boolean) 0 0 [.ref p_MO, .int x1, .int x2] μ (qZ q) := by
  refine met_of (by decide) (Nat.le_of_ble_eq_true rfl) (by intro v hv; simp only [List.mem_cons, List.not_mem_nil, or_false] at hv; rcases hv with rfl | rfl | rfl <;> rfl) ?_
  intro f hfl cx hr hl hQ
  exact b_X8_areLinked_e  cx hr hl hQ (h (KK_X8_areLinked_5 g f ) (KK_X8_areLinked_40 g f ) (fun _ _ _ _ _ h => b_X8_areLinked_5  cx hr hl hQ h) (fun _ _ _ _ h => b_X8_areLinked_40  cx hr hl hQ h))
theorem dX8_can_0 : decode cX8_can 0 = .ok (.aload_n 0, 1) := by decide +kernel
theorem dX8_can_1 : decode cX8_can 1 = .ok (.iload_n 1, 1) := by decide +kernel
theorem dX8_can_2 : decode cX8_can 2 = .ok (.putfield 104, 3) := by decide +kernel
theorem dX8_can_5 : decode cX8_can 5 = .ok (.iload_n 1, 1) := by decide +kernel
theorem dX8_can_6 : decode cX8_can 6 = .ok (.ifCond .ne 7, 3) := by decide +kernel
theorem dX8_can_9 : decode cX8_can 9 = .ok (.iconst 1, 1) := by decide +kernel
theorem dX8_can_10 : decode cX8_can 10 = .ok (.goto 4, 3) := by decide +kernel
theorem dX8_can_13 : decode cX8_can 13 = .ok (.iconst 0, 1) := by decide +kernel
theorem dX8_can_14 : decode cX8_can 14 = .ok (.ireturn, 1) := by decide +kernel
def F_X8_can_e   (q : Bool → Mm → Prop) (x1 : Int32) (μ : Mm) : Prop :=
  ((¬ (x1 = 0) → q false (up2 μ p_MO 35 x1)) ∧ (x1 = 0 → q true (up2 μ p_MO 35 x1)))
def Wp_X8_can  (x1 : Int32) (μ : Mm) (q : Bool → Mm → Prop) : Prop := F_X8_can_e   q x1 μ
set_option maxHeartbeats 2000000 in
theorem b_X8_can_e  {g : GE} {f : FE} {q : Bool → Mm → Prop} (cx : Cx g f cX8_can 2 RX8 0 0 0 0) (hr : (f_M f).sig.returnType = (some .boolean)) (hl : (f_M f).locks = false) (hQ : f_Q f = MQ (f_b f) (QW g (qZ q)) (f_a f) (f_s f) 0 0 (fun q => g.2.2.2 ≤ q))  {x1 : Int32} {μ : Mm} (h : F_X8_can_e   q x1 μ) : KW g f 2 0 0 0 [some (.ref p_MO), some (.int x1)] [] μ := by
  unfold F_X8_can_e at h
  refine k_aload_n cx dX8_can_0 rfl rfl ?_
  refine k_iload_n cx dX8_can_1 rfl rfl ?_
  refine k_put cx fp_X8_104 ob_MO rfl rfl rfl dX8_can_2 ?_
  refine k_iload_n cx dX8_can_5 rfl rfl ?_
  refine k_if_ne (tgt := 13) cx dX8_can_6 (by decide) (fun hc => ?_) (fun hc => ?_)
  · replace h := h.1 hc
    refine k_iconst (v := (0 : Int32)) cx dX8_can_13 (by decide +kernel) ?_
    exact k_ret_Z (b := false) cx hr hl hQ dX8_can_14 rfl h
  · replace h := h.2 hc
    refine k_iconst (v := (1 : Int32)) cx dX8_can_9 (by decide +kernel) ?_
    refine k_goto (tgt := 14) cx dX8_can_10 (by decide) ?_
    exact k_ret_Z (b := true) cx hr hl hQ dX8_can_14 rfl h
theorem m_X8_can {g : GE} {l : Launch} {μ : Mm} {q : Bool → Mm → Prop} {x1 : Int32}  (h : Wp_X8_can  x1 μ q) : MW g l yX8_can cX8_can 2 (some .boolean) 0 0 [.ref p_MO, .int x1] μ (qZ q) := by
  refine met_of (by decide) (Nat.le_of_ble_eq_true rfl) (by intro v hv; simp only [List.mem_cons, List.not_mem_nil, or_false] at hv; rcases hv with rfl | rfl <;> rfl) ?_
  intro f hfl cx hr hl hQ
  exact b_X8_can_e  cx hr hl hQ (h  )
theorem dX8_isIn_0 : decode cX8_isIn 0 = .ok (.iload_n 0, 1) := by decide +kernel
theorem dX8_isIn_1 : decode cX8_isIn 1 = .ok (.iload_n 1, 1) := by decide +kernel
theorem dX8_isIn_2 : decode cX8_isIn 2 = .ok (.if_icmp .lt 12, 3) := by decide +kernel
theorem dX8_isIn_5 : decode cX8_isIn 5 = .ok (.iload_n 0, 1) := by decide +kernel
theorem dX8_isIn_6 : decode cX8_isIn 6 = .ok (.iload_n 2, 1) := by decide +kernel
theorem dX8_isIn_7 : decode cX8_isIn 7 = .ok (.if_icmp .gt 7, 3) := by decide +kernel
theorem dX8_isIn_10 : decode cX8_isIn 10 = .ok (.iconst 1, 1) := by decide +kernel
theorem dX8_isIn_11 : decode cX8_isIn 11 = .ok (.goto 4, 3) := by decide +kernel
theorem dX8_isIn_14 : decode cX8_isIn 14 = .ok (.iconst 0, 1) := by decide +kernel
theorem dX8_isIn_15 : decode cX8_isIn 15 = .ok (.ireturn, 1) := by decide +kernel
def F_X8_isIn_e   (q : Bool → Mm → Prop) (x0 : Int32) (x1 : Int32) (x2 : Int32) (μ : Mm) : Prop :=
  ((x0 < x1 → q false μ) ∧ (¬ (x0 < x1) → ((x2 < x0 → q false μ) ∧ (¬ (x2 < x0) → q true μ))))
def Wp_X8_isIn  (x0 : Int32) (x1 : Int32) (x2 : Int32) (μ : Mm) (q : Bool → Mm → Prop) : Prop := F_X8_isIn_e   q x0 x1 x2 μ
set_option maxHeartbeats 2000000 in
theorem b_X8_isIn_e  {g : GE} {f : FE} {q : Bool → Mm → Prop} (cx : Cx g f cX8_isIn 3 RX8 0 0 0 0) (hr : (f_M f).sig.returnType = (some .boolean)) (hl : (f_M f).locks = false) (hQ : f_Q f = MQ (f_b f) (QW g (qZ q)) (f_a f) (f_s f) 0 0 (fun q => g.2.2.2 ≤ q))  {x0 : Int32} {x1 : Int32} {x2 : Int32} {μ : Mm} (h : F_X8_isIn_e   q x0 x1 x2 μ) : KW g f 3 0 0 0 [some (.int x0), some (.int x1), some (.int x2)] [] μ := by
  unfold F_X8_isIn_e at h
  refine k_iload_n cx dX8_isIn_0 rfl rfl ?_
  refine k_iload_n cx dX8_isIn_1 rfl rfl ?_
  refine k_icmp_lt (tgt := 14) cx dX8_isIn_2 (by decide) (fun hc => ?_) (fun hc => ?_)
  · replace h := h.1 hc
    refine k_iconst (v := (0 : Int32)) cx dX8_isIn_14 (by decide +kernel) ?_
    exact k_ret_Z (b := false) cx hr hl hQ dX8_isIn_15 rfl h
  · replace h := h.2 hc
    refine k_iload_n cx dX8_isIn_5 rfl rfl ?_
    refine k_iload_n cx dX8_isIn_6 rfl rfl ?_
    refine k_icmp_gt (tgt := 14) cx dX8_isIn_7 (by decide) (fun hc => ?_) (fun hc => ?_)
    · replace h := h.1 hc
      refine k_iconst (v := (0 : Int32)) cx dX8_isIn_14 (by decide +kernel) ?_
      exact k_ret_Z (b := false) cx hr hl hQ dX8_isIn_15 rfl h
    · replace h := h.2 hc
      refine k_iconst (v := (1 : Int32)) cx dX8_isIn_10 (by decide +kernel) ?_
      refine k_goto (tgt := 15) cx dX8_isIn_11 (by decide) ?_
      exact k_ret_Z (b := true) cx hr hl hQ dX8_isIn_15 rfl h
theorem m_X8_isIn {g : GE} {l : Launch} {μ : Mm} {q : Bool → Mm → Prop} {x0 : Int32} {x1 : Int32} {x2 : Int32}  (h : Wp_X8_isIn  x0 x1 x2 μ q) : MW g l yX8_isIn cX8_isIn 3 (some .boolean) 0 0 [.int x0, .int x1, .int x2] μ (qZ q) := by
  refine met_of (by decide) (Nat.le_of_ble_eq_true rfl) (by intro v hv; simp only [List.mem_cons, List.not_mem_nil, or_false] at hv; rcases hv with rfl | rfl | rfl <;> rfl) ?_
  intro f hfl cx hr hl hQ
  exact b_X8_isIn_e  cx hr hl hQ (h  )
theorem dX8_isRequest_0 : decode cX8_isRequest 0 = .ok (.iload_n 1, 1) := by decide +kernel
theorem dX8_isRequest_1 : decode cX8_isRequest 1 = .ok (.iconst 0, 1) := by decide +kernel
theorem dX8_isRequest_2 : decode cX8_isRequest 2 = .ok (.aload_n 0, 1) := by decide +kernel
theorem dX8_isRequest_3 : decode cX8_isRequest 3 = .ok (.getfield 118, 3) := by decide +kernel
theorem dX8_isRequest_6 : decode cX8_isRequest 6 = .ok (.iconst 1, 1) := by decide +kernel
theorem dX8_isRequest_7 : decode cX8_isRequest 7 = .ok (.isub, 1) := by decide +kernel
theorem dX8_isRequest_8 : decode cX8_isRequest 8 = .ok (.invokestatic 111, 3) := by decide +kernel
theorem dX8_isRequest_11 : decode cX8_isRequest 11 = .ok (.ireturn, 1) := by decide +kernel
def F_X8_isRequest_e   (q : Bool → Mm → Prop) (x1 : Int32) (μ : Mm) : Prop :=
  Wp_X8_isIn x1 (0 : Int32) ((μ p_MO 8) - (1 : Int32)) μ (fun b2 μ1 => q b2 μ1)
def Wp_X8_isRequest  (x1 : Int32) (μ : Mm) (q : Bool → Mm → Prop) : Prop := F_X8_isRequest_e   q x1 μ
set_option maxHeartbeats 2000000 in
theorem b_X8_isRequest_e  {g : GE} {f : FE} {q : Bool → Mm → Prop} (cx : Cx g f cX8_isRequest 2 RX8 1 22 0 0) (hr : (f_M f).sig.returnType = (some .boolean)) (hl : (f_M f).locks = false) (hQ : f_Q f = MQ (f_b f) (QW g (qZ q)) (f_a f) (f_s f) 0 0 (fun q => g.2.2.2 ≤ q))  {x1 : Int32} {μ : Mm} (h : F_X8_isRequest_e   q x1 μ) : KW g f 2 0 0 0 [some (.ref p_MO), some (.int x1)] [] μ := by
  unfold F_X8_isRequest_e at h
  refine k_iload_n cx dX8_isRequest_0 rfl rfl ?_
  refine k_iconst (v := (0 : Int32)) cx dX8_isRequest_1 (by decide +kernel) ?_
  refine k_aload_n cx dX8_isRequest_2 rfl rfl ?_
  refine k_get (o := none) (v := .int (μ p_MO 8)) cx fl_X8_118 ob_MO rfl rfl dX8_isRequest_3 ?_
  refine k_iconst (v := (1 : Int32)) cx dX8_isRequest_6 (by decide +kernel) ?_
  refine k_isub cx dX8_isRequest_7 ?_
  refine k_callS (As := [.int x1, .int (0 : Int32), .int ((μ p_MO 8) - (1 : Int32))]) (rest := []) cx (m_X8_isIn h) cv_X8_111 rfl rfl (Nat.le_of_ble_eq_true rfl) ⟨Nat.le_of_ble_eq_true rfl, Nat.le_of_ble_eq_true rfl⟩ dX8_isRequest_8 (fun v μ1 hq => ?_)
  obtain ⟨b2, rfl, h⟩ := hq
  exact k_ret_Z (b := b2) cx hr hl hQ dX8_isRequest_11 rfl h
theorem m_X8_isRequest {g : GE} {l : Launch} {μ : Mm} {q : Bool → Mm → Prop} {x1 : Int32}  (h : Wp_X8_isRequest  x1 μ q) : MW g l yX8_isRequest cX8_isRequest 2 (some .boolean) 1 22 [.ref p_MO, .int x1] μ (qZ q) := by
  refine met_of (by decide) (Nat.le_of_ble_eq_true rfl) (by intro v hv; simp only [List.mem_cons, List.not_mem_nil, or_false] at hv; rcases hv with rfl | rfl <;> rfl) ?_
  intro f hfl cx hr hl hQ
  exact b_X8_isRequest_e  cx hr hl hQ (h  )
theorem dX8_at_0 : decode cX8_at 0 = .ok (.aload_n 0, 1) := by decide +kernel
theorem dX8_at_1 : decode cX8_at 1 = .ok (.iload_n 1, 1) := by decide +kernel
theorem dX8_at_2 : decode cX8_at 2 = .ok (.invokevirtual 226, 3) := by decide +kernel
theorem dX8_at_5 : decode cX8_at 5 = .ok (.ifCond .eq 23, 3) := by decide +kernel
theorem dX8_at_8 : decode cX8_at 8 = .ok (.iload_n 2, 1) := by decide +kernel
theorem dX8_at_9 : decode cX8_at 9 = .ok (.iconst 0, 1) := by decide +kernel
theorem dX8_at_10 : decode cX8_at 10 = .ok (.aload_n 0, 1) := by decide +kernel
theorem dX8_at_11 : decode cX8_at 11 = .ok (.getfield 26, 3) := by decide +kernel
theorem dX8_at_14 : decode cX8_at 14 = .ok (.iload_n 1, 1) := by decide +kernel
theorem dX8_at_15 : decode cX8_at 15 = .ok (.iaload, 1) := by decide +kernel
theorem dX8_at_16 : decode cX8_at 16 = .ok (.iconst 1, 1) := by decide +kernel
theorem dX8_at_17 : decode cX8_at 17 = .ok (.isub, 1) := by decide +kernel
theorem dX8_at_18 : decode cX8_at 18 = .ok (.invokestatic 111, 3) := by decide +kernel
theorem dX8_at_21 : decode cX8_at 21 = .ok (.ifCond .eq 7, 3) := by decide +kernel
theorem dX8_at_24 : decode cX8_at 24 = .ok (.iconst 1, 1) := by decide +kernel
theorem dX8_at_25 : decode cX8_at 25 = .ok (.goto 4, 3) := by decide +kernel
theorem dX8_at_28 : decode cX8_at 28 = .ok (.iconst 0, 1) := by decide +kernel
theorem dX8_at_29 : decode cX8_at 29 = .ok (.istore_n 3, 1) := by decide +kernel
theorem dX8_at_30 : decode cX8_at 30 = .ok (.aload_n 0, 1) := by decide +kernel
theorem dX8_at_31 : decode cX8_at 31 = .ok (.iload_n 3, 1) := by decide +kernel
theorem dX8_at_32 : decode cX8_at 32 = .ok (.ifCond .eq 7, 3) := by decide +kernel
theorem dX8_at_35 : decode cX8_at 35 = .ok (.iconst 0, 1) := by decide +kernel
theorem dX8_at_36 : decode cX8_at 36 = .ok (.goto 4, 3) := by decide +kernel
theorem dX8_at_39 : decode cX8_at 39 = .ok (.iconst 1, 1) := by decide +kernel
theorem dX8_at_40 : decode cX8_at 40 = .ok (.invokevirtual 121, 3) := by decide +kernel
theorem dX8_at_43 : decode cX8_at 43 = .ok (.ifCond .eq 16, 3) := by decide +kernel
theorem dX8_at_46 : decode cX8_at 46 = .ok (.aload_n 0, 1) := by decide +kernel
theorem dX8_at_47 : decode cX8_at 47 = .ok (.getfield 38, 3) := by decide +kernel
theorem dX8_at_50 : decode cX8_at 50 = .ok (.iconst 3, 1) := by decide +kernel
theorem dX8_at_51 : decode cX8_at 51 = .ok (.iload_n 1, 1) := by decide +kernel
theorem dX8_at_52 : decode cX8_at 52 = .ok (.imul, 1) := by decide +kernel
theorem dX8_at_53 : decode cX8_at 53 = .ok (.iload_n 2, 1) := by decide +kernel
theorem dX8_at_54 : decode cX8_at 54 = .ok (.iadd, 1) := by decide +kernel
theorem dX8_at_55 : decode cX8_at 55 = .ok (.iaload, 1) := by decide +kernel
theorem dX8_at_56 : decode cX8_at 56 = .ok (.goto 4, 3) := by decide +kernel
theorem dX8_at_59 : decode cX8_at 59 = .ok (.iconst 0, 1) := by decide +kernel
theorem dX8_at_60 : decode cX8_at 60 = .ok (.ireturn, 1) := by decide +kernel
def F_X8_at_29  (K29 : Int32 → Int32 → Int32 → Mm → Prop) (K40 : Int32 → Int32 → Int32 → Mm → Prop) (q : Int32 → Mm → Prop) (x1 : Int32) (x2 : Int32) (y0 : Int32) (μ : Mm) : Prop :=
  ((y0 = 0 → K40 x1 x2 (1 : Int32) μ) ∧ (¬ (y0 = 0) → K40 x1 x2 (0 : Int32) μ))
def F_X8_at_40  (K29 : Int32 → Int32 → Int32 → Mm → Prop) (K40 : Int32 → Int32 → Int32 → Mm → Prop) (q : Int32 → Mm → Prop) (x1 : Int32) (x2 : Int32) (y0 : Int32) (μ : Mm) : Prop :=
  Wp_X8_can y0 μ (fun b2 μ1 => (((bI b2) = 0 → q (0 : Int32) μ1) ∧ (¬ ((bI b2) = 0) → vp_in (((3 : Int32) * x1) + x2) 39 ∧ q (μ1 p_MO_at ((((3 : Int32) * x1) + x2)).toNatClampNeg) μ1)))
def F_X8_at_e  (K29 : Int32 → Int32 → Int32 → Mm → Prop) (K40 : Int32 → Int32 → Int32 → Mm → Prop) (q : Int32 → Mm → Prop) (x1 : Int32) (x2 : Int32) (μ : Mm) : Prop :=
  Wp_X8_isRequest x1 μ (fun b2 μ1 => (((bI b2) = 0 → K29 x1 x2 (0 : Int32) μ1) ∧ (¬ ((bI b2) = 0) → vp_in x1 13 ∧ Wp_X8_isIn x2 (0 : Int32) ((μ1 p_MO_parts (x1).toNatClampNeg) - (1 : Int32)) μ1 (fun b4 μ3 => (((bI b4) = 0 → K29 x1 x2 (0 : Int32) μ3) ∧ (¬ ((bI b4) = 0) → K29 x1 x2 (1 : Int32) μ3))))))
def Wp_X8_at  (x1 : Int32) (x2 : Int32) (μ : Mm) (q : Int32 → Mm → Prop) : Prop := ∀ (K29 : Int32 → Int32 → Int32 → Mm → Prop) (K40 : Int32 → Int32 → Int32 → Mm → Prop), (∀ (x1 : Int32) (x2 : Int32) (y0 : Int32) (μ : Mm), F_X8_at_29  K29 K40 q x1 x2 y0 μ → K29 x1 x2 y0 μ) → (∀ (x1 : Int32) (x2 : Int32) (y0 : Int32) (μ : Mm), F_X8_at_40  K29 K40 q x1 x2 y0 μ → K40 x1 x2 y0 μ) → F_X8_at_e  K29 K40 q x1 x2 μ
abbrev KK_X8_at_29 (g : GE) (f : FE)  : Int32 → Int32 → Int32 → Mm → Prop := fun x1 x2 y0 μ => KW g f 4 0 0 29 [some (.ref p_MO), some (.int x1), some (.int x2), none] [.int y0] μ
abbrev KK_X8_at_40 (g : GE) (f : FE)  : Int32 → Int32 → Int32 → Mm → Prop := fun x1 x2 y0 μ => KW g f 4 0 0 40 [some (.ref p_MO), some (.int x1), some (.int x2), none] [.int y0, .ref p_MO] μ
set_option maxHeartbeats 2000000 in
theorem b_X8_at_29  {g : GE} {f : FE} {q : Int32 → Mm → Prop} (cx : Cx g f cX8_at 4 RX8 2 43 0 0) (hr : (f_M f).sig.returnType = (some .int)) (hl : (f_M f).locks = false) (hQ : f_Q f = MQ (f_b f) (QW g (qI q)) (f_a f) (f_s f) 0 0 (fun q => g.2.2.2 ≤ q))  {x1 : Int32} {x2 : Int32} {y0 : Int32} {μ : Mm} (h : F_X8_at_29  (KK_X8_at_29 g f ) (KK_X8_at_40 g f ) q x1 x2 y0 μ) : KK_X8_at_29 g f  x1 x2 y0 μ := by
  unfold F_X8_at_29 at h
  show KW g f 4 0 0 29 [some (.ref p_MO), some (.int x1), some (.int x2), none] [.int y0] μ
  refine k_istore_n cx dX8_at_29 rfl (by decide) ?_
  refine k_aload_n cx dX8_at_30 rfl rfl ?_
  refine k_iload_n cx dX8_at_31 rfl rfl ?_
  refine k_if_eq (tgt := 39) cx dX8_at_32 (by decide) (fun hc => ?_) (fun hc => ?_)
  · replace h := h.1 hc
    refine k_iconst (v := (1 : Int32)) cx dX8_at_39 (by decide +kernel) ?_
    exact k_weak h (lsLe.keep (lsLe.keep (lsLe.keep (lsLe.drop lsLe.nil))))
  · replace h := h.2 hc
    refine k_iconst (v := (0 : Int32)) cx dX8_at_35 (by decide +kernel) ?_
    refine k_goto (tgt := 40) cx dX8_at_36 (by decide) ?_
    exact k_weak h (lsLe.keep (lsLe.keep (lsLe.keep (lsLe.drop lsLe.nil))))
set_option maxHeartbeats 2000000 in
theorem b_X8_at_40  {g : GE} {f : FE} {q : Int32 → Mm → Prop} (cx : Cx g f cX8_at 4 RX8 2 43 0 0) (hr : (f_M f).sig.returnType = (some .int)) (hl : (f_M f).locks = false) (hQ : f_Q f = MQ (f_b f) (QW g (qI q)) (f_a f) (f_s f) 0 0 (fun q => g.2.2.2 ≤ q))  {x1 : Int32} {x2 : Int32} {y0 : Int32} {μ : Mm} (h : F_X8_at_40  (KK_X8_at_29 g f ) (KK_X8_at_40 g f ) q x1 x2 y0 μ) : KK_X8_at_40 g f  x1 x2 y0 μ := by
  unfold F_X8_at_40 at h
  show KW g f 4 0 0 40 [some (.ref p_MO), some (.int x1), some (.int x2), none] [.int y0, .ref p_MO] μ
  refine k_callV (As := [.int y0]) (rest := []) cx (m_X8_can h) cv_X8_121 ob_MO rfl rfl rfl rfl (Nat.le_of_ble_eq_true rfl) ⟨Nat.le_of_ble_eq_true rfl, Nat.le_of_ble_eq_true rfl⟩ dX8_at_40 (fun v μ1 hq => ?_)
  obtain ⟨b2, rfl, h⟩ := hq
  refine k_if_eq (tgt := 59) cx dX8_at_43 (by decide) (fun hc => ?_) (fun hc => ?_)
  · replace h := h.1 hc
    refine k_iconst (v := (0 : Int32)) cx dX8_at_59 (by decide +kernel) ?_
    exact k_ret_I cx hr hl hQ dX8_at_60 h
  · replace h := h.2 hc
    refine k_aload_n cx dX8_at_46 rfl rfl ?_
    refine k_get (o := some p_MO_at) (v := .ref p_MO_at) cx fl_X8_38 ob_MO rfl rfl dX8_at_47 ?_
    refine k_iconst (v := (3 : Int32)) cx dX8_at_50 (by decide +kernel) ?_
    refine k_iload_n cx dX8_at_51 rfl rfl ?_
    refine k_imul cx dX8_at_52 ?_
    refine k_iload_n cx dX8_at_53 rfl rfl ?_
    refine k_iadd cx dX8_at_54 ?_
    obtain ⟨hi, h⟩ := h
    refine k_iald cx ar_MO_at hi dX8_at_55 ?_
    refine k_goto (tgt := 60) cx dX8_at_56 (by decide) ?_
    exact k_ret_I cx hr hl hQ dX8_at_60 h
set_option maxHeartbeats 2000000 in
theorem b_X8_at_e  {g : GE} {f : FE} {q : Int32 → Mm → Prop} (cx : Cx g f cX8_at 4 RX8 2 43 0 0) (hr : (f_M f).sig.returnType = (some .int)) (hl : (f_M f).locks = false) (hQ : f_Q f = MQ (f_b f) (QW g (qI q)) (f_a f) (f_s f) 0 0 (fun q => g.2.2.2 ≤ q))  {x1 : Int32} {x2 : Int32} {μ : Mm} (h : F_X8_at_e  (KK_X8_at_29 g f ) (KK_X8_at_40 g f ) q x1 x2 μ) : KW g f 4 0 0 0 [some (.ref p_MO), some (.int x1), some (.int x2), none] [] μ := by
  unfold F_X8_at_e at h
  refine k_aload_n cx dX8_at_0 rfl rfl ?_
  refine k_iload_n cx dX8_at_1 rfl rfl ?_
  refine k_callV (As := [.int x1]) (rest := []) cx (m_X8_isRequest h) cv_X8_226 ob_MO rfl rfl rfl rfl (Nat.le_of_ble_eq_true rfl) ⟨Nat.le_of_ble_eq_true rfl, Nat.le_of_ble_eq_true rfl⟩ dX8_at_2 (fun v μ1 hq => ?_)
  obtain ⟨b2, rfl, h⟩ := hq
  refine k_if_eq (tgt := 28) cx dX8_at_5 (by decide) (fun hc => ?_) (fun hc => ?_)
  · replace h := h.1 hc
    refine k_iconst (v := (0 : Int32)) cx dX8_at_28 (by decide +kernel) ?_
    exact k_weak h (lsLe.keep (lsLe.keep (lsLe.keep (lsLe.keep lsLe.nil))))
  · replace h := h.2 hc
    refine k_iload_n cx dX8_at_8 rfl rfl ?_
    refine k_iconst (v := (0 : Int32)) cx dX8_at_9 (by decide +kernel) ?_
    refine k_aload_n cx dX8_at_10 rfl rfl ?_
    refine k_get (o := some p_MO_parts) (v := .ref p_MO_parts) cx fl_X8_26 ob_MO rfl rfl dX8_at_11 ?_
    refine k_iload_n cx dX8_at_14 rfl rfl ?_
    obtain ⟨hi, h⟩ := h
    refine k_iald cx ar_MO_parts hi dX8_at_15 ?_
    refine k_iconst (v := (1 : Int32)) cx dX8_at_16 (by decide +kernel) ?_
    refine k_isub cx dX8_at_17 ?_
    refine k_callS (As := [.int x2, .int (0 : Int32), .int ((μ1 p_MO_parts (x1).toNatClampNeg) - (1 : Int32))]) (rest := []) cx (m_X8_isIn h) cv_X8_111 rfl rfl (Nat.le_of_ble_eq_true rfl) ⟨Nat.le_of_ble_eq_true rfl, Nat.le_of_ble_eq_true rfl⟩ dX8_at_18 (fun v μ3 hq => ?_)
    obtain ⟨b4, rfl, h⟩ := hq
    refine k_if_eq (tgt := 28) cx dX8_at_21 (by decide) (fun hc => ?_) (fun hc => ?_)
    · replace h := h.1 hc
      refine k_iconst (v := (0 : Int32)) cx dX8_at_28 (by decide +kernel) ?_
      exact k_weak h (lsLe.keep (lsLe.keep (lsLe.keep (lsLe.keep lsLe.nil))))
    · replace h := h.2 hc
      refine k_iconst (v := (1 : Int32)) cx dX8_at_24 (by decide +kernel) ?_
      refine k_goto (tgt := 29) cx dX8_at_25 (by decide) ?_
      exact k_weak h (lsLe.keep (lsLe.keep (lsLe.keep (lsLe.keep lsLe.nil))))
theorem m_X8_at {g : GE} {l : Launch} {μ : Mm} {q : Int32 → Mm → Prop} {x1 : Int32} {x2 : Int32}  (h : Wp_X8_at  x1 x2 μ q) : MW g l yX8_at cX8_at 4 (some .int) 2 43 [.ref p_MO, .int x1, .int x2] μ (qI q) := by
  refine met_of (by decide) (Nat.le_of_ble_eq_true rfl) (by intro v hv; simp only [List.mem_cons, List.not_mem_nil, or_false] at hv; rcases hv with rfl | rfl | rfl <;> rfl) ?_
  intro f hfl cx hr hl hQ
  exact b_X8_at_e  cx hr hl hQ (h (KK_X8_at_29 g f ) (KK_X8_at_40 g f ) (fun _ _ _ _ h => b_X8_at_29  cx hr hl hQ h) (fun _ _ _ _ h => b_X8_at_40  cx hr hl hQ h))
theorem dX8_back_0 : decode cX8_back 0 = .ok (.aload_n 0, 1) := by decide +kernel
theorem dX8_back_1 : decode cX8_back 1 = .ok (.getfield 38, 3) := by decide +kernel
theorem dX8_back_4 : decode cX8_back 4 = .ok (.iconst 3, 1) := by decide +kernel
theorem dX8_back_5 : decode cX8_back 5 = .ok (.iload_n 1, 1) := by decide +kernel
theorem dX8_back_6 : decode cX8_back 6 = .ok (.imul, 1) := by decide +kernel
theorem dX8_back_7 : decode cX8_back 7 = .ok (.iload_n 2, 1) := by decide +kernel
theorem dX8_back_8 : decode cX8_back 8 = .ok (.iadd, 1) := by decide +kernel
theorem dX8_back_9 : decode cX8_back 9 = .ok (.iload_n 3, 1) := by decide +kernel
theorem dX8_back_10 : decode cX8_back 10 = .ok (.iastore, 1) := by decide +kernel
theorem dX8_back_11 : decode cX8_back 11 = .ok (.iconst 0, 1) := by decide +kernel
theorem dX8_back_12 : decode cX8_back 12 = .ok (.istore 4, 2) := by decide +kernel
theorem dX8_back_14 : decode cX8_back 14 = .ok (.iload 4, 2) := by decide +kernel
theorem dX8_back_16 : decode cX8_back 16 = .ok (.aload_n 0, 1) := by decide +kernel
theorem dX8_back_17 : decode cX8_back 17 = .ok (.getfield 29, 3) := by decide +kernel
theorem dX8_back_20 : decode cX8_back 20 = .ok (.iload_n 1, 1) := by decide +kernel
theorem dX8_back_21 : decode cX8_back 21 = .ok (.iaload, 1) := by decide +kernel
theorem dX8_back_22 : decode cX8_back 22 = .ok (.if_icmp .ge 27, 3) := by decide +kernel
theorem dX8_back_25 : decode cX8_back 25 = .ok (.aload_n 0, 1) := by decide +kernel
theorem dX8_back_26 : decode cX8_back 26 = .ok (.getfield 53, 3) := by decide +kernel
theorem dX8_back_29 : decode cX8_back 29 = .ok (.iconst 3, 1) := by decide +kernel
theorem dX8_back_30 : decode cX8_back 30 = .ok (.iload_n 1, 1) := by decide +kernel
theorem dX8_back_31 : decode cX8_back 31 = .ok (.imul, 1) := by decide +kernel
theorem dX8_back_32 : decode cX8_back 32 = .ok (.iload 4, 2) := by decide +kernel
theorem dX8_back_34 : decode cX8_back 34 = .ok (.iadd, 1) := by decide +kernel
theorem dX8_back_35 : decode cX8_back 35 = .ok (.aload_n 0, 1) := by decide +kernel
theorem dX8_back_36 : decode cX8_back 36 = .ok (.getfield 101, 3) := by decide +kernel
theorem dX8_back_39 : decode cX8_back 39 = .ok (.iload 4, 2) := by decide +kernel
theorem dX8_back_41 : decode cX8_back 41 = .ok (.iaload, 1) := by decide +kernel
theorem dX8_back_42 : decode cX8_back 42 = .ok (.iastore, 1) := by decide +kernel
theorem dX8_back_43 : decode cX8_back 43 = .ok (.iinc 4 1, 3) := by decide +kernel
theorem dX8_back_46 : decode cX8_back 46 = .ok (.goto (-32), 3) := by decide +kernel
theorem dX8_back_49 : decode cX8_back 49 = .ok (.return_, 1) := by decide +kernel
def F_X8_back_14  (K14 : Int32 → Int32 → Mm → Prop) (q : Mm → Prop) (x1 : Int32) (x4 : Int32) (μ : Mm) : Prop :=
  vp_in x1 13 ∧ (((μ p_MO_lines (x1).toNatClampNeg) ≤ x4 → q μ) ∧ (¬ ((μ p_MO_lines (x1).toNatClampNeg) ≤ x4) → vp_in x4 3 ∧ vp_in (((3 : Int32) * x1) + x4) 39 ∧ K14 x1 (x4 + (1 : Int32)) (up2 μ p_MO_way ((((3 : Int32) * x1) + x4)).toNatClampNeg (μ p_MO_oldWay (x4).toNatClampNeg))))
def F_X8_back_e  (K14 : Int32 → Int32 → Mm → Prop) (q : Mm → Prop) (x1 : Int32) (x2 : Int32) (x3 : Int32) (μ : Mm) : Prop :=
  vp_in (((3 : Int32) * x1) + x2) 39 ∧ K14 x1 (0 : Int32) (up2 μ p_MO_at ((((3 : Int32) * x1) + x2)).toNatClampNeg x3)
def Wp_X8_back  (x1 : Int32) (x2 : Int32) (x3 : Int32) (μ : Mm) (q : Mm → Prop) : Prop := ∀ (K14 : Int32 → Int32 → Mm → Prop), (∀ (x1 : Int32) (x4 : Int32) (μ : Mm), F_X8_back_14  K14 q x1 x4 μ → K14 x1 x4 μ) → F_X8_back_e  K14 q x1 x2 x3 μ
abbrev KK_X8_back_14 (g : GE) (f : FE)  : Int32 → Int32 → Mm → Prop := fun x1 x4 μ => KW g f 5 0 0 14 [some (.ref p_MO), some (.int x1), none, none, some (.int x4)] [] μ
set_option maxHeartbeats 2000000 in
theorem b_X8_back_14  {g : GE} {f : FE} {q : Mm → Prop} (cx : Cx g f cX8_back 5 RX8 0 0 0 0) (hr : (f_M f).sig.returnType = none) (hl : (f_M f).locks = false) (hQ : f_Q f = MQ (f_b f) (QW g (qV q)) (f_a f) (f_s f) 0 0 (fun q => g.2.2.2 ≤ q))  {x1 : Int32} {x4 : Int32} {μ : Mm} (h : F_X8_back_14  (KK_X8_back_14 g f ) q x1 x4 μ) : KK_X8_back_14 g f  x1 x4 μ := by
  unfold F_X8_back_14 at h
  show KW g f 5 0 0 14 [some (.ref p_MO), some (.int x1), none, none, some (.int x4)] [] μ
  refine k_iload cx dX8_back_14 rfl ?_
  refine k_aload_n cx dX8_back_16 rfl rfl ?_
  refine k_get (o := some p_MO_lines) (v := .ref p_MO_lines) cx fl_X8_29 ob_MO rfl rfl dX8_back_17 ?_
  refine k_iload_n cx dX8_back_20 rfl rfl ?_
  obtain ⟨hi, h⟩ := h
  refine k_iald cx ar_MO_lines hi dX8_back_21 ?_
  refine k_icmp_ge (tgt := 49) cx dX8_back_22 (by decide) (fun hc => ?_) (fun hc => ?_)
  · replace h := h.1 hc
    exact k_ret_V cx hr hl hQ dX8_back_49 h
  · replace h := h.2 hc
    refine k_aload_n cx dX8_back_25 rfl rfl ?_
    refine k_get (o := some p_MO_way) (v := .ref p_MO_way) cx fl_X8_53 ob_MO rfl rfl dX8_back_26 ?_
    refine k_iconst (v := (3 : Int32)) cx dX8_back_29 (by decide +kernel) ?_
    refine k_iload_n cx dX8_back_30 rfl rfl ?_
    refine k_imul cx dX8_back_31 ?_
    refine k_iload cx dX8_back_32 rfl ?_
    refine k_iadd cx dX8_back_34 ?_
    refine k_aload_n cx dX8_back_35 rfl rfl ?_
    refine k_get (o := some p_MO_oldWay) (v := .ref p_MO_oldWay) cx fl_X8_101 ob_MO rfl rfl dX8_back_36 ?_
    refine k_iload cx dX8_back_39 rfl ?_
    obtain ⟨hi, h⟩ := h
    refine k_iald cx ar_MO_oldWay hi dX8_back_41 ?_
    obtain ⟨hi, h⟩ := h
    refine k_iast cx ar_MO_way hi dX8_back_42 ?_
    refine k_iinc (v := (x4 + (1 : Int32))) cx dX8_back_43 rfl rfl (by decide) ?_
    refine k_goto (tgt := 14) cx dX8_back_46 (by decide) ?_
    exact k_weak h (lsLe.keep (lsLe.keep (lsLe.keep (lsLe.keep (lsLe.keep lsLe.nil)))))
set_option maxHeartbeats 2000000 in
theorem b_X8_back_e  {g : GE} {f : FE} {q : Mm → Prop} (cx : Cx g f cX8_back 5 RX8 0 0 0 0) (hr : (f_M f).sig.returnType = none) (hl : (f_M f).locks = false) (hQ : f_Q f = MQ (f_b f) (QW g (qV q)) (f_a f) (f_s f) 0 0 (fun q => g.2.2.2 ≤ q))  {x1 : Int32} {x2 : Int32} {x3 : Int32} {μ : Mm} (h : F_X8_back_e  (KK_X8_back_14 g f ) q x1 x2 x3 μ) : KW g f 5 0 0 0 [some (.ref p_MO), some (.int x1), some (.int x2), some (.int x3), none] [] μ := by
  unfold F_X8_back_e at h
  refine k_aload_n cx dX8_back_0 rfl rfl ?_
  refine k_get (o := some p_MO_at) (v := .ref p_MO_at) cx fl_X8_38 ob_MO rfl rfl dX8_back_1 ?_
  refine k_iconst (v := (3 : Int32)) cx dX8_back_4 (by decide +kernel) ?_
  refine k_iload_n cx dX8_back_5 rfl rfl ?_
  refine k_imul cx dX8_back_6 ?_
  refine k_iload_n cx dX8_back_7 rfl rfl ?_
  refine k_iadd cx dX8_back_8 ?_
  refine k_iload_n cx dX8_back_9 rfl rfl ?_
  obtain ⟨hi, h⟩ := h
  refine k_iast cx ar_MO_at hi dX8_back_10 ?_
  refine k_iconst (v := (0 : Int32)) cx dX8_back_11 (by decide +kernel) ?_
  refine k_istore cx dX8_back_12 (by decide) ?_
  exact k_weak h (lsLe.keep (lsLe.keep (lsLe.drop (lsLe.drop (lsLe.keep lsLe.nil)))))
theorem m_X8_back {g : GE} {l : Launch} {μ : Mm} {q : Mm → Prop} {x1 : Int32} {x2 : Int32} {x3 : Int32}  (h : Wp_X8_back  x1 x2 x3 μ q) : MW g l yX8_back cX8_back 5 none 0 0 [.ref p_MO, .int x1, .int x2, .int x3] μ (qV q) := by
  refine met_of (by decide) (Nat.le_of_ble_eq_true rfl) (by intro v hv; simp only [List.mem_cons, List.not_mem_nil, or_false] at hv; rcases hv with rfl | rfl | rfl | rfl <;> rfl) ?_
  intro f hfl cx hr hl hQ
  exact b_X8_back_e  cx hr hl hQ (h (KK_X8_back_14 g f ) (fun _ _ _ h => b_X8_back_14  cx hr hl hQ h))
theorem dX8_bits_0 : decode cX8_bits 0 = .ok (.iconst 0, 1) := by decide +kernel
theorem dX8_bits_1 : decode cX8_bits 1 = .ok (.istore_n 1, 1) := by decide +kernel
theorem dX8_bits_2 : decode cX8_bits 2 = .ok (.iconst 0, 1) := by decide +kernel
theorem dX8_bits_3 : decode cX8_bits 3 = .ok (.istore_n 2, 1) := by decide +kernel
theorem dX8_bits_4 : decode cX8_bits 4 = .ok (.iload_n 2, 1) := by decide +kernel
theorem dX8_bits_5 : decode cX8_bits 5 = .ok (.bipush 9, 2) := by decide +kernel
theorem dX8_bits_7 : decode cX8_bits 7 = .ok (.if_icmp .ge 17, 3) := by decide +kernel
theorem dX8_bits_10 : decode cX8_bits 10 = .ok (.iload_n 1, 1) := by decide +kernel
theorem dX8_bits_11 : decode cX8_bits 11 = .ok (.iload_n 0, 1) := by decide +kernel
theorem dX8_bits_12 : decode cX8_bits 12 = .ok (.iload_n 2, 1) := by decide +kernel
theorem dX8_bits_13 : decode cX8_bits 13 = .ok (.ishr, 1) := by decide +kernel
theorem dX8_bits_14 : decode cX8_bits 14 = .ok (.iconst 1, 1) := by decide +kernel
theorem dX8_bits_15 : decode cX8_bits 15 = .ok (.iand, 1) := by decide +kernel
theorem dX8_bits_16 : decode cX8_bits 16 = .ok (.iadd, 1) := by decide +kernel
theorem dX8_bits_17 : decode cX8_bits 17 = .ok (.istore_n 1, 1) := by decide +kernel
theorem dX8_bits_18 : decode cX8_bits 18 = .ok (.iinc 2 1, 3) := by decide +kernel
theorem dX8_bits_21 : decode cX8_bits 21 = .ok (.goto (-17), 3) := by decide +kernel
theorem dX8_bits_24 : decode cX8_bits 24 = .ok (.iload_n 1, 1) := by decide +kernel
theorem dX8_bits_25 : decode cX8_bits 25 = .ok (.ireturn, 1) := by decide +kernel
def F_X8_bits_4  (K4 : Int32 → Int32 → Int32 → Mm → Prop) (q : Int32 → Mm → Prop) (x0 : Int32) (x1 : Int32) (x2 : Int32) (μ : Mm) : Prop :=
  (((9 : Int32) ≤ x2 → q x1 μ) ∧ (¬ ((9 : Int32) ≤ x2) → K4 x0 (x1 + ((x0 >>> (x2 &&& 31)) &&& (1 : Int32))) (x2 + (1 : Int32)) μ))
def F_X8_bits_e  (K4 : Int32 → Int32 → Int32 → Mm → Prop) (q : Int32 → Mm → Prop) (x0 : Int32) (μ : Mm) : Prop :=
  K4 x0 (0 : Int32) (0 : Int32) μ
def Wp_X8_bits  (x0 : Int32) (μ : Mm) (q : Int32 → Mm → Prop) : Prop := ∀ (K4 : Int32 → Int32 → Int32 → Mm → Prop), (∀ (x0 : Int32) (x1 : Int32) (x2 : Int32) (μ : Mm), F_X8_bits_4  K4 q x0 x1 x2 μ → K4 x0 x1 x2 μ) → F_X8_bits_e  K4 q x0 μ
abbrev KK_X8_bits_4 (g : GE) (f : FE)  : Int32 → Int32 → Int32 → Mm → Prop := fun x0 x1 x2 μ => KW g f 3 0 0 4 [some (.int x0), some (.int x1), some (.int x2)] [] μ
set_option maxHeartbeats 2000000 in
theorem b_X8_bits_4  {g : GE} {f : FE} {q : Int32 → Mm → Prop} (cx : Cx g f cX8_bits 3 RX8 0 0 0 0) (hr : (f_M f).sig.returnType = (some .int)) (hl : (f_M f).locks = false) (hQ : f_Q f = MQ (f_b f) (QW g (qI q)) (f_a f) (f_s f) 0 0 (fun q => g.2.2.2 ≤ q))  {x0 : Int32} {x1 : Int32} {x2 : Int32} {μ : Mm} (h : F_X8_bits_4  (KK_X8_bits_4 g f ) q x0 x1 x2 μ) : KK_X8_bits_4 g f  x0 x1 x2 μ := by
  unfold F_X8_bits_4 at h
  show KW g f 3 0 0 4 [some (.int x0), some (.int x1), some (.int x2)] [] μ
  refine k_iload_n cx dX8_bits_4 rfl rfl ?_
  refine k_bipush (v := (9 : Int32)) cx dX8_bits_5 (by decide +kernel) ?_
  refine k_icmp_ge (tgt := 24) cx dX8_bits_7 (by decide) (fun hc => ?_) (fun hc => ?_)
  · replace h := h.1 hc
    refine k_iload_n cx dX8_bits_24 rfl rfl ?_
    exact k_ret_I cx hr hl hQ dX8_bits_25 h
  · replace h := h.2 hc
    refine k_iload_n cx dX8_bits_10 rfl rfl ?_
    refine k_iload_n cx dX8_bits_11 rfl rfl ?_
    refine k_iload_n cx dX8_bits_12 rfl rfl ?_
    refine k_ishr cx dX8_bits_13 ?_
    refine k_iconst (v := (1 : Int32)) cx dX8_bits_14 (by decide +kernel) ?_
    refine k_iand cx dX8_bits_15 ?_
    refine k_iadd cx dX8_bits_16 ?_
    refine k_istore_n cx dX8_bits_17 rfl (by decide) ?_
    refine k_iinc (v := (x2 + (1 : Int32))) cx dX8_bits_18 rfl rfl (by decide) ?_
    refine k_goto (tgt := 4) cx dX8_bits_21 (by decide) ?_
    exact k_weak h (lsLe.keep (lsLe.keep (lsLe.keep lsLe.nil)))
set_option maxHeartbeats 2000000 in
theorem b_X8_bits_e  {g : GE} {f : FE} {q : Int32 → Mm → Prop} (cx : Cx g f cX8_bits 3 RX8 0 0 0 0) (hr : (f_M f).sig.returnType = (some .int)) (hl : (f_M f).locks = false) (hQ : f_Q f = MQ (f_b f) (QW g (qI q)) (f_a f) (f_s f) 0 0 (fun q => g.2.2.2 ≤ q))  {x0 : Int32} {μ : Mm} (h : F_X8_bits_e  (KK_X8_bits_4 g f ) q x0 μ) : KW g f 3 0 0 0 [some (.int x0), none, none] [] μ := by
  unfold F_X8_bits_e at h
  refine k_iconst (v := (0 : Int32)) cx dX8_bits_0 (by decide +kernel) ?_
  refine k_istore_n cx dX8_bits_1 rfl (by decide) ?_
  refine k_iconst (v := (0 : Int32)) cx dX8_bits_2 (by decide +kernel) ?_
  refine k_istore_n cx dX8_bits_3 rfl (by decide) ?_
  exact k_weak h (lsLe.keep (lsLe.keep (lsLe.keep lsLe.nil)))
theorem m_X8_bits {g : GE} {l : Launch} {μ : Mm} {q : Int32 → Mm → Prop} {x0 : Int32}  (h : Wp_X8_bits  x0 μ q) : MW g l yX8_bits cX8_bits 3 (some .int) 0 0 [.int x0] μ (qI q) := by
  refine met_of (by decide) (Nat.le_of_ble_eq_true rfl) (by intro v hv; simp only [List.mem_cons, List.not_mem_nil, or_false] at hv; subst hv; rfl) ?_
  intro f hfl cx hr hl hQ
  exact b_X8_bits_e  cx hr hl hQ (h (KK_X8_bits_4 g f ) (fun _ _ _ _ h => b_X8_bits_4  cx hr hl hQ h))
theorem dX8_isSplit_0 : decode cX8_isSplit 0 = .ok (.iconst 0, 1) := by decide +kernel
theorem dX8_isSplit_1 : decode cX8_isSplit 1 = .ok (.istore_n 2, 1) := by decide +kernel
theorem dX8_isSplit_2 : decode cX8_isSplit 2 = .ok (.iconst 0, 1) := by decide +kernel
theorem dX8_isSplit_3 : decode cX8_isSplit 3 = .ok (.istore_n 3, 1) := by decide +kernel
theorem dX8_isSplit_4 : decode cX8_isSplit 4 = .ok (.iload_n 3, 1) := by decide +kernel
theorem dX8_isSplit_5 : decode cX8_isSplit 5 = .ok (.aload_n 0, 1) := by decide +kernel
theorem dX8_isSplit_6 : decode cX8_isSplit 6 = .ok (.getfield 29, 3) := by decide +kernel
theorem dX8_isSplit_9 : decode cX8_isSplit 9 = .ok (.iload_n 1, 1) := by decide +kernel
theorem dX8_isSplit_10 : decode cX8_isSplit 10 = .ok (.iaload, 1) := by decide +kernel
theorem dX8_isSplit_11 : decode cX8_isSplit 11 = .ok (.if_icmp .ge 32, 3) := by decide +kernel
theorem dX8_isSplit_14 : decode cX8_isSplit 14 = .ok (.iload_n 2, 1) := by decide +kernel
theorem dX8_isSplit_15 : decode cX8_isSplit 15 = .ok (.ifCond .ne 16, 3) := by decide +kernel
theorem dX8_isSplit_18 : decode cX8_isSplit 18 = .ok (.aload_n 0, 1) := by decide +kernel
theorem dX8_isSplit_19 : decode cX8_isSplit 19 = .ok (.getfield 56, 3) := by decide +kernel
theorem dX8_isSplit_22 : decode cX8_isSplit 22 = .ok (.iconst 3, 1) := by decide +kernel
theorem dX8_isSplit_23 : decode cX8_isSplit 23 = .ok (.iload_n 1, 1) := by decide +kernel
theorem dX8_isSplit_24 : decode cX8_isSplit 24 = .ok (.imul, 1) := by decide +kernel
theorem dX8_isSplit_25 : decode cX8_isSplit 25 = .ok (.iload_n 3, 1) := by decide +kernel
theorem dX8_isSplit_26 : decode cX8_isSplit 26 = .ok (.iadd, 1) := by decide +kernel
theorem dX8_isSplit_27 : decode cX8_isSplit 27 = .ok (.iaload, 1) := by decide +kernel
theorem dX8_isSplit_28 : decode cX8_isSplit 28 = .ok (.ifCond .eq 7, 3) := by decide +kernel
theorem dX8_isSplit_31 : decode cX8_isSplit 31 = .ok (.iconst 1, 1) := by decide +kernel
theorem dX8_isSplit_32 : decode cX8_isSplit 32 = .ok (.goto 4, 3) := by decide +kernel
theorem dX8_isSplit_35 : decode cX8_isSplit 35 = .ok (.iconst 0, 1) := by decide +kernel
theorem dX8_isSplit_36 : decode cX8_isSplit 36 = .ok (.istore_n 2, 1) := by decide +kernel
theorem dX8_isSplit_37 : decode cX8_isSplit 37 = .ok (.iinc 3 1, 3) := by decide +kernel
theorem dX8_isSplit_40 : decode cX8_isSplit 40 = .ok (.goto (-36), 3) := by decide +kernel
theorem dX8_isSplit_43 : decode cX8_isSplit 43 = .ok (.iload_n 2, 1) := by decide +kernel
theorem dX8_isSplit_44 : decode cX8_isSplit 44 = .ok (.ireturn, 1) := by decide +kernel
def F_X8_isSplit_4  (K4 : Int32 → Int32 → Int32 → Mm → Prop) (q : Bool → Mm → Prop) (x1 : Int32) (x2 : Int32) (x3 : Int32) (μ : Mm) : Prop :=
  vp_in x1 13 ∧ (((μ p_MO_lines (x1).toNatClampNeg) ≤ x3 → ∃ b : Bool, x2 = bI b ∧ q b μ) ∧ (¬ ((μ p_MO_lines (x1).toNatClampNeg) ≤ x3) → ((¬ (x2 = 0) → K4 x1 (1 : Int32) (x3 + (1 : Int32)) μ) ∧ (x2 = 0 → vp_in (((3 : Int32) * x1) + x3) 39 ∧ (((μ p_MO_rest ((((3 : Int32) * x1) + x3)).toNatClampNeg) = 0 → K4 x1 (0 : Int32) (x3 + (1 : Int32)) μ) ∧ (¬ ((μ p_MO_rest ((((3 : Int32) * x1) + x3)).toNatClampNeg) = 0) → K4 x1 (1 : Int32) (x3 + (1 : Int32)) μ))))))
def F_X8_isSplit_e  (K4 : Int32 → Int32 → Int32 → Mm → Prop) (q : Bool → Mm → Prop) (x1 : Int32) (μ : Mm) : Prop :=
  K4 x1 (0 : Int32) (0 : Int32) μ
def Wp_X8_isSplit  (x1 : Int32) (μ : Mm) (q : Bool → Mm → Prop) : Prop := ∀ (K4 : Int32 → Int32 → Int32 → Mm → Prop), (∀ (x1 : Int32) (x2 : Int32) (x3 : Int32) (μ : Mm), F_X8_isSplit_4  K4 q x1 x2 x3 μ → K4 x1 x2 x3 μ) → F_X8_isSplit_e  K4 q x1 μ
abbrev KK_X8_isSplit_4 (g : GE) (f : FE)  : Int32 → Int32 → Int32 → Mm → Prop := fun x1 x2 x3 μ => KW g f 4 0 0 4 [some (.ref p_MO), some (.int x1), some (.int x2), some (.int x3)] [] μ
set_option maxHeartbeats 2000000 in
theorem b_X8_isSplit_4  {g : GE} {f : FE} {q : Bool → Mm → Prop} (cx : Cx g f cX8_isSplit 4 RX8 0 0 0 0) (hr : (f_M f).sig.returnType = (some .boolean)) (hl : (f_M f).locks = false) (hQ : f_Q f = MQ (f_b f) (QW g (qZ q)) (f_a f) (f_s f) 0 0 (fun q => g.2.2.2 ≤ q))  {x1 : Int32} {x2 : Int32} {x3 : Int32} {μ : Mm} (h : F_X8_isSplit_4  (KK_X8_isSplit_4 g f ) q x1 x2 x3 μ) : KK_X8_isSplit_4 g f  x1 x2 x3 μ := by
  unfold F_X8_isSplit_4 at h
  show KW g f 4 0 0 4 [some (.ref p_MO), some (.int x1), some (.int x2), some (.int x3)] [] μ
  refine k_iload_n cx dX8_isSplit_4 rfl rfl ?_
  refine k_aload_n cx dX8_isSplit_5 rfl rfl ?_
  refine k_get (o := some p_MO_lines) (v := .ref p_MO_lines) cx fl_X8_29 ob_MO rfl rfl dX8_isSplit_6 ?_
  refine k_iload_n cx dX8_isSplit_9 rfl rfl ?_
  obtain ⟨hi, h⟩ := h
  refine k_iald cx ar_MO_lines hi dX8_isSplit_10 ?_
  refine k_icmp_ge (tgt := 43) cx dX8_isSplit_11 (by decide) (fun hc => ?_) (fun hc => ?_)
  · replace h := h.1 hc
    refine k_iload_n cx dX8_isSplit_43 rfl rfl ?_
    obtain ⟨b, hb, h⟩ := h
    exact k_ret_Z (b := b) cx hr hl hQ dX8_isSplit_44 hb h
  · replace h := h.2 hc
    refine k_iload_n cx dX8_isSplit_14 rfl rfl ?_
    refine k_if_ne (tgt := 31) cx dX8_isSplit_15 (by decide) (fun hc => ?_) (fun hc => ?_)
    · replace h := h.1 hc
      refine k_iconst (v := (1 : Int32)) cx dX8_isSplit_31 (by decide +kernel) ?_
      refine k_goto (tgt := 36) cx dX8_isSplit_32 (by decide) ?_
      refine k_istore_n cx dX8_isSplit_36 rfl (by decide) ?_
      refine k_iinc (v := (x3 + (1 : Int32))) cx dX8_isSplit_37 rfl rfl (by decide) ?_
      refine k_goto (tgt := 4) cx dX8_isSplit_40 (by decide) ?_
      exact k_weak h (lsLe.keep (lsLe.keep (lsLe.keep (lsLe.keep lsLe.nil))))
    · replace h := h.2 hc
      refine k_aload_n cx dX8_isSplit_18 rfl rfl ?_
      refine k_get (o := some p_MO_rest) (v := .ref p_MO_rest) cx fl_X8_56 ob_MO rfl rfl dX8_isSplit_19 ?_
      refine k_iconst (v := (3 : Int32)) cx dX8_isSplit_22 (by decide +kernel) ?_
      refine k_iload_n cx dX8_isSplit_23 rfl rfl ?_
      refine k_imul cx dX8_isSplit_24 ?_
      refine k_iload_n cx dX8_isSplit_25 rfl rfl ?_
      refine k_iadd cx dX8_isSplit_26 ?_
      obtain ⟨hi, h⟩ := h
      refine k_iald cx ar_MO_rest hi dX8_isSplit_27 ?_
      refine k_if_eq (tgt := 35) cx dX8_isSplit_28 (by decide) (fun hc => ?_) (fun hc => ?_)
      · replace h := h.1 hc
        refine k_iconst (v := (0 : Int32)) cx dX8_isSplit_35 (by decide +kernel) ?_
        refine k_istore_n cx dX8_isSplit_36 rfl (by decide) ?_
        refine k_iinc (v := (x3 + (1 : Int32))) cx dX8_isSplit_37 rfl rfl (by decide) ?_
        refine k_goto (tgt := 4) cx dX8_isSplit_40 (by decide) ?_
        exact k_weak h (lsLe.keep (lsLe.keep (lsLe.keep (lsLe.keep lsLe.nil))))
      · replace h := h.2 hc
        refine k_iconst (v := (1 : Int32)) cx dX8_isSplit_31 (by decide +kernel) ?_
        refine k_goto (tgt := 36) cx dX8_isSplit_32 (by decide) ?_
        refine k_istore_n cx dX8_isSplit_36 rfl (by decide) ?_
        refine k_iinc (v := (x3 + (1 : Int32))) cx dX8_isSplit_37 rfl rfl (by decide) ?_
        refine k_goto (tgt := 4) cx dX8_isSplit_40 (by decide) ?_
        exact k_weak h (lsLe.keep (lsLe.keep (lsLe.keep (lsLe.keep lsLe.nil))))
set_option maxHeartbeats 2000000 in
theorem b_X8_isSplit_e  {g : GE} {f : FE} {q : Bool → Mm → Prop} (cx : Cx g f cX8_isSplit 4 RX8 0 0 0 0) (hr : (f_M f).sig.returnType = (some .boolean)) (hl : (f_M f).locks = false) (hQ : f_Q f = MQ (f_b f) (QW g (qZ q)) (f_a f) (f_s f) 0 0 (fun q => g.2.2.2 ≤ q))  {x1 : Int32} {μ : Mm} (h : F_X8_isSplit_e  (KK_X8_isSplit_4 g f ) q x1 μ) : KW g f 4 0 0 0 [some (.ref p_MO), some (.int x1), none, none] [] μ := by
  unfold F_X8_isSplit_e at h
  refine k_iconst (v := (0 : Int32)) cx dX8_isSplit_0 (by decide +kernel) ?_
  refine k_istore_n cx dX8_isSplit_1 rfl (by decide) ?_
  refine k_iconst (v := (0 : Int32)) cx dX8_isSplit_2 (by decide +kernel) ?_
  refine k_istore_n cx dX8_isSplit_3 rfl (by decide) ?_
  exact k_weak h (lsLe.keep (lsLe.keep (lsLe.keep (lsLe.keep lsLe.nil))))
theorem m_X8_isSplit {g : GE} {l : Launch} {μ : Mm} {q : Bool → Mm → Prop} {x1 : Int32}  (h : Wp_X8_isSplit  x1 μ q) : MW g l yX8_isSplit cX8_isSplit 4 (some .boolean) 0 0 [.ref p_MO, .int x1] μ (qZ q) := by
  refine met_of (by decide) (Nat.le_of_ble_eq_true rfl) (by intro v hv; simp only [List.mem_cons, List.not_mem_nil, or_false] at hv; rcases hv with rfl | rfl <;> rfl) ?_
  intro f hfl cx hr hl hQ
  exact b_X8_isSplit_e  cx hr hl hQ (h (KK_X8_isSplit_4 g f ) (fun _ _ _ _ h => b_X8_isSplit_4  cx hr hl hQ h))
theorem dX8_canMove_0 : decode cX8_canMove 0 = .ok (.aload_n 0, 1) := by decide +kernel
theorem dX8_canMove_1 : decode cX8_canMove 1 = .ok (.getfield 62, 3) := by decide +kernel
theorem dX8_canMove_4 : decode cX8_canMove 4 = .ok (.iload_n 1, 1) := by decide +kernel
theorem dX8_canMove_5 : decode cX8_canMove 5 = .ok (.baload, 1) := by decide +kernel
theorem dX8_canMove_6 : decode cX8_canMove 6 = .ok (.ifCond .ne 25, 3) := by decide +kernel
theorem dX8_canMove_9 : decode cX8_canMove 9 = .ok (.aload_n 0, 1) := by decide +kernel
theorem dX8_canMove_10 : decode cX8_canMove 10 = .ok (.getfield 65, 3) := by decide +kernel
theorem dX8_canMove_13 : decode cX8_canMove 13 = .ok (.iload_n 1, 1) := by decide +kernel
theorem dX8_canMove_14 : decode cX8_canMove 14 = .ok (.iaload, 1) := by decide +kernel
theorem dX8_canMove_15 : decode cX8_canMove 15 = .ok (.iconst 2, 1) := by decide +kernel
theorem dX8_canMove_16 : decode cX8_canMove 16 = .ok (.if_icmp .eq 15, 3) := by decide +kernel
theorem dX8_canMove_19 : decode cX8_canMove 19 = .ok (.aload_n 0, 1) := by decide +kernel
theorem dX8_canMove_20 : decode cX8_canMove 20 = .ok (.iload_n 1, 1) := by decide +kernel
theorem dX8_canMove_21 : decode cX8_canMove 21 = .ok (.invokevirtual 235, 3) := by decide +kernel
theorem dX8_canMove_24 : decode cX8_canMove 24 = .ok (.ifCond .ne 7, 3) := by decide +kernel
theorem dX8_canMove_27 : decode cX8_canMove 27 = .ok (.iconst 1, 1) := by decide +kernel
theorem dX8_canMove_28 : decode cX8_canMove 28 = .ok (.goto 4, 3) := by decide +kernel
theorem dX8_canMove_31 : decode cX8_canMove 31 = .ok (.iconst 0, 1) := by decide +kernel
theorem dX8_canMove_32 : decode cX8_canMove 32 = .ok (.ireturn, 1) := by decide +kernel
def F_X8_canMove_e   (q : Bool → Mm → Prop) (x1 : Int32) (μ : Mm) : Prop :=
  vp_in x1 13 ∧ ((¬ ((μ p_MO_hasEnded (x1).toNatClampNeg) = 0) → q false μ) ∧ ((μ p_MO_hasEnded (x1).toNatClampNeg) = 0 → vp_in x1 13 ∧ (((μ p_MO_manner (x1).toNatClampNeg) = (2 : Int32) → q false μ) ∧ (¬ ((μ p_MO_manner (x1).toNatClampNeg) = (2 : Int32)) → Wp_X8_isSplit x1 μ (fun b2 μ1 => ((¬ ((bI b2) = 0) → q false μ1) ∧ ((bI b2) = 0 → q true μ1)))))))
def Wp_X8_canMove  (x1 : Int32) (μ : Mm) (q : Bool → Mm → Prop) : Prop := F_X8_canMove_e   q x1 μ
set_option maxHeartbeats 2000000 in
theorem b_X8_canMove_e  {g : GE} {f : FE} {q : Bool → Mm → Prop} (cx : Cx g f cX8_canMove 2 RX8 1 23 0 0) (hr : (f_M f).sig.returnType = (some .boolean)) (hl : (f_M f).locks = false) (hQ : f_Q f = MQ (f_b f) (QW g (qZ q)) (f_a f) (f_s f) 0 0 (fun q => g.2.2.2 ≤ q))  {x1 : Int32} {μ : Mm} (h : F_X8_canMove_e   q x1 μ) : KW g f 2 0 0 0 [some (.ref p_MO), some (.int x1)] [] μ := by
  unfold F_X8_canMove_e at h
  refine k_aload_n cx dX8_canMove_0 rfl rfl ?_
  refine k_get (o := some p_MO_hasEnded) (v := .ref p_MO_hasEnded) cx fl_X8_62 ob_MO rfl rfl dX8_canMove_1 ?_
  refine k_iload_n cx dX8_canMove_4 rfl rfl ?_
  obtain ⟨hi, h⟩ := h
  refine k_zald cx ar_MO_hasEnded hi dX8_canMove_5 ?_
  refine k_if_ne (tgt := 31) cx dX8_canMove_6 (by decide) (fun hc => ?_) (fun hc => ?_)
  · replace h := h.1 hc
    refine k_iconst (v := (0 : Int32)) cx dX8_canMove_31 (by decide +kernel) ?_
    exact k_ret_Z (b := false) cx hr hl hQ dX8_canMove_32 rfl h
  · replace h := h.2 hc
    refine k_aload_n cx dX8_canMove_9 rfl rfl ?_
    refine k_get (o := some p_MO_manner) (v := .ref p_MO_manner) cx fl_X8_65 ob_MO rfl rfl dX8_canMove_10 ?_
    refine k_iload_n cx dX8_canMove_13 rfl rfl ?_
    obtain ⟨hi, h⟩ := h
    refine k_iald cx ar_MO_manner hi dX8_canMove_14 ?_
    refine k_iconst (v := (2 : Int32)) cx dX8_canMove_15 (by decide +kernel) ?_
    refine k_icmp_eq (tgt := 31) cx dX8_canMove_16 (by decide) (fun hc => ?_) (fun hc => ?_)
    · replace h := h.1 hc
      refine k_iconst (v := (0 : Int32)) cx dX8_canMove_31 (by decide +kernel) ?_
      exact k_ret_Z (b := false) cx hr hl hQ dX8_canMove_32 rfl h
    · replace h := h.2 hc
      refine k_aload_n cx dX8_canMove_19 rfl rfl ?_
      refine k_iload_n cx dX8_canMove_20 rfl rfl ?_
      refine k_callV (As := [.int x1]) (rest := []) cx (m_X8_isSplit h) cv_X8_235 ob_MO rfl rfl rfl rfl (Nat.le_of_ble_eq_true rfl) ⟨Nat.le_of_ble_eq_true rfl, Nat.le_of_ble_eq_true rfl⟩ dX8_canMove_21 (fun v μ1 hq => ?_)
      obtain ⟨b2, rfl, h⟩ := hq
      refine k_if_ne (tgt := 31) cx dX8_canMove_24 (by decide) (fun hc => ?_) (fun hc => ?_)
      · replace h := h.1 hc
        refine k_iconst (v := (0 : Int32)) cx dX8_canMove_31 (by decide +kernel) ?_
        exact k_ret_Z (b := false) cx hr hl hQ dX8_canMove_32 rfl h
      · replace h := h.2 hc
        refine k_iconst (v := (1 : Int32)) cx dX8_canMove_27 (by decide +kernel) ?_
        refine k_goto (tgt := 32) cx dX8_canMove_28 (by decide) ?_
        exact k_ret_Z (b := true) cx hr hl hQ dX8_canMove_32 rfl h
theorem m_X8_canMove {g : GE} {l : Launch} {μ : Mm} {q : Bool → Mm → Prop} {x1 : Int32}  (h : Wp_X8_canMove  x1 μ q) : MW g l yX8_canMove cX8_canMove 2 (some .boolean) 1 23 [.ref p_MO, .int x1] μ (qZ q) := by
  refine met_of (by decide) (Nat.le_of_ble_eq_true rfl) (by intro v hv; simp only [List.mem_cons, List.not_mem_nil, or_false] at hv; rcases hv with rfl | rfl <;> rfl) ?_
  intro f hfl cx hr hl hQ
  exact b_X8_canMove_e  cx hr hl hQ (h  )
theorem dX8_has_0 : decode cX8_has 0 = .ok (.iload_n 0, 1) := by decide +kernel
theorem dX8_has_1 : decode cX8_has 1 = .ok (.iload_n 1, 1) := by decide +kernel
theorem dX8_has_2 : decode cX8_has 2 = .ok (.ishr, 1) := by decide +kernel
theorem dX8_has_3 : decode cX8_has 3 = .ok (.iconst 1, 1) := by decide +kernel
theorem dX8_has_4 : decode cX8_has 4 = .ok (.iand, 1) := by decide +kernel
theorem dX8_has_5 : decode cX8_has 5 = .ok (.iconst 1, 1) := by decide +kernel
theorem dX8_has_6 : decode cX8_has 6 = .ok (.if_icmp .ne 7, 3) := by decide +kernel
theorem dX8_has_9 : decode cX8_has 9 = .ok (.iconst 1, 1) := by decide +kernel
theorem dX8_has_10 : decode cX8_has 10 = .ok (.goto 4, 3) := by decide +kernel
theorem dX8_has_13 : decode cX8_has 13 = .ok (.iconst 0, 1) := by decide +kernel
theorem dX8_has_14 : decode cX8_has 14 = .ok (.ireturn, 1) := by decide +kernel
def F_X8_has_e   (q : Bool → Mm → Prop) (x0 : Int32) (x1 : Int32) (μ : Mm) : Prop :=
  ((¬ (((x0 >>> (x1 &&& 31)) &&& (1 : Int32)) = (1 : Int32)) → q false μ) ∧ (((x0 >>> (x1 &&& 31)) &&& (1 : Int32)) = (1 : Int32) → q true μ))
def Wp_X8_has  (x0 : Int32) (x1 : Int32) (μ : Mm) (q : Bool → Mm → Prop) : Prop := F_X8_has_e   q x0 x1 μ
set_option maxHeartbeats 2000000 in
theorem b_X8_has_e  {g : GE} {f : FE} {q : Bool → Mm → Prop} (cx : Cx g f cX8_has 2 RX8 0 0 0 0) (hr : (f_M f).sig.returnType = (some .boolean)) (hl : (f_M f).locks = false) (hQ : f_Q f = MQ (f_b f) (QW g (qZ q)) (f_a f) (f_s f) 0 0 (fun q => g.2.2.2 ≤ q))  {x0 : Int32} {x1 : Int32} {μ : Mm} (h : F_X8_has_e   q x0 x1 μ) : KW g f 2 0 0 0 [some (.int x0), some (.int x1)] [] μ := by
  unfold F_X8_has_e at h
  refine k_iload_n cx dX8_has_0 rfl rfl ?_
  refine k_iload_n cx dX8_has_1 rfl rfl ?_
  refine k_ishr cx dX8_has_2 ?_
  refine k_iconst (v := (1 : Int32)) cx dX8_has_3 (by decide +kernel) ?_
  refine k_iand cx dX8_has_4 ?_
  refine k_iconst (v := (1 : Int32)) cx dX8_has_5 (by decide +kernel) ?_
  refine k_icmp_ne (tgt := 13) cx dX8_has_6 (by decide) (fun hc => ?_) (fun hc => ?_)
  · replace h := h.1 hc
    refine k_iconst (v := (0 : Int32)) cx dX8_has_13 (by decide +kernel) ?_
    exact k_ret_Z (b := false) cx hr hl hQ dX8_has_14 rfl h
  · replace h := h.2 hc
    refine k_iconst (v := (1 : Int32)) cx dX8_has_9 (by decide +kernel) ?_
    refine k_goto (tgt := 14) cx dX8_has_10 (by decide) ?_
    exact k_ret_Z (b := true) cx hr hl hQ dX8_has_14 rfl h
theorem m_X8_has {g : GE} {l : Launch} {μ : Mm} {q : Bool → Mm → Prop} {x0 : Int32} {x1 : Int32}  (h : Wp_X8_has  x0 x1 μ q) : MW g l yX8_has cX8_has 2 (some .boolean) 0 0 [.int x0, .int x1] μ (qZ q) := by
  refine met_of (by decide) (Nat.le_of_ble_eq_true rfl) (by intro v hv; simp only [List.mem_cons, List.not_mem_nil, or_false] at hv; rcases hv with rfl | rfl <;> rfl) ?_
  intro f hfl cx hr hl hQ
  exact b_X8_has_e  cx hr hl hQ (h  )
theorem dX8_isNode_0 : decode cX8_isNode 0 = .ok (.iload_n 1, 1) := by decide +kernel
theorem dX8_isNode_1 : decode cX8_isNode 1 = .ok (.iconst 0, 1) := by decide +kernel
theorem dX8_isNode_2 : decode cX8_isNode 2 = .ok (.aload_n 0, 1) := by decide +kernel
theorem dX8_isNode_3 : decode cX8_isNode 3 = .ok (.getfield 108, 3) := by decide +kernel
theorem dX8_isNode_6 : decode cX8_isNode 6 = .ok (.iconst 1, 1) := by decide +kernel
theorem dX8_isNode_7 : decode cX8_isNode 7 = .ok (.isub, 1) := by decide +kernel
theorem dX8_isNode_8 : decode cX8_isNode 8 = .ok (.invokestatic 111, 3) := by decide +kernel
theorem dX8_isNode_11 : decode cX8_isNode 11 = .ok (.ireturn, 1) := by decide +kernel
def F_X8_isNode_e   (q : Bool → Mm → Prop) (x1 : Int32) (μ : Mm) : Prop :=
  Wp_X8_isIn x1 (0 : Int32) ((μ p_MO 1) - (1 : Int32)) μ (fun b2 μ1 => q b2 μ1)
def Wp_X8_isNode  (x1 : Int32) (μ : Mm) (q : Bool → Mm → Prop) : Prop := F_X8_isNode_e   q x1 μ
set_option maxHeartbeats 2000000 in
theorem b_X8_isNode_e  {g : GE} {f : FE} {q : Bool → Mm → Prop} (cx : Cx g f cX8_isNode 2 RX8 1 22 0 0) (hr : (f_M f).sig.returnType = (some .boolean)) (hl : (f_M f).locks = false) (hQ : f_Q f = MQ (f_b f) (QW g (qZ q)) (f_a f) (f_s f) 0 0 (fun q => g.2.2.2 ≤ q))  {x1 : Int32} {μ : Mm} (h : F_X8_isNode_e   q x1 μ) : KW g f 2 0 0 0 [some (.ref p_MO), some (.int x1)] [] μ := by
  unfold F_X8_isNode_e at h
  refine k_iload_n cx dX8_isNode_0 rfl rfl ?_
  refine k_iconst (v := (0 : Int32)) cx dX8_isNode_1 (by decide +kernel) ?_
  refine k_aload_n cx dX8_isNode_2 rfl rfl ?_
  refine k_get (o := none) (v := .int (μ p_MO 1)) cx fl_X8_108 ob_MO rfl rfl dX8_isNode_3 ?_
  refine k_iconst (v := (1 : Int32)) cx dX8_isNode_6 (by decide +kernel) ?_
  refine k_isub cx dX8_isNode_7 ?_
  refine k_callS (As := [.int x1, .int (0 : Int32), .int ((μ p_MO 1) - (1 : Int32))]) (rest := []) cx (m_X8_isIn h) cv_X8_111 rfl rfl (Nat.le_of_ble_eq_true rfl) ⟨Nat.le_of_ble_eq_true rfl, Nat.le_of_ble_eq_true rfl⟩ dX8_isNode_8 (fun v μ1 hq => ?_)
  obtain ⟨b2, rfl, h⟩ := hq
  exact k_ret_Z (b := b2) cx hr hl hQ dX8_isNode_11 rfl h
theorem m_X8_isNode {g : GE} {l : Launch} {μ : Mm} {q : Bool → Mm → Prop} {x1 : Int32}  (h : Wp_X8_isNode  x1 μ q) : MW g l yX8_isNode cX8_isNode 2 (some .boolean) 1 22 [.ref p_MO, .int x1] μ (qZ q) := by
  refine met_of (by decide) (Nat.le_of_ble_eq_true rfl) (by intro v hv; simp only [List.mem_cons, List.not_mem_nil, or_false] at hv; rcases hv with rfl | rfl <;> rfl) ?_
  intro f hfl cx hr hl hQ
  exact b_X8_isNode_e  cx hr hl hQ (h  )
theorem dX8_isChoice_0 : decode cX8_isChoice 0 = .ok (.iconst 3, 1) := by decide +kernel
theorem dX8_isChoice_1 : decode cX8_isChoice 1 = .ok (.aload_n 0, 1) := by decide +kernel
theorem dX8_isChoice_2 : decode cX8_isChoice 2 = .ok (.getfield 118, 3) := by decide +kernel
theorem dX8_isChoice_5 : decode cX8_isChoice 5 = .ok (.imul, 1) := by decide +kernel
theorem dX8_isChoice_6 : decode cX8_isChoice 6 = .ok (.istore_n 1, 1) := by decide +kernel
theorem dX8_isChoice_7 : decode cX8_isChoice 7 = .ok (.iconst 1, 1) := by decide +kernel
theorem dX8_isChoice_8 : decode cX8_isChoice 8 = .ok (.istore_n 2, 1) := by decide +kernel
theorem dX8_isChoice_9 : decode cX8_isChoice 9 = .ok (.iconst 0, 1) := by decide +kernel
theorem dX8_isChoice_10 : decode cX8_isChoice 10 = .ok (.istore_n 3, 1) := by decide +kernel
theorem dX8_isChoice_11 : decode cX8_isChoice 11 = .ok (.iload_n 3, 1) := by decide +kernel
theorem dX8_isChoice_12 : decode cX8_isChoice 12 = .ok (.aload_n 0, 1) := by decide +kernel
theorem dX8_isChoice_13 : decode cX8_isChoice 13 = .ok (.getfield 26, 3) := by decide +kernel
theorem dX8_isChoice_16 : decode cX8_isChoice 16 = .ok (.aload_n 0, 1) := by decide +kernel
theorem dX8_isChoice_17 : decode cX8_isChoice 17 = .ok (.getfield 118, 3) := by decide +kernel
theorem dX8_isChoice_20 : decode cX8_isChoice 20 = .ok (.iaload, 1) := by decide +kernel
theorem dX8_isChoice_21 : decode cX8_isChoice 21 = .ok (.if_icmp .ge 115, 3) := by decide +kernel
theorem dX8_isChoice_24 : decode cX8_isChoice 24 = .ok (.iload_n 2, 1) := by decide +kernel
theorem dX8_isChoice_25 : decode cX8_isChoice 25 = .ok (.ifCond .eq 62, 3) := by decide +kernel
theorem dX8_isChoice_28 : decode cX8_isChoice 28 = .ok (.aload_n 0, 1) := by decide +kernel
theorem dX8_isChoice_29 : decode cX8_isChoice 29 = .ok (.aload_n 0, 1) := by decide +kernel
theorem dX8_isChoice_30 : decode cX8_isChoice 30 = .ok (.getfield 92, 3) := by decide +kernel
theorem dX8_isChoice_33 : decode cX8_isChoice 33 = .ok (.iload_n 3, 1) := by decide +kernel
theorem dX8_isChoice_34 : decode cX8_isChoice 34 = .ok (.iaload, 1) := by decide +kernel
theorem dX8_isChoice_35 : decode cX8_isChoice 35 = .ok (.invokevirtual 125, 3) := by decide +kernel
theorem dX8_isChoice_38 : decode cX8_isChoice 38 = .ok (.ifCond .eq 49, 3) := by decide +kernel
theorem dX8_isChoice_41 : decode cX8_isChoice 41 = .ok (.aload_n 0, 1) := by decide +kernel
theorem dX8_isChoice_42 : decode cX8_isChoice 42 = .ok (.getfield 35, 3) := by decide +kernel
theorem dX8_isChoice_45 : decode cX8_isChoice 45 = .ok (.iload_n 1, 1) := by decide +kernel
theorem dX8_isChoice_46 : decode cX8_isChoice 46 = .ok (.iload_n 3, 1) := by decide +kernel
theorem dX8_isChoice_47 : decode cX8_isChoice 47 = .ok (.iadd, 1) := by decide +kernel
theorem dX8_isChoice_48 : decode cX8_isChoice 48 = .ok (.iaload, 1) := by decide +kernel
theorem dX8_isChoice_49 : decode cX8_isChoice 49 = .ok (.aload_n 0, 1) := by decide +kernel
theorem dX8_isChoice_50 : decode cX8_isChoice 50 = .ok (.getfield 92, 3) := by decide +kernel
theorem dX8_isChoice_53 : decode cX8_isChoice 53 = .ok (.iload_n 3, 1) := by decide +kernel
theorem dX8_isChoice_54 : decode cX8_isChoice 54 = .ok (.iaload, 1) := by decide +kernel
theorem dX8_isChoice_55 : decode cX8_isChoice 55 = .ok (.invokestatic 136, 3) := by decide +kernel
theorem dX8_isChoice_58 : decode cX8_isChoice 58 = .ok (.ifCond .eq 29, 3) := by decide +kernel
theorem dX8_isChoice_61 : decode cX8_isChoice 61 = .ok (.aload_n 0, 1) := by decide +kernel
theorem dX8_isChoice_62 : decode cX8_isChoice 62 = .ok (.getfield 71, 3) := by decide +kernel
theorem dX8_isChoice_65 : decode cX8_isChoice 65 = .ok (.aload_n 0, 1) := by decide +kernel
theorem dX8_isChoice_66 : decode cX8_isChoice 66 = .ok (.getfield 92, 3) := by decide +kernel
theorem dX8_isChoice_69 : decode cX8_isChoice 69 = .ok (.iload_n 3, 1) := by decide +kernel
theorem dX8_isChoice_70 : decode cX8_isChoice 70 = .ok (.iaload, 1) := by decide +kernel
theorem dX8_isChoice_71 : decode cX8_isChoice 71 = .ok (.iaload, 1) := by decide +kernel
theorem dX8_isChoice_72 : decode cX8_isChoice 72 = .ok (.aload_n 0, 1) := by decide +kernel
theorem dX8_isChoice_73 : decode cX8_isChoice 73 = .ok (.getfield 32, 3) := by decide +kernel
theorem dX8_isChoice_76 : decode cX8_isChoice 76 = .ok (.iload_n 1, 1) := by decide +kernel
theorem dX8_isChoice_77 : decode cX8_isChoice 77 = .ok (.iload_n 3, 1) := by decide +kernel
theorem dX8_isChoice_78 : decode cX8_isChoice 78 = .ok (.iadd, 1) := by decide +kernel
theorem dX8_isChoice_79 : decode cX8_isChoice 79 = .ok (.iaload, 1) := by decide +kernel
theorem dX8_isChoice_80 : decode cX8_isChoice 80 = .ok (.if_icmp .lt 7, 3) := by decide +kernel
theorem dX8_isChoice_83 : decode cX8_isChoice 83 = .ok (.iconst 1, 1) := by decide +kernel
theorem dX8_isChoice_84 : decode cX8_isChoice 84 = .ok (.goto 4, 3) := by decide +kernel
theorem dX8_isChoice_87 : decode cX8_isChoice 87 = .ok (.iconst 0, 1) := by decide +kernel
theorem dX8_isChoice_88 : decode cX8_isChoice 88 = .ok (.istore_n 2, 1) := by decide +kernel
theorem dX8_isChoice_89 : decode cX8_isChoice 89 = .ok (.iconst 0, 1) := by decide +kernel
theorem dX8_isChoice_90 : decode cX8_isChoice 90 = .ok (.istore 4, 2) := by decide +kernel
theorem dX8_isChoice_92 : decode cX8_isChoice 92 = .ok (.iload 4, 2) := by decide +kernel
theorem dX8_isChoice_94 : decode cX8_isChoice 94 = .ok (.iload_n 3, 1) := by decide +kernel
theorem dX8_isChoice_95 : decode cX8_isChoice 95 = .ok (.if_icmp .ge 35, 3) := by decide +kernel
theorem dX8_isChoice_98 : decode cX8_isChoice 98 = .ok (.iload_n 2, 1) := by decide +kernel
theorem dX8_isChoice_99 : decode cX8_isChoice 99 = .ok (.ifCond .eq 23, 3) := by decide +kernel
theorem dX8_isChoice_102 : decode cX8_isChoice 102 = .ok (.aload_n 0, 1) := by decide +kernel
theorem dX8_isChoice_103 : decode cX8_isChoice 103 = .ok (.getfield 92, 3) := by decide +kernel
theorem dX8_isChoice_106 : decode cX8_isChoice 106 = .ok (.iload 4, 2) := by decide +kernel
theorem dX8_isChoice_108 : decode cX8_isChoice 108 = .ok (.iaload, 1) := by decide +kernel
theorem dX8_isChoice_109 : decode cX8_isChoice 109 = .ok (.aload_n 0, 1) := by decide +kernel
theorem dX8_isChoice_110 : decode cX8_isChoice 110 = .ok (.getfield 92, 3) := by decide +kernel
theorem dX8_isChoice_113 : decode cX8_isChoice 113 = .ok (.iload_n 3, 1) := by decide +kernel
theorem dX8_isChoice_114 : decode cX8_isChoice 114 = .ok (.iaload, 1) := by decide +kernel
theorem dX8_isChoice_115 : decode cX8_isChoice 115 = .ok (.if_icmp .eq 7, 3) := by decide +kernel
theorem dX8_isChoice_118 : decode cX8_isChoice 118 = .ok (.iconst 1, 1) := by decide +kernel
theorem dX8_isChoice_119 : decode cX8_isChoice 119 = .ok (.goto 4, 3) := by decide +kernel
theorem dX8_isChoice_122 : decode cX8_isChoice 122 = .ok (.iconst 0, 1) := by decide +kernel
theorem dX8_isChoice_123 : decode cX8_isChoice 123 = .ok (.istore_n 2, 1) := by decide +kernel
theorem dX8_isChoice_124 : decode cX8_isChoice 124 = .ok (.iinc 4 1, 3) := by decide +kernel
theorem dX8_isChoice_127 : decode cX8_isChoice 127 = .ok (.goto (-35), 3) := by decide +kernel
theorem dX8_isChoice_130 : decode cX8_isChoice 130 = .ok (.iinc 3 1, 3) := by decide +kernel
theorem dX8_isChoice_133 : decode cX8_isChoice 133 = .ok (.goto (-122), 3) := by decide +kernel
theorem dX8_isChoice_136 : decode cX8_isChoice 136 = .ok (.iload_n 2, 1) := by decide +kernel
theorem dX8_isChoice_137 : decode cX8_isChoice 137 = .ok (.ireturn, 1) := by decide +kernel
def F_X8_isChoice_11  (K11 : Int32 → Int32 → Int32 → Mm → Prop) (K92 : Int32 → Int32 → Int32 → Int32 → Mm → Prop) (q : Bool → Mm → Prop) (x1 : Int32) (x2 : Int32) (x3 : Int32) (μ : Mm) : Prop :=
  vp_in (μ p_MO 8) 13 ∧ (((μ p_MO_parts ((μ p_MO 8)).toNatClampNeg) ≤ x3 → ∃ b : Bool, x2 = bI b ∧ q b μ) ∧ (¬ ((μ p_MO_parts ((μ p_MO 8)).toNatClampNeg) ≤ x3) → ((x2 = 0 → K92 x1 (0 : Int32) x3 (0 : Int32) μ) ∧ (¬ (x2 = 0) → vp_in x3 3 ∧ Wp_X8_isNode (μ p_MO_tries (x3).toNatClampNeg) μ (fun b2 μ1 => (((bI b2) = 0 → K92 x1 (0 : Int32) x3 (0 : Int32) μ1) ∧ (¬ ((bI b2) = 0) → vp_in (x1 + x3) 39 ∧ vp_in x3 3 ∧ Wp_X8_has (μ1 p_MO_partSet ((x1 + x3)).toNatClampNeg) (μ1 p_MO_tries (x3).toNatClampNeg) μ1 (fun b4 μ3 => (((bI b4) = 0 → K92 x1 (0 : Int32) x3 (0 : Int32) μ3) ∧ (¬ ((bI b4) = 0) → vp_in x3 3 ∧ vp_in (μ3 p_MO_tries (x3).toNatClampNeg) 6 ∧ vp_in (x1 + x3) 39 ∧ (((μ3 p_MO_left ((μ3 p_MO_tries (x3).toNatClampNeg)).toNatClampNeg) < (μ3 p_MO_partNeed ((x1 + x3)).toNatClampNeg) → K92 x1 (0 : Int32) x3 (0 : Int32) μ3) ∧ (¬ ((μ3 p_MO_left ((μ3 p_MO_tries (x3).toNatClampNeg)).toNatClampNeg) < (μ3 p_MO_partNeed ((x1 + x3)).toNatClampNeg)) → K92 x1 (1 : Int32) x3 (0 : Int32) μ3))))))))))))
def F_X8_isChoice_92  (K11 : Int32 → Int32 → Int32 → Mm → Prop) (K92 : Int32 → Int32 → Int32 → Int32 → Mm → Prop) (q : Bool → Mm → Prop) (x1 : Int32) (x2 : Int32) (x3 : Int32) (x4 : Int32) (μ : Mm) : Prop :=
  ((x3 ≤ x4 → K11 x1 x2 (x3 + (1 : Int32)) μ) ∧ (¬ (x3 ≤ x4) → ((x2 = 0 → K92 x1 (0 : Int32) x3 (x4 + (1 : Int32)) μ) ∧ (¬ (x2 = 0) → vp_in x4 3 ∧ vp_in x3 3 ∧ (((μ p_MO_tries (x4).toNatClampNeg) = (μ p_MO_tries (x3).toNatClampNeg) → K92 x1 (0 : Int32) x3 (x4 + (1 : Int32)) μ) ∧ (¬ ((μ p_MO_tries (x4).toNatClampNeg) = (μ p_MO_tries (x3).toNatClampNeg)) → K92 x1 (1 : Int32) x3 (x4 + (1 : Int32)) μ))))))
def F_X8_isChoice_e  (K11 : Int32 → Int32 → Int32 → Mm → Prop) (K92 : Int32 → Int32 → Int32 → Int32 → Mm → Prop) (q : Bool → Mm → Prop)  (μ : Mm) : Prop :=
  K11 ((3 : Int32) * (μ p_MO 8)) (1 : Int32) (0 : Int32) μ
def Wp_X8_isChoice   (μ : Mm) (q : Bool → Mm → Prop) : Prop := ∀ (K11 : Int32 → Int32 → Int32 → Mm → Prop) (K92 : Int32 → Int32 → Int32 → Int32 → Mm → Prop), (∀ (x1 : Int32) (x2 : Int32) (x3 : Int32) (μ : Mm), F_X8_isChoice_11  K11 K92 q x1 x2 x3 μ → K11 x1 x2 x3 μ) → (∀ (x1 : Int32) (x2 : Int32) (x3 : Int32) (x4 : Int32) (μ : Mm), F_X8_isChoice_92  K11 K92 q x1 x2 x3 x4 μ → K92 x1 x2 x3 x4 μ) → F_X8_isChoice_e  K11 K92 q  μ
abbrev KK_X8_isChoice_11 (g : GE) (f : FE)  : Int32 → Int32 → Int32 → Mm → Prop := fun x1 x2 x3 μ => KW g f 5 0 0 11 [some (.ref p_MO), some (.int x1), some (.int x2), some (.int x3), none] [] μ
abbrev KK_X8_isChoice_92 (g : GE) (f : FE)  : Int32 → Int32 → Int32 → Int32 → Mm → Prop := fun x1 x2 x3 x4 μ => KW g f 5 0 0 92 [some (.ref p_MO), some (.int x1), some (.int x2), some (.int x3), some (.int x4)] [] μ
set_option maxHeartbeats 2000000 in
theorem b_X8_isChoice_11  {g : GE} {f : FE} {q : Bool → Mm → Prop} (cx : Cx g f cX8_isChoice 5 RX8 2 43 0 0) (hr : (f_M f).sig.returnType = (some .boolean)) (hl : (f_M f).locks = false) (hQ : f_Q f = MQ (f_b f) (QW g (qZ q)) (f_a f) (f_s f) 0 0 (fun q => g.2.2.2 ≤ q))  {x1 : Int32} {x2 : Int32} {x3 : Int32} {μ : Mm} (h : F_X8_isChoice_11  (KK_X8_isChoice_11 g f ) (KK_X8_isChoice_92 g f ) q x1 x2 x3 μ) : KK_X8_isChoice_11 g f  x1 x2 x3 μ := by
  unfold F_X8_isChoice_11 at h
  show KW g f 5 0 0 11 [some (.ref p_MO), some (.int x1), some (.int x2), some (.int x3), none] [] μ
  refine k_iload_n cx dX8_isChoice_11 rfl rfl ?_
  refine k_aload_n cx dX8_isChoice_12 rfl rfl ?_
  refine k_get (o := some p_MO_parts) (v := .ref p_MO_parts) cx fl_X8_26 ob_MO rfl rfl dX8_isChoice_13 ?_
  refine k_aload_n cx dX8_isChoice_16 rfl rfl ?_
  refine k_get (o := none) (v := .int (μ p_MO 8)) cx fl_X8_118 ob_MO rfl rfl dX8_isChoice_17 ?_
  obtain ⟨hi, h⟩ := h
  refine k_iald cx ar_MO_parts hi dX8_isChoice_20 ?_
  refine k_icmp_ge (tgt := 136) cx dX8_isChoice_21 (by decide) (fun hc => ?_) (fun hc => ?_)
  · replace h := h.1 hc
    refine k_iload_n cx dX8_isChoice_136 rfl rfl ?_
    obtain ⟨b, hb, h⟩ := h
    exact k_ret_Z (b := b) cx hr hl hQ dX8_isChoice_137 hb h
  · replace h := h.2 hc
    refine k_iload_n cx dX8_isChoice_24 rfl rfl ?_
    refine k_if_eq (tgt := 87) cx dX8_isChoice_25 (by decide) (fun hc => ?_) (fun hc => ?_)
    · replace h := h.1 hc
      refine k_iconst (v := (0 : Int32)) cx dX8_isChoice_87 (by decide +kernel) ?_
      refine k_istore_n cx dX8_isChoice_88 rfl (by decide) ?_
      refine k_iconst (v := (0 : Int32)) cx dX8_isChoice_89 (by decide +kernel) ?_
      refine k_istore cx dX8_isChoice_90 (by decide) ?_
      exact k_weak h (lsLe.keep (lsLe.keep (lsLe.keep (lsLe.keep (lsLe.keep lsLe.nil)))))
    · replace h := h.2 hc
      refine k_aload_n cx dX8_isChoice_28 rfl rfl ?_
      refine k_aload_n cx dX8_isChoice_29 rfl rfl ?_
      refine k_get (o := some p_MO_tries) (v := .ref p_MO_tries) cx fl_X8_92 ob_MO rfl rfl dX8_isChoice_30 ?_
      refine k_iload_n cx dX8_isChoice_33 rfl rfl ?_
      obtain ⟨hi, h⟩ := h
      refine k_iald cx ar_MO_tries hi dX8_isChoice_34 ?_
      refine k_callV (As := [.int (μ p_MO_tries (x3).toNatClampNeg)]) (rest := []) cx (m_X8_isNode h) cv_X8_125 ob_MO rfl rfl rfl rfl (Nat.le_of_ble_eq_true rfl) ⟨Nat.le_of_ble_eq_true rfl, Nat.le_of_ble_eq_true rfl⟩ dX8_isChoice_35 (fun v μ1 hq => ?_)
      obtain ⟨b2, rfl, h⟩ := hq
      refine k_if_eq (tgt := 87) cx dX8_isChoice_38 (by decide) (fun hc => ?_) (fun hc => ?_)
      · replace h := h.1 hc
        refine k_iconst (v := (0 : Int32)) cx dX8_isChoice_87 (by decide +kernel) ?_
        refine k_istore_n cx dX8_isChoice_88 rfl (by decide) ?_
        refine k_iconst (v := (0 : Int32)) cx dX8_isChoice_89 (by decide +kernel) ?_
        refine k_istore cx dX8_isChoice_90 (by decide) ?_
        exact k_weak h (lsLe.keep (lsLe.keep (lsLe.keep (lsLe.keep (lsLe.keep lsLe.nil)))))
      · replace h := h.2 hc
        refine k_aload_n cx dX8_isChoice_41 rfl rfl ?_
        refine k_get (o := some p_MO_partSet) (v := .ref p_MO_partSet) cx fl_X8_35 ob_MO rfl rfl dX8_isChoice_42 ?_
        refine k_iload_n cx dX8_isChoice_45 rfl rfl ?_
        refine k_iload_n cx dX8_isChoice_46 rfl rfl ?_
        refine k_iadd cx dX8_isChoice_47 ?_
        obtain ⟨hi, h⟩ := h
        refine k_iald cx ar_MO_partSet hi dX8_isChoice_48 ?_
        refine k_aload_n cx dX8_isChoice_49 rfl rfl ?_
        refine k_get (o := some p_MO_tries) (v := .ref p_MO_tries) cx fl_X8_92 ob_MO rfl rfl dX8_isChoice_50 ?_
        refine k_iload_n cx dX8_isChoice_53 rfl rfl ?_
        obtain ⟨hi, h⟩ := h
        refine k_iald cx ar_MO_tries hi dX8_isChoice_54 ?_
        refine k_callS (As := [.int (μ1 p_MO_partSet ((x1 + x3)).toNatClampNeg), .int (μ1 p_MO_tries (x3).toNatClampNeg)]) (rest := []) cx (m_X8_has h) cv_X8_136 rfl rfl (Nat.le_of_ble_eq_true rfl) ⟨Nat.le_of_ble_eq_true rfl, Nat.le_of_ble_eq_true rfl⟩ dX8_isChoice_55 (fun v μ3 hq => ?_)
        obtain ⟨b4, rfl, h⟩ := hq
        refine k_if_eq (tgt := 87) cx dX8_isChoice_58 (by decide) (fun hc => ?_) (fun hc => ?_)
        · replace h := h.1 hc
          refine k_iconst (v := (0 : Int32)) cx dX8_isChoice_87 (by decide +kernel) ?_
          refine k_istore_n cx dX8_isChoice_88 rfl (by decide) ?_
          refine k_iconst (v := (0 : Int32)) cx dX8_isChoice_89 (by decide +kernel) ?_
          refine k_istore cx dX8_isChoice_90 (by decide) ?_
          exact k_weak h (lsLe.keep (lsLe.keep (lsLe.keep (lsLe.keep (lsLe.keep lsLe.nil)))))
        · replace h := h.2 hc
          refine k_aload_n cx dX8_isChoice_61 rfl rfl ?_
          refine k_get (o := some p_MO_left) (v := .ref p_MO_left) cx fl_X8_71 ob_MO rfl rfl dX8_isChoice_62 ?_
          refine k_aload_n cx dX8_isChoice_65 rfl rfl ?_
          refine k_get (o := some p_MO_tries) (v := .ref p_MO_tries) cx fl_X8_92 ob_MO rfl rfl dX8_isChoice_66 ?_
          refine k_iload_n cx dX8_isChoice_69 rfl rfl ?_
          obtain ⟨hi, h⟩ := h
          refine k_iald cx ar_MO_tries hi dX8_isChoice_70 ?_
          obtain ⟨hi, h⟩ := h
          refine k_iald cx ar_MO_left hi dX8_isChoice_71 ?_
          refine k_aload_n cx dX8_isChoice_72 rfl rfl ?_
          refine k_get (o := some p_MO_partNeed) (v := .ref p_MO_partNeed) cx fl_X8_32 ob_MO rfl rfl dX8_isChoice_73 ?_
          refine k_iload_n cx dX8_isChoice_76 rfl rfl ?_
          refine k_iload_n cx dX8_isChoice_77 rfl rfl ?_
          refine k_iadd cx dX8_isChoice_78 ?_
          obtain ⟨hi, h⟩ := h
          refine k_iald cx ar_MO_partNeed hi dX8_isChoice_79 ?_
          refine k_icmp_lt (tgt := 87) cx dX8_isChoice_80 (by decide) (fun hc => ?_) (fun hc => ?_)
          · replace h := h.1 hc
            refine k_iconst (v := (0 : Int32)) cx dX8_isChoice_87 (by decide +kernel) ?_
            refine k_istore_n cx dX8_isChoice_88 rfl (by decide) ?_
            refine k_iconst (v := (0 : Int32)) cx dX8_isChoice_89 (by decide +kernel) ?_
            refine k_istore cx dX8_isChoice_90 (by decide) ?_
            exact k_weak h (lsLe.keep (lsLe.keep (lsLe.keep (lsLe.keep (lsLe.keep lsLe.nil)))))
          · replace h := h.2 hc
            refine k_iconst (v := (1 : Int32)) cx dX8_isChoice_83 (by decide +kernel) ?_
            refine k_goto (tgt := 88) cx dX8_isChoice_84 (by decide) ?_
            refine k_istore_n cx dX8_isChoice_88 rfl (by decide) ?_
            refine k_iconst (v := (0 : Int32)) cx dX8_isChoice_89 (by decide +kernel) ?_
            refine k_istore cx dX8_isChoice_90 (by decide) ?_
            exact k_weak h (lsLe.keep (lsLe.keep (lsLe.keep (lsLe.keep (lsLe.keep lsLe.nil)))))
set_option maxHeartbeats 2000000 in
theorem b_X8_isChoice_92  {g : GE} {f : FE} {q : Bool → Mm → Prop} (cx : Cx g f cX8_isChoice 5 RX8 2 43 0 0) (hr : (f_M f).sig.returnType = (some .boolean)) (hl : (f_M f).locks = false) (hQ : f_Q f = MQ (f_b f) (QW g (qZ q)) (f_a f) (f_s f) 0 0 (fun q => g.2.2.2 ≤ q))  {x1 : Int32} {x2 : Int32} {x3 : Int32} {x4 : Int32} {μ : Mm} (h : F_X8_isChoice_92  (KK_X8_isChoice_11 g f ) (KK_X8_isChoice_92 g f ) q x1 x2 x3 x4 μ) : KK_X8_isChoice_92 g f  x1 x2 x3 x4 μ := by
  unfold F_X8_isChoice_92 at h
  show KW g f 5 0 0 92 [some (.ref p_MO), some (.int x1), some (.int x2), some (.int x3), some (.int x4)] [] μ
  refine k_iload cx dX8_isChoice_92 rfl ?_
  refine k_iload_n cx dX8_isChoice_94 rfl rfl ?_
  refine k_icmp_ge (tgt := 130) cx dX8_isChoice_95 (by decide) (fun hc => ?_) (fun hc => ?_)
  · replace h := h.1 hc
    refine k_iinc (v := (x3 + (1 : Int32))) cx dX8_isChoice_130 rfl rfl (by decide) ?_
    refine k_goto (tgt := 11) cx dX8_isChoice_133 (by decide) ?_
    exact k_weak h (lsLe.keep (lsLe.keep (lsLe.keep (lsLe.keep (lsLe.drop lsLe.nil)))))
  · replace h := h.2 hc
    refine k_iload_n cx dX8_isChoice_98 rfl rfl ?_
    refine k_if_eq (tgt := 122) cx dX8_isChoice_99 (by decide) (fun hc => ?_) (fun hc => ?_)
    · replace h := h.1 hc
      refine k_iconst (v := (0 : Int32)) cx dX8_isChoice_122 (by decide +kernel) ?_
      refine k_istore_n cx dX8_isChoice_123 rfl (by decide) ?_
      refine k_iinc (v := (x4 + (1 : Int32))) cx dX8_isChoice_124 rfl rfl (by decide) ?_
      refine k_goto (tgt := 92) cx dX8_isChoice_127 (by decide) ?_
      exact k_weak h (lsLe.keep (lsLe.keep (lsLe.keep (lsLe.keep (lsLe.keep lsLe.nil)))))
    · replace h := h.2 hc
      refine k_aload_n cx dX8_isChoice_102 rfl rfl ?_
      refine k_get (o := some p_MO_tries) (v := .ref p_MO_tries) cx fl_X8_92 ob_MO rfl rfl dX8_isChoice_103 ?_
      refine k_iload cx dX8_isChoice_106 rfl ?_
      obtain ⟨hi, h⟩ := h
      refine k_iald cx ar_MO_tries hi dX8_isChoice_108 ?_
      refine k_aload_n cx dX8_isChoice_109 rfl rfl ?_
      refine k_get (o := some p_MO_tries) (v := .ref p_MO_tries) cx fl_X8_92 ob_MO rfl rfl dX8_isChoice_110 ?_
      refine k_iload_n cx dX8_isChoice_113 rfl rfl ?_
      obtain ⟨hi, h⟩ := h
      refine k_iald cx ar_MO_tries hi dX8_isChoice_114 ?_
      refine k_icmp_eq (tgt := 122) cx dX8_isChoice_115 (by decide) (fun hc => ?_) (fun hc => ?_)
      · replace h := h.1 hc
        refine k_iconst (v := (0 : Int32)) cx dX8_isChoice_122 (by decide +kernel) ?_
        refine k_istore_n cx dX8_isChoice_123 rfl (by decide) ?_
        refine k_iinc (v := (x4 + (1 : Int32))) cx dX8_isChoice_124 rfl rfl (by decide) ?_
        refine k_goto (tgt := 92) cx dX8_isChoice_127 (by decide) ?_
        exact k_weak h (lsLe.keep (lsLe.keep (lsLe.keep (lsLe.keep (lsLe.keep lsLe.nil)))))
      · replace h := h.2 hc
        refine k_iconst (v := (1 : Int32)) cx dX8_isChoice_118 (by decide +kernel) ?_
        refine k_goto (tgt := 123) cx dX8_isChoice_119 (by decide) ?_
        refine k_istore_n cx dX8_isChoice_123 rfl (by decide) ?_
        refine k_iinc (v := (x4 + (1 : Int32))) cx dX8_isChoice_124 rfl rfl (by decide) ?_
        refine k_goto (tgt := 92) cx dX8_isChoice_127 (by decide) ?_
        exact k_weak h (lsLe.keep (lsLe.keep (lsLe.keep (lsLe.keep (lsLe.keep lsLe.nil)))))
set_option maxHeartbeats 2000000 in
theorem b_X8_isChoice_e  {g : GE} {f : FE} {q : Bool → Mm → Prop} (cx : Cx g f cX8_isChoice 5 RX8 2 43 0 0) (hr : (f_M f).sig.returnType = (some .boolean)) (hl : (f_M f).locks = false) (hQ : f_Q f = MQ (f_b f) (QW g (qZ q)) (f_a f) (f_s f) 0 0 (fun q => g.2.2.2 ≤ q))   {μ : Mm} (h : F_X8_isChoice_e  (KK_X8_isChoice_11 g f ) (KK_X8_isChoice_92 g f ) q  μ) : KW g f 5 0 0 0 [some (.ref p_MO), none, none, none, none] [] μ := by
  unfold F_X8_isChoice_e at h
  refine k_iconst (v := (3 : Int32)) cx dX8_isChoice_0 (by decide +kernel) ?_
  refine k_aload_n cx dX8_isChoice_1 rfl rfl ?_
  refine k_get (o := none) (v := .int (μ p_MO 8)) cx fl_X8_118 ob_MO rfl rfl dX8_isChoice_2 ?_
  refine k_imul cx dX8_isChoice_5 ?_
  refine k_istore_n cx dX8_isChoice_6 rfl (by decide) ?_
  refine k_iconst (v := (1 : Int32)) cx dX8_isChoice_7 (by decide +kernel) ?_
  refine k_istore_n cx dX8_isChoice_8 rfl (by decide) ?_
  refine k_iconst (v := (0 : Int32)) cx dX8_isChoice_9 (by decide +kernel) ?_
  refine k_istore_n cx dX8_isChoice_10 rfl (by decide) ?_
  exact k_weak h (lsLe.keep (lsLe.keep (lsLe.keep (lsLe.keep (lsLe.keep lsLe.nil)))))
theorem m_X8_isChoice {g : GE} {l : Launch} {μ : Mm} {q : Bool → Mm → Prop}  (h : Wp_X8_isChoice   μ q) : MW g l yX8_isChoice cX8_isChoice 5 (some .boolean) 2 43 [.ref p_MO] μ (qZ q) := by
  refine met_of (by decide) (Nat.le_of_ble_eq_true rfl) (by intro v hv; simp only [List.mem_cons, List.not_mem_nil, or_false] at hv; subst hv; rfl) ?_
  intro f hfl cx hr hl hQ
  exact b_X8_isChoice_e  cx hr hl hQ (h (KK_X8_isChoice_11 g f ) (KK_X8_isChoice_92 g f ) (fun _ _ _ _ h => b_X8_isChoice_11  cx hr hl hQ h) (fun _ _ _ _ _ h => b_X8_isChoice_92  cx hr hl hQ h))
theorem dX8_chooses_0 : decode cX8_chooses 0 = .ok (.aload_n 0, 1) := by decide +kernel
theorem dX8_chooses_1 : decode cX8_chooses 1 = .ok (.getfield 92, 3) := by decide +kernel
theorem dX8_chooses_4 : decode cX8_chooses 4 = .ok (.iconst 0, 1) := by decide +kernel
theorem dX8_chooses_5 : decode cX8_chooses 5 = .ok (.iload_n 1, 1) := by decide +kernel
theorem dX8_chooses_6 : decode cX8_chooses 6 = .ok (.bipush 36, 2) := by decide +kernel
theorem dX8_chooses_8 : decode cX8_chooses 8 = .ok (.idiv, 1) := by decide +kernel
theorem dX8_chooses_9 : decode cX8_chooses 9 = .ok (.iastore, 1) := by decide +kernel
theorem dX8_chooses_10 : decode cX8_chooses 10 = .ok (.aload_n 0, 1) := by decide +kernel
theorem dX8_chooses_11 : decode cX8_chooses 11 = .ok (.getfield 92, 3) := by decide +kernel
theorem dX8_chooses_14 : decode cX8_chooses 14 = .ok (.iconst 1, 1) := by decide +kernel
theorem dX8_chooses_15 : decode cX8_chooses 15 = .ok (.iload_n 1, 1) := by decide +kernel
theorem dX8_chooses_16 : decode cX8_chooses 16 = .ok (.bipush 6, 2) := by decide +kernel
theorem dX8_chooses_18 : decode cX8_chooses 18 = .ok (.idiv, 1) := by decide +kernel
theorem dX8_chooses_19 : decode cX8_chooses 19 = .ok (.bipush 6, 2) := by decide +kernel
theorem dX8_chooses_21 : decode cX8_chooses 21 = .ok (.irem, 1) := by decide +kernel
theorem dX8_chooses_22 : decode cX8_chooses 22 = .ok (.iastore, 1) := by decide +kernel
theorem dX8_chooses_23 : decode cX8_chooses 23 = .ok (.aload_n 0, 1) := by decide +kernel
theorem dX8_chooses_24 : decode cX8_chooses 24 = .ok (.getfield 92, 3) := by decide +kernel
theorem dX8_chooses_27 : decode cX8_chooses 27 = .ok (.iconst 2, 1) := by decide +kernel
theorem dX8_chooses_28 : decode cX8_chooses 28 = .ok (.iload_n 1, 1) := by decide +kernel
theorem dX8_chooses_29 : decode cX8_chooses 29 = .ok (.bipush 6, 2) := by decide +kernel
theorem dX8_chooses_31 : decode cX8_chooses 31 = .ok (.irem, 1) := by decide +kernel
theorem dX8_chooses_32 : decode cX8_chooses 32 = .ok (.iastore, 1) := by decide +kernel
theorem dX8_chooses_33 : decode cX8_chooses 33 = .ok (.iconst 1, 1) := by decide +kernel
theorem dX8_chooses_34 : decode cX8_chooses 34 = .ok (.istore_n 2, 1) := by decide +kernel
theorem dX8_chooses_35 : decode cX8_chooses 35 = .ok (.aload_n 0, 1) := by decide +kernel
theorem dX8_chooses_36 : decode cX8_chooses 36 = .ok (.getfield 26, 3) := by decide +kernel
theorem dX8_chooses_39 : decode cX8_chooses 39 = .ok (.aload_n 0, 1) := by decide +kernel
theorem dX8_chooses_40 : decode cX8_chooses 40 = .ok (.getfield 118, 3) := by decide +kernel
theorem dX8_chooses_43 : decode cX8_chooses 43 = .ok (.iaload, 1) := by decide +kernel
theorem dX8_chooses_44 : decode cX8_chooses 44 = .ok (.istore_n 3, 1) := by decide +kernel
theorem dX8_chooses_45 : decode cX8_chooses 45 = .ok (.iload_n 3, 1) := by decide +kernel
theorem dX8_chooses_46 : decode cX8_chooses 46 = .ok (.iconst 3, 1) := by decide +kernel
theorem dX8_chooses_47 : decode cX8_chooses 47 = .ok (.if_icmp .ge 28, 3) := by decide +kernel
theorem dX8_chooses_50 : decode cX8_chooses 50 = .ok (.iload_n 2, 1) := by decide +kernel
theorem dX8_chooses_51 : decode cX8_chooses 51 = .ok (.ifCond .eq 16, 3) := by decide +kernel
theorem dX8_chooses_54 : decode cX8_chooses 54 = .ok (.aload_n 0, 1) := by decide +kernel
theorem dX8_chooses_55 : decode cX8_chooses 55 = .ok (.getfield 92, 3) := by decide +kernel
theorem dX8_chooses_58 : decode cX8_chooses 58 = .ok (.iload_n 3, 1) := by decide +kernel
theorem dX8_chooses_59 : decode cX8_chooses 59 = .ok (.iaload, 1) := by decide +kernel
theorem dX8_chooses_60 : decode cX8_chooses 60 = .ok (.ifCond .ne 7, 3) := by decide +kernel
theorem dX8_chooses_63 : decode cX8_chooses 63 = .ok (.iconst 1, 1) := by decide +kernel
theorem dX8_chooses_64 : decode cX8_chooses 64 = .ok (.goto 4, 3) := by decide +kernel
theorem dX8_chooses_67 : decode cX8_chooses 67 = .ok (.iconst 0, 1) := by decide +kernel
theorem dX8_chooses_68 : decode cX8_chooses 68 = .ok (.istore_n 2, 1) := by decide +kernel
theorem dX8_chooses_69 : decode cX8_chooses 69 = .ok (.iinc 3 1, 3) := by decide +kernel
theorem dX8_chooses_72 : decode cX8_chooses 72 = .ok (.goto (-27), 3) := by decide +kernel
theorem dX8_chooses_75 : decode cX8_chooses 75 = .ok (.iload_n 2, 1) := by decide +kernel
theorem dX8_chooses_76 : decode cX8_chooses 76 = .ok (.ifCond .eq 14, 3) := by decide +kernel
theorem dX8_chooses_79 : decode cX8_chooses 79 = .ok (.aload_n 0, 1) := by decide +kernel
theorem dX8_chooses_80 : decode cX8_chooses 80 = .ok (.invokevirtual 156, 3) := by decide +kernel
theorem dX8_chooses_83 : decode cX8_chooses 83 = .ok (.ifCond .eq 7, 3) := by decide +kernel
theorem dX8_chooses_86 : decode cX8_chooses 86 = .ok (.iconst 1, 1) := by decide +kernel
theorem dX8_chooses_87 : decode cX8_chooses 87 = .ok (.goto 4, 3) := by decide +kernel
theorem dX8_chooses_90 : decode cX8_chooses 90 = .ok (.iconst 0, 1) := by decide +kernel
theorem dX8_chooses_91 : decode cX8_chooses 91 = .ok (.ireturn, 1) := by decide +kernel
def F_X8_chooses_45  (K45 : Int32 → Int32 → Mm → Prop) (q : Bool → Mm → Prop) (x2 : Int32) (x3 : Int32) (μ : Mm) : Prop :=
  (((3 : Int32) ≤ x3 → ((x2 = 0 → q false μ) ∧ (¬ (x2 = 0) → Wp_X8_isChoice μ (fun b2 μ1 => (((bI b2) = 0 → q false μ1) ∧ (¬ ((bI b2) = 0) → q true μ1)))))) ∧ (¬ ((3 : Int32) ≤ x3) → ((x2 = 0 → K45 (0 : Int32) (x3 + (1 : Int32)) μ) ∧ (¬ (x2 = 0) → vp_in x3 3 ∧ ((¬ ((μ p_MO_tries (x3).toNatClampNeg) = 0) → K45 (0 : Int32) (x3 + (1 : Int32)) μ) ∧ ((μ p_MO_tries (x3).toNatClampNeg) = 0 → K45 (1 : Int32) (x3 + (1 : Int32)) μ))))))
def F_X8_chooses_e  (K45 : Int32 → Int32 → Mm → Prop) (q : Bool → Mm → Prop) (x1 : Int32) (μ : Mm) : Prop :=
  vp_in (0 : Int32) 3 ∧ vp_in (1 : Int32) 3 ∧ vp_in (2 : Int32) 3 ∧ vp_in ((up2 (up2 (up2 μ p_MO_tries ((0 : Int32)).toNatClampNeg (x1 / (36 : Int32))) p_MO_tries ((1 : Int32)).toNatClampNeg ((x1 / (6 : Int32)) - (x1 / (6 : Int32)) / (6 : Int32) * (6 : Int32))) p_MO_tries ((2 : Int32)).toNatClampNeg (x1 - x1 / (6 : Int32) * (6 : Int32))) p_MO 8) 13 ∧ K45 (1 : Int32) ((up2 (up2 (up2 μ p_MO_tries ((0 : Int32)).toNatClampNeg (x1 / (36 : Int32))) p_MO_tries ((1 : Int32)).toNatClampNeg ((x1 / (6 : Int32)) - (x1 / (6 : Int32)) / (6 : Int32) * (6 : Int32))) p_MO_tries ((2 : Int32)).toNatClampNeg (x1 - x1 / (6 : Int32) * (6 : Int32))) p_MO_parts (((up2 (up2 (up2 μ p_MO_tries ((0 : Int32)).toNatClampNeg (x1 / (36 : Int32))) p_MO_tries ((1 : Int32)).toNatClampNeg ((x1 / (6 : Int32)) - (x1 / (6 : Int32)) / (6 : Int32) * (6 : Int32))) p_MO_tries ((2 : Int32)).toNatClampNeg (x1 - x1 / (6 : Int32) * (6 : Int32))) p_MO 8)).toNatClampNeg) (up2 (up2 (up2 μ p_MO_tries ((0 : Int32)).toNatClampNeg (x1 / (36 : Int32))) p_MO_tries ((1 : Int32)).toNatClampNeg ((x1 / (6 : Int32)) - (x1 / (6 : Int32)) / (6 : Int32) * (6 : Int32))) p_MO_tries ((2 : Int32)).toNatClampNeg (x1 - x1 / (6 : Int32) * (6 : Int32)))
def Wp_X8_chooses  (x1 : Int32) (μ : Mm) (q : Bool → Mm → Prop) : Prop := ∀ (K45 : Int32 → Int32 → Mm → Prop), (∀ (x2 : Int32) (x3 : Int32) (μ : Mm), F_X8_chooses_45  K45 q x2 x3 μ → K45 x2 x3 μ) → F_X8_chooses_e  K45 q x1 μ
abbrev KK_X8_chooses_45 (g : GE) (f : FE)  : Int32 → Int32 → Mm → Prop := fun x2 x3 μ => KW g f 4 0 0 45 [some (.ref p_MO), none, some (.int x2), some (.int x3)] [] μ
set_option maxHeartbeats 2000000 in
theorem b_X8_chooses_45  {g : GE} {f : FE} {q : Bool → Mm → Prop} (cx : Cx g f cX8_chooses 4 RX8 3 67 0 0) (hr : (f_M f).sig.returnType = (some .boolean)) (hl : (f_M f).locks = false) (hQ : f_Q f = MQ (f_b f) (QW g (qZ q)) (f_a f) (f_s f) 0 0 (fun q => g.2.2.2 ≤ q))  {x2 : Int32} {x3 : Int32} {μ : Mm} (h : F_X8_chooses_45  (KK_X8_chooses_45 g f ) q x2 x3 μ) : KK_X8_chooses_45 g f  x2 x3 μ := by
  unfold F_X8_chooses_45 at h
  show KW g f 4 0 0 45 [some (.ref p_MO), none, some (.int x2), some (.int x3)] [] μ
  refine k_iload_n cx dX8_chooses_45 rfl rfl ?_
  refine k_iconst (v := (3 : Int32)) cx dX8_chooses_46 (by decide +kernel) ?_
  refine k_icmp_ge (tgt := 75) cx dX8_chooses_47 (by decide) (fun hc => ?_) (fun hc => ?_)
  · replace h := h.1 hc
    refine k_iload_n cx dX8_chooses_75 rfl rfl ?_
    refine k_if_eq (tgt := 90) cx dX8_chooses_76 (by decide) (fun hc => ?_) (fun hc => ?_)
    · replace h := h.1 hc
      refine k_iconst (v := (0 : Int32)) cx dX8_chooses_90 (by decide +kernel) ?_
      exact k_ret_Z (b := false) cx hr hl hQ dX8_chooses_91 rfl h
    · replace h := h.2 hc
      refine k_aload_n cx dX8_chooses_79 rfl rfl ?_
      refine k_callV (As := []) (rest := []) cx (m_X8_isChoice h) cv_X8_156 ob_MO rfl rfl rfl rfl (Nat.le_of_ble_eq_true rfl) ⟨Nat.le_of_ble_eq_true rfl, Nat.le_of_ble_eq_true rfl⟩ dX8_chooses_80 (fun v μ1 hq => ?_)
      obtain ⟨b2, rfl, h⟩ := hq
      refine k_if_eq (tgt := 90) cx dX8_chooses_83 (by decide) (fun hc => ?_) (fun hc => ?_)
      · replace h := h.1 hc
        refine k_iconst (v := (0 : Int32)) cx dX8_chooses_90 (by decide +kernel) ?_
        exact k_ret_Z (b := false) cx hr hl hQ dX8_chooses_91 rfl h
      · replace h := h.2 hc
        refine k_iconst (v := (1 : Int32)) cx dX8_chooses_86 (by decide +kernel) ?_
        refine k_goto (tgt := 91) cx dX8_chooses_87 (by decide) ?_
        exact k_ret_Z (b := true) cx hr hl hQ dX8_chooses_91 rfl h
  · replace h := h.2 hc
    refine k_iload_n cx dX8_chooses_50 rfl rfl ?_
    refine k_if_eq (tgt := 67) cx dX8_chooses_51 (by decide) (fun hc => ?_) (fun hc => ?_)
    · replace h := h.1 hc
      refine k_iconst (v := (0 : Int32)) cx dX8_chooses_67 (by decide +kernel) ?_
      refine k_istore_n cx dX8_chooses_68 rfl (by decide) ?_
      refine k_iinc (v := (x3 + (1 : Int32))) cx dX8_chooses_69 rfl rfl (by decide) ?_
      refine k_goto (tgt := 45) cx dX8_chooses_72 (by decide) ?_
      exact k_weak h (lsLe.keep (lsLe.keep (lsLe.keep (lsLe.keep lsLe.nil))))
    · replace h := h.2 hc
      refine k_aload_n cx dX8_chooses_54 rfl rfl ?_
      refine k_get (o := some p_MO_tries) (v := .ref p_MO_tries) cx fl_X8_92 ob_MO rfl rfl dX8_chooses_55 ?_
      refine k_iload_n cx dX8_chooses_58 rfl rfl ?_
      obtain ⟨hi, h⟩ := h
      refine k_iald cx ar_MO_tries hi dX8_chooses_59 ?_
      refine k_if_ne (tgt := 67) cx dX8_chooses_60 (by decide) (fun hc => ?_) (fun hc => ?_)
      · replace h := h.1 hc
        refine k_iconst (v := (0 : Int32)) cx dX8_chooses_67 (by decide +kernel) ?_
        refine k_istore_n cx dX8_chooses_68 rfl (by decide) ?_
        refine k_iinc (v := (x3 + (1 : Int32))) cx dX8_chooses_69 rfl rfl (by decide) ?_
        refine k_goto (tgt := 45) cx dX8_chooses_72 (by decide) ?_
        exact k_weak h (lsLe.keep (lsLe.keep (lsLe.keep (lsLe.keep lsLe.nil))))
      · replace h := h.2 hc
        refine k_iconst (v := (1 : Int32)) cx dX8_chooses_63 (by decide +kernel) ?_
        refine k_goto (tgt := 68) cx dX8_chooses_64 (by decide) ?_
        refine k_istore_n cx dX8_chooses_68 rfl (by decide) ?_
        refine k_iinc (v := (x3 + (1 : Int32))) cx dX8_chooses_69 rfl rfl (by decide) ?_
        refine k_goto (tgt := 45) cx dX8_chooses_72 (by decide) ?_
        exact k_weak h (lsLe.keep (lsLe.keep (lsLe.keep (lsLe.keep lsLe.nil))))
set_option maxHeartbeats 2000000 in
theorem b_X8_chooses_e  {g : GE} {f : FE} {q : Bool → Mm → Prop} (cx : Cx g f cX8_chooses 4 RX8 3 67 0 0) (hr : (f_M f).sig.returnType = (some .boolean)) (hl : (f_M f).locks = false) (hQ : f_Q f = MQ (f_b f) (QW g (qZ q)) (f_a f) (f_s f) 0 0 (fun q => g.2.2.2 ≤ q))  {x1 : Int32} {μ : Mm} (h : F_X8_chooses_e  (KK_X8_chooses_45 g f ) q x1 μ) : KW g f 4 0 0 0 [some (.ref p_MO), some (.int x1), none, none] [] μ := by
  unfold F_X8_chooses_e at h
  refine k_aload_n cx dX8_chooses_0 rfl rfl ?_
  refine k_get (o := some p_MO_tries) (v := .ref p_MO_tries) cx fl_X8_92 ob_MO rfl rfl dX8_chooses_1 ?_
  refine k_iconst (v := (0 : Int32)) cx dX8_chooses_4 (by decide +kernel) ?_
  refine k_iload_n cx dX8_chooses_5 rfl rfl ?_
  refine k_bipush (v := (36 : Int32)) cx dX8_chooses_6 (by decide +kernel) ?_
  refine k_idiv cx dX8_chooses_8 (by decide) ?_
  obtain ⟨hi, h⟩ := h
  refine k_iast cx ar_MO_tries hi dX8_chooses_9 ?_
  refine k_aload_n cx dX8_chooses_10 rfl rfl ?_
  refine k_get (o := some p_MO_tries) (v := .ref p_MO_tries) cx fl_X8_92 ob_MO rfl rfl dX8_chooses_11 ?_
  refine k_iconst (v := (1 : Int32)) cx dX8_chooses_14 (by decide +kernel) ?_
  refine k_iload_n cx dX8_chooses_15 rfl rfl ?_
  refine k_bipush (v := (6 : Int32)) cx dX8_chooses_16 (by decide +kernel) ?_
  refine k_idiv cx dX8_chooses_18 (by decide) ?_
  refine k_bipush (v := (6 : Int32)) cx dX8_chooses_19 (by decide +kernel) ?_
  refine k_irem cx dX8_chooses_21 (by decide) ?_
  obtain ⟨hi, h⟩ := h
  refine k_iast cx ar_MO_tries hi dX8_chooses_22 ?_
  refine k_aload_n cx dX8_chooses_23 rfl rfl ?_
  refine k_get (o := some p_MO_tries) (v := .ref p_MO_tries) cx fl_X8_92 ob_MO rfl rfl dX8_chooses_24 ?_
  refine k_iconst (v := (2 : Int32)) cx dX8_chooses_27 (by decide +kernel) ?_
  refine k_iload_n cx dX8_chooses_28 rfl rfl ?_
  refine k_bipush (v := (6 : Int32)) cx dX8_chooses_29 (by decide +kernel) ?_
  refine k_irem cx dX8_chooses_31 (by decide) ?_
  obtain ⟨hi, h⟩ := h
  refine k_iast cx ar_MO_tries hi dX8_chooses_32 ?_
  refine k_iconst (v := (1 : Int32)) cx dX8_chooses_33 (by decide +kernel) ?_
  refine k_istore_n cx dX8_chooses_34 rfl (by decide) ?_
  refine k_aload_n cx dX8_chooses_35 rfl rfl ?_
  refine k_get (o := some p_MO_parts) (v := .ref p_MO_parts) cx fl_X8_26 ob_MO rfl rfl dX8_chooses_36 ?_
  refine k_aload_n cx dX8_chooses_39 rfl rfl ?_
  refine k_get (o := none) (v := .int ((up2 (up2 (up2 μ p_MO_tries ((0 : Int32)).toNatClampNeg (x1 / (36 : Int32))) p_MO_tries ((1 : Int32)).toNatClampNeg ((x1 / (6 : Int32)) - (x1 / (6 : Int32)) / (6 : Int32) * (6 : Int32))) p_MO_tries ((2 : Int32)).toNatClampNeg (x1 - x1 / (6 : Int32) * (6 : Int32))) p_MO 8)) cx fl_X8_118 ob_MO rfl rfl dX8_chooses_40 ?_
  obtain ⟨hi, h⟩ := h
  refine k_iald cx ar_MO_parts hi dX8_chooses_43 ?_
  refine k_istore_n cx dX8_chooses_44 rfl (by decide) ?_
  exact k_weak h (lsLe.keep (lsLe.drop (lsLe.keep (lsLe.keep lsLe.nil))))
theorem m_X8_chooses {g : GE} {l : Launch} {μ : Mm} {q : Bool → Mm → Prop} {x1 : Int32}  (h : Wp_X8_chooses  x1 μ q) : MW g l yX8_chooses cX8_chooses 4 (some .boolean) 3 67 [.ref p_MO, .int x1] μ (qZ q) := by
  refine met_of (by decide) (Nat.le_of_ble_eq_true rfl) (by intro v hv; simp only [List.mem_cons, List.not_mem_nil, or_false] at hv; rcases hv with rfl | rfl <;> rfl) ?_
  intro f hfl cx hr hl hQ
  exact b_X8_chooses_e  cx hr hl hQ (h (KK_X8_chooses_45 g f ) (fun _ _ _ h => b_X8_chooses_45  cx hr hl hQ h))
