theorem dX8_clear_0 : decode cX8_clear 0 = .ok (.aload_n 0, 1) := by decide +kernel
theorem dX8_clear_1 : decode cX8_clear 1 = .ok (.iconst 0, 1) := by decide +kernel
theorem dX8_clear_2 : decode cX8_clear 2 = .ok (.putfield 104, 3) := by decide +kernel
theorem dX8_clear_5 : decode cX8_clear 5 = .ok (.aload_n 0, 1) := by decide +kernel
theorem dX8_clear_6 : decode cX8_clear 6 = .ok (.getfield 26, 3) := by decide +kernel
theorem dX8_clear_9 : decode cX8_clear 9 = .ok (.aload_n 0, 1) := by decide +kernel
theorem dX8_clear_10 : decode cX8_clear 10 = .ok (.getfield 118, 3) := by decide +kernel
theorem dX8_clear_13 : decode cX8_clear 13 = .ok (.iaload, 1) := by decide +kernel
theorem dX8_clear_14 : decode cX8_clear 14 = .ok (.istore_n 1, 1) := by decide +kernel
theorem dX8_clear_15 : decode cX8_clear 15 = .ok (.aload_n 0, 1) := by decide +kernel
theorem dX8_clear_16 : decode cX8_clear 16 = .ok (.getfield 26, 3) := by decide +kernel
theorem dX8_clear_19 : decode cX8_clear 19 = .ok (.aload_n 0, 1) := by decide +kernel
theorem dX8_clear_20 : decode cX8_clear 20 = .ok (.getfield 118, 3) := by decide +kernel
theorem dX8_clear_23 : decode cX8_clear 23 = .ok (.iconst 0, 1) := by decide +kernel
theorem dX8_clear_24 : decode cX8_clear 24 = .ok (.iastore, 1) := by decide +kernel
theorem dX8_clear_25 : decode cX8_clear 25 = .ok (.aload_n 0, 1) := by decide +kernel
theorem dX8_clear_26 : decode cX8_clear 26 = .ok (.getfield 29, 3) := by decide +kernel
theorem dX8_clear_29 : decode cX8_clear 29 = .ok (.aload_n 0, 1) := by decide +kernel
theorem dX8_clear_30 : decode cX8_clear 30 = .ok (.getfield 118, 3) := by decide +kernel
theorem dX8_clear_33 : decode cX8_clear 33 = .ok (.iconst 0, 1) := by decide +kernel
theorem dX8_clear_34 : decode cX8_clear 34 = .ok (.iastore, 1) := by decide +kernel
theorem dX8_clear_35 : decode cX8_clear 35 = .ok (.iload_n 1, 1) := by decide +kernel
theorem dX8_clear_36 : decode cX8_clear 36 = .ok (.ireturn, 1) := by decide +kernel
def F_X8_clear_e   (q : Int32 → Mm → Prop)  (μ : Mm) : Prop :=
  vp_in ((up2 μ p_MO 35 (0 : Int32)) p_MO 8) 13 ∧ vp_in ((up2 μ p_MO 35 (0 : Int32)) p_MO 8) 13 ∧ vp_in ((up2 (up2 μ p_MO 35 (0 : Int32)) p_MO_parts (((up2 μ p_MO 35 (0 : Int32)) p_MO 8)).toNatClampNeg (0 : Int32)) p_MO 8) 13 ∧ q ((up2 μ p_MO 35 (0 : Int32)) p_MO_parts (((up2 μ p_MO 35 (0 : Int32)) p_MO 8)).toNatClampNeg) (up2 (up2 (up2 μ p_MO 35 (0 : Int32)) p_MO_parts (((up2 μ p_MO 35 (0 : Int32)) p_MO 8)).toNatClampNeg (0 : Int32)) p_MO_lines (((up2 (up2 μ p_MO 35 (0 : Int32)) p_MO_parts (((up2 μ p_MO 35 (0 : Int32)) p_MO 8)).toNatClampNeg (0 : Int32)) p_MO 8)).toNatClampNeg (0 : Int32))
def Wp_X8_clear   (μ : Mm) (q : Int32 → Mm → Prop) : Prop := F_X8_clear_e   q  μ
set_option maxHeartbeats 2000000 in
theorem b_X8_clear_e  {g : GE} {f : FE} {q : Int32 → Mm → Prop} (cx : Cx g f cX8_clear 2 RX8 0 0 0 0) (hr : (f_M f).sig.returnType = (some .int)) (hl : (f_M f).locks = false) (hQ : f_Q f = MQ (f_b f) (QW g (qI q)) (f_a f) (f_s f) 0 0 (fun q => g.2.2.2 ≤ q))   {μ : Mm} (h : F_X8_clear_e   q  μ) : KW g f 2 0 0 0 [some (.ref p_MO), none] [] μ := by
  unfold F_X8_clear_e at h
  refine k_aload_n cx dX8_clear_0 rfl rfl ?_
  refine k_iconst (v := (0 : Int32)) cx dX8_clear_1 (by decide +kernel) ?_
  refine k_put cx fp_X8_104 ob_MO rfl rfl rfl dX8_clear_2 ?_
  refine k_aload_n cx dX8_clear_5 rfl rfl ?_
  refine k_get (o := some p_MO_parts) (v := .ref p_MO_parts) cx fl_X8_26 ob_MO rfl rfl dX8_clear_6 ?_
  refine k_aload_n cx dX8_clear_9 rfl rfl ?_
  refine k_get (o := none) (v := .int ((up2 μ p_MO 35 (0 : Int32)) p_MO 8)) cx fl_X8_118 ob_MO rfl rfl dX8_clear_10 ?_
  obtain ⟨hi, h⟩ := h
  refine k_iald cx ar_MO_parts hi dX8_clear_13 ?_
  refine k_istore_n cx dX8_clear_14 rfl (by decide) ?_
  refine k_aload_n cx dX8_clear_15 rfl rfl ?_
  refine k_get (o := some p_MO_parts) (v := .ref p_MO_parts) cx fl_X8_26 ob_MO rfl rfl dX8_clear_16 ?_
  refine k_aload_n cx dX8_clear_19 rfl rfl ?_
  refine k_get (o := none) (v := .int ((up2 μ p_MO 35 (0 : Int32)) p_MO 8)) cx fl_X8_118 ob_MO rfl rfl dX8_clear_20 ?_
  refine k_iconst (v := (0 : Int32)) cx dX8_clear_23 (by decide +kernel) ?_
  obtain ⟨hi, h⟩ := h
  refine k_iast cx ar_MO_parts hi dX8_clear_24 ?_
  refine k_aload_n cx dX8_clear_25 rfl rfl ?_
  refine k_get (o := some p_MO_lines) (v := .ref p_MO_lines) cx fl_X8_29 ob_MO rfl rfl dX8_clear_26 ?_
  refine k_aload_n cx dX8_clear_29 rfl rfl ?_
  refine k_get (o := none) (v := .int ((up2 (up2 μ p_MO 35 (0 : Int32)) p_MO_parts (((up2 μ p_MO 35 (0 : Int32)) p_MO 8)).toNatClampNeg (0 : Int32)) p_MO 8)) cx fl_X8_118 ob_MO rfl rfl dX8_clear_30 ?_
  refine k_iconst (v := (0 : Int32)) cx dX8_clear_33 (by decide +kernel) ?_
  obtain ⟨hi, h⟩ := h
  refine k_iast cx ar_MO_lines hi dX8_clear_34 ?_
  refine k_iload_n cx dX8_clear_35 rfl rfl ?_
  exact k_ret_I cx hr hl hQ dX8_clear_36 h
theorem m_X8_clear {g : GE} {l : Launch} {μ : Mm} {q : Int32 → Mm → Prop}  (h : Wp_X8_clear   μ q) : MW g l yX8_clear cX8_clear 2 (some .int) 0 0 [.ref p_MO] μ (qI q) := by
  refine met_of (by decide) (Nat.le_of_ble_eq_true rfl) (by intro v hv; simp only [List.mem_cons, List.not_mem_nil, or_false] at hv; subst hv; rfl) ?_
  intro f hfl cx hr hl hQ
  exact b_X8_clear_e  cx hr hl hQ (h  )
theorem dX8_needOf_0 : decode cX8_needOf 0 = .ok (.iload_n 1, 1) := by decide +kernel
theorem dX8_needOf_1 : decode cX8_needOf 1 = .ok (.aload_n 0, 1) := by decide +kernel
theorem dX8_needOf_2 : decode cX8_needOf 2 = .ok (.getfield 29, 3) := by decide +kernel
theorem dX8_needOf_5 : decode cX8_needOf 5 = .ok (.aload_n 0, 1) := by decide +kernel
theorem dX8_needOf_6 : decode cX8_needOf 6 = .ok (.getfield 118, 3) := by decide +kernel
theorem dX8_needOf_9 : decode cX8_needOf 9 = .ok (.iaload, 1) := by decide +kernel
theorem dX8_needOf_10 : decode cX8_needOf 10 = .ok (.if_icmp .ge 19, 3) := by decide +kernel
theorem dX8_needOf_13 : decode cX8_needOf 13 = .ok (.aload_n 0, 1) := by decide +kernel
theorem dX8_needOf_14 : decode cX8_needOf 14 = .ok (.getfield 47, 3) := by decide +kernel
theorem dX8_needOf_17 : decode cX8_needOf 17 = .ok (.iconst 3, 1) := by decide +kernel
theorem dX8_needOf_18 : decode cX8_needOf 18 = .ok (.aload_n 0, 1) := by decide +kernel
theorem dX8_needOf_19 : decode cX8_needOf 19 = .ok (.getfield 118, 3) := by decide +kernel
theorem dX8_needOf_22 : decode cX8_needOf 22 = .ok (.imul, 1) := by decide +kernel
theorem dX8_needOf_23 : decode cX8_needOf 23 = .ok (.iload_n 1, 1) := by decide +kernel
theorem dX8_needOf_24 : decode cX8_needOf 24 = .ok (.iadd, 1) := by decide +kernel
theorem dX8_needOf_25 : decode cX8_needOf 25 = .ok (.iaload, 1) := by decide +kernel
theorem dX8_needOf_26 : decode cX8_needOf 26 = .ok (.goto 4, 3) := by decide +kernel
theorem dX8_needOf_29 : decode cX8_needOf 29 = .ok (.iconst 0, 1) := by decide +kernel
theorem dX8_needOf_30 : decode cX8_needOf 30 = .ok (.ireturn, 1) := by decide +kernel
def F_X8_needOf_e   (q : Int32 → Mm → Prop) (x1 : Int32) (μ : Mm) : Prop :=
  vp_in (μ p_MO 8) 13 ∧ (((μ p_MO_lines ((μ p_MO 8)).toNatClampNeg) ≤ x1 → q (0 : Int32) μ) ∧ (¬ ((μ p_MO_lines ((μ p_MO 8)).toNatClampNeg) ≤ x1) → vp_in (((3 : Int32) * (μ p_MO 8)) + x1) 39 ∧ q (μ p_MO_lineNeed ((((3 : Int32) * (μ p_MO 8)) + x1)).toNatClampNeg) μ))
def Wp_X8_needOf  (x1 : Int32) (μ : Mm) (q : Int32 → Mm → Prop) : Prop := F_X8_needOf_e   q x1 μ
set_option maxHeartbeats 2000000 in
theorem b_X8_needOf_e  {g : GE} {f : FE} {q : Int32 → Mm → Prop} (cx : Cx g f cX8_needOf 2 RX8 0 0 0 0) (hr : (f_M f).sig.returnType = (some .int)) (hl : (f_M f).locks = false) (hQ : f_Q f = MQ (f_b f) (QW g (qI q)) (f_a f) (f_s f) 0 0 (fun q => g.2.2.2 ≤ q))  {x1 : Int32} {μ : Mm} (h : F_X8_needOf_e   q x1 μ) : KW g f 2 0 0 0 [some (.ref p_MO), some (.int x1)] [] μ := by
  unfold F_X8_needOf_e at h
  refine k_iload_n cx dX8_needOf_0 rfl rfl ?_
  refine k_aload_n cx dX8_needOf_1 rfl rfl ?_
  refine k_get (o := some p_MO_lines) (v := .ref p_MO_lines) cx fl_X8_29 ob_MO rfl rfl dX8_needOf_2 ?_
  refine k_aload_n cx dX8_needOf_5 rfl rfl ?_
  refine k_get (o := none) (v := .int (μ p_MO 8)) cx fl_X8_118 ob_MO rfl rfl dX8_needOf_6 ?_
  obtain ⟨hi, h⟩ := h
  refine k_iald cx ar_MO_lines hi dX8_needOf_9 ?_
  refine k_icmp_ge (tgt := 29) cx dX8_needOf_10 (by decide) (fun hc => ?_) (fun hc => ?_)
  · replace h := h.1 hc
    refine k_iconst (v := (0 : Int32)) cx dX8_needOf_29 (by decide +kernel) ?_
    exact k_ret_I cx hr hl hQ dX8_needOf_30 h
  · replace h := h.2 hc
    refine k_aload_n cx dX8_needOf_13 rfl rfl ?_
    refine k_get (o := some p_MO_lineNeed) (v := .ref p_MO_lineNeed) cx fl_X8_47 ob_MO rfl rfl dX8_needOf_14 ?_
    refine k_iconst (v := (3 : Int32)) cx dX8_needOf_17 (by decide +kernel) ?_
    refine k_aload_n cx dX8_needOf_18 rfl rfl ?_
    refine k_get (o := none) (v := .int (μ p_MO 8)) cx fl_X8_118 ob_MO rfl rfl dX8_needOf_19 ?_
    refine k_imul cx dX8_needOf_22 ?_
    refine k_iload_n cx dX8_needOf_23 rfl rfl ?_
    refine k_iadd cx dX8_needOf_24 ?_
    obtain ⟨hi, h⟩ := h
    refine k_iald cx ar_MO_lineNeed hi dX8_needOf_25 ?_
    refine k_goto (tgt := 30) cx dX8_needOf_26 (by decide) ?_
    exact k_ret_I cx hr hl hQ dX8_needOf_30 h
theorem m_X8_needOf {g : GE} {l : Launch} {μ : Mm} {q : Int32 → Mm → Prop} {x1 : Int32}  (h : Wp_X8_needOf  x1 μ q) : MW g l yX8_needOf cX8_needOf 2 (some .int) 0 0 [.ref p_MO, .int x1] μ (qI q) := by
  refine met_of (by decide) (Nat.le_of_ble_eq_true rfl) (by intro v hv; simp only [List.mem_cons, List.not_mem_nil, or_false] at hv; rcases hv with rfl | rfl <;> rfl) ?_
  intro f hfl cx hr hl hQ
  exact b_X8_needOf_e  cx hr hl hQ (h  )
theorem dX8_cost_0 : decode cX8_cost 0 = .ok (.aload_n 0, 1) := by decide +kernel
theorem dX8_cost_1 : decode cX8_cost 1 = .ok (.iload_n 1, 1) := by decide +kernel
theorem dX8_cost_2 : decode cX8_cost 2 = .ok (.invokevirtual 164, 3) := by decide +kernel
theorem dX8_cost_5 : decode cX8_cost 5 = .ok (.aload_n 0, 1) := by decide +kernel
theorem dX8_cost_6 : decode cX8_cost 6 = .ok (.getfield 77, 3) := by decide +kernel
theorem dX8_cost_9 : decode cX8_cost 9 = .ok (.bipush 64, 2) := by decide +kernel
theorem dX8_cost_11 : decode cX8_cost 11 = .ok (.iload_n 1, 1) := by decide +kernel
theorem dX8_cost_12 : decode cX8_cost 12 = .ok (.imul, 1) := by decide +kernel
theorem dX8_cost_13 : decode cX8_cost 13 = .ok (.iload_n 2, 1) := by decide +kernel
theorem dX8_cost_14 : decode cX8_cost 14 = .ok (.iadd, 1) := by decide +kernel
theorem dX8_cost_15 : decode cX8_cost 15 = .ok (.iaload, 1) := by decide +kernel
theorem dX8_cost_16 : decode cX8_cost 16 = .ok (.invokestatic 167, 3) := by decide +kernel
theorem dX8_cost_19 : decode cX8_cost 19 = .ok (.imul, 1) := by decide +kernel
theorem dX8_cost_20 : decode cX8_cost 20 = .ok (.ireturn, 1) := by decide +kernel
def F_X8_cost_e   (q : Int32 → Mm → Prop) (x1 : Int32) (x2 : Int32) (μ : Mm) : Prop :=
  Wp_X8_needOf x1 μ (fun z2 μ1 => vp_in (((64 : Int32) * x1) + x2) 192 ∧ Wp_X8_bits (μ1 p_MO_found ((((64 : Int32) * x1) + x2)).toNatClampNeg) μ1 (fun z4 μ3 => q (z2 * z4) μ3))
def Wp_X8_cost  (x1 : Int32) (x2 : Int32) (μ : Mm) (q : Int32 → Mm → Prop) : Prop := F_X8_cost_e   q x1 x2 μ
set_option maxHeartbeats 2000000 in
theorem b_X8_cost_e  {g : GE} {f : FE} {q : Int32 → Mm → Prop} (cx : Cx g f cX8_cost 3 RX8 1 22 0 0) (hr : (f_M f).sig.returnType = (some .int)) (hl : (f_M f).locks = false) (hQ : f_Q f = MQ (f_b f) (QW g (qI q)) (f_a f) (f_s f) 0 0 (fun q => g.2.2.2 ≤ q))  {x1 : Int32} {x2 : Int32} {μ : Mm} (h : F_X8_cost_e   q x1 x2 μ) : KW g f 3 0 0 0 [some (.ref p_MO), some (.int x1), some (.int x2)] [] μ := by
  unfold F_X8_cost_e at h
  refine k_aload_n cx dX8_cost_0 rfl rfl ?_
  refine k_iload_n cx dX8_cost_1 rfl rfl ?_
  refine k_callV (As := [.int x1]) (rest := []) cx (m_X8_needOf h) cv_X8_164 ob_MO rfl rfl rfl rfl (Nat.le_of_ble_eq_true rfl) ⟨Nat.le_of_ble_eq_true rfl, Nat.le_of_ble_eq_true rfl⟩ dX8_cost_2 (fun v μ1 hq => ?_)
  obtain ⟨z2, rfl, h⟩ := hq
  refine k_aload_n cx dX8_cost_5 rfl rfl ?_
  refine k_get (o := some p_MO_found) (v := .ref p_MO_found) cx fl_X8_77 ob_MO rfl rfl dX8_cost_6 ?_
  refine k_bipush (v := (64 : Int32)) cx dX8_cost_9 (by decide +kernel) ?_
  refine k_iload_n cx dX8_cost_11 rfl rfl ?_
  refine k_imul cx dX8_cost_12 ?_
  refine k_iload_n cx dX8_cost_13 rfl rfl ?_
  refine k_iadd cx dX8_cost_14 ?_
  obtain ⟨hi, h⟩ := h
  refine k_iald cx ar_MO_found hi dX8_cost_15 ?_
  refine k_callS (As := [.int (μ1 p_MO_found ((((64 : Int32) * x1) + x2)).toNatClampNeg)]) (rest := [.int z2]) cx (m_X8_bits h) cv_X8_167 rfl rfl (Nat.le_of_ble_eq_true rfl) ⟨Nat.le_of_ble_eq_true rfl, Nat.le_of_ble_eq_true rfl⟩ dX8_cost_16 (fun v μ3 hq => ?_)
  obtain ⟨z4, rfl, h⟩ := hq
  refine k_imul cx dX8_cost_19 ?_
  exact k_ret_I cx hr hl hQ dX8_cost_20 h
theorem m_X8_cost {g : GE} {l : Launch} {μ : Mm} {q : Int32 → Mm → Prop} {x1 : Int32} {x2 : Int32}  (h : Wp_X8_cost  x1 x2 μ q) : MW g l yX8_cost cX8_cost 3 (some .int) 1 22 [.ref p_MO, .int x1, .int x2] μ (qI q) := by
  refine met_of (by decide) (Nat.le_of_ble_eq_true rfl) (by intro v hv; simp only [List.mem_cons, List.not_mem_nil, or_false] at hv; rcases hv with rfl | rfl | rfl <;> rfl) ?_
  intro f hfl cx hr hl hQ
  exact b_X8_cost_e  cx hr hl hQ (h  )
theorem dX8_costOf_0 : decode cX8_costOf 0 = .ok (.iconst 0, 1) := by decide +kernel
theorem dX8_costOf_1 : decode cX8_costOf 1 = .ok (.istore_n 2, 1) := by decide +kernel
theorem dX8_costOf_2 : decode cX8_costOf 2 = .ok (.iconst 3, 1) := by decide +kernel
theorem dX8_costOf_3 : decode cX8_costOf 3 = .ok (.iload_n 1, 1) := by decide +kernel
theorem dX8_costOf_4 : decode cX8_costOf 4 = .ok (.imul, 1) := by decide +kernel
theorem dX8_costOf_5 : decode cX8_costOf 5 = .ok (.istore_n 3, 1) := by decide +kernel
theorem dX8_costOf_6 : decode cX8_costOf 6 = .ok (.iload_n 3, 1) := by decide +kernel
theorem dX8_costOf_7 : decode cX8_costOf 7 = .ok (.iconst 3, 1) := by decide +kernel
theorem dX8_costOf_8 : decode cX8_costOf 8 = .ok (.iload_n 1, 1) := by decide +kernel
theorem dX8_costOf_9 : decode cX8_costOf 9 = .ok (.imul, 1) := by decide +kernel
theorem dX8_costOf_10 : decode cX8_costOf 10 = .ok (.aload_n 0, 1) := by decide +kernel
theorem dX8_costOf_11 : decode cX8_costOf 11 = .ok (.getfield 29, 3) := by decide +kernel
theorem dX8_costOf_14 : decode cX8_costOf 14 = .ok (.iload_n 1, 1) := by decide +kernel
theorem dX8_costOf_15 : decode cX8_costOf 15 = .ok (.iaload, 1) := by decide +kernel
theorem dX8_costOf_16 : decode cX8_costOf 16 = .ok (.iadd, 1) := by decide +kernel
theorem dX8_costOf_17 : decode cX8_costOf 17 = .ok (.if_icmp .ge 52, 3) := by decide +kernel
theorem dX8_costOf_20 : decode cX8_costOf 20 = .ok (.iload_n 2, 1) := by decide +kernel
theorem dX8_costOf_21 : decode cX8_costOf 21 = .ok (.aload_n 0, 1) := by decide +kernel
theorem dX8_costOf_22 : decode cX8_costOf 22 = .ok (.getfield 50, 3) := by decide +kernel
theorem dX8_costOf_25 : decode cX8_costOf 25 = .ok (.iload_n 3, 1) := by decide +kernel
theorem dX8_costOf_26 : decode cX8_costOf 26 = .ok (.iaload, 1) := by decide +kernel
theorem dX8_costOf_27 : decode cX8_costOf 27 = .ok (.aload_n 0, 1) := by decide +kernel
theorem dX8_costOf_28 : decode cX8_costOf 28 = .ok (.getfield 53, 3) := by decide +kernel
theorem dX8_costOf_31 : decode cX8_costOf 31 = .ok (.iload_n 3, 1) := by decide +kernel
theorem dX8_costOf_32 : decode cX8_costOf 32 = .ok (.iaload, 1) := by decide +kernel
theorem dX8_costOf_33 : decode cX8_costOf 33 = .ok (.invokestatic 167, 3) := by decide +kernel
theorem dX8_costOf_36 : decode cX8_costOf 36 = .ok (.imul, 1) := by decide +kernel
theorem dX8_costOf_37 : decode cX8_costOf 37 = .ok (.aload_n 0, 1) := by decide +kernel
theorem dX8_costOf_38 : decode cX8_costOf 38 = .ok (.getfield 47, 3) := by decide +kernel
theorem dX8_costOf_41 : decode cX8_costOf 41 = .ok (.iload_n 3, 1) := by decide +kernel
theorem dX8_costOf_42 : decode cX8_costOf 42 = .ok (.iaload, 1) := by decide +kernel
theorem dX8_costOf_43 : decode cX8_costOf 43 = .ok (.aload_n 0, 1) := by decide +kernel
theorem dX8_costOf_44 : decode cX8_costOf 44 = .ok (.getfield 50, 3) := by decide +kernel
theorem dX8_costOf_47 : decode cX8_costOf 47 = .ok (.iload_n 3, 1) := by decide +kernel
theorem dX8_costOf_48 : decode cX8_costOf 48 = .ok (.iaload, 1) := by decide +kernel
theorem dX8_costOf_49 : decode cX8_costOf 49 = .ok (.isub, 1) := by decide +kernel
theorem dX8_costOf_50 : decode cX8_costOf 50 = .ok (.aload_n 0, 1) := by decide +kernel
theorem dX8_costOf_51 : decode cX8_costOf 51 = .ok (.getfield 56, 3) := by decide +kernel
theorem dX8_costOf_54 : decode cX8_costOf 54 = .ok (.iload_n 3, 1) := by decide +kernel
theorem dX8_costOf_55 : decode cX8_costOf 55 = .ok (.iaload, 1) := by decide +kernel
theorem dX8_costOf_56 : decode cX8_costOf 56 = .ok (.invokestatic 167, 3) := by decide +kernel
theorem dX8_costOf_59 : decode cX8_costOf 59 = .ok (.imul, 1) := by decide +kernel
theorem dX8_costOf_60 : decode cX8_costOf 60 = .ok (.iadd, 1) := by decide +kernel
theorem dX8_costOf_61 : decode cX8_costOf 61 = .ok (.iadd, 1) := by decide +kernel
theorem dX8_costOf_62 : decode cX8_costOf 62 = .ok (.istore_n 2, 1) := by decide +kernel
theorem dX8_costOf_63 : decode cX8_costOf 63 = .ok (.iinc 3 1, 3) := by decide +kernel
theorem dX8_costOf_66 : decode cX8_costOf 66 = .ok (.goto (-60), 3) := by decide +kernel
theorem dX8_costOf_69 : decode cX8_costOf 69 = .ok (.iload_n 2, 1) := by decide +kernel
theorem dX8_costOf_70 : decode cX8_costOf 70 = .ok (.ireturn, 1) := by decide +kernel
def F_X8_costOf_6  (K6 : Int32 → Int32 → Int32 → Mm → Prop) (q : Int32 → Mm → Prop) (x1 : Int32) (x2 : Int32) (x3 : Int32) (μ : Mm) : Prop :=
  vp_in x1 13 ∧ (((((3 : Int32) * x1) + (μ p_MO_lines (x1).toNatClampNeg)) ≤ x3 → q x2 μ) ∧ (¬ ((((3 : Int32) * x1) + (μ p_MO_lines (x1).toNatClampNeg)) ≤ x3) → vp_in x3 39 ∧ vp_in x3 39 ∧ Wp_X8_bits (μ p_MO_way (x3).toNatClampNeg) μ (fun z2 μ1 => vp_in x3 39 ∧ vp_in x3 39 ∧ vp_in x3 39 ∧ Wp_X8_bits (μ1 p_MO_rest (x3).toNatClampNeg) μ1 (fun z4 μ3 => K6 x1 (x2 + (((μ p_MO_amount (x3).toNatClampNeg) * z2) + (((μ1 p_MO_lineNeed (x3).toNatClampNeg) - (μ1 p_MO_amount (x3).toNatClampNeg)) * z4))) (x3 + (1 : Int32)) μ3))))
def F_X8_costOf_e  (K6 : Int32 → Int32 → Int32 → Mm → Prop) (q : Int32 → Mm → Prop) (x1 : Int32) (μ : Mm) : Prop :=
  K6 x1 (0 : Int32) ((3 : Int32) * x1) μ
def Wp_X8_costOf  (x1 : Int32) (μ : Mm) (q : Int32 → Mm → Prop) : Prop := ∀ (K6 : Int32 → Int32 → Int32 → Mm → Prop), (∀ (x1 : Int32) (x2 : Int32) (x3 : Int32) (μ : Mm), F_X8_costOf_6  K6 q x1 x2 x3 μ → K6 x1 x2 x3 μ) → F_X8_costOf_e  K6 q x1 μ
abbrev KK_X8_costOf_6 (g : GE) (f : FE)  : Int32 → Int32 → Int32 → Mm → Prop := fun x1 x2 x3 μ => KW g f 4 0 0 6 [some (.ref p_MO), some (.int x1), some (.int x2), some (.int x3)] [] μ
set_option maxHeartbeats 2000000 in
theorem b_X8_costOf_6  {g : GE} {f : FE} {q : Int32 → Mm → Prop} (cx : Cx g f cX8_costOf 4 RX8 1 22 0 0) (hr : (f_M f).sig.returnType = (some .int)) (hl : (f_M f).locks = false) (hQ : f_Q f = MQ (f_b f) (QW g (qI q)) (f_a f) (f_s f) 0 0 (fun q => g.2.2.2 ≤ q))  {x1 : Int32} {x2 : Int32} {x3 : Int32} {μ : Mm} (h : F_X8_costOf_6  (KK_X8_costOf_6 g f ) q x1 x2 x3 μ) : KK_X8_costOf_6 g f  x1 x2 x3 μ := by
  unfold F_X8_costOf_6 at h
  show KW g f 4 0 0 6 [some (.ref p_MO), some (.int x1), some (.int x2), some (.int x3)] [] μ
  refine k_iload_n cx dX8_costOf_6 rfl rfl ?_
  refine k_iconst (v := (3 : Int32)) cx dX8_costOf_7 (by decide +kernel) ?_
  refine k_iload_n cx dX8_costOf_8 rfl rfl ?_
  refine k_imul cx dX8_costOf_9 ?_
  refine k_aload_n cx dX8_costOf_10 rfl rfl ?_
  refine k_get (o := some p_MO_lines) (v := .ref p_MO_lines) cx fl_X8_29 ob_MO rfl rfl dX8_costOf_11 ?_
  refine k_iload_n cx dX8_costOf_14 rfl rfl ?_
  obtain ⟨hi, h⟩ := h
  refine k_iald cx ar_MO_lines hi dX8_costOf_15 ?_
  refine k_iadd cx dX8_costOf_16 ?_
  refine k_icmp_ge (tgt := 69) cx dX8_costOf_17 (by decide) (fun hc => ?_) (fun hc => ?_)
  · replace h := h.1 hc
    refine k_iload_n cx dX8_costOf_69 rfl rfl ?_
    exact k_ret_I cx hr hl hQ dX8_costOf_70 h
  · replace h := h.2 hc
    refine k_iload_n cx dX8_costOf_20 rfl rfl ?_
    refine k_aload_n cx dX8_costOf_21 rfl rfl ?_
    refine k_get (o := some p_MO_amount) (v := .ref p_MO_amount) cx fl_X8_50 ob_MO rfl rfl dX8_costOf_22 ?_
    refine k_iload_n cx dX8_costOf_25 rfl rfl ?_
    obtain ⟨hi, h⟩ := h
    refine k_iald cx ar_MO_amount hi dX8_costOf_26 ?_
    refine k_aload_n cx dX8_costOf_27 rfl rfl ?_
    refine k_get (o := some p_MO_way) (v := .ref p_MO_way) cx fl_X8_53 ob_MO rfl rfl dX8_costOf_28 ?_
    refine k_iload_n cx dX8_costOf_31 rfl rfl ?_
    obtain ⟨hi, h⟩ := h
    refine k_iald cx ar_MO_way hi dX8_costOf_32 ?_
    refine k_callS (As := [.int (μ p_MO_way (x3).toNatClampNeg)]) (rest := [.int (μ p_MO_amount (x3).toNatClampNeg), .int x2]) cx (m_X8_bits h) cv_X8_167 rfl rfl (Nat.le_of_ble_eq_true rfl) ⟨Nat.le_of_ble_eq_true rfl, Nat.le_of_ble_eq_true rfl⟩ dX8_costOf_33 (fun v μ1 hq => ?_)
    obtain ⟨z2, rfl, h⟩ := hq
    refine k_imul cx dX8_costOf_36 ?_
    refine k_aload_n cx dX8_costOf_37 rfl rfl ?_
    refine k_get (o := some p_MO_lineNeed) (v := .ref p_MO_lineNeed) cx fl_X8_47 ob_MO rfl rfl dX8_costOf_38 ?_
    refine k_iload_n cx dX8_costOf_41 rfl rfl ?_
    obtain ⟨hi, h⟩ := h
    refine k_iald cx ar_MO_lineNeed hi dX8_costOf_42 ?_
    refine k_aload_n cx dX8_costOf_43 rfl rfl ?_
    refine k_get (o := some p_MO_amount) (v := .ref p_MO_amount) cx fl_X8_50 ob_MO rfl rfl dX8_costOf_44 ?_
    refine k_iload_n cx dX8_costOf_47 rfl rfl ?_
    obtain ⟨hi, h⟩ := h
    refine k_iald cx ar_MO_amount hi dX8_costOf_48 ?_
    refine k_isub cx dX8_costOf_49 ?_
    refine k_aload_n cx dX8_costOf_50 rfl rfl ?_
    refine k_get (o := some p_MO_rest) (v := .ref p_MO_rest) cx fl_X8_56 ob_MO rfl rfl dX8_costOf_51 ?_
    refine k_iload_n cx dX8_costOf_54 rfl rfl ?_
    obtain ⟨hi, h⟩ := h
    refine k_iald cx ar_MO_rest hi dX8_costOf_55 ?_
    refine k_callS (As := [.int (μ1 p_MO_rest (x3).toNatClampNeg)]) (rest := [.int ((μ1 p_MO_lineNeed (x3).toNatClampNeg) - (μ1 p_MO_amount (x3).toNatClampNeg)), .int ((μ p_MO_amount (x3).toNatClampNeg) * z2), .int x2]) cx (m_X8_bits h) cv_X8_167 rfl rfl (Nat.le_of_ble_eq_true rfl) ⟨Nat.le_of_ble_eq_true rfl, Nat.le_of_ble_eq_true rfl⟩ dX8_costOf_56 (fun v μ3 hq => ?_)
    obtain ⟨z4, rfl, h⟩ := hq
    refine k_imul cx dX8_costOf_59 ?_
    refine k_iadd cx dX8_costOf_60 ?_
    refine k_iadd cx dX8_costOf_61 ?_
    refine k_istore_n cx dX8_costOf_62 rfl (by decide) ?_
    refine k_iinc (v := (x3 + (1 : Int32))) cx dX8_costOf_63 rfl rfl (by decide) ?_
    refine k_goto (tgt := 6) cx dX8_costOf_66 (by decide) ?_
    exact k_weak h (lsLe.keep (lsLe.keep (lsLe.keep (lsLe.keep lsLe.nil))))
set_option maxHeartbeats 2000000 in
theorem b_X8_costOf_e  {g : GE} {f : FE} {q : Int32 → Mm → Prop} (cx : Cx g f cX8_costOf 4 RX8 1 22 0 0) (hr : (f_M f).sig.returnType = (some .int)) (hl : (f_M f).locks = false) (hQ : f_Q f = MQ (f_b f) (QW g (qI q)) (f_a f) (f_s f) 0 0 (fun q => g.2.2.2 ≤ q))  {x1 : Int32} {μ : Mm} (h : F_X8_costOf_e  (KK_X8_costOf_6 g f ) q x1 μ) : KW g f 4 0 0 0 [some (.ref p_MO), some (.int x1), none, none] [] μ := by
  unfold F_X8_costOf_e at h
  refine k_iconst (v := (0 : Int32)) cx dX8_costOf_0 (by decide +kernel) ?_
  refine k_istore_n cx dX8_costOf_1 rfl (by decide) ?_
  refine k_iconst (v := (3 : Int32)) cx dX8_costOf_2 (by decide +kernel) ?_
  refine k_iload_n cx dX8_costOf_3 rfl rfl ?_
  refine k_imul cx dX8_costOf_4 ?_
  refine k_istore_n cx dX8_costOf_5 rfl (by decide) ?_
  exact k_weak h (lsLe.keep (lsLe.keep (lsLe.keep (lsLe.keep lsLe.nil))))
theorem m_X8_costOf {g : GE} {l : Launch} {μ : Mm} {q : Int32 → Mm → Prop} {x1 : Int32}  (h : Wp_X8_costOf  x1 μ q) : MW g l yX8_costOf cX8_costOf 4 (some .int) 1 22 [.ref p_MO, .int x1] μ (qI q) := by
  refine met_of (by decide) (Nat.le_of_ble_eq_true rfl) (by intro v hv; simp only [List.mem_cons, List.not_mem_nil, or_false] at hv; rcases hv with rfl | rfl <;> rfl) ?_
  intro f hfl cx hr hl hQ
  exact b_X8_costOf_e  cx hr hl hQ (h (KK_X8_costOf_6 g f ) (fun _ _ _ _ h => b_X8_costOf_6  cx hr hl hQ h))
theorem dX8_end_0 : decode cX8_end 0 = .ok (.aload_n 0, 1) := by decide +kernel
theorem dX8_end_1 : decode cX8_end 1 = .ok (.getfield 13, 3) := by decide +kernel
theorem dX8_end_4 : decode cX8_end 4 = .ok (.iload_n 1, 1) := by decide +kernel
theorem dX8_end_5 : decode cX8_end 5 = .ok (.iaload, 1) := by decide +kernel
theorem dX8_end_6 : decode cX8_end 6 = .ok (.iload_n 2, 1) := by decide +kernel
theorem dX8_end_7 : decode cX8_end 7 = .ok (.if_icmp .ne 12, 3) := by decide +kernel
theorem dX8_end_10 : decode cX8_end 10 = .ok (.aload_n 0, 1) := by decide +kernel
theorem dX8_end_11 : decode cX8_end 11 = .ok (.getfield 16, 3) := by decide +kernel
theorem dX8_end_14 : decode cX8_end 14 = .ok (.iload_n 1, 1) := by decide +kernel
theorem dX8_end_15 : decode cX8_end 15 = .ok (.iaload, 1) := by decide +kernel
theorem dX8_end_16 : decode cX8_end 16 = .ok (.goto 23, 3) := by decide +kernel
theorem dX8_end_19 : decode cX8_end 19 = .ok (.aload_n 0, 1) := by decide +kernel
theorem dX8_end_20 : decode cX8_end 20 = .ok (.getfield 16, 3) := by decide +kernel
theorem dX8_end_23 : decode cX8_end 23 = .ok (.iload_n 1, 1) := by decide +kernel
theorem dX8_end_24 : decode cX8_end 24 = .ok (.iaload, 1) := by decide +kernel
theorem dX8_end_25 : decode cX8_end 25 = .ok (.iload_n 2, 1) := by decide +kernel
theorem dX8_end_26 : decode cX8_end 26 = .ok (.if_icmp .ne 12, 3) := by decide +kernel
theorem dX8_end_29 : decode cX8_end 29 = .ok (.aload_n 0, 1) := by decide +kernel
theorem dX8_end_30 : decode cX8_end 30 = .ok (.getfield 13, 3) := by decide +kernel
theorem dX8_end_33 : decode cX8_end 33 = .ok (.iload_n 1, 1) := by decide +kernel
theorem dX8_end_34 : decode cX8_end 34 = .ok (.iaload, 1) := by decide +kernel
theorem dX8_end_35 : decode cX8_end 35 = .ok (.goto 4, 3) := by decide +kernel
theorem dX8_end_38 : decode cX8_end 38 = .ok (.iconst (-1), 1) := by decide +kernel
theorem dX8_end_39 : decode cX8_end 39 = .ok (.ireturn, 1) := by decide +kernel
def F_X8_end_e   (q : Int32 → Mm → Prop) (x1 : Int32) (x2 : Int32) (μ : Mm) : Prop :=
  vp_in x1 9 ∧ ((¬ ((μ p_MO_one (x1).toNatClampNeg) = x2) → vp_in x1 9 ∧ ((¬ ((μ p_MO_other (x1).toNatClampNeg) = x2) → q (-1 : Int32) μ) ∧ ((μ p_MO_other (x1).toNatClampNeg) = x2 → vp_in x1 9 ∧ q (μ p_MO_one (x1).toNatClampNeg) μ))) ∧ ((μ p_MO_one (x1).toNatClampNeg) = x2 → vp_in x1 9 ∧ q (μ p_MO_other (x1).toNatClampNeg) μ))
def Wp_X8_end  (x1 : Int32) (x2 : Int32) (μ : Mm) (q : Int32 → Mm → Prop) : Prop := F_X8_end_e   q x1 x2 μ
set_option maxHeartbeats 2000000 in
theorem b_X8_end_e  {g : GE} {f : FE} {q : Int32 → Mm → Prop} (cx : Cx g f cX8_end 3 RX8 0 0 0 0) (hr : (f_M f).sig.returnType = (some .int)) (hl : (f_M f).locks = false) (hQ : f_Q f = MQ (f_b f) (QW g (qI q)) (f_a f) (f_s f) 0 0 (fun q => g.2.2.2 ≤ q))  {x1 : Int32} {x2 : Int32} {μ : Mm} (h : F_X8_end_e   q x1 x2 μ) : KW g f 3 0 0 0 [some (.ref p_MO), some (.int x1), some (.int x2)] [] μ := by
  unfold F_X8_end_e at h
  refine k_aload_n cx dX8_end_0 rfl rfl ?_
  refine k_get (o := some p_MO_one) (v := .ref p_MO_one) cx fl_X8_13 ob_MO rfl rfl dX8_end_1 ?_
  refine k_iload_n cx dX8_end_4 rfl rfl ?_
  obtain ⟨hi, h⟩ := h
  refine k_iald cx ar_MO_one hi dX8_end_5 ?_
  refine k_iload_n cx dX8_end_6 rfl rfl ?_
  refine k_icmp_ne (tgt := 19) cx dX8_end_7 (by decide) (fun hc => ?_) (fun hc => ?_)
  · replace h := h.1 hc
    refine k_aload_n cx dX8_end_19 rfl rfl ?_
    refine k_get (o := some p_MO_other) (v := .ref p_MO_other) cx fl_X8_16 ob_MO rfl rfl dX8_end_20 ?_
    refine k_iload_n cx dX8_end_23 rfl rfl ?_
    obtain ⟨hi, h⟩ := h
    refine k_iald cx ar_MO_other hi dX8_end_24 ?_
    refine k_iload_n cx dX8_end_25 rfl rfl ?_
    refine k_icmp_ne (tgt := 38) cx dX8_end_26 (by decide) (fun hc => ?_) (fun hc => ?_)
    · replace h := h.1 hc
      refine k_iconst (v := (-1 : Int32)) cx dX8_end_38 (by decide +kernel) ?_
      exact k_ret_I cx hr hl hQ dX8_end_39 h
    · replace h := h.2 hc
      refine k_aload_n cx dX8_end_29 rfl rfl ?_
      refine k_get (o := some p_MO_one) (v := .ref p_MO_one) cx fl_X8_13 ob_MO rfl rfl dX8_end_30 ?_
      refine k_iload_n cx dX8_end_33 rfl rfl ?_
      obtain ⟨hi, h⟩ := h
      refine k_iald cx ar_MO_one hi dX8_end_34 ?_
      refine k_goto (tgt := 39) cx dX8_end_35 (by decide) ?_
      exact k_ret_I cx hr hl hQ dX8_end_39 h
  · replace h := h.2 hc
    refine k_aload_n cx dX8_end_10 rfl rfl ?_
    refine k_get (o := some p_MO_other) (v := .ref p_MO_other) cx fl_X8_16 ob_MO rfl rfl dX8_end_11 ?_
    refine k_iload_n cx dX8_end_14 rfl rfl ?_
    obtain ⟨hi, h⟩ := h
    refine k_iald cx ar_MO_other hi dX8_end_15 ?_
    refine k_goto (tgt := 39) cx dX8_end_16 (by decide) ?_
    exact k_ret_I cx hr hl hQ dX8_end_39 h
theorem m_X8_end {g : GE} {l : Launch} {μ : Mm} {q : Int32 → Mm → Prop} {x1 : Int32} {x2 : Int32}  (h : Wp_X8_end  x1 x2 μ q) : MW g l yX8_end cX8_end 3 (some .int) 0 0 [.ref p_MO, .int x1, .int x2] μ (qI q) := by
  refine met_of (by decide) (Nat.le_of_ble_eq_true rfl) (by intro v hv; simp only [List.mem_cons, List.not_mem_nil, or_false] at hv; rcases hv with rfl | rfl | rfl <;> rfl) ?_
  intro f hfl cx hr hl hQ
  exact b_X8_end_e  cx hr hl hQ (h  )
theorem dX8_end__0 : decode cX8_end_ 0 = .ok (.aload_n 0, 1) := by decide +kernel
theorem dX8_end__1 : decode cX8_end_ 1 = .ok (.iload_n 1, 1) := by decide +kernel
theorem dX8_end__2 : decode cX8_end_ 2 = .ok (.invokevirtual 226, 3) := by decide +kernel
theorem dX8_end__5 : decode cX8_end_ 5 = .ok (.istore_n 2, 1) := by decide +kernel
theorem dX8_end__6 : decode cX8_end_ 6 = .ok (.aload_n 0, 1) := by decide +kernel
theorem dX8_end__7 : decode cX8_end_ 7 = .ok (.iload_n 2, 1) := by decide +kernel
theorem dX8_end__8 : decode cX8_end_ 8 = .ok (.ifCond .ne 7, 3) := by decide +kernel
theorem dX8_end__11 : decode cX8_end_ 11 = .ok (.iconst 1, 1) := by decide +kernel
theorem dX8_end__12 : decode cX8_end_ 12 = .ok (.goto 17, 3) := by decide +kernel
theorem dX8_end__15 : decode cX8_end_ 15 = .ok (.aload_n 0, 1) := by decide +kernel
theorem dX8_end__16 : decode cX8_end_ 16 = .ok (.getfield 62, 3) := by decide +kernel
theorem dX8_end__19 : decode cX8_end_ 19 = .ok (.iload_n 1, 1) := by decide +kernel
theorem dX8_end__20 : decode cX8_end_ 20 = .ok (.baload, 1) := by decide +kernel
theorem dX8_end__21 : decode cX8_end_ 21 = .ok (.ifCond .eq 7, 3) := by decide +kernel
theorem dX8_end__24 : decode cX8_end_ 24 = .ok (.iconst 2, 1) := by decide +kernel
theorem dX8_end__25 : decode cX8_end_ 25 = .ok (.goto 4, 3) := by decide +kernel
theorem dX8_end__28 : decode cX8_end_ 28 = .ok (.iconst 0, 1) := by decide +kernel
theorem dX8_end__29 : decode cX8_end_ 29 = .ok (.invokevirtual 121, 3) := by decide +kernel
theorem dX8_end__32 : decode cX8_end_ 32 = .ok (.ifCond .eq 10, 3) := by decide +kernel
theorem dX8_end__35 : decode cX8_end_ 35 = .ok (.aload_n 0, 1) := by decide +kernel
theorem dX8_end__36 : decode cX8_end_ 36 = .ok (.getfield 62, 3) := by decide +kernel
theorem dX8_end__39 : decode cX8_end_ 39 = .ok (.iload_n 1, 1) := by decide +kernel
theorem dX8_end__40 : decode cX8_end_ 40 = .ok (.iconst 1, 1) := by decide +kernel
theorem dX8_end__41 : decode cX8_end_ 41 = .ok (.bastore, 1) := by decide +kernel
theorem dX8_end__42 : decode cX8_end_ 42 = .ok (.return_, 1) := by decide +kernel
def F_X8_end__29  (K29 : Int32 → Int32 → Mm → Prop) (q : Mm → Prop) (x1 : Int32) (y0 : Int32) (μ : Mm) : Prop :=
  Wp_X8_can y0 μ (fun b2 μ1 => (((bI b2) = 0 → q μ1) ∧ (¬ ((bI b2) = 0) → vp_in x1 13 ∧ q (up2 μ1 p_MO_hasEnded (x1).toNatClampNeg (vp_nar .boolean (1 : Int32))))))
def F_X8_end__e  (K29 : Int32 → Int32 → Mm → Prop) (q : Mm → Prop) (x1 : Int32) (μ : Mm) : Prop :=
  Wp_X8_isRequest x1 μ (fun b2 μ1 => ((¬ ((bI b2) = 0) → vp_in x1 13 ∧ (((μ1 p_MO_hasEnded (x1).toNatClampNeg) = 0 → K29 x1 (0 : Int32) μ1) ∧ (¬ ((μ1 p_MO_hasEnded (x1).toNatClampNeg) = 0) → K29 x1 (2 : Int32) μ1))) ∧ ((bI b2) = 0 → K29 x1 (1 : Int32) μ1)))
def Wp_X8_end_  (x1 : Int32) (μ : Mm) (q : Mm → Prop) : Prop := ∀ (K29 : Int32 → Int32 → Mm → Prop), (∀ (x1 : Int32) (y0 : Int32) (μ : Mm), F_X8_end__29  K29 q x1 y0 μ → K29 x1 y0 μ) → F_X8_end__e  K29 q x1 μ
abbrev KK_X8_end__29 (g : GE) (f : FE)  : Int32 → Int32 → Mm → Prop := fun x1 y0 μ => KW g f 3 0 0 29 [some (.ref p_MO), some (.int x1), none] [.int y0, .ref p_MO] μ
set_option maxHeartbeats 2000000 in
theorem b_X8_end__29  {g : GE} {f : FE} {q : Mm → Prop} (cx : Cx g f cX8_end_ 3 RX8 2 43 0 0) (hr : (f_M f).sig.returnType = none) (hl : (f_M f).locks = false) (hQ : f_Q f = MQ (f_b f) (QW g (qV q)) (f_a f) (f_s f) 0 0 (fun q => g.2.2.2 ≤ q))  {x1 : Int32} {y0 : Int32} {μ : Mm} (h : F_X8_end__29  (KK_X8_end__29 g f ) q x1 y0 μ) : KK_X8_end__29 g f  x1 y0 μ := by
  unfold F_X8_end__29 at h
  show KW g f 3 0 0 29 [some (.ref p_MO), some (.int x1), none] [.int y0, .ref p_MO] μ
  refine k_callV (As := [.int y0]) (rest := []) cx (m_X8_can h) cv_X8_121 ob_MO rfl rfl rfl rfl (Nat.le_of_ble_eq_true rfl) ⟨Nat.le_of_ble_eq_true rfl, Nat.le_of_ble_eq_true rfl⟩ dX8_end__29 (fun v μ1 hq => ?_)
  obtain ⟨b2, rfl, h⟩ := hq
  refine k_if_eq (tgt := 42) cx dX8_end__32 (by decide) (fun hc => ?_) (fun hc => ?_)
  · replace h := h.1 hc
    exact k_ret_V cx hr hl hQ dX8_end__42 h
  · replace h := h.2 hc
    refine k_aload_n cx dX8_end__35 rfl rfl ?_
    refine k_get (o := some p_MO_hasEnded) (v := .ref p_MO_hasEnded) cx fl_X8_62 ob_MO rfl rfl dX8_end__36 ?_
    refine k_iload_n cx dX8_end__39 rfl rfl ?_
    refine k_iconst (v := (1 : Int32)) cx dX8_end__40 (by decide +kernel) ?_
    obtain ⟨hi, h⟩ := h
    refine k_zast cx ar_MO_hasEnded hi dX8_end__41 ?_
    exact k_ret_V cx hr hl hQ dX8_end__42 h
set_option maxHeartbeats 2000000 in
theorem b_X8_end__e  {g : GE} {f : FE} {q : Mm → Prop} (cx : Cx g f cX8_end_ 3 RX8 2 43 0 0) (hr : (f_M f).sig.returnType = none) (hl : (f_M f).locks = false) (hQ : f_Q f = MQ (f_b f) (QW g (qV q)) (f_a f) (f_s f) 0 0 (fun q => g.2.2.2 ≤ q))  {x1 : Int32} {μ : Mm} (h : F_X8_end__e  (KK_X8_end__29 g f ) q x1 μ) : KW g f 3 0 0 0 [some (.ref p_MO), some (.int x1), none] [] μ := by
  unfold F_X8_end__e at h
  refine k_aload_n cx dX8_end__0 rfl rfl ?_
  refine k_iload_n cx dX8_end__1 rfl rfl ?_
  refine k_callV (As := [.int x1]) (rest := []) cx (m_X8_isRequest h) cv_X8_226 ob_MO rfl rfl rfl rfl (Nat.le_of_ble_eq_true rfl) ⟨Nat.le_of_ble_eq_true rfl, Nat.le_of_ble_eq_true rfl⟩ dX8_end__2 (fun v μ1 hq => ?_)
  obtain ⟨b2, rfl, h⟩ := hq
  refine k_istore_n cx dX8_end__5 rfl (by decide) ?_
  refine k_aload_n cx dX8_end__6 rfl rfl ?_
  refine k_iload_n cx dX8_end__7 rfl rfl ?_
  refine k_if_ne (tgt := 15) cx dX8_end__8 (by decide) (fun hc => ?_) (fun hc => ?_)
  · replace h := h.1 hc
    refine k_aload_n cx dX8_end__15 rfl rfl ?_
    refine k_get (o := some p_MO_hasEnded) (v := .ref p_MO_hasEnded) cx fl_X8_62 ob_MO rfl rfl dX8_end__16 ?_
    refine k_iload_n cx dX8_end__19 rfl rfl ?_
    obtain ⟨hi, h⟩ := h
    refine k_zald cx ar_MO_hasEnded hi dX8_end__20 ?_
    refine k_if_eq (tgt := 28) cx dX8_end__21 (by decide) (fun hc => ?_) (fun hc => ?_)
    · replace h := h.1 hc
      refine k_iconst (v := (0 : Int32)) cx dX8_end__28 (by decide +kernel) ?_
      exact k_weak h (lsLe.keep (lsLe.keep (lsLe.drop lsLe.nil)))
    · replace h := h.2 hc
      refine k_iconst (v := (2 : Int32)) cx dX8_end__24 (by decide +kernel) ?_
      refine k_goto (tgt := 29) cx dX8_end__25 (by decide) ?_
      exact k_weak h (lsLe.keep (lsLe.keep (lsLe.drop lsLe.nil)))
  · replace h := h.2 hc
    refine k_iconst (v := (1 : Int32)) cx dX8_end__11 (by decide +kernel) ?_
    refine k_goto (tgt := 29) cx dX8_end__12 (by decide) ?_
    exact k_weak h (lsLe.keep (lsLe.keep (lsLe.drop lsLe.nil)))
theorem m_X8_end_ {g : GE} {l : Launch} {μ : Mm} {q : Mm → Prop} {x1 : Int32}  (h : Wp_X8_end_  x1 μ q) : MW g l yX8_end_ cX8_end_ 3 none 2 43 [.ref p_MO, .int x1] μ (qV q) := by
  refine met_of (by decide) (Nat.le_of_ble_eq_true rfl) (by intro v hv; simp only [List.mem_cons, List.not_mem_nil, or_false] at hv; rcases hv with rfl | rfl <;> rfl) ?_
  intro f hfl cx hr hl hQ
  exact b_X8_end__e  cx hr hl hQ (h (KK_X8_end__29 g f ) (fun _ _ _ h => b_X8_end__29  cx hr hl hQ h))
theorem dX8_isLink_0 : decode cX8_isLink 0 = .ok (.iload_n 1, 1) := by decide +kernel
theorem dX8_isLink_1 : decode cX8_isLink 1 = .ok (.iconst 0, 1) := by decide +kernel
theorem dX8_isLink_2 : decode cX8_isLink 2 = .ok (.aload_n 0, 1) := by decide +kernel
theorem dX8_isLink_3 : decode cX8_isLink 3 = .ok (.getfield 115, 3) := by decide +kernel
theorem dX8_isLink_6 : decode cX8_isLink 6 = .ok (.iconst 1, 1) := by decide +kernel
theorem dX8_isLink_7 : decode cX8_isLink 7 = .ok (.isub, 1) := by decide +kernel
theorem dX8_isLink_8 : decode cX8_isLink 8 = .ok (.invokestatic 111, 3) := by decide +kernel
theorem dX8_isLink_11 : decode cX8_isLink 11 = .ok (.ireturn, 1) := by decide +kernel
def F_X8_isLink_e   (q : Bool → Mm → Prop) (x1 : Int32) (μ : Mm) : Prop :=
  Wp_X8_isIn x1 (0 : Int32) ((μ p_MO 3) - (1 : Int32)) μ (fun b2 μ1 => q b2 μ1)
def Wp_X8_isLink  (x1 : Int32) (μ : Mm) (q : Bool → Mm → Prop) : Prop := F_X8_isLink_e   q x1 μ
set_option maxHeartbeats 2000000 in
theorem b_X8_isLink_e  {g : GE} {f : FE} {q : Bool → Mm → Prop} (cx : Cx g f cX8_isLink 2 RX8 1 22 0 0) (hr : (f_M f).sig.returnType = (some .boolean)) (hl : (f_M f).locks = false) (hQ : f_Q f = MQ (f_b f) (QW g (qZ q)) (f_a f) (f_s f) 0 0 (fun q => g.2.2.2 ≤ q))  {x1 : Int32} {μ : Mm} (h : F_X8_isLink_e   q x1 μ) : KW g f 2 0 0 0 [some (.ref p_MO), some (.int x1)] [] μ := by
  unfold F_X8_isLink_e at h
  refine k_iload_n cx dX8_isLink_0 rfl rfl ?_
  refine k_iconst (v := (0 : Int32)) cx dX8_isLink_1 (by decide +kernel) ?_
  refine k_aload_n cx dX8_isLink_2 rfl rfl ?_
  refine k_get (o := none) (v := .int (μ p_MO 3)) cx fl_X8_115 ob_MO rfl rfl dX8_isLink_3 ?_
  refine k_iconst (v := (1 : Int32)) cx dX8_isLink_6 (by decide +kernel) ?_
  refine k_isub cx dX8_isLink_7 ?_
  refine k_callS (As := [.int x1, .int (0 : Int32), .int ((μ p_MO 3) - (1 : Int32))]) (rest := []) cx (m_X8_isIn h) cv_X8_111 rfl rfl (Nat.le_of_ble_eq_true rfl) ⟨Nat.le_of_ble_eq_true rfl, Nat.le_of_ble_eq_true rfl⟩ dX8_isLink_8 (fun v μ1 hq => ?_)
  obtain ⟨b2, rfl, h⟩ := hq
  exact k_ret_Z (b := b2) cx hr hl hQ dX8_isLink_11 rfl h
theorem m_X8_isLink {g : GE} {l : Launch} {μ : Mm} {q : Bool → Mm → Prop} {x1 : Int32}  (h : Wp_X8_isLink  x1 μ q) : MW g l yX8_isLink cX8_isLink 2 (some .boolean) 1 22 [.ref p_MO, .int x1] μ (qZ q) := by
  refine met_of (by decide) (Nat.le_of_ble_eq_true rfl) (by intro v hv; simp only [List.mem_cons, List.not_mem_nil, or_false] at hv; rcases hv with rfl | rfl <;> rfl) ?_
  intro f hfl cx hr hl hQ
  exact b_X8_isLink_e  cx hr hl hQ (h  )
theorem dX8_failed_0 : decode cX8_failed 0 = .ok (.iconst 0, 1) := by decide +kernel
theorem dX8_failed_1 : decode cX8_failed 1 = .ok (.istore_n 2, 1) := by decide +kernel
theorem dX8_failed_2 : decode cX8_failed 2 = .ok (.iconst 0, 1) := by decide +kernel
theorem dX8_failed_3 : decode cX8_failed 3 = .ok (.istore_n 3, 1) := by decide +kernel
theorem dX8_failed_4 : decode cX8_failed 4 = .ok (.iload_n 3, 1) := by decide +kernel
theorem dX8_failed_5 : decode cX8_failed 5 = .ok (.aload_n 0, 1) := by decide +kernel
theorem dX8_failed_6 : decode cX8_failed 6 = .ok (.getfield 115, 3) := by decide +kernel
theorem dX8_failed_9 : decode cX8_failed 9 = .ok (.if_icmp .ge 36, 3) := by decide +kernel
theorem dX8_failed_12 : decode cX8_failed 12 = .ok (.iload_n 2, 1) := by decide +kernel
theorem dX8_failed_13 : decode cX8_failed 13 = .ok (.ifCond .ne 20, 3) := by decide +kernel
theorem dX8_failed_16 : decode cX8_failed 16 = .ok (.iload_n 1, 1) := by decide +kernel
theorem dX8_failed_17 : decode cX8_failed 17 = .ok (.iload_n 3, 1) := by decide +kernel
theorem dX8_failed_18 : decode cX8_failed 18 = .ok (.invokestatic 136, 3) := by decide +kernel
theorem dX8_failed_21 : decode cX8_failed 21 = .ok (.ifCond .eq 16, 3) := by decide +kernel
theorem dX8_failed_24 : decode cX8_failed 24 = .ok (.aload_n 0, 1) := by decide +kernel
theorem dX8_failed_25 : decode cX8_failed 25 = .ok (.getfield 22, 3) := by decide +kernel
theorem dX8_failed_28 : decode cX8_failed 28 = .ok (.iload_n 3, 1) := by decide +kernel
theorem dX8_failed_29 : decode cX8_failed 29 = .ok (.baload, 1) := by decide +kernel
theorem dX8_failed_30 : decode cX8_failed 30 = .ok (.ifCond .eq 7, 3) := by decide +kernel
theorem dX8_failed_33 : decode cX8_failed 33 = .ok (.iconst 1, 1) := by decide +kernel
theorem dX8_failed_34 : decode cX8_failed 34 = .ok (.goto 4, 3) := by decide +kernel
theorem dX8_failed_37 : decode cX8_failed 37 = .ok (.iconst 0, 1) := by decide +kernel
theorem dX8_failed_38 : decode cX8_failed 38 = .ok (.istore_n 2, 1) := by decide +kernel
theorem dX8_failed_39 : decode cX8_failed 39 = .ok (.iinc 3 1, 3) := by decide +kernel
theorem dX8_failed_42 : decode cX8_failed 42 = .ok (.goto (-38), 3) := by decide +kernel
theorem dX8_failed_45 : decode cX8_failed 45 = .ok (.iload_n 2, 1) := by decide +kernel
theorem dX8_failed_46 : decode cX8_failed 46 = .ok (.ireturn, 1) := by decide +kernel
def F_X8_failed_4  (K4 : Int32 → Int32 → Int32 → Mm → Prop) (q : Bool → Mm → Prop) (x1 : Int32) (x2 : Int32) (x3 : Int32) (μ : Mm) : Prop :=
  (((μ p_MO 3) ≤ x3 → ∃ b : Bool, x2 = bI b ∧ q b μ) ∧ (¬ ((μ p_MO 3) ≤ x3) → ((¬ (x2 = 0) → K4 x1 (1 : Int32) (x3 + (1 : Int32)) μ) ∧ (x2 = 0 → Wp_X8_has x1 x3 μ (fun b2 μ1 => (((bI b2) = 0 → K4 x1 (0 : Int32) (x3 + (1 : Int32)) μ1) ∧ (¬ ((bI b2) = 0) → vp_in x3 9 ∧ (((μ1 p_MO_hasFailed (x3).toNatClampNeg) = 0 → K4 x1 (0 : Int32) (x3 + (1 : Int32)) μ1) ∧ (¬ ((μ1 p_MO_hasFailed (x3).toNatClampNeg) = 0) → K4 x1 (1 : Int32) (x3 + (1 : Int32)) μ1)))))))))
def F_X8_failed_e  (K4 : Int32 → Int32 → Int32 → Mm → Prop) (q : Bool → Mm → Prop) (x1 : Int32) (μ : Mm) : Prop :=
  K4 x1 (0 : Int32) (0 : Int32) μ
def Wp_X8_failed  (x1 : Int32) (μ : Mm) (q : Bool → Mm → Prop) : Prop := ∀ (K4 : Int32 → Int32 → Int32 → Mm → Prop), (∀ (x1 : Int32) (x2 : Int32) (x3 : Int32) (μ : Mm), F_X8_failed_4  K4 q x1 x2 x3 μ → K4 x1 x2 x3 μ) → F_X8_failed_e  K4 q x1 μ
abbrev KK_X8_failed_4 (g : GE) (f : FE)  : Int32 → Int32 → Int32 → Mm → Prop := fun x1 x2 x3 μ => KW g f 4 0 0 4 [some (.ref p_MO), some (.int x1), some (.int x2), some (.int x3)] [] μ
set_option maxHeartbeats 2000000 in
theorem b_X8_failed_4  {g : GE} {f : FE} {q : Bool → Mm → Prop} (cx : Cx g f cX8_failed 4 RX8 1 21 0 0) (hr : (f_M f).sig.returnType = (some .boolean)) (hl : (f_M f).locks = false) (hQ : f_Q f = MQ (f_b f) (QW g (qZ q)) (f_a f) (f_s f) 0 0 (fun q => g.2.2.2 ≤ q))  {x1 : Int32} {x2 : Int32} {x3 : Int32} {μ : Mm} (h : F_X8_failed_4  (KK_X8_failed_4 g f ) q x1 x2 x3 μ) : KK_X8_failed_4 g f  x1 x2 x3 μ := by
  unfold F_X8_failed_4 at h
  show KW g f 4 0 0 4 [some (.ref p_MO), some (.int x1), some (.int x2), some (.int x3)] [] μ
  refine k_iload_n cx dX8_failed_4 rfl rfl ?_
  refine k_aload_n cx dX8_failed_5 rfl rfl ?_
  refine k_get (o := none) (v := .int (μ p_MO 3)) cx fl_X8_115 ob_MO rfl rfl dX8_failed_6 ?_
  refine k_icmp_ge (tgt := 45) cx dX8_failed_9 (by decide) (fun hc => ?_) (fun hc => ?_)
  · replace h := h.1 hc
    refine k_iload_n cx dX8_failed_45 rfl rfl ?_
    obtain ⟨b, hb, h⟩ := h
    exact k_ret_Z (b := b) cx hr hl hQ dX8_failed_46 hb h
  · replace h := h.2 hc
    refine k_iload_n cx dX8_failed_12 rfl rfl ?_
    refine k_if_ne (tgt := 33) cx dX8_failed_13 (by decide) (fun hc => ?_) (fun hc => ?_)
    · replace h := h.1 hc
      refine k_iconst (v := (1 : Int32)) cx dX8_failed_33 (by decide +kernel) ?_
      refine k_goto (tgt := 38) cx dX8_failed_34 (by decide) ?_
      refine k_istore_n cx dX8_failed_38 rfl (by decide) ?_
      refine k_iinc (v := (x3 + (1 : Int32))) cx dX8_failed_39 rfl rfl (by decide) ?_
      refine k_goto (tgt := 4) cx dX8_failed_42 (by decide) ?_
      exact k_weak h (lsLe.keep (lsLe.keep (lsLe.keep (lsLe.keep lsLe.nil))))
    · replace h := h.2 hc
      refine k_iload_n cx dX8_failed_16 rfl rfl ?_
      refine k_iload_n cx dX8_failed_17 rfl rfl ?_
      refine k_callS (As := [.int x1, .int x3]) (rest := []) cx (m_X8_has h) cv_X8_136 rfl rfl (Nat.le_of_ble_eq_true rfl) ⟨Nat.le_of_ble_eq_true rfl, Nat.le_of_ble_eq_true rfl⟩ dX8_failed_18 (fun v μ1 hq => ?_)
      obtain ⟨b2, rfl, h⟩ := hq
      refine k_if_eq (tgt := 37) cx dX8_failed_21 (by decide) (fun hc => ?_) (fun hc => ?_)
      · replace h := h.1 hc
        refine k_iconst (v := (0 : Int32)) cx dX8_failed_37 (by decide +kernel) ?_
        refine k_istore_n cx dX8_failed_38 rfl (by decide) ?_
        refine k_iinc (v := (x3 + (1 : Int32))) cx dX8_failed_39 rfl rfl (by decide) ?_
        refine k_goto (tgt := 4) cx dX8_failed_42 (by decide) ?_
        exact k_weak h (lsLe.keep (lsLe.keep (lsLe.keep (lsLe.keep lsLe.nil))))
      · replace h := h.2 hc
        refine k_aload_n cx dX8_failed_24 rfl rfl ?_
        refine k_get (o := some p_MO_hasFailed) (v := .ref p_MO_hasFailed) cx fl_X8_22 ob_MO rfl rfl dX8_failed_25 ?_
        refine k_iload_n cx dX8_failed_28 rfl rfl ?_
        obtain ⟨hi, h⟩ := h
        refine k_zald cx ar_MO_hasFailed hi dX8_failed_29 ?_
        refine k_if_eq (tgt := 37) cx dX8_failed_30 (by decide) (fun hc => ?_) (fun hc => ?_)
        · replace h := h.1 hc
          refine k_iconst (v := (0 : Int32)) cx dX8_failed_37 (by decide +kernel) ?_
          refine k_istore_n cx dX8_failed_38 rfl (by decide) ?_
          refine k_iinc (v := (x3 + (1 : Int32))) cx dX8_failed_39 rfl rfl (by decide) ?_
          refine k_goto (tgt := 4) cx dX8_failed_42 (by decide) ?_
          exact k_weak h (lsLe.keep (lsLe.keep (lsLe.keep (lsLe.keep lsLe.nil))))
        · replace h := h.2 hc
          refine k_iconst (v := (1 : Int32)) cx dX8_failed_33 (by decide +kernel) ?_
          refine k_goto (tgt := 38) cx dX8_failed_34 (by decide) ?_
          refine k_istore_n cx dX8_failed_38 rfl (by decide) ?_
          refine k_iinc (v := (x3 + (1 : Int32))) cx dX8_failed_39 rfl rfl (by decide) ?_
          refine k_goto (tgt := 4) cx dX8_failed_42 (by decide) ?_
          exact k_weak h (lsLe.keep (lsLe.keep (lsLe.keep (lsLe.keep lsLe.nil))))
set_option maxHeartbeats 2000000 in
theorem b_X8_failed_e  {g : GE} {f : FE} {q : Bool → Mm → Prop} (cx : Cx g f cX8_failed 4 RX8 1 21 0 0) (hr : (f_M f).sig.returnType = (some .boolean)) (hl : (f_M f).locks = false) (hQ : f_Q f = MQ (f_b f) (QW g (qZ q)) (f_a f) (f_s f) 0 0 (fun q => g.2.2.2 ≤ q))  {x1 : Int32} {μ : Mm} (h : F_X8_failed_e  (KK_X8_failed_4 g f ) q x1 μ) : KW g f 4 0 0 0 [some (.ref p_MO), some (.int x1), none, none] [] μ := by
  unfold F_X8_failed_e at h
  refine k_iconst (v := (0 : Int32)) cx dX8_failed_0 (by decide +kernel) ?_
  refine k_istore_n cx dX8_failed_1 rfl (by decide) ?_
  refine k_iconst (v := (0 : Int32)) cx dX8_failed_2 (by decide +kernel) ?_
  refine k_istore_n cx dX8_failed_3 rfl (by decide) ?_
  exact k_weak h (lsLe.keep (lsLe.keep (lsLe.keep (lsLe.keep lsLe.nil))))
theorem m_X8_failed {g : GE} {l : Launch} {μ : Mm} {q : Bool → Mm → Prop} {x1 : Int32}  (h : Wp_X8_failed  x1 μ q) : MW g l yX8_failed cX8_failed 4 (some .boolean) 1 21 [.ref p_MO, .int x1] μ (qZ q) := by
  refine met_of (by decide) (Nat.le_of_ble_eq_true rfl) (by intro v hv; simp only [List.mem_cons, List.not_mem_nil, or_false] at hv; rcases hv with rfl | rfl <;> rfl) ?_
  intro f hfl cx hr hl hQ
  exact b_X8_failed_e  cx hr hl hQ (h (KK_X8_failed_4 g f ) (fun _ _ _ _ h => b_X8_failed_4  cx hr hl hQ h))
theorem dX8_runs_0 : decode cX8_runs 0 = .ok (.aload_n 0, 1) := by decide +kernel
theorem dX8_runs_1 : decode cX8_runs 1 = .ok (.aload_n 0, 1) := by decide +kernel
theorem dX8_runs_2 : decode cX8_runs 2 = .ok (.getfield 53, 3) := by decide +kernel
theorem dX8_runs_5 : decode cX8_runs 5 = .ok (.iload_n 1, 1) := by decide +kernel
theorem dX8_runs_6 : decode cX8_runs 6 = .ok (.iaload, 1) := by decide +kernel
theorem dX8_runs_7 : decode cX8_runs 7 = .ok (.aload_n 0, 1) := by decide +kernel
theorem dX8_runs_8 : decode cX8_runs 8 = .ok (.getfield 56, 3) := by decide +kernel
theorem dX8_runs_11 : decode cX8_runs 11 = .ok (.iload_n 1, 1) := by decide +kernel
theorem dX8_runs_12 : decode cX8_runs 12 = .ok (.iaload, 1) := by decide +kernel
theorem dX8_runs_13 : decode cX8_runs 13 = .ok (.ior, 1) := by decide +kernel
theorem dX8_runs_14 : decode cX8_runs 14 = .ok (.invokevirtual 247, 3) := by decide +kernel
theorem dX8_runs_17 : decode cX8_runs 17 = .ok (.ifCond .ne 7, 3) := by decide +kernel
theorem dX8_runs_20 : decode cX8_runs 20 = .ok (.iconst 0, 1) := by decide +kernel
theorem dX8_runs_21 : decode cX8_runs 21 = .ok (.goto 30, 3) := by decide +kernel
theorem dX8_runs_24 : decode cX8_runs 24 = .ok (.aload_n 0, 1) := by decide +kernel
theorem dX8_runs_25 : decode cX8_runs 25 = .ok (.getfield 59, 3) := by decide +kernel
theorem dX8_runs_28 : decode cX8_runs 28 = .ok (.iload_n 1, 1) := by decide +kernel
theorem dX8_runs_29 : decode cX8_runs 29 = .ok (.iaload, 1) := by decide +kernel
theorem dX8_runs_30 : decode cX8_runs 30 = .ok (.ifCond .eq 20, 3) := by decide +kernel
theorem dX8_runs_33 : decode cX8_runs 33 = .ok (.aload_n 0, 1) := by decide +kernel
theorem dX8_runs_34 : decode cX8_runs 34 = .ok (.aload_n 0, 1) := by decide +kernel
theorem dX8_runs_35 : decode cX8_runs 35 = .ok (.getfield 59, 3) := by decide +kernel
theorem dX8_runs_38 : decode cX8_runs 38 = .ok (.iload_n 1, 1) := by decide +kernel
theorem dX8_runs_39 : decode cX8_runs 39 = .ok (.iaload, 1) := by decide +kernel
theorem dX8_runs_40 : decode cX8_runs 40 = .ok (.invokevirtual 247, 3) := by decide +kernel
theorem dX8_runs_43 : decode cX8_runs 43 = .ok (.ifCond .ne 7, 3) := by decide +kernel
theorem dX8_runs_46 : decode cX8_runs 46 = .ok (.iconst 1, 1) := by decide +kernel
theorem dX8_runs_47 : decode cX8_runs 47 = .ok (.goto 4, 3) := by decide +kernel
theorem dX8_runs_50 : decode cX8_runs 50 = .ok (.iconst 2, 1) := by decide +kernel
theorem dX8_runs_51 : decode cX8_runs 51 = .ok (.ireturn, 1) := by decide +kernel
def F_X8_runs_e   (q : Int32 → Mm → Prop) (x1 : Int32) (μ : Mm) : Prop :=
  vp_in x1 39 ∧ vp_in x1 39 ∧ Wp_X8_failed ((μ p_MO_way (x1).toNatClampNeg) ||| (μ p_MO_rest (x1).toNatClampNeg)) μ (fun b2 μ1 => ((¬ ((bI b2) = 0) → vp_in x1 39 ∧ (((μ1 p_MO_second (x1).toNatClampNeg) = 0 → q (2 : Int32) μ1) ∧ (¬ ((μ1 p_MO_second (x1).toNatClampNeg) = 0) → vp_in x1 39 ∧ Wp_X8_failed (μ1 p_MO_second (x1).toNatClampNeg) μ1 (fun b4 μ3 => ((¬ ((bI b4) = 0) → q (2 : Int32) μ3) ∧ ((bI b4) = 0 → q (1 : Int32) μ3)))))) ∧ ((bI b2) = 0 → q (0 : Int32) μ1)))
def Wp_X8_runs  (x1 : Int32) (μ : Mm) (q : Int32 → Mm → Prop) : Prop := F_X8_runs_e   q x1 μ
set_option maxHeartbeats 2000000 in
theorem b_X8_runs_e  {g : GE} {f : FE} {q : Int32 → Mm → Prop} (cx : Cx g f cX8_runs 2 RX8 2 44 0 0) (hr : (f_M f).sig.returnType = (some .int)) (hl : (f_M f).locks = false) (hQ : f_Q f = MQ (f_b f) (QW g (qI q)) (f_a f) (f_s f) 0 0 (fun q => g.2.2.2 ≤ q))  {x1 : Int32} {μ : Mm} (h : F_X8_runs_e   q x1 μ) : KW g f 2 0 0 0 [some (.ref p_MO), some (.int x1)] [] μ := by
  unfold F_X8_runs_e at h
  refine k_aload_n cx dX8_runs_0 rfl rfl ?_
  refine k_aload_n cx dX8_runs_1 rfl rfl ?_
  refine k_get (o := some p_MO_way) (v := .ref p_MO_way) cx fl_X8_53 ob_MO rfl rfl dX8_runs_2 ?_
  refine k_iload_n cx dX8_runs_5 rfl rfl ?_
  obtain ⟨hi, h⟩ := h
  refine k_iald cx ar_MO_way hi dX8_runs_6 ?_
  refine k_aload_n cx dX8_runs_7 rfl rfl ?_
  refine k_get (o := some p_MO_rest) (v := .ref p_MO_rest) cx fl_X8_56 ob_MO rfl rfl dX8_runs_8 ?_
  refine k_iload_n cx dX8_runs_11 rfl rfl ?_
  obtain ⟨hi, h⟩ := h
  refine k_iald cx ar_MO_rest hi dX8_runs_12 ?_
  refine k_ior cx dX8_runs_13 ?_
  refine k_callV (As := [.int ((μ p_MO_way (x1).toNatClampNeg) ||| (μ p_MO_rest (x1).toNatClampNeg))]) (rest := []) cx (m_X8_failed h) cv_X8_247 ob_MO rfl rfl rfl rfl (Nat.le_of_ble_eq_true rfl) ⟨Nat.le_of_ble_eq_true rfl, Nat.le_of_ble_eq_true rfl⟩ dX8_runs_14 (fun v μ1 hq => ?_)
  obtain ⟨b2, rfl, h⟩ := hq
  refine k_if_ne (tgt := 24) cx dX8_runs_17 (by decide) (fun hc => ?_) (fun hc => ?_)
  · replace h := h.1 hc
    refine k_aload_n cx dX8_runs_24 rfl rfl ?_
    refine k_get (o := some p_MO_second) (v := .ref p_MO_second) cx fl_X8_59 ob_MO rfl rfl dX8_runs_25 ?_
    refine k_iload_n cx dX8_runs_28 rfl rfl ?_
    obtain ⟨hi, h⟩ := h
    refine k_iald cx ar_MO_second hi dX8_runs_29 ?_
    refine k_if_eq (tgt := 50) cx dX8_runs_30 (by decide) (fun hc => ?_) (fun hc => ?_)
    · replace h := h.1 hc
      refine k_iconst (v := (2 : Int32)) cx dX8_runs_50 (by decide +kernel) ?_
      exact k_ret_I cx hr hl hQ dX8_runs_51 h
    · replace h := h.2 hc
      refine k_aload_n cx dX8_runs_33 rfl rfl ?_
      refine k_aload_n cx dX8_runs_34 rfl rfl ?_
      refine k_get (o := some p_MO_second) (v := .ref p_MO_second) cx fl_X8_59 ob_MO rfl rfl dX8_runs_35 ?_
      refine k_iload_n cx dX8_runs_38 rfl rfl ?_
      obtain ⟨hi, h⟩ := h
      refine k_iald cx ar_MO_second hi dX8_runs_39 ?_
      refine k_callV (As := [.int (μ1 p_MO_second (x1).toNatClampNeg)]) (rest := []) cx (m_X8_failed h) cv_X8_247 ob_MO rfl rfl rfl rfl (Nat.le_of_ble_eq_true rfl) ⟨Nat.le_of_ble_eq_true rfl, Nat.le_of_ble_eq_true rfl⟩ dX8_runs_40 (fun v μ3 hq => ?_)
      obtain ⟨b4, rfl, h⟩ := hq
      refine k_if_ne (tgt := 50) cx dX8_runs_43 (by decide) (fun hc => ?_) (fun hc => ?_)
      · replace h := h.1 hc
        refine k_iconst (v := (2 : Int32)) cx dX8_runs_50 (by decide +kernel) ?_
        exact k_ret_I cx hr hl hQ dX8_runs_51 h
      · replace h := h.2 hc
        refine k_iconst (v := (1 : Int32)) cx dX8_runs_46 (by decide +kernel) ?_
        refine k_goto (tgt := 51) cx dX8_runs_47 (by decide) ?_
        exact k_ret_I cx hr hl hQ dX8_runs_51 h
  · replace h := h.2 hc
    refine k_iconst (v := (0 : Int32)) cx dX8_runs_20 (by decide +kernel) ?_
    refine k_goto (tgt := 51) cx dX8_runs_21 (by decide) ?_
    exact k_ret_I cx hr hl hQ dX8_runs_51 h
theorem m_X8_runs {g : GE} {l : Launch} {μ : Mm} {q : Int32 → Mm → Prop} {x1 : Int32}  (h : Wp_X8_runs  x1 μ q) : MW g l yX8_runs cX8_runs 2 (some .int) 2 44 [.ref p_MO, .int x1] μ (qI q) := by
  refine met_of (by decide) (Nat.le_of_ble_eq_true rfl) (by intro v hv; simp only [List.mem_cons, List.not_mem_nil, or_false] at hv; rcases hv with rfl | rfl <;> rfl) ?_
  intro f hfl cx hr hl hQ
  exact b_X8_runs_e  cx hr hl hQ (h  )
theorem dX8_running_0 : decode cX8_running 0 = .ok (.iconst 0, 1) := by decide +kernel
theorem dX8_running_1 : decode cX8_running 1 = .ok (.istore_n 3, 1) := by decide +kernel
theorem dX8_running_2 : decode cX8_running 2 = .ok (.iconst 3, 1) := by decide +kernel
theorem dX8_running_3 : decode cX8_running 3 = .ok (.iload_n 1, 1) := by decide +kernel
theorem dX8_running_4 : decode cX8_running 4 = .ok (.imul, 1) := by decide +kernel
theorem dX8_running_5 : decode cX8_running 5 = .ok (.istore 4, 2) := by decide +kernel
theorem dX8_running_7 : decode cX8_running 7 = .ok (.iload 4, 2) := by decide +kernel
theorem dX8_running_9 : decode cX8_running 9 = .ok (.iconst 3, 1) := by decide +kernel
theorem dX8_running_10 : decode cX8_running 10 = .ok (.iload_n 1, 1) := by decide +kernel
theorem dX8_running_11 : decode cX8_running 11 = .ok (.imul, 1) := by decide +kernel
theorem dX8_running_12 : decode cX8_running 12 = .ok (.aload_n 0, 1) := by decide +kernel
theorem dX8_running_13 : decode cX8_running 13 = .ok (.getfield 29, 3) := by decide +kernel
theorem dX8_running_16 : decode cX8_running 16 = .ok (.iload_n 1, 1) := by decide +kernel
theorem dX8_running_17 : decode cX8_running 17 = .ok (.iaload, 1) := by decide +kernel
theorem dX8_running_18 : decode cX8_running 18 = .ok (.iadd, 1) := by decide +kernel
theorem dX8_running_19 : decode cX8_running 19 = .ok (.if_icmp .ge 27, 3) := by decide +kernel
theorem dX8_running_22 : decode cX8_running 22 = .ok (.iload_n 3, 1) := by decide +kernel
theorem dX8_running_23 : decode cX8_running 23 = .ok (.aload_n 0, 1) := by decide +kernel
theorem dX8_running_24 : decode cX8_running 24 = .ok (.iload 4, 2) := by decide +kernel
theorem dX8_running_26 : decode cX8_running 26 = .ok (.invokevirtual 250, 3) := by decide +kernel
theorem dX8_running_29 : decode cX8_running 29 = .ok (.iload_n 2, 1) := by decide +kernel
theorem dX8_running_30 : decode cX8_running 30 = .ok (.if_icmp .ne 7, 3) := by decide +kernel
theorem dX8_running_33 : decode cX8_running 33 = .ok (.iconst 1, 1) := by decide +kernel
theorem dX8_running_34 : decode cX8_running 34 = .ok (.goto 4, 3) := by decide +kernel
theorem dX8_running_37 : decode cX8_running 37 = .ok (.iconst 0, 1) := by decide +kernel
theorem dX8_running_38 : decode cX8_running 38 = .ok (.iadd, 1) := by decide +kernel
theorem dX8_running_39 : decode cX8_running 39 = .ok (.istore_n 3, 1) := by decide +kernel
theorem dX8_running_40 : decode cX8_running 40 = .ok (.iinc 4 1, 3) := by decide +kernel
theorem dX8_running_43 : decode cX8_running 43 = .ok (.goto (-36), 3) := by decide +kernel
theorem dX8_running_46 : decode cX8_running 46 = .ok (.iload_n 3, 1) := by decide +kernel
theorem dX8_running_47 : decode cX8_running 47 = .ok (.ireturn, 1) := by decide +kernel
def F_X8_running_7  (K7 : Int32 → Int32 → Int32 → Int32 → Mm → Prop) (q : Int32 → Mm → Prop) (x1 : Int32) (x2 : Int32) (x3 : Int32) (x4 : Int32) (μ : Mm) : Prop :=
  vp_in x1 13 ∧ (((((3 : Int32) * x1) + (μ p_MO_lines (x1).toNatClampNeg)) ≤ x4 → q x3 μ) ∧ (¬ ((((3 : Int32) * x1) + (μ p_MO_lines (x1).toNatClampNeg)) ≤ x4) → Wp_X8_runs x4 μ (fun z2 μ1 => ((¬ (z2 = x2) → K7 x1 x2 (x3 + (0 : Int32)) (x4 + (1 : Int32)) μ1) ∧ (z2 = x2 → K7 x1 x2 (x3 + (1 : Int32)) (x4 + (1 : Int32)) μ1)))))
def F_X8_running_e  (K7 : Int32 → Int32 → Int32 → Int32 → Mm → Prop) (q : Int32 → Mm → Prop) (x1 : Int32) (x2 : Int32) (μ : Mm) : Prop :=
  K7 x1 x2 (0 : Int32) ((3 : Int32) * x1) μ
def Wp_X8_running  (x1 : Int32) (x2 : Int32) (μ : Mm) (q : Int32 → Mm → Prop) : Prop := ∀ (K7 : Int32 → Int32 → Int32 → Int32 → Mm → Prop), (∀ (x1 : Int32) (x2 : Int32) (x3 : Int32) (x4 : Int32) (μ : Mm), F_X8_running_7  K7 q x1 x2 x3 x4 μ → K7 x1 x2 x3 x4 μ) → F_X8_running_e  K7 q x1 x2 μ
abbrev KK_X8_running_7 (g : GE) (f : FE)  : Int32 → Int32 → Int32 → Int32 → Mm → Prop := fun x1 x2 x3 x4 μ => KW g f 5 0 0 7 [some (.ref p_MO), some (.int x1), some (.int x2), some (.int x3), some (.int x4)] [] μ
set_option maxHeartbeats 2000000 in
theorem b_X8_running_7  {g : GE} {f : FE} {q : Int32 → Mm → Prop} (cx : Cx g f cX8_running 5 RX8 3 65 0 0) (hr : (f_M f).sig.returnType = (some .int)) (hl : (f_M f).locks = false) (hQ : f_Q f = MQ (f_b f) (QW g (qI q)) (f_a f) (f_s f) 0 0 (fun q => g.2.2.2 ≤ q))  {x1 : Int32} {x2 : Int32} {x3 : Int32} {x4 : Int32} {μ : Mm} (h : F_X8_running_7  (KK_X8_running_7 g f ) q x1 x2 x3 x4 μ) : KK_X8_running_7 g f  x1 x2 x3 x4 μ := by
  unfold F_X8_running_7 at h
  show KW g f 5 0 0 7 [some (.ref p_MO), some (.int x1), some (.int x2), some (.int x3), some (.int x4)] [] μ
  refine k_iload cx dX8_running_7 rfl ?_
  refine k_iconst (v := (3 : Int32)) cx dX8_running_9 (by decide +kernel) ?_
  refine k_iload_n cx dX8_running_10 rfl rfl ?_
  refine k_imul cx dX8_running_11 ?_
  refine k_aload_n cx dX8_running_12 rfl rfl ?_
  refine k_get (o := some p_MO_lines) (v := .ref p_MO_lines) cx fl_X8_29 ob_MO rfl rfl dX8_running_13 ?_
  refine k_iload_n cx dX8_running_16 rfl rfl ?_
  obtain ⟨hi, h⟩ := h
  refine k_iald cx ar_MO_lines hi dX8_running_17 ?_
  refine k_iadd cx dX8_running_18 ?_
  refine k_icmp_ge (tgt := 46) cx dX8_running_19 (by decide) (fun hc => ?_) (fun hc => ?_)
  · replace h := h.1 hc
    refine k_iload_n cx dX8_running_46 rfl rfl ?_
    exact k_ret_I cx hr hl hQ dX8_running_47 h
  · replace h := h.2 hc
    refine k_iload_n cx dX8_running_22 rfl rfl ?_
    refine k_aload_n cx dX8_running_23 rfl rfl ?_
    refine k_iload cx dX8_running_24 rfl ?_
    refine k_callV (As := [.int x4]) (rest := [.int x3]) cx (m_X8_runs h) cv_X8_250 ob_MO rfl rfl rfl rfl (Nat.le_of_ble_eq_true rfl) ⟨Nat.le_of_ble_eq_true rfl, Nat.le_of_ble_eq_true rfl⟩ dX8_running_26 (fun v μ1 hq => ?_)
    obtain ⟨z2, rfl, h⟩ := hq
    refine k_iload_n cx dX8_running_29 rfl rfl ?_
    refine k_icmp_ne (tgt := 37) cx dX8_running_30 (by decide) (fun hc => ?_) (fun hc => ?_)
    · replace h := h.1 hc
      refine k_iconst (v := (0 : Int32)) cx dX8_running_37 (by decide +kernel) ?_
      refine k_iadd cx dX8_running_38 ?_
      refine k_istore_n cx dX8_running_39 rfl (by decide) ?_
      refine k_iinc (v := (x4 + (1 : Int32))) cx dX8_running_40 rfl rfl (by decide) ?_
      refine k_goto (tgt := 7) cx dX8_running_43 (by decide) ?_
      exact k_weak h (lsLe.keep (lsLe.keep (lsLe.keep (lsLe.keep (lsLe.keep lsLe.nil)))))
    · replace h := h.2 hc
      refine k_iconst (v := (1 : Int32)) cx dX8_running_33 (by decide +kernel) ?_
      refine k_goto (tgt := 38) cx dX8_running_34 (by decide) ?_
      refine k_iadd cx dX8_running_38 ?_
      refine k_istore_n cx dX8_running_39 rfl (by decide) ?_
      refine k_iinc (v := (x4 + (1 : Int32))) cx dX8_running_40 rfl rfl (by decide) ?_
      refine k_goto (tgt := 7) cx dX8_running_43 (by decide) ?_
      exact k_weak h (lsLe.keep (lsLe.keep (lsLe.keep (lsLe.keep (lsLe.keep lsLe.nil)))))
set_option maxHeartbeats 2000000 in
theorem b_X8_running_e  {g : GE} {f : FE} {q : Int32 → Mm → Prop} (cx : Cx g f cX8_running 5 RX8 3 65 0 0) (hr : (f_M f).sig.returnType = (some .int)) (hl : (f_M f).locks = false) (hQ : f_Q f = MQ (f_b f) (QW g (qI q)) (f_a f) (f_s f) 0 0 (fun q => g.2.2.2 ≤ q))  {x1 : Int32} {x2 : Int32} {μ : Mm} (h : F_X8_running_e  (KK_X8_running_7 g f ) q x1 x2 μ) : KW g f 5 0 0 0 [some (.ref p_MO), some (.int x1), some (.int x2), none, none] [] μ := by
  unfold F_X8_running_e at h
  refine k_iconst (v := (0 : Int32)) cx dX8_running_0 (by decide +kernel) ?_
  refine k_istore_n cx dX8_running_1 rfl (by decide) ?_
  refine k_iconst (v := (3 : Int32)) cx dX8_running_2 (by decide +kernel) ?_
  refine k_iload_n cx dX8_running_3 rfl rfl ?_
  refine k_imul cx dX8_running_4 ?_
  refine k_istore cx dX8_running_5 (by decide) ?_
  exact k_weak h (lsLe.keep (lsLe.keep (lsLe.keep (lsLe.keep (lsLe.keep lsLe.nil)))))
theorem m_X8_running {g : GE} {l : Launch} {μ : Mm} {q : Int32 → Mm → Prop} {x1 : Int32} {x2 : Int32}  (h : Wp_X8_running  x1 x2 μ q) : MW g l yX8_running cX8_running 5 (some .int) 3 65 [.ref p_MO, .int x1, .int x2] μ (qI q) := by
  refine met_of (by decide) (Nat.le_of_ble_eq_true rfl) (by intro v hv; simp only [List.mem_cons, List.not_mem_nil, or_false] at hv; rcases hv with rfl | rfl | rfl <;> rfl) ?_
  intro f hfl cx hr hl hQ
  exact b_X8_running_e  cx hr hl hQ (h (KK_X8_running_7 g f ) (fun _ _ _ _ _ h => b_X8_running_7  cx hr hl hQ h))
theorem dX8_fail_0 : decode cX8_fail 0 = .ok (.aload_n 0, 1) := by decide +kernel
theorem dX8_fail_1 : decode cX8_fail 1 = .ok (.aload_n 0, 1) := by decide +kernel
theorem dX8_fail_2 : decode cX8_fail 2 = .ok (.iload_n 1, 1) := by decide +kernel
theorem dX8_fail_3 : decode cX8_fail 3 = .ok (.invokevirtual 253, 3) := by decide +kernel
theorem dX8_fail_6 : decode cX8_fail 6 = .ok (.ifCond .eq 7, 3) := by decide +kernel
theorem dX8_fail_9 : decode cX8_fail 9 = .ok (.iconst 0, 1) := by decide +kernel
theorem dX8_fail_10 : decode cX8_fail 10 = .ok (.goto 4, 3) := by decide +kernel
theorem dX8_fail_13 : decode cX8_fail 13 = .ok (.iconst 1, 1) := by decide +kernel
theorem dX8_fail_14 : decode cX8_fail 14 = .ok (.invokevirtual 121, 3) := by decide +kernel
theorem dX8_fail_17 : decode cX8_fail 17 = .ok (.ifCond .ne 5, 3) := by decide +kernel
theorem dX8_fail_20 : decode cX8_fail 20 = .ok (.iconst 0, 1) := by decide +kernel
theorem dX8_fail_21 : decode cX8_fail 21 = .ok (.ireturn, 1) := by decide +kernel
theorem dX8_fail_22 : decode cX8_fail 22 = .ok (.aload_n 0, 1) := by decide +kernel
theorem dX8_fail_23 : decode cX8_fail 23 = .ok (.getfield 22, 3) := by decide +kernel
theorem dX8_fail_26 : decode cX8_fail 26 = .ok (.iload_n 1, 1) := by decide +kernel
theorem dX8_fail_27 : decode cX8_fail 27 = .ok (.iload_n 2, 1) := by decide +kernel
theorem dX8_fail_28 : decode cX8_fail 28 = .ok (.bastore, 1) := by decide +kernel
theorem dX8_fail_29 : decode cX8_fail 29 = .ok (.iconst 0, 1) := by decide +kernel
theorem dX8_fail_30 : decode cX8_fail 30 = .ok (.istore_n 3, 1) := by decide +kernel
theorem dX8_fail_31 : decode cX8_fail 31 = .ok (.iconst 0, 1) := by decide +kernel
theorem dX8_fail_32 : decode cX8_fail 32 = .ok (.istore 4, 2) := by decide +kernel
theorem dX8_fail_34 : decode cX8_fail 34 = .ok (.iload 4, 2) := by decide +kernel
theorem dX8_fail_36 : decode cX8_fail 36 = .ok (.aload_n 0, 1) := by decide +kernel
theorem dX8_fail_37 : decode cX8_fail 37 = .ok (.getfield 118, 3) := by decide +kernel
theorem dX8_fail_40 : decode cX8_fail 40 = .ok (.if_icmp .ge 37, 3) := by decide +kernel
theorem dX8_fail_43 : decode cX8_fail 43 = .ok (.iload_n 3, 1) := by decide +kernel
theorem dX8_fail_44 : decode cX8_fail 44 = .ok (.aload_n 0, 1) := by decide +kernel
theorem dX8_fail_45 : decode cX8_fail 45 = .ok (.getfield 62, 3) := by decide +kernel
theorem dX8_fail_48 : decode cX8_fail 48 = .ok (.iload 4, 2) := by decide +kernel
theorem dX8_fail_50 : decode cX8_fail 50 = .ok (.baload, 1) := by decide +kernel
theorem dX8_fail_51 : decode cX8_fail 51 = .ok (.ifCond .ne 17, 3) := by decide +kernel
theorem dX8_fail_54 : decode cX8_fail 54 = .ok (.aload_n 0, 1) := by decide +kernel
theorem dX8_fail_55 : decode cX8_fail 55 = .ok (.iload 4, 2) := by decide +kernel
theorem dX8_fail_57 : decode cX8_fail 57 = .ok (.iconst 2, 1) := by decide +kernel
theorem dX8_fail_58 : decode cX8_fail 58 = .ok (.invokevirtual 256, 3) := by decide +kernel
theorem dX8_fail_61 : decode cX8_fail 61 = .ok (.ifCond .le 7, 3) := by decide +kernel
theorem dX8_fail_64 : decode cX8_fail 64 = .ok (.iconst 1, 1) := by decide +kernel
theorem dX8_fail_65 : decode cX8_fail 65 = .ok (.goto 4, 3) := by decide +kernel
theorem dX8_fail_68 : decode cX8_fail 68 = .ok (.iconst 0, 1) := by decide +kernel
theorem dX8_fail_69 : decode cX8_fail 69 = .ok (.iadd, 1) := by decide +kernel
theorem dX8_fail_70 : decode cX8_fail 70 = .ok (.istore_n 3, 1) := by decide +kernel
theorem dX8_fail_71 : decode cX8_fail 71 = .ok (.iinc 4 1, 3) := by decide +kernel
theorem dX8_fail_74 : decode cX8_fail 74 = .ok (.goto (-40), 3) := by decide +kernel
theorem dX8_fail_77 : decode cX8_fail 77 = .ok (.iload_n 3, 1) := by decide +kernel
theorem dX8_fail_78 : decode cX8_fail 78 = .ok (.ireturn, 1) := by decide +kernel
def F_X8_fail_14  (K14 : Int32 → Int32 → Int32 → Mm → Prop) (K34 : Int32 → Int32 → Mm → Prop) (q : Int32 → Mm → Prop) (x1 : Int32) (x2 : Int32) (y0 : Int32) (μ : Mm) : Prop :=
  Wp_X8_can y0 μ (fun b2 μ1 => ((¬ ((bI b2) = 0) → vp_in x1 9 ∧ K34 (0 : Int32) (0 : Int32) (up2 μ1 p_MO_hasFailed (x1).toNatClampNeg (vp_nar .boolean x2))) ∧ ((bI b2) = 0 → q (0 : Int32) μ1)))
def F_X8_fail_34  (K14 : Int32 → Int32 → Int32 → Mm → Prop) (K34 : Int32 → Int32 → Mm → Prop) (q : Int32 → Mm → Prop) (x3 : Int32) (x4 : Int32) (μ : Mm) : Prop :=
  (((μ p_MO 8) ≤ x4 → q x3 μ) ∧ (¬ ((μ p_MO 8) ≤ x4) → vp_in x4 13 ∧ ((¬ ((μ p_MO_hasEnded (x4).toNatClampNeg) = 0) → K34 (x3 + (0 : Int32)) (x4 + (1 : Int32)) μ) ∧ ((μ p_MO_hasEnded (x4).toNatClampNeg) = 0 → Wp_X8_running x4 (2 : Int32) μ (fun z2 μ1 => ((z2 ≤ 0 → K34 (x3 + (0 : Int32)) (x4 + (1 : Int32)) μ1) ∧ (¬ (z2 ≤ 0) → K34 (x3 + (1 : Int32)) (x4 + (1 : Int32)) μ1)))))))
def F_X8_fail_e  (K14 : Int32 → Int32 → Int32 → Mm → Prop) (K34 : Int32 → Int32 → Mm → Prop) (q : Int32 → Mm → Prop) (x1 : Int32) (x2 : Int32) (μ : Mm) : Prop :=
  Wp_X8_isLink x1 μ (fun b2 μ1 => (((bI b2) = 0 → K14 x1 x2 (1 : Int32) μ1) ∧ (¬ ((bI b2) = 0) → K14 x1 x2 (0 : Int32) μ1)))
def Wp_X8_fail  (x1 : Int32) (x2 : Int32) (μ : Mm) (q : Int32 → Mm → Prop) : Prop := ∀ (K14 : Int32 → Int32 → Int32 → Mm → Prop) (K34 : Int32 → Int32 → Mm → Prop), (∀ (x1 : Int32) (x2 : Int32) (y0 : Int32) (μ : Mm), F_X8_fail_14  K14 K34 q x1 x2 y0 μ → K14 x1 x2 y0 μ) → (∀ (x3 : Int32) (x4 : Int32) (μ : Mm), F_X8_fail_34  K14 K34 q x3 x4 μ → K34 x3 x4 μ) → F_X8_fail_e  K14 K34 q x1 x2 μ
abbrev KK_X8_fail_14 (g : GE) (f : FE)  : Int32 → Int32 → Int32 → Mm → Prop := fun x1 x2 y0 μ => KW g f 5 0 0 14 [some (.ref p_MO), some (.int x1), some (.int x2), none, none] [.int y0, .ref p_MO] μ
abbrev KK_X8_fail_34 (g : GE) (f : FE)  : Int32 → Int32 → Mm → Prop := fun x3 x4 μ => KW g f 5 0 0 34 [some (.ref p_MO), none, none, some (.int x3), some (.int x4)] [] μ
set_option maxHeartbeats 2000000 in
theorem b_X8_fail_14  {g : GE} {f : FE} {q : Int32 → Mm → Prop} (cx : Cx g f cX8_fail 5 RX8 4 89 0 0) (hr : (f_M f).sig.returnType = (some .int)) (hl : (f_M f).locks = false) (hQ : f_Q f = MQ (f_b f) (QW g (qI q)) (f_a f) (f_s f) 0 0 (fun q => g.2.2.2 ≤ q))  {x1 : Int32} {x2 : Int32} {y0 : Int32} {μ : Mm} (h : F_X8_fail_14  (KK_X8_fail_14 g f ) (KK_X8_fail_34 g f ) q x1 x2 y0 μ) : KK_X8_fail_14 g f  x1 x2 y0 μ := by
  unfold F_X8_fail_14 at h
  show KW g f 5 0 0 14 [some (.ref p_MO), some (.int x1), some (.int x2), none, none] [.int y0, .ref p_MO] μ
  refine k_callV (As := [.int y0]) (rest := []) cx (m_X8_can h) cv_X8_121 ob_MO rfl rfl rfl rfl (Nat.le_of_ble_eq_true rfl) ⟨Nat.le_of_ble_eq_true rfl, Nat.le_of_ble_eq_true rfl⟩ dX8_fail_14 (fun v μ1 hq => ?_)
  obtain ⟨b2, rfl, h⟩ := hq
  refine k_if_ne (tgt := 22) cx dX8_fail_17 (by decide) (fun hc => ?_) (fun hc => ?_)
  · replace h := h.1 hc
    refine k_aload_n cx dX8_fail_22 rfl rfl ?_
    refine k_get (o := some p_MO_hasFailed) (v := .ref p_MO_hasFailed) cx fl_X8_22 ob_MO rfl rfl dX8_fail_23 ?_
    refine k_iload_n cx dX8_fail_26 rfl rfl ?_
    refine k_iload_n cx dX8_fail_27 rfl rfl ?_
    obtain ⟨hi, h⟩ := h
    refine k_zast cx ar_MO_hasFailed hi dX8_fail_28 ?_
    refine k_iconst (v := (0 : Int32)) cx dX8_fail_29 (by decide +kernel) ?_
    refine k_istore_n cx dX8_fail_30 rfl (by decide) ?_
    refine k_iconst (v := (0 : Int32)) cx dX8_fail_31 (by decide +kernel) ?_
    refine k_istore cx dX8_fail_32 (by decide) ?_
    exact k_weak h (lsLe.keep (lsLe.drop (lsLe.drop (lsLe.keep (lsLe.keep lsLe.nil)))))
  · replace h := h.2 hc
    refine k_iconst (v := (0 : Int32)) cx dX8_fail_20 (by decide +kernel) ?_
    exact k_ret_I cx hr hl hQ dX8_fail_21 h
set_option maxHeartbeats 2000000 in
theorem b_X8_fail_34  {g : GE} {f : FE} {q : Int32 → Mm → Prop} (cx : Cx g f cX8_fail 5 RX8 4 89 0 0) (hr : (f_M f).sig.returnType = (some .int)) (hl : (f_M f).locks = false) (hQ : f_Q f = MQ (f_b f) (QW g (qI q)) (f_a f) (f_s f) 0 0 (fun q => g.2.2.2 ≤ q))  {x3 : Int32} {x4 : Int32} {μ : Mm} (h : F_X8_fail_34  (KK_X8_fail_14 g f ) (KK_X8_fail_34 g f ) q x3 x4 μ) : KK_X8_fail_34 g f  x3 x4 μ := by
  unfold F_X8_fail_34 at h
  show KW g f 5 0 0 34 [some (.ref p_MO), none, none, some (.int x3), some (.int x4)] [] μ
  refine k_iload cx dX8_fail_34 rfl ?_
  refine k_aload_n cx dX8_fail_36 rfl rfl ?_
  refine k_get (o := none) (v := .int (μ p_MO 8)) cx fl_X8_118 ob_MO rfl rfl dX8_fail_37 ?_
  refine k_icmp_ge (tgt := 77) cx dX8_fail_40 (by decide) (fun hc => ?_) (fun hc => ?_)
  · replace h := h.1 hc
    refine k_iload_n cx dX8_fail_77 rfl rfl ?_
    exact k_ret_I cx hr hl hQ dX8_fail_78 h
  · replace h := h.2 hc
    refine k_iload_n cx dX8_fail_43 rfl rfl ?_
    refine k_aload_n cx dX8_fail_44 rfl rfl ?_
    refine k_get (o := some p_MO_hasEnded) (v := .ref p_MO_hasEnded) cx fl_X8_62 ob_MO rfl rfl dX8_fail_45 ?_
    refine k_iload cx dX8_fail_48 rfl ?_
    obtain ⟨hi, h⟩ := h
    refine k_zald cx ar_MO_hasEnded hi dX8_fail_50 ?_
    refine k_if_ne (tgt := 68) cx dX8_fail_51 (by decide) (fun hc => ?_) (fun hc => ?_)
    · replace h := h.1 hc
      refine k_iconst (v := (0 : Int32)) cx dX8_fail_68 (by decide +kernel) ?_
      refine k_iadd cx dX8_fail_69 ?_
      refine k_istore_n cx dX8_fail_70 rfl (by decide) ?_
      refine k_iinc (v := (x4 + (1 : Int32))) cx dX8_fail_71 rfl rfl (by decide) ?_
      refine k_goto (tgt := 34) cx dX8_fail_74 (by decide) ?_
      exact k_weak h (lsLe.keep (lsLe.keep (lsLe.keep (lsLe.keep (lsLe.keep lsLe.nil)))))
    · replace h := h.2 hc
      refine k_aload_n cx dX8_fail_54 rfl rfl ?_
      refine k_iload cx dX8_fail_55 rfl ?_
      refine k_iconst (v := (2 : Int32)) cx dX8_fail_57 (by decide +kernel) ?_
      refine k_callV (As := [.int x4, .int (2 : Int32)]) (rest := [.int x3]) cx (m_X8_running h) cv_X8_256 ob_MO rfl rfl rfl rfl (Nat.le_of_ble_eq_true rfl) ⟨Nat.le_of_ble_eq_true rfl, Nat.le_of_ble_eq_true rfl⟩ dX8_fail_58 (fun v μ1 hq => ?_)
      obtain ⟨z2, rfl, h⟩ := hq
      refine k_if_le (tgt := 68) cx dX8_fail_61 (by decide) (fun hc => ?_) (fun hc => ?_)
      · replace h := h.1 hc
        refine k_iconst (v := (0 : Int32)) cx dX8_fail_68 (by decide +kernel) ?_
        refine k_iadd cx dX8_fail_69 ?_
        refine k_istore_n cx dX8_fail_70 rfl (by decide) ?_
        refine k_iinc (v := (x4 + (1 : Int32))) cx dX8_fail_71 rfl rfl (by decide) ?_
        refine k_goto (tgt := 34) cx dX8_fail_74 (by decide) ?_
        exact k_weak h (lsLe.keep (lsLe.keep (lsLe.keep (lsLe.keep (lsLe.keep lsLe.nil)))))
      · replace h := h.2 hc
        refine k_iconst (v := (1 : Int32)) cx dX8_fail_64 (by decide +kernel) ?_
        refine k_goto (tgt := 69) cx dX8_fail_65 (by decide) ?_
        refine k_iadd cx dX8_fail_69 ?_
        refine k_istore_n cx dX8_fail_70 rfl (by decide) ?_
        refine k_iinc (v := (x4 + (1 : Int32))) cx dX8_fail_71 rfl rfl (by decide) ?_
        refine k_goto (tgt := 34) cx dX8_fail_74 (by decide) ?_
        exact k_weak h (lsLe.keep (lsLe.keep (lsLe.keep (lsLe.keep (lsLe.keep lsLe.nil)))))
set_option maxHeartbeats 2000000 in
theorem b_X8_fail_e  {g : GE} {f : FE} {q : Int32 → Mm → Prop} (cx : Cx g f cX8_fail 5 RX8 4 89 0 0) (hr : (f_M f).sig.returnType = (some .int)) (hl : (f_M f).locks = false) (hQ : f_Q f = MQ (f_b f) (QW g (qI q)) (f_a f) (f_s f) 0 0 (fun q => g.2.2.2 ≤ q))  {x1 : Int32} {x2 : Int32} {μ : Mm} (h : F_X8_fail_e  (KK_X8_fail_14 g f ) (KK_X8_fail_34 g f ) q x1 x2 μ) : KW g f 5 0 0 0 [some (.ref p_MO), some (.int x1), some (.int x2), none, none] [] μ := by
  unfold F_X8_fail_e at h
  refine k_aload_n cx dX8_fail_0 rfl rfl ?_
  refine k_aload_n cx dX8_fail_1 rfl rfl ?_
  refine k_iload_n cx dX8_fail_2 rfl rfl ?_
  refine k_callV (As := [.int x1]) (rest := [.ref p_MO]) cx (m_X8_isLink h) cv_X8_253 ob_MO rfl rfl rfl rfl (Nat.le_of_ble_eq_true rfl) ⟨Nat.le_of_ble_eq_true rfl, Nat.le_of_ble_eq_true rfl⟩ dX8_fail_3 (fun v μ1 hq => ?_)
  obtain ⟨b2, rfl, h⟩ := hq
  refine k_if_eq (tgt := 13) cx dX8_fail_6 (by decide) (fun hc => ?_) (fun hc => ?_)
  · replace h := h.1 hc
    refine k_iconst (v := (1 : Int32)) cx dX8_fail_13 (by decide +kernel) ?_
    exact k_weak h (lsLe.keep (lsLe.keep (lsLe.keep (lsLe.keep (lsLe.keep lsLe.nil)))))
  · replace h := h.2 hc
    refine k_iconst (v := (0 : Int32)) cx dX8_fail_9 (by decide +kernel) ?_
    refine k_goto (tgt := 14) cx dX8_fail_10 (by decide) ?_
    exact k_weak h (lsLe.keep (lsLe.keep (lsLe.keep (lsLe.keep (lsLe.keep lsLe.nil)))))
theorem m_X8_fail {g : GE} {l : Launch} {μ : Mm} {q : Int32 → Mm → Prop} {x1 : Int32} {x2 : Int32}  (h : Wp_X8_fail  x1 x2 μ q) : MW g l yX8_fail cX8_fail 5 (some .int) 4 89 [.ref p_MO, .int x1, .int x2] μ (qI q) := by
  refine met_of (by decide) (Nat.le_of_ble_eq_true rfl) (by intro v hv; simp only [List.mem_cons, List.not_mem_nil, or_false] at hv; rcases hv with rfl | rfl | rfl <;> rfl) ?_
  intro f hfl cx hr hl hQ
  exact b_X8_fail_e  cx hr hl hQ (h (KK_X8_fail_14 g f ) (KK_X8_fail_34 g f ) (fun _ _ _ _ h => b_X8_fail_14  cx hr hl hQ h) (fun _ _ _ h => b_X8_fail_34  cx hr hl hQ h))
theorem dX8_fits_0 : decode cX8_fits 0 = .ok (.iconst 1, 1) := by decide +kernel
theorem dX8_fits_1 : decode cX8_fits 1 = .ok (.istore_n 3, 1) := by decide +kernel
theorem dX8_fits_2 : decode cX8_fits 2 = .ok (.iconst 0, 1) := by decide +kernel
theorem dX8_fits_3 : decode cX8_fits 3 = .ok (.istore 4, 2) := by decide +kernel
theorem dX8_fits_5 : decode cX8_fits 5 = .ok (.iload 4, 2) := by decide +kernel
theorem dX8_fits_7 : decode cX8_fits 7 = .ok (.aload_n 0, 1) := by decide +kernel
theorem dX8_fits_8 : decode cX8_fits 8 = .ok (.getfield 115, 3) := by decide +kernel
theorem dX8_fits_11 : decode cX8_fits 11 = .ok (.if_icmp .ge 39, 3) := by decide +kernel
theorem dX8_fits_14 : decode cX8_fits 14 = .ok (.iload_n 3, 1) := by decide +kernel
theorem dX8_fits_15 : decode cX8_fits 15 = .ok (.ifCond .eq 27, 3) := by decide +kernel
theorem dX8_fits_18 : decode cX8_fits 18 = .ok (.iload_n 1, 1) := by decide +kernel
theorem dX8_fits_19 : decode cX8_fits 19 = .ok (.iload 4, 2) := by decide +kernel
theorem dX8_fits_21 : decode cX8_fits 21 = .ok (.invokestatic 136, 3) := by decide +kernel
theorem dX8_fits_24 : decode cX8_fits 24 = .ok (.ifCond .eq 14, 3) := by decide +kernel
theorem dX8_fits_27 : decode cX8_fits 27 = .ok (.aload_n 0, 1) := by decide +kernel
theorem dX8_fits_28 : decode cX8_fits 28 = .ok (.getfield 74, 3) := by decide +kernel
theorem dX8_fits_31 : decode cX8_fits 31 = .ok (.iload 4, 2) := by decide +kernel
theorem dX8_fits_33 : decode cX8_fits 33 = .ok (.iaload, 1) := by decide +kernel
theorem dX8_fits_34 : decode cX8_fits 34 = .ok (.iload_n 2, 1) := by decide +kernel
theorem dX8_fits_35 : decode cX8_fits 35 = .ok (.if_icmp .lt 7, 3) := by decide +kernel
theorem dX8_fits_38 : decode cX8_fits 38 = .ok (.iconst 1, 1) := by decide +kernel
theorem dX8_fits_39 : decode cX8_fits 39 = .ok (.goto 4, 3) := by decide +kernel
theorem dX8_fits_42 : decode cX8_fits 42 = .ok (.iconst 0, 1) := by decide +kernel
theorem dX8_fits_43 : decode cX8_fits 43 = .ok (.istore_n 3, 1) := by decide +kernel
theorem dX8_fits_44 : decode cX8_fits 44 = .ok (.iinc 4 1, 3) := by decide +kernel
theorem dX8_fits_47 : decode cX8_fits 47 = .ok (.goto (-42), 3) := by decide +kernel
theorem dX8_fits_50 : decode cX8_fits 50 = .ok (.iload_n 3, 1) := by decide +kernel
theorem dX8_fits_51 : decode cX8_fits 51 = .ok (.ireturn, 1) := by decide +kernel
def F_X8_fits_5  (K5 : Int32 → Int32 → Int32 → Int32 → Mm → Prop) (q : Bool → Mm → Prop) (x1 : Int32) (x2 : Int32) (x3 : Int32) (x4 : Int32) (μ : Mm) : Prop :=
  (((μ p_MO 3) ≤ x4 → ∃ b : Bool, x3 = bI b ∧ q b μ) ∧ (¬ ((μ p_MO 3) ≤ x4) → ((x3 = 0 → K5 x1 x2 (0 : Int32) (x4 + (1 : Int32)) μ) ∧ (¬ (x3 = 0) → Wp_X8_has x1 x4 μ (fun b2 μ1 => (((bI b2) = 0 → K5 x1 x2 (1 : Int32) (x4 + (1 : Int32)) μ1) ∧ (¬ ((bI b2) = 0) → vp_in x4 9 ∧ (((μ1 p_MO_free (x4).toNatClampNeg) < x2 → K5 x1 x2 (0 : Int32) (x4 + (1 : Int32)) μ1) ∧ (¬ ((μ1 p_MO_free (x4).toNatClampNeg) < x2) → K5 x1 x2 (1 : Int32) (x4 + (1 : Int32)) μ1)))))))))
def F_X8_fits_e  (K5 : Int32 → Int32 → Int32 → Int32 → Mm → Prop) (q : Bool → Mm → Prop) (x1 : Int32) (x2 : Int32) (μ : Mm) : Prop :=
  K5 x1 x2 (1 : Int32) (0 : Int32) μ
def Wp_X8_fits  (x1 : Int32) (x2 : Int32) (μ : Mm) (q : Bool → Mm → Prop) : Prop := ∀ (K5 : Int32 → Int32 → Int32 → Int32 → Mm → Prop), (∀ (x1 : Int32) (x2 : Int32) (x3 : Int32) (x4 : Int32) (μ : Mm), F_X8_fits_5  K5 q x1 x2 x3 x4 μ → K5 x1 x2 x3 x4 μ) → F_X8_fits_e  K5 q x1 x2 μ
abbrev KK_X8_fits_5 (g : GE) (f : FE)  : Int32 → Int32 → Int32 → Int32 → Mm → Prop := fun x1 x2 x3 x4 μ => KW g f 5 0 0 5 [some (.ref p_MO), some (.int x1), some (.int x2), some (.int x3), some (.int x4)] [] μ
set_option maxHeartbeats 2000000 in
theorem b_X8_fits_5  {g : GE} {f : FE} {q : Bool → Mm → Prop} (cx : Cx g f cX8_fits 5 RX8 1 21 0 0) (hr : (f_M f).sig.returnType = (some .boolean)) (hl : (f_M f).locks = false) (hQ : f_Q f = MQ (f_b f) (QW g (qZ q)) (f_a f) (f_s f) 0 0 (fun q => g.2.2.2 ≤ q))  {x1 : Int32} {x2 : Int32} {x3 : Int32} {x4 : Int32} {μ : Mm} (h : F_X8_fits_5  (KK_X8_fits_5 g f ) q x1 x2 x3 x4 μ) : KK_X8_fits_5 g f  x1 x2 x3 x4 μ := by
  unfold F_X8_fits_5 at h
  show KW g f 5 0 0 5 [some (.ref p_MO), some (.int x1), some (.int x2), some (.int x3), some (.int x4)] [] μ
  refine k_iload cx dX8_fits_5 rfl ?_
  refine k_aload_n cx dX8_fits_7 rfl rfl ?_
  refine k_get (o := none) (v := .int (μ p_MO 3)) cx fl_X8_115 ob_MO rfl rfl dX8_fits_8 ?_
  refine k_icmp_ge (tgt := 50) cx dX8_fits_11 (by decide) (fun hc => ?_) (fun hc => ?_)
  · replace h := h.1 hc
    refine k_iload_n cx dX8_fits_50 rfl rfl ?_
    obtain ⟨b, hb, h⟩ := h
    exact k_ret_Z (b := b) cx hr hl hQ dX8_fits_51 hb h
  · replace h := h.2 hc
    refine k_iload_n cx dX8_fits_14 rfl rfl ?_
    refine k_if_eq (tgt := 42) cx dX8_fits_15 (by decide) (fun hc => ?_) (fun hc => ?_)
    · replace h := h.1 hc
      refine k_iconst (v := (0 : Int32)) cx dX8_fits_42 (by decide +kernel) ?_
      refine k_istore_n cx dX8_fits_43 rfl (by decide) ?_
      refine k_iinc (v := (x4 + (1 : Int32))) cx dX8_fits_44 rfl rfl (by decide) ?_
      refine k_goto (tgt := 5) cx dX8_fits_47 (by decide) ?_
      exact k_weak h (lsLe.keep (lsLe.keep (lsLe.keep (lsLe.keep (lsLe.keep lsLe.nil)))))
    · replace h := h.2 hc
      refine k_iload_n cx dX8_fits_18 rfl rfl ?_
      refine k_iload cx dX8_fits_19 rfl ?_
      refine k_callS (As := [.int x1, .int x4]) (rest := []) cx (m_X8_has h) cv_X8_136 rfl rfl (Nat.le_of_ble_eq_true rfl) ⟨Nat.le_of_ble_eq_true rfl, Nat.le_of_ble_eq_true rfl⟩ dX8_fits_21 (fun v μ1 hq => ?_)
      obtain ⟨b2, rfl, h⟩ := hq
      refine k_if_eq (tgt := 38) cx dX8_fits_24 (by decide) (fun hc => ?_) (fun hc => ?_)
      · replace h := h.1 hc
        refine k_iconst (v := (1 : Int32)) cx dX8_fits_38 (by decide +kernel) ?_
        refine k_goto (tgt := 43) cx dX8_fits_39 (by decide) ?_
        refine k_istore_n cx dX8_fits_43 rfl (by decide) ?_
        refine k_iinc (v := (x4 + (1 : Int32))) cx dX8_fits_44 rfl rfl (by decide) ?_
        refine k_goto (tgt := 5) cx dX8_fits_47 (by decide) ?_
        exact k_weak h (lsLe.keep (lsLe.keep (lsLe.keep (lsLe.keep (lsLe.keep lsLe.nil)))))
      · replace h := h.2 hc
        refine k_aload_n cx dX8_fits_27 rfl rfl ?_
        refine k_get (o := some p_MO_free) (v := .ref p_MO_free) cx fl_X8_74 ob_MO rfl rfl dX8_fits_28 ?_
        refine k_iload cx dX8_fits_31 rfl ?_
        obtain ⟨hi, h⟩ := h
        refine k_iald cx ar_MO_free hi dX8_fits_33 ?_
        refine k_iload_n cx dX8_fits_34 rfl rfl ?_
        refine k_icmp_lt (tgt := 42) cx dX8_fits_35 (by decide) (fun hc => ?_) (fun hc => ?_)
        · replace h := h.1 hc
          refine k_iconst (v := (0 : Int32)) cx dX8_fits_42 (by decide +kernel) ?_
          refine k_istore_n cx dX8_fits_43 rfl (by decide) ?_
          refine k_iinc (v := (x4 + (1 : Int32))) cx dX8_fits_44 rfl rfl (by decide) ?_
          refine k_goto (tgt := 5) cx dX8_fits_47 (by decide) ?_
          exact k_weak h (lsLe.keep (lsLe.keep (lsLe.keep (lsLe.keep (lsLe.keep lsLe.nil)))))
        · replace h := h.2 hc
          refine k_iconst (v := (1 : Int32)) cx dX8_fits_38 (by decide +kernel) ?_
          refine k_goto (tgt := 43) cx dX8_fits_39 (by decide) ?_
          refine k_istore_n cx dX8_fits_43 rfl (by decide) ?_
          refine k_iinc (v := (x4 + (1 : Int32))) cx dX8_fits_44 rfl rfl (by decide) ?_
          refine k_goto (tgt := 5) cx dX8_fits_47 (by decide) ?_
          exact k_weak h (lsLe.keep (lsLe.keep (lsLe.keep (lsLe.keep (lsLe.keep lsLe.nil)))))
set_option maxHeartbeats 2000000 in
theorem b_X8_fits_e  {g : GE} {f : FE} {q : Bool → Mm → Prop} (cx : Cx g f cX8_fits 5 RX8 1 21 0 0) (hr : (f_M f).sig.returnType = (some .boolean)) (hl : (f_M f).locks = false) (hQ : f_Q f = MQ (f_b f) (QW g (qZ q)) (f_a f) (f_s f) 0 0 (fun q => g.2.2.2 ≤ q))  {x1 : Int32} {x2 : Int32} {μ : Mm} (h : F_X8_fits_e  (KK_X8_fits_5 g f ) q x1 x2 μ) : KW g f 5 0 0 0 [some (.ref p_MO), some (.int x1), some (.int x2), none, none] [] μ := by
  unfold F_X8_fits_e at h
  refine k_iconst (v := (1 : Int32)) cx dX8_fits_0 (by decide +kernel) ?_
  refine k_istore_n cx dX8_fits_1 rfl (by decide) ?_
  refine k_iconst (v := (0 : Int32)) cx dX8_fits_2 (by decide +kernel) ?_
  refine k_istore cx dX8_fits_3 (by decide) ?_
  exact k_weak h (lsLe.keep (lsLe.keep (lsLe.keep (lsLe.keep (lsLe.keep lsLe.nil)))))
theorem m_X8_fits {g : GE} {l : Launch} {μ : Mm} {q : Bool → Mm → Prop} {x1 : Int32} {x2 : Int32}  (h : Wp_X8_fits  x1 x2 μ q) : MW g l yX8_fits cX8_fits 5 (some .boolean) 1 21 [.ref p_MO, .int x1, .int x2] μ (qZ q) := by
  refine met_of (by decide) (Nat.le_of_ble_eq_true rfl) (by intro v hv; simp only [List.mem_cons, List.not_mem_nil, or_false] at hv; rcases hv with rfl | rfl | rfl <;> rfl) ?_
  intro f hfl cx hr hl hQ
  exact b_X8_fits_e  cx hr hl hQ (h (KK_X8_fits_5 g f ) (fun _ _ _ _ _ h => b_X8_fits_5  cx hr hl hQ h))
theorem dX8_fewest_0 : decode cX8_fewest 0 = .ok (.iconst 0, 1) := by decide +kernel
theorem dX8_fewest_1 : decode cX8_fewest 1 = .ok (.istore_n 3, 1) := by decide +kernel
theorem dX8_fewest_2 : decode cX8_fewest 2 = .ok (.iconst 0, 1) := by decide +kernel
theorem dX8_fewest_3 : decode cX8_fewest 3 = .ok (.istore 4, 2) := by decide +kernel
theorem dX8_fewest_5 : decode cX8_fewest 5 = .ok (.iload 4, 2) := by decide +kernel
theorem dX8_fewest_7 : decode cX8_fewest 7 = .ok (.aload_n 0, 1) := by decide +kernel
theorem dX8_fewest_8 : decode cX8_fewest 8 = .ok (.getfield 80, 3) := by decide +kernel
theorem dX8_fewest_11 : decode cX8_fewest 11 = .ok (.iload_n 1, 1) := by decide +kernel
theorem dX8_fewest_12 : decode cX8_fewest 12 = .ok (.iaload, 1) := by decide +kernel
theorem dX8_fewest_13 : decode cX8_fewest 13 = .ok (.if_icmp .ge 56, 3) := by decide +kernel
theorem dX8_fewest_16 : decode cX8_fewest 16 = .ok (.aload_n 0, 1) := by decide +kernel
theorem dX8_fewest_17 : decode cX8_fewest 17 = .ok (.getfield 77, 3) := by decide +kernel
theorem dX8_fewest_20 : decode cX8_fewest 20 = .ok (.bipush 64, 2) := by decide +kernel
theorem dX8_fewest_22 : decode cX8_fewest 22 = .ok (.iload_n 1, 1) := by decide +kernel
theorem dX8_fewest_23 : decode cX8_fewest 23 = .ok (.imul, 1) := by decide +kernel
theorem dX8_fewest_24 : decode cX8_fewest 24 = .ok (.iload 4, 2) := by decide +kernel
theorem dX8_fewest_26 : decode cX8_fewest 26 = .ok (.iadd, 1) := by decide +kernel
theorem dX8_fewest_27 : decode cX8_fewest 27 = .ok (.iaload, 1) := by decide +kernel
theorem dX8_fewest_28 : decode cX8_fewest 28 = .ok (.istore 5, 2) := by decide +kernel
theorem dX8_fewest_30 : decode cX8_fewest 30 = .ok (.aload_n 0, 1) := by decide +kernel
theorem dX8_fewest_31 : decode cX8_fewest 31 = .ok (.iload 5, 2) := by decide +kernel
theorem dX8_fewest_33 : decode cX8_fewest 33 = .ok (.iload_n 2, 1) := by decide +kernel
theorem dX8_fewest_34 : decode cX8_fewest 34 = .ok (.invokevirtual 173, 3) := by decide +kernel
theorem dX8_fewest_37 : decode cX8_fewest 37 = .ok (.ifCond .eq 24, 3) := by decide +kernel
theorem dX8_fewest_40 : decode cX8_fewest 40 = .ok (.iload_n 3, 1) := by decide +kernel
theorem dX8_fewest_41 : decode cX8_fewest 41 = .ok (.ifCond .eq 15, 3) := by decide +kernel
theorem dX8_fewest_44 : decode cX8_fewest 44 = .ok (.iload 5, 2) := by decide +kernel
theorem dX8_fewest_46 : decode cX8_fewest 46 = .ok (.invokestatic 167, 3) := by decide +kernel
theorem dX8_fewest_49 : decode cX8_fewest 49 = .ok (.iload_n 3, 1) := by decide +kernel
theorem dX8_fewest_50 : decode cX8_fewest 50 = .ok (.invokestatic 167, 3) := by decide +kernel
theorem dX8_fewest_53 : decode cX8_fewest 53 = .ok (.if_icmp .ge 8, 3) := by decide +kernel
theorem dX8_fewest_56 : decode cX8_fewest 56 = .ok (.iload 5, 2) := by decide +kernel
theorem dX8_fewest_58 : decode cX8_fewest 58 = .ok (.goto 4, 3) := by decide +kernel
theorem dX8_fewest_61 : decode cX8_fewest 61 = .ok (.iload_n 3, 1) := by decide +kernel
theorem dX8_fewest_62 : decode cX8_fewest 62 = .ok (.istore_n 3, 1) := by decide +kernel
theorem dX8_fewest_63 : decode cX8_fewest 63 = .ok (.iinc 4 1, 3) := by decide +kernel
theorem dX8_fewest_66 : decode cX8_fewest 66 = .ok (.goto (-61), 3) := by decide +kernel
theorem dX8_fewest_69 : decode cX8_fewest 69 = .ok (.iload_n 3, 1) := by decide +kernel
theorem dX8_fewest_70 : decode cX8_fewest 70 = .ok (.ireturn, 1) := by decide +kernel
def F_X8_fewest_5  (K5 : Int32 → Int32 → Int32 → Int32 → Mm → Prop) (q : Int32 → Mm → Prop) (x1 : Int32) (x2 : Int32) (x3 : Int32) (x4 : Int32) (μ : Mm) : Prop :=
  vp_in x1 3 ∧ (((μ p_MO_many (x1).toNatClampNeg) ≤ x4 → q x3 μ) ∧ (¬ ((μ p_MO_many (x1).toNatClampNeg) ≤ x4) → vp_in (((64 : Int32) * x1) + x4) 192 ∧ Wp_X8_fits (μ p_MO_found ((((64 : Int32) * x1) + x4)).toNatClampNeg) x2 μ (fun b2 μ1 => (((bI b2) = 0 → K5 x1 x2 x3 (x4 + (1 : Int32)) μ1) ∧ (¬ ((bI b2) = 0) → ((x3 = 0 → K5 x1 x2 (μ p_MO_found ((((64 : Int32) * x1) + x4)).toNatClampNeg) (x4 + (1 : Int32)) μ1) ∧ (¬ (x3 = 0) → Wp_X8_bits (μ p_MO_found ((((64 : Int32) * x1) + x4)).toNatClampNeg) μ1 (fun z4 μ3 => Wp_X8_bits x3 μ3 (fun z6 μ5 => ((z6 ≤ z4 → K5 x1 x2 x3 (x4 + (1 : Int32)) μ5) ∧ (¬ (z6 ≤ z4) → K5 x1 x2 (μ p_MO_found ((((64 : Int32) * x1) + x4)).toNatClampNeg) (x4 + (1 : Int32)) μ5)))))))))))
def F_X8_fewest_e  (K5 : Int32 → Int32 → Int32 → Int32 → Mm → Prop) (q : Int32 → Mm → Prop) (x1 : Int32) (x2 : Int32) (μ : Mm) : Prop :=
  K5 x1 x2 (0 : Int32) (0 : Int32) μ
def Wp_X8_fewest  (x1 : Int32) (x2 : Int32) (μ : Mm) (q : Int32 → Mm → Prop) : Prop := ∀ (K5 : Int32 → Int32 → Int32 → Int32 → Mm → Prop), (∀ (x1 : Int32) (x2 : Int32) (x3 : Int32) (x4 : Int32) (μ : Mm), F_X8_fewest_5  K5 q x1 x2 x3 x4 μ → K5 x1 x2 x3 x4 μ) → F_X8_fewest_e  K5 q x1 x2 μ
abbrev KK_X8_fewest_5 (g : GE) (f : FE)  : Int32 → Int32 → Int32 → Int32 → Mm → Prop := fun x1 x2 x3 x4 μ => KW g f 6 0 0 5 [some (.ref p_MO), some (.int x1), some (.int x2), some (.int x3), some (.int x4), none] [] μ
set_option maxHeartbeats 2000000 in
theorem b_X8_fewest_5  {g : GE} {f : FE} {q : Int32 → Mm → Prop} (cx : Cx g f cX8_fewest 6 RX8 2 45 0 0) (hr : (f_M f).sig.returnType = (some .int)) (hl : (f_M f).locks = false) (hQ : f_Q f = MQ (f_b f) (QW g (qI q)) (f_a f) (f_s f) 0 0 (fun q => g.2.2.2 ≤ q))  {x1 : Int32} {x2 : Int32} {x3 : Int32} {x4 : Int32} {μ : Mm} (h : F_X8_fewest_5  (KK_X8_fewest_5 g f ) q x1 x2 x3 x4 μ) : KK_X8_fewest_5 g f  x1 x2 x3 x4 μ := by
  unfold F_X8_fewest_5 at h
  show KW g f 6 0 0 5 [some (.ref p_MO), some (.int x1), some (.int x2), some (.int x3), some (.int x4), none] [] μ
  refine k_iload cx dX8_fewest_5 rfl ?_
  refine k_aload_n cx dX8_fewest_7 rfl rfl ?_
  refine k_get (o := some p_MO_many) (v := .ref p_MO_many) cx fl_X8_80 ob_MO rfl rfl dX8_fewest_8 ?_
  refine k_iload_n cx dX8_fewest_11 rfl rfl ?_
  obtain ⟨hi, h⟩ := h
  refine k_iald cx ar_MO_many hi dX8_fewest_12 ?_
  refine k_icmp_ge (tgt := 69) cx dX8_fewest_13 (by decide) (fun hc => ?_) (fun hc => ?_)
  · replace h := h.1 hc
    refine k_iload_n cx dX8_fewest_69 rfl rfl ?_
    exact k_ret_I cx hr hl hQ dX8_fewest_70 h
  · replace h := h.2 hc
    refine k_aload_n cx dX8_fewest_16 rfl rfl ?_
    refine k_get (o := some p_MO_found) (v := .ref p_MO_found) cx fl_X8_77 ob_MO rfl rfl dX8_fewest_17 ?_
    refine k_bipush (v := (64 : Int32)) cx dX8_fewest_20 (by decide +kernel) ?_
    refine k_iload_n cx dX8_fewest_22 rfl rfl ?_
    refine k_imul cx dX8_fewest_23 ?_
    refine k_iload cx dX8_fewest_24 rfl ?_
    refine k_iadd cx dX8_fewest_26 ?_
    obtain ⟨hi, h⟩ := h
    refine k_iald cx ar_MO_found hi dX8_fewest_27 ?_
    refine k_istore cx dX8_fewest_28 (by decide) ?_
    refine k_aload_n cx dX8_fewest_30 rfl rfl ?_
    refine k_iload cx dX8_fewest_31 rfl ?_
    refine k_iload_n cx dX8_fewest_33 rfl rfl ?_
    refine k_callV (As := [.int (μ p_MO_found ((((64 : Int32) * x1) + x4)).toNatClampNeg), .int x2]) (rest := []) cx (m_X8_fits h) cv_X8_173 ob_MO rfl rfl rfl rfl (Nat.le_of_ble_eq_true rfl) ⟨Nat.le_of_ble_eq_true rfl, Nat.le_of_ble_eq_true rfl⟩ dX8_fewest_34 (fun v μ1 hq => ?_)
    obtain ⟨b2, rfl, h⟩ := hq
    refine k_if_eq (tgt := 61) cx dX8_fewest_37 (by decide) (fun hc => ?_) (fun hc => ?_)
    · replace h := h.1 hc
      refine k_iload_n cx dX8_fewest_61 rfl rfl ?_
      refine k_istore_n cx dX8_fewest_62 rfl (by decide) ?_
      refine k_iinc (v := (x4 + (1 : Int32))) cx dX8_fewest_63 rfl rfl (by decide) ?_
      refine k_goto (tgt := 5) cx dX8_fewest_66 (by decide) ?_
      exact k_weak h (lsLe.keep (lsLe.keep (lsLe.keep (lsLe.keep (lsLe.keep (lsLe.drop lsLe.nil))))))
    · replace h := h.2 hc
      refine k_iload_n cx dX8_fewest_40 rfl rfl ?_
      refine k_if_eq (tgt := 56) cx dX8_fewest_41 (by decide) (fun hc => ?_) (fun hc => ?_)
      · replace h := h.1 hc
        refine k_iload cx dX8_fewest_56 rfl ?_
        refine k_goto (tgt := 62) cx dX8_fewest_58 (by decide) ?_
        refine k_istore_n cx dX8_fewest_62 rfl (by decide) ?_
        refine k_iinc (v := (x4 + (1 : Int32))) cx dX8_fewest_63 rfl rfl (by decide) ?_
        refine k_goto (tgt := 5) cx dX8_fewest_66 (by decide) ?_
        exact k_weak h (lsLe.keep (lsLe.keep (lsLe.keep (lsLe.keep (lsLe.keep (lsLe.drop lsLe.nil))))))
      · replace h := h.2 hc
        refine k_iload cx dX8_fewest_44 rfl ?_
        refine k_callS (As := [.int (μ p_MO_found ((((64 : Int32) * x1) + x4)).toNatClampNeg)]) (rest := []) cx (m_X8_bits h) cv_X8_167 rfl rfl (Nat.le_of_ble_eq_true rfl) ⟨Nat.le_of_ble_eq_true rfl, Nat.le_of_ble_eq_true rfl⟩ dX8_fewest_46 (fun v μ3 hq => ?_)
        obtain ⟨z4, rfl, h⟩ := hq
        refine k_iload_n cx dX8_fewest_49 rfl rfl ?_
        refine k_callS (As := [.int x3]) (rest := [.int z4]) cx (m_X8_bits h) cv_X8_167 rfl rfl (Nat.le_of_ble_eq_true rfl) ⟨Nat.le_of_ble_eq_true rfl, Nat.le_of_ble_eq_true rfl⟩ dX8_fewest_50 (fun v μ5 hq => ?_)
        obtain ⟨z6, rfl, h⟩ := hq
        refine k_icmp_ge (tgt := 61) cx dX8_fewest_53 (by decide) (fun hc => ?_) (fun hc => ?_)
        · replace h := h.1 hc
          refine k_iload_n cx dX8_fewest_61 rfl rfl ?_
          refine k_istore_n cx dX8_fewest_62 rfl (by decide) ?_
          refine k_iinc (v := (x4 + (1 : Int32))) cx dX8_fewest_63 rfl rfl (by decide) ?_
          refine k_goto (tgt := 5) cx dX8_fewest_66 (by decide) ?_
          exact k_weak h (lsLe.keep (lsLe.keep (lsLe.keep (lsLe.keep (lsLe.keep (lsLe.drop lsLe.nil))))))
        · replace h := h.2 hc
          refine k_iload cx dX8_fewest_56 rfl ?_
          refine k_goto (tgt := 62) cx dX8_fewest_58 (by decide) ?_
          refine k_istore_n cx dX8_fewest_62 rfl (by decide) ?_
          refine k_iinc (v := (x4 + (1 : Int32))) cx dX8_fewest_63 rfl rfl (by decide) ?_
          refine k_goto (tgt := 5) cx dX8_fewest_66 (by decide) ?_
          exact k_weak h (lsLe.keep (lsLe.keep (lsLe.keep (lsLe.keep (lsLe.keep (lsLe.drop lsLe.nil))))))
set_option maxHeartbeats 2000000 in
theorem b_X8_fewest_e  {g : GE} {f : FE} {q : Int32 → Mm → Prop} (cx : Cx g f cX8_fewest 6 RX8 2 45 0 0) (hr : (f_M f).sig.returnType = (some .int)) (hl : (f_M f).locks = false) (hQ : f_Q f = MQ (f_b f) (QW g (qI q)) (f_a f) (f_s f) 0 0 (fun q => g.2.2.2 ≤ q))  {x1 : Int32} {x2 : Int32} {μ : Mm} (h : F_X8_fewest_e  (KK_X8_fewest_5 g f ) q x1 x2 μ) : KW g f 6 0 0 0 [some (.ref p_MO), some (.int x1), some (.int x2), none, none, none] [] μ := by
  unfold F_X8_fewest_e at h
  refine k_iconst (v := (0 : Int32)) cx dX8_fewest_0 (by decide +kernel) ?_
  refine k_istore_n cx dX8_fewest_1 rfl (by decide) ?_
  refine k_iconst (v := (0 : Int32)) cx dX8_fewest_2 (by decide +kernel) ?_
  refine k_istore cx dX8_fewest_3 (by decide) ?_
  exact k_weak h (lsLe.keep (lsLe.keep (lsLe.keep (lsLe.keep (lsLe.keep (lsLe.keep lsLe.nil))))))
theorem m_X8_fewest {g : GE} {l : Launch} {μ : Mm} {q : Int32 → Mm → Prop} {x1 : Int32} {x2 : Int32}  (h : Wp_X8_fewest  x1 x2 μ q) : MW g l yX8_fewest cX8_fewest 6 (some .int) 2 45 [.ref p_MO, .int x1, .int x2] μ (qI q) := by
  refine met_of (by decide) (Nat.le_of_ble_eq_true rfl) (by intro v hv; simp only [List.mem_cons, List.not_mem_nil, or_false] at hv; rcases hv with rfl | rfl | rfl <;> rfl) ?_
  intro f hfl cx hr hl hQ
  exact b_X8_fewest_e  cx hr hl hQ (h (KK_X8_fewest_5 g f ) (fun _ _ _ _ _ h => b_X8_fewest_5  cx hr hl hQ h))
theorem dX8_finds_0 : decode cX8_finds 0 = .ok (.aload_n 0, 1) := by decide +kernel
theorem dX8_finds_1 : decode cX8_finds 1 = .ok (.getfield 80, 3) := by decide +kernel
theorem dX8_finds_4 : decode cX8_finds 4 = .ok (.iload_n 1, 1) := by decide +kernel
theorem dX8_finds_5 : decode cX8_finds 5 = .ok (.iconst 0, 1) := by decide +kernel
theorem dX8_finds_6 : decode cX8_finds 6 = .ok (.iastore, 1) := by decide +kernel
theorem dX8_finds_7 : decode cX8_finds 7 = .ok (.iconst 0, 1) := by decide +kernel
theorem dX8_finds_8 : decode cX8_finds 8 = .ok (.istore 4, 2) := by decide +kernel
theorem dX8_finds_10 : decode cX8_finds 10 = .ok (.iconst 1, 1) := by decide +kernel
theorem dX8_finds_11 : decode cX8_finds 11 = .ok (.iload_n 2, 1) := by decide +kernel
theorem dX8_finds_12 : decode cX8_finds 12 = .ok (.ishl, 1) := by decide +kernel
theorem dX8_finds_13 : decode cX8_finds 13 = .ok (.istore 5, 2) := by decide +kernel
theorem dX8_finds_15 : decode cX8_finds 15 = .ok (.aload_n 0, 1) := by decide +kernel
theorem dX8_finds_16 : decode cX8_finds 16 = .ok (.getfield 83, 3) := by decide +kernel
theorem dX8_finds_19 : decode cX8_finds 19 = .ok (.iconst 0, 1) := by decide +kernel
theorem dX8_finds_20 : decode cX8_finds 20 = .ok (.iload_n 2, 1) := by decide +kernel
theorem dX8_finds_21 : decode cX8_finds 21 = .ok (.iastore, 1) := by decide +kernel
theorem dX8_finds_22 : decode cX8_finds 22 = .ok (.aload_n 0, 1) := by decide +kernel
theorem dX8_finds_23 : decode cX8_finds 23 = .ok (.getfield 86, 3) := by decide +kernel
theorem dX8_finds_26 : decode cX8_finds 26 = .ok (.iconst 0, 1) := by decide +kernel
theorem dX8_finds_27 : decode cX8_finds 27 = .ok (.iconst 0, 1) := by decide +kernel
theorem dX8_finds_28 : decode cX8_finds 28 = .ok (.iastore, 1) := by decide +kernel
theorem dX8_finds_29 : decode cX8_finds 29 = .ok (.aload_n 0, 1) := by decide +kernel
theorem dX8_finds_30 : decode cX8_finds 30 = .ok (.getfield 89, 3) := by decide +kernel
theorem dX8_finds_33 : decode cX8_finds 33 = .ok (.iconst 0, 1) := by decide +kernel
theorem dX8_finds_34 : decode cX8_finds 34 = .ok (.iconst 0, 1) := by decide +kernel
theorem dX8_finds_35 : decode cX8_finds 35 = .ok (.iastore, 1) := by decide +kernel
theorem dX8_finds_36 : decode cX8_finds 36 = .ok (.iload 4, 2) := by decide +kernel
theorem dX8_finds_38 : decode cX8_finds 38 = .ok (.ifCond .lt 204, 3) := by decide +kernel
theorem dX8_finds_41 : decode cX8_finds 41 = .ok (.aload_n 0, 1) := by decide +kernel
theorem dX8_finds_42 : decode cX8_finds 42 = .ok (.getfield 86, 3) := by decide +kernel
theorem dX8_finds_45 : decode cX8_finds 45 = .ok (.iload 4, 2) := by decide +kernel
theorem dX8_finds_47 : decode cX8_finds 47 = .ok (.iaload, 1) := by decide +kernel
theorem dX8_finds_48 : decode cX8_finds 48 = .ok (.aload_n 0, 1) := by decide +kernel
theorem dX8_finds_49 : decode cX8_finds 49 = .ok (.getfield 115, 3) := by decide +kernel
theorem dX8_finds_52 : decode cX8_finds 52 = .ok (.if_icmp .ne 25, 3) := by decide +kernel
theorem dX8_finds_55 : decode cX8_finds 55 = .ok (.iload 5, 2) := by decide +kernel
theorem dX8_finds_57 : decode cX8_finds 57 = .ok (.iconst 1, 1) := by decide +kernel
theorem dX8_finds_58 : decode cX8_finds 58 = .ok (.aload_n 0, 1) := by decide +kernel
theorem dX8_finds_59 : decode cX8_finds 59 = .ok (.getfield 83, 3) := by decide +kernel
theorem dX8_finds_62 : decode cX8_finds 62 = .ok (.iload 4, 2) := by decide +kernel
theorem dX8_finds_64 : decode cX8_finds 64 = .ok (.iaload, 1) := by decide +kernel
theorem dX8_finds_65 : decode cX8_finds 65 = .ok (.ishl, 1) := by decide +kernel
theorem dX8_finds_66 : decode cX8_finds 66 = .ok (.iconst (-1), 1) := by decide +kernel
theorem dX8_finds_67 : decode cX8_finds 67 = .ok (.ixor, 1) := by decide +kernel
theorem dX8_finds_68 : decode cX8_finds 68 = .ok (.iand, 1) := by decide +kernel
theorem dX8_finds_69 : decode cX8_finds 69 = .ok (.istore 5, 2) := by decide +kernel
theorem dX8_finds_71 : decode cX8_finds 71 = .ok (.iinc 4 (-1), 3) := by decide +kernel
theorem dX8_finds_74 : decode cX8_finds 74 = .ok (.goto (-38), 3) := by decide +kernel
theorem dX8_finds_77 : decode cX8_finds 77 = .ok (.aload_n 0, 1) := by decide +kernel
theorem dX8_finds_78 : decode cX8_finds 78 = .ok (.getfield 86, 3) := by decide +kernel
theorem dX8_finds_81 : decode cX8_finds 81 = .ok (.iload 4, 2) := by decide +kernel
theorem dX8_finds_83 : decode cX8_finds 83 = .ok (.iaload, 1) := by decide +kernel
theorem dX8_finds_84 : decode cX8_finds 84 = .ok (.istore 6, 2) := by decide +kernel
theorem dX8_finds_86 : decode cX8_finds 86 = .ok (.aload_n 0, 1) := by decide +kernel
theorem dX8_finds_87 : decode cX8_finds 87 = .ok (.getfield 86, 3) := by decide +kernel
theorem dX8_finds_90 : decode cX8_finds 90 = .ok (.iload 4, 2) := by decide +kernel
theorem dX8_finds_92 : decode cX8_finds 92 = .ok (.dup2, 1) := by decide +kernel
theorem dX8_finds_93 : decode cX8_finds 93 = .ok (.iaload, 1) := by decide +kernel
theorem dX8_finds_94 : decode cX8_finds 94 = .ok (.iconst 1, 1) := by decide +kernel
theorem dX8_finds_95 : decode cX8_finds 95 = .ok (.iadd, 1) := by decide +kernel
theorem dX8_finds_96 : decode cX8_finds 96 = .ok (.iastore, 1) := by decide +kernel
theorem dX8_finds_97 : decode cX8_finds 97 = .ok (.aload_n 0, 1) := by decide +kernel
theorem dX8_finds_98 : decode cX8_finds 98 = .ok (.getfield 22, 3) := by decide +kernel
theorem dX8_finds_101 : decode cX8_finds 101 = .ok (.iload 6, 2) := by decide +kernel
theorem dX8_finds_103 : decode cX8_finds 103 = .ok (.baload, 1) := by decide +kernel
theorem dX8_finds_104 : decode cX8_finds 104 = .ok (.ifCond .eq 7, 3) := by decide +kernel
theorem dX8_finds_107 : decode cX8_finds 107 = .ok (.iconst (-1), 1) := by decide +kernel
theorem dX8_finds_108 : decode cX8_finds 108 = .ok (.goto 16, 3) := by decide +kernel
theorem dX8_finds_111 : decode cX8_finds 111 = .ok (.aload_n 0, 1) := by decide +kernel
theorem dX8_finds_112 : decode cX8_finds 112 = .ok (.iload 6, 2) := by decide +kernel
theorem dX8_finds_114 : decode cX8_finds 114 = .ok (.aload_n 0, 1) := by decide +kernel
theorem dX8_finds_115 : decode cX8_finds 115 = .ok (.getfield 83, 3) := by decide +kernel
theorem dX8_finds_118 : decode cX8_finds 118 = .ok (.iload 4, 2) := by decide +kernel
theorem dX8_finds_120 : decode cX8_finds 120 = .ok (.iaload, 1) := by decide +kernel
theorem dX8_finds_121 : decode cX8_finds 121 = .ok (.invokevirtual 132, 3) := by decide +kernel
theorem dX8_finds_124 : decode cX8_finds 124 = .ok (.istore 7, 2) := by decide +kernel
theorem dX8_finds_126 : decode cX8_finds 126 = .ok (.iload 7, 2) := by decide +kernel
theorem dX8_finds_128 : decode cX8_finds 128 = .ok (.iload_n 3, 1) := by decide +kernel
theorem dX8_finds_129 : decode cX8_finds 129 = .ok (.if_icmp .ne 44, 3) := by decide +kernel
theorem dX8_finds_132 : decode cX8_finds 132 = .ok (.aload_n 0, 1) := by decide +kernel
theorem dX8_finds_133 : decode cX8_finds 133 = .ok (.getfield 77, 3) := by decide +kernel
theorem dX8_finds_136 : decode cX8_finds 136 = .ok (.bipush 64, 2) := by decide +kernel
theorem dX8_finds_138 : decode cX8_finds 138 = .ok (.iload_n 1, 1) := by decide +kernel
theorem dX8_finds_139 : decode cX8_finds 139 = .ok (.imul, 1) := by decide +kernel
theorem dX8_finds_140 : decode cX8_finds 140 = .ok (.aload_n 0, 1) := by decide +kernel
theorem dX8_finds_141 : decode cX8_finds 141 = .ok (.getfield 80, 3) := by decide +kernel
theorem dX8_finds_144 : decode cX8_finds 144 = .ok (.iload_n 1, 1) := by decide +kernel
theorem dX8_finds_145 : decode cX8_finds 145 = .ok (.iaload, 1) := by decide +kernel
theorem dX8_finds_146 : decode cX8_finds 146 = .ok (.iadd, 1) := by decide +kernel
theorem dX8_finds_147 : decode cX8_finds 147 = .ok (.aload_n 0, 1) := by decide +kernel
theorem dX8_finds_148 : decode cX8_finds 148 = .ok (.getfield 89, 3) := by decide +kernel
theorem dX8_finds_151 : decode cX8_finds 151 = .ok (.iload 4, 2) := by decide +kernel
theorem dX8_finds_153 : decode cX8_finds 153 = .ok (.iaload, 1) := by decide +kernel
theorem dX8_finds_154 : decode cX8_finds 154 = .ok (.iconst 1, 1) := by decide +kernel
theorem dX8_finds_155 : decode cX8_finds 155 = .ok (.iload 6, 2) := by decide +kernel
theorem dX8_finds_157 : decode cX8_finds 157 = .ok (.ishl, 1) := by decide +kernel
theorem dX8_finds_158 : decode cX8_finds 158 = .ok (.ior, 1) := by decide +kernel
theorem dX8_finds_159 : decode cX8_finds 159 = .ok (.iastore, 1) := by decide +kernel
theorem dX8_finds_160 : decode cX8_finds 160 = .ok (.aload_n 0, 1) := by decide +kernel
theorem dX8_finds_161 : decode cX8_finds 161 = .ok (.getfield 80, 3) := by decide +kernel
theorem dX8_finds_164 : decode cX8_finds 164 = .ok (.iload_n 1, 1) := by decide +kernel
theorem dX8_finds_165 : decode cX8_finds 165 = .ok (.dup2, 1) := by decide +kernel
theorem dX8_finds_166 : decode cX8_finds 166 = .ok (.iaload, 1) := by decide +kernel
theorem dX8_finds_167 : decode cX8_finds 167 = .ok (.iconst 1, 1) := by decide +kernel
theorem dX8_finds_168 : decode cX8_finds 168 = .ok (.iadd, 1) := by decide +kernel
theorem dX8_finds_169 : decode cX8_finds 169 = .ok (.iastore, 1) := by decide +kernel
theorem dX8_finds_170 : decode cX8_finds 170 = .ok (.goto 69, 3) := by decide +kernel
theorem dX8_finds_173 : decode cX8_finds 173 = .ok (.iload 7, 2) := by decide +kernel
theorem dX8_finds_175 : decode cX8_finds 175 = .ok (.iconst (-1), 1) := by decide +kernel
theorem dX8_finds_176 : decode cX8_finds 176 = .ok (.if_icmp .eq 63, 3) := by decide +kernel
theorem dX8_finds_179 : decode cX8_finds 179 = .ok (.iload 5, 2) := by decide +kernel
theorem dX8_finds_181 : decode cX8_finds 181 = .ok (.iload 7, 2) := by decide +kernel
theorem dX8_finds_183 : decode cX8_finds 183 = .ok (.invokestatic 136, 3) := by decide +kernel
theorem dX8_finds_186 : decode cX8_finds 186 = .ok (.ifCond .ne 53, 3) := by decide +kernel
theorem dX8_finds_189 : decode cX8_finds 189 = .ok (.iinc 4 1, 3) := by decide +kernel
theorem dX8_finds_192 : decode cX8_finds 192 = .ok (.iload 5, 2) := by decide +kernel
theorem dX8_finds_194 : decode cX8_finds 194 = .ok (.iconst 1, 1) := by decide +kernel
theorem dX8_finds_195 : decode cX8_finds 195 = .ok (.iload 7, 2) := by decide +kernel
theorem dX8_finds_197 : decode cX8_finds 197 = .ok (.ishl, 1) := by decide +kernel
theorem dX8_finds_198 : decode cX8_finds 198 = .ok (.ior, 1) := by decide +kernel
theorem dX8_finds_199 : decode cX8_finds 199 = .ok (.istore 5, 2) := by decide +kernel
theorem dX8_finds_201 : decode cX8_finds 201 = .ok (.aload_n 0, 1) := by decide +kernel
theorem dX8_finds_202 : decode cX8_finds 202 = .ok (.getfield 83, 3) := by decide +kernel
theorem dX8_finds_205 : decode cX8_finds 205 = .ok (.iload 4, 2) := by decide +kernel
theorem dX8_finds_207 : decode cX8_finds 207 = .ok (.iload 7, 2) := by decide +kernel
theorem dX8_finds_209 : decode cX8_finds 209 = .ok (.iastore, 1) := by decide +kernel
theorem dX8_finds_210 : decode cX8_finds 210 = .ok (.aload_n 0, 1) := by decide +kernel
theorem dX8_finds_211 : decode cX8_finds 211 = .ok (.getfield 86, 3) := by decide +kernel
theorem dX8_finds_214 : decode cX8_finds 214 = .ok (.iload 4, 2) := by decide +kernel
theorem dX8_finds_216 : decode cX8_finds 216 = .ok (.iconst 0, 1) := by decide +kernel
theorem dX8_finds_217 : decode cX8_finds 217 = .ok (.iastore, 1) := by decide +kernel
theorem dX8_finds_218 : decode cX8_finds 218 = .ok (.aload_n 0, 1) := by decide +kernel
theorem dX8_finds_219 : decode cX8_finds 219 = .ok (.getfield 89, 3) := by decide +kernel
theorem dX8_finds_222 : decode cX8_finds 222 = .ok (.iload 4, 2) := by decide +kernel
theorem dX8_finds_224 : decode cX8_finds 224 = .ok (.aload_n 0, 1) := by decide +kernel
theorem dX8_finds_225 : decode cX8_finds 225 = .ok (.getfield 89, 3) := by decide +kernel
theorem dX8_finds_228 : decode cX8_finds 228 = .ok (.iload 4, 2) := by decide +kernel
theorem dX8_finds_230 : decode cX8_finds 230 = .ok (.iconst 1, 1) := by decide +kernel
theorem dX8_finds_231 : decode cX8_finds 231 = .ok (.isub, 1) := by decide +kernel
theorem dX8_finds_232 : decode cX8_finds 232 = .ok (.iaload, 1) := by decide +kernel
theorem dX8_finds_233 : decode cX8_finds 233 = .ok (.iconst 1, 1) := by decide +kernel
theorem dX8_finds_234 : decode cX8_finds 234 = .ok (.iload 6, 2) := by decide +kernel
theorem dX8_finds_236 : decode cX8_finds 236 = .ok (.ishl, 1) := by decide +kernel
theorem dX8_finds_237 : decode cX8_finds 237 = .ok (.ior, 1) := by decide +kernel
theorem dX8_finds_238 : decode cX8_finds 238 = .ok (.iastore, 1) := by decide +kernel
theorem dX8_finds_239 : decode cX8_finds 239 = .ok (.goto (-203), 3) := by decide +kernel
theorem dX8_finds_242 : decode cX8_finds 242 = .ok (.return_, 1) := by decide +kernel
def F_X8_finds_36  (K36 : Int32 → Int32 → Int32 → Int32 → Mm → Prop) (K124 : Int32 → Int32 → Int32 → Int32 → Int32 → Int32 → Mm → Prop) (q : Mm → Prop) (x1 : Int32) (x3 : Int32) (x4 : Int32) (x5 : Int32) (μ : Mm) : Prop :=
  ((x4 < 0 → q μ) ∧ (¬ (x4 < 0) → vp_in x4 7 ∧ ((¬ ((μ p_MO_next (x4).toNatClampNeg) = (μ p_MO 3)) → vp_in x4 7 ∧ vp_in x4 7 ∧ vp_in x4 7 ∧ vp_in (μ p_MO_next (x4).toNatClampNeg) 9 ∧ ((((up2 μ p_MO_next (x4).toNatClampNeg ((μ p_MO_next (x4).toNatClampNeg) + (1 : Int32))) p_MO_hasFailed ((μ p_MO_next (x4).toNatClampNeg)).toNatClampNeg) = 0 → vp_in x4 7 ∧ Wp_X8_end (μ p_MO_next (x4).toNatClampNeg) ((up2 μ p_MO_next (x4).toNatClampNeg ((μ p_MO_next (x4).toNatClampNeg) + (1 : Int32))) p_MO_spot (x4).toNatClampNeg) (up2 μ p_MO_next (x4).toNatClampNeg ((μ p_MO_next (x4).toNatClampNeg) + (1 : Int32))) (fun z2 μ1 => K124 x1 x3 x4 x5 (μ p_MO_next (x4).toNatClampNeg) z2 μ1)) ∧ (¬ (((up2 μ p_MO_next (x4).toNatClampNeg ((μ p_MO_next (x4).toNatClampNeg) + (1 : Int32))) p_MO_hasFailed ((μ p_MO_next (x4).toNatClampNeg)).toNatClampNeg) = 0) → K124 x1 x3 x4 x5 (μ p_MO_next (x4).toNatClampNeg) (-1 : Int32) (up2 μ p_MO_next (x4).toNatClampNeg ((μ p_MO_next (x4).toNatClampNeg) + (1 : Int32)))))) ∧ ((μ p_MO_next (x4).toNatClampNeg) = (μ p_MO 3) → vp_in x4 7 ∧ K36 x1 x3 (x4 + (-1 : Int32)) (x5 &&& (((1 : Int32) <<< ((μ p_MO_spot (x4).toNatClampNeg) &&& 31)) ^^^ (-1 : Int32))) μ))))
def F_X8_finds_124  (K36 : Int32 → Int32 → Int32 → Int32 → Mm → Prop) (K124 : Int32 → Int32 → Int32 → Int32 → Int32 → Int32 → Mm → Prop) (q : Mm → Prop) (x1 : Int32) (x3 : Int32) (x4 : Int32) (x5 : Int32) (x6 : Int32) (y0 : Int32) (μ : Mm) : Prop :=
  ((¬ (y0 = x3) → ((y0 = (-1 : Int32) → K36 x1 x3 x4 x5 μ) ∧ (¬ (y0 = (-1 : Int32)) → Wp_X8_has x5 y0 μ (fun b2 μ1 => ((¬ ((bI b2) = 0) → K36 x1 x3 x4 x5 μ1) ∧ ((bI b2) = 0 → vp_in (x4 + (1 : Int32)) 7 ∧ vp_in (x4 + (1 : Int32)) 7 ∧ vp_in ((x4 + (1 : Int32)) - (1 : Int32)) 7 ∧ vp_in (x4 + (1 : Int32)) 7 ∧ K36 x1 x3 (x4 + (1 : Int32)) (x5 ||| ((1 : Int32) <<< (y0 &&& 31))) (up2 (up2 (up2 μ1 p_MO_spot ((x4 + (1 : Int32))).toNatClampNeg y0) p_MO_next ((x4 + (1 : Int32))).toNatClampNeg (0 : Int32)) p_MO_gone ((x4 + (1 : Int32))).toNatClampNeg (((up2 (up2 μ1 p_MO_spot ((x4 + (1 : Int32))).toNatClampNeg y0) p_MO_next ((x4 + (1 : Int32))).toNatClampNeg (0 : Int32)) p_MO_gone (((x4 + (1 : Int32)) - (1 : Int32))).toNatClampNeg) ||| ((1 : Int32) <<< (x6 &&& 31)))))))))) ∧ (y0 = x3 → vp_in x1 3 ∧ vp_in x4 7 ∧ vp_in (((64 : Int32) * x1) + (μ p_MO_many (x1).toNatClampNeg)) 192 ∧ vp_in x1 3 ∧ vp_in x1 3 ∧ K36 x1 x3 x4 x5 (up2 (up2 μ p_MO_found ((((64 : Int32) * x1) + (μ p_MO_many (x1).toNatClampNeg))).toNatClampNeg ((μ p_MO_gone (x4).toNatClampNeg) ||| ((1 : Int32) <<< (x6 &&& 31)))) p_MO_many (x1).toNatClampNeg (((up2 μ p_MO_found ((((64 : Int32) * x1) + (μ p_MO_many (x1).toNatClampNeg))).toNatClampNeg ((μ p_MO_gone (x4).toNatClampNeg) ||| ((1 : Int32) <<< (x6 &&& 31)))) p_MO_many (x1).toNatClampNeg) + (1 : Int32)))))
def F_X8_finds_e  (K36 : Int32 → Int32 → Int32 → Int32 → Mm → Prop) (K124 : Int32 → Int32 → Int32 → Int32 → Int32 → Int32 → Mm → Prop) (q : Mm → Prop) (x1 : Int32) (x2 : Int32) (x3 : Int32) (μ : Mm) : Prop :=
  vp_in x1 3 ∧ vp_in (0 : Int32) 7 ∧ vp_in (0 : Int32) 7 ∧ vp_in (0 : Int32) 7 ∧ K36 x1 x3 (0 : Int32) ((1 : Int32) <<< (x2 &&& 31)) (up2 (up2 (up2 (up2 μ p_MO_many (x1).toNatClampNeg (0 : Int32)) p_MO_spot ((0 : Int32)).toNatClampNeg x2) p_MO_next ((0 : Int32)).toNatClampNeg (0 : Int32)) p_MO_gone ((0 : Int32)).toNatClampNeg (0 : Int32))
def Wp_X8_finds  (x1 : Int32) (x2 : Int32) (x3 : Int32) (μ : Mm) (q : Mm → Prop) : Prop := ∀ (K36 : Int32 → Int32 → Int32 → Int32 → Mm → Prop) (K124 : Int32 → Int32 → Int32 → Int32 → Int32 → Int32 → Mm → Prop), (∀ (x1 : Int32) (x3 : Int32) (x4 : Int32) (x5 : Int32) (μ : Mm), F_X8_finds_36  K36 K124 q x1 x3 x4 x5 μ → K36 x1 x3 x4 x5 μ) → (∀ (x1 : Int32) (x3 : Int32) (x4 : Int32) (x5 : Int32) (x6 : Int32) (y0 : Int32) (μ : Mm), F_X8_finds_124  K36 K124 q x1 x3 x4 x5 x6 y0 μ → K124 x1 x3 x4 x5 x6 y0 μ) → F_X8_finds_e  K36 K124 q x1 x2 x3 μ
abbrev KK_X8_finds_36 (g : GE) (f : FE)  : Int32 → Int32 → Int32 → Int32 → Mm → Prop := fun x1 x3 x4 x5 μ => KW g f 8 0 0 36 [some (.ref p_MO), some (.int x1), none, some (.int x3), some (.int x4), some (.int x5), none, none] [] μ
abbrev KK_X8_finds_124 (g : GE) (f : FE)  : Int32 → Int32 → Int32 → Int32 → Int32 → Int32 → Mm → Prop := fun x1 x3 x4 x5 x6 y0 μ => KW g f 8 0 0 124 [some (.ref p_MO), some (.int x1), none, some (.int x3), some (.int x4), some (.int x5), some (.int x6), none] [.int y0] μ
set_option maxHeartbeats 2000000 in
theorem b_X8_finds_36  {g : GE} {f : FE} {q : Mm → Prop} (cx : Cx g f cX8_finds 8 RX8 1 22 0 0) (hr : (f_M f).sig.returnType = none) (hl : (f_M f).locks = false) (hQ : f_Q f = MQ (f_b f) (QW g (qV q)) (f_a f) (f_s f) 0 0 (fun q => g.2.2.2 ≤ q))  {x1 : Int32} {x3 : Int32} {x4 : Int32} {x5 : Int32} {μ : Mm} (h : F_X8_finds_36  (KK_X8_finds_36 g f ) (KK_X8_finds_124 g f ) q x1 x3 x4 x5 μ) : KK_X8_finds_36 g f  x1 x3 x4 x5 μ := by
  unfold F_X8_finds_36 at h
  show KW g f 8 0 0 36 [some (.ref p_MO), some (.int x1), none, some (.int x3), some (.int x4), some (.int x5), none, none] [] μ
  refine k_iload cx dX8_finds_36 rfl ?_
  refine k_if_lt (tgt := 242) cx dX8_finds_38 (by decide) (fun hc => ?_) (fun hc => ?_)
  · replace h := h.1 hc
    exact k_ret_V cx hr hl hQ dX8_finds_242 h
  · replace h := h.2 hc
    refine k_aload_n cx dX8_finds_41 rfl rfl ?_
    refine k_get (o := some p_MO_next) (v := .ref p_MO_next) cx fl_X8_86 ob_MO rfl rfl dX8_finds_42 ?_
    refine k_iload cx dX8_finds_45 rfl ?_
    obtain ⟨hi, h⟩ := h
    refine k_iald cx ar_MO_next hi dX8_finds_47 ?_
    refine k_aload_n cx dX8_finds_48 rfl rfl ?_
    refine k_get (o := none) (v := .int (μ p_MO 3)) cx fl_X8_115 ob_MO rfl rfl dX8_finds_49 ?_
    refine k_icmp_ne (tgt := 77) cx dX8_finds_52 (by decide) (fun hc => ?_) (fun hc => ?_)
    · replace h := h.1 hc
      refine k_aload_n cx dX8_finds_77 rfl rfl ?_
      refine k_get (o := some p_MO_next) (v := .ref p_MO_next) cx fl_X8_86 ob_MO rfl rfl dX8_finds_78 ?_
      refine k_iload cx dX8_finds_81 rfl ?_
      obtain ⟨hi, h⟩ := h
      refine k_iald cx ar_MO_next hi dX8_finds_83 ?_
      refine k_istore cx dX8_finds_84 (by decide) ?_
      refine k_aload_n cx dX8_finds_86 rfl rfl ?_
      refine k_get (o := some p_MO_next) (v := .ref p_MO_next) cx fl_X8_86 ob_MO rfl rfl dX8_finds_87 ?_
      refine k_iload cx dX8_finds_90 rfl ?_
      refine k_dup2 cx dX8_finds_92 rfl rfl ?_
      obtain ⟨hi, h⟩ := h
      refine k_iald cx ar_MO_next hi dX8_finds_93 ?_
      refine k_iconst (v := (1 : Int32)) cx dX8_finds_94 (by decide +kernel) ?_
      refine k_iadd cx dX8_finds_95 ?_
      obtain ⟨hi, h⟩ := h
      refine k_iast cx ar_MO_next hi dX8_finds_96 ?_
      refine k_aload_n cx dX8_finds_97 rfl rfl ?_
      refine k_get (o := some p_MO_hasFailed) (v := .ref p_MO_hasFailed) cx fl_X8_22 ob_MO rfl rfl dX8_finds_98 ?_
      refine k_iload cx dX8_finds_101 rfl ?_
      obtain ⟨hi, h⟩ := h
      refine k_zald cx ar_MO_hasFailed hi dX8_finds_103 ?_
      refine k_if_eq (tgt := 111) cx dX8_finds_104 (by decide) (fun hc => ?_) (fun hc => ?_)
      · replace h := h.1 hc
        refine k_aload_n cx dX8_finds_111 rfl rfl ?_
        refine k_iload cx dX8_finds_112 rfl ?_
        refine k_aload_n cx dX8_finds_114 rfl rfl ?_
        refine k_get (o := some p_MO_spot) (v := .ref p_MO_spot) cx fl_X8_83 ob_MO rfl rfl dX8_finds_115 ?_
        refine k_iload cx dX8_finds_118 rfl ?_
        obtain ⟨hi, h⟩ := h
        refine k_iald cx ar_MO_spot hi dX8_finds_120 ?_
        refine k_callV (As := [.int (μ p_MO_next (x4).toNatClampNeg), .int ((up2 μ p_MO_next (x4).toNatClampNeg ((μ p_MO_next (x4).toNatClampNeg) + (1 : Int32))) p_MO_spot (x4).toNatClampNeg)]) (rest := []) cx (m_X8_end h) cv_X8_132 ob_MO rfl rfl rfl rfl (Nat.le_of_ble_eq_true rfl) ⟨Nat.le_of_ble_eq_true rfl, Nat.le_of_ble_eq_true rfl⟩ dX8_finds_121 (fun v μ1 hq => ?_)
        obtain ⟨z2, rfl, h⟩ := hq
        exact k_weak h (lsLe.keep (lsLe.keep (lsLe.keep (lsLe.keep (lsLe.keep (lsLe.keep (lsLe.keep (lsLe.keep lsLe.nil))))))))
      · replace h := h.2 hc
        refine k_iconst (v := (-1 : Int32)) cx dX8_finds_107 (by decide +kernel) ?_
        refine k_goto (tgt := 124) cx dX8_finds_108 (by decide) ?_
        exact k_weak h (lsLe.keep (lsLe.keep (lsLe.keep (lsLe.keep (lsLe.keep (lsLe.keep (lsLe.keep (lsLe.keep lsLe.nil))))))))
    · replace h := h.2 hc
      refine k_iload cx dX8_finds_55 rfl ?_
      refine k_iconst (v := (1 : Int32)) cx dX8_finds_57 (by decide +kernel) ?_
      refine k_aload_n cx dX8_finds_58 rfl rfl ?_
      refine k_get (o := some p_MO_spot) (v := .ref p_MO_spot) cx fl_X8_83 ob_MO rfl rfl dX8_finds_59 ?_
      refine k_iload cx dX8_finds_62 rfl ?_
      obtain ⟨hi, h⟩ := h
      refine k_iald cx ar_MO_spot hi dX8_finds_64 ?_
      refine k_ishl cx dX8_finds_65 ?_
      refine k_iconst (v := (-1 : Int32)) cx dX8_finds_66 (by decide +kernel) ?_
      refine k_ixor cx dX8_finds_67 ?_
      refine k_iand cx dX8_finds_68 ?_
      refine k_istore cx dX8_finds_69 (by decide) ?_
      refine k_iinc (v := (x4 + (-1 : Int32))) cx dX8_finds_71 rfl rfl (by decide) ?_
      refine k_goto (tgt := 36) cx dX8_finds_74 (by decide) ?_
      exact k_weak h (lsLe.keep (lsLe.keep (lsLe.keep (lsLe.keep (lsLe.keep (lsLe.keep (lsLe.keep (lsLe.keep lsLe.nil))))))))
set_option maxHeartbeats 2000000 in
theorem b_X8_finds_124  {g : GE} {f : FE} {q : Mm → Prop} (cx : Cx g f cX8_finds 8 RX8 1 22 0 0) (hr : (f_M f).sig.returnType = none) (hl : (f_M f).locks = false) (hQ : f_Q f = MQ (f_b f) (QW g (qV q)) (f_a f) (f_s f) 0 0 (fun q => g.2.2.2 ≤ q))  {x1 : Int32} {x3 : Int32} {x4 : Int32} {x5 : Int32} {x6 : Int32} {y0 : Int32} {μ : Mm} (h : F_X8_finds_124  (KK_X8_finds_36 g f ) (KK_X8_finds_124 g f ) q x1 x3 x4 x5 x6 y0 μ) : KK_X8_finds_124 g f  x1 x3 x4 x5 x6 y0 μ := by
  unfold F_X8_finds_124 at h
  show KW g f 8 0 0 124 [some (.ref p_MO), some (.int x1), none, some (.int x3), some (.int x4), some (.int x5), some (.int x6), none] [.int y0] μ
  refine k_istore cx dX8_finds_124 (by decide) ?_
  refine k_iload cx dX8_finds_126 rfl ?_
  refine k_iload_n cx dX8_finds_128 rfl rfl ?_
  refine k_icmp_ne (tgt := 173) cx dX8_finds_129 (by decide) (fun hc => ?_) (fun hc => ?_)
  · replace h := h.1 hc
    refine k_iload cx dX8_finds_173 rfl ?_
    refine k_iconst (v := (-1 : Int32)) cx dX8_finds_175 (by decide +kernel) ?_
    refine k_icmp_eq (tgt := 239) cx dX8_finds_176 (by decide) (fun hc => ?_) (fun hc => ?_)
    · replace h := h.1 hc
      refine k_goto (tgt := 36) cx dX8_finds_239 (by decide) ?_
      exact k_weak h (lsLe.keep (lsLe.keep (lsLe.keep (lsLe.keep (lsLe.keep (lsLe.keep (lsLe.drop (lsLe.drop lsLe.nil))))))))
    · replace h := h.2 hc
      refine k_iload cx dX8_finds_179 rfl ?_
      refine k_iload cx dX8_finds_181 rfl ?_
      refine k_callS (As := [.int x5, .int y0]) (rest := []) cx (m_X8_has h) cv_X8_136 rfl rfl (Nat.le_of_ble_eq_true rfl) ⟨Nat.le_of_ble_eq_true rfl, Nat.le_of_ble_eq_true rfl⟩ dX8_finds_183 (fun v μ1 hq => ?_)
      obtain ⟨b2, rfl, h⟩ := hq
      refine k_if_ne (tgt := 239) cx dX8_finds_186 (by decide) (fun hc => ?_) (fun hc => ?_)
      · replace h := h.1 hc
        refine k_goto (tgt := 36) cx dX8_finds_239 (by decide) ?_
        exact k_weak h (lsLe.keep (lsLe.keep (lsLe.keep (lsLe.keep (lsLe.keep (lsLe.keep (lsLe.drop (lsLe.drop lsLe.nil))))))))
      · replace h := h.2 hc
        refine k_iinc (v := (x4 + (1 : Int32))) cx dX8_finds_189 rfl rfl (by decide) ?_
        refine k_iload cx dX8_finds_192 rfl ?_
        refine k_iconst (v := (1 : Int32)) cx dX8_finds_194 (by decide +kernel) ?_
        refine k_iload cx dX8_finds_195 rfl ?_
        refine k_ishl cx dX8_finds_197 ?_
        refine k_ior cx dX8_finds_198 ?_
        refine k_istore cx dX8_finds_199 (by decide) ?_
        refine k_aload_n cx dX8_finds_201 rfl rfl ?_
        refine k_get (o := some p_MO_spot) (v := .ref p_MO_spot) cx fl_X8_83 ob_MO rfl rfl dX8_finds_202 ?_
        refine k_iload cx dX8_finds_205 rfl ?_
        refine k_iload cx dX8_finds_207 rfl ?_
        obtain ⟨hi, h⟩ := h
        refine k_iast cx ar_MO_spot hi dX8_finds_209 ?_
        refine k_aload_n cx dX8_finds_210 rfl rfl ?_
        refine k_get (o := some p_MO_next) (v := .ref p_MO_next) cx fl_X8_86 ob_MO rfl rfl dX8_finds_211 ?_
        refine k_iload cx dX8_finds_214 rfl ?_
        refine k_iconst (v := (0 : Int32)) cx dX8_finds_216 (by decide +kernel) ?_
        obtain ⟨hi, h⟩ := h
        refine k_iast cx ar_MO_next hi dX8_finds_217 ?_
        refine k_aload_n cx dX8_finds_218 rfl rfl ?_
        refine k_get (o := some p_MO_gone) (v := .ref p_MO_gone) cx fl_X8_89 ob_MO rfl rfl dX8_finds_219 ?_
        refine k_iload cx dX8_finds_222 rfl ?_
        refine k_aload_n cx dX8_finds_224 rfl rfl ?_
        refine k_get (o := some p_MO_gone) (v := .ref p_MO_gone) cx fl_X8_89 ob_MO rfl rfl dX8_finds_225 ?_
        refine k_iload cx dX8_finds_228 rfl ?_
        refine k_iconst (v := (1 : Int32)) cx dX8_finds_230 (by decide +kernel) ?_
        refine k_isub cx dX8_finds_231 ?_
        obtain ⟨hi, h⟩ := h
        refine k_iald cx ar_MO_gone hi dX8_finds_232 ?_
        refine k_iconst (v := (1 : Int32)) cx dX8_finds_233 (by decide +kernel) ?_
        refine k_iload cx dX8_finds_234 rfl ?_
        refine k_ishl cx dX8_finds_236 ?_
        refine k_ior cx dX8_finds_237 ?_
        obtain ⟨hi, h⟩ := h
        refine k_iast cx ar_MO_gone hi dX8_finds_238 ?_
        refine k_goto (tgt := 36) cx dX8_finds_239 (by decide) ?_
        exact k_weak h (lsLe.keep (lsLe.keep (lsLe.keep (lsLe.keep (lsLe.keep (lsLe.keep (lsLe.drop (lsLe.drop lsLe.nil))))))))
  · replace h := h.2 hc
    refine k_aload_n cx dX8_finds_132 rfl rfl ?_
    refine k_get (o := some p_MO_found) (v := .ref p_MO_found) cx fl_X8_77 ob_MO rfl rfl dX8_finds_133 ?_
    refine k_bipush (v := (64 : Int32)) cx dX8_finds_136 (by decide +kernel) ?_
    refine k_iload_n cx dX8_finds_138 rfl rfl ?_
    refine k_imul cx dX8_finds_139 ?_
    refine k_aload_n cx dX8_finds_140 rfl rfl ?_
    refine k_get (o := some p_MO_many) (v := .ref p_MO_many) cx fl_X8_80 ob_MO rfl rfl dX8_finds_141 ?_
    refine k_iload_n cx dX8_finds_144 rfl rfl ?_
    obtain ⟨hi, h⟩ := h
    refine k_iald cx ar_MO_many hi dX8_finds_145 ?_
    refine k_iadd cx dX8_finds_146 ?_
    refine k_aload_n cx dX8_finds_147 rfl rfl ?_
    refine k_get (o := some p_MO_gone) (v := .ref p_MO_gone) cx fl_X8_89 ob_MO rfl rfl dX8_finds_148 ?_
    refine k_iload cx dX8_finds_151 rfl ?_
    obtain ⟨hi, h⟩ := h
    refine k_iald cx ar_MO_gone hi dX8_finds_153 ?_
    refine k_iconst (v := (1 : Int32)) cx dX8_finds_154 (by decide +kernel) ?_
    refine k_iload cx dX8_finds_155 rfl ?_
    refine k_ishl cx dX8_finds_157 ?_
    refine k_ior cx dX8_finds_158 ?_
    obtain ⟨hi, h⟩ := h
    refine k_iast cx ar_MO_found hi dX8_finds_159 ?_
    refine k_aload_n cx dX8_finds_160 rfl rfl ?_
    refine k_get (o := some p_MO_many) (v := .ref p_MO_many) cx fl_X8_80 ob_MO rfl rfl dX8_finds_161 ?_
    refine k_iload_n cx dX8_finds_164 rfl rfl ?_
    refine k_dup2 cx dX8_finds_165 rfl rfl ?_
    obtain ⟨hi, h⟩ := h
    refine k_iald cx ar_MO_many hi dX8_finds_166 ?_
    refine k_iconst (v := (1 : Int32)) cx dX8_finds_167 (by decide +kernel) ?_
    refine k_iadd cx dX8_finds_168 ?_
    obtain ⟨hi, h⟩ := h
    refine k_iast cx ar_MO_many hi dX8_finds_169 ?_
    refine k_goto (tgt := 239) cx dX8_finds_170 (by decide) ?_
    refine k_goto (tgt := 36) cx dX8_finds_239 (by decide) ?_
    exact k_weak h (lsLe.keep (lsLe.keep (lsLe.keep (lsLe.keep (lsLe.keep (lsLe.keep (lsLe.drop (lsLe.drop lsLe.nil))))))))
set_option maxHeartbeats 2000000 in
theorem b_X8_finds_e  {g : GE} {f : FE} {q : Mm → Prop} (cx : Cx g f cX8_finds 8 RX8 1 22 0 0) (hr : (f_M f).sig.returnType = none) (hl : (f_M f).locks = false) (hQ : f_Q f = MQ (f_b f) (QW g (qV q)) (f_a f) (f_s f) 0 0 (fun q => g.2.2.2 ≤ q))  {x1 : Int32} {x2 : Int32} {x3 : Int32} {μ : Mm} (h : F_X8_finds_e  (KK_X8_finds_36 g f ) (KK_X8_finds_124 g f ) q x1 x2 x3 μ) : KW g f 8 0 0 0 [some (.ref p_MO), some (.int x1), some (.int x2), some (.int x3), none, none, none, none] [] μ := by
  unfold F_X8_finds_e at h
  refine k_aload_n cx dX8_finds_0 rfl rfl ?_
  refine k_get (o := some p_MO_many) (v := .ref p_MO_many) cx fl_X8_80 ob_MO rfl rfl dX8_finds_1 ?_
  refine k_iload_n cx dX8_finds_4 rfl rfl ?_
  refine k_iconst (v := (0 : Int32)) cx dX8_finds_5 (by decide +kernel) ?_
  obtain ⟨hi, h⟩ := h
  refine k_iast cx ar_MO_many hi dX8_finds_6 ?_
  refine k_iconst (v := (0 : Int32)) cx dX8_finds_7 (by decide +kernel) ?_
  refine k_istore cx dX8_finds_8 (by decide) ?_
  refine k_iconst (v := (1 : Int32)) cx dX8_finds_10 (by decide +kernel) ?_
  refine k_iload_n cx dX8_finds_11 rfl rfl ?_
  refine k_ishl cx dX8_finds_12 ?_
  refine k_istore cx dX8_finds_13 (by decide) ?_
  refine k_aload_n cx dX8_finds_15 rfl rfl ?_
  refine k_get (o := some p_MO_spot) (v := .ref p_MO_spot) cx fl_X8_83 ob_MO rfl rfl dX8_finds_16 ?_
  refine k_iconst (v := (0 : Int32)) cx dX8_finds_19 (by decide +kernel) ?_
  refine k_iload_n cx dX8_finds_20 rfl rfl ?_
  obtain ⟨hi, h⟩ := h
  refine k_iast cx ar_MO_spot hi dX8_finds_21 ?_
  refine k_aload_n cx dX8_finds_22 rfl rfl ?_
  refine k_get (o := some p_MO_next) (v := .ref p_MO_next) cx fl_X8_86 ob_MO rfl rfl dX8_finds_23 ?_
  refine k_iconst (v := (0 : Int32)) cx dX8_finds_26 (by decide +kernel) ?_
  refine k_iconst (v := (0 : Int32)) cx dX8_finds_27 (by decide +kernel) ?_
  obtain ⟨hi, h⟩ := h
  refine k_iast cx ar_MO_next hi dX8_finds_28 ?_
  refine k_aload_n cx dX8_finds_29 rfl rfl ?_
  refine k_get (o := some p_MO_gone) (v := .ref p_MO_gone) cx fl_X8_89 ob_MO rfl rfl dX8_finds_30 ?_
  refine k_iconst (v := (0 : Int32)) cx dX8_finds_33 (by decide +kernel) ?_
  refine k_iconst (v := (0 : Int32)) cx dX8_finds_34 (by decide +kernel) ?_
  obtain ⟨hi, h⟩ := h
  refine k_iast cx ar_MO_gone hi dX8_finds_35 ?_
  exact k_weak h (lsLe.keep (lsLe.keep (lsLe.drop (lsLe.keep (lsLe.keep (lsLe.keep (lsLe.keep (lsLe.keep lsLe.nil))))))))
theorem m_X8_finds {g : GE} {l : Launch} {μ : Mm} {q : Mm → Prop} {x1 : Int32} {x2 : Int32} {x3 : Int32}  (h : Wp_X8_finds  x1 x2 x3 μ q) : MW g l yX8_finds cX8_finds 8 none 1 22 [.ref p_MO, .int x1, .int x2, .int x3] μ (qV q) := by
  refine met_of (by decide) (Nat.le_of_ble_eq_true rfl) (by intro v hv; simp only [List.mem_cons, List.not_mem_nil, or_false] at hv; rcases hv with rfl | rfl | rfl | rfl <;> rfl) ?_
  intro f hfl cx hr hl hQ
  exact b_X8_finds_e  cx hr hl hQ (h (KK_X8_finds_36 g f ) (KK_X8_finds_124 g f ) (fun _ _ _ _ _ h => b_X8_finds_36  cx hr hl hQ h) (fun _ _ _ _ _ _ _ h => b_X8_finds_124  cx hr hl hQ h))
