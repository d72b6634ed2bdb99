theorem dX7_at_0 : decode cX7_at 0 = .ok (.aload_n 0, 1) := by decide +kernel
theorem dX7_at_1 : decode cX7_at 1 = .ok (.iload_n 1, 1) := by decide +kernel
theorem dX7_at_2 : decode cX7_at 2 = .ok (.invokevirtual 177, 3) := by decide +kernel
theorem dX7_at_5 : decode cX7_at 5 = .ok (.ifCond .eq 16, 3) := by decide +kernel
theorem dX7_at_8 : decode cX7_at 8 = .ok (.aload_n 0, 1) := by decide +kernel
theorem dX7_at_9 : decode cX7_at 9 = .ok (.getfield 52, 3) := by decide +kernel
theorem dX7_at_12 : decode cX7_at 12 = .ok (.iload_n 1, 1) := by decide +kernel
theorem dX7_at_13 : decode cX7_at 13 = .ok (.aaload, 1) := by decide +kernel
theorem dX7_at_14 : decode cX7_at 14 = .ok (.iload_n 2, 1) := by decide +kernel
theorem dX7_at_15 : decode cX7_at 15 = .ok (.invokevirtual 138, 3) := by decide +kernel
theorem dX7_at_18 : decode cX7_at 18 = .ok (.ifCond .ne 13, 3) := by decide +kernel
theorem dX7_at_21 : decode cX7_at 21 = .ok (.new 81, 3) := by decide +kernel
theorem dX7_at_24 : decode cX7_at 24 = .ok (.dup, 1) := by decide +kernel
theorem dX7_at_25 : decode cX7_at 25 = .ok (.ldc 239, 2) := by decide +kernel
theorem dX7_at_27 : decode cX7_at 27 = .ok (.invokespecial 85, 3) := by decide +kernel
theorem dX7_at_30 : decode cX7_at 30 = .ok (.athrow, 1) := by decide +kernel
theorem dX7_at_31 : decode cX7_at 31 = .ok (.aload_n 0, 1) := by decide +kernel
theorem dX7_at_32 : decode cX7_at 32 = .ok (.getfield 52, 3) := by decide +kernel
theorem dX7_at_35 : decode cX7_at 35 = .ok (.iload_n 1, 1) := by decide +kernel
theorem dX7_at_36 : decode cX7_at 36 = .ok (.aaload, 1) := by decide +kernel
theorem dX7_at_37 : decode cX7_at 37 = .ok (.iload_n 2, 1) := by decide +kernel
theorem dX7_at_38 : decode cX7_at 38 = .ok (.invokevirtual 190, 3) := by decide +kernel
theorem dX7_at_41 : decode cX7_at 41 = .ok (.ireturn, 1) := by decide +kernel
def F_X7_at_e   (q : Int32 → Mm → Prop) (qx : String → Mm → Prop) (x1 : Int32) (x2 : Int32) (μ : Mm) : Prop :=
  Wp_X7_isPlaced x1 μ (fun b2 μ1 => (((bI b2) = 0 → qx "java/lang/IndexOutOfBoundsException" μ1) ∧ (¬ ((bI b2) = 0) → vp_in x1 13 ∧ Wp_X5_hasPart (p_RQ + 11 * (x1).toNatClampNeg) x2 μ1 (fun b4 μ3 => ((¬ ((bI b4) = 0) → vp_in x1 13 ∧ Wp_X5_nodeOf (p_RQ + 11 * (x1).toNatClampNeg) x2 μ3 (fun z6 μ5 => q z6 μ5)) ∧ ((bI b4) = 0 → qx "java/lang/IndexOutOfBoundsException" μ3))))))
def Wp_X7_at  (x1 : Int32) (x2 : Int32) (μ : Mm) (q : Int32 → Mm → Prop) (qx : String → Mm → Prop) : Prop := F_X7_at_e   q qx x1 x2 μ
set_option maxHeartbeats 2000000 in
theorem b_X7_at_e  {g : GE} {f : FE} {q : Int32 → Mm → Prop} {qx : String → Mm → Prop} (cx : Cx g f cX7_at 3 RX7 6 90 0 0) (hr : (f_M f).sig.returnType = (some .int)) (fx : FX g f (qI q) qx)  {x1 : Int32} {x2 : Int32} {μ : Mm} (h : F_X7_at_e   q qx x1 x2 μ) : KW g f 3 0 0 0 [some (.ref p_ML), some (.int x1), some (.int x2)] [] μ := by
  unfold F_X7_at_e at h
  refine k_aload_n cx dX7_at_0 rfl rfl ?_
  refine k_iload_n cx dX7_at_1 rfl rfl ?_
  refine k_callV (As := [.int x1]) (rest := []) cx (m_X7_isPlaced h) cv_X7_177 ob_ML rfl rfl rfl rfl (Nat.le_of_ble_eq_true rfl) ⟨Nat.le_of_ble_eq_true rfl, Nat.le_of_ble_eq_true rfl⟩ dX7_at_2 (fun v μ1 hq => ?_)
  obtain ⟨b2, rfl, h⟩ := hq
  refine k_if_eq (tgt := 21) cx dX7_at_5 (by decide) (fun hc => ?_) (fun hc => ?_)
  · replace h := h.1 hc
    exact k_throw (text := "no such request, or part of it") cx fx (by decide +kernel) (by decide +kernel) tk_IndexOutOfBoundsException ti_IndexOutOfBoundsException th_IndexOutOfBoundsException (Nat.le_of_ble_eq_true rfl) (Nat.le_of_ble_eq_true rfl) (Nat.le_of_ble_eq_true rfl) h dX7_at_21 dX7_at_24 dX7_at_25 dX7_at_27 dX7_at_30
  · replace h := h.2 hc
    refine k_aload_n cx dX7_at_8 rfl rfl ?_
    refine k_get (o := some p_ML_requests) (v := .ref p_ML_requests) cx fl_X7_52 ob_ML rfl rfl dX7_at_9 ?_
    refine k_iload_n cx dX7_at_12 rfl rfl ?_
    obtain ⟨hi1, h⟩ := h
    refine k_aald_ML_requests cx hi1 dX7_at_13 ?_
    refine k_iload_n cx dX7_at_14 rfl rfl ?_
    refine k_callV (As := [.int x2]) (rest := []) cx (m_X5_hasPart (vp_req hi1) h) cv_X7_138 (ob_RQ (vp_req hi1)) rfl rfl rfl rfl (Nat.le_of_ble_eq_true rfl) ⟨Nat.le_of_ble_eq_true rfl, Nat.le_of_ble_eq_true rfl⟩ dX7_at_15 (fun v μ3 hq => ?_)
    obtain ⟨b4, rfl, h⟩ := hq
    refine k_if_ne (tgt := 31) cx dX7_at_18 (by decide) (fun hc => ?_) (fun hc => ?_)
    · replace h := h.1 hc
      refine k_aload_n cx dX7_at_31 rfl rfl ?_
      refine k_get (o := some p_ML_requests) (v := .ref p_ML_requests) cx fl_X7_52 ob_ML rfl rfl dX7_at_32 ?_
      refine k_iload_n cx dX7_at_35 rfl rfl ?_
      obtain ⟨hi2, h⟩ := h
      refine k_aald_ML_requests cx hi2 dX7_at_36 ?_
      refine k_iload_n cx dX7_at_37 rfl rfl ?_
      refine k_callV (As := [.int x2]) (rest := []) cx (m_X5_nodeOf (vp_req hi2) h) cv_X7_190 (ob_RQ (vp_req hi2)) rfl rfl rfl rfl (Nat.le_of_ble_eq_true rfl) ⟨Nat.le_of_ble_eq_true rfl, Nat.le_of_ble_eq_true rfl⟩ dX7_at_38 (fun v μ5 hq => ?_)
      obtain ⟨z6, rfl, h⟩ := hq
      exact k_xret_I cx hr fx dX7_at_41 h
    · replace h := h.2 hc
      exact k_throw (text := "no such request, or part of it") cx fx (by decide +kernel) (by decide +kernel) tk_IndexOutOfBoundsException ti_IndexOutOfBoundsException th_IndexOutOfBoundsException (Nat.le_of_ble_eq_true rfl) (Nat.le_of_ble_eq_true rfl) (Nat.le_of_ble_eq_true rfl) h dX7_at_21 dX7_at_24 dX7_at_25 dX7_at_27 dX7_at_30
theorem m_X7_at {g : GE} {l : Launch} (hst : l.stackTraces = false) {μ : Mm} {q : Int32 → Mm → Prop} {qx : String → Mm → Prop} {x1 : Int32} {x2 : Int32}  (h : Wp_X7_at  x1 x2 μ q qx) : MX g l yX7_at cX7_at 3 (some .int) 6 90 [.ref p_ML, .int x1, .int x2] μ (qI q) qx := by
  refine xmet_of hst (by decide) (Nat.le_of_ble_eq_true rfl) (by intro v hv; simp only [List.mem_cons, List.not_mem_nil, or_false] at hv; rcases hv with rfl | rfl | rfl <;> rfl) ?_
  intro f hfl cx hr fx
  exact b_X7_at_e  cx hr fx (h  )
theorem dX7_end_0 : decode cX7_end 0 = .ok (.aload_n 0, 1) := by decide +kernel
theorem dX7_end_1 : decode cX7_end 1 = .ok (.iload_n 1, 1) := by decide +kernel
theorem dX7_end_2 : decode cX7_end 2 = .ok (.invokevirtual 177, 3) := by decide +kernel
theorem dX7_end_5 : decode cX7_end 5 = .ok (.ifCond .ne 13, 3) := by decide +kernel
theorem dX7_end_8 : decode cX7_end 8 = .ok (.new 81, 3) := by decide +kernel
theorem dX7_end_11 : decode cX7_end 11 = .ok (.dup, 1) := by decide +kernel
theorem dX7_end_12 : decode cX7_end 12 = .ok (.ldc 180, 2) := by decide +kernel
theorem dX7_end_14 : decode cX7_end 14 = .ok (.invokespecial 85, 3) := by decide +kernel
theorem dX7_end_17 : decode cX7_end 17 = .ok (.athrow, 1) := by decide +kernel
theorem dX7_end_18 : decode cX7_end 18 = .ok (.aload_n 0, 1) := by decide +kernel
theorem dX7_end_19 : decode cX7_end 19 = .ok (.getfield 52, 3) := by decide +kernel
theorem dX7_end_22 : decode cX7_end 22 = .ok (.iload_n 1, 1) := by decide +kernel
theorem dX7_end_23 : decode cX7_end 23 = .ok (.aaload, 1) := by decide +kernel
theorem dX7_end_24 : decode cX7_end 24 = .ok (.getfield 113, 3) := by decide +kernel
theorem dX7_end_27 : decode cX7_end 27 = .ok (.ifCond .eq 13, 3) := by decide +kernel
theorem dX7_end_30 : decode cX7_end 30 = .ok (.new 68, 3) := by decide +kernel
theorem dX7_end_33 : decode cX7_end 33 = .ok (.dup, 1) := by decide +kernel
theorem dX7_end_34 : decode cX7_end 34 = .ok (.ldc 182, 2) := by decide +kernel
theorem dX7_end_36 : decode cX7_end 36 = .ok (.invokespecial 72, 3) := by decide +kernel
theorem dX7_end_39 : decode cX7_end 39 = .ok (.athrow, 1) := by decide +kernel
theorem dX7_end_40 : decode cX7_end 40 = .ok (.aload_n 0, 1) := by decide +kernel
theorem dX7_end_41 : decode cX7_end 41 = .ok (.aload_n 0, 1) := by decide +kernel
theorem dX7_end_42 : decode cX7_end 42 = .ok (.getfield 52, 3) := by decide +kernel
theorem dX7_end_45 : decode cX7_end 45 = .ok (.iload_n 1, 1) := by decide +kernel
theorem dX7_end_46 : decode cX7_end 46 = .ok (.aaload, 1) := by decide +kernel
theorem dX7_end_47 : decode cX7_end 47 = .ok (.invokevirtual 184, 3) := by decide +kernel
theorem dX7_end_50 : decode cX7_end 50 = .ok (.return_, 1) := by decide +kernel
def F_X7_end_e   (q : Mm → Prop) (qx : String → Mm → Prop) (x1 : Int32) (μ : Mm) : Prop :=
  Wp_X7_isPlaced x1 μ (fun b2 μ1 => ((¬ ((bI b2) = 0) → vp_in x1 13 ∧ (((μ1 (p_RQ + 11 * (x1).toNatClampNeg) 14) = 0 → vp_in x1 13 ∧ Wp_X7_dismiss (p_RQ + 11 * (x1).toNatClampNeg) μ1 (fun μ3 => q μ3)) ∧ (¬ ((μ1 (p_RQ + 11 * (x1).toNatClampNeg) 14) = 0) → qx "java/lang/IllegalStateException" μ1))) ∧ ((bI b2) = 0 → qx "java/lang/IndexOutOfBoundsException" μ1)))
def Wp_X7_end  (x1 : Int32) (μ : Mm) (q : Mm → Prop) (qx : String → Mm → Prop) : Prop := F_X7_end_e   q qx x1 μ
set_option maxHeartbeats 2000000 in
theorem b_X7_end_e  {g : GE} {f : FE} {q : Mm → Prop} {qx : String → Mm → Prop} (cx : Cx g f cX7_end 2 RX7 6 114 0 0) (hr : (f_M f).sig.returnType = none) (fx : FX g f (qV q) qx)  {x1 : Int32} {μ : Mm} (h : F_X7_end_e   q qx x1 μ) : KW g f 2 0 0 0 [some (.ref p_ML), some (.int x1)] [] μ := by
  unfold F_X7_end_e at h
  refine k_aload_n cx dX7_end_0 rfl rfl ?_
  refine k_iload_n cx dX7_end_1 rfl rfl ?_
  refine k_callV (As := [.int x1]) (rest := []) cx (m_X7_isPlaced h) cv_X7_177 ob_ML rfl rfl rfl rfl (Nat.le_of_ble_eq_true rfl) ⟨Nat.le_of_ble_eq_true rfl, Nat.le_of_ble_eq_true rfl⟩ dX7_end_2 (fun v μ1 hq => ?_)
  obtain ⟨b2, rfl, h⟩ := hq
  refine k_if_ne (tgt := 18) cx dX7_end_5 (by decide) (fun hc => ?_) (fun hc => ?_)
  · replace h := h.1 hc
    refine k_aload_n cx dX7_end_18 rfl rfl ?_
    refine k_get (o := some p_ML_requests) (v := .ref p_ML_requests) cx fl_X7_52 ob_ML rfl rfl dX7_end_19 ?_
    refine k_iload_n cx dX7_end_22 rfl rfl ?_
    obtain ⟨hi1, h⟩ := h
    refine k_aald_ML_requests cx hi1 dX7_end_23 ?_
    refine k_get (o := none) (v := .int (μ1 (p_RQ + 11 * (x1).toNatClampNeg) 14)) cx fl_X7_113 (ob_RQ (vp_req hi1)) rfl rfl dX7_end_24 ?_
    refine k_if_eq (tgt := 40) cx dX7_end_27 (by decide) (fun hc => ?_) (fun hc => ?_)
    · replace h := h.1 hc
      refine k_aload_n cx dX7_end_40 rfl rfl ?_
      refine k_aload_n cx dX7_end_41 rfl rfl ?_
      refine k_get (o := some p_ML_requests) (v := .ref p_ML_requests) cx fl_X7_52 ob_ML rfl rfl dX7_end_42 ?_
      refine k_iload_n cx dX7_end_45 rfl rfl ?_
      obtain ⟨hi2, h⟩ := h
      refine k_aald_ML_requests cx hi2 dX7_end_46 ?_
      refine k_callV (As := [.ref (p_RQ + 11 * (x1).toNatClampNeg)]) (rest := []) cx (m_X7_dismiss (vp_req hi2) h) cv_X7_184 ob_ML rfl rfl rfl rfl (Nat.le_of_ble_eq_true rfl) ⟨Nat.le_of_ble_eq_true rfl, Nat.le_of_ble_eq_true rfl⟩ dX7_end_47 (fun v μ3 hq => ?_)
      obtain ⟨rfl, h⟩ := hq
      exact k_xret_V cx hr fx dX7_end_50 h
    · replace h := h.2 hc
      exact k_throw (text := "the request has ended") cx fx (by decide +kernel) (by decide +kernel) tk_IllegalStateException ti_IllegalStateException th_IllegalStateException (Nat.le_of_ble_eq_true rfl) (Nat.le_of_ble_eq_true rfl) (Nat.le_of_ble_eq_true rfl) h dX7_end_30 dX7_end_33 dX7_end_34 dX7_end_36 dX7_end_39
  · replace h := h.2 hc
    exact k_throw (text := "no such request") cx fx (by decide +kernel) (by decide +kernel) tk_IndexOutOfBoundsException ti_IndexOutOfBoundsException th_IndexOutOfBoundsException (Nat.le_of_ble_eq_true rfl) (Nat.le_of_ble_eq_true rfl) (Nat.le_of_ble_eq_true rfl) h dX7_end_8 dX7_end_11 dX7_end_12 dX7_end_14 dX7_end_17
theorem m_X7_end {g : GE} {l : Launch} (hst : l.stackTraces = false) {μ : Mm} {q : Mm → Prop} {qx : String → Mm → Prop} {x1 : Int32}  (h : Wp_X7_end  x1 μ q qx) : MX g l yX7_end cX7_end 2 none 6 114 [.ref p_ML, .int x1] μ (qV q) qx := by
  refine xmet_of hst (by decide) (Nat.le_of_ble_eq_true rfl) (by intro v hv; simp only [List.mem_cons, List.not_mem_nil, or_false] at hv; rcases hv with rfl | rfl <;> rfl) ?_
  intro f hfl cx hr fx
  exact b_X7_end_e  cx hr fx (h  )
theorem dX7_fail_0 : decode cX7_fail 0 = .ok (.aload_n 0, 1) := by decide +kernel
theorem dX7_fail_1 : decode cX7_fail 1 = .ok (.getfield 12, 3) := by decide +kernel
theorem dX7_fail_4 : decode cX7_fail 4 = .ok (.iload_n 1, 1) := by decide +kernel
theorem dX7_fail_5 : decode cX7_fail 5 = .ok (.invokevirtual 101, 3) := by decide +kernel
theorem dX7_fail_8 : decode cX7_fail 8 = .ok (.ifCond .ne 13, 3) := by decide +kernel
theorem dX7_fail_11 : decode cX7_fail 11 = .ok (.new 81, 3) := by decide +kernel
theorem dX7_fail_14 : decode cX7_fail 14 = .ok (.dup, 1) := by decide +kernel
theorem dX7_fail_15 : decode cX7_fail 15 = .ok (.ldc 104, 2) := by decide +kernel
theorem dX7_fail_17 : decode cX7_fail 17 = .ok (.invokespecial 85, 3) := by decide +kernel
theorem dX7_fail_20 : decode cX7_fail 20 = .ok (.athrow, 1) := by decide +kernel
theorem dX7_fail_21 : decode cX7_fail 21 = .ok (.aload_n 0, 1) := by decide +kernel
theorem dX7_fail_22 : decode cX7_fail 22 = .ok (.getfield 12, 3) := by decide +kernel
theorem dX7_fail_25 : decode cX7_fail 25 = .ok (.iload_n 1, 1) := by decide +kernel
theorem dX7_fail_26 : decode cX7_fail 26 = .ok (.iload_n 2, 1) := by decide +kernel
theorem dX7_fail_27 : decode cX7_fail 27 = .ok (.invokevirtual 106, 3) := by decide +kernel
theorem dX7_fail_30 : decode cX7_fail 30 = .ok (.iconst 0, 1) := by decide +kernel
theorem dX7_fail_31 : decode cX7_fail 31 = .ok (.istore_n 3, 1) := by decide +kernel
theorem dX7_fail_32 : decode cX7_fail 32 = .ok (.iconst 0, 1) := by decide +kernel
theorem dX7_fail_33 : decode cX7_fail 33 = .ok (.istore 4, 2) := by decide +kernel
theorem dX7_fail_35 : decode cX7_fail 35 = .ok (.iload 4, 2) := by decide +kernel
theorem dX7_fail_37 : decode cX7_fail 37 = .ok (.aload_n 0, 1) := by decide +kernel
theorem dX7_fail_38 : decode cX7_fail 38 = .ok (.getfield 110, 3) := by decide +kernel
theorem dX7_fail_41 : decode cX7_fail 41 = .ok (.if_icmp .ge 44, 3) := by decide +kernel
theorem dX7_fail_44 : decode cX7_fail 44 = .ok (.aload_n 0, 1) := by decide +kernel
theorem dX7_fail_45 : decode cX7_fail 45 = .ok (.getfield 52, 3) := by decide +kernel
theorem dX7_fail_48 : decode cX7_fail 48 = .ok (.iload 4, 2) := by decide +kernel
theorem dX7_fail_50 : decode cX7_fail 50 = .ok (.aaload, 1) := by decide +kernel
theorem dX7_fail_51 : decode cX7_fail 51 = .ok (.astore 5, 2) := by decide +kernel
theorem dX7_fail_53 : decode cX7_fail 53 = .ok (.aload 5, 2) := by decide +kernel
theorem dX7_fail_55 : decode cX7_fail 55 = .ok (.getfield 113, 3) := by decide +kernel
theorem dX7_fail_58 : decode cX7_fail 58 = .ok (.ifCond .ne 21, 3) := by decide +kernel
theorem dX7_fail_61 : decode cX7_fail 61 = .ok (.aload 5, 2) := by decide +kernel
theorem dX7_fail_63 : decode cX7_fail 63 = .ok (.aload_n 0, 1) := by decide +kernel
theorem dX7_fail_64 : decode cX7_fail 64 = .ok (.getfield 12, 3) := by decide +kernel
theorem dX7_fail_67 : decode cX7_fail 67 = .ok (.getfield 117, 3) := by decide +kernel
theorem dX7_fail_70 : decode cX7_fail 70 = .ok (.invokevirtual 120, 3) := by decide +kernel
theorem dX7_fail_73 : decode cX7_fail 73 = .ok (.ifCond .le 6, 3) := by decide +kernel
theorem dX7_fail_76 : decode cX7_fail 76 = .ok (.iinc 3 1, 3) := by decide +kernel
theorem dX7_fail_79 : decode cX7_fail 79 = .ok (.iinc 4 1, 3) := by decide +kernel
theorem dX7_fail_82 : decode cX7_fail 82 = .ok (.goto (-47), 3) := by decide +kernel
theorem dX7_fail_85 : decode cX7_fail 85 = .ok (.iload_n 3, 1) := by decide +kernel
theorem dX7_fail_86 : decode cX7_fail 86 = .ok (.ireturn, 1) := by decide +kernel
def F_X7_fail_35  (K35 : Int32 → Int32 → Mm → Prop) (q : Int32 → Mm → Prop) (qx : String → Mm → Prop) (x3 : Int32) (x4 : Int32) (μ : Mm) : Prop :=
  (((μ p_ML 6) ≤ x4 → q x3 μ) ∧ (¬ ((μ p_ML 6) ≤ x4) → vp_in x4 13 ∧ ((¬ ((μ (p_RQ + 11 * (x4).toNatClampNeg) 14) = 0) → K35 x3 (x4 + (1 : Int32)) μ) ∧ ((μ (p_RQ + 11 * (x4).toNatClampNeg) 14) = 0 → Wp_X5_stoppedLines (p_RQ + 11 * (x4).toNatClampNeg) (μ p_GR 8) μ (fun z2 μ1 => ((z2 ≤ 0 → K35 x3 (x4 + (1 : Int32)) μ1) ∧ (¬ (z2 ≤ 0) → K35 (x3 + (1 : Int32)) (x4 + (1 : Int32)) μ1)))))))
def F_X7_fail_e  (K35 : Int32 → Int32 → Mm → Prop) (q : Int32 → Mm → Prop) (qx : String → Mm → Prop) (x1 : Int32) (x2 : Int32) (μ : Mm) : Prop :=
  Wp_X2_hasLink x1 μ (fun b2 μ1 => ((¬ ((bI b2) = 0) → Wp_X2_setFailed x1 x2 μ1 (fun μ3 => K35 (0 : Int32) (0 : Int32) μ3)) ∧ ((bI b2) = 0 → qx "java/lang/IndexOutOfBoundsException" μ1)))
def Wp_X7_fail  (x1 : Int32) (x2 : Int32) (μ : Mm) (q : Int32 → Mm → Prop) (qx : String → Mm → Prop) : Prop := ∀ (K35 : Int32 → Int32 → Mm → Prop), (∀ (x3 : Int32) (x4 : Int32) (μ : Mm), F_X7_fail_35  K35 q qx x3 x4 μ → K35 x3 x4 μ) → F_X7_fail_e  K35 q qx x1 x2 μ
abbrev KK_X7_fail_35 (g : GE) (f : FE)  : Int32 → Int32 → Mm → Prop := fun x3 x4 μ => KW g f 6 0 0 35 [some (.ref p_ML), none, none, some (.int x3), some (.int x4), none] [] μ
set_option maxHeartbeats 2000000 in
theorem b_X7_fail_35  {g : GE} {f : FE} {q : Int32 → Mm → Prop} {qx : String → Mm → Prop} (cx : Cx g f cX7_fail 6 RX7 10 247 0 0) (hr : (f_M f).sig.returnType = (some .int)) (fx : FX g f (qI q) qx)  {x3 : Int32} {x4 : Int32} {μ : Mm} (h : F_X7_fail_35  (KK_X7_fail_35 g f ) q qx x3 x4 μ) : KK_X7_fail_35 g f  x3 x4 μ := by
  unfold F_X7_fail_35 at h
  show KW g f 6 0 0 35 [some (.ref p_ML), none, none, some (.int x3), some (.int x4), none] [] μ
  refine k_iload cx dX7_fail_35 rfl ?_
  refine k_aload_n cx dX7_fail_37 rfl rfl ?_
  refine k_get (o := none) (v := .int (μ p_ML 6)) cx fl_X7_110 ob_ML rfl rfl dX7_fail_38 ?_
  refine k_icmp_ge (tgt := 85) cx dX7_fail_41 (by decide) (fun hc => ?_) (fun hc => ?_)
  · replace h := h.1 hc
    refine k_iload_n cx dX7_fail_85 rfl rfl ?_
    exact k_xret_I cx hr fx dX7_fail_86 h
  · replace h := h.2 hc
    refine k_aload_n cx dX7_fail_44 rfl rfl ?_
    refine k_get (o := some p_ML_requests) (v := .ref p_ML_requests) cx fl_X7_52 ob_ML rfl rfl dX7_fail_45 ?_
    refine k_iload cx dX7_fail_48 rfl ?_
    obtain ⟨hi1, h⟩ := h
    refine k_aald_ML_requests cx hi1 dX7_fail_50 ?_
    refine k_astore cx dX7_fail_51 (by decide) ?_
    refine k_aload cx dX7_fail_53 rfl ?_
    refine k_get (o := none) (v := .int (μ (p_RQ + 11 * (x4).toNatClampNeg) 14)) cx fl_X7_113 (ob_RQ (vp_req hi1)) rfl rfl dX7_fail_55 ?_
    refine k_if_ne (tgt := 79) cx dX7_fail_58 (by decide) (fun hc => ?_) (fun hc => ?_)
    · replace h := h.1 hc
      refine k_iinc (v := (x4 + (1 : Int32))) cx dX7_fail_79 rfl rfl (by decide) ?_
      refine k_goto (tgt := 35) cx dX7_fail_82 (by decide) ?_
      exact k_weak h (lsLe.keep (lsLe.keep (lsLe.keep (lsLe.keep (lsLe.keep (lsLe.drop lsLe.nil))))))
    · replace h := h.2 hc
      refine k_aload cx dX7_fail_61 rfl ?_
      refine k_aload_n cx dX7_fail_63 rfl rfl ?_
      refine k_get (o := some p_GR) (v := .ref p_GR) cx fl_X7_12 ob_ML rfl rfl dX7_fail_64 ?_
      refine k_get (o := none) (v := .int (μ p_GR 8)) cx fl_X7_117 ob_GR rfl rfl dX7_fail_67 ?_
      refine k_callV (As := [.int (μ p_GR 8)]) (rest := []) cx (m_X5_stoppedLines (vp_req hi1) h) cv_X7_120 (ob_RQ (vp_req hi1)) rfl rfl rfl rfl (Nat.le_of_ble_eq_true rfl) ⟨Nat.le_of_ble_eq_true rfl, Nat.le_of_ble_eq_true rfl⟩ dX7_fail_70 (fun v μ1 hq => ?_)
      obtain ⟨z2, rfl, h⟩ := hq
      refine k_if_le (tgt := 79) cx dX7_fail_73 (by decide) (fun hc => ?_) (fun hc => ?_)
      · replace h := h.1 hc
        refine k_iinc (v := (x4 + (1 : Int32))) cx dX7_fail_79 rfl rfl (by decide) ?_
        refine k_goto (tgt := 35) cx dX7_fail_82 (by decide) ?_
        exact k_weak h (lsLe.keep (lsLe.keep (lsLe.keep (lsLe.keep (lsLe.keep (lsLe.drop lsLe.nil))))))
      · replace h := h.2 hc
        refine k_iinc (v := (x3 + (1 : Int32))) cx dX7_fail_76 rfl rfl (by decide) ?_
        refine k_iinc (v := (x4 + (1 : Int32))) cx dX7_fail_79 rfl rfl (by decide) ?_
        refine k_goto (tgt := 35) cx dX7_fail_82 (by decide) ?_
        exact k_weak h (lsLe.keep (lsLe.keep (lsLe.keep (lsLe.keep (lsLe.keep (lsLe.drop lsLe.nil))))))
set_option maxHeartbeats 2000000 in
theorem b_X7_fail_e  {g : GE} {f : FE} {q : Int32 → Mm → Prop} {qx : String → Mm → Prop} (cx : Cx g f cX7_fail 6 RX7 10 247 0 0) (hr : (f_M f).sig.returnType = (some .int)) (fx : FX g f (qI q) qx)  {x1 : Int32} {x2 : Int32} {μ : Mm} (h : F_X7_fail_e  (KK_X7_fail_35 g f ) q qx x1 x2 μ) : KW g f 6 0 0 0 [some (.ref p_ML), some (.int x1), some (.int x2), none, none, none] [] μ := by
  unfold F_X7_fail_e at h
  refine k_aload_n cx dX7_fail_0 rfl rfl ?_
  refine k_get (o := some p_GR) (v := .ref p_GR) cx fl_X7_12 ob_ML rfl rfl dX7_fail_1 ?_
  refine k_iload_n cx dX7_fail_4 rfl rfl ?_
  refine k_callV (As := [.int x1]) (rest := []) cx (m_X2_hasLink h) cv_X7_101 ob_GR rfl rfl rfl rfl (Nat.le_of_ble_eq_true rfl) ⟨Nat.le_of_ble_eq_true rfl, Nat.le_of_ble_eq_true rfl⟩ dX7_fail_5 (fun v μ1 hq => ?_)
  obtain ⟨b2, rfl, h⟩ := hq
  refine k_if_ne (tgt := 21) cx dX7_fail_8 (by decide) (fun hc => ?_) (fun hc => ?_)
  · replace h := h.1 hc
    refine k_aload_n cx dX7_fail_21 rfl rfl ?_
    refine k_get (o := some p_GR) (v := .ref p_GR) cx fl_X7_12 ob_ML rfl rfl dX7_fail_22 ?_
    refine k_iload_n cx dX7_fail_25 rfl rfl ?_
    refine k_iload_n cx dX7_fail_26 rfl rfl ?_
    refine k_callV (As := [.int x1, .int x2]) (rest := []) cx (m_X2_setFailed h) cv_X7_106 ob_GR rfl rfl rfl rfl (Nat.le_of_ble_eq_true rfl) ⟨Nat.le_of_ble_eq_true rfl, Nat.le_of_ble_eq_true rfl⟩ dX7_fail_27 (fun v μ3 hq => ?_)
    obtain ⟨rfl, h⟩ := hq
    refine k_iconst (v := (0 : Int32)) cx dX7_fail_30 (by decide +kernel) ?_
    refine k_istore_n cx dX7_fail_31 rfl (by decide) ?_
    refine k_iconst (v := (0 : Int32)) cx dX7_fail_32 (by decide +kernel) ?_
    refine k_istore cx dX7_fail_33 (by decide) ?_
    exact k_weak h (lsLe.keep (lsLe.drop (lsLe.drop (lsLe.keep (lsLe.keep (lsLe.keep lsLe.nil))))))
  · replace h := h.2 hc
    exact k_throw (text := "no such link") cx fx (by decide +kernel) (by decide +kernel) tk_IndexOutOfBoundsException ti_IndexOutOfBoundsException th_IndexOutOfBoundsException (Nat.le_of_ble_eq_true rfl) (Nat.le_of_ble_eq_true rfl) (Nat.le_of_ble_eq_true rfl) h dX7_fail_11 dX7_fail_14 dX7_fail_15 dX7_fail_17 dX7_fail_20
theorem m_X7_fail {g : GE} {l : Launch} (hst : l.stackTraces = false) {μ : Mm} {q : Int32 → Mm → Prop} {qx : String → Mm → Prop} {x1 : Int32} {x2 : Int32}  (h : Wp_X7_fail  x1 x2 μ q qx) : MX g l yX7_fail cX7_fail 6 (some .int) 10 247 [.ref p_ML, .int x1, .int x2] μ (qI q) qx := by
  refine xmet_of hst (by decide) (Nat.le_of_ble_eq_true rfl) (by intro v hv; simp only [List.mem_cons, List.not_mem_nil, or_false] at hv; rcases hv with rfl | rfl | rfl <;> rfl) ?_
  intro f hfl cx hr fx
  exact b_X7_fail_e  cx hr fx (h (KK_X7_fail_35 g f ) (fun _ _ _ h => b_X7_fail_35  cx hr fx h))
theorem dX7_line_0 : decode cX7_line 0 = .ok (.aload_n 0, 1) := by decide +kernel
theorem dX7_line_1 : decode cX7_line 1 = .ok (.invokevirtual 125, 3) := by decide +kernel
theorem dX7_line_4 : decode cX7_line 4 = .ok (.iload_n 1, 1) := by decide +kernel
theorem dX7_line_5 : decode cX7_line 5 = .ok (.invokevirtual 138, 3) := by decide +kernel
theorem dX7_line_8 : decode cX7_line 8 = .ok (.ifCond .eq 14, 3) := by decide +kernel
theorem dX7_line_11 : decode cX7_line 11 = .ok (.aload_n 0, 1) := by decide +kernel
theorem dX7_line_12 : decode cX7_line 12 = .ok (.invokevirtual 125, 3) := by decide +kernel
theorem dX7_line_15 : decode cX7_line 15 = .ok (.iload_n 2, 1) := by decide +kernel
theorem dX7_line_16 : decode cX7_line 16 = .ok (.invokevirtual 138, 3) := by decide +kernel
theorem dX7_line_19 : decode cX7_line 19 = .ok (.ifCond .ne 13, 3) := by decide +kernel
theorem dX7_line_22 : decode cX7_line 22 = .ok (.new 81, 3) := by decide +kernel
theorem dX7_line_25 : decode cX7_line 25 = .ok (.dup, 1) := by decide +kernel
theorem dX7_line_26 : decode cX7_line 26 = .ok (.ldc 141, 2) := by decide +kernel
theorem dX7_line_28 : decode cX7_line 28 = .ok (.invokespecial 85, 3) := by decide +kernel
theorem dX7_line_31 : decode cX7_line 31 = .ok (.athrow, 1) := by decide +kernel
theorem dX7_line_32 : decode cX7_line 32 = .ok (.iload_n 1, 1) := by decide +kernel
theorem dX7_line_33 : decode cX7_line 33 = .ok (.iload_n 2, 1) := by decide +kernel
theorem dX7_line_34 : decode cX7_line 34 = .ok (.if_icmp .eq 14, 3) := by decide +kernel
theorem dX7_line_37 : decode cX7_line 37 = .ok (.iload_n 3, 1) := by decide +kernel
theorem dX7_line_38 : decode cX7_line 38 = .ok (.iconst 1, 1) := by decide +kernel
theorem dX7_line_39 : decode cX7_line 39 = .ok (.if_icmp .lt 9, 3) := by decide +kernel
theorem dX7_line_42 : decode cX7_line 42 = .ok (.iload_n 3, 1) := by decide +kernel
theorem dX7_line_43 : decode cX7_line 43 = .ok (.bipush 20, 2) := by decide +kernel
theorem dX7_line_45 : decode cX7_line 45 = .ok (.if_icmp .le 13, 3) := by decide +kernel
theorem dX7_line_48 : decode cX7_line 48 = .ok (.new 57, 3) := by decide +kernel
theorem dX7_line_51 : decode cX7_line 51 = .ok (.dup, 1) := by decide +kernel
theorem dX7_line_52 : decode cX7_line 52 = .ok (.ldc 143, 2) := by decide +kernel
theorem dX7_line_54 : decode cX7_line 54 = .ok (.invokespecial 61, 3) := by decide +kernel
theorem dX7_line_57 : decode cX7_line 57 = .ok (.athrow, 1) := by decide +kernel
theorem dX7_line_58 : decode cX7_line 58 = .ok (.aload_n 0, 1) := by decide +kernel
theorem dX7_line_59 : decode cX7_line 59 = .ok (.invokevirtual 125, 3) := by decide +kernel
theorem dX7_line_62 : decode cX7_line 62 = .ok (.getfield 145, 3) := by decide +kernel
theorem dX7_line_65 : decode cX7_line 65 = .ok (.iconst 3, 1) := by decide +kernel
theorem dX7_line_66 : decode cX7_line 66 = .ok (.if_icmp .ge 15, 3) := by decide +kernel
theorem dX7_line_69 : decode cX7_line 69 = .ok (.aload_n 0, 1) := by decide +kernel
theorem dX7_line_70 : decode cX7_line 70 = .ok (.invokevirtual 125, 3) := by decide +kernel
theorem dX7_line_73 : decode cX7_line 73 = .ok (.iload_n 1, 1) := by decide +kernel
theorem dX7_line_74 : decode cX7_line 74 = .ok (.iload_n 2, 1) := by decide +kernel
theorem dX7_line_75 : decode cX7_line 75 = .ok (.invokevirtual 148, 3) := by decide +kernel
theorem dX7_line_78 : decode cX7_line 78 = .ok (.ifCond .eq 13, 3) := by decide +kernel
theorem dX7_line_81 : decode cX7_line 81 = .ok (.new 68, 3) := by decide +kernel
theorem dX7_line_84 : decode cX7_line 84 = .ok (.dup, 1) := by decide +kernel
theorem dX7_line_85 : decode cX7_line 85 = .ok (.ldc 151, 2) := by decide +kernel
theorem dX7_line_87 : decode cX7_line 87 = .ok (.invokespecial 72, 3) := by decide +kernel
theorem dX7_line_90 : decode cX7_line 90 = .ok (.athrow, 1) := by decide +kernel
theorem dX7_line_91 : decode cX7_line 91 = .ok (.aload_n 0, 1) := by decide +kernel
theorem dX7_line_92 : decode cX7_line 92 = .ok (.invokevirtual 125, 3) := by decide +kernel
theorem dX7_line_95 : decode cX7_line 95 = .ok (.iload_n 1, 1) := by decide +kernel
theorem dX7_line_96 : decode cX7_line 96 = .ok (.iload_n 2, 1) := by decide +kernel
theorem dX7_line_97 : decode cX7_line 97 = .ok (.iload_n 3, 1) := by decide +kernel
theorem dX7_line_98 : decode cX7_line 98 = .ok (.invokevirtual 153, 3) := by decide +kernel
theorem dX7_line_101 : decode cX7_line 101 = .ok (.ireturn, 1) := by decide +kernel
def F_X7_line_e   (q : Int32 → Mm → Prop) (qx : String → Mm → Prop) (x1 : Int32) (x2 : Int32) (x3 : Int32) (μ : Mm) : Prop :=
  Wp_X7_draft μ (fun r2 μ1 => Wp_X5_hasPart r2 x1 μ1 (fun b4 μ3 => (((bI b4) = 0 → qx "java/lang/IndexOutOfBoundsException" μ3) ∧ (¬ ((bI b4) = 0) → Wp_X7_draft μ3 (fun r6 μ5 => Wp_X5_hasPart r6 x2 μ5 (fun b8 μ7 => ((¬ ((bI b8) = 0) → ((x1 = x2 → qx "java/lang/IllegalArgumentException" μ7) ∧ (¬ (x1 = x2) → ((x3 < (1 : Int32) → qx "java/lang/IllegalArgumentException" μ7) ∧ (¬ (x3 < (1 : Int32)) → ((x3 ≤ (20 : Int32) → Wp_X7_draft μ7 (fun r10 μ9 => (((3 : Int32) ≤ (μ9 r10 11) → qx "java/lang/IllegalStateException" μ9) ∧ (¬ ((3 : Int32) ≤ (μ9 r10 11)) → Wp_X7_draft μ9 (fun r12 μ11 => Wp_X5_hasLineFor r12 x1 x2 μ11 (fun b14 μ13 => (((bI b14) = 0 → Wp_X7_draft μ13 (fun r16 μ15 => Wp_X5_addLine r16 x1 x2 x3 μ15 (fun z18 μ17 => q z18 μ17))) ∧ (¬ ((bI b14) = 0) → qx "java/lang/IllegalStateException" μ13)))))))) ∧ (¬ (x3 ≤ (20 : Int32)) → qx "java/lang/IllegalArgumentException" μ7))))))) ∧ ((bI b8) = 0 → qx "java/lang/IndexOutOfBoundsException" μ7))))))))
def Wp_X7_line  (x1 : Int32) (x2 : Int32) (x3 : Int32) (μ : Mm) (q : Int32 → Mm → Prop) (qx : String → Mm → Prop) : Prop := F_X7_line_e   q qx x1 x2 x3 μ
set_option maxHeartbeats 2000000 in
theorem b_X7_line_e  {g : GE} {f : FE} {q : Int32 → Mm → Prop} {qx : String → Mm → Prop} (cx : Cx g f cX7_line 4 RX7 6 90 0 0) (hr : (f_M f).sig.returnType = (some .int)) (fx : FX g f (qI q) qx)  {x1 : Int32} {x2 : Int32} {x3 : Int32} {μ : Mm} (h : F_X7_line_e   q qx x1 x2 x3 μ) : KW g f 4 0 0 0 [some (.ref p_ML), some (.int x1), some (.int x2), some (.int x3)] [] μ := by
  unfold F_X7_line_e at h
  refine k_aload_n cx dX7_line_0 rfl rfl ?_
  refine k_callV (As := []) (rest := []) cx (m_X7_draft h) cv_X7_125 ob_ML rfl rfl rfl rfl (Nat.le_of_ble_eq_true rfl) ⟨Nat.le_of_ble_eq_true rfl, Nat.le_of_ble_eq_true rfl⟩ dX7_line_1 (fun v μ1 hq => ?_)
  obtain ⟨r2, rfl, hr_r2, h⟩ := hq
  refine k_iload_n cx dX7_line_4 rfl rfl ?_
  refine k_callV (As := [.int x1]) (rest := []) cx (m_X5_hasPart hr_r2 h) cv_X7_138 (ob_RQ hr_r2) rfl rfl rfl rfl (Nat.le_of_ble_eq_true rfl) ⟨Nat.le_of_ble_eq_true rfl, Nat.le_of_ble_eq_true rfl⟩ dX7_line_5 (fun v μ3 hq => ?_)
  obtain ⟨b4, rfl, h⟩ := hq
  refine k_if_eq (tgt := 22) cx dX7_line_8 (by decide) (fun hc => ?_) (fun hc => ?_)
  · replace h := h.1 hc
    exact k_throw (text := "no such part") cx fx (by decide +kernel) (by decide +kernel) tk_IndexOutOfBoundsException ti_IndexOutOfBoundsException th_IndexOutOfBoundsException (Nat.le_of_ble_eq_true rfl) (Nat.le_of_ble_eq_true rfl) (Nat.le_of_ble_eq_true rfl) h dX7_line_22 dX7_line_25 dX7_line_26 dX7_line_28 dX7_line_31
  · replace h := h.2 hc
    refine k_aload_n cx dX7_line_11 rfl rfl ?_
    refine k_callV (As := []) (rest := []) cx (m_X7_draft h) cv_X7_125 ob_ML rfl rfl rfl rfl (Nat.le_of_ble_eq_true rfl) ⟨Nat.le_of_ble_eq_true rfl, Nat.le_of_ble_eq_true rfl⟩ dX7_line_12 (fun v μ5 hq => ?_)
    obtain ⟨r6, rfl, hr_r6, h⟩ := hq
    refine k_iload_n cx dX7_line_15 rfl rfl ?_
    refine k_callV (As := [.int x2]) (rest := []) cx (m_X5_hasPart hr_r6 h) cv_X7_138 (ob_RQ hr_r6) rfl rfl rfl rfl (Nat.le_of_ble_eq_true rfl) ⟨Nat.le_of_ble_eq_true rfl, Nat.le_of_ble_eq_true rfl⟩ dX7_line_16 (fun v μ7 hq => ?_)
    obtain ⟨b8, rfl, h⟩ := hq
    refine k_if_ne (tgt := 32) cx dX7_line_19 (by decide) (fun hc => ?_) (fun hc => ?_)
    · replace h := h.1 hc
      refine k_iload_n cx dX7_line_32 rfl rfl ?_
      refine k_iload_n cx dX7_line_33 rfl rfl ?_
      refine k_icmp_eq (tgt := 48) cx dX7_line_34 (by decide) (fun hc => ?_) (fun hc => ?_)
      · replace h := h.1 hc
        exact k_throw (text := "both parts are the same, or need is out of range") cx fx (by decide +kernel) (by decide +kernel) tk_IllegalArgumentException ti_IllegalArgumentException th_IllegalArgumentException (Nat.le_of_ble_eq_true rfl) (Nat.le_of_ble_eq_true rfl) (Nat.le_of_ble_eq_true rfl) h dX7_line_48 dX7_line_51 dX7_line_52 dX7_line_54 dX7_line_57
      · replace h := h.2 hc
        refine k_iload_n cx dX7_line_37 rfl rfl ?_
        refine k_iconst (v := (1 : Int32)) cx dX7_line_38 (by decide +kernel) ?_
        refine k_icmp_lt (tgt := 48) cx dX7_line_39 (by decide) (fun hc => ?_) (fun hc => ?_)
        · replace h := h.1 hc
          exact k_throw (text := "both parts are the same, or need is out of range") cx fx (by decide +kernel) (by decide +kernel) tk_IllegalArgumentException ti_IllegalArgumentException th_IllegalArgumentException (Nat.le_of_ble_eq_true rfl) (Nat.le_of_ble_eq_true rfl) (Nat.le_of_ble_eq_true rfl) h dX7_line_48 dX7_line_51 dX7_line_52 dX7_line_54 dX7_line_57
        · replace h := h.2 hc
          refine k_iload_n cx dX7_line_42 rfl rfl ?_
          refine k_bipush (v := (20 : Int32)) cx dX7_line_43 (by decide +kernel) ?_
          refine k_icmp_le (tgt := 58) cx dX7_line_45 (by decide) (fun hc => ?_) (fun hc => ?_)
          · replace h := h.1 hc
            refine k_aload_n cx dX7_line_58 rfl rfl ?_
            refine k_callV (As := []) (rest := []) cx (m_X7_draft h) cv_X7_125 ob_ML rfl rfl rfl rfl (Nat.le_of_ble_eq_true rfl) ⟨Nat.le_of_ble_eq_true rfl, Nat.le_of_ble_eq_true rfl⟩ dX7_line_59 (fun v μ9 hq => ?_)
            obtain ⟨r10, rfl, hr_r10, h⟩ := hq
            refine k_get (o := none) (v := .int (μ9 r10 11)) cx fl_X7_145 (ob_RQ hr_r10) rfl rfl dX7_line_62 ?_
            refine k_iconst (v := (3 : Int32)) cx dX7_line_65 (by decide +kernel) ?_
            refine k_icmp_ge (tgt := 81) cx dX7_line_66 (by decide) (fun hc => ?_) (fun hc => ?_)
            · replace h := h.1 hc
              exact k_throw (text := "there is a line for both") cx fx (by decide +kernel) (by decide +kernel) tk_IllegalStateException ti_IllegalStateException th_IllegalStateException (Nat.le_of_ble_eq_true rfl) (Nat.le_of_ble_eq_true rfl) (Nat.le_of_ble_eq_true rfl) h dX7_line_81 dX7_line_84 dX7_line_85 dX7_line_87 dX7_line_90
            · replace h := h.2 hc
              refine k_aload_n cx dX7_line_69 rfl rfl ?_
              refine k_callV (As := []) (rest := []) cx (m_X7_draft h) cv_X7_125 ob_ML rfl rfl rfl rfl (Nat.le_of_ble_eq_true rfl) ⟨Nat.le_of_ble_eq_true rfl, Nat.le_of_ble_eq_true rfl⟩ dX7_line_70 (fun v μ11 hq => ?_)
              obtain ⟨r12, rfl, hr_r12, h⟩ := hq
              refine k_iload_n cx dX7_line_73 rfl rfl ?_
              refine k_iload_n cx dX7_line_74 rfl rfl ?_
              refine k_callV (As := [.int x1, .int x2]) (rest := []) cx (m_X5_hasLineFor hr_r12 h) cv_X7_148 (ob_RQ hr_r12) rfl rfl rfl rfl (Nat.le_of_ble_eq_true rfl) ⟨Nat.le_of_ble_eq_true rfl, Nat.le_of_ble_eq_true rfl⟩ dX7_line_75 (fun v μ13 hq => ?_)
              obtain ⟨b14, rfl, h⟩ := hq
              refine k_if_eq (tgt := 91) cx dX7_line_78 (by decide) (fun hc => ?_) (fun hc => ?_)
              · replace h := h.1 hc
                refine k_aload_n cx dX7_line_91 rfl rfl ?_
                refine k_callV (As := []) (rest := []) cx (m_X7_draft h) cv_X7_125 ob_ML rfl rfl rfl rfl (Nat.le_of_ble_eq_true rfl) ⟨Nat.le_of_ble_eq_true rfl, Nat.le_of_ble_eq_true rfl⟩ dX7_line_92 (fun v μ15 hq => ?_)
                obtain ⟨r16, rfl, hr_r16, h⟩ := hq
                refine k_iload_n cx dX7_line_95 rfl rfl ?_
                refine k_iload_n cx dX7_line_96 rfl rfl ?_
                refine k_iload_n cx dX7_line_97 rfl rfl ?_
                refine k_callV (As := [.int x1, .int x2, .int x3]) (rest := []) cx (m_X5_addLine hr_r16 h) cv_X7_153 (ob_RQ hr_r16) rfl rfl rfl rfl (Nat.le_of_ble_eq_true rfl) ⟨Nat.le_of_ble_eq_true rfl, Nat.le_of_ble_eq_true rfl⟩ dX7_line_98 (fun v μ17 hq => ?_)
                obtain ⟨z18, rfl, h⟩ := hq
                exact k_xret_I cx hr fx dX7_line_101 h
              · replace h := h.2 hc
                exact k_throw (text := "there is a line for both") cx fx (by decide +kernel) (by decide +kernel) tk_IllegalStateException ti_IllegalStateException th_IllegalStateException (Nat.le_of_ble_eq_true rfl) (Nat.le_of_ble_eq_true rfl) (Nat.le_of_ble_eq_true rfl) h dX7_line_81 dX7_line_84 dX7_line_85 dX7_line_87 dX7_line_90
          · replace h := h.2 hc
            exact k_throw (text := "both parts are the same, or need is out of range") cx fx (by decide +kernel) (by decide +kernel) tk_IllegalArgumentException ti_IllegalArgumentException th_IllegalArgumentException (Nat.le_of_ble_eq_true rfl) (Nat.le_of_ble_eq_true rfl) (Nat.le_of_ble_eq_true rfl) h dX7_line_48 dX7_line_51 dX7_line_52 dX7_line_54 dX7_line_57
    · replace h := h.2 hc
      exact k_throw (text := "no such part") cx fx (by decide +kernel) (by decide +kernel) tk_IndexOutOfBoundsException ti_IndexOutOfBoundsException th_IndexOutOfBoundsException (Nat.le_of_ble_eq_true rfl) (Nat.le_of_ble_eq_true rfl) (Nat.le_of_ble_eq_true rfl) h dX7_line_22 dX7_line_25 dX7_line_26 dX7_line_28 dX7_line_31
theorem m_X7_line {g : GE} {l : Launch} (hst : l.stackTraces = false) {μ : Mm} {q : Int32 → Mm → Prop} {qx : String → Mm → Prop} {x1 : Int32} {x2 : Int32} {x3 : Int32}  (h : Wp_X7_line  x1 x2 x3 μ q qx) : MX g l yX7_line cX7_line 4 (some .int) 6 90 [.ref p_ML, .int x1, .int x2, .int x3] μ (qI q) qx := by
  refine xmet_of hst (by decide) (Nat.le_of_ble_eq_true rfl) (by intro v hv; simp only [List.mem_cons, List.not_mem_nil, or_false] at hv; rcases hv with rfl | rfl | rfl | rfl <;> rfl) ?_
  intro f hfl cx hr fx
  exact b_X7_line_e  cx hr fx (h  )
theorem dX7_link_0 : decode cX7_link 0 = .ok (.aload_n 0, 1) := by decide +kernel
theorem dX7_link_1 : decode cX7_link 1 = .ok (.getfield 12, 3) := by decide +kernel
theorem dX7_link_4 : decode cX7_link 4 = .ok (.iload_n 1, 1) := by decide +kernel
theorem dX7_link_5 : decode cX7_link 5 = .ok (.invokevirtual 77, 3) := by decide +kernel
theorem dX7_link_8 : decode cX7_link 8 = .ok (.ifCond .eq 14, 3) := by decide +kernel
theorem dX7_link_11 : decode cX7_link 11 = .ok (.aload_n 0, 1) := by decide +kernel
theorem dX7_link_12 : decode cX7_link 12 = .ok (.getfield 12, 3) := by decide +kernel
theorem dX7_link_15 : decode cX7_link 15 = .ok (.iload_n 2, 1) := by decide +kernel
theorem dX7_link_16 : decode cX7_link 16 = .ok (.invokevirtual 77, 3) := by decide +kernel
theorem dX7_link_19 : decode cX7_link 19 = .ok (.ifCond .ne 13, 3) := by decide +kernel
theorem dX7_link_22 : decode cX7_link 22 = .ok (.new 81, 3) := by decide +kernel
theorem dX7_link_25 : decode cX7_link 25 = .ok (.dup, 1) := by decide +kernel
theorem dX7_link_26 : decode cX7_link 26 = .ok (.ldc 83, 2) := by decide +kernel
theorem dX7_link_28 : decode cX7_link 28 = .ok (.invokespecial 85, 3) := by decide +kernel
theorem dX7_link_31 : decode cX7_link 31 = .ok (.athrow, 1) := by decide +kernel
theorem dX7_link_32 : decode cX7_link 32 = .ok (.iload_n 1, 1) := by decide +kernel
theorem dX7_link_33 : decode cX7_link 33 = .ok (.iload_n 2, 1) := by decide +kernel
theorem dX7_link_34 : decode cX7_link 34 = .ok (.if_icmp .eq 14, 3) := by decide +kernel
theorem dX7_link_37 : decode cX7_link 37 = .ok (.iload_n 3, 1) := by decide +kernel
theorem dX7_link_38 : decode cX7_link 38 = .ok (.iconst 1, 1) := by decide +kernel
theorem dX7_link_39 : decode cX7_link 39 = .ok (.if_icmp .lt 9, 3) := by decide +kernel
theorem dX7_link_42 : decode cX7_link 42 = .ok (.iload_n 3, 1) := by decide +kernel
theorem dX7_link_43 : decode cX7_link 43 = .ok (.bipush 99, 2) := by decide +kernel
theorem dX7_link_45 : decode cX7_link 45 = .ok (.if_icmp .le 13, 3) := by decide +kernel
theorem dX7_link_48 : decode cX7_link 48 = .ok (.new 57, 3) := by decide +kernel
theorem dX7_link_51 : decode cX7_link 51 = .ok (.dup, 1) := by decide +kernel
theorem dX7_link_52 : decode cX7_link 52 = .ok (.ldc 86, 2) := by decide +kernel
theorem dX7_link_54 : decode cX7_link 54 = .ok (.invokespecial 61, 3) := by decide +kernel
theorem dX7_link_57 : decode cX7_link 57 = .ok (.athrow, 1) := by decide +kernel
theorem dX7_link_58 : decode cX7_link 58 = .ok (.aload_n 0, 1) := by decide +kernel
theorem dX7_link_59 : decode cX7_link 59 = .ok (.getfield 12, 3) := by decide +kernel
theorem dX7_link_62 : decode cX7_link 62 = .ok (.getfield 88, 3) := by decide +kernel
theorem dX7_link_65 : decode cX7_link 65 = .ok (.bipush 9, 2) := by decide +kernel
theorem dX7_link_67 : decode cX7_link 67 = .ok (.if_icmp .ge 15, 3) := by decide +kernel
theorem dX7_link_70 : decode cX7_link 70 = .ok (.aload_n 0, 1) := by decide +kernel
theorem dX7_link_71 : decode cX7_link 71 = .ok (.getfield 12, 3) := by decide +kernel
theorem dX7_link_74 : decode cX7_link 74 = .ok (.iload_n 1, 1) := by decide +kernel
theorem dX7_link_75 : decode cX7_link 75 = .ok (.iload_n 2, 1) := by decide +kernel
theorem dX7_link_76 : decode cX7_link 76 = .ok (.invokevirtual 91, 3) := by decide +kernel
theorem dX7_link_79 : decode cX7_link 79 = .ok (.ifCond .eq 13, 3) := by decide +kernel
theorem dX7_link_82 : decode cX7_link 82 = .ok (.new 68, 3) := by decide +kernel
theorem dX7_link_85 : decode cX7_link 85 = .ok (.dup, 1) := by decide +kernel
theorem dX7_link_86 : decode cX7_link 86 = .ok (.ldc 95, 2) := by decide +kernel
theorem dX7_link_88 : decode cX7_link 88 = .ok (.invokespecial 72, 3) := by decide +kernel
theorem dX7_link_91 : decode cX7_link 91 = .ok (.athrow, 1) := by decide +kernel
theorem dX7_link_92 : decode cX7_link 92 = .ok (.aload_n 0, 1) := by decide +kernel
theorem dX7_link_93 : decode cX7_link 93 = .ok (.getfield 12, 3) := by decide +kernel
theorem dX7_link_96 : decode cX7_link 96 = .ok (.iload_n 1, 1) := by decide +kernel
theorem dX7_link_97 : decode cX7_link 97 = .ok (.iload_n 2, 1) := by decide +kernel
theorem dX7_link_98 : decode cX7_link 98 = .ok (.iload_n 3, 1) := by decide +kernel
theorem dX7_link_99 : decode cX7_link 99 = .ok (.invokevirtual 97, 3) := by decide +kernel
theorem dX7_link_102 : decode cX7_link 102 = .ok (.ireturn, 1) := by decide +kernel
def F_X7_link_e   (q : Int32 → Mm → Prop) (qx : String → Mm → Prop) (x1 : Int32) (x2 : Int32) (x3 : Int32) (μ : Mm) : Prop :=
  Wp_X2_hasNode x1 μ (fun b2 μ1 => (((bI b2) = 0 → qx "java/lang/IndexOutOfBoundsException" μ1) ∧ (¬ ((bI b2) = 0) → Wp_X2_hasNode x2 μ1 (fun b4 μ3 => ((¬ ((bI b4) = 0) → ((x1 = x2 → qx "java/lang/IllegalArgumentException" μ3) ∧ (¬ (x1 = x2) → ((x3 < (1 : Int32) → qx "java/lang/IllegalArgumentException" μ3) ∧ (¬ (x3 < (1 : Int32)) → ((x3 ≤ (99 : Int32) → (((9 : Int32) ≤ (μ3 p_GR 7) → qx "java/lang/IllegalStateException" μ3) ∧ (¬ ((9 : Int32) ≤ (μ3 p_GR 7)) → Wp_X2_areLinked x1 x2 μ3 (fun b6 μ5 => (((bI b6) = 0 → Wp_X2_addLink x1 x2 x3 μ5 (fun z8 μ7 => q z8 μ7)) ∧ (¬ ((bI b6) = 0) → qx "java/lang/IllegalStateException" μ5)))))) ∧ (¬ (x3 ≤ (99 : Int32)) → qx "java/lang/IllegalArgumentException" μ3))))))) ∧ ((bI b4) = 0 → qx "java/lang/IndexOutOfBoundsException" μ3))))))
def Wp_X7_link  (x1 : Int32) (x2 : Int32) (x3 : Int32) (μ : Mm) (q : Int32 → Mm → Prop) (qx : String → Mm → Prop) : Prop := F_X7_link_e   q qx x1 x2 x3 μ
set_option maxHeartbeats 2000000 in
theorem b_X7_link_e  {g : GE} {f : FE} {q : Int32 → Mm → Prop} {qx : String → Mm → Prop} (cx : Cx g f cX7_link 4 RX7 10 248 0 0) (hr : (f_M f).sig.returnType = (some .int)) (fx : FX g f (qI q) qx)  {x1 : Int32} {x2 : Int32} {x3 : Int32} {μ : Mm} (h : F_X7_link_e   q qx x1 x2 x3 μ) : KW g f 4 0 0 0 [some (.ref p_ML), some (.int x1), some (.int x2), some (.int x3)] [] μ := by
  unfold F_X7_link_e at h
  refine k_aload_n cx dX7_link_0 rfl rfl ?_
  refine k_get (o := some p_GR) (v := .ref p_GR) cx fl_X7_12 ob_ML rfl rfl dX7_link_1 ?_
  refine k_iload_n cx dX7_link_4 rfl rfl ?_
  refine k_callV (As := [.int x1]) (rest := []) cx (m_X2_hasNode h) cv_X7_77 ob_GR rfl rfl rfl rfl (Nat.le_of_ble_eq_true rfl) ⟨Nat.le_of_ble_eq_true rfl, Nat.le_of_ble_eq_true rfl⟩ dX7_link_5 (fun v μ1 hq => ?_)
  obtain ⟨b2, rfl, h⟩ := hq
  refine k_if_eq (tgt := 22) cx dX7_link_8 (by decide) (fun hc => ?_) (fun hc => ?_)
  · replace h := h.1 hc
    exact k_throw (text := "no such node") cx fx (by decide +kernel) (by decide +kernel) tk_IndexOutOfBoundsException ti_IndexOutOfBoundsException th_IndexOutOfBoundsException (Nat.le_of_ble_eq_true rfl) (Nat.le_of_ble_eq_true rfl) (Nat.le_of_ble_eq_true rfl) h dX7_link_22 dX7_link_25 dX7_link_26 dX7_link_28 dX7_link_31
  · replace h := h.2 hc
    refine k_aload_n cx dX7_link_11 rfl rfl ?_
    refine k_get (o := some p_GR) (v := .ref p_GR) cx fl_X7_12 ob_ML rfl rfl dX7_link_12 ?_
    refine k_iload_n cx dX7_link_15 rfl rfl ?_
    refine k_callV (As := [.int x2]) (rest := []) cx (m_X2_hasNode h) cv_X7_77 ob_GR rfl rfl rfl rfl (Nat.le_of_ble_eq_true rfl) ⟨Nat.le_of_ble_eq_true rfl, Nat.le_of_ble_eq_true rfl⟩ dX7_link_16 (fun v μ3 hq => ?_)
    obtain ⟨b4, rfl, h⟩ := hq
    refine k_if_ne (tgt := 32) cx dX7_link_19 (by decide) (fun hc => ?_) (fun hc => ?_)
    · replace h := h.1 hc
      refine k_iload_n cx dX7_link_32 rfl rfl ?_
      refine k_iload_n cx dX7_link_33 rfl rfl ?_
      refine k_icmp_eq (tgt := 48) cx dX7_link_34 (by decide) (fun hc => ?_) (fun hc => ?_)
      · replace h := h.1 hc
        exact k_throw (text := "both nodes are the same, or room is out of range") cx fx (by decide +kernel) (by decide +kernel) tk_IllegalArgumentException ti_IllegalArgumentException th_IllegalArgumentException (Nat.le_of_ble_eq_true rfl) (Nat.le_of_ble_eq_true rfl) (Nat.le_of_ble_eq_true rfl) h dX7_link_48 dX7_link_51 dX7_link_52 dX7_link_54 dX7_link_57
      · replace h := h.2 hc
        refine k_iload_n cx dX7_link_37 rfl rfl ?_
        refine k_iconst (v := (1 : Int32)) cx dX7_link_38 (by decide +kernel) ?_
        refine k_icmp_lt (tgt := 48) cx dX7_link_39 (by decide) (fun hc => ?_) (fun hc => ?_)
        · replace h := h.1 hc
          exact k_throw (text := "both nodes are the same, or room is out of range") cx fx (by decide +kernel) (by decide +kernel) tk_IllegalArgumentException ti_IllegalArgumentException th_IllegalArgumentException (Nat.le_of_ble_eq_true rfl) (Nat.le_of_ble_eq_true rfl) (Nat.le_of_ble_eq_true rfl) h dX7_link_48 dX7_link_51 dX7_link_52 dX7_link_54 dX7_link_57
        · replace h := h.2 hc
          refine k_iload_n cx dX7_link_42 rfl rfl ?_
          refine k_bipush (v := (99 : Int32)) cx dX7_link_43 (by decide +kernel) ?_
          refine k_icmp_le (tgt := 58) cx dX7_link_45 (by decide) (fun hc => ?_) (fun hc => ?_)
          · replace h := h.1 hc
            refine k_aload_n cx dX7_link_58 rfl rfl ?_
            refine k_get (o := some p_GR) (v := .ref p_GR) cx fl_X7_12 ob_ML rfl rfl dX7_link_59 ?_
            refine k_get (o := none) (v := .int (μ3 p_GR 7)) cx fl_X7_88 ob_GR rfl rfl dX7_link_62 ?_
            refine k_bipush (v := (9 : Int32)) cx dX7_link_65 (by decide +kernel) ?_
            refine k_icmp_ge (tgt := 82) cx dX7_link_67 (by decide) (fun hc => ?_) (fun hc => ?_)
            · replace h := h.1 hc
              exact k_throw (text := "there are 9 links, or there is one for both") cx fx (by decide +kernel) (by decide +kernel) tk_IllegalStateException ti_IllegalStateException th_IllegalStateException (Nat.le_of_ble_eq_true rfl) (Nat.le_of_ble_eq_true rfl) (Nat.le_of_ble_eq_true rfl) h dX7_link_82 dX7_link_85 dX7_link_86 dX7_link_88 dX7_link_91
            · replace h := h.2 hc
              refine k_aload_n cx dX7_link_70 rfl rfl ?_
              refine k_get (o := some p_GR) (v := .ref p_GR) cx fl_X7_12 ob_ML rfl rfl dX7_link_71 ?_
              refine k_iload_n cx dX7_link_74 rfl rfl ?_
              refine k_iload_n cx dX7_link_75 rfl rfl ?_
              refine k_callV (As := [.int x1, .int x2]) (rest := []) cx (m_X2_areLinked h) cv_X7_91 ob_GR rfl rfl rfl rfl (Nat.le_of_ble_eq_true rfl) ⟨Nat.le_of_ble_eq_true rfl, Nat.le_of_ble_eq_true rfl⟩ dX7_link_76 (fun v μ5 hq => ?_)
              obtain ⟨b6, rfl, h⟩ := hq
              refine k_if_eq (tgt := 92) cx dX7_link_79 (by decide) (fun hc => ?_) (fun hc => ?_)
              · replace h := h.1 hc
                refine k_aload_n cx dX7_link_92 rfl rfl ?_
                refine k_get (o := some p_GR) (v := .ref p_GR) cx fl_X7_12 ob_ML rfl rfl dX7_link_93 ?_
                refine k_iload_n cx dX7_link_96 rfl rfl ?_
                refine k_iload_n cx dX7_link_97 rfl rfl ?_
                refine k_iload_n cx dX7_link_98 rfl rfl ?_
                refine k_callV (As := [.int x1, .int x2, .int x3]) (rest := []) cx (m_X2_addLink h) cv_X7_97 ob_GR rfl rfl rfl rfl (Nat.le_of_ble_eq_true rfl) ⟨Nat.le_of_ble_eq_true rfl, Nat.le_of_ble_eq_true rfl⟩ dX7_link_99 (fun v μ7 hq => ?_)
                obtain ⟨z8, rfl, h⟩ := hq
                exact k_xret_I cx hr fx dX7_link_102 h
              · replace h := h.2 hc
                exact k_throw (text := "there are 9 links, or there is one for both") cx fx (by decide +kernel) (by decide +kernel) tk_IllegalStateException ti_IllegalStateException th_IllegalStateException (Nat.le_of_ble_eq_true rfl) (Nat.le_of_ble_eq_true rfl) (Nat.le_of_ble_eq_true rfl) h dX7_link_82 dX7_link_85 dX7_link_86 dX7_link_88 dX7_link_91
          · replace h := h.2 hc
            exact k_throw (text := "both nodes are the same, or room is out of range") cx fx (by decide +kernel) (by decide +kernel) tk_IllegalArgumentException ti_IllegalArgumentException th_IllegalArgumentException (Nat.le_of_ble_eq_true rfl) (Nat.le_of_ble_eq_true rfl) (Nat.le_of_ble_eq_true rfl) h dX7_link_48 dX7_link_51 dX7_link_52 dX7_link_54 dX7_link_57
    · replace h := h.2 hc
      exact k_throw (text := "no such node") cx fx (by decide +kernel) (by decide +kernel) tk_IndexOutOfBoundsException ti_IndexOutOfBoundsException th_IndexOutOfBoundsException (Nat.le_of_ble_eq_true rfl) (Nat.le_of_ble_eq_true rfl) (Nat.le_of_ble_eq_true rfl) h dX7_link_22 dX7_link_25 dX7_link_26 dX7_link_28 dX7_link_31
theorem m_X7_link {g : GE} {l : Launch} (hst : l.stackTraces = false) {μ : Mm} {q : Int32 → Mm → Prop} {qx : String → Mm → Prop} {x1 : Int32} {x2 : Int32} {x3 : Int32}  (h : Wp_X7_link  x1 x2 x3 μ q qx) : MX g l yX7_link cX7_link 4 (some .int) 10 248 [.ref p_ML, .int x1, .int x2, .int x3] μ (qI q) qx := by
  refine xmet_of hst (by decide) (Nat.le_of_ble_eq_true rfl) (by intro v hv; simp only [List.mem_cons, List.not_mem_nil, or_false] at hv; rcases hv with rfl | rfl | rfl | rfl <;> rfl) ?_
  intro f hfl cx hr fx
  exact b_X7_link_e  cx hr fx (h  )
theorem dX7_load_0 : decode cX7_load 0 = .ok (.aload_n 0, 1) := by decide +kernel
theorem dX7_load_1 : decode cX7_load 1 = .ok (.getfield 12, 3) := by decide +kernel
theorem dX7_load_4 : decode cX7_load 4 = .ok (.iload_n 1, 1) := by decide +kernel
theorem dX7_load_5 : decode cX7_load 5 = .ok (.invokevirtual 101, 3) := by decide +kernel
theorem dX7_load_8 : decode cX7_load 8 = .ok (.ifCond .eq 19, 3) := by decide +kernel
theorem dX7_load_11 : decode cX7_load 11 = .ok (.iload_n 2, 1) := by decide +kernel
theorem dX7_load_12 : decode cX7_load 12 = .ok (.iconst (-1), 1) := by decide +kernel
theorem dX7_load_13 : decode cX7_load 13 = .ok (.if_icmp .eq 24, 3) := by decide +kernel
theorem dX7_load_16 : decode cX7_load 16 = .ok (.aload_n 0, 1) := by decide +kernel
theorem dX7_load_17 : decode cX7_load 17 = .ok (.getfield 12, 3) := by decide +kernel
theorem dX7_load_20 : decode cX7_load 20 = .ok (.iload_n 2, 1) := by decide +kernel
theorem dX7_load_21 : decode cX7_load 21 = .ok (.invokevirtual 101, 3) := by decide +kernel
theorem dX7_load_24 : decode cX7_load 24 = .ok (.ifCond .ne 13, 3) := by decide +kernel
theorem dX7_load_27 : decode cX7_load 27 = .ok (.new 81, 3) := by decide +kernel
theorem dX7_load_30 : decode cX7_load 30 = .ok (.dup, 1) := by decide +kernel
theorem dX7_load_31 : decode cX7_load 31 = .ok (.ldc 104, 2) := by decide +kernel
theorem dX7_load_33 : decode cX7_load 33 = .ok (.invokespecial 85, 3) := by decide +kernel
theorem dX7_load_36 : decode cX7_load 36 = .ok (.athrow, 1) := by decide +kernel
theorem dX7_load_37 : decode cX7_load 37 = .ok (.iload_n 1, 1) := by decide +kernel
theorem dX7_load_38 : decode cX7_load 38 = .ok (.iload_n 2, 1) := by decide +kernel
theorem dX7_load_39 : decode cX7_load 39 = .ok (.if_icmp .ne 13, 3) := by decide +kernel
theorem dX7_load_42 : decode cX7_load 42 = .ok (.new 57, 3) := by decide +kernel
theorem dX7_load_45 : decode cX7_load 45 = .ok (.dup, 1) := by decide +kernel
theorem dX7_load_46 : decode cX7_load 46 = .ok (.ldc 228, 2) := by decide +kernel
theorem dX7_load_48 : decode cX7_load 48 = .ok (.invokespecial 61, 3) := by decide +kernel
theorem dX7_load_51 : decode cX7_load 51 = .ok (.athrow, 1) := by decide +kernel
theorem dX7_load_52 : decode cX7_load 52 = .ok (.iload_n 2, 1) := by decide +kernel
theorem dX7_load_53 : decode cX7_load 53 = .ok (.iconst (-1), 1) := by decide +kernel
theorem dX7_load_54 : decode cX7_load 54 = .ok (.if_icmp .ne 7, 3) := by decide +kernel
theorem dX7_load_57 : decode cX7_load 57 = .ok (.iconst 0, 1) := by decide +kernel
theorem dX7_load_58 : decode cX7_load 58 = .ok (.goto 6, 3) := by decide +kernel
theorem dX7_load_61 : decode cX7_load 61 = .ok (.iconst 1, 1) := by decide +kernel
theorem dX7_load_62 : decode cX7_load 62 = .ok (.iload_n 2, 1) := by decide +kernel
theorem dX7_load_63 : decode cX7_load 63 = .ok (.ishl, 1) := by decide +kernel
theorem dX7_load_64 : decode cX7_load 64 = .ok (.istore_n 3, 1) := by decide +kernel
theorem dX7_load_65 : decode cX7_load 65 = .ok (.iconst 0, 1) := by decide +kernel
theorem dX7_load_66 : decode cX7_load 66 = .ok (.istore 4, 2) := by decide +kernel
theorem dX7_load_68 : decode cX7_load 68 = .ok (.iconst 0, 1) := by decide +kernel
theorem dX7_load_69 : decode cX7_load 69 = .ok (.istore 5, 2) := by decide +kernel
theorem dX7_load_71 : decode cX7_load 71 = .ok (.iload 5, 2) := by decide +kernel
theorem dX7_load_73 : decode cX7_load 73 = .ok (.aload_n 0, 1) := by decide +kernel
theorem dX7_load_74 : decode cX7_load 74 = .ok (.getfield 110, 3) := by decide +kernel
theorem dX7_load_77 : decode cX7_load 77 = .ok (.if_icmp .ge 39, 3) := by decide +kernel
theorem dX7_load_80 : decode cX7_load 80 = .ok (.aload_n 0, 1) := by decide +kernel
theorem dX7_load_81 : decode cX7_load 81 = .ok (.getfield 52, 3) := by decide +kernel
theorem dX7_load_84 : decode cX7_load 84 = .ok (.iload 5, 2) := by decide +kernel
theorem dX7_load_86 : decode cX7_load 86 = .ok (.aaload, 1) := by decide +kernel
theorem dX7_load_87 : decode cX7_load 87 = .ok (.getfield 113, 3) := by decide +kernel
theorem dX7_load_90 : decode cX7_load 90 = .ok (.ifCond .ne 20, 3) := by decide +kernel
theorem dX7_load_93 : decode cX7_load 93 = .ok (.iload 4, 2) := by decide +kernel
theorem dX7_load_95 : decode cX7_load 95 = .ok (.aload_n 0, 1) := by decide +kernel
theorem dX7_load_96 : decode cX7_load 96 = .ok (.getfield 52, 3) := by decide +kernel
theorem dX7_load_99 : decode cX7_load 99 = .ok (.iload 5, 2) := by decide +kernel
theorem dX7_load_101 : decode cX7_load 101 = .ok (.aaload, 1) := by decide +kernel
theorem dX7_load_102 : decode cX7_load 102 = .ok (.iload_n 1, 1) := by decide +kernel
theorem dX7_load_103 : decode cX7_load 103 = .ok (.iload_n 3, 1) := by decide +kernel
theorem dX7_load_104 : decode cX7_load 104 = .ok (.invokevirtual 230, 3) := by decide +kernel
theorem dX7_load_107 : decode cX7_load 107 = .ok (.iadd, 1) := by decide +kernel
theorem dX7_load_108 : decode cX7_load 108 = .ok (.istore 4, 2) := by decide +kernel
theorem dX7_load_110 : decode cX7_load 110 = .ok (.iinc 5 1, 3) := by decide +kernel
theorem dX7_load_113 : decode cX7_load 113 = .ok (.goto (-42), 3) := by decide +kernel
theorem dX7_load_116 : decode cX7_load 116 = .ok (.iload 4, 2) := by decide +kernel
theorem dX7_load_118 : decode cX7_load 118 = .ok (.ireturn, 1) := by decide +kernel
def F_X7_load_37  (K37 : Int32 → Int32 → Mm → Prop) (K71 : Int32 → Int32 → Int32 → Int32 → Mm → Prop) (q : Int32 → Mm → Prop) (qx : String → Mm → Prop) (x1 : Int32) (x2 : Int32) (μ : Mm) : Prop :=
  ((¬ (x1 = x2) → ((¬ (x2 = (-1 : Int32)) → K71 x1 ((1 : Int32) <<< (x2 &&& 31)) (0 : Int32) (0 : Int32) μ) ∧ (x2 = (-1 : Int32) → K71 x1 (0 : Int32) (0 : Int32) (0 : Int32) μ))) ∧ (x1 = x2 → qx "java/lang/IllegalArgumentException" μ))
def F_X7_load_71  (K37 : Int32 → Int32 → Mm → Prop) (K71 : Int32 → Int32 → Int32 → Int32 → Mm → Prop) (q : Int32 → Mm → Prop) (qx : String → Mm → Prop) (x1 : Int32) (x3 : Int32) (x4 : Int32) (x5 : Int32) (μ : Mm) : Prop :=
  (((μ p_ML 6) ≤ x5 → q x4 μ) ∧ (¬ ((μ p_ML 6) ≤ x5) → vp_in x5 13 ∧ ((¬ ((μ (p_RQ + 11 * (x5).toNatClampNeg) 14) = 0) → K71 x1 x3 x4 (x5 + (1 : Int32)) μ) ∧ ((μ (p_RQ + 11 * (x5).toNatClampNeg) 14) = 0 → vp_in x5 13 ∧ Wp_X5_loadOn (p_RQ + 11 * (x5).toNatClampNeg) x1 x3 μ (fun z2 μ1 => K71 x1 x3 (x4 + z2) (x5 + (1 : Int32)) μ1)))))
def F_X7_load_e  (K37 : Int32 → Int32 → Mm → Prop) (K71 : Int32 → Int32 → Int32 → Int32 → Mm → Prop) (q : Int32 → Mm → Prop) (qx : String → Mm → Prop) (x1 : Int32) (x2 : Int32) (μ : Mm) : Prop :=
  Wp_X2_hasLink x1 μ (fun b2 μ1 => (((bI b2) = 0 → qx "java/lang/IndexOutOfBoundsException" μ1) ∧ (¬ ((bI b2) = 0) → ((x2 = (-1 : Int32) → K37 x1 x2 μ1) ∧ (¬ (x2 = (-1 : Int32)) → Wp_X2_hasLink x2 μ1 (fun b4 μ3 => ((¬ ((bI b4) = 0) → K37 x1 x2 μ3) ∧ ((bI b4) = 0 → qx "java/lang/IndexOutOfBoundsException" μ3))))))))
def Wp_X7_load  (x1 : Int32) (x2 : Int32) (μ : Mm) (q : Int32 → Mm → Prop) (qx : String → Mm → Prop) : Prop := ∀ (K37 : Int32 → Int32 → Mm → Prop) (K71 : Int32 → Int32 → Int32 → Int32 → Mm → Prop), (∀ (x1 : Int32) (x2 : Int32) (μ : Mm), F_X7_load_37  K37 K71 q qx x1 x2 μ → K37 x1 x2 μ) → (∀ (x1 : Int32) (x3 : Int32) (x4 : Int32) (x5 : Int32) (μ : Mm), F_X7_load_71  K37 K71 q qx x1 x3 x4 x5 μ → K71 x1 x3 x4 x5 μ) → F_X7_load_e  K37 K71 q qx x1 x2 μ
abbrev KK_X7_load_37 (g : GE) (f : FE)  : Int32 → Int32 → Mm → Prop := fun x1 x2 μ => KW g f 6 0 0 37 [some (.ref p_ML), some (.int x1), some (.int x2), none, none, none] [] μ
abbrev KK_X7_load_71 (g : GE) (f : FE)  : Int32 → Int32 → Int32 → Int32 → Mm → Prop := fun x1 x3 x4 x5 μ => KW g f 6 0 0 71 [some (.ref p_ML), some (.int x1), none, some (.int x3), some (.int x4), some (.int x5)] [] μ
set_option maxHeartbeats 2000000 in
theorem b_X7_load_37  {g : GE} {f : FE} {q : Int32 → Mm → Prop} {qx : String → Mm → Prop} (cx : Cx g f cX7_load 6 RX7 6 90 0 0) (hr : (f_M f).sig.returnType = (some .int)) (fx : FX g f (qI q) qx)  {x1 : Int32} {x2 : Int32} {μ : Mm} (h : F_X7_load_37  (KK_X7_load_37 g f ) (KK_X7_load_71 g f ) q qx x1 x2 μ) : KK_X7_load_37 g f  x1 x2 μ := by
  unfold F_X7_load_37 at h
  show KW g f 6 0 0 37 [some (.ref p_ML), some (.int x1), some (.int x2), none, none, none] [] μ
  refine k_iload_n cx dX7_load_37 rfl rfl ?_
  refine k_iload_n cx dX7_load_38 rfl rfl ?_
  refine k_icmp_ne (tgt := 52) cx dX7_load_39 (by decide) (fun hc => ?_) (fun hc => ?_)
  · replace h := h.1 hc
    refine k_iload_n cx dX7_load_52 rfl rfl ?_
    refine k_iconst (v := (-1 : Int32)) cx dX7_load_53 (by decide +kernel) ?_
    refine k_icmp_ne (tgt := 61) cx dX7_load_54 (by decide) (fun hc => ?_) (fun hc => ?_)
    · replace h := h.1 hc
      refine k_iconst (v := (1 : Int32)) cx dX7_load_61 (by decide +kernel) ?_
      refine k_iload_n cx dX7_load_62 rfl rfl ?_
      refine k_ishl cx dX7_load_63 ?_
      refine k_istore_n cx dX7_load_64 rfl (by decide) ?_
      refine k_iconst (v := (0 : Int32)) cx dX7_load_65 (by decide +kernel) ?_
      refine k_istore cx dX7_load_66 (by decide) ?_
      refine k_iconst (v := (0 : Int32)) cx dX7_load_68 (by decide +kernel) ?_
      refine k_istore cx dX7_load_69 (by decide) ?_
      exact k_weak h (lsLe.keep (lsLe.keep (lsLe.drop (lsLe.keep (lsLe.keep (lsLe.keep lsLe.nil))))))
    · replace h := h.2 hc
      refine k_iconst (v := (0 : Int32)) cx dX7_load_57 (by decide +kernel) ?_
      refine k_goto (tgt := 64) cx dX7_load_58 (by decide) ?_
      refine k_istore_n cx dX7_load_64 rfl (by decide) ?_
      refine k_iconst (v := (0 : Int32)) cx dX7_load_65 (by decide +kernel) ?_
      refine k_istore cx dX7_load_66 (by decide) ?_
      refine k_iconst (v := (0 : Int32)) cx dX7_load_68 (by decide +kernel) ?_
      refine k_istore cx dX7_load_69 (by decide) ?_
      exact k_weak h (lsLe.keep (lsLe.keep (lsLe.drop (lsLe.keep (lsLe.keep (lsLe.keep lsLe.nil))))))
  · replace h := h.2 hc
    exact k_throw (text := "both links are the same") cx fx (by decide +kernel) (by decide +kernel) tk_IllegalArgumentException ti_IllegalArgumentException th_IllegalArgumentException (Nat.le_of_ble_eq_true rfl) (Nat.le_of_ble_eq_true rfl) (Nat.le_of_ble_eq_true rfl) h dX7_load_42 dX7_load_45 dX7_load_46 dX7_load_48 dX7_load_51
set_option maxHeartbeats 2000000 in
theorem b_X7_load_71  {g : GE} {f : FE} {q : Int32 → Mm → Prop} {qx : String → Mm → Prop} (cx : Cx g f cX7_load 6 RX7 6 90 0 0) (hr : (f_M f).sig.returnType = (some .int)) (fx : FX g f (qI q) qx)  {x1 : Int32} {x3 : Int32} {x4 : Int32} {x5 : Int32} {μ : Mm} (h : F_X7_load_71  (KK_X7_load_37 g f ) (KK_X7_load_71 g f ) q qx x1 x3 x4 x5 μ) : KK_X7_load_71 g f  x1 x3 x4 x5 μ := by
  unfold F_X7_load_71 at h
  show KW g f 6 0 0 71 [some (.ref p_ML), some (.int x1), none, some (.int x3), some (.int x4), some (.int x5)] [] μ
  refine k_iload cx dX7_load_71 rfl ?_
  refine k_aload_n cx dX7_load_73 rfl rfl ?_
  refine k_get (o := none) (v := .int (μ p_ML 6)) cx fl_X7_110 ob_ML rfl rfl dX7_load_74 ?_
  refine k_icmp_ge (tgt := 116) cx dX7_load_77 (by decide) (fun hc => ?_) (fun hc => ?_)
  · replace h := h.1 hc
    refine k_iload cx dX7_load_116 rfl ?_
    exact k_xret_I cx hr fx dX7_load_118 h
  · replace h := h.2 hc
    refine k_aload_n cx dX7_load_80 rfl rfl ?_
    refine k_get (o := some p_ML_requests) (v := .ref p_ML_requests) cx fl_X7_52 ob_ML rfl rfl dX7_load_81 ?_
    refine k_iload cx dX7_load_84 rfl ?_
    obtain ⟨hi1, h⟩ := h
    refine k_aald_ML_requests cx hi1 dX7_load_86 ?_
    refine k_get (o := none) (v := .int (μ (p_RQ + 11 * (x5).toNatClampNeg) 14)) cx fl_X7_113 (ob_RQ (vp_req hi1)) rfl rfl dX7_load_87 ?_
    refine k_if_ne (tgt := 110) cx dX7_load_90 (by decide) (fun hc => ?_) (fun hc => ?_)
    · replace h := h.1 hc
      refine k_iinc (v := (x5 + (1 : Int32))) cx dX7_load_110 rfl rfl (by decide) ?_
      refine k_goto (tgt := 71) cx dX7_load_113 (by decide) ?_
      exact k_weak h (lsLe.keep (lsLe.keep (lsLe.keep (lsLe.keep (lsLe.keep (lsLe.keep lsLe.nil))))))
    · replace h := h.2 hc
      refine k_iload cx dX7_load_93 rfl ?_
      refine k_aload_n cx dX7_load_95 rfl rfl ?_
      refine k_get (o := some p_ML_requests) (v := .ref p_ML_requests) cx fl_X7_52 ob_ML rfl rfl dX7_load_96 ?_
      refine k_iload cx dX7_load_99 rfl ?_
      obtain ⟨hi2, h⟩ := h
      refine k_aald_ML_requests cx hi2 dX7_load_101 ?_
      refine k_iload_n cx dX7_load_102 rfl rfl ?_
      refine k_iload_n cx dX7_load_103 rfl rfl ?_
      refine k_callV (As := [.int x1, .int x3]) (rest := [.int x4]) cx (m_X5_loadOn (vp_req hi2) h) cv_X7_230 (ob_RQ (vp_req hi2)) rfl rfl rfl rfl (Nat.le_of_ble_eq_true rfl) ⟨Nat.le_of_ble_eq_true rfl, Nat.le_of_ble_eq_true rfl⟩ dX7_load_104 (fun v μ1 hq => ?_)
      obtain ⟨z2, rfl, h⟩ := hq
      refine k_iadd cx dX7_load_107 ?_
      refine k_istore cx dX7_load_108 (by decide) ?_
      refine k_iinc (v := (x5 + (1 : Int32))) cx dX7_load_110 rfl rfl (by decide) ?_
      refine k_goto (tgt := 71) cx dX7_load_113 (by decide) ?_
      exact k_weak h (lsLe.keep (lsLe.keep (lsLe.keep (lsLe.keep (lsLe.keep (lsLe.keep lsLe.nil))))))
set_option maxHeartbeats 2000000 in
theorem b_X7_load_e  {g : GE} {f : FE} {q : Int32 → Mm → Prop} {qx : String → Mm → Prop} (cx : Cx g f cX7_load 6 RX7 6 90 0 0) (hr : (f_M f).sig.returnType = (some .int)) (fx : FX g f (qI q) qx)  {x1 : Int32} {x2 : Int32} {μ : Mm} (h : F_X7_load_e  (KK_X7_load_37 g f ) (KK_X7_load_71 g f ) q qx x1 x2 μ) : KW g f 6 0 0 0 [some (.ref p_ML), some (.int x1), some (.int x2), none, none, none] [] μ := by
  unfold F_X7_load_e at h
  refine k_aload_n cx dX7_load_0 rfl rfl ?_
  refine k_get (o := some p_GR) (v := .ref p_GR) cx fl_X7_12 ob_ML rfl rfl dX7_load_1 ?_
  refine k_iload_n cx dX7_load_4 rfl rfl ?_
  refine k_callV (As := [.int x1]) (rest := []) cx (m_X2_hasLink h) cv_X7_101 ob_GR rfl rfl rfl rfl (Nat.le_of_ble_eq_true rfl) ⟨Nat.le_of_ble_eq_true rfl, Nat.le_of_ble_eq_true rfl⟩ dX7_load_5 (fun v μ1 hq => ?_)
  obtain ⟨b2, rfl, h⟩ := hq
  refine k_if_eq (tgt := 27) cx dX7_load_8 (by decide) (fun hc => ?_) (fun hc => ?_)
  · replace h := h.1 hc
    exact k_throw (text := "no such link") cx fx (by decide +kernel) (by decide +kernel) tk_IndexOutOfBoundsException ti_IndexOutOfBoundsException th_IndexOutOfBoundsException (Nat.le_of_ble_eq_true rfl) (Nat.le_of_ble_eq_true rfl) (Nat.le_of_ble_eq_true rfl) h dX7_load_27 dX7_load_30 dX7_load_31 dX7_load_33 dX7_load_36
  · replace h := h.2 hc
    refine k_iload_n cx dX7_load_11 rfl rfl ?_
    refine k_iconst (v := (-1 : Int32)) cx dX7_load_12 (by decide +kernel) ?_
    refine k_icmp_eq (tgt := 37) cx dX7_load_13 (by decide) (fun hc => ?_) (fun hc => ?_)
    · replace h := h.1 hc
      exact k_weak h (lsLe.keep (lsLe.keep (lsLe.keep (lsLe.keep (lsLe.keep (lsLe.keep lsLe.nil))))))
    · replace h := h.2 hc
      refine k_aload_n cx dX7_load_16 rfl rfl ?_
      refine k_get (o := some p_GR) (v := .ref p_GR) cx fl_X7_12 ob_ML rfl rfl dX7_load_17 ?_
      refine k_iload_n cx dX7_load_20 rfl rfl ?_
      refine k_callV (As := [.int x2]) (rest := []) cx (m_X2_hasLink h) cv_X7_101 ob_GR rfl rfl rfl rfl (Nat.le_of_ble_eq_true rfl) ⟨Nat.le_of_ble_eq_true rfl, Nat.le_of_ble_eq_true rfl⟩ dX7_load_21 (fun v μ3 hq => ?_)
      obtain ⟨b4, rfl, h⟩ := hq
      refine k_if_ne (tgt := 37) cx dX7_load_24 (by decide) (fun hc => ?_) (fun hc => ?_)
      · replace h := h.1 hc
        exact k_weak h (lsLe.keep (lsLe.keep (lsLe.keep (lsLe.keep (lsLe.keep (lsLe.keep lsLe.nil))))))
      · replace h := h.2 hc
        exact k_throw (text := "no such link") cx fx (by decide +kernel) (by decide +kernel) tk_IndexOutOfBoundsException ti_IndexOutOfBoundsException th_IndexOutOfBoundsException (Nat.le_of_ble_eq_true rfl) (Nat.le_of_ble_eq_true rfl) (Nat.le_of_ble_eq_true rfl) h dX7_load_27 dX7_load_30 dX7_load_31 dX7_load_33 dX7_load_36
theorem m_X7_load {g : GE} {l : Launch} (hst : l.stackTraces = false) {μ : Mm} {q : Int32 → Mm → Prop} {qx : String → Mm → Prop} {x1 : Int32} {x2 : Int32}  (h : Wp_X7_load  x1 x2 μ q qx) : MX g l yX7_load cX7_load 6 (some .int) 6 90 [.ref p_ML, .int x1, .int x2] μ (qI q) qx := by
  refine xmet_of hst (by decide) (Nat.le_of_ble_eq_true rfl) (by intro v hv; simp only [List.mem_cons, List.not_mem_nil, or_false] at hv; rcases hv with rfl | rfl | rfl <;> rfl) ?_
  intro f hfl cx hr fx
  exact b_X7_load_e  cx hr fx (h (KK_X7_load_37 g f ) (KK_X7_load_71 g f ) (fun _ _ _ h => b_X7_load_37  cx hr fx h) (fun _ _ _ _ _ h => b_X7_load_71  cx hr fx h))
theorem dX7_move_0 : decode cX7_move 0 = .ok (.aload_n 0, 1) := by decide +kernel
theorem dX7_move_1 : decode cX7_move 1 = .ok (.iload_n 1, 1) := by decide +kernel
theorem dX7_move_2 : decode cX7_move 2 = .ok (.invokevirtual 177, 3) := by decide +kernel
theorem dX7_move_5 : decode cX7_move 5 = .ok (.ifCond .eq 27, 3) := by decide +kernel
theorem dX7_move_8 : decode cX7_move 8 = .ok (.aload_n 0, 1) := by decide +kernel
theorem dX7_move_9 : decode cX7_move 9 = .ok (.getfield 52, 3) := by decide +kernel
theorem dX7_move_12 : decode cX7_move 12 = .ok (.iload_n 1, 1) := by decide +kernel
theorem dX7_move_13 : decode cX7_move 13 = .ok (.aaload, 1) := by decide +kernel
theorem dX7_move_14 : decode cX7_move 14 = .ok (.iload_n 2, 1) := by decide +kernel
theorem dX7_move_15 : decode cX7_move 15 = .ok (.invokevirtual 138, 3) := by decide +kernel
theorem dX7_move_18 : decode cX7_move 18 = .ok (.ifCond .eq 14, 3) := by decide +kernel
theorem dX7_move_21 : decode cX7_move 21 = .ok (.aload_n 0, 1) := by decide +kernel
theorem dX7_move_22 : decode cX7_move 22 = .ok (.getfield 12, 3) := by decide +kernel
theorem dX7_move_25 : decode cX7_move 25 = .ok (.iload_n 3, 1) := by decide +kernel
theorem dX7_move_26 : decode cX7_move 26 = .ok (.invokevirtual 77, 3) := by decide +kernel
theorem dX7_move_29 : decode cX7_move 29 = .ok (.ifCond .ne 13, 3) := by decide +kernel
theorem dX7_move_32 : decode cX7_move 32 = .ok (.new 81, 3) := by decide +kernel
theorem dX7_move_35 : decode cX7_move 35 = .ok (.dup, 1) := by decide +kernel
theorem dX7_move_36 : decode cX7_move 36 = .ok (.ldc 188, 2) := by decide +kernel
theorem dX7_move_38 : decode cX7_move 38 = .ok (.invokespecial 85, 3) := by decide +kernel
theorem dX7_move_41 : decode cX7_move 41 = .ok (.athrow, 1) := by decide +kernel
theorem dX7_move_42 : decode cX7_move 42 = .ok (.aload_n 0, 1) := by decide +kernel
theorem dX7_move_43 : decode cX7_move 43 = .ok (.getfield 52, 3) := by decide +kernel
theorem dX7_move_46 : decode cX7_move 46 = .ok (.iload_n 1, 1) := by decide +kernel
theorem dX7_move_47 : decode cX7_move 47 = .ok (.aaload, 1) := by decide +kernel
theorem dX7_move_48 : decode cX7_move 48 = .ok (.astore 4, 2) := by decide +kernel
theorem dX7_move_50 : decode cX7_move 50 = .ok (.aload 4, 2) := by decide +kernel
theorem dX7_move_52 : decode cX7_move 52 = .ok (.iload_n 2, 1) := by decide +kernel
theorem dX7_move_53 : decode cX7_move 53 = .ok (.invokevirtual 190, 3) := by decide +kernel
theorem dX7_move_56 : decode cX7_move 56 = .ok (.iload_n 3, 1) := by decide +kernel
theorem dX7_move_57 : decode cX7_move 57 = .ok (.if_icmp .ne 13, 3) := by decide +kernel
theorem dX7_move_60 : decode cX7_move 60 = .ok (.new 57, 3) := by decide +kernel
theorem dX7_move_63 : decode cX7_move 63 = .ok (.dup, 1) := by decide +kernel
theorem dX7_move_64 : decode cX7_move 64 = .ok (.ldc 193, 2) := by decide +kernel
theorem dX7_move_66 : decode cX7_move 66 = .ok (.invokespecial 61, 3) := by decide +kernel
theorem dX7_move_69 : decode cX7_move 69 = .ok (.athrow, 1) := by decide +kernel
theorem dX7_move_70 : decode cX7_move 70 = .ok (.aload 4, 2) := by decide +kernel
theorem dX7_move_72 : decode cX7_move 72 = .ok (.invokevirtual 195, 3) := by decide +kernel
theorem dX7_move_75 : decode cX7_move 75 = .ok (.ifCond .ne 13, 3) := by decide +kernel
theorem dX7_move_78 : decode cX7_move 78 = .ok (.new 68, 3) := by decide +kernel
theorem dX7_move_81 : decode cX7_move 81 = .ok (.dup, 1) := by decide +kernel
theorem dX7_move_82 : decode cX7_move 82 = .ok (.ldc 199, 2) := by decide +kernel
theorem dX7_move_84 : decode cX7_move 84 = .ok (.invokespecial 72, 3) := by decide +kernel
theorem dX7_move_87 : decode cX7_move 87 = .ok (.athrow, 1) := by decide +kernel
theorem dX7_move_88 : decode cX7_move 88 = .ok (.aload_n 0, 1) := by decide +kernel
theorem dX7_move_89 : decode cX7_move 89 = .ok (.getfield 46, 3) := by decide +kernel
theorem dX7_move_92 : decode cX7_move 92 = .ok (.aload 4, 2) := by decide +kernel
theorem dX7_move_94 : decode cX7_move 94 = .ok (.iload_n 2, 1) := by decide +kernel
theorem dX7_move_95 : decode cX7_move 95 = .ok (.iload_n 3, 1) := by decide +kernel
theorem dX7_move_96 : decode cX7_move 96 = .ok (.invokevirtual 201, 3) := by decide +kernel
theorem dX7_move_99 : decode cX7_move 99 = .ok (.ifCond .eq 12, 3) := by decide +kernel
theorem dX7_move_102 : decode cX7_move 102 = .ok (.aload 4, 2) := by decide +kernel
theorem dX7_move_104 : decode cX7_move 104 = .ok (.iload_n 2, 1) := by decide +kernel
theorem dX7_move_105 : decode cX7_move 105 = .ok (.invokevirtual 205, 3) := by decide +kernel
theorem dX7_move_108 : decode cX7_move 108 = .ok (.goto 4, 3) := by decide +kernel
theorem dX7_move_111 : decode cX7_move 111 = .ok (.iconst (-1), 1) := by decide +kernel
theorem dX7_move_112 : decode cX7_move 112 = .ok (.ireturn, 1) := by decide +kernel
def F_X7_move_e   (q : Int32 → Mm → Prop) (qx : String → Mm → Prop) (x1 : Int32) (x2 : Int32) (x3 : Int32) (μ : Mm) : Prop :=
  Wp_X7_isPlaced x1 μ (fun b2 μ1 => (((bI b2) = 0 → qx "java/lang/IndexOutOfBoundsException" μ1) ∧ (¬ ((bI b2) = 0) → vp_in x1 13 ∧ Wp_X5_hasPart (p_RQ + 11 * (x1).toNatClampNeg) x2 μ1 (fun b4 μ3 => (((bI b4) = 0 → qx "java/lang/IndexOutOfBoundsException" μ3) ∧ (¬ ((bI b4) = 0) → Wp_X2_hasNode x3 μ3 (fun b6 μ5 => ((¬ ((bI b6) = 0) → vp_in x1 13 ∧ Wp_X5_nodeOf (p_RQ + 11 * (x1).toNatClampNeg) x2 μ5 (fun z8 μ7 => ((¬ (z8 = x3) → Wp_X5_isMovable (p_RQ + 11 * (x1).toNatClampNeg) μ7 (fun b10 μ9 => ((¬ ((bI b10) = 0) → Wp_X3_shift (p_RQ + 11 * (x1).toNatClampNeg) x2 x3 μ9 (fun b12 μ11 => (((bI b12) = 0 → q (-1 : Int32) μ11) ∧ (¬ ((bI b12) = 0) → Wp_X5_linksOfPart (p_RQ + 11 * (x1).toNatClampNeg) x2 μ11 (fun z14 μ13 => q z14 μ13))))) ∧ ((bI b10) = 0 → qx "java/lang/IllegalStateException" μ9)))) ∧ (z8 = x3 → qx "java/lang/IllegalArgumentException" μ7)))) ∧ ((bI b6) = 0 → qx "java/lang/IndexOutOfBoundsException" μ5)))))))))
def Wp_X7_move  (x1 : Int32) (x2 : Int32) (x3 : Int32) (μ : Mm) (q : Int32 → Mm → Prop) (qx : String → Mm → Prop) : Prop := F_X7_move_e   q qx x1 x2 x3 μ
set_option maxHeartbeats 2000000 in
theorem b_X7_move_e  {g : GE} {f : FE} {q : Int32 → Mm → Prop} {qx : String → Mm → Prop} (cx : Cx g f cX7_move 5 RX7 6 115 0 0) (hr : (f_M f).sig.returnType = (some .int)) (fx : FX g f (qI q) qx)  {x1 : Int32} {x2 : Int32} {x3 : Int32} {μ : Mm} (h : F_X7_move_e   q qx x1 x2 x3 μ) : KW g f 5 0 0 0 [some (.ref p_ML), some (.int x1), some (.int x2), some (.int x3), none] [] μ := by
  unfold F_X7_move_e at h
  refine k_aload_n cx dX7_move_0 rfl rfl ?_
  refine k_iload_n cx dX7_move_1 rfl rfl ?_
  refine k_callV (As := [.int x1]) (rest := []) cx (m_X7_isPlaced h) cv_X7_177 ob_ML rfl rfl rfl rfl (Nat.le_of_ble_eq_true rfl) ⟨Nat.le_of_ble_eq_true rfl, Nat.le_of_ble_eq_true rfl⟩ dX7_move_2 (fun v μ1 hq => ?_)
  obtain ⟨b2, rfl, h⟩ := hq
  refine k_if_eq (tgt := 32) cx dX7_move_5 (by decide) (fun hc => ?_) (fun hc => ?_)
  · replace h := h.1 hc
    exact k_throw (text := "no such request, part of it, or node") cx fx (by decide +kernel) (by decide +kernel) tk_IndexOutOfBoundsException ti_IndexOutOfBoundsException th_IndexOutOfBoundsException (Nat.le_of_ble_eq_true rfl) (Nat.le_of_ble_eq_true rfl) (Nat.le_of_ble_eq_true rfl) h dX7_move_32 dX7_move_35 dX7_move_36 dX7_move_38 dX7_move_41
  · replace h := h.2 hc
    refine k_aload_n cx dX7_move_8 rfl rfl ?_
    refine k_get (o := some p_ML_requests) (v := .ref p_ML_requests) cx fl_X7_52 ob_ML rfl rfl dX7_move_9 ?_
    refine k_iload_n cx dX7_move_12 rfl rfl ?_
    obtain ⟨hi1, h⟩ := h
    refine k_aald_ML_requests cx hi1 dX7_move_13 ?_
    refine k_iload_n cx dX7_move_14 rfl rfl ?_
    refine k_callV (As := [.int x2]) (rest := []) cx (m_X5_hasPart (vp_req hi1) h) cv_X7_138 (ob_RQ (vp_req hi1)) rfl rfl rfl rfl (Nat.le_of_ble_eq_true rfl) ⟨Nat.le_of_ble_eq_true rfl, Nat.le_of_ble_eq_true rfl⟩ dX7_move_15 (fun v μ3 hq => ?_)
    obtain ⟨b4, rfl, h⟩ := hq
    refine k_if_eq (tgt := 32) cx dX7_move_18 (by decide) (fun hc => ?_) (fun hc => ?_)
    · replace h := h.1 hc
      exact k_throw (text := "no such request, part of it, or node") cx fx (by decide +kernel) (by decide +kernel) tk_IndexOutOfBoundsException ti_IndexOutOfBoundsException th_IndexOutOfBoundsException (Nat.le_of_ble_eq_true rfl) (Nat.le_of_ble_eq_true rfl) (Nat.le_of_ble_eq_true rfl) h dX7_move_32 dX7_move_35 dX7_move_36 dX7_move_38 dX7_move_41
    · replace h := h.2 hc
      refine k_aload_n cx dX7_move_21 rfl rfl ?_
      refine k_get (o := some p_GR) (v := .ref p_GR) cx fl_X7_12 ob_ML rfl rfl dX7_move_22 ?_
      refine k_iload_n cx dX7_move_25 rfl rfl ?_
      refine k_callV (As := [.int x3]) (rest := []) cx (m_X2_hasNode h) cv_X7_77 ob_GR rfl rfl rfl rfl (Nat.le_of_ble_eq_true rfl) ⟨Nat.le_of_ble_eq_true rfl, Nat.le_of_ble_eq_true rfl⟩ dX7_move_26 (fun v μ5 hq => ?_)
      obtain ⟨b6, rfl, h⟩ := hq
      refine k_if_ne (tgt := 42) cx dX7_move_29 (by decide) (fun hc => ?_) (fun hc => ?_)
      · replace h := h.1 hc
        refine k_aload_n cx dX7_move_42 rfl rfl ?_
        refine k_get (o := some p_ML_requests) (v := .ref p_ML_requests) cx fl_X7_52 ob_ML rfl rfl dX7_move_43 ?_
        refine k_iload_n cx dX7_move_46 rfl rfl ?_
        obtain ⟨hi2, h⟩ := h
        refine k_aald_ML_requests cx hi2 dX7_move_47 ?_
        refine k_astore cx dX7_move_48 (by decide) ?_
        refine k_aload cx dX7_move_50 rfl ?_
        refine k_iload_n cx dX7_move_52 rfl rfl ?_
        refine k_callV (As := [.int x2]) (rest := []) cx (m_X5_nodeOf (vp_req hi2) h) cv_X7_190 (ob_RQ (vp_req hi2)) rfl rfl rfl rfl (Nat.le_of_ble_eq_true rfl) ⟨Nat.le_of_ble_eq_true rfl, Nat.le_of_ble_eq_true rfl⟩ dX7_move_53 (fun v μ7 hq => ?_)
        obtain ⟨z8, rfl, h⟩ := hq
        refine k_iload_n cx dX7_move_56 rfl rfl ?_
        refine k_icmp_ne (tgt := 70) cx dX7_move_57 (by decide) (fun hc => ?_) (fun hc => ?_)
        · replace h := h.1 hc
          refine k_aload cx dX7_move_70 rfl ?_
          refine k_callV (As := []) (rest := []) cx (m_X5_isMovable (vp_req hi2) h) cv_X7_195 (ob_RQ (vp_req hi2)) rfl rfl rfl rfl (Nat.le_of_ble_eq_true rfl) ⟨Nat.le_of_ble_eq_true rfl, Nat.le_of_ble_eq_true rfl⟩ dX7_move_72 (fun v μ9 hq => ?_)
          obtain ⟨b10, rfl, h⟩ := hq
          refine k_if_ne (tgt := 88) cx dX7_move_75 (by decide) (fun hc => ?_) (fun hc => ?_)
          · replace h := h.1 hc
            refine k_aload_n cx dX7_move_88 rfl rfl ?_
            refine k_get (o := some p_MV) (v := .ref p_MV) cx fl_X7_46 ob_ML rfl rfl dX7_move_89 ?_
            refine k_aload cx dX7_move_92 rfl ?_
            refine k_iload_n cx dX7_move_94 rfl rfl ?_
            refine k_iload_n cx dX7_move_95 rfl rfl ?_
            refine k_callV (As := [.ref (p_RQ + 11 * (x1).toNatClampNeg), .int x2, .int x3]) (rest := []) cx (m_X3_shift (vp_req hi2) h) cv_X7_201 ob_MV rfl rfl rfl rfl (Nat.le_of_ble_eq_true rfl) ⟨Nat.le_of_ble_eq_true rfl, Nat.le_of_ble_eq_true rfl⟩ dX7_move_96 (fun v μ11 hq => ?_)
            obtain ⟨b12, rfl, h⟩ := hq
            refine k_if_eq (tgt := 111) cx dX7_move_99 (by decide) (fun hc => ?_) (fun hc => ?_)
            · replace h := h.1 hc
              refine k_iconst (v := (-1 : Int32)) cx dX7_move_111 (by decide +kernel) ?_
              exact k_xret_I cx hr fx dX7_move_112 h
            · replace h := h.2 hc
              refine k_aload cx dX7_move_102 rfl ?_
              refine k_iload_n cx dX7_move_104 rfl rfl ?_
              refine k_callV (As := [.int x2]) (rest := []) cx (m_X5_linksOfPart (vp_req hi2) h) cv_X7_205 (ob_RQ (vp_req hi2)) rfl rfl rfl rfl (Nat.le_of_ble_eq_true rfl) ⟨Nat.le_of_ble_eq_true rfl, Nat.le_of_ble_eq_true rfl⟩ dX7_move_105 (fun v μ13 hq => ?_)
              obtain ⟨z14, rfl, h⟩ := hq
              refine k_goto (tgt := 112) cx dX7_move_108 (by decide) ?_
              exact k_xret_I cx hr fx dX7_move_112 h
          · replace h := h.2 hc
            exact k_throw (text := "the request has ended, is safe, or has a split line") cx fx (by decide +kernel) (by decide +kernel) tk_IllegalStateException ti_IllegalStateException th_IllegalStateException (Nat.le_of_ble_eq_true rfl) (Nat.le_of_ble_eq_true rfl) (Nat.le_of_ble_eq_true rfl) h dX7_move_78 dX7_move_81 dX7_move_82 dX7_move_84 dX7_move_87
        · replace h := h.2 hc
          exact k_throw (text := "the part is there already") cx fx (by decide +kernel) (by decide +kernel) tk_IllegalArgumentException ti_IllegalArgumentException th_IllegalArgumentException (Nat.le_of_ble_eq_true rfl) (Nat.le_of_ble_eq_true rfl) (Nat.le_of_ble_eq_true rfl) h dX7_move_60 dX7_move_63 dX7_move_64 dX7_move_66 dX7_move_69
      · replace h := h.2 hc
        exact k_throw (text := "no such request, part of it, or node") cx fx (by decide +kernel) (by decide +kernel) tk_IndexOutOfBoundsException ti_IndexOutOfBoundsException th_IndexOutOfBoundsException (Nat.le_of_ble_eq_true rfl) (Nat.le_of_ble_eq_true rfl) (Nat.le_of_ble_eq_true rfl) h dX7_move_32 dX7_move_35 dX7_move_36 dX7_move_38 dX7_move_41
theorem m_X7_move {g : GE} {l : Launch} (hst : l.stackTraces = false) {μ : Mm} {q : Int32 → Mm → Prop} {qx : String → Mm → Prop} {x1 : Int32} {x2 : Int32} {x3 : Int32}  (h : Wp_X7_move  x1 x2 x3 μ q qx) : MX g l yX7_move cX7_move 5 (some .int) 6 115 [.ref p_ML, .int x1, .int x2, .int x3] μ (qI q) qx := by
  refine xmet_of hst (by decide) (Nat.le_of_ble_eq_true rfl) (by intro v hv; simp only [List.mem_cons, List.not_mem_nil, or_false] at hv; rcases hv with rfl | rfl | rfl | rfl <;> rfl) ?_
  intro f hfl cx hr fx
  exact b_X7_move_e  cx hr fx (h  )
theorem dX7_node_0 : decode cX7_node 0 = .ok (.iload_n 1, 1) := by decide +kernel
theorem dX7_node_1 : decode cX7_node 1 = .ok (.iconst 1, 1) := by decide +kernel
theorem dX7_node_2 : decode cX7_node 2 = .ok (.if_icmp .lt 9, 3) := by decide +kernel
theorem dX7_node_5 : decode cX7_node 5 = .ok (.iload_n 1, 1) := by decide +kernel
theorem dX7_node_6 : decode cX7_node 6 = .ok (.bipush 99, 2) := by decide +kernel
theorem dX7_node_8 : decode cX7_node 8 = .ok (.if_icmp .le 13, 3) := by decide +kernel
theorem dX7_node_11 : decode cX7_node 11 = .ok (.new 57, 3) := by decide +kernel
theorem dX7_node_14 : decode cX7_node 14 = .ok (.dup, 1) := by decide +kernel
theorem dX7_node_15 : decode cX7_node 15 = .ok (.ldc 59, 2) := by decide +kernel
theorem dX7_node_17 : decode cX7_node 17 = .ok (.invokespecial 61, 3) := by decide +kernel
theorem dX7_node_20 : decode cX7_node 20 = .ok (.athrow, 1) := by decide +kernel
theorem dX7_node_21 : decode cX7_node 21 = .ok (.aload_n 0, 1) := by decide +kernel
theorem dX7_node_22 : decode cX7_node 22 = .ok (.getfield 12, 3) := by decide +kernel
theorem dX7_node_25 : decode cX7_node 25 = .ok (.getfield 64, 3) := by decide +kernel
theorem dX7_node_28 : decode cX7_node 28 = .ok (.bipush 6, 2) := by decide +kernel
theorem dX7_node_30 : decode cX7_node 30 = .ok (.if_icmp .lt 13, 3) := by decide +kernel
theorem dX7_node_33 : decode cX7_node 33 = .ok (.new 68, 3) := by decide +kernel
theorem dX7_node_36 : decode cX7_node 36 = .ok (.dup, 1) := by decide +kernel
theorem dX7_node_37 : decode cX7_node 37 = .ok (.ldc 70, 2) := by decide +kernel
theorem dX7_node_39 : decode cX7_node 39 = .ok (.invokespecial 72, 3) := by decide +kernel
theorem dX7_node_42 : decode cX7_node 42 = .ok (.athrow, 1) := by decide +kernel
theorem dX7_node_43 : decode cX7_node 43 = .ok (.aload_n 0, 1) := by decide +kernel
theorem dX7_node_44 : decode cX7_node 44 = .ok (.getfield 12, 3) := by decide +kernel
theorem dX7_node_47 : decode cX7_node 47 = .ok (.iload_n 1, 1) := by decide +kernel
theorem dX7_node_48 : decode cX7_node 48 = .ok (.invokevirtual 73, 3) := by decide +kernel
theorem dX7_node_51 : decode cX7_node 51 = .ok (.ireturn, 1) := by decide +kernel
def F_X7_node_e   (q : Int32 → Mm → Prop) (qx : String → Mm → Prop) (x1 : Int32) (μ : Mm) : Prop :=
  ((x1 < (1 : Int32) → qx "java/lang/IllegalArgumentException" μ) ∧ (¬ (x1 < (1 : Int32)) → ((x1 ≤ (99 : Int32) → (((μ p_GR 6) < (6 : Int32) → Wp_X2_addNode x1 μ (fun z2 μ1 => q z2 μ1)) ∧ (¬ ((μ p_GR 6) < (6 : Int32)) → qx "java/lang/IllegalStateException" μ))) ∧ (¬ (x1 ≤ (99 : Int32)) → qx "java/lang/IllegalArgumentException" μ))))
def Wp_X7_node  (x1 : Int32) (μ : Mm) (q : Int32 → Mm → Prop) (qx : String → Mm → Prop) : Prop := F_X7_node_e   q qx x1 μ
set_option maxHeartbeats 2000000 in
theorem b_X7_node_e  {g : GE} {f : FE} {q : Int32 → Mm → Prop} {qx : String → Mm → Prop} (cx : Cx g f cX7_node 2 RX7 6 90 0 0) (hr : (f_M f).sig.returnType = (some .int)) (fx : FX g f (qI q) qx)  {x1 : Int32} {μ : Mm} (h : F_X7_node_e   q qx x1 μ) : KW g f 2 0 0 0 [some (.ref p_ML), some (.int x1)] [] μ := by
  unfold F_X7_node_e at h
  refine k_iload_n cx dX7_node_0 rfl rfl ?_
  refine k_iconst (v := (1 : Int32)) cx dX7_node_1 (by decide +kernel) ?_
  refine k_icmp_lt (tgt := 11) cx dX7_node_2 (by decide) (fun hc => ?_) (fun hc => ?_)
  · replace h := h.1 hc
    exact k_throw (text := "room is out of range") cx fx (by decide +kernel) (by decide +kernel) tk_IllegalArgumentException ti_IllegalArgumentException th_IllegalArgumentException (Nat.le_of_ble_eq_true rfl) (Nat.le_of_ble_eq_true rfl) (Nat.le_of_ble_eq_true rfl) h dX7_node_11 dX7_node_14 dX7_node_15 dX7_node_17 dX7_node_20
  · replace h := h.2 hc
    refine k_iload_n cx dX7_node_5 rfl rfl ?_
    refine k_bipush (v := (99 : Int32)) cx dX7_node_6 (by decide +kernel) ?_
    refine k_icmp_le (tgt := 21) cx dX7_node_8 (by decide) (fun hc => ?_) (fun hc => ?_)
    · replace h := h.1 hc
      refine k_aload_n cx dX7_node_21 rfl rfl ?_
      refine k_get (o := some p_GR) (v := .ref p_GR) cx fl_X7_12 ob_ML rfl rfl dX7_node_22 ?_
      refine k_get (o := none) (v := .int (μ p_GR 6)) cx fl_X7_64 ob_GR rfl rfl dX7_node_25 ?_
      refine k_bipush (v := (6 : Int32)) cx dX7_node_28 (by decide +kernel) ?_
      refine k_icmp_lt (tgt := 43) cx dX7_node_30 (by decide) (fun hc => ?_) (fun hc => ?_)
      · replace h := h.1 hc
        refine k_aload_n cx dX7_node_43 rfl rfl ?_
        refine k_get (o := some p_GR) (v := .ref p_GR) cx fl_X7_12 ob_ML rfl rfl dX7_node_44 ?_
        refine k_iload_n cx dX7_node_47 rfl rfl ?_
        refine k_callV (As := [.int x1]) (rest := []) cx (m_X2_addNode h) cv_X7_73 ob_GR rfl rfl rfl rfl (Nat.le_of_ble_eq_true rfl) ⟨Nat.le_of_ble_eq_true rfl, Nat.le_of_ble_eq_true rfl⟩ dX7_node_48 (fun v μ1 hq => ?_)
        obtain ⟨z2, rfl, h⟩ := hq
        exact k_xret_I cx hr fx dX7_node_51 h
      · replace h := h.2 hc
        exact k_throw (text := "there are 6 nodes") cx fx (by decide +kernel) (by decide +kernel) tk_IllegalStateException ti_IllegalStateException th_IllegalStateException (Nat.le_of_ble_eq_true rfl) (Nat.le_of_ble_eq_true rfl) (Nat.le_of_ble_eq_true rfl) h dX7_node_33 dX7_node_36 dX7_node_37 dX7_node_39 dX7_node_42
    · replace h := h.2 hc
      exact k_throw (text := "room is out of range") cx fx (by decide +kernel) (by decide +kernel) tk_IllegalArgumentException ti_IllegalArgumentException th_IllegalArgumentException (Nat.le_of_ble_eq_true rfl) (Nat.le_of_ble_eq_true rfl) (Nat.le_of_ble_eq_true rfl) h dX7_node_11 dX7_node_14 dX7_node_15 dX7_node_17 dX7_node_20
theorem m_X7_node {g : GE} {l : Launch} (hst : l.stackTraces = false) {μ : Mm} {q : Int32 → Mm → Prop} {qx : String → Mm → Prop} {x1 : Int32}  (h : Wp_X7_node  x1 μ q qx) : MX g l yX7_node cX7_node 2 (some .int) 6 90 [.ref p_ML, .int x1] μ (qI q) qx := by
  refine xmet_of hst (by decide) (Nat.le_of_ble_eq_true rfl) (by intro v hv; simp only [List.mem_cons, List.not_mem_nil, or_false] at hv; rcases hv with rfl | rfl <;> rfl) ?_
  intro f hfl cx hr fx
  exact b_X7_node_e  cx hr fx (h  )
theorem dX7_ofLink_0 : decode cX7_ofLink 0 = .ok (.aload_n 0, 1) := by decide +kernel
theorem dX7_ofLink_1 : decode cX7_ofLink 1 = .ok (.getfield 12, 3) := by decide +kernel
theorem dX7_ofLink_4 : decode cX7_ofLink 4 = .ok (.iload_n 1, 1) := by decide +kernel
theorem dX7_ofLink_5 : decode cX7_ofLink 5 = .ok (.invokevirtual 101, 3) := by decide +kernel
theorem dX7_ofLink_8 : decode cX7_ofLink 8 = .ok (.ifCond .ne 13, 3) := by decide +kernel
theorem dX7_ofLink_11 : decode cX7_ofLink 11 = .ok (.new 81, 3) := by decide +kernel
theorem dX7_ofLink_14 : decode cX7_ofLink 14 = .ok (.dup, 1) := by decide +kernel
theorem dX7_ofLink_15 : decode cX7_ofLink 15 = .ok (.ldc 104, 2) := by decide +kernel
theorem dX7_ofLink_17 : decode cX7_ofLink 17 = .ok (.invokespecial 85, 3) := by decide +kernel
theorem dX7_ofLink_20 : decode cX7_ofLink 20 = .ok (.athrow, 1) := by decide +kernel
theorem dX7_ofLink_21 : decode cX7_ofLink 21 = .ok (.iload_n 2, 1) := by decide +kernel
theorem dX7_ofLink_22 : decode cX7_ofLink 22 = .ok (.ifCond .lt 8, 3) := by decide +kernel
theorem dX7_ofLink_25 : decode cX7_ofLink 25 = .ok (.iload_n 2, 1) := by decide +kernel
theorem dX7_ofLink_26 : decode cX7_ofLink 26 = .ok (.iconst 3, 1) := by decide +kernel
theorem dX7_ofLink_27 : decode cX7_ofLink 27 = .ok (.if_icmp .le 13, 3) := by decide +kernel
theorem dX7_ofLink_30 : decode cX7_ofLink 30 = .ok (.new 57, 3) := by decide +kernel
theorem dX7_ofLink_33 : decode cX7_ofLink 33 = .ok (.dup, 1) := by decide +kernel
theorem dX7_ofLink_34 : decode cX7_ofLink 34 = .ok (.ldc 210, 2) := by decide +kernel
theorem dX7_ofLink_36 : decode cX7_ofLink 36 = .ok (.invokespecial 61, 3) := by decide +kernel
theorem dX7_ofLink_39 : decode cX7_ofLink 39 = .ok (.athrow, 1) := by decide +kernel
theorem dX7_ofLink_40 : decode cX7_ofLink 40 = .ok (.iload_n 2, 1) := by decide +kernel
theorem dX7_ofLink_41 : decode cX7_ofLink 41 = .ok (.tableswitch 56 0 2 #[27, 37, 47], 27) := by decide +kernel
theorem dX7_ofLink_68 : decode cX7_ofLink 68 = .ok (.aload_n 0, 1) := by decide +kernel
theorem dX7_ofLink_69 : decode cX7_ofLink 69 = .ok (.getfield 21, 3) := by decide +kernel
theorem dX7_ofLink_72 : decode cX7_ofLink 72 = .ok (.getfield 219, 3) := by decide +kernel
theorem dX7_ofLink_75 : decode cX7_ofLink 75 = .ok (.iload_n 1, 1) := by decide +kernel
theorem dX7_ofLink_76 : decode cX7_ofLink 76 = .ok (.iaload, 1) := by decide +kernel
theorem dX7_ofLink_77 : decode cX7_ofLink 77 = .ok (.ireturn, 1) := by decide +kernel
theorem dX7_ofLink_78 : decode cX7_ofLink 78 = .ok (.aload_n 0, 1) := by decide +kernel
theorem dX7_ofLink_79 : decode cX7_ofLink 79 = .ok (.getfield 21, 3) := by decide +kernel
theorem dX7_ofLink_82 : decode cX7_ofLink 82 = .ok (.getfield 222, 3) := by decide +kernel
theorem dX7_ofLink_85 : decode cX7_ofLink 85 = .ok (.iload_n 1, 1) := by decide +kernel
theorem dX7_ofLink_86 : decode cX7_ofLink 86 = .ok (.iaload, 1) := by decide +kernel
theorem dX7_ofLink_87 : decode cX7_ofLink 87 = .ok (.ireturn, 1) := by decide +kernel
theorem dX7_ofLink_88 : decode cX7_ofLink 88 = .ok (.aload_n 0, 1) := by decide +kernel
theorem dX7_ofLink_89 : decode cX7_ofLink 89 = .ok (.getfield 21, 3) := by decide +kernel
theorem dX7_ofLink_92 : decode cX7_ofLink 92 = .ok (.iload_n 1, 1) := by decide +kernel
theorem dX7_ofLink_93 : decode cX7_ofLink 93 = .ok (.invokevirtual 225, 3) := by decide +kernel
theorem dX7_ofLink_96 : decode cX7_ofLink 96 = .ok (.ireturn, 1) := by decide +kernel
theorem dX7_ofLink_97 : decode cX7_ofLink 97 = .ok (.aload_n 0, 1) := by decide +kernel
theorem dX7_ofLink_98 : decode cX7_ofLink 98 = .ok (.getfield 12, 3) := by decide +kernel
theorem dX7_ofLink_101 : decode cX7_ofLink 101 = .ok (.getfield 117, 3) := by decide +kernel
theorem dX7_ofLink_104 : decode cX7_ofLink 104 = .ok (.iload_n 1, 1) := by decide +kernel
theorem dX7_ofLink_105 : decode cX7_ofLink 105 = .ok (.ishr, 1) := by decide +kernel
theorem dX7_ofLink_106 : decode cX7_ofLink 106 = .ok (.iconst 1, 1) := by decide +kernel
theorem dX7_ofLink_107 : decode cX7_ofLink 107 = .ok (.iand, 1) := by decide +kernel
theorem dX7_ofLink_108 : decode cX7_ofLink 108 = .ok (.ireturn, 1) := by decide +kernel
def F_X7_ofLink_e   (q : Int32 → Mm → Prop) (qx : String → Mm → Prop) (x1 : Int32) (x2 : Int32) (μ : Mm) : Prop :=
  Wp_X2_hasLink x1 μ (fun b2 μ1 => ((¬ ((bI b2) = 0) → ((x2 < 0 → qx "java/lang/IllegalArgumentException" μ1) ∧ (¬ (x2 < 0) → ((x2 ≤ (3 : Int32) → (((x2 = 0 → vp_in x1 9 ∧ q (μ1 p_BK_linkNeeds (x1).toNatClampNeg) μ1) ∧ (x2 = 1 → vp_in x1 9 ∧ q (μ1 p_BK_reserved (x1).toNatClampNeg) μ1) ∧ (x2 = 2 → Wp_X0_leftOnLink x1 μ1 (fun z4 μ3 => q z4 μ3))) ∧ ((x2).toInt < 0 ∨ 2 < (x2).toInt → q (((μ1 p_GR 8) >>> (x1 &&& 31)) &&& (1 : Int32)) μ1))) ∧ (¬ (x2 ≤ (3 : Int32)) → qx "java/lang/IllegalArgumentException" μ1))))) ∧ ((bI b2) = 0 → qx "java/lang/IndexOutOfBoundsException" μ1)))
def Wp_X7_ofLink  (x1 : Int32) (x2 : Int32) (μ : Mm) (q : Int32 → Mm → Prop) (qx : String → Mm → Prop) : Prop := F_X7_ofLink_e   q qx x1 x2 μ
set_option maxHeartbeats 2000000 in
theorem b_X7_ofLink_e  {g : GE} {f : FE} {q : Int32 → Mm → Prop} {qx : String → Mm → Prop} (cx : Cx g f cX7_ofLink 3 RX7 6 90 0 0) (hr : (f_M f).sig.returnType = (some .int)) (fx : FX g f (qI q) qx)  {x1 : Int32} {x2 : Int32} {μ : Mm} (h : F_X7_ofLink_e   q qx x1 x2 μ) : KW g f 3 0 0 0 [some (.ref p_ML), some (.int x1), some (.int x2)] [] μ := by
  unfold F_X7_ofLink_e at h
  refine k_aload_n cx dX7_ofLink_0 rfl rfl ?_
  refine k_get (o := some p_GR) (v := .ref p_GR) cx fl_X7_12 ob_ML rfl rfl dX7_ofLink_1 ?_
  refine k_iload_n cx dX7_ofLink_4 rfl rfl ?_
  refine k_callV (As := [.int x1]) (rest := []) cx (m_X2_hasLink h) cv_X7_101 ob_GR rfl rfl rfl rfl (Nat.le_of_ble_eq_true rfl) ⟨Nat.le_of_ble_eq_true rfl, Nat.le_of_ble_eq_true rfl⟩ dX7_ofLink_5 (fun v μ1 hq => ?_)
  obtain ⟨b2, rfl, h⟩ := hq
  refine k_if_ne (tgt := 21) cx dX7_ofLink_8 (by decide) (fun hc => ?_) (fun hc => ?_)
  · replace h := h.1 hc
    refine k_iload_n cx dX7_ofLink_21 rfl rfl ?_
    refine k_if_lt (tgt := 30) cx dX7_ofLink_22 (by decide) (fun hc => ?_) (fun hc => ?_)
    · replace h := h.1 hc
      exact k_throw (text := "what is out of range") cx fx (by decide +kernel) (by decide +kernel) tk_IllegalArgumentException ti_IllegalArgumentException th_IllegalArgumentException (Nat.le_of_ble_eq_true rfl) (Nat.le_of_ble_eq_true rfl) (Nat.le_of_ble_eq_true rfl) h dX7_ofLink_30 dX7_ofLink_33 dX7_ofLink_34 dX7_ofLink_36 dX7_ofLink_39
    · replace h := h.2 hc
      refine k_iload_n cx dX7_ofLink_25 rfl rfl ?_
      refine k_iconst (v := (3 : Int32)) cx dX7_ofLink_26 (by decide +kernel) ?_
      refine k_icmp_le (tgt := 40) cx dX7_ofLink_27 (by decide) (fun hc => ?_) (fun hc => ?_)
      · replace h := h.1 hc
        refine k_iload_n cx dX7_ofLink_40 rfl rfl ?_
        by_cases hx : (x2).toInt < 0 ∨ 2 < (x2).toInt
        · replace h := h.2 hx
          refine k_tableOut (tgt := 97) cx dX7_ofLink_41 hx (by decide) ?_
          refine k_aload_n cx dX7_ofLink_97 rfl rfl ?_
          refine k_get (o := some p_GR) (v := .ref p_GR) cx fl_X7_12 ob_ML rfl rfl dX7_ofLink_98 ?_
          refine k_get (o := none) (v := .int (μ1 p_GR 8)) cx fl_X7_117 ob_GR rfl rfl dX7_ofLink_101 ?_
          refine k_iload_n cx dX7_ofLink_104 rfl rfl ?_
          refine k_ishr cx dX7_ofLink_105 ?_
          refine k_iconst (v := (1 : Int32)) cx dX7_ofLink_106 (by decide +kernel) ?_
          refine k_iand cx dX7_ofLink_107 ?_
          exact k_xret_I cx hr fx dX7_ofLink_108 h
        · replace h := h.1
          rcases sw_2 hx with hx | hx | hx
          · replace h := h.1 hx
            refine k_tableIn (off := 27) (tgt := 68) cx dX7_ofLink_41 (by rw [hx]; decide) (by rw [hx]; decide) (by rw [hx]; decide) (by decide) ?_
            refine k_aload_n cx dX7_ofLink_68 rfl rfl ?_
            refine k_get (o := some p_BK) (v := .ref p_BK) cx fl_X7_21 ob_ML rfl rfl dX7_ofLink_69 ?_
            refine k_get (o := some p_BK_linkNeeds) (v := .ref p_BK_linkNeeds) cx fl_X7_219 ob_BK rfl rfl dX7_ofLink_72 ?_
            refine k_iload_n cx dX7_ofLink_75 rfl rfl ?_
            obtain ⟨hi, h⟩ := h
            refine k_iald cx ar_BK_linkNeeds hi dX7_ofLink_76 ?_
            exact k_xret_I cx hr fx dX7_ofLink_77 h
          · replace h := h.2.1 hx
            refine k_tableIn (off := 37) (tgt := 78) cx dX7_ofLink_41 (by rw [hx]; decide) (by rw [hx]; decide) (by rw [hx]; decide) (by decide) ?_
            refine k_aload_n cx dX7_ofLink_78 rfl rfl ?_
            refine k_get (o := some p_BK) (v := .ref p_BK) cx fl_X7_21 ob_ML rfl rfl dX7_ofLink_79 ?_
            refine k_get (o := some p_BK_reserved) (v := .ref p_BK_reserved) cx fl_X7_222 ob_BK rfl rfl dX7_ofLink_82 ?_
            refine k_iload_n cx dX7_ofLink_85 rfl rfl ?_
            obtain ⟨hi, h⟩ := h
            refine k_iald cx ar_BK_reserved hi dX7_ofLink_86 ?_
            exact k_xret_I cx hr fx dX7_ofLink_87 h
          · replace h := h.2.2 hx
            refine k_tableIn (off := 47) (tgt := 88) cx dX7_ofLink_41 (by rw [hx]; decide) (by rw [hx]; decide) (by rw [hx]; decide) (by decide) ?_
            refine k_aload_n cx dX7_ofLink_88 rfl rfl ?_
            refine k_get (o := some p_BK) (v := .ref p_BK) cx fl_X7_21 ob_ML rfl rfl dX7_ofLink_89 ?_
            refine k_iload_n cx dX7_ofLink_92 rfl rfl ?_
            refine k_callV (As := [.int x1]) (rest := []) cx (m_X0_leftOnLink h) cv_X7_225 ob_BK rfl rfl rfl rfl (Nat.le_of_ble_eq_true rfl) ⟨Nat.le_of_ble_eq_true rfl, Nat.le_of_ble_eq_true rfl⟩ dX7_ofLink_93 (fun v μ3 hq => ?_)
            obtain ⟨z4, rfl, h⟩ := hq
            exact k_xret_I cx hr fx dX7_ofLink_96 h
      · replace h := h.2 hc
        exact k_throw (text := "what is out of range") cx fx (by decide +kernel) (by decide +kernel) tk_IllegalArgumentException ti_IllegalArgumentException th_IllegalArgumentException (Nat.le_of_ble_eq_true rfl) (Nat.le_of_ble_eq_true rfl) (Nat.le_of_ble_eq_true rfl) h dX7_ofLink_30 dX7_ofLink_33 dX7_ofLink_34 dX7_ofLink_36 dX7_ofLink_39
  · replace h := h.2 hc
    exact k_throw (text := "no such link") cx fx (by decide +kernel) (by decide +kernel) tk_IndexOutOfBoundsException ti_IndexOutOfBoundsException th_IndexOutOfBoundsException (Nat.le_of_ble_eq_true rfl) (Nat.le_of_ble_eq_true rfl) (Nat.le_of_ble_eq_true rfl) h dX7_ofLink_11 dX7_ofLink_14 dX7_ofLink_15 dX7_ofLink_17 dX7_ofLink_20
theorem m_X7_ofLink {g : GE} {l : Launch} (hst : l.stackTraces = false) {μ : Mm} {q : Int32 → Mm → Prop} {qx : String → Mm → Prop} {x1 : Int32} {x2 : Int32}  (h : Wp_X7_ofLink  x1 x2 μ q qx) : MX g l yX7_ofLink cX7_ofLink 3 (some .int) 6 90 [.ref p_ML, .int x1, .int x2] μ (qI q) qx := by
  refine xmet_of hst (by decide) (Nat.le_of_ble_eq_true rfl) (by intro v hv; simp only [List.mem_cons, List.not_mem_nil, or_false] at hv; rcases hv with rfl | rfl | rfl <;> rfl) ?_
  intro f hfl cx hr fx
  exact b_X7_ofLink_e  cx hr fx (h  )
theorem dX7_ofNode_0 : decode cX7_ofNode 0 = .ok (.aload_n 0, 1) := by decide +kernel
theorem dX7_ofNode_1 : decode cX7_ofNode 1 = .ok (.getfield 12, 3) := by decide +kernel
theorem dX7_ofNode_4 : decode cX7_ofNode 4 = .ok (.iload_n 1, 1) := by decide +kernel
theorem dX7_ofNode_5 : decode cX7_ofNode 5 = .ok (.invokevirtual 77, 3) := by decide +kernel
theorem dX7_ofNode_8 : decode cX7_ofNode 8 = .ok (.ifCond .ne 13, 3) := by decide +kernel
theorem dX7_ofNode_11 : decode cX7_ofNode 11 = .ok (.new 81, 3) := by decide +kernel
theorem dX7_ofNode_14 : decode cX7_ofNode 14 = .ok (.dup, 1) := by decide +kernel
theorem dX7_ofNode_15 : decode cX7_ofNode 15 = .ok (.ldc 83, 2) := by decide +kernel
theorem dX7_ofNode_17 : decode cX7_ofNode 17 = .ok (.invokespecial 85, 3) := by decide +kernel
theorem dX7_ofNode_20 : decode cX7_ofNode 20 = .ok (.athrow, 1) := by decide +kernel
theorem dX7_ofNode_21 : decode cX7_ofNode 21 = .ok (.iload_n 2, 1) := by decide +kernel
theorem dX7_ofNode_22 : decode cX7_ofNode 22 = .ok (.ifCond .lt 8, 3) := by decide +kernel
theorem dX7_ofNode_25 : decode cX7_ofNode 25 = .ok (.iload_n 2, 1) := by decide +kernel
theorem dX7_ofNode_26 : decode cX7_ofNode 26 = .ok (.iconst 1, 1) := by decide +kernel
theorem dX7_ofNode_27 : decode cX7_ofNode 27 = .ok (.if_icmp .le 13, 3) := by decide +kernel
theorem dX7_ofNode_30 : decode cX7_ofNode 30 = .ok (.new 57, 3) := by decide +kernel
theorem dX7_ofNode_33 : decode cX7_ofNode 33 = .ok (.dup, 1) := by decide +kernel
theorem dX7_ofNode_34 : decode cX7_ofNode 34 = .ok (.ldc 210, 2) := by decide +kernel
theorem dX7_ofNode_36 : decode cX7_ofNode 36 = .ok (.invokespecial 61, 3) := by decide +kernel
theorem dX7_ofNode_39 : decode cX7_ofNode 39 = .ok (.athrow, 1) := by decide +kernel
theorem dX7_ofNode_40 : decode cX7_ofNode 40 = .ok (.iload_n 2, 1) := by decide +kernel
theorem dX7_ofNode_41 : decode cX7_ofNode 41 = .ok (.ifCond .ne 14, 3) := by decide +kernel
theorem dX7_ofNode_44 : decode cX7_ofNode 44 = .ok (.aload_n 0, 1) := by decide +kernel
theorem dX7_ofNode_45 : decode cX7_ofNode 45 = .ok (.getfield 21, 3) := by decide +kernel
theorem dX7_ofNode_48 : decode cX7_ofNode 48 = .ok (.iload_n 1, 1) := by decide +kernel
theorem dX7_ofNode_49 : decode cX7_ofNode 49 = .ok (.invokevirtual 212, 3) := by decide +kernel
theorem dX7_ofNode_52 : decode cX7_ofNode 52 = .ok (.goto 12, 3) := by decide +kernel
theorem dX7_ofNode_55 : decode cX7_ofNode 55 = .ok (.aload_n 0, 1) := by decide +kernel
theorem dX7_ofNode_56 : decode cX7_ofNode 56 = .ok (.getfield 21, 3) := by decide +kernel
theorem dX7_ofNode_59 : decode cX7_ofNode 59 = .ok (.getfield 215, 3) := by decide +kernel
theorem dX7_ofNode_62 : decode cX7_ofNode 62 = .ok (.iload_n 1, 1) := by decide +kernel
theorem dX7_ofNode_63 : decode cX7_ofNode 63 = .ok (.iaload, 1) := by decide +kernel
theorem dX7_ofNode_64 : decode cX7_ofNode 64 = .ok (.ireturn, 1) := by decide +kernel
def F_X7_ofNode_e   (q : Int32 → Mm → Prop) (qx : String → Mm → Prop) (x1 : Int32) (x2 : Int32) (μ : Mm) : Prop :=
  Wp_X2_hasNode x1 μ (fun b2 μ1 => ((¬ ((bI b2) = 0) → ((x2 < 0 → qx "java/lang/IllegalArgumentException" μ1) ∧ (¬ (x2 < 0) → ((x2 ≤ (1 : Int32) → ((¬ (x2 = 0) → vp_in x1 6 ∧ q (μ1 p_BK_nodeParts (x1).toNatClampNeg) μ1) ∧ (x2 = 0 → Wp_X0_leftAtNode x1 μ1 (fun z4 μ3 => q z4 μ3)))) ∧ (¬ (x2 ≤ (1 : Int32)) → qx "java/lang/IllegalArgumentException" μ1))))) ∧ ((bI b2) = 0 → qx "java/lang/IndexOutOfBoundsException" μ1)))
def Wp_X7_ofNode  (x1 : Int32) (x2 : Int32) (μ : Mm) (q : Int32 → Mm → Prop) (qx : String → Mm → Prop) : Prop := F_X7_ofNode_e   q qx x1 x2 μ
set_option maxHeartbeats 2000000 in
theorem b_X7_ofNode_e  {g : GE} {f : FE} {q : Int32 → Mm → Prop} {qx : String → Mm → Prop} (cx : Cx g f cX7_ofNode 3 RX7 6 90 0 0) (hr : (f_M f).sig.returnType = (some .int)) (fx : FX g f (qI q) qx)  {x1 : Int32} {x2 : Int32} {μ : Mm} (h : F_X7_ofNode_e   q qx x1 x2 μ) : KW g f 3 0 0 0 [some (.ref p_ML), some (.int x1), some (.int x2)] [] μ := by
  unfold F_X7_ofNode_e at h
  refine k_aload_n cx dX7_ofNode_0 rfl rfl ?_
  refine k_get (o := some p_GR) (v := .ref p_GR) cx fl_X7_12 ob_ML rfl rfl dX7_ofNode_1 ?_
  refine k_iload_n cx dX7_ofNode_4 rfl rfl ?_
  refine k_callV (As := [.int x1]) (rest := []) cx (m_X2_hasNode h) cv_X7_77 ob_GR rfl rfl rfl rfl (Nat.le_of_ble_eq_true rfl) ⟨Nat.le_of_ble_eq_true rfl, Nat.le_of_ble_eq_true rfl⟩ dX7_ofNode_5 (fun v μ1 hq => ?_)
  obtain ⟨b2, rfl, h⟩ := hq
  refine k_if_ne (tgt := 21) cx dX7_ofNode_8 (by decide) (fun hc => ?_) (fun hc => ?_)
  · replace h := h.1 hc
    refine k_iload_n cx dX7_ofNode_21 rfl rfl ?_
    refine k_if_lt (tgt := 30) cx dX7_ofNode_22 (by decide) (fun hc => ?_) (fun hc => ?_)
    · replace h := h.1 hc
      exact k_throw (text := "what is out of range") cx fx (by decide +kernel) (by decide +kernel) tk_IllegalArgumentException ti_IllegalArgumentException th_IllegalArgumentException (Nat.le_of_ble_eq_true rfl) (Nat.le_of_ble_eq_true rfl) (Nat.le_of_ble_eq_true rfl) h dX7_ofNode_30 dX7_ofNode_33 dX7_ofNode_34 dX7_ofNode_36 dX7_ofNode_39
    · replace h := h.2 hc
      refine k_iload_n cx dX7_ofNode_25 rfl rfl ?_
      refine k_iconst (v := (1 : Int32)) cx dX7_ofNode_26 (by decide +kernel) ?_
      refine k_icmp_le (tgt := 40) cx dX7_ofNode_27 (by decide) (fun hc => ?_) (fun hc => ?_)
      · replace h := h.1 hc
        refine k_iload_n cx dX7_ofNode_40 rfl rfl ?_
        refine k_if_ne (tgt := 55) cx dX7_ofNode_41 (by decide) (fun hc => ?_) (fun hc => ?_)
        · replace h := h.1 hc
          refine k_aload_n cx dX7_ofNode_55 rfl rfl ?_
          refine k_get (o := some p_BK) (v := .ref p_BK) cx fl_X7_21 ob_ML rfl rfl dX7_ofNode_56 ?_
          refine k_get (o := some p_BK_nodeParts) (v := .ref p_BK_nodeParts) cx fl_X7_215 ob_BK rfl rfl dX7_ofNode_59 ?_
          refine k_iload_n cx dX7_ofNode_62 rfl rfl ?_
          obtain ⟨hi, h⟩ := h
          refine k_iald cx ar_BK_nodeParts hi dX7_ofNode_63 ?_
          exact k_xret_I cx hr fx dX7_ofNode_64 h
        · replace h := h.2 hc
          refine k_aload_n cx dX7_ofNode_44 rfl rfl ?_
          refine k_get (o := some p_BK) (v := .ref p_BK) cx fl_X7_21 ob_ML rfl rfl dX7_ofNode_45 ?_
          refine k_iload_n cx dX7_ofNode_48 rfl rfl ?_
          refine k_callV (As := [.int x1]) (rest := []) cx (m_X0_leftAtNode h) cv_X7_212 ob_BK rfl rfl rfl rfl (Nat.le_of_ble_eq_true rfl) ⟨Nat.le_of_ble_eq_true rfl, Nat.le_of_ble_eq_true rfl⟩ dX7_ofNode_49 (fun v μ3 hq => ?_)
          obtain ⟨z4, rfl, h⟩ := hq
          refine k_goto (tgt := 64) cx dX7_ofNode_52 (by decide) ?_
          exact k_xret_I cx hr fx dX7_ofNode_64 h
      · replace h := h.2 hc
        exact k_throw (text := "what is out of range") cx fx (by decide +kernel) (by decide +kernel) tk_IllegalArgumentException ti_IllegalArgumentException th_IllegalArgumentException (Nat.le_of_ble_eq_true rfl) (Nat.le_of_ble_eq_true rfl) (Nat.le_of_ble_eq_true rfl) h dX7_ofNode_30 dX7_ofNode_33 dX7_ofNode_34 dX7_ofNode_36 dX7_ofNode_39
  · replace h := h.2 hc
    exact k_throw (text := "no such node") cx fx (by decide +kernel) (by decide +kernel) tk_IndexOutOfBoundsException ti_IndexOutOfBoundsException th_IndexOutOfBoundsException (Nat.le_of_ble_eq_true rfl) (Nat.le_of_ble_eq_true rfl) (Nat.le_of_ble_eq_true rfl) h dX7_ofNode_11 dX7_ofNode_14 dX7_ofNode_15 dX7_ofNode_17 dX7_ofNode_20
theorem m_X7_ofNode {g : GE} {l : Launch} (hst : l.stackTraces = false) {μ : Mm} {q : Int32 → Mm → Prop} {qx : String → Mm → Prop} {x1 : Int32} {x2 : Int32}  (h : Wp_X7_ofNode  x1 x2 μ q qx) : MX g l yX7_ofNode cX7_ofNode 3 (some .int) 6 90 [.ref p_ML, .int x1, .int x2] μ (qI q) qx := by
  refine xmet_of hst (by decide) (Nat.le_of_ble_eq_true rfl) (by intro v hv; simp only [List.mem_cons, List.not_mem_nil, or_false] at hv; rcases hv with rfl | rfl | rfl <;> rfl) ?_
  intro f hfl cx hr fx
  exact b_X7_ofNode_e  cx hr fx (h  )
theorem dX7_part_0 : decode cX7_part 0 = .ok (.iload_n 1, 1) := by decide +kernel
theorem dX7_part_1 : decode cX7_part 1 = .ok (.iconst 1, 1) := by decide +kernel
theorem dX7_part_2 : decode cX7_part 2 = .ok (.if_icmp .lt 20, 3) := by decide +kernel
theorem dX7_part_5 : decode cX7_part 5 = .ok (.iload_n 1, 1) := by decide +kernel
theorem dX7_part_6 : decode cX7_part 6 = .ok (.bipush 20, 2) := by decide +kernel
theorem dX7_part_8 : decode cX7_part 8 = .ok (.if_icmp .gt 14, 3) := by decide +kernel
theorem dX7_part_11 : decode cX7_part 11 = .ok (.iload_n 2, 1) := by decide +kernel
theorem dX7_part_12 : decode cX7_part 12 = .ok (.iconst 1, 1) := by decide +kernel
theorem dX7_part_13 : decode cX7_part 13 = .ok (.if_icmp .lt 9, 3) := by decide +kernel
theorem dX7_part_16 : decode cX7_part 16 = .ok (.iload_n 2, 1) := by decide +kernel
theorem dX7_part_17 : decode cX7_part 17 = .ok (.bipush 63, 2) := by decide +kernel
theorem dX7_part_19 : decode cX7_part 19 = .ok (.if_icmp .le 13, 3) := by decide +kernel
theorem dX7_part_22 : decode cX7_part 22 = .ok (.new 57, 3) := by decide +kernel
theorem dX7_part_25 : decode cX7_part 25 = .ok (.dup, 1) := by decide +kernel
theorem dX7_part_26 : decode cX7_part 26 = .ok (.ldc 123, 2) := by decide +kernel
theorem dX7_part_28 : decode cX7_part 28 = .ok (.invokespecial 61, 3) := by decide +kernel
theorem dX7_part_31 : decode cX7_part 31 = .ok (.athrow, 1) := by decide +kernel
theorem dX7_part_32 : decode cX7_part 32 = .ok (.aload_n 0, 1) := by decide +kernel
theorem dX7_part_33 : decode cX7_part 33 = .ok (.invokevirtual 125, 3) := by decide +kernel
theorem dX7_part_36 : decode cX7_part 36 = .ok (.getfield 129, 3) := by decide +kernel
theorem dX7_part_39 : decode cX7_part 39 = .ok (.iconst 3, 1) := by decide +kernel
theorem dX7_part_40 : decode cX7_part 40 = .ok (.if_icmp .lt 13, 3) := by decide +kernel
theorem dX7_part_43 : decode cX7_part 43 = .ok (.new 68, 3) := by decide +kernel
theorem dX7_part_46 : decode cX7_part 46 = .ok (.dup, 1) := by decide +kernel
theorem dX7_part_47 : decode cX7_part 47 = .ok (.ldc 132, 2) := by decide +kernel
theorem dX7_part_49 : decode cX7_part 49 = .ok (.invokespecial 72, 3) := by decide +kernel
theorem dX7_part_52 : decode cX7_part 52 = .ok (.athrow, 1) := by decide +kernel
theorem dX7_part_53 : decode cX7_part 53 = .ok (.aload_n 0, 1) := by decide +kernel
theorem dX7_part_54 : decode cX7_part 54 = .ok (.invokevirtual 125, 3) := by decide +kernel
theorem dX7_part_57 : decode cX7_part 57 = .ok (.iload_n 1, 1) := by decide +kernel
theorem dX7_part_58 : decode cX7_part 58 = .ok (.iload_n 2, 1) := by decide +kernel
theorem dX7_part_59 : decode cX7_part 59 = .ok (.invokevirtual 134, 3) := by decide +kernel
theorem dX7_part_62 : decode cX7_part 62 = .ok (.ireturn, 1) := by decide +kernel
def F_X7_part_e   (q : Int32 → Mm → Prop) (qx : String → Mm → Prop) (x1 : Int32) (x2 : Int32) (μ : Mm) : Prop :=
  ((x1 < (1 : Int32) → qx "java/lang/IllegalArgumentException" μ) ∧ (¬ (x1 < (1 : Int32)) → (((20 : Int32) < x1 → qx "java/lang/IllegalArgumentException" μ) ∧ (¬ ((20 : Int32) < x1) → ((x2 < (1 : Int32) → qx "java/lang/IllegalArgumentException" μ) ∧ (¬ (x2 < (1 : Int32)) → ((x2 ≤ (63 : Int32) → Wp_X7_draft μ (fun r2 μ1 => (((μ1 r2 10) < (3 : Int32) → Wp_X7_draft μ1 (fun r4 μ3 => Wp_X5_addPart r4 x1 x2 μ3 (fun z6 μ5 => q z6 μ5))) ∧ (¬ ((μ1 r2 10) < (3 : Int32)) → qx "java/lang/IllegalStateException" μ1)))) ∧ (¬ (x2 ≤ (63 : Int32)) → qx "java/lang/IllegalArgumentException" μ))))))))
def Wp_X7_part  (x1 : Int32) (x2 : Int32) (μ : Mm) (q : Int32 → Mm → Prop) (qx : String → Mm → Prop) : Prop := F_X7_part_e   q qx x1 x2 μ
set_option maxHeartbeats 2000000 in
theorem b_X7_part_e  {g : GE} {f : FE} {q : Int32 → Mm → Prop} {qx : String → Mm → Prop} (cx : Cx g f cX7_part 3 RX7 6 90 0 0) (hr : (f_M f).sig.returnType = (some .int)) (fx : FX g f (qI q) qx)  {x1 : Int32} {x2 : Int32} {μ : Mm} (h : F_X7_part_e   q qx x1 x2 μ) : KW g f 3 0 0 0 [some (.ref p_ML), some (.int x1), some (.int x2)] [] μ := by
  unfold F_X7_part_e at h
  refine k_iload_n cx dX7_part_0 rfl rfl ?_
  refine k_iconst (v := (1 : Int32)) cx dX7_part_1 (by decide +kernel) ?_
  refine k_icmp_lt (tgt := 22) cx dX7_part_2 (by decide) (fun hc => ?_) (fun hc => ?_)
  · replace h := h.1 hc
    exact k_throw (text := "need or nodes is out of range") cx fx (by decide +kernel) (by decide +kernel) tk_IllegalArgumentException ti_IllegalArgumentException th_IllegalArgumentException (Nat.le_of_ble_eq_true rfl) (Nat.le_of_ble_eq_true rfl) (Nat.le_of_ble_eq_true rfl) h dX7_part_22 dX7_part_25 dX7_part_26 dX7_part_28 dX7_part_31
  · replace h := h.2 hc
    refine k_iload_n cx dX7_part_5 rfl rfl ?_
    refine k_bipush (v := (20 : Int32)) cx dX7_part_6 (by decide +kernel) ?_
    refine k_icmp_gt (tgt := 22) cx dX7_part_8 (by decide) (fun hc => ?_) (fun hc => ?_)
    · replace h := h.1 hc
      exact k_throw (text := "need or nodes is out of range") cx fx (by decide +kernel) (by decide +kernel) tk_IllegalArgumentException ti_IllegalArgumentException th_IllegalArgumentException (Nat.le_of_ble_eq_true rfl) (Nat.le_of_ble_eq_true rfl) (Nat.le_of_ble_eq_true rfl) h dX7_part_22 dX7_part_25 dX7_part_26 dX7_part_28 dX7_part_31
    · replace h := h.2 hc
      refine k_iload_n cx dX7_part_11 rfl rfl ?_
      refine k_iconst (v := (1 : Int32)) cx dX7_part_12 (by decide +kernel) ?_
      refine k_icmp_lt (tgt := 22) cx dX7_part_13 (by decide) (fun hc => ?_) (fun hc => ?_)
      · replace h := h.1 hc
        exact k_throw (text := "need or nodes is out of range") cx fx (by decide +kernel) (by decide +kernel) tk_IllegalArgumentException ti_IllegalArgumentException th_IllegalArgumentException (Nat.le_of_ble_eq_true rfl) (Nat.le_of_ble_eq_true rfl) (Nat.le_of_ble_eq_true rfl) h dX7_part_22 dX7_part_25 dX7_part_26 dX7_part_28 dX7_part_31
      · replace h := h.2 hc
        refine k_iload_n cx dX7_part_16 rfl rfl ?_
        refine k_bipush (v := (63 : Int32)) cx dX7_part_17 (by decide +kernel) ?_
        refine k_icmp_le (tgt := 32) cx dX7_part_19 (by decide) (fun hc => ?_) (fun hc => ?_)
        · replace h := h.1 hc
          refine k_aload_n cx dX7_part_32 rfl rfl ?_
          refine k_callV (As := []) (rest := []) cx (m_X7_draft h) cv_X7_125 ob_ML rfl rfl rfl rfl (Nat.le_of_ble_eq_true rfl) ⟨Nat.le_of_ble_eq_true rfl, Nat.le_of_ble_eq_true rfl⟩ dX7_part_33 (fun v μ1 hq => ?_)
          obtain ⟨r2, rfl, hr_r2, h⟩ := hq
          refine k_get (o := none) (v := .int (μ1 r2 10)) cx fl_X7_129 (ob_RQ hr_r2) rfl rfl dX7_part_36 ?_
          refine k_iconst (v := (3 : Int32)) cx dX7_part_39 (by decide +kernel) ?_
          refine k_icmp_lt (tgt := 53) cx dX7_part_40 (by decide) (fun hc => ?_) (fun hc => ?_)
          · replace h := h.1 hc
            refine k_aload_n cx dX7_part_53 rfl rfl ?_
            refine k_callV (As := []) (rest := []) cx (m_X7_draft h) cv_X7_125 ob_ML rfl rfl rfl rfl (Nat.le_of_ble_eq_true rfl) ⟨Nat.le_of_ble_eq_true rfl, Nat.le_of_ble_eq_true rfl⟩ dX7_part_54 (fun v μ3 hq => ?_)
            obtain ⟨r4, rfl, hr_r4, h⟩ := hq
            refine k_iload_n cx dX7_part_57 rfl rfl ?_
            refine k_iload_n cx dX7_part_58 rfl rfl ?_
            refine k_callV (As := [.int x1, .int x2]) (rest := []) cx (m_X5_addPart hr_r4 h) cv_X7_134 (ob_RQ hr_r4) rfl rfl rfl rfl (Nat.le_of_ble_eq_true rfl) ⟨Nat.le_of_ble_eq_true rfl, Nat.le_of_ble_eq_true rfl⟩ dX7_part_59 (fun v μ5 hq => ?_)
            obtain ⟨z6, rfl, h⟩ := hq
            exact k_xret_I cx hr fx dX7_part_62 h
          · replace h := h.2 hc
            exact k_throw (text := "the draft has 3 parts") cx fx (by decide +kernel) (by decide +kernel) tk_IllegalStateException ti_IllegalStateException th_IllegalStateException (Nat.le_of_ble_eq_true rfl) (Nat.le_of_ble_eq_true rfl) (Nat.le_of_ble_eq_true rfl) h dX7_part_43 dX7_part_46 dX7_part_47 dX7_part_49 dX7_part_52
        · replace h := h.2 hc
          exact k_throw (text := "need or nodes is out of range") cx fx (by decide +kernel) (by decide +kernel) tk_IllegalArgumentException ti_IllegalArgumentException th_IllegalArgumentException (Nat.le_of_ble_eq_true rfl) (Nat.le_of_ble_eq_true rfl) (Nat.le_of_ble_eq_true rfl) h dX7_part_22 dX7_part_25 dX7_part_26 dX7_part_28 dX7_part_31
theorem m_X7_part {g : GE} {l : Launch} (hst : l.stackTraces = false) {μ : Mm} {q : Int32 → Mm → Prop} {qx : String → Mm → Prop} {x1 : Int32} {x2 : Int32}  (h : Wp_X7_part  x1 x2 μ q qx) : MX g l yX7_part cX7_part 3 (some .int) 6 90 [.ref p_ML, .int x1, .int x2] μ (qI q) qx := by
  refine xmet_of hst (by decide) (Nat.le_of_ble_eq_true rfl) (by intro v hv; simp only [List.mem_cons, List.not_mem_nil, or_false] at hv; rcases hv with rfl | rfl | rfl <;> rfl) ?_
  intro f hfl cx hr fx
  exact b_X7_part_e  cx hr fx (h  )
theorem dX7_pass_0 : decode cX7_pass 0 = .ok (.iload_n 1, 1) := by decide +kernel
theorem dX7_pass_1 : decode cX7_pass 1 = .ok (.iconst 1, 1) := by decide +kernel
theorem dX7_pass_2 : decode cX7_pass 2 = .ok (.if_icmp .lt 9, 3) := by decide +kernel
theorem dX7_pass_5 : decode cX7_pass 5 = .ok (.iload_n 1, 1) := by decide +kernel
theorem dX7_pass_6 : decode cX7_pass 6 = .ok (.bipush 100, 2) := by decide +kernel
theorem dX7_pass_8 : decode cX7_pass 8 = .ok (.if_icmp .le 13, 3) := by decide +kernel
theorem dX7_pass_11 : decode cX7_pass 11 = .ok (.new 57, 3) := by decide +kernel
theorem dX7_pass_14 : decode cX7_pass 14 = .ok (.dup, 1) := by decide +kernel
theorem dX7_pass_15 : decode cX7_pass 15 = .ok (.ldc 208, 2) := by decide +kernel
theorem dX7_pass_17 : decode cX7_pass 17 = .ok (.invokespecial 61, 3) := by decide +kernel
theorem dX7_pass_20 : decode cX7_pass 20 = .ok (.athrow, 1) := by decide +kernel
theorem dX7_pass_21 : decode cX7_pass 21 = .ok (.aload_n 0, 1) := by decide +kernel
theorem dX7_pass_22 : decode cX7_pass 22 = .ok (.dup, 1) := by decide +kernel
theorem dX7_pass_23 : decode cX7_pass 23 = .ok (.getfield 171, 3) := by decide +kernel
theorem dX7_pass_26 : decode cX7_pass 26 = .ok (.iload_n 1, 1) := by decide +kernel
theorem dX7_pass_27 : decode cX7_pass 27 = .ok (.iadd, 1) := by decide +kernel
theorem dX7_pass_28 : decode cX7_pass 28 = .ok (.putfield 171, 3) := by decide +kernel
theorem dX7_pass_31 : decode cX7_pass 31 = .ok (.iconst 0, 1) := by decide +kernel
theorem dX7_pass_32 : decode cX7_pass 32 = .ok (.istore_n 2, 1) := by decide +kernel
theorem dX7_pass_33 : decode cX7_pass 33 = .ok (.iload_n 2, 1) := by decide +kernel
theorem dX7_pass_34 : decode cX7_pass 34 = .ok (.aload_n 0, 1) := by decide +kernel
theorem dX7_pass_35 : decode cX7_pass 35 = .ok (.getfield 110, 3) := by decide +kernel
theorem dX7_pass_38 : decode cX7_pass 38 = .ok (.if_icmp .ge 39, 3) := by decide +kernel
theorem dX7_pass_41 : decode cX7_pass 41 = .ok (.aload_n 0, 1) := by decide +kernel
theorem dX7_pass_42 : decode cX7_pass 42 = .ok (.getfield 52, 3) := by decide +kernel
theorem dX7_pass_45 : decode cX7_pass 45 = .ok (.iload_n 2, 1) := by decide +kernel
theorem dX7_pass_46 : decode cX7_pass 46 = .ok (.aaload, 1) := by decide +kernel
theorem dX7_pass_47 : decode cX7_pass 47 = .ok (.astore_n 3, 1) := by decide +kernel
theorem dX7_pass_48 : decode cX7_pass 48 = .ok (.aload_n 3, 1) := by decide +kernel
theorem dX7_pass_49 : decode cX7_pass 49 = .ok (.getfield 113, 3) := by decide +kernel
theorem dX7_pass_52 : decode cX7_pass 52 = .ok (.ifCond .ne 19, 3) := by decide +kernel
theorem dX7_pass_55 : decode cX7_pass 55 = .ok (.aload_n 3, 1) := by decide +kernel
theorem dX7_pass_56 : decode cX7_pass 56 = .ok (.getfield 174, 3) := by decide +kernel
theorem dX7_pass_59 : decode cX7_pass 59 = .ok (.aload_n 0, 1) := by decide +kernel
theorem dX7_pass_60 : decode cX7_pass 60 = .ok (.getfield 171, 3) := by decide +kernel
theorem dX7_pass_63 : decode cX7_pass 63 = .ok (.if_icmp .gt 8, 3) := by decide +kernel
theorem dX7_pass_66 : decode cX7_pass 66 = .ok (.aload_n 0, 1) := by decide +kernel
theorem dX7_pass_67 : decode cX7_pass 67 = .ok (.aload_n 3, 1) := by decide +kernel
theorem dX7_pass_68 : decode cX7_pass 68 = .ok (.invokevirtual 184, 3) := by decide +kernel
theorem dX7_pass_71 : decode cX7_pass 71 = .ok (.iinc 2 1, 3) := by decide +kernel
theorem dX7_pass_74 : decode cX7_pass 74 = .ok (.goto (-41), 3) := by decide +kernel
theorem dX7_pass_77 : decode cX7_pass 77 = .ok (.aload_n 0, 1) := by decide +kernel
theorem dX7_pass_78 : decode cX7_pass 78 = .ok (.getfield 171, 3) := by decide +kernel
theorem dX7_pass_81 : decode cX7_pass 81 = .ok (.ireturn, 1) := by decide +kernel
def F_X7_pass_33  (K33 : Int32 → Mm → Prop) (q : Int32 → Mm → Prop) (qx : String → Mm → Prop) (x2 : Int32) (μ : Mm) : Prop :=
  (((μ p_ML 6) ≤ x2 → q (μ p_ML 7) μ) ∧ (¬ ((μ p_ML 6) ≤ x2) → vp_in x2 13 ∧ ((¬ ((μ (p_RQ + 11 * (x2).toNatClampNeg) 14) = 0) → K33 (x2 + (1 : Int32)) μ) ∧ ((μ (p_RQ + 11 * (x2).toNatClampNeg) 14) = 0 → (((μ p_ML 7) < (μ (p_RQ + 11 * (x2).toNatClampNeg) 13) → K33 (x2 + (1 : Int32)) μ) ∧ (¬ ((μ p_ML 7) < (μ (p_RQ + 11 * (x2).toNatClampNeg) 13)) → Wp_X7_dismiss (p_RQ + 11 * (x2).toNatClampNeg) μ (fun μ1 => K33 (x2 + (1 : Int32)) μ1)))))))
def F_X7_pass_e  (K33 : Int32 → Mm → Prop) (q : Int32 → Mm → Prop) (qx : String → Mm → Prop) (x1 : Int32) (μ : Mm) : Prop :=
  ((x1 < (1 : Int32) → qx "java/lang/IllegalArgumentException" μ) ∧ (¬ (x1 < (1 : Int32)) → ((x1 ≤ (100 : Int32) → K33 (0 : Int32) (up2 μ p_ML 7 ((μ p_ML 7) + x1))) ∧ (¬ (x1 ≤ (100 : Int32)) → qx "java/lang/IllegalArgumentException" μ))))
def Wp_X7_pass  (x1 : Int32) (μ : Mm) (q : Int32 → Mm → Prop) (qx : String → Mm → Prop) : Prop := ∀ (K33 : Int32 → Mm → Prop), (∀ (x2 : Int32) (μ : Mm), F_X7_pass_33  K33 q qx x2 μ → K33 x2 μ) → F_X7_pass_e  K33 q qx x1 μ
abbrev KK_X7_pass_33 (g : GE) (f : FE)  : Int32 → Mm → Prop := fun x2 μ => KW g f 4 0 0 33 [some (.ref p_ML), none, some (.int x2), none] [] μ
set_option maxHeartbeats 2000000 in
theorem b_X7_pass_33  {g : GE} {f : FE} {q : Int32 → Mm → Prop} {qx : String → Mm → Prop} (cx : Cx g f cX7_pass 4 RX7 6 114 0 0) (hr : (f_M f).sig.returnType = (some .int)) (fx : FX g f (qI q) qx)  {x2 : Int32} {μ : Mm} (h : F_X7_pass_33  (KK_X7_pass_33 g f ) q qx x2 μ) : KK_X7_pass_33 g f  x2 μ := by
  unfold F_X7_pass_33 at h
  show KW g f 4 0 0 33 [some (.ref p_ML), none, some (.int x2), none] [] μ
  refine k_iload_n cx dX7_pass_33 rfl rfl ?_
  refine k_aload_n cx dX7_pass_34 rfl rfl ?_
  refine k_get (o := none) (v := .int (μ p_ML 6)) cx fl_X7_110 ob_ML rfl rfl dX7_pass_35 ?_
  refine k_icmp_ge (tgt := 77) cx dX7_pass_38 (by decide) (fun hc => ?_) (fun hc => ?_)
  · replace h := h.1 hc
    refine k_aload_n cx dX7_pass_77 rfl rfl ?_
    refine k_get (o := none) (v := .int (μ p_ML 7)) cx fl_X7_171 ob_ML rfl rfl dX7_pass_78 ?_
    exact k_xret_I cx hr fx dX7_pass_81 h
  · replace h := h.2 hc
    refine k_aload_n cx dX7_pass_41 rfl rfl ?_
    refine k_get (o := some p_ML_requests) (v := .ref p_ML_requests) cx fl_X7_52 ob_ML rfl rfl dX7_pass_42 ?_
    refine k_iload_n cx dX7_pass_45 rfl rfl ?_
    obtain ⟨hi1, h⟩ := h
    refine k_aald_ML_requests cx hi1 dX7_pass_46 ?_
    refine k_astore_n cx dX7_pass_47 rfl (by decide) ?_
    refine k_aload_n cx dX7_pass_48 rfl rfl ?_
    refine k_get (o := none) (v := .int (μ (p_RQ + 11 * (x2).toNatClampNeg) 14)) cx fl_X7_113 (ob_RQ (vp_req hi1)) rfl rfl dX7_pass_49 ?_
    refine k_if_ne (tgt := 71) cx dX7_pass_52 (by decide) (fun hc => ?_) (fun hc => ?_)
    · replace h := h.1 hc
      refine k_iinc (v := (x2 + (1 : Int32))) cx dX7_pass_71 rfl rfl (by decide) ?_
      refine k_goto (tgt := 33) cx dX7_pass_74 (by decide) ?_
      exact k_weak h (lsLe.keep (lsLe.keep (lsLe.keep (lsLe.drop lsLe.nil))))
    · replace h := h.2 hc
      refine k_aload_n cx dX7_pass_55 rfl rfl ?_
      refine k_get (o := none) (v := .int (μ (p_RQ + 11 * (x2).toNatClampNeg) 13)) cx fl_X7_174 (ob_RQ (vp_req hi1)) rfl rfl dX7_pass_56 ?_
      refine k_aload_n cx dX7_pass_59 rfl rfl ?_
      refine k_get (o := none) (v := .int (μ p_ML 7)) cx fl_X7_171 ob_ML rfl rfl dX7_pass_60 ?_
      refine k_icmp_gt (tgt := 71) cx dX7_pass_63 (by decide) (fun hc => ?_) (fun hc => ?_)
      · replace h := h.1 hc
        refine k_iinc (v := (x2 + (1 : Int32))) cx dX7_pass_71 rfl rfl (by decide) ?_
        refine k_goto (tgt := 33) cx dX7_pass_74 (by decide) ?_
        exact k_weak h (lsLe.keep (lsLe.keep (lsLe.keep (lsLe.drop lsLe.nil))))
      · replace h := h.2 hc
        refine k_aload_n cx dX7_pass_66 rfl rfl ?_
        refine k_aload_n cx dX7_pass_67 rfl rfl ?_
        refine k_callV (As := [.ref (p_RQ + 11 * (x2).toNatClampNeg)]) (rest := []) cx (m_X7_dismiss (vp_req hi1) h) cv_X7_184 ob_ML rfl rfl rfl rfl (Nat.le_of_ble_eq_true rfl) ⟨Nat.le_of_ble_eq_true rfl, Nat.le_of_ble_eq_true rfl⟩ dX7_pass_68 (fun v μ1 hq => ?_)
        obtain ⟨rfl, h⟩ := hq
        refine k_iinc (v := (x2 + (1 : Int32))) cx dX7_pass_71 rfl rfl (by decide) ?_
        refine k_goto (tgt := 33) cx dX7_pass_74 (by decide) ?_
        exact k_weak h (lsLe.keep (lsLe.keep (lsLe.keep (lsLe.drop lsLe.nil))))
set_option maxHeartbeats 2000000 in
theorem b_X7_pass_e  {g : GE} {f : FE} {q : Int32 → Mm → Prop} {qx : String → Mm → Prop} (cx : Cx g f cX7_pass 4 RX7 6 114 0 0) (hr : (f_M f).sig.returnType = (some .int)) (fx : FX g f (qI q) qx)  {x1 : Int32} {μ : Mm} (h : F_X7_pass_e  (KK_X7_pass_33 g f ) q qx x1 μ) : KW g f 4 0 0 0 [some (.ref p_ML), some (.int x1), none, none] [] μ := by
  unfold F_X7_pass_e at h
  refine k_iload_n cx dX7_pass_0 rfl rfl ?_
  refine k_iconst (v := (1 : Int32)) cx dX7_pass_1 (by decide +kernel) ?_
  refine k_icmp_lt (tgt := 11) cx dX7_pass_2 (by decide) (fun hc => ?_) (fun hc => ?_)
  · replace h := h.1 hc
    exact k_throw (text := "ticks is out of range") cx fx (by decide +kernel) (by decide +kernel) tk_IllegalArgumentException ti_IllegalArgumentException th_IllegalArgumentException (Nat.le_of_ble_eq_true rfl) (Nat.le_of_ble_eq_true rfl) (Nat.le_of_ble_eq_true rfl) h dX7_pass_11 dX7_pass_14 dX7_pass_15 dX7_pass_17 dX7_pass_20
  · replace h := h.2 hc
    refine k_iload_n cx dX7_pass_5 rfl rfl ?_
    refine k_bipush (v := (100 : Int32)) cx dX7_pass_6 (by decide +kernel) ?_
    refine k_icmp_le (tgt := 21) cx dX7_pass_8 (by decide) (fun hc => ?_) (fun hc => ?_)
    · replace h := h.1 hc
      refine k_aload_n cx dX7_pass_21 rfl rfl ?_
      refine k_dup cx dX7_pass_22 rfl ?_
      refine k_get (o := none) (v := .int (μ p_ML 7)) cx fl_X7_171 ob_ML rfl rfl dX7_pass_23 ?_
      refine k_iload_n cx dX7_pass_26 rfl rfl ?_
      refine k_iadd cx dX7_pass_27 ?_
      refine k_put cx fp_X7_171 ob_ML rfl rfl rfl dX7_pass_28 ?_
      refine k_iconst (v := (0 : Int32)) cx dX7_pass_31 (by decide +kernel) ?_
      refine k_istore_n cx dX7_pass_32 rfl (by decide) ?_
      exact k_weak h (lsLe.keep (lsLe.drop (lsLe.keep (lsLe.keep lsLe.nil))))
    · replace h := h.2 hc
      exact k_throw (text := "ticks is out of range") cx fx (by decide +kernel) (by decide +kernel) tk_IllegalArgumentException ti_IllegalArgumentException th_IllegalArgumentException (Nat.le_of_ble_eq_true rfl) (Nat.le_of_ble_eq_true rfl) (Nat.le_of_ble_eq_true rfl) h dX7_pass_11 dX7_pass_14 dX7_pass_15 dX7_pass_17 dX7_pass_20
theorem m_X7_pass {g : GE} {l : Launch} (hst : l.stackTraces = false) {μ : Mm} {q : Int32 → Mm → Prop} {qx : String → Mm → Prop} {x1 : Int32}  (h : Wp_X7_pass  x1 μ q qx) : MX g l yX7_pass cX7_pass 4 (some .int) 6 114 [.ref p_ML, .int x1] μ (qI q) qx := by
  refine xmet_of hst (by decide) (Nat.le_of_ble_eq_true rfl) (by intro v hv; simp only [List.mem_cons, List.not_mem_nil, or_false] at hv; rcases hv with rfl | rfl <;> rfl) ?_
  intro f hfl cx hr fx
  exact b_X7_pass_e  cx hr fx (h (KK_X7_pass_33 g f ) (fun _ _ h => b_X7_pass_33  cx hr fx h))
theorem dX7_place_0 : decode cX7_place 0 = .ok (.iload_n 1, 1) := by decide +kernel
theorem dX7_place_1 : decode cX7_place 1 = .ok (.ifCond .lt 19, 3) := by decide +kernel
theorem dX7_place_4 : decode cX7_place 4 = .ok (.iload_n 1, 1) := by decide +kernel
theorem dX7_place_5 : decode cX7_place 5 = .ok (.iconst 2, 1) := by decide +kernel
theorem dX7_place_6 : decode cX7_place 6 = .ok (.if_icmp .gt 14, 3) := by decide +kernel
theorem dX7_place_9 : decode cX7_place 9 = .ok (.iload_n 2, 1) := by decide +kernel
theorem dX7_place_10 : decode cX7_place 10 = .ok (.iconst 1, 1) := by decide +kernel
theorem dX7_place_11 : decode cX7_place 11 = .ok (.if_icmp .lt 9, 3) := by decide +kernel
theorem dX7_place_14 : decode cX7_place 14 = .ok (.iload_n 2, 1) := by decide +kernel
theorem dX7_place_15 : decode cX7_place 15 = .ok (.bipush 100, 2) := by decide +kernel
theorem dX7_place_17 : decode cX7_place 17 = .ok (.if_icmp .le 13, 3) := by decide +kernel
theorem dX7_place_20 : decode cX7_place 20 = .ok (.new 57, 3) := by decide +kernel
theorem dX7_place_23 : decode cX7_place 23 = .ok (.dup, 1) := by decide +kernel
theorem dX7_place_24 : decode cX7_place 24 = .ok (.ldc 160, 2) := by decide +kernel
theorem dX7_place_26 : decode cX7_place 26 = .ok (.invokespecial 61, 3) := by decide +kernel
theorem dX7_place_29 : decode cX7_place 29 = .ok (.athrow, 1) := by decide +kernel
theorem dX7_place_30 : decode cX7_place 30 = .ok (.aload_n 0, 1) := by decide +kernel
theorem dX7_place_31 : decode cX7_place 31 = .ok (.getfield 110, 3) := by decide +kernel
theorem dX7_place_34 : decode cX7_place 34 = .ok (.bipush 12, 2) := by decide +kernel
theorem dX7_place_36 : decode cX7_place 36 = .ok (.if_icmp .ge 13, 3) := by decide +kernel
theorem dX7_place_39 : decode cX7_place 39 = .ok (.aload_n 0, 1) := by decide +kernel
theorem dX7_place_40 : decode cX7_place 40 = .ok (.invokevirtual 125, 3) := by decide +kernel
theorem dX7_place_43 : decode cX7_place 43 = .ok (.getfield 129, 3) := by decide +kernel
theorem dX7_place_46 : decode cX7_place 46 = .ok (.ifCond .ne 13, 3) := by decide +kernel
theorem dX7_place_49 : decode cX7_place 49 = .ok (.new 68, 3) := by decide +kernel
theorem dX7_place_52 : decode cX7_place 52 = .ok (.dup, 1) := by decide +kernel
theorem dX7_place_53 : decode cX7_place 53 = .ok (.ldc 162, 2) := by decide +kernel
theorem dX7_place_55 : decode cX7_place 55 = .ok (.invokespecial 72, 3) := by decide +kernel
theorem dX7_place_58 : decode cX7_place 58 = .ok (.athrow, 1) := by decide +kernel
theorem dX7_place_59 : decode cX7_place 59 = .ok (.aload_n 0, 1) := by decide +kernel
theorem dX7_place_60 : decode cX7_place 60 = .ok (.getfield 39, 3) := by decide +kernel
theorem dX7_place_63 : decode cX7_place 63 = .ok (.aload_n 0, 1) := by decide +kernel
theorem dX7_place_64 : decode cX7_place 64 = .ok (.invokevirtual 125, 3) := by decide +kernel
theorem dX7_place_67 : decode cX7_place 67 = .ok (.iload_n 1, 1) := by decide +kernel
theorem dX7_place_68 : decode cX7_place 68 = .ok (.invokevirtual 164, 3) := by decide +kernel
theorem dX7_place_71 : decode cX7_place 71 = .ok (.ifCond .ne 5, 3) := by decide +kernel
theorem dX7_place_74 : decode cX7_place 74 = .ok (.iconst (-1), 1) := by decide +kernel
theorem dX7_place_75 : decode cX7_place 75 = .ok (.ireturn, 1) := by decide +kernel
theorem dX7_place_76 : decode cX7_place 76 = .ok (.aload_n 0, 1) := by decide +kernel
theorem dX7_place_77 : decode cX7_place 77 = .ok (.invokevirtual 125, 3) := by decide +kernel
theorem dX7_place_80 : decode cX7_place 80 = .ok (.iload_n 1, 1) := by decide +kernel
theorem dX7_place_81 : decode cX7_place 81 = .ok (.putfield 168, 3) := by decide +kernel
theorem dX7_place_84 : decode cX7_place 84 = .ok (.aload_n 0, 1) := by decide +kernel
theorem dX7_place_85 : decode cX7_place 85 = .ok (.invokevirtual 125, 3) := by decide +kernel
theorem dX7_place_88 : decode cX7_place 88 = .ok (.aload_n 0, 1) := by decide +kernel
theorem dX7_place_89 : decode cX7_place 89 = .ok (.getfield 171, 3) := by decide +kernel
theorem dX7_place_92 : decode cX7_place 92 = .ok (.iload_n 2, 1) := by decide +kernel
theorem dX7_place_93 : decode cX7_place 93 = .ok (.iadd, 1) := by decide +kernel
theorem dX7_place_94 : decode cX7_place 94 = .ok (.putfield 174, 3) := by decide +kernel
theorem dX7_place_97 : decode cX7_place 97 = .ok (.aload_n 0, 1) := by decide +kernel
theorem dX7_place_98 : decode cX7_place 98 = .ok (.dup, 1) := by decide +kernel
theorem dX7_place_99 : decode cX7_place 99 = .ok (.getfield 110, 3) := by decide +kernel
theorem dX7_place_102 : decode cX7_place 102 = .ok (.iconst 1, 1) := by decide +kernel
theorem dX7_place_103 : decode cX7_place 103 = .ok (.iadd, 1) := by decide +kernel
theorem dX7_place_104 : decode cX7_place 104 = .ok (.putfield 110, 3) := by decide +kernel
theorem dX7_place_107 : decode cX7_place 107 = .ok (.aload_n 0, 1) := by decide +kernel
theorem dX7_place_108 : decode cX7_place 108 = .ok (.getfield 110, 3) := by decide +kernel
theorem dX7_place_111 : decode cX7_place 111 = .ok (.iconst 1, 1) := by decide +kernel
theorem dX7_place_112 : decode cX7_place 112 = .ok (.isub, 1) := by decide +kernel
theorem dX7_place_113 : decode cX7_place 113 = .ok (.ireturn, 1) := by decide +kernel
def F_X7_place_e   (q : Int32 → Mm → Prop) (qx : String → Mm → Prop) (x1 : Int32) (x2 : Int32) (μ : Mm) : Prop :=
  ((x1 < 0 → qx "java/lang/IllegalArgumentException" μ) ∧ (¬ (x1 < 0) → (((2 : Int32) < x1 → qx "java/lang/IllegalArgumentException" μ) ∧ (¬ ((2 : Int32) < x1) → ((x2 < (1 : Int32) → qx "java/lang/IllegalArgumentException" μ) ∧ (¬ (x2 < (1 : Int32)) → ((x2 ≤ (100 : Int32) → (((12 : Int32) ≤ (μ p_ML 6) → qx "java/lang/IllegalStateException" μ) ∧ (¬ ((12 : Int32) ≤ (μ p_ML 6)) → Wp_X7_draft μ (fun r2 μ1 => ((¬ ((μ1 r2 10) = 0) → Wp_X7_draft μ1 (fun r4 μ3 => Wp_X4_lodge r4 x1 μ3 (fun b6 μ5 => ((¬ ((bI b6) = 0) → Wp_X7_draft μ5 (fun r8 μ7 => Wp_X7_draft (up2 μ7 r8 12 x1) (fun r10 μ9 => q (((up2 (up2 μ9 r10 13 ((μ9 p_ML 7) + x2)) p_ML 6 (((up2 μ9 r10 13 ((μ9 p_ML 7) + x2)) p_ML 6) + (1 : Int32))) p_ML 6) - (1 : Int32)) (up2 (up2 μ9 r10 13 ((μ9 p_ML 7) + x2)) p_ML 6 (((up2 μ9 r10 13 ((μ9 p_ML 7) + x2)) p_ML 6) + (1 : Int32)))))) ∧ ((bI b6) = 0 → q (-1 : Int32) μ5))))) ∧ ((μ1 r2 10) = 0 → qx "java/lang/IllegalStateException" μ1)))))) ∧ (¬ (x2 ≤ (100 : Int32)) → qx "java/lang/IllegalArgumentException" μ))))))))
def Wp_X7_place  (x1 : Int32) (x2 : Int32) (μ : Mm) (q : Int32 → Mm → Prop) (qx : String → Mm → Prop) : Prop := F_X7_place_e   q qx x1 x2 μ
set_option maxHeartbeats 2000000 in
theorem b_X7_place_e  {g : GE} {f : FE} {q : Int32 → Mm → Prop} {qx : String → Mm → Prop} (cx : Cx g f cX7_place 3 RX7 9 241 0 0) (hr : (f_M f).sig.returnType = (some .int)) (fx : FX g f (qI q) qx)  {x1 : Int32} {x2 : Int32} {μ : Mm} (h : F_X7_place_e   q qx x1 x2 μ) : KW g f 3 0 0 0 [some (.ref p_ML), some (.int x1), some (.int x2)] [] μ := by
  unfold F_X7_place_e at h
  refine k_iload_n cx dX7_place_0 rfl rfl ?_
  refine k_if_lt (tgt := 20) cx dX7_place_1 (by decide) (fun hc => ?_) (fun hc => ?_)
  · replace h := h.1 hc
    exact k_throw (text := "manner or ticks is out of range") cx fx (by decide +kernel) (by decide +kernel) tk_IllegalArgumentException ti_IllegalArgumentException th_IllegalArgumentException (Nat.le_of_ble_eq_true rfl) (Nat.le_of_ble_eq_true rfl) (Nat.le_of_ble_eq_true rfl) h dX7_place_20 dX7_place_23 dX7_place_24 dX7_place_26 dX7_place_29
  · replace h := h.2 hc
    refine k_iload_n cx dX7_place_4 rfl rfl ?_
    refine k_iconst (v := (2 : Int32)) cx dX7_place_5 (by decide +kernel) ?_
    refine k_icmp_gt (tgt := 20) cx dX7_place_6 (by decide) (fun hc => ?_) (fun hc => ?_)
    · replace h := h.1 hc
      exact k_throw (text := "manner or ticks is out of range") cx fx (by decide +kernel) (by decide +kernel) tk_IllegalArgumentException ti_IllegalArgumentException th_IllegalArgumentException (Nat.le_of_ble_eq_true rfl) (Nat.le_of_ble_eq_true rfl) (Nat.le_of_ble_eq_true rfl) h dX7_place_20 dX7_place_23 dX7_place_24 dX7_place_26 dX7_place_29
    · replace h := h.2 hc
      refine k_iload_n cx dX7_place_9 rfl rfl ?_
      refine k_iconst (v := (1 : Int32)) cx dX7_place_10 (by decide +kernel) ?_
      refine k_icmp_lt (tgt := 20) cx dX7_place_11 (by decide) (fun hc => ?_) (fun hc => ?_)
      · replace h := h.1 hc
        exact k_throw (text := "manner or ticks is out of range") cx fx (by decide +kernel) (by decide +kernel) tk_IllegalArgumentException ti_IllegalArgumentException th_IllegalArgumentException (Nat.le_of_ble_eq_true rfl) (Nat.le_of_ble_eq_true rfl) (Nat.le_of_ble_eq_true rfl) h dX7_place_20 dX7_place_23 dX7_place_24 dX7_place_26 dX7_place_29
      · replace h := h.2 hc
        refine k_iload_n cx dX7_place_14 rfl rfl ?_
        refine k_bipush (v := (100 : Int32)) cx dX7_place_15 (by decide +kernel) ?_
        refine k_icmp_le (tgt := 30) cx dX7_place_17 (by decide) (fun hc => ?_) (fun hc => ?_)
        · replace h := h.1 hc
          refine k_aload_n cx dX7_place_30 rfl rfl ?_
          refine k_get (o := none) (v := .int (μ p_ML 6)) cx fl_X7_110 ob_ML rfl rfl dX7_place_31 ?_
          refine k_bipush (v := (12 : Int32)) cx dX7_place_34 (by decide +kernel) ?_
          refine k_icmp_ge (tgt := 49) cx dX7_place_36 (by decide) (fun hc => ?_) (fun hc => ?_)
          · replace h := h.1 hc
            exact k_throw (text := "there are 12 requests, or the draft has no part") cx fx (by decide +kernel) (by decide +kernel) tk_IllegalStateException ti_IllegalStateException th_IllegalStateException (Nat.le_of_ble_eq_true rfl) (Nat.le_of_ble_eq_true rfl) (Nat.le_of_ble_eq_true rfl) h dX7_place_49 dX7_place_52 dX7_place_53 dX7_place_55 dX7_place_58
          · replace h := h.2 hc
            refine k_aload_n cx dX7_place_39 rfl rfl ?_
            refine k_callV (As := []) (rest := []) cx (m_X7_draft h) cv_X7_125 ob_ML rfl rfl rfl rfl (Nat.le_of_ble_eq_true rfl) ⟨Nat.le_of_ble_eq_true rfl, Nat.le_of_ble_eq_true rfl⟩ dX7_place_40 (fun v μ1 hq => ?_)
            obtain ⟨r2, rfl, hr_r2, h⟩ := hq
            refine k_get (o := none) (v := .int (μ1 r2 10)) cx fl_X7_129 (ob_RQ hr_r2) rfl rfl dX7_place_43 ?_
            refine k_if_ne (tgt := 59) cx dX7_place_46 (by decide) (fun hc => ?_) (fun hc => ?_)
            · replace h := h.1 hc
              refine k_aload_n cx dX7_place_59 rfl rfl ?_
              refine k_get (o := some p_PL) (v := .ref p_PL) cx fl_X7_39 ob_ML rfl rfl dX7_place_60 ?_
              refine k_aload_n cx dX7_place_63 rfl rfl ?_
              refine k_callV (As := []) (rest := [.ref p_PL]) cx (m_X7_draft h) cv_X7_125 ob_ML rfl rfl rfl rfl (Nat.le_of_ble_eq_true rfl) ⟨Nat.le_of_ble_eq_true rfl, Nat.le_of_ble_eq_true rfl⟩ dX7_place_64 (fun v μ3 hq => ?_)
              obtain ⟨r4, rfl, hr_r4, h⟩ := hq
              refine k_iload_n cx dX7_place_67 rfl rfl ?_
              refine k_callV (As := [.ref r4, .int x1]) (rest := []) cx (m_X4_lodge hr_r4 h) cv_X7_164 ob_PL rfl rfl rfl rfl (Nat.le_of_ble_eq_true rfl) ⟨Nat.le_of_ble_eq_true rfl, Nat.le_of_ble_eq_true rfl⟩ dX7_place_68 (fun v μ5 hq => ?_)
              obtain ⟨b6, rfl, h⟩ := hq
              refine k_if_ne (tgt := 76) cx dX7_place_71 (by decide) (fun hc => ?_) (fun hc => ?_)
              · replace h := h.1 hc
                refine k_aload_n cx dX7_place_76 rfl rfl ?_
                refine k_callV (As := []) (rest := []) cx (m_X7_draft h) cv_X7_125 ob_ML rfl rfl rfl rfl (Nat.le_of_ble_eq_true rfl) ⟨Nat.le_of_ble_eq_true rfl, Nat.le_of_ble_eq_true rfl⟩ dX7_place_77 (fun v μ7 hq => ?_)
                obtain ⟨r8, rfl, hr_r8, h⟩ := hq
                refine k_iload_n cx dX7_place_80 rfl rfl ?_
                refine k_put cx fp_X7_168 (ob_RQ hr_r8) rfl rfl rfl dX7_place_81 ?_
                refine k_aload_n cx dX7_place_84 rfl rfl ?_
                refine k_callV (As := []) (rest := []) cx (m_X7_draft h) cv_X7_125 ob_ML rfl rfl rfl rfl (Nat.le_of_ble_eq_true rfl) ⟨Nat.le_of_ble_eq_true rfl, Nat.le_of_ble_eq_true rfl⟩ dX7_place_85 (fun v μ9 hq => ?_)
                obtain ⟨r10, rfl, hr_r10, h⟩ := hq
                refine k_aload_n cx dX7_place_88 rfl rfl ?_
                refine k_get (o := none) (v := .int (μ9 p_ML 7)) cx fl_X7_171 ob_ML rfl rfl dX7_place_89 ?_
                refine k_iload_n cx dX7_place_92 rfl rfl ?_
                refine k_iadd cx dX7_place_93 ?_
                refine k_put cx fp_X7_174 (ob_RQ hr_r10) rfl rfl rfl dX7_place_94 ?_
                refine k_aload_n cx dX7_place_97 rfl rfl ?_
                refine k_dup cx dX7_place_98 rfl ?_
                refine k_get (o := none) (v := .int ((up2 μ9 r10 13 ((μ9 p_ML 7) + x2)) p_ML 6)) cx fl_X7_110 ob_ML rfl rfl dX7_place_99 ?_
                refine k_iconst (v := (1 : Int32)) cx dX7_place_102 (by decide +kernel) ?_
                refine k_iadd cx dX7_place_103 ?_
                refine k_put cx fp_X7_110 ob_ML rfl rfl rfl dX7_place_104 ?_
                refine k_aload_n cx dX7_place_107 rfl rfl ?_
                refine k_get (o := none) (v := .int ((up2 (up2 μ9 r10 13 ((μ9 p_ML 7) + x2)) p_ML 6 (((up2 μ9 r10 13 ((μ9 p_ML 7) + x2)) p_ML 6) + (1 : Int32))) p_ML 6)) cx fl_X7_110 ob_ML rfl rfl dX7_place_108 ?_
                refine k_iconst (v := (1 : Int32)) cx dX7_place_111 (by decide +kernel) ?_
                refine k_isub cx dX7_place_112 ?_
                exact k_xret_I cx hr fx dX7_place_113 h
              · replace h := h.2 hc
                refine k_iconst (v := (-1 : Int32)) cx dX7_place_74 (by decide +kernel) ?_
                exact k_xret_I cx hr fx dX7_place_75 h
            · replace h := h.2 hc
              exact k_throw (text := "there are 12 requests, or the draft has no part") cx fx (by decide +kernel) (by decide +kernel) tk_IllegalStateException ti_IllegalStateException th_IllegalStateException (Nat.le_of_ble_eq_true rfl) (Nat.le_of_ble_eq_true rfl) (Nat.le_of_ble_eq_true rfl) h dX7_place_49 dX7_place_52 dX7_place_53 dX7_place_55 dX7_place_58
        · replace h := h.2 hc
          exact k_throw (text := "manner or ticks is out of range") cx fx (by decide +kernel) (by decide +kernel) tk_IllegalArgumentException ti_IllegalArgumentException th_IllegalArgumentException (Nat.le_of_ble_eq_true rfl) (Nat.le_of_ble_eq_true rfl) (Nat.le_of_ble_eq_true rfl) h dX7_place_20 dX7_place_23 dX7_place_24 dX7_place_26 dX7_place_29
theorem m_X7_place {g : GE} {l : Launch} (hst : l.stackTraces = false) {μ : Mm} {q : Int32 → Mm → Prop} {qx : String → Mm → Prop} {x1 : Int32} {x2 : Int32}  (h : Wp_X7_place  x1 x2 μ q qx) : MX g l yX7_place cX7_place 3 (some .int) 9 241 [.ref p_ML, .int x1, .int x2] μ (qI q) qx := by
  refine xmet_of hst (by decide) (Nat.le_of_ble_eq_true rfl) (by intro v hv; simp only [List.mem_cons, List.not_mem_nil, or_false] at hv; rcases hv with rfl | rfl | rfl <;> rfl) ?_
  intro f hfl cx hr fx
  exact b_X7_place_e  cx hr fx (h  )
theorem dX7_told_0 : decode cX7_told 0 = .ok (.aload_n 0, 1) := by decide +kernel
theorem dX7_told_1 : decode cX7_told 1 = .ok (.iload_n 1, 1) := by decide +kernel
theorem dX7_told_2 : decode cX7_told 2 = .ok (.invokevirtual 177, 3) := by decide +kernel
theorem dX7_told_5 : decode cX7_told 5 = .ok (.ifCond .ne 13, 3) := by decide +kernel
theorem dX7_told_8 : decode cX7_told 8 = .ok (.new 81, 3) := by decide +kernel
theorem dX7_told_11 : decode cX7_told 11 = .ok (.dup, 1) := by decide +kernel
theorem dX7_told_12 : decode cX7_told 12 = .ok (.ldc 180, 2) := by decide +kernel
theorem dX7_told_14 : decode cX7_told 14 = .ok (.invokespecial 85, 3) := by decide +kernel
theorem dX7_told_17 : decode cX7_told 17 = .ok (.athrow, 1) := by decide +kernel
theorem dX7_told_18 : decode cX7_told 18 = .ok (.iload_n 2, 1) := by decide +kernel
theorem dX7_told_19 : decode cX7_told 19 = .ok (.ifCond .lt 9, 3) := by decide +kernel
theorem dX7_told_22 : decode cX7_told 22 = .ok (.iload_n 2, 1) := by decide +kernel
theorem dX7_told_23 : decode cX7_told 23 = .ok (.bipush 7, 2) := by decide +kernel
theorem dX7_told_25 : decode cX7_told 25 = .ok (.if_icmp .le 13, 3) := by decide +kernel
theorem dX7_told_28 : decode cX7_told 28 = .ok (.new 57, 3) := by decide +kernel
theorem dX7_told_31 : decode cX7_told 31 = .ok (.dup, 1) := by decide +kernel
theorem dX7_told_32 : decode cX7_told 32 = .ok (.ldc 210, 2) := by decide +kernel
theorem dX7_told_34 : decode cX7_told 34 = .ok (.invokespecial 61, 3) := by decide +kernel
theorem dX7_told_37 : decode cX7_told 37 = .ok (.athrow, 1) := by decide +kernel
theorem dX7_told_38 : decode cX7_told 38 = .ok (.aload_n 0, 1) := by decide +kernel
theorem dX7_told_39 : decode cX7_told 39 = .ok (.getfield 52, 3) := by decide +kernel
theorem dX7_told_42 : decode cX7_told 42 = .ok (.iload_n 1, 1) := by decide +kernel
theorem dX7_told_43 : decode cX7_told 43 = .ok (.aaload, 1) := by decide +kernel
theorem dX7_told_44 : decode cX7_told 44 = .ok (.astore_n 3, 1) := by decide +kernel
theorem dX7_told_45 : decode cX7_told 45 = .ok (.iload_n 2, 1) := by decide +kernel
theorem dX7_told_46 : decode cX7_told 46 = .ok (.tableswitch 99 0 6 #[42, 55, 60, 65, 70, 75, 87], 42) := by decide +kernel
theorem dX7_told_88 : decode cX7_told 88 = .ok (.aload_n 3, 1) := by decide +kernel
theorem dX7_told_89 : decode cX7_told 89 = .ok (.getfield 113, 3) := by decide +kernel
theorem dX7_told_92 : decode cX7_told 92 = .ok (.ifCond .eq 7, 3) := by decide +kernel
theorem dX7_told_95 : decode cX7_told 95 = .ok (.iconst 1, 1) := by decide +kernel
theorem dX7_told_96 : decode cX7_told 96 = .ok (.goto 4, 3) := by decide +kernel
theorem dX7_told_99 : decode cX7_told 99 = .ok (.iconst 0, 1) := by decide +kernel
theorem dX7_told_100 : decode cX7_told 100 = .ok (.ireturn, 1) := by decide +kernel
theorem dX7_told_101 : decode cX7_told 101 = .ok (.aload_n 3, 1) := by decide +kernel
theorem dX7_told_102 : decode cX7_told 102 = .ok (.getfield 168, 3) := by decide +kernel
theorem dX7_told_105 : decode cX7_told 105 = .ok (.ireturn, 1) := by decide +kernel
theorem dX7_told_106 : decode cX7_told 106 = .ok (.aload_n 3, 1) := by decide +kernel
theorem dX7_told_107 : decode cX7_told 107 = .ok (.getfield 174, 3) := by decide +kernel
theorem dX7_told_110 : decode cX7_told 110 = .ok (.ireturn, 1) := by decide +kernel
theorem dX7_told_111 : decode cX7_told 111 = .ok (.aload_n 3, 1) := by decide +kernel
theorem dX7_told_112 : decode cX7_told 112 = .ok (.getfield 129, 3) := by decide +kernel
theorem dX7_told_115 : decode cX7_told 115 = .ok (.ireturn, 1) := by decide +kernel
theorem dX7_told_116 : decode cX7_told 116 = .ok (.aload_n 3, 1) := by decide +kernel
theorem dX7_told_117 : decode cX7_told 117 = .ok (.getfield 145, 3) := by decide +kernel
theorem dX7_told_120 : decode cX7_told 120 = .ok (.ireturn, 1) := by decide +kernel
theorem dX7_told_121 : decode cX7_told 121 = .ok (.aload_n 3, 1) := by decide +kernel
theorem dX7_told_122 : decode cX7_told 122 = .ok (.aload_n 0, 1) := by decide +kernel
theorem dX7_told_123 : decode cX7_told 123 = .ok (.getfield 12, 3) := by decide +kernel
theorem dX7_told_126 : decode cX7_told 126 = .ok (.getfield 117, 3) := by decide +kernel
theorem dX7_told_129 : decode cX7_told 129 = .ok (.invokevirtual 120, 3) := by decide +kernel
theorem dX7_told_132 : decode cX7_told 132 = .ok (.ireturn, 1) := by decide +kernel
theorem dX7_told_133 : decode cX7_told 133 = .ok (.aload_n 3, 1) := by decide +kernel
theorem dX7_told_134 : decode cX7_told 134 = .ok (.aload_n 0, 1) := by decide +kernel
theorem dX7_told_135 : decode cX7_told 135 = .ok (.getfield 12, 3) := by decide +kernel
theorem dX7_told_138 : decode cX7_told 138 = .ok (.getfield 117, 3) := by decide +kernel
theorem dX7_told_141 : decode cX7_told 141 = .ok (.invokevirtual 233, 3) := by decide +kernel
theorem dX7_told_144 : decode cX7_told 144 = .ok (.ireturn, 1) := by decide +kernel
theorem dX7_told_145 : decode cX7_told 145 = .ok (.aload_n 3, 1) := by decide +kernel
theorem dX7_told_146 : decode cX7_told 146 = .ok (.invokevirtual 236, 3) := by decide +kernel
theorem dX7_told_149 : decode cX7_told 149 = .ok (.ireturn, 1) := by decide +kernel
def F_X7_told_e   (q : Int32 → Mm → Prop) (qx : String → Mm → Prop) (x1 : Int32) (x2 : Int32) (μ : Mm) : Prop :=
  Wp_X7_isPlaced x1 μ (fun b2 μ1 => ((¬ ((bI b2) = 0) → ((x2 < 0 → qx "java/lang/IllegalArgumentException" μ1) ∧ (¬ (x2 < 0) → ((x2 ≤ (7 : Int32) → vp_in x1 13 ∧ (((x2 = 0 → (((μ1 (p_RQ + 11 * (x1).toNatClampNeg) 14) = 0 → q (0 : Int32) μ1) ∧ (¬ ((μ1 (p_RQ + 11 * (x1).toNatClampNeg) 14) = 0) → q (1 : Int32) μ1))) ∧ (x2 = 1 → q (μ1 (p_RQ + 11 * (x1).toNatClampNeg) 12) μ1) ∧ (x2 = 2 → q (μ1 (p_RQ + 11 * (x1).toNatClampNeg) 13) μ1) ∧ (x2 = 3 → q (μ1 (p_RQ + 11 * (x1).toNatClampNeg) 10) μ1) ∧ (x2 = 4 → q (μ1 (p_RQ + 11 * (x1).toNatClampNeg) 11) μ1) ∧ (x2 = 5 → Wp_X5_stoppedLines (p_RQ + 11 * (x1).toNatClampNeg) (μ1 p_GR 8) μ1 (fun z6 μ5 => q z6 μ5)) ∧ (x2 = 6 → Wp_X5_linesOnSecondWay (p_RQ + 11 * (x1).toNatClampNeg) (μ1 p_GR 8) μ1 (fun z8 μ7 => q z8 μ7))) ∧ ((x2).toInt < 0 ∨ 6 < (x2).toInt → Wp_X5_cost (p_RQ + 11 * (x1).toNatClampNeg) μ1 (fun z4 μ3 => q z4 μ3)))) ∧ (¬ (x2 ≤ (7 : Int32)) → qx "java/lang/IllegalArgumentException" μ1))))) ∧ ((bI b2) = 0 → qx "java/lang/IndexOutOfBoundsException" μ1)))
def Wp_X7_told  (x1 : Int32) (x2 : Int32) (μ : Mm) (q : Int32 → Mm → Prop) (qx : String → Mm → Prop) : Prop := F_X7_told_e   q qx x1 x2 μ
set_option maxHeartbeats 2000000 in
theorem b_X7_told_e  {g : GE} {f : FE} {q : Int32 → Mm → Prop} {qx : String → Mm → Prop} (cx : Cx g f cX7_told 4 RX7 6 90 0 0) (hr : (f_M f).sig.returnType = (some .int)) (fx : FX g f (qI q) qx)  {x1 : Int32} {x2 : Int32} {μ : Mm} (h : F_X7_told_e   q qx x1 x2 μ) : KW g f 4 0 0 0 [some (.ref p_ML), some (.int x1), some (.int x2), none] [] μ := by
  unfold F_X7_told_e at h
  refine k_aload_n cx dX7_told_0 rfl rfl ?_
  refine k_iload_n cx dX7_told_1 rfl rfl ?_
  refine k_callV (As := [.int x1]) (rest := []) cx (m_X7_isPlaced h) cv_X7_177 ob_ML rfl rfl rfl rfl (Nat.le_of_ble_eq_true rfl) ⟨Nat.le_of_ble_eq_true rfl, Nat.le_of_ble_eq_true rfl⟩ dX7_told_2 (fun v μ1 hq => ?_)
  obtain ⟨b2, rfl, h⟩ := hq
  refine k_if_ne (tgt := 18) cx dX7_told_5 (by decide) (fun hc => ?_) (fun hc => ?_)
  · replace h := h.1 hc
    refine k_iload_n cx dX7_told_18 rfl rfl ?_
    refine k_if_lt (tgt := 28) cx dX7_told_19 (by decide) (fun hc => ?_) (fun hc => ?_)
    · replace h := h.1 hc
      exact k_throw (text := "what is out of range") cx fx (by decide +kernel) (by decide +kernel) tk_IllegalArgumentException ti_IllegalArgumentException th_IllegalArgumentException (Nat.le_of_ble_eq_true rfl) (Nat.le_of_ble_eq_true rfl) (Nat.le_of_ble_eq_true rfl) h dX7_told_28 dX7_told_31 dX7_told_32 dX7_told_34 dX7_told_37
    · replace h := h.2 hc
      refine k_iload_n cx dX7_told_22 rfl rfl ?_
      refine k_bipush (v := (7 : Int32)) cx dX7_told_23 (by decide +kernel) ?_
      refine k_icmp_le (tgt := 38) cx dX7_told_25 (by decide) (fun hc => ?_) (fun hc => ?_)
      · replace h := h.1 hc
        refine k_aload_n cx dX7_told_38 rfl rfl ?_
        refine k_get (o := some p_ML_requests) (v := .ref p_ML_requests) cx fl_X7_52 ob_ML rfl rfl dX7_told_39 ?_
        refine k_iload_n cx dX7_told_42 rfl rfl ?_
        obtain ⟨hi1, h⟩ := h
        refine k_aald_ML_requests cx hi1 dX7_told_43 ?_
        refine k_astore_n cx dX7_told_44 rfl (by decide) ?_
        refine k_iload_n cx dX7_told_45 rfl rfl ?_
        by_cases hx : (x2).toInt < 0 ∨ 6 < (x2).toInt
        · replace h := h.2 hx
          refine k_tableOut (tgt := 145) cx dX7_told_46 hx (by decide) ?_
          refine k_aload_n cx dX7_told_145 rfl rfl ?_
          refine k_callV (As := []) (rest := []) cx (m_X5_cost (vp_req hi1) h) cv_X7_236 (ob_RQ (vp_req hi1)) rfl rfl rfl rfl (Nat.le_of_ble_eq_true rfl) ⟨Nat.le_of_ble_eq_true rfl, Nat.le_of_ble_eq_true rfl⟩ dX7_told_146 (fun v μ3 hq => ?_)
          obtain ⟨z4, rfl, h⟩ := hq
          exact k_xret_I cx hr fx dX7_told_149 h
        · replace h := h.1
          rcases sw_6 hx with hx | hx | hx | hx | hx | hx | hx
          · replace h := h.1 hx
            refine k_tableIn (off := 42) (tgt := 88) cx dX7_told_46 (by rw [hx]; decide) (by rw [hx]; decide) (by rw [hx]; decide) (by decide) ?_
            refine k_aload_n cx dX7_told_88 rfl rfl ?_
            refine k_get (o := none) (v := .int (μ1 (p_RQ + 11 * (x1).toNatClampNeg) 14)) cx fl_X7_113 (ob_RQ (vp_req hi1)) rfl rfl dX7_told_89 ?_
            refine k_if_eq (tgt := 99) cx dX7_told_92 (by decide) (fun hc => ?_) (fun hc => ?_)
            · replace h := h.1 hc
              refine k_iconst (v := (0 : Int32)) cx dX7_told_99 (by decide +kernel) ?_
              exact k_xret_I cx hr fx dX7_told_100 h
            · replace h := h.2 hc
              refine k_iconst (v := (1 : Int32)) cx dX7_told_95 (by decide +kernel) ?_
              refine k_goto (tgt := 100) cx dX7_told_96 (by decide) ?_
              exact k_xret_I cx hr fx dX7_told_100 h
          · replace h := h.2.1 hx
            refine k_tableIn (off := 55) (tgt := 101) cx dX7_told_46 (by rw [hx]; decide) (by rw [hx]; decide) (by rw [hx]; decide) (by decide) ?_
            refine k_aload_n cx dX7_told_101 rfl rfl ?_
            refine k_get (o := none) (v := .int (μ1 (p_RQ + 11 * (x1).toNatClampNeg) 12)) cx fl_X7_168 (ob_RQ (vp_req hi1)) rfl rfl dX7_told_102 ?_
            exact k_xret_I cx hr fx dX7_told_105 h
          · replace h := h.2.2.1 hx
            refine k_tableIn (off := 60) (tgt := 106) cx dX7_told_46 (by rw [hx]; decide) (by rw [hx]; decide) (by rw [hx]; decide) (by decide) ?_
            refine k_aload_n cx dX7_told_106 rfl rfl ?_
            refine k_get (o := none) (v := .int (μ1 (p_RQ + 11 * (x1).toNatClampNeg) 13)) cx fl_X7_174 (ob_RQ (vp_req hi1)) rfl rfl dX7_told_107 ?_
            exact k_xret_I cx hr fx dX7_told_110 h
          · replace h := h.2.2.2.1 hx
            refine k_tableIn (off := 65) (tgt := 111) cx dX7_told_46 (by rw [hx]; decide) (by rw [hx]; decide) (by rw [hx]; decide) (by decide) ?_
            refine k_aload_n cx dX7_told_111 rfl rfl ?_
            refine k_get (o := none) (v := .int (μ1 (p_RQ + 11 * (x1).toNatClampNeg) 10)) cx fl_X7_129 (ob_RQ (vp_req hi1)) rfl rfl dX7_told_112 ?_
            exact k_xret_I cx hr fx dX7_told_115 h
          · replace h := h.2.2.2.2.1 hx
            refine k_tableIn (off := 70) (tgt := 116) cx dX7_told_46 (by rw [hx]; decide) (by rw [hx]; decide) (by rw [hx]; decide) (by decide) ?_
            refine k_aload_n cx dX7_told_116 rfl rfl ?_
            refine k_get (o := none) (v := .int (μ1 (p_RQ + 11 * (x1).toNatClampNeg) 11)) cx fl_X7_145 (ob_RQ (vp_req hi1)) rfl rfl dX7_told_117 ?_
            exact k_xret_I cx hr fx dX7_told_120 h
          · replace h := h.2.2.2.2.2.1 hx
            refine k_tableIn (off := 75) (tgt := 121) cx dX7_told_46 (by rw [hx]; decide) (by rw [hx]; decide) (by rw [hx]; decide) (by decide) ?_
            refine k_aload_n cx dX7_told_121 rfl rfl ?_
            refine k_aload_n cx dX7_told_122 rfl rfl ?_
            refine k_get (o := some p_GR) (v := .ref p_GR) cx fl_X7_12 ob_ML rfl rfl dX7_told_123 ?_
            refine k_get (o := none) (v := .int (μ1 p_GR 8)) cx fl_X7_117 ob_GR rfl rfl dX7_told_126 ?_
            refine k_callV (As := [.int (μ1 p_GR 8)]) (rest := []) cx (m_X5_stoppedLines (vp_req hi1) h) cv_X7_120 (ob_RQ (vp_req hi1)) rfl rfl rfl rfl (Nat.le_of_ble_eq_true rfl) ⟨Nat.le_of_ble_eq_true rfl, Nat.le_of_ble_eq_true rfl⟩ dX7_told_129 (fun v μ5 hq => ?_)
            obtain ⟨z6, rfl, h⟩ := hq
            exact k_xret_I cx hr fx dX7_told_132 h
          · replace h := h.2.2.2.2.2.2 hx
            refine k_tableIn (off := 87) (tgt := 133) cx dX7_told_46 (by rw [hx]; decide) (by rw [hx]; decide) (by rw [hx]; decide) (by decide) ?_
            refine k_aload_n cx dX7_told_133 rfl rfl ?_
            refine k_aload_n cx dX7_told_134 rfl rfl ?_
            refine k_get (o := some p_GR) (v := .ref p_GR) cx fl_X7_12 ob_ML rfl rfl dX7_told_135 ?_
            refine k_get (o := none) (v := .int (μ1 p_GR 8)) cx fl_X7_117 ob_GR rfl rfl dX7_told_138 ?_
            refine k_callV (As := [.int (μ1 p_GR 8)]) (rest := []) cx (m_X5_linesOnSecondWay (vp_req hi1) h) cv_X7_233 (ob_RQ (vp_req hi1)) rfl rfl rfl rfl (Nat.le_of_ble_eq_true rfl) ⟨Nat.le_of_ble_eq_true rfl, Nat.le_of_ble_eq_true rfl⟩ dX7_told_141 (fun v μ7 hq => ?_)
            obtain ⟨z8, rfl, h⟩ := hq
            exact k_xret_I cx hr fx dX7_told_144 h
      · replace h := h.2 hc
        exact k_throw (text := "what is out of range") cx fx (by decide +kernel) (by decide +kernel) tk_IllegalArgumentException ti_IllegalArgumentException th_IllegalArgumentException (Nat.le_of_ble_eq_true rfl) (Nat.le_of_ble_eq_true rfl) (Nat.le_of_ble_eq_true rfl) h dX7_told_28 dX7_told_31 dX7_told_32 dX7_told_34 dX7_told_37
  · replace h := h.2 hc
    exact k_throw (text := "no such request") cx fx (by decide +kernel) (by decide +kernel) tk_IndexOutOfBoundsException ti_IndexOutOfBoundsException th_IndexOutOfBoundsException (Nat.le_of_ble_eq_true rfl) (Nat.le_of_ble_eq_true rfl) (Nat.le_of_ble_eq_true rfl) h dX7_told_8 dX7_told_11 dX7_told_12 dX7_told_14 dX7_told_17
theorem m_X7_told {g : GE} {l : Launch} (hst : l.stackTraces = false) {μ : Mm} {q : Int32 → Mm → Prop} {qx : String → Mm → Prop} {x1 : Int32} {x2 : Int32}  (h : Wp_X7_told  x1 x2 μ q qx) : MX g l yX7_told cX7_told 4 (some .int) 6 90 [.ref p_ML, .int x1, .int x2] μ (qI q) qx := by
  refine xmet_of hst (by decide) (Nat.le_of_ble_eq_true rfl) (by intro v hv; simp only [List.mem_cons, List.not_mem_nil, or_false] at hv; rcases hv with rfl | rfl | rfl <;> rfl) ?_
  intro f hfl cx hr fx
  exact b_X7_told_e  cx hr fx (h  )
