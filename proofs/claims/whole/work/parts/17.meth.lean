theorem dX8_sumsRooms_0 : decode cX8_sumsRooms 0 = .ok (.iconst 0, 1) := by decide +kernel
theorem dX8_sumsRooms_1 : decode cX8_sumsRooms 1 = .ok (.istore_n 1, 1) := by decide +kernel
theorem dX8_sumsRooms_2 : decode cX8_sumsRooms 2 = .ok (.iload_n 1, 1) := by decide +kernel
theorem dX8_sumsRooms_3 : decode cX8_sumsRooms 3 = .ok (.aload_n 0, 1) := by decide +kernel
theorem dX8_sumsRooms_4 : decode cX8_sumsRooms 4 = .ok (.getfield 108, 3) := by decide +kernel
theorem dX8_sumsRooms_7 : decode cX8_sumsRooms 7 = .ok (.if_icmp .ge 27, 3) := by decide +kernel
theorem dX8_sumsRooms_10 : decode cX8_sumsRooms 10 = .ok (.aload_n 0, 1) := by decide +kernel
theorem dX8_sumsRooms_11 : decode cX8_sumsRooms 11 = .ok (.getfield 71, 3) := by decide +kernel
theorem dX8_sumsRooms_14 : decode cX8_sumsRooms 14 = .ok (.iload_n 1, 1) := by decide +kernel
theorem dX8_sumsRooms_15 : decode cX8_sumsRooms 15 = .ok (.aload_n 0, 1) := by decide +kernel
theorem dX8_sumsRooms_16 : decode cX8_sumsRooms 16 = .ok (.getfield 7, 3) := by decide +kernel
theorem dX8_sumsRooms_19 : decode cX8_sumsRooms 19 = .ok (.iload_n 1, 1) := by decide +kernel
theorem dX8_sumsRooms_20 : decode cX8_sumsRooms 20 = .ok (.iaload, 1) := by decide +kernel
theorem dX8_sumsRooms_21 : decode cX8_sumsRooms 21 = .ok (.aload_n 0, 1) := by decide +kernel
theorem dX8_sumsRooms_22 : decode cX8_sumsRooms 22 = .ok (.iload_n 1, 1) := by decide +kernel
theorem dX8_sumsRooms_23 : decode cX8_sumsRooms 23 = .ok (.invokevirtual 143, 3) := by decide +kernel
theorem dX8_sumsRooms_26 : decode cX8_sumsRooms 26 = .ok (.isub, 1) := by decide +kernel
theorem dX8_sumsRooms_27 : decode cX8_sumsRooms 27 = .ok (.iastore, 1) := by decide +kernel
theorem dX8_sumsRooms_28 : decode cX8_sumsRooms 28 = .ok (.iinc 1 1, 3) := by decide +kernel
theorem dX8_sumsRooms_31 : decode cX8_sumsRooms 31 = .ok (.goto (-29), 3) := by decide +kernel
theorem dX8_sumsRooms_34 : decode cX8_sumsRooms 34 = .ok (.iconst 0, 1) := by decide +kernel
theorem dX8_sumsRooms_35 : decode cX8_sumsRooms 35 = .ok (.istore_n 1, 1) := by decide +kernel
theorem dX8_sumsRooms_36 : decode cX8_sumsRooms 36 = .ok (.iload_n 1, 1) := by decide +kernel
theorem dX8_sumsRooms_37 : decode cX8_sumsRooms 37 = .ok (.aload_n 0, 1) := by decide +kernel
theorem dX8_sumsRooms_38 : decode cX8_sumsRooms 38 = .ok (.getfield 115, 3) := by decide +kernel
theorem dX8_sumsRooms_41 : decode cX8_sumsRooms 41 = .ok (.if_icmp .ge 37, 3) := by decide +kernel
theorem dX8_sumsRooms_44 : decode cX8_sumsRooms 44 = .ok (.aload_n 0, 1) := by decide +kernel
theorem dX8_sumsRooms_45 : decode cX8_sumsRooms 45 = .ok (.getfield 74, 3) := by decide +kernel
theorem dX8_sumsRooms_48 : decode cX8_sumsRooms 48 = .ok (.iload_n 1, 1) := by decide +kernel
theorem dX8_sumsRooms_49 : decode cX8_sumsRooms 49 = .ok (.aload_n 0, 1) := by decide +kernel
theorem dX8_sumsRooms_50 : decode cX8_sumsRooms 50 = .ok (.getfield 19, 3) := by decide +kernel
theorem dX8_sumsRooms_53 : decode cX8_sumsRooms 53 = .ok (.iload_n 1, 1) := by decide +kernel
theorem dX8_sumsRooms_54 : decode cX8_sumsRooms 54 = .ok (.iaload, 1) := by decide +kernel
theorem dX8_sumsRooms_55 : decode cX8_sumsRooms 55 = .ok (.aload_n 0, 1) := by decide +kernel
theorem dX8_sumsRooms_56 : decode cX8_sumsRooms 56 = .ok (.iload_n 1, 1) := by decide +kernel
theorem dX8_sumsRooms_57 : decode cX8_sumsRooms 57 = .ok (.invokevirtual 147, 3) := by decide +kernel
theorem dX8_sumsRooms_60 : decode cX8_sumsRooms 60 = .ok (.isub, 1) := by decide +kernel
theorem dX8_sumsRooms_61 : decode cX8_sumsRooms 61 = .ok (.aload_n 0, 1) := by decide +kernel
theorem dX8_sumsRooms_62 : decode cX8_sumsRooms 62 = .ok (.iload_n 1, 1) := by decide +kernel
theorem dX8_sumsRooms_63 : decode cX8_sumsRooms 63 = .ok (.aload_n 0, 1) := by decide +kernel
theorem dX8_sumsRooms_64 : decode cX8_sumsRooms 64 = .ok (.getfield 118, 3) := by decide +kernel
theorem dX8_sumsRooms_67 : decode cX8_sumsRooms 67 = .ok (.invokevirtual 150, 3) := by decide +kernel
theorem dX8_sumsRooms_70 : decode cX8_sumsRooms 70 = .ok (.isub, 1) := by decide +kernel
theorem dX8_sumsRooms_71 : decode cX8_sumsRooms 71 = .ok (.iastore, 1) := by decide +kernel
theorem dX8_sumsRooms_72 : decode cX8_sumsRooms 72 = .ok (.iinc 1 1, 3) := by decide +kernel
theorem dX8_sumsRooms_75 : decode cX8_sumsRooms 75 = .ok (.goto (-39), 3) := by decide +kernel
theorem dX8_sumsRooms_78 : decode cX8_sumsRooms 78 = .ok (.return_, 1) := by decide +kernel
def F_X8_sumsRooms_2  (K2 : Int32 → Mm → Prop) (K36 : Int32 → Mm → Prop) (q : Mm → Prop) (x1 : Int32) (μ : Mm) : Prop :=
  (((μ p_MO 1) ≤ x1 → K36 (0 : Int32) μ) ∧ (¬ ((μ p_MO 1) ≤ x1) → vp_in x1 6 ∧ Wp_X8_needsAt x1 μ (fun z2 μ1 => vp_in x1 6 ∧ K2 (x1 + (1 : Int32)) (up2 μ1 p_MO_left (x1).toNatClampNeg ((μ p_MO_nodeRoom (x1).toNatClampNeg) - z2)))))
def F_X8_sumsRooms_36  (K2 : Int32 → Mm → Prop) (K36 : Int32 → Mm → Prop) (q : Mm → Prop) (x1 : Int32) (μ : Mm) : Prop :=
  (((μ p_MO 3) ≤ x1 → q μ) ∧ (¬ ((μ p_MO 3) ≤ x1) → vp_in x1 9 ∧ Wp_X8_needs x1 μ (fun z2 μ1 => Wp_X8_reserved x1 (μ1 p_MO 8) μ1 (fun z4 μ3 => vp_in x1 9 ∧ K36 (x1 + (1 : Int32)) (up2 μ3 p_MO_free (x1).toNatClampNeg (((μ p_MO_linkRoom (x1).toNatClampNeg) - z2) - z4))))))
def F_X8_sumsRooms_e  (K2 : Int32 → Mm → Prop) (K36 : Int32 → Mm → Prop) (q : Mm → Prop)  (μ : Mm) : Prop :=
  K2 (0 : Int32) μ
def Wp_X8_sumsRooms   (μ : Mm) (q : Mm → Prop) : Prop := ∀ (K2 : Int32 → Mm → Prop) (K36 : Int32 → Mm → Prop), (∀ (x1 : Int32) (μ : Mm), F_X8_sumsRooms_2  K2 K36 q x1 μ → K2 x1 μ) → (∀ (x1 : Int32) (μ : Mm), F_X8_sumsRooms_36  K2 K36 q x1 μ → K36 x1 μ) → F_X8_sumsRooms_e  K2 K36 q  μ
abbrev KK_X8_sumsRooms_2 (g : GE) (f : FE)  : Int32 → Mm → Prop := fun x1 μ => KW g f 2 0 0 2 [some (.ref p_MO), some (.int x1)] [] μ
abbrev KK_X8_sumsRooms_36 (g : GE) (f : FE)  : Int32 → Mm → Prop := fun x1 μ => KW g f 2 0 0 36 [some (.ref p_MO), some (.int x1)] [] μ
set_option maxHeartbeats 2000000 in
theorem b_X8_sumsRooms_2  {g : GE} {f : FE} {q : Mm → Prop} (cx : Cx g f cX8_sumsRooms 2 RX8 3 72 0 0) (hr : (f_M f).sig.returnType = none) (hl : (f_M f).locks = false) (hQ : f_Q f = MQ (f_b f) (QW g (qV q)) (f_a f) (f_s f) 0 0 (fun q => g.2.2.2 ≤ q))  {x1 : Int32} {μ : Mm} (h : F_X8_sumsRooms_2  (KK_X8_sumsRooms_2 g f ) (KK_X8_sumsRooms_36 g f ) q x1 μ) : KK_X8_sumsRooms_2 g f  x1 μ := by
  unfold F_X8_sumsRooms_2 at h
  show KW g f 2 0 0 2 [some (.ref p_MO), some (.int x1)] [] μ
  refine k_iload_n cx dX8_sumsRooms_2 rfl rfl ?_
  refine k_aload_n cx dX8_sumsRooms_3 rfl rfl ?_
  refine k_get (o := none) (v := .int (μ p_MO 1)) cx fl_X8_108 ob_MO rfl rfl dX8_sumsRooms_4 ?_
  refine k_icmp_ge (tgt := 34) cx dX8_sumsRooms_7 (by decide) (fun hc => ?_) (fun hc => ?_)
  · replace h := h.1 hc
    refine k_iconst (v := (0 : Int32)) cx dX8_sumsRooms_34 (by decide +kernel) ?_
    refine k_istore_n cx dX8_sumsRooms_35 rfl (by decide) ?_
    exact k_weak h (lsLe.keep (lsLe.keep lsLe.nil))
  · replace h := h.2 hc
    refine k_aload_n cx dX8_sumsRooms_10 rfl rfl ?_
    refine k_get (o := some p_MO_left) (v := .ref p_MO_left) cx fl_X8_71 ob_MO rfl rfl dX8_sumsRooms_11 ?_
    refine k_iload_n cx dX8_sumsRooms_14 rfl rfl ?_
    refine k_aload_n cx dX8_sumsRooms_15 rfl rfl ?_
    refine k_get (o := some p_MO_nodeRoom) (v := .ref p_MO_nodeRoom) cx fl_X8_7 ob_MO rfl rfl dX8_sumsRooms_16 ?_
    refine k_iload_n cx dX8_sumsRooms_19 rfl rfl ?_
    obtain ⟨hi, h⟩ := h
    refine k_iald cx ar_MO_nodeRoom hi dX8_sumsRooms_20 ?_
    refine k_aload_n cx dX8_sumsRooms_21 rfl rfl ?_
    refine k_iload_n cx dX8_sumsRooms_22 rfl rfl ?_
    refine k_callV (As := [.int x1]) (rest := [.int (μ p_MO_nodeRoom (x1).toNatClampNeg), .int x1, .ref p_MO_left]) cx (m_X8_needsAt h) cv_X8_143 ob_MO rfl rfl rfl rfl (Nat.le_of_ble_eq_true rfl) ⟨Nat.le_of_ble_eq_true rfl, Nat.le_of_ble_eq_true rfl⟩ dX8_sumsRooms_23 (fun v μ1 hq => ?_)
    obtain ⟨z2, rfl, h⟩ := hq
    refine k_isub cx dX8_sumsRooms_26 ?_
    obtain ⟨hi, h⟩ := h
    refine k_iast cx ar_MO_left hi dX8_sumsRooms_27 ?_
    refine k_iinc (v := (x1 + (1 : Int32))) cx dX8_sumsRooms_28 rfl rfl (by decide) ?_
    refine k_goto (tgt := 2) cx dX8_sumsRooms_31 (by decide) ?_
    exact k_weak h (lsLe.keep (lsLe.keep lsLe.nil))
set_option maxHeartbeats 2000000 in
theorem b_X8_sumsRooms_36  {g : GE} {f : FE} {q : Mm → Prop} (cx : Cx g f cX8_sumsRooms 2 RX8 3 72 0 0) (hr : (f_M f).sig.returnType = none) (hl : (f_M f).locks = false) (hQ : f_Q f = MQ (f_b f) (QW g (qV q)) (f_a f) (f_s f) 0 0 (fun q => g.2.2.2 ≤ q))  {x1 : Int32} {μ : Mm} (h : F_X8_sumsRooms_36  (KK_X8_sumsRooms_2 g f ) (KK_X8_sumsRooms_36 g f ) q x1 μ) : KK_X8_sumsRooms_36 g f  x1 μ := by
  unfold F_X8_sumsRooms_36 at h
  show KW g f 2 0 0 36 [some (.ref p_MO), some (.int x1)] [] μ
  refine k_iload_n cx dX8_sumsRooms_36 rfl rfl ?_
  refine k_aload_n cx dX8_sumsRooms_37 rfl rfl ?_
  refine k_get (o := none) (v := .int (μ p_MO 3)) cx fl_X8_115 ob_MO rfl rfl dX8_sumsRooms_38 ?_
  refine k_icmp_ge (tgt := 78) cx dX8_sumsRooms_41 (by decide) (fun hc => ?_) (fun hc => ?_)
  · replace h := h.1 hc
    exact k_ret_V cx hr hl hQ dX8_sumsRooms_78 h
  · replace h := h.2 hc
    refine k_aload_n cx dX8_sumsRooms_44 rfl rfl ?_
    refine k_get (o := some p_MO_free) (v := .ref p_MO_free) cx fl_X8_74 ob_MO rfl rfl dX8_sumsRooms_45 ?_
    refine k_iload_n cx dX8_sumsRooms_48 rfl rfl ?_
    refine k_aload_n cx dX8_sumsRooms_49 rfl rfl ?_
    refine k_get (o := some p_MO_linkRoom) (v := .ref p_MO_linkRoom) cx fl_X8_19 ob_MO rfl rfl dX8_sumsRooms_50 ?_
    refine k_iload_n cx dX8_sumsRooms_53 rfl rfl ?_
    obtain ⟨hi, h⟩ := h
    refine k_iald cx ar_MO_linkRoom hi dX8_sumsRooms_54 ?_
    refine k_aload_n cx dX8_sumsRooms_55 rfl rfl ?_
    refine k_iload_n cx dX8_sumsRooms_56 rfl rfl ?_
    refine k_callV (As := [.int x1]) (rest := [.int (μ p_MO_linkRoom (x1).toNatClampNeg), .int x1, .ref p_MO_free]) cx (m_X8_needs h) cv_X8_147 ob_MO rfl rfl rfl rfl (Nat.le_of_ble_eq_true rfl) ⟨Nat.le_of_ble_eq_true rfl, Nat.le_of_ble_eq_true rfl⟩ dX8_sumsRooms_57 (fun v μ1 hq => ?_)
    obtain ⟨z2, rfl, h⟩ := hq
    refine k_isub cx dX8_sumsRooms_60 ?_
    refine k_aload_n cx dX8_sumsRooms_61 rfl rfl ?_
    refine k_iload_n cx dX8_sumsRooms_62 rfl rfl ?_
    refine k_aload_n cx dX8_sumsRooms_63 rfl rfl ?_
    refine k_get (o := none) (v := .int (μ1 p_MO 8)) cx fl_X8_118 ob_MO rfl rfl dX8_sumsRooms_64 ?_
    refine k_callV (As := [.int x1, .int (μ1 p_MO 8)]) (rest := [.int ((μ p_MO_linkRoom (x1).toNatClampNeg) - z2), .int x1, .ref p_MO_free]) cx (m_X8_reserved h) cv_X8_150 ob_MO rfl rfl rfl rfl (Nat.le_of_ble_eq_true rfl) ⟨Nat.le_of_ble_eq_true rfl, Nat.le_of_ble_eq_true rfl⟩ dX8_sumsRooms_67 (fun v μ3 hq => ?_)
    obtain ⟨z4, rfl, h⟩ := hq
    refine k_isub cx dX8_sumsRooms_70 ?_
    obtain ⟨hi, h⟩ := h
    refine k_iast cx ar_MO_free hi dX8_sumsRooms_71 ?_
    refine k_iinc (v := (x1 + (1 : Int32))) cx dX8_sumsRooms_72 rfl rfl (by decide) ?_
    refine k_goto (tgt := 36) cx dX8_sumsRooms_75 (by decide) ?_
    exact k_weak h (lsLe.keep (lsLe.keep lsLe.nil))
set_option maxHeartbeats 2000000 in
theorem b_X8_sumsRooms_e  {g : GE} {f : FE} {q : Mm → Prop} (cx : Cx g f cX8_sumsRooms 2 RX8 3 72 0 0) (hr : (f_M f).sig.returnType = none) (hl : (f_M f).locks = false) (hQ : f_Q f = MQ (f_b f) (QW g (qV q)) (f_a f) (f_s f) 0 0 (fun q => g.2.2.2 ≤ q))   {μ : Mm} (h : F_X8_sumsRooms_e  (KK_X8_sumsRooms_2 g f ) (KK_X8_sumsRooms_36 g f ) q  μ) : KW g f 2 0 0 0 [some (.ref p_MO), none] [] μ := by
  unfold F_X8_sumsRooms_e at h
  refine k_iconst (v := (0 : Int32)) cx dX8_sumsRooms_0 (by decide +kernel) ?_
  refine k_istore_n cx dX8_sumsRooms_1 rfl (by decide) ?_
  exact k_weak h (lsLe.keep (lsLe.keep lsLe.nil))
theorem m_X8_sumsRooms {g : GE} {l : Launch} {μ : Mm} {q : Mm → Prop}  (h : Wp_X8_sumsRooms   μ q) : MW g l yX8_sumsRooms cX8_sumsRooms 2 none 3 72 [.ref p_MO] μ (qV q) := by
  refine met_of (by decide) (Nat.le_of_ble_eq_true rfl) (by intro v hv; simp only [List.mem_cons, List.not_mem_nil, or_false] at hv; subst hv; rfl) ?_
  intro f hfl cx hr hl hQ
  exact b_X8_sumsRooms_e  cx hr hl hQ (h (KK_X8_sumsRooms_2 g f ) (KK_X8_sumsRooms_36 g f ) (fun _ _ h => b_X8_sumsRooms_2  cx hr hl hQ h) (fun _ _ h => b_X8_sumsRooms_36  cx hr hl hQ h))
theorem dX8_moves_0 : decode cX8_moves 0 = .ok (.iconst 3, 1) := by decide +kernel
theorem dX8_moves_1 : decode cX8_moves 1 = .ok (.iload_n 1, 1) := by decide +kernel
theorem dX8_moves_2 : decode cX8_moves 2 = .ok (.imul, 1) := by decide +kernel
theorem dX8_moves_3 : decode cX8_moves 3 = .ok (.istore 4, 2) := by decide +kernel
theorem dX8_moves_5 : decode cX8_moves 5 = .ok (.aload_n 0, 1) := by decide +kernel
theorem dX8_moves_6 : decode cX8_moves 6 = .ok (.invokevirtual 204, 3) := by decide +kernel
theorem dX8_moves_9 : decode cX8_moves 9 = .ok (.aload_n 0, 1) := by decide +kernel
theorem dX8_moves_10 : decode cX8_moves 10 = .ok (.getfield 35, 3) := by decide +kernel
theorem dX8_moves_13 : decode cX8_moves 13 = .ok (.iload 4, 2) := by decide +kernel
theorem dX8_moves_15 : decode cX8_moves 15 = .ok (.iload_n 2, 1) := by decide +kernel
theorem dX8_moves_16 : decode cX8_moves 16 = .ok (.iadd, 1) := by decide +kernel
theorem dX8_moves_17 : decode cX8_moves 17 = .ok (.iaload, 1) := by decide +kernel
theorem dX8_moves_18 : decode cX8_moves 18 = .ok (.iload_n 3, 1) := by decide +kernel
theorem dX8_moves_19 : decode cX8_moves 19 = .ok (.invokestatic 136, 3) := by decide +kernel
theorem dX8_moves_22 : decode cX8_moves 22 = .ok (.ifCond .eq 25, 3) := by decide +kernel
theorem dX8_moves_25 : decode cX8_moves 25 = .ok (.aload_n 0, 1) := by decide +kernel
theorem dX8_moves_26 : decode cX8_moves 26 = .ok (.getfield 71, 3) := by decide +kernel
theorem dX8_moves_29 : decode cX8_moves 29 = .ok (.iload_n 3, 1) := by decide +kernel
theorem dX8_moves_30 : decode cX8_moves 30 = .ok (.iaload, 1) := by decide +kernel
theorem dX8_moves_31 : decode cX8_moves 31 = .ok (.aload_n 0, 1) := by decide +kernel
theorem dX8_moves_32 : decode cX8_moves 32 = .ok (.getfield 32, 3) := by decide +kernel
theorem dX8_moves_35 : decode cX8_moves 35 = .ok (.iload 4, 2) := by decide +kernel
theorem dX8_moves_37 : decode cX8_moves 37 = .ok (.iload_n 2, 1) := by decide +kernel
theorem dX8_moves_38 : decode cX8_moves 38 = .ok (.iadd, 1) := by decide +kernel
theorem dX8_moves_39 : decode cX8_moves 39 = .ok (.iaload, 1) := by decide +kernel
theorem dX8_moves_40 : decode cX8_moves 40 = .ok (.if_icmp .lt 7, 3) := by decide +kernel
theorem dX8_moves_43 : decode cX8_moves 43 = .ok (.iconst 1, 1) := by decide +kernel
theorem dX8_moves_44 : decode cX8_moves 44 = .ok (.goto 4, 3) := by decide +kernel
theorem dX8_moves_47 : decode cX8_moves 47 = .ok (.iconst 0, 1) := by decide +kernel
theorem dX8_moves_48 : decode cX8_moves 48 = .ok (.istore 5, 2) := by decide +kernel
theorem dX8_moves_50 : decode cX8_moves 50 = .ok (.iconst 0, 1) := by decide +kernel
theorem dX8_moves_51 : decode cX8_moves 51 = .ok (.istore 6, 2) := by decide +kernel
theorem dX8_moves_53 : decode cX8_moves 53 = .ok (.iload 6, 2) := by decide +kernel
theorem dX8_moves_55 : decode cX8_moves 55 = .ok (.aload_n 0, 1) := by decide +kernel
theorem dX8_moves_56 : decode cX8_moves 56 = .ok (.getfield 26, 3) := by decide +kernel
theorem dX8_moves_59 : decode cX8_moves 59 = .ok (.iload_n 1, 1) := by decide +kernel
theorem dX8_moves_60 : decode cX8_moves 60 = .ok (.iaload, 1) := by decide +kernel
theorem dX8_moves_61 : decode cX8_moves 61 = .ok (.if_icmp .ge 35, 3) := by decide +kernel
theorem dX8_moves_64 : decode cX8_moves 64 = .ok (.iload 5, 2) := by decide +kernel
theorem dX8_moves_66 : decode cX8_moves 66 = .ok (.ifCond .eq 21, 3) := by decide +kernel
theorem dX8_moves_69 : decode cX8_moves 69 = .ok (.aload_n 0, 1) := by decide +kernel
theorem dX8_moves_70 : decode cX8_moves 70 = .ok (.getfield 38, 3) := by decide +kernel
theorem dX8_moves_73 : decode cX8_moves 73 = .ok (.iload 4, 2) := by decide +kernel
theorem dX8_moves_75 : decode cX8_moves 75 = .ok (.iload 6, 2) := by decide +kernel
theorem dX8_moves_77 : decode cX8_moves 77 = .ok (.iadd, 1) := by decide +kernel
theorem dX8_moves_78 : decode cX8_moves 78 = .ok (.iaload, 1) := by decide +kernel
theorem dX8_moves_79 : decode cX8_moves 79 = .ok (.iload_n 3, 1) := by decide +kernel
theorem dX8_moves_80 : decode cX8_moves 80 = .ok (.if_icmp .eq 7, 3) := by decide +kernel
theorem dX8_moves_83 : decode cX8_moves 83 = .ok (.iconst 1, 1) := by decide +kernel
theorem dX8_moves_84 : decode cX8_moves 84 = .ok (.goto 4, 3) := by decide +kernel
theorem dX8_moves_87 : decode cX8_moves 87 = .ok (.iconst 0, 1) := by decide +kernel
theorem dX8_moves_88 : decode cX8_moves 88 = .ok (.istore 5, 2) := by decide +kernel
theorem dX8_moves_90 : decode cX8_moves 90 = .ok (.iinc 6 1, 3) := by decide +kernel
theorem dX8_moves_93 : decode cX8_moves 93 = .ok (.goto (-40), 3) := by decide +kernel
theorem dX8_moves_96 : decode cX8_moves 96 = .ok (.iload 5, 2) := by decide +kernel
theorem dX8_moves_98 : decode cX8_moves 98 = .ok (.ifCond .ne 5, 3) := by decide +kernel
theorem dX8_moves_101 : decode cX8_moves 101 = .ok (.iconst (-1), 1) := by decide +kernel
theorem dX8_moves_102 : decode cX8_moves 102 = .ok (.ireturn, 1) := by decide +kernel
theorem dX8_moves_103 : decode cX8_moves 103 = .ok (.aload_n 0, 1) := by decide +kernel
theorem dX8_moves_104 : decode cX8_moves 104 = .ok (.getfield 38, 3) := by decide +kernel
theorem dX8_moves_107 : decode cX8_moves 107 = .ok (.iload 4, 2) := by decide +kernel
theorem dX8_moves_109 : decode cX8_moves 109 = .ok (.iload_n 2, 1) := by decide +kernel
theorem dX8_moves_110 : decode cX8_moves 110 = .ok (.iadd, 1) := by decide +kernel
theorem dX8_moves_111 : decode cX8_moves 111 = .ok (.iaload, 1) := by decide +kernel
theorem dX8_moves_112 : decode cX8_moves 112 = .ok (.istore 6, 2) := by decide +kernel
theorem dX8_moves_114 : decode cX8_moves 114 = .ok (.aload_n 0, 1) := by decide +kernel
theorem dX8_moves_115 : decode cX8_moves 115 = .ok (.getfield 38, 3) := by decide +kernel
theorem dX8_moves_118 : decode cX8_moves 118 = .ok (.iload 4, 2) := by decide +kernel
theorem dX8_moves_120 : decode cX8_moves 120 = .ok (.iload_n 2, 1) := by decide +kernel
theorem dX8_moves_121 : decode cX8_moves 121 = .ok (.iadd, 1) := by decide +kernel
theorem dX8_moves_122 : decode cX8_moves 122 = .ok (.iload_n 3, 1) := by decide +kernel
theorem dX8_moves_123 : decode cX8_moves 123 = .ok (.iastore, 1) := by decide +kernel
theorem dX8_moves_124 : decode cX8_moves 124 = .ok (.iconst 0, 1) := by decide +kernel
theorem dX8_moves_125 : decode cX8_moves 125 = .ok (.istore 7, 2) := by decide +kernel
theorem dX8_moves_127 : decode cX8_moves 127 = .ok (.iload 7, 2) := by decide +kernel
theorem dX8_moves_129 : decode cX8_moves 129 = .ok (.aload_n 0, 1) := by decide +kernel
theorem dX8_moves_130 : decode cX8_moves 130 = .ok (.getfield 29, 3) := by decide +kernel
theorem dX8_moves_133 : decode cX8_moves 133 = .ok (.iload_n 1, 1) := by decide +kernel
theorem dX8_moves_134 : decode cX8_moves 134 = .ok (.iaload, 1) := by decide +kernel
theorem dX8_moves_135 : decode cX8_moves 135 = .ok (.if_icmp .ge 64, 3) := by decide +kernel
theorem dX8_moves_138 : decode cX8_moves 138 = .ok (.aload_n 0, 1) := by decide +kernel
theorem dX8_moves_139 : decode cX8_moves 139 = .ok (.getfield 101, 3) := by decide +kernel
theorem dX8_moves_142 : decode cX8_moves 142 = .ok (.iload 7, 2) := by decide +kernel
theorem dX8_moves_144 : decode cX8_moves 144 = .ok (.aload_n 0, 1) := by decide +kernel
theorem dX8_moves_145 : decode cX8_moves 145 = .ok (.getfield 53, 3) := by decide +kernel
theorem dX8_moves_148 : decode cX8_moves 148 = .ok (.iload 4, 2) := by decide +kernel
theorem dX8_moves_150 : decode cX8_moves 150 = .ok (.iload 7, 2) := by decide +kernel
theorem dX8_moves_152 : decode cX8_moves 152 = .ok (.iadd, 1) := by decide +kernel
theorem dX8_moves_153 : decode cX8_moves 153 = .ok (.iaload, 1) := by decide +kernel
theorem dX8_moves_154 : decode cX8_moves 154 = .ok (.iastore, 1) := by decide +kernel
theorem dX8_moves_155 : decode cX8_moves 155 = .ok (.aload_n 0, 1) := by decide +kernel
theorem dX8_moves_156 : decode cX8_moves 156 = .ok (.iload 4, 2) := by decide +kernel
theorem dX8_moves_158 : decode cX8_moves 158 = .ok (.iload 7, 2) := by decide +kernel
theorem dX8_moves_160 : decode cX8_moves 160 = .ok (.iadd, 1) := by decide +kernel
theorem dX8_moves_161 : decode cX8_moves 161 = .ok (.iload_n 2, 1) := by decide +kernel
theorem dX8_moves_162 : decode cX8_moves 162 = .ok (.invokevirtual 229, 3) := by decide +kernel
theorem dX8_moves_165 : decode cX8_moves 165 = .ok (.ifCond .eq 28, 3) := by decide +kernel
theorem dX8_moves_168 : decode cX8_moves 168 = .ok (.aload_n 0, 1) := by decide +kernel
theorem dX8_moves_169 : decode cX8_moves 169 = .ok (.aload_n 0, 1) := by decide +kernel
theorem dX8_moves_170 : decode cX8_moves 170 = .ok (.getfield 53, 3) := by decide +kernel
theorem dX8_moves_173 : decode cX8_moves 173 = .ok (.iload 4, 2) := by decide +kernel
theorem dX8_moves_175 : decode cX8_moves 175 = .ok (.iload 7, 2) := by decide +kernel
theorem dX8_moves_177 : decode cX8_moves 177 = .ok (.iadd, 1) := by decide +kernel
theorem dX8_moves_178 : decode cX8_moves 178 = .ok (.iaload, 1) := by decide +kernel
theorem dX8_moves_179 : decode cX8_moves 179 = .ok (.aload_n 0, 1) := by decide +kernel
theorem dX8_moves_180 : decode cX8_moves 180 = .ok (.getfield 47, 3) := by decide +kernel
theorem dX8_moves_183 : decode cX8_moves 183 = .ok (.iload 4, 2) := by decide +kernel
theorem dX8_moves_185 : decode cX8_moves 185 = .ok (.iload 7, 2) := by decide +kernel
theorem dX8_moves_187 : decode cX8_moves 187 = .ok (.iadd, 1) := by decide +kernel
theorem dX8_moves_188 : decode cX8_moves 188 = .ok (.iaload, 1) := by decide +kernel
theorem dX8_moves_189 : decode cX8_moves 189 = .ok (.ineg, 1) := by decide +kernel
theorem dX8_moves_190 : decode cX8_moves 190 = .ok (.invokevirtual 176, 3) := by decide +kernel
theorem dX8_moves_193 : decode cX8_moves 193 = .ok (.iinc 7 1, 3) := by decide +kernel
theorem dX8_moves_196 : decode cX8_moves 196 = .ok (.goto (-69), 3) := by decide +kernel
theorem dX8_moves_199 : decode cX8_moves 199 = .ok (.iconst 0, 1) := by decide +kernel
theorem dX8_moves_200 : decode cX8_moves 200 = .ok (.istore 7, 2) := by decide +kernel
theorem dX8_moves_202 : decode cX8_moves 202 = .ok (.iconst 0, 1) := by decide +kernel
theorem dX8_moves_203 : decode cX8_moves 203 = .ok (.istore 8, 2) := by decide +kernel
theorem dX8_moves_205 : decode cX8_moves 205 = .ok (.iload 8, 2) := by decide +kernel
theorem dX8_moves_207 : decode cX8_moves 207 = .ok (.aload_n 0, 1) := by decide +kernel
theorem dX8_moves_208 : decode cX8_moves 208 = .ok (.getfield 29, 3) := by decide +kernel
theorem dX8_moves_211 : decode cX8_moves 211 = .ok (.iload_n 1, 1) := by decide +kernel
theorem dX8_moves_212 : decode cX8_moves 212 = .ok (.iaload, 1) := by decide +kernel
theorem dX8_moves_213 : decode cX8_moves 213 = .ok (.if_icmp .ge 157, 3) := by decide +kernel
theorem dX8_moves_216 : decode cX8_moves 216 = .ok (.iload 5, 2) := by decide +kernel
theorem dX8_moves_218 : decode cX8_moves 218 = .ok (.ifCond .eq 152, 3) := by decide +kernel
theorem dX8_moves_221 : decode cX8_moves 221 = .ok (.aload_n 0, 1) := by decide +kernel
theorem dX8_moves_222 : decode cX8_moves 222 = .ok (.iload 4, 2) := by decide +kernel
theorem dX8_moves_224 : decode cX8_moves 224 = .ok (.iload 8, 2) := by decide +kernel
theorem dX8_moves_226 : decode cX8_moves 226 = .ok (.iadd, 1) := by decide +kernel
theorem dX8_moves_227 : decode cX8_moves 227 = .ok (.iload_n 2, 1) := by decide +kernel
theorem dX8_moves_228 : decode cX8_moves 228 = .ok (.invokevirtual 229, 3) := by decide +kernel
theorem dX8_moves_231 : decode cX8_moves 231 = .ok (.ifCond .eq 133, 3) := by decide +kernel
theorem dX8_moves_234 : decode cX8_moves 234 = .ok (.aload_n 0, 1) := by decide +kernel
theorem dX8_moves_235 : decode cX8_moves 235 = .ok (.iload 8, 2) := by decide +kernel
theorem dX8_moves_237 : decode cX8_moves 237 = .ok (.aload_n 0, 1) := by decide +kernel
theorem dX8_moves_238 : decode cX8_moves 238 = .ok (.getfield 38, 3) := by decide +kernel
theorem dX8_moves_241 : decode cX8_moves 241 = .ok (.iload 4, 2) := by decide +kernel
theorem dX8_moves_243 : decode cX8_moves 243 = .ok (.aload_n 0, 1) := by decide +kernel
theorem dX8_moves_244 : decode cX8_moves 244 = .ok (.getfield 41, 3) := by decide +kernel
theorem dX8_moves_247 : decode cX8_moves 247 = .ok (.iload 4, 2) := by decide +kernel
theorem dX8_moves_249 : decode cX8_moves 249 = .ok (.iload 8, 2) := by decide +kernel
theorem dX8_moves_251 : decode cX8_moves 251 = .ok (.iadd, 1) := by decide +kernel
theorem dX8_moves_252 : decode cX8_moves 252 = .ok (.iaload, 1) := by decide +kernel
theorem dX8_moves_253 : decode cX8_moves 253 = .ok (.iadd, 1) := by decide +kernel
theorem dX8_moves_254 : decode cX8_moves 254 = .ok (.iaload, 1) := by decide +kernel
theorem dX8_moves_255 : decode cX8_moves 255 = .ok (.aload_n 0, 1) := by decide +kernel
theorem dX8_moves_256 : decode cX8_moves 256 = .ok (.getfield 38, 3) := by decide +kernel
theorem dX8_moves_259 : decode cX8_moves 259 = .ok (.iload 4, 2) := by decide +kernel
theorem dX8_moves_261 : decode cX8_moves 261 = .ok (.aload_n 0, 1) := by decide +kernel
theorem dX8_moves_262 : decode cX8_moves 262 = .ok (.getfield 44, 3) := by decide +kernel
theorem dX8_moves_265 : decode cX8_moves 265 = .ok (.iload 4, 2) := by decide +kernel
theorem dX8_moves_267 : decode cX8_moves 267 = .ok (.iload 8, 2) := by decide +kernel
theorem dX8_moves_269 : decode cX8_moves 269 = .ok (.iadd, 1) := by decide +kernel
theorem dX8_moves_270 : decode cX8_moves 270 = .ok (.iaload, 1) := by decide +kernel
theorem dX8_moves_271 : decode cX8_moves 271 = .ok (.iadd, 1) := by decide +kernel
theorem dX8_moves_272 : decode cX8_moves 272 = .ok (.iaload, 1) := by decide +kernel
theorem dX8_moves_273 : decode cX8_moves 273 = .ok (.invokevirtual 160, 3) := by decide +kernel
theorem dX8_moves_276 : decode cX8_moves 276 = .ok (.aload_n 0, 1) := by decide +kernel
theorem dX8_moves_277 : decode cX8_moves 277 = .ok (.getfield 53, 3) := by decide +kernel
theorem dX8_moves_280 : decode cX8_moves 280 = .ok (.iload 4, 2) := by decide +kernel
theorem dX8_moves_282 : decode cX8_moves 282 = .ok (.iload 8, 2) := by decide +kernel
theorem dX8_moves_284 : decode cX8_moves 284 = .ok (.iadd, 1) := by decide +kernel
theorem dX8_moves_285 : decode cX8_moves 285 = .ok (.aload_n 0, 1) := by decide +kernel
theorem dX8_moves_286 : decode cX8_moves 286 = .ok (.iload 8, 2) := by decide +kernel
theorem dX8_moves_288 : decode cX8_moves 288 = .ok (.aload_n 0, 1) := by decide +kernel
theorem dX8_moves_289 : decode cX8_moves 289 = .ok (.getfield 47, 3) := by decide +kernel
theorem dX8_moves_292 : decode cX8_moves 292 = .ok (.iload 4, 2) := by decide +kernel
theorem dX8_moves_294 : decode cX8_moves 294 = .ok (.iload 8, 2) := by decide +kernel
theorem dX8_moves_296 : decode cX8_moves 296 = .ok (.iadd, 1) := by decide +kernel
theorem dX8_moves_297 : decode cX8_moves 297 = .ok (.iaload, 1) := by decide +kernel
theorem dX8_moves_298 : decode cX8_moves 298 = .ok (.invokevirtual 195, 3) := by decide +kernel
theorem dX8_moves_301 : decode cX8_moves 301 = .ok (.iastore, 1) := by decide +kernel
theorem dX8_moves_302 : decode cX8_moves 302 = .ok (.aload_n 0, 1) := by decide +kernel
theorem dX8_moves_303 : decode cX8_moves 303 = .ok (.aload_n 0, 1) := by decide +kernel
theorem dX8_moves_304 : decode cX8_moves 304 = .ok (.getfield 53, 3) := by decide +kernel
theorem dX8_moves_307 : decode cX8_moves 307 = .ok (.iload 4, 2) := by decide +kernel
theorem dX8_moves_309 : decode cX8_moves 309 = .ok (.iload 8, 2) := by decide +kernel
theorem dX8_moves_311 : decode cX8_moves 311 = .ok (.iadd, 1) := by decide +kernel
theorem dX8_moves_312 : decode cX8_moves 312 = .ok (.iaload, 1) := by decide +kernel
theorem dX8_moves_313 : decode cX8_moves 313 = .ok (.aload_n 0, 1) := by decide +kernel
theorem dX8_moves_314 : decode cX8_moves 314 = .ok (.getfield 47, 3) := by decide +kernel
theorem dX8_moves_317 : decode cX8_moves 317 = .ok (.iload 4, 2) := by decide +kernel
theorem dX8_moves_319 : decode cX8_moves 319 = .ok (.iload 8, 2) := by decide +kernel
theorem dX8_moves_321 : decode cX8_moves 321 = .ok (.iadd, 1) := by decide +kernel
theorem dX8_moves_322 : decode cX8_moves 322 = .ok (.iaload, 1) := by decide +kernel
theorem dX8_moves_323 : decode cX8_moves 323 = .ok (.invokevirtual 176, 3) := by decide +kernel
theorem dX8_moves_326 : decode cX8_moves 326 = .ok (.iload 7, 2) := by decide +kernel
theorem dX8_moves_328 : decode cX8_moves 328 = .ok (.aload_n 0, 1) := by decide +kernel
theorem dX8_moves_329 : decode cX8_moves 329 = .ok (.getfield 53, 3) := by decide +kernel
theorem dX8_moves_332 : decode cX8_moves 332 = .ok (.iload 4, 2) := by decide +kernel
theorem dX8_moves_334 : decode cX8_moves 334 = .ok (.iload 8, 2) := by decide +kernel
theorem dX8_moves_336 : decode cX8_moves 336 = .ok (.iadd, 1) := by decide +kernel
theorem dX8_moves_337 : decode cX8_moves 337 = .ok (.iaload, 1) := by decide +kernel
theorem dX8_moves_338 : decode cX8_moves 338 = .ok (.invokestatic 167, 3) := by decide +kernel
theorem dX8_moves_341 : decode cX8_moves 341 = .ok (.iadd, 1) := by decide +kernel
theorem dX8_moves_342 : decode cX8_moves 342 = .ok (.istore 7, 2) := by decide +kernel
theorem dX8_moves_344 : decode cX8_moves 344 = .ok (.aload_n 0, 1) := by decide +kernel
theorem dX8_moves_345 : decode cX8_moves 345 = .ok (.getfield 53, 3) := by decide +kernel
theorem dX8_moves_348 : decode cX8_moves 348 = .ok (.iload 4, 2) := by decide +kernel
theorem dX8_moves_350 : decode cX8_moves 350 = .ok (.iload 8, 2) := by decide +kernel
theorem dX8_moves_352 : decode cX8_moves 352 = .ok (.iadd, 1) := by decide +kernel
theorem dX8_moves_353 : decode cX8_moves 353 = .ok (.iaload, 1) := by decide +kernel
theorem dX8_moves_354 : decode cX8_moves 354 = .ok (.ifCond .eq 7, 3) := by decide +kernel
theorem dX8_moves_357 : decode cX8_moves 357 = .ok (.iconst 1, 1) := by decide +kernel
theorem dX8_moves_358 : decode cX8_moves 358 = .ok (.goto 4, 3) := by decide +kernel
theorem dX8_moves_361 : decode cX8_moves 361 = .ok (.iconst 0, 1) := by decide +kernel
theorem dX8_moves_362 : decode cX8_moves 362 = .ok (.istore 5, 2) := by decide +kernel
theorem dX8_moves_364 : decode cX8_moves 364 = .ok (.iinc 8 1, 3) := by decide +kernel
theorem dX8_moves_367 : decode cX8_moves 367 = .ok (.goto (-162), 3) := by decide +kernel
theorem dX8_moves_370 : decode cX8_moves 370 = .ok (.iload 5, 2) := by decide +kernel
theorem dX8_moves_372 : decode cX8_moves 372 = .ok (.ifCond .ne 11, 3) := by decide +kernel
theorem dX8_moves_375 : decode cX8_moves 375 = .ok (.aload_n 0, 1) := by decide +kernel
theorem dX8_moves_376 : decode cX8_moves 376 = .ok (.iload_n 1, 1) := by decide +kernel
theorem dX8_moves_377 : decode cX8_moves 377 = .ok (.iload_n 2, 1) := by decide +kernel
theorem dX8_moves_378 : decode cX8_moves 378 = .ok (.iload 6, 2) := by decide +kernel
theorem dX8_moves_380 : decode cX8_moves 380 = .ok (.invokevirtual 232, 3) := by decide +kernel
theorem dX8_moves_383 : decode cX8_moves 383 = .ok (.iload 5, 2) := by decide +kernel
theorem dX8_moves_385 : decode cX8_moves 385 = .ok (.ifCond .eq 8, 3) := by decide +kernel
theorem dX8_moves_388 : decode cX8_moves 388 = .ok (.iload 7, 2) := by decide +kernel
theorem dX8_moves_390 : decode cX8_moves 390 = .ok (.goto 4, 3) := by decide +kernel
theorem dX8_moves_393 : decode cX8_moves 393 = .ok (.iconst (-1), 1) := by decide +kernel
theorem dX8_moves_394 : decode cX8_moves 394 = .ok (.ireturn, 1) := by decide +kernel
def F_X8_moves_53  (K53 : Int32 → Int32 → Int32 → Int32 → Int32 → Int32 → Mm → Prop) (K127 : Int32 → Int32 → Int32 → Int32 → Int32 → Int32 → Mm → Prop) (K205 : Int32 → Int32 → Int32 → Int32 → Int32 → Int32 → Int32 → Mm → Prop) (K370 : Int32 → Int32 → Int32 → Int32 → Int32 → Mm → Prop) (q : Int32 → Mm → Prop) (x1 : Int32) (x2 : Int32) (x3 : Int32) (x4 : Int32) (x5 : Int32) (x6 : Int32) (μ : Mm) : Prop :=
  vp_in x1 13 ∧ (((μ p_MO_parts (x1).toNatClampNeg) ≤ x6 → ((¬ (x5 = 0) → vp_in (x4 + x2) 39 ∧ vp_in (x4 + x2) 39 ∧ K127 x1 x2 x4 x5 (μ p_MO_at ((x4 + x2)).toNatClampNeg) (0 : Int32) (up2 μ p_MO_at ((x4 + x2)).toNatClampNeg x3)) ∧ (x5 = 0 → q (-1 : Int32) μ))) ∧ (¬ ((μ p_MO_parts (x1).toNatClampNeg) ≤ x6) → ((x5 = 0 → K53 x1 x2 x3 x4 (0 : Int32) (x6 + (1 : Int32)) μ) ∧ (¬ (x5 = 0) → vp_in (x4 + x6) 39 ∧ (((μ p_MO_at ((x4 + x6)).toNatClampNeg) = x3 → K53 x1 x2 x3 x4 (0 : Int32) (x6 + (1 : Int32)) μ) ∧ (¬ ((μ p_MO_at ((x4 + x6)).toNatClampNeg) = x3) → K53 x1 x2 x3 x4 (1 : Int32) (x6 + (1 : Int32)) μ))))))
def F_X8_moves_127  (K53 : Int32 → Int32 → Int32 → Int32 → Int32 → Int32 → Mm → Prop) (K127 : Int32 → Int32 → Int32 → Int32 → Int32 → Int32 → Mm → Prop) (K205 : Int32 → Int32 → Int32 → Int32 → Int32 → Int32 → Int32 → Mm → Prop) (K370 : Int32 → Int32 → Int32 → Int32 → Int32 → Mm → Prop) (q : Int32 → Mm → Prop) (x1 : Int32) (x2 : Int32) (x4 : Int32) (x5 : Int32) (x6 : Int32) (x7 : Int32) (μ : Mm) : Prop :=
  vp_in x1 13 ∧ (((μ p_MO_lines (x1).toNatClampNeg) ≤ x7 → K205 x1 x2 x4 x5 x6 (0 : Int32) (0 : Int32) μ) ∧ (¬ ((μ p_MO_lines (x1).toNatClampNeg) ≤ x7) → vp_in (x4 + x7) 39 ∧ vp_in x7 3 ∧ Wp_X8_isOf (x4 + x7) x2 (up2 μ p_MO_oldWay (x7).toNatClampNeg (μ p_MO_way ((x4 + x7)).toNatClampNeg)) (fun b2 μ1 => (((bI b2) = 0 → K127 x1 x2 x4 x5 x6 (x7 + (1 : Int32)) μ1) ∧ (¬ ((bI b2) = 0) → vp_in (x4 + x7) 39 ∧ vp_in (x4 + x7) 39 ∧ Wp_X8_takes (μ1 p_MO_way ((x4 + x7)).toNatClampNeg) (-(μ1 p_MO_lineNeed ((x4 + x7)).toNatClampNeg)) μ1 (fun μ3 => K127 x1 x2 x4 x5 x6 (x7 + (1 : Int32)) μ3))))))
def F_X8_moves_205  (K53 : Int32 → Int32 → Int32 → Int32 → Int32 → Int32 → Mm → Prop) (K127 : Int32 → Int32 → Int32 → Int32 → Int32 → Int32 → Mm → Prop) (K205 : Int32 → Int32 → Int32 → Int32 → Int32 → Int32 → Int32 → Mm → Prop) (K370 : Int32 → Int32 → Int32 → Int32 → Int32 → Mm → Prop) (q : Int32 → Mm → Prop) (x1 : Int32) (x2 : Int32) (x4 : Int32) (x5 : Int32) (x6 : Int32) (x7 : Int32) (x8 : Int32) (μ : Mm) : Prop :=
  vp_in x1 13 ∧ (((μ p_MO_lines (x1).toNatClampNeg) ≤ x8 → K370 x1 x2 x5 x6 x7 μ) ∧ (¬ ((μ p_MO_lines (x1).toNatClampNeg) ≤ x8) → ((x5 = 0 → K370 x1 x2 x5 x6 x7 μ) ∧ (¬ (x5 = 0) → Wp_X8_isOf (x4 + x8) x2 μ (fun b2 μ1 => (((bI b2) = 0 → K205 x1 x2 x4 x5 x6 x7 (x8 + (1 : Int32)) μ1) ∧ (¬ ((bI b2) = 0) → vp_in (x4 + x8) 39 ∧ vp_in (x4 + (μ1 p_MO_lineFrom ((x4 + x8)).toNatClampNeg)) 39 ∧ vp_in (x4 + x8) 39 ∧ vp_in (x4 + (μ1 p_MO_lineTo ((x4 + x8)).toNatClampNeg)) 39 ∧ Wp_X8_finds x8 (μ1 p_MO_at ((x4 + (μ1 p_MO_lineFrom ((x4 + x8)).toNatClampNeg))).toNatClampNeg) (μ1 p_MO_at ((x4 + (μ1 p_MO_lineTo ((x4 + x8)).toNatClampNeg))).toNatClampNeg) μ1 (fun μ3 => vp_in (x4 + x8) 39 ∧ Wp_X8_fewest x8 (μ3 p_MO_lineNeed ((x4 + x8)).toNatClampNeg) μ3 (fun z5 μ4 => vp_in (x4 + x8) 39 ∧ vp_in (x4 + x8) 39 ∧ vp_in (x4 + x8) 39 ∧ Wp_X8_takes ((up2 μ4 p_MO_way ((x4 + x8)).toNatClampNeg z5) p_MO_way ((x4 + x8)).toNatClampNeg) ((up2 μ4 p_MO_way ((x4 + x8)).toNatClampNeg z5) p_MO_lineNeed ((x4 + x8)).toNatClampNeg) (up2 μ4 p_MO_way ((x4 + x8)).toNatClampNeg z5) (fun μ6 => vp_in (x4 + x8) 39 ∧ Wp_X8_bits (μ6 p_MO_way ((x4 + x8)).toNatClampNeg) μ6 (fun z8 μ7 => vp_in (x4 + x8) 39 ∧ (((μ7 p_MO_way ((x4 + x8)).toNatClampNeg) = 0 → K205 x1 x2 x4 (0 : Int32) x6 (x7 + z8) (x8 + (1 : Int32)) μ7) ∧ (¬ ((μ7 p_MO_way ((x4 + x8)).toNatClampNeg) = 0) → K205 x1 x2 x4 (1 : Int32) x6 (x7 + z8) (x8 + (1 : Int32)) μ7)))))))))))))
def F_X8_moves_370  (K53 : Int32 → Int32 → Int32 → Int32 → Int32 → Int32 → Mm → Prop) (K127 : Int32 → Int32 → Int32 → Int32 → Int32 → Int32 → Mm → Prop) (K205 : Int32 → Int32 → Int32 → Int32 → Int32 → Int32 → Int32 → Mm → Prop) (K370 : Int32 → Int32 → Int32 → Int32 → Int32 → Mm → Prop) (q : Int32 → Mm → Prop) (x1 : Int32) (x2 : Int32) (x5 : Int32) (x6 : Int32) (x7 : Int32) (μ : Mm) : Prop :=
  ((¬ (x5 = 0) → ((x5 = 0 → q (-1 : Int32) μ) ∧ (¬ (x5 = 0) → q x7 μ))) ∧ (x5 = 0 → Wp_X8_back x1 x2 x6 μ (fun μ1 => ((x5 = 0 → q (-1 : Int32) μ1) ∧ (¬ (x5 = 0) → q x7 μ1)))))
def F_X8_moves_e  (K53 : Int32 → Int32 → Int32 → Int32 → Int32 → Int32 → Mm → Prop) (K127 : Int32 → Int32 → Int32 → Int32 → Int32 → Int32 → Mm → Prop) (K205 : Int32 → Int32 → Int32 → Int32 → Int32 → Int32 → Int32 → Mm → Prop) (K370 : Int32 → Int32 → Int32 → Int32 → Int32 → Mm → Prop) (q : Int32 → Mm → Prop) (x1 : Int32) (x2 : Int32) (x3 : Int32) (μ : Mm) : Prop :=
  Wp_X8_sumsRooms μ (fun μ1 => vp_in (((3 : Int32) * x1) + x2) 39 ∧ Wp_X8_has (μ1 p_MO_partSet ((((3 : Int32) * x1) + x2)).toNatClampNeg) x3 μ1 (fun b3 μ2 => (((bI b3) = 0 → K53 x1 x2 x3 ((3 : Int32) * x1) (0 : Int32) (0 : Int32) μ2) ∧ (¬ ((bI b3) = 0) → vp_in x3 6 ∧ vp_in (((3 : Int32) * x1) + x2) 39 ∧ (((μ2 p_MO_left (x3).toNatClampNeg) < (μ2 p_MO_partNeed ((((3 : Int32) * x1) + x2)).toNatClampNeg) → K53 x1 x2 x3 ((3 : Int32) * x1) (0 : Int32) (0 : Int32) μ2) ∧ (¬ ((μ2 p_MO_left (x3).toNatClampNeg) < (μ2 p_MO_partNeed ((((3 : Int32) * x1) + x2)).toNatClampNeg)) → K53 x1 x2 x3 ((3 : Int32) * x1) (1 : Int32) (0 : Int32) μ2))))))
def Wp_X8_moves  (x1 : Int32) (x2 : Int32) (x3 : Int32) (μ : Mm) (q : Int32 → Mm → Prop) : Prop := ∀ (K53 : Int32 → Int32 → Int32 → Int32 → Int32 → Int32 → Mm → Prop) (K127 : Int32 → Int32 → Int32 → Int32 → Int32 → Int32 → Mm → Prop) (K205 : Int32 → Int32 → Int32 → Int32 → Int32 → Int32 → Int32 → Mm → Prop) (K370 : Int32 → Int32 → Int32 → Int32 → Int32 → Mm → Prop), (∀ (x1 : Int32) (x2 : Int32) (x3 : Int32) (x4 : Int32) (x5 : Int32) (x6 : Int32) (μ : Mm), F_X8_moves_53  K53 K127 K205 K370 q x1 x2 x3 x4 x5 x6 μ → K53 x1 x2 x3 x4 x5 x6 μ) → (∀ (x1 : Int32) (x2 : Int32) (x4 : Int32) (x5 : Int32) (x6 : Int32) (x7 : Int32) (μ : Mm), F_X8_moves_127  K53 K127 K205 K370 q x1 x2 x4 x5 x6 x7 μ → K127 x1 x2 x4 x5 x6 x7 μ) → (∀ (x1 : Int32) (x2 : Int32) (x4 : Int32) (x5 : Int32) (x6 : Int32) (x7 : Int32) (x8 : Int32) (μ : Mm), F_X8_moves_205  K53 K127 K205 K370 q x1 x2 x4 x5 x6 x7 x8 μ → K205 x1 x2 x4 x5 x6 x7 x8 μ) → (∀ (x1 : Int32) (x2 : Int32) (x5 : Int32) (x6 : Int32) (x7 : Int32) (μ : Mm), F_X8_moves_370  K53 K127 K205 K370 q x1 x2 x5 x6 x7 μ → K370 x1 x2 x5 x6 x7 μ) → F_X8_moves_e  K53 K127 K205 K370 q x1 x2 x3 μ
abbrev KK_X8_moves_53 (g : GE) (f : FE)  : Int32 → Int32 → Int32 → Int32 → Int32 → Int32 → Mm → Prop := fun x1 x2 x3 x4 x5 x6 μ => KW g f 9 0 0 53 [some (.ref p_MO), some (.int x1), some (.int x2), some (.int x3), some (.int x4), some (.int x5), some (.int x6), none, none] [] μ
abbrev KK_X8_moves_127 (g : GE) (f : FE)  : Int32 → Int32 → Int32 → Int32 → Int32 → Int32 → Mm → Prop := fun x1 x2 x4 x5 x6 x7 μ => KW g f 9 0 0 127 [some (.ref p_MO), some (.int x1), some (.int x2), none, some (.int x4), some (.int x5), some (.int x6), some (.int x7), none] [] μ
abbrev KK_X8_moves_205 (g : GE) (f : FE)  : Int32 → Int32 → Int32 → Int32 → Int32 → Int32 → Int32 → Mm → Prop := fun x1 x2 x4 x5 x6 x7 x8 μ => KW g f 9 0 0 205 [some (.ref p_MO), some (.int x1), some (.int x2), none, some (.int x4), some (.int x5), some (.int x6), some (.int x7), some (.int x8)] [] μ
abbrev KK_X8_moves_370 (g : GE) (f : FE)  : Int32 → Int32 → Int32 → Int32 → Int32 → Mm → Prop := fun x1 x2 x5 x6 x7 μ => KW g f 9 0 0 370 [some (.ref p_MO), some (.int x1), some (.int x2), none, none, some (.int x5), some (.int x6), some (.int x7), none] [] μ
set_option maxHeartbeats 2000000 in
theorem b_X8_moves_53  {g : GE} {f : FE} {q : Int32 → Mm → Prop} (cx : Cx g f cX8_moves 9 RX8 4 93 0 0) (hr : (f_M f).sig.returnType = (some .int)) (hl : (f_M f).locks = false) (hQ : f_Q f = MQ (f_b f) (QW g (qI q)) (f_a f) (f_s f) 0 0 (fun q => g.2.2.2 ≤ q))  {x1 : Int32} {x2 : Int32} {x3 : Int32} {x4 : Int32} {x5 : Int32} {x6 : Int32} {μ : Mm} (h : F_X8_moves_53  (KK_X8_moves_53 g f ) (KK_X8_moves_127 g f ) (KK_X8_moves_205 g f ) (KK_X8_moves_370 g f ) q x1 x2 x3 x4 x5 x6 μ) : KK_X8_moves_53 g f  x1 x2 x3 x4 x5 x6 μ := by
  unfold F_X8_moves_53 at h
  show KW g f 9 0 0 53 [some (.ref p_MO), some (.int x1), some (.int x2), some (.int x3), some (.int x4), some (.int x5), some (.int x6), none, none] [] μ
  refine k_iload cx dX8_moves_53 rfl ?_
  refine k_aload_n cx dX8_moves_55 rfl rfl ?_
  refine k_get (o := some p_MO_parts) (v := .ref p_MO_parts) cx fl_X8_26 ob_MO rfl rfl dX8_moves_56 ?_
  refine k_iload_n cx dX8_moves_59 rfl rfl ?_
  obtain ⟨hi, h⟩ := h
  refine k_iald cx ar_MO_parts hi dX8_moves_60 ?_
  refine k_icmp_ge (tgt := 96) cx dX8_moves_61 (by decide) (fun hc => ?_) (fun hc => ?_)
  · replace h := h.1 hc
    refine k_iload cx dX8_moves_96 rfl ?_
    refine k_if_ne (tgt := 103) cx dX8_moves_98 (by decide) (fun hc => ?_) (fun hc => ?_)
    · replace h := h.1 hc
      refine k_aload_n cx dX8_moves_103 rfl rfl ?_
      refine k_get (o := some p_MO_at) (v := .ref p_MO_at) cx fl_X8_38 ob_MO rfl rfl dX8_moves_104 ?_
      refine k_iload cx dX8_moves_107 rfl ?_
      refine k_iload_n cx dX8_moves_109 rfl rfl ?_
      refine k_iadd cx dX8_moves_110 ?_
      obtain ⟨hi, h⟩ := h
      refine k_iald cx ar_MO_at hi dX8_moves_111 ?_
      refine k_istore cx dX8_moves_112 (by decide) ?_
      refine k_aload_n cx dX8_moves_114 rfl rfl ?_
      refine k_get (o := some p_MO_at) (v := .ref p_MO_at) cx fl_X8_38 ob_MO rfl rfl dX8_moves_115 ?_
      refine k_iload cx dX8_moves_118 rfl ?_
      refine k_iload_n cx dX8_moves_120 rfl rfl ?_
      refine k_iadd cx dX8_moves_121 ?_
      refine k_iload_n cx dX8_moves_122 rfl rfl ?_
      obtain ⟨hi, h⟩ := h
      refine k_iast cx ar_MO_at hi dX8_moves_123 ?_
      refine k_iconst (v := (0 : Int32)) cx dX8_moves_124 (by decide +kernel) ?_
      refine k_istore cx dX8_moves_125 (by decide) ?_
      exact k_weak h (lsLe.keep (lsLe.keep (lsLe.keep (lsLe.drop (lsLe.keep (lsLe.keep (lsLe.keep (lsLe.keep (lsLe.keep lsLe.nil)))))))))
    · replace h := h.2 hc
      refine k_iconst (v := (-1 : Int32)) cx dX8_moves_101 (by decide +kernel) ?_
      exact k_ret_I cx hr hl hQ dX8_moves_102 h
  · replace h := h.2 hc
    refine k_iload cx dX8_moves_64 rfl ?_
    refine k_if_eq (tgt := 87) cx dX8_moves_66 (by decide) (fun hc => ?_) (fun hc => ?_)
    · replace h := h.1 hc
      refine k_iconst (v := (0 : Int32)) cx dX8_moves_87 (by decide +kernel) ?_
      refine k_istore cx dX8_moves_88 (by decide) ?_
      refine k_iinc (v := (x6 + (1 : Int32))) cx dX8_moves_90 rfl rfl (by decide) ?_
      refine k_goto (tgt := 53) cx dX8_moves_93 (by decide) ?_
      exact k_weak h (lsLe.keep (lsLe.keep (lsLe.keep (lsLe.keep (lsLe.keep (lsLe.keep (lsLe.keep (lsLe.keep (lsLe.keep lsLe.nil)))))))))
    · replace h := h.2 hc
      refine k_aload_n cx dX8_moves_69 rfl rfl ?_
      refine k_get (o := some p_MO_at) (v := .ref p_MO_at) cx fl_X8_38 ob_MO rfl rfl dX8_moves_70 ?_
      refine k_iload cx dX8_moves_73 rfl ?_
      refine k_iload cx dX8_moves_75 rfl ?_
      refine k_iadd cx dX8_moves_77 ?_
      obtain ⟨hi, h⟩ := h
      refine k_iald cx ar_MO_at hi dX8_moves_78 ?_
      refine k_iload_n cx dX8_moves_79 rfl rfl ?_
      refine k_icmp_eq (tgt := 87) cx dX8_moves_80 (by decide) (fun hc => ?_) (fun hc => ?_)
      · replace h := h.1 hc
        refine k_iconst (v := (0 : Int32)) cx dX8_moves_87 (by decide +kernel) ?_
        refine k_istore cx dX8_moves_88 (by decide) ?_
        refine k_iinc (v := (x6 + (1 : Int32))) cx dX8_moves_90 rfl rfl (by decide) ?_
        refine k_goto (tgt := 53) cx dX8_moves_93 (by decide) ?_
        exact k_weak h (lsLe.keep (lsLe.keep (lsLe.keep (lsLe.keep (lsLe.keep (lsLe.keep (lsLe.keep (lsLe.keep (lsLe.keep lsLe.nil)))))))))
      · replace h := h.2 hc
        refine k_iconst (v := (1 : Int32)) cx dX8_moves_83 (by decide +kernel) ?_
        refine k_goto (tgt := 88) cx dX8_moves_84 (by decide) ?_
        refine k_istore cx dX8_moves_88 (by decide) ?_
        refine k_iinc (v := (x6 + (1 : Int32))) cx dX8_moves_90 rfl rfl (by decide) ?_
        refine k_goto (tgt := 53) cx dX8_moves_93 (by decide) ?_
        exact k_weak h (lsLe.keep (lsLe.keep (lsLe.keep (lsLe.keep (lsLe.keep (lsLe.keep (lsLe.keep (lsLe.keep (lsLe.keep lsLe.nil)))))))))
set_option maxHeartbeats 2000000 in
theorem b_X8_moves_127  {g : GE} {f : FE} {q : Int32 → Mm → Prop} (cx : Cx g f cX8_moves 9 RX8 4 93 0 0) (hr : (f_M f).sig.returnType = (some .int)) (hl : (f_M f).locks = false) (hQ : f_Q f = MQ (f_b f) (QW g (qI q)) (f_a f) (f_s f) 0 0 (fun q => g.2.2.2 ≤ q))  {x1 : Int32} {x2 : Int32} {x4 : Int32} {x5 : Int32} {x6 : Int32} {x7 : Int32} {μ : Mm} (h : F_X8_moves_127  (KK_X8_moves_53 g f ) (KK_X8_moves_127 g f ) (KK_X8_moves_205 g f ) (KK_X8_moves_370 g f ) q x1 x2 x4 x5 x6 x7 μ) : KK_X8_moves_127 g f  x1 x2 x4 x5 x6 x7 μ := by
  unfold F_X8_moves_127 at h
  show KW g f 9 0 0 127 [some (.ref p_MO), some (.int x1), some (.int x2), none, some (.int x4), some (.int x5), some (.int x6), some (.int x7), none] [] μ
  refine k_iload cx dX8_moves_127 rfl ?_
  refine k_aload_n cx dX8_moves_129 rfl rfl ?_
  refine k_get (o := some p_MO_lines) (v := .ref p_MO_lines) cx fl_X8_29 ob_MO rfl rfl dX8_moves_130 ?_
  refine k_iload_n cx dX8_moves_133 rfl rfl ?_
  obtain ⟨hi, h⟩ := h
  refine k_iald cx ar_MO_lines hi dX8_moves_134 ?_
  refine k_icmp_ge (tgt := 199) cx dX8_moves_135 (by decide) (fun hc => ?_) (fun hc => ?_)
  · replace h := h.1 hc
    refine k_iconst (v := (0 : Int32)) cx dX8_moves_199 (by decide +kernel) ?_
    refine k_istore cx dX8_moves_200 (by decide) ?_
    refine k_iconst (v := (0 : Int32)) cx dX8_moves_202 (by decide +kernel) ?_
    refine k_istore cx dX8_moves_203 (by decide) ?_
    exact k_weak h (lsLe.keep (lsLe.keep (lsLe.keep (lsLe.keep (lsLe.keep (lsLe.keep (lsLe.keep (lsLe.keep (lsLe.keep lsLe.nil)))))))))
  · replace h := h.2 hc
    refine k_aload_n cx dX8_moves_138 rfl rfl ?_
    refine k_get (o := some p_MO_oldWay) (v := .ref p_MO_oldWay) cx fl_X8_101 ob_MO rfl rfl dX8_moves_139 ?_
    refine k_iload cx dX8_moves_142 rfl ?_
    refine k_aload_n cx dX8_moves_144 rfl rfl ?_
    refine k_get (o := some p_MO_way) (v := .ref p_MO_way) cx fl_X8_53 ob_MO rfl rfl dX8_moves_145 ?_
    refine k_iload cx dX8_moves_148 rfl ?_
    refine k_iload cx dX8_moves_150 rfl ?_
    refine k_iadd cx dX8_moves_152 ?_
    obtain ⟨hi, h⟩ := h
    refine k_iald cx ar_MO_way hi dX8_moves_153 ?_
    obtain ⟨hi, h⟩ := h
    refine k_iast cx ar_MO_oldWay hi dX8_moves_154 ?_
    refine k_aload_n cx dX8_moves_155 rfl rfl ?_
    refine k_iload cx dX8_moves_156 rfl ?_
    refine k_iload cx dX8_moves_158 rfl ?_
    refine k_iadd cx dX8_moves_160 ?_
    refine k_iload_n cx dX8_moves_161 rfl rfl ?_
    refine k_callV (As := [.int (x4 + x7), .int x2]) (rest := []) cx (m_X8_isOf h) cv_X8_229 ob_MO rfl rfl rfl rfl (Nat.le_of_ble_eq_true rfl) ⟨Nat.le_of_ble_eq_true rfl, Nat.le_of_ble_eq_true rfl⟩ dX8_moves_162 (fun v μ1 hq => ?_)
    obtain ⟨b2, rfl, h⟩ := hq
    refine k_if_eq (tgt := 193) cx dX8_moves_165 (by decide) (fun hc => ?_) (fun hc => ?_)
    · replace h := h.1 hc
      refine k_iinc (v := (x7 + (1 : Int32))) cx dX8_moves_193 rfl rfl (by decide) ?_
      refine k_goto (tgt := 127) cx dX8_moves_196 (by decide) ?_
      exact k_weak h (lsLe.keep (lsLe.keep (lsLe.keep (lsLe.keep (lsLe.keep (lsLe.keep (lsLe.keep (lsLe.keep (lsLe.keep lsLe.nil)))))))))
    · replace h := h.2 hc
      refine k_aload_n cx dX8_moves_168 rfl rfl ?_
      refine k_aload_n cx dX8_moves_169 rfl rfl ?_
      refine k_get (o := some p_MO_way) (v := .ref p_MO_way) cx fl_X8_53 ob_MO rfl rfl dX8_moves_170 ?_
      refine k_iload cx dX8_moves_173 rfl ?_
      refine k_iload cx dX8_moves_175 rfl ?_
      refine k_iadd cx dX8_moves_177 ?_
      obtain ⟨hi, h⟩ := h
      refine k_iald cx ar_MO_way hi dX8_moves_178 ?_
      refine k_aload_n cx dX8_moves_179 rfl rfl ?_
      refine k_get (o := some p_MO_lineNeed) (v := .ref p_MO_lineNeed) cx fl_X8_47 ob_MO rfl rfl dX8_moves_180 ?_
      refine k_iload cx dX8_moves_183 rfl ?_
      refine k_iload cx dX8_moves_185 rfl ?_
      refine k_iadd cx dX8_moves_187 ?_
      obtain ⟨hi, h⟩ := h
      refine k_iald cx ar_MO_lineNeed hi dX8_moves_188 ?_
      refine k_ineg cx dX8_moves_189 ?_
      refine k_callV (As := [.int (μ1 p_MO_way ((x4 + x7)).toNatClampNeg), .int (-(μ1 p_MO_lineNeed ((x4 + x7)).toNatClampNeg))]) (rest := []) cx (m_X8_takes h) cv_X8_176 ob_MO rfl rfl rfl rfl (Nat.le_of_ble_eq_true rfl) ⟨Nat.le_of_ble_eq_true rfl, Nat.le_of_ble_eq_true rfl⟩ dX8_moves_190 (fun v μ3 hq => ?_)
      obtain ⟨rfl, h⟩ := hq
      refine k_iinc (v := (x7 + (1 : Int32))) cx dX8_moves_193 rfl rfl (by decide) ?_
      refine k_goto (tgt := 127) cx dX8_moves_196 (by decide) ?_
      exact k_weak h (lsLe.keep (lsLe.keep (lsLe.keep (lsLe.keep (lsLe.keep (lsLe.keep (lsLe.keep (lsLe.keep (lsLe.keep lsLe.nil)))))))))
set_option maxHeartbeats 2000000 in
theorem b_X8_moves_205  {g : GE} {f : FE} {q : Int32 → Mm → Prop} (cx : Cx g f cX8_moves 9 RX8 4 93 0 0) (hr : (f_M f).sig.returnType = (some .int)) (hl : (f_M f).locks = false) (hQ : f_Q f = MQ (f_b f) (QW g (qI q)) (f_a f) (f_s f) 0 0 (fun q => g.2.2.2 ≤ q))  {x1 : Int32} {x2 : Int32} {x4 : Int32} {x5 : Int32} {x6 : Int32} {x7 : Int32} {x8 : Int32} {μ : Mm} (h : F_X8_moves_205  (KK_X8_moves_53 g f ) (KK_X8_moves_127 g f ) (KK_X8_moves_205 g f ) (KK_X8_moves_370 g f ) q x1 x2 x4 x5 x6 x7 x8 μ) : KK_X8_moves_205 g f  x1 x2 x4 x5 x6 x7 x8 μ := by
  unfold F_X8_moves_205 at h
  show KW g f 9 0 0 205 [some (.ref p_MO), some (.int x1), some (.int x2), none, some (.int x4), some (.int x5), some (.int x6), some (.int x7), some (.int x8)] [] μ
  refine k_iload cx dX8_moves_205 rfl ?_
  refine k_aload_n cx dX8_moves_207 rfl rfl ?_
  refine k_get (o := some p_MO_lines) (v := .ref p_MO_lines) cx fl_X8_29 ob_MO rfl rfl dX8_moves_208 ?_
  refine k_iload_n cx dX8_moves_211 rfl rfl ?_
  obtain ⟨hi, h⟩ := h
  refine k_iald cx ar_MO_lines hi dX8_moves_212 ?_
  refine k_icmp_ge (tgt := 370) cx dX8_moves_213 (by decide) (fun hc => ?_) (fun hc => ?_)
  · replace h := h.1 hc
    exact k_weak h (lsLe.keep (lsLe.keep (lsLe.keep (lsLe.keep (lsLe.drop (lsLe.keep (lsLe.keep (lsLe.keep (lsLe.drop lsLe.nil)))))))))
  · replace h := h.2 hc
    refine k_iload cx dX8_moves_216 rfl ?_
    refine k_if_eq (tgt := 370) cx dX8_moves_218 (by decide) (fun hc => ?_) (fun hc => ?_)
    · replace h := h.1 hc
      exact k_weak h (lsLe.keep (lsLe.keep (lsLe.keep (lsLe.keep (lsLe.drop (lsLe.keep (lsLe.keep (lsLe.keep (lsLe.drop lsLe.nil)))))))))
    · replace h := h.2 hc
      refine k_aload_n cx dX8_moves_221 rfl rfl ?_
      refine k_iload cx dX8_moves_222 rfl ?_
      refine k_iload cx dX8_moves_224 rfl ?_
      refine k_iadd cx dX8_moves_226 ?_
      refine k_iload_n cx dX8_moves_227 rfl rfl ?_
      refine k_callV (As := [.int (x4 + x8), .int x2]) (rest := []) cx (m_X8_isOf h) cv_X8_229 ob_MO rfl rfl rfl rfl (Nat.le_of_ble_eq_true rfl) ⟨Nat.le_of_ble_eq_true rfl, Nat.le_of_ble_eq_true rfl⟩ dX8_moves_228 (fun v μ1 hq => ?_)
      obtain ⟨b2, rfl, h⟩ := hq
      refine k_if_eq (tgt := 364) cx dX8_moves_231 (by decide) (fun hc => ?_) (fun hc => ?_)
      · replace h := h.1 hc
        refine k_iinc (v := (x8 + (1 : Int32))) cx dX8_moves_364 rfl rfl (by decide) ?_
        refine k_goto (tgt := 205) cx dX8_moves_367 (by decide) ?_
        exact k_weak h (lsLe.keep (lsLe.keep (lsLe.keep (lsLe.keep (lsLe.keep (lsLe.keep (lsLe.keep (lsLe.keep (lsLe.keep lsLe.nil)))))))))
      · replace h := h.2 hc
        refine k_aload_n cx dX8_moves_234 rfl rfl ?_
        refine k_iload cx dX8_moves_235 rfl ?_
        refine k_aload_n cx dX8_moves_237 rfl rfl ?_
        refine k_get (o := some p_MO_at) (v := .ref p_MO_at) cx fl_X8_38 ob_MO rfl rfl dX8_moves_238 ?_
        refine k_iload cx dX8_moves_241 rfl ?_
        refine k_aload_n cx dX8_moves_243 rfl rfl ?_
        refine k_get (o := some p_MO_lineFrom) (v := .ref p_MO_lineFrom) cx fl_X8_41 ob_MO rfl rfl dX8_moves_244 ?_
        refine k_iload cx dX8_moves_247 rfl ?_
        refine k_iload cx dX8_moves_249 rfl ?_
        refine k_iadd cx dX8_moves_251 ?_
        obtain ⟨hi, h⟩ := h
        refine k_iald cx ar_MO_lineFrom hi dX8_moves_252 ?_
        refine k_iadd cx dX8_moves_253 ?_
        obtain ⟨hi, h⟩ := h
        refine k_iald cx ar_MO_at hi dX8_moves_254 ?_
        refine k_aload_n cx dX8_moves_255 rfl rfl ?_
        refine k_get (o := some p_MO_at) (v := .ref p_MO_at) cx fl_X8_38 ob_MO rfl rfl dX8_moves_256 ?_
        refine k_iload cx dX8_moves_259 rfl ?_
        refine k_aload_n cx dX8_moves_261 rfl rfl ?_
        refine k_get (o := some p_MO_lineTo) (v := .ref p_MO_lineTo) cx fl_X8_44 ob_MO rfl rfl dX8_moves_262 ?_
        refine k_iload cx dX8_moves_265 rfl ?_
        refine k_iload cx dX8_moves_267 rfl ?_
        refine k_iadd cx dX8_moves_269 ?_
        obtain ⟨hi, h⟩ := h
        refine k_iald cx ar_MO_lineTo hi dX8_moves_270 ?_
        refine k_iadd cx dX8_moves_271 ?_
        obtain ⟨hi, h⟩ := h
        refine k_iald cx ar_MO_at hi dX8_moves_272 ?_
        refine k_callV (As := [.int x8, .int (μ1 p_MO_at ((x4 + (μ1 p_MO_lineFrom ((x4 + x8)).toNatClampNeg))).toNatClampNeg), .int (μ1 p_MO_at ((x4 + (μ1 p_MO_lineTo ((x4 + x8)).toNatClampNeg))).toNatClampNeg)]) (rest := []) cx (m_X8_finds h) cv_X8_160 ob_MO rfl rfl rfl rfl (Nat.le_of_ble_eq_true rfl) ⟨Nat.le_of_ble_eq_true rfl, Nat.le_of_ble_eq_true rfl⟩ dX8_moves_273 (fun v μ3 hq => ?_)
        obtain ⟨rfl, h⟩ := hq
        refine k_aload_n cx dX8_moves_276 rfl rfl ?_
        refine k_get (o := some p_MO_way) (v := .ref p_MO_way) cx fl_X8_53 ob_MO rfl rfl dX8_moves_277 ?_
        refine k_iload cx dX8_moves_280 rfl ?_
        refine k_iload cx dX8_moves_282 rfl ?_
        refine k_iadd cx dX8_moves_284 ?_
        refine k_aload_n cx dX8_moves_285 rfl rfl ?_
        refine k_iload cx dX8_moves_286 rfl ?_
        refine k_aload_n cx dX8_moves_288 rfl rfl ?_
        refine k_get (o := some p_MO_lineNeed) (v := .ref p_MO_lineNeed) cx fl_X8_47 ob_MO rfl rfl dX8_moves_289 ?_
        refine k_iload cx dX8_moves_292 rfl ?_
        refine k_iload cx dX8_moves_294 rfl ?_
        refine k_iadd cx dX8_moves_296 ?_
        obtain ⟨hi, h⟩ := h
        refine k_iald cx ar_MO_lineNeed hi dX8_moves_297 ?_
        refine k_callV (As := [.int x8, .int (μ3 p_MO_lineNeed ((x4 + x8)).toNatClampNeg)]) (rest := [.int (x4 + x8), .ref p_MO_way]) cx (m_X8_fewest h) cv_X8_195 ob_MO rfl rfl rfl rfl (Nat.le_of_ble_eq_true rfl) ⟨Nat.le_of_ble_eq_true rfl, Nat.le_of_ble_eq_true rfl⟩ dX8_moves_298 (fun v μ4 hq => ?_)
        obtain ⟨z5, rfl, h⟩ := hq
        obtain ⟨hi, h⟩ := h
        refine k_iast cx ar_MO_way hi dX8_moves_301 ?_
        refine k_aload_n cx dX8_moves_302 rfl rfl ?_
        refine k_aload_n cx dX8_moves_303 rfl rfl ?_
        refine k_get (o := some p_MO_way) (v := .ref p_MO_way) cx fl_X8_53 ob_MO rfl rfl dX8_moves_304 ?_
        refine k_iload cx dX8_moves_307 rfl ?_
        refine k_iload cx dX8_moves_309 rfl ?_
        refine k_iadd cx dX8_moves_311 ?_
        obtain ⟨hi, h⟩ := h
        refine k_iald cx ar_MO_way hi dX8_moves_312 ?_
        refine k_aload_n cx dX8_moves_313 rfl rfl ?_
        refine k_get (o := some p_MO_lineNeed) (v := .ref p_MO_lineNeed) cx fl_X8_47 ob_MO rfl rfl dX8_moves_314 ?_
        refine k_iload cx dX8_moves_317 rfl ?_
        refine k_iload cx dX8_moves_319 rfl ?_
        refine k_iadd cx dX8_moves_321 ?_
        obtain ⟨hi, h⟩ := h
        refine k_iald cx ar_MO_lineNeed hi dX8_moves_322 ?_
        refine k_callV (As := [.int ((up2 μ4 p_MO_way ((x4 + x8)).toNatClampNeg z5) p_MO_way ((x4 + x8)).toNatClampNeg), .int ((up2 μ4 p_MO_way ((x4 + x8)).toNatClampNeg z5) p_MO_lineNeed ((x4 + x8)).toNatClampNeg)]) (rest := []) cx (m_X8_takes h) cv_X8_176 ob_MO rfl rfl rfl rfl (Nat.le_of_ble_eq_true rfl) ⟨Nat.le_of_ble_eq_true rfl, Nat.le_of_ble_eq_true rfl⟩ dX8_moves_323 (fun v μ6 hq => ?_)
        obtain ⟨rfl, h⟩ := hq
        refine k_iload cx dX8_moves_326 rfl ?_
        refine k_aload_n cx dX8_moves_328 rfl rfl ?_
        refine k_get (o := some p_MO_way) (v := .ref p_MO_way) cx fl_X8_53 ob_MO rfl rfl dX8_moves_329 ?_
        refine k_iload cx dX8_moves_332 rfl ?_
        refine k_iload cx dX8_moves_334 rfl ?_
        refine k_iadd cx dX8_moves_336 ?_
        obtain ⟨hi, h⟩ := h
        refine k_iald cx ar_MO_way hi dX8_moves_337 ?_
        refine k_callS (As := [.int (μ6 p_MO_way ((x4 + x8)).toNatClampNeg)]) (rest := [.int x7]) cx (m_X8_bits h) cv_X8_167 rfl rfl (Nat.le_of_ble_eq_true rfl) ⟨Nat.le_of_ble_eq_true rfl, Nat.le_of_ble_eq_true rfl⟩ dX8_moves_338 (fun v μ7 hq => ?_)
        obtain ⟨z8, rfl, h⟩ := hq
        refine k_iadd cx dX8_moves_341 ?_
        refine k_istore cx dX8_moves_342 (by decide) ?_
        refine k_aload_n cx dX8_moves_344 rfl rfl ?_
        refine k_get (o := some p_MO_way) (v := .ref p_MO_way) cx fl_X8_53 ob_MO rfl rfl dX8_moves_345 ?_
        refine k_iload cx dX8_moves_348 rfl ?_
        refine k_iload cx dX8_moves_350 rfl ?_
        refine k_iadd cx dX8_moves_352 ?_
        obtain ⟨hi, h⟩ := h
        refine k_iald cx ar_MO_way hi dX8_moves_353 ?_
        refine k_if_eq (tgt := 361) cx dX8_moves_354 (by decide) (fun hc => ?_) (fun hc => ?_)
        · replace h := h.1 hc
          refine k_iconst (v := (0 : Int32)) cx dX8_moves_361 (by decide +kernel) ?_
          refine k_istore cx dX8_moves_362 (by decide) ?_
          refine k_iinc (v := (x8 + (1 : Int32))) cx dX8_moves_364 rfl rfl (by decide) ?_
          refine k_goto (tgt := 205) cx dX8_moves_367 (by decide) ?_
          exact k_weak h (lsLe.keep (lsLe.keep (lsLe.keep (lsLe.keep (lsLe.keep (lsLe.keep (lsLe.keep (lsLe.keep (lsLe.keep lsLe.nil)))))))))
        · replace h := h.2 hc
          refine k_iconst (v := (1 : Int32)) cx dX8_moves_357 (by decide +kernel) ?_
          refine k_goto (tgt := 362) cx dX8_moves_358 (by decide) ?_
          refine k_istore cx dX8_moves_362 (by decide) ?_
          refine k_iinc (v := (x8 + (1 : Int32))) cx dX8_moves_364 rfl rfl (by decide) ?_
          refine k_goto (tgt := 205) cx dX8_moves_367 (by decide) ?_
          exact k_weak h (lsLe.keep (lsLe.keep (lsLe.keep (lsLe.keep (lsLe.keep (lsLe.keep (lsLe.keep (lsLe.keep (lsLe.keep lsLe.nil)))))))))
set_option maxHeartbeats 2000000 in
theorem b_X8_moves_370  {g : GE} {f : FE} {q : Int32 → Mm → Prop} (cx : Cx g f cX8_moves 9 RX8 4 93 0 0) (hr : (f_M f).sig.returnType = (some .int)) (hl : (f_M f).locks = false) (hQ : f_Q f = MQ (f_b f) (QW g (qI q)) (f_a f) (f_s f) 0 0 (fun q => g.2.2.2 ≤ q))  {x1 : Int32} {x2 : Int32} {x5 : Int32} {x6 : Int32} {x7 : Int32} {μ : Mm} (h : F_X8_moves_370  (KK_X8_moves_53 g f ) (KK_X8_moves_127 g f ) (KK_X8_moves_205 g f ) (KK_X8_moves_370 g f ) q x1 x2 x5 x6 x7 μ) : KK_X8_moves_370 g f  x1 x2 x5 x6 x7 μ := by
  unfold F_X8_moves_370 at h
  show KW g f 9 0 0 370 [some (.ref p_MO), some (.int x1), some (.int x2), none, none, some (.int x5), some (.int x6), some (.int x7), none] [] μ
  refine k_iload cx dX8_moves_370 rfl ?_
  refine k_if_ne (tgt := 383) cx dX8_moves_372 (by decide) (fun hc => ?_) (fun hc => ?_)
  · replace h := h.1 hc
    refine k_iload cx dX8_moves_383 rfl ?_
    refine k_if_eq (tgt := 393) cx dX8_moves_385 (by decide) (fun hc => ?_) (fun hc => ?_)
    · replace h := h.1 hc
      refine k_iconst (v := (-1 : Int32)) cx dX8_moves_393 (by decide +kernel) ?_
      exact k_ret_I cx hr hl hQ dX8_moves_394 h
    · replace h := h.2 hc
      refine k_iload cx dX8_moves_388 rfl ?_
      refine k_goto (tgt := 394) cx dX8_moves_390 (by decide) ?_
      exact k_ret_I cx hr hl hQ dX8_moves_394 h
  · replace h := h.2 hc
    refine k_aload_n cx dX8_moves_375 rfl rfl ?_
    refine k_iload_n cx dX8_moves_376 rfl rfl ?_
    refine k_iload_n cx dX8_moves_377 rfl rfl ?_
    refine k_iload cx dX8_moves_378 rfl ?_
    refine k_callV (As := [.int x1, .int x2, .int x6]) (rest := []) cx (m_X8_back h) cv_X8_232 ob_MO rfl rfl rfl rfl (Nat.le_of_ble_eq_true rfl) ⟨Nat.le_of_ble_eq_true rfl, Nat.le_of_ble_eq_true rfl⟩ dX8_moves_380 (fun v μ1 hq => ?_)
    obtain ⟨rfl, h⟩ := hq
    refine k_iload cx dX8_moves_383 rfl ?_
    refine k_if_eq (tgt := 393) cx dX8_moves_385 (by decide) (fun hc => ?_) (fun hc => ?_)
    · replace h := h.1 hc
      refine k_iconst (v := (-1 : Int32)) cx dX8_moves_393 (by decide +kernel) ?_
      exact k_ret_I cx hr hl hQ dX8_moves_394 h
    · replace h := h.2 hc
      refine k_iload cx dX8_moves_388 rfl ?_
      refine k_goto (tgt := 394) cx dX8_moves_390 (by decide) ?_
      exact k_ret_I cx hr hl hQ dX8_moves_394 h
set_option maxHeartbeats 2000000 in
theorem b_X8_moves_e  {g : GE} {f : FE} {q : Int32 → Mm → Prop} (cx : Cx g f cX8_moves 9 RX8 4 93 0 0) (hr : (f_M f).sig.returnType = (some .int)) (hl : (f_M f).locks = false) (hQ : f_Q f = MQ (f_b f) (QW g (qI q)) (f_a f) (f_s f) 0 0 (fun q => g.2.2.2 ≤ q))  {x1 : Int32} {x2 : Int32} {x3 : Int32} {μ : Mm} (h : F_X8_moves_e  (KK_X8_moves_53 g f ) (KK_X8_moves_127 g f ) (KK_X8_moves_205 g f ) (KK_X8_moves_370 g f ) q x1 x2 x3 μ) : KW g f 9 0 0 0 [some (.ref p_MO), some (.int x1), some (.int x2), some (.int x3), none, none, none, none, none] [] μ := by
  unfold F_X8_moves_e at h
  refine k_iconst (v := (3 : Int32)) cx dX8_moves_0 (by decide +kernel) ?_
  refine k_iload_n cx dX8_moves_1 rfl rfl ?_
  refine k_imul cx dX8_moves_2 ?_
  refine k_istore cx dX8_moves_3 (by decide) ?_
  refine k_aload_n cx dX8_moves_5 rfl rfl ?_
  refine k_callV (As := []) (rest := []) cx (m_X8_sumsRooms h) cv_X8_204 ob_MO rfl rfl rfl rfl (Nat.le_of_ble_eq_true rfl) ⟨Nat.le_of_ble_eq_true rfl, Nat.le_of_ble_eq_true rfl⟩ dX8_moves_6 (fun v μ1 hq => ?_)
  obtain ⟨rfl, h⟩ := hq
  refine k_aload_n cx dX8_moves_9 rfl rfl ?_
  refine k_get (o := some p_MO_partSet) (v := .ref p_MO_partSet) cx fl_X8_35 ob_MO rfl rfl dX8_moves_10 ?_
  refine k_iload cx dX8_moves_13 rfl ?_
  refine k_iload_n cx dX8_moves_15 rfl rfl ?_
  refine k_iadd cx dX8_moves_16 ?_
  obtain ⟨hi, h⟩ := h
  refine k_iald cx ar_MO_partSet hi dX8_moves_17 ?_
  refine k_iload_n cx dX8_moves_18 rfl rfl ?_
  refine k_callS (As := [.int (μ1 p_MO_partSet ((((3 : Int32) * x1) + x2)).toNatClampNeg), .int x3]) (rest := []) cx (m_X8_has h) cv_X8_136 rfl rfl (Nat.le_of_ble_eq_true rfl) ⟨Nat.le_of_ble_eq_true rfl, Nat.le_of_ble_eq_true rfl⟩ dX8_moves_19 (fun v μ2 hq => ?_)
  obtain ⟨b3, rfl, h⟩ := hq
  refine k_if_eq (tgt := 47) cx dX8_moves_22 (by decide) (fun hc => ?_) (fun hc => ?_)
  · replace h := h.1 hc
    refine k_iconst (v := (0 : Int32)) cx dX8_moves_47 (by decide +kernel) ?_
    refine k_istore cx dX8_moves_48 (by decide) ?_
    refine k_iconst (v := (0 : Int32)) cx dX8_moves_50 (by decide +kernel) ?_
    refine k_istore cx dX8_moves_51 (by decide) ?_
    exact k_weak h (lsLe.keep (lsLe.keep (lsLe.keep (lsLe.keep (lsLe.keep (lsLe.keep (lsLe.keep (lsLe.keep (lsLe.keep lsLe.nil)))))))))
  · replace h := h.2 hc
    refine k_aload_n cx dX8_moves_25 rfl rfl ?_
    refine k_get (o := some p_MO_left) (v := .ref p_MO_left) cx fl_X8_71 ob_MO rfl rfl dX8_moves_26 ?_
    refine k_iload_n cx dX8_moves_29 rfl rfl ?_
    obtain ⟨hi, h⟩ := h
    refine k_iald cx ar_MO_left hi dX8_moves_30 ?_
    refine k_aload_n cx dX8_moves_31 rfl rfl ?_
    refine k_get (o := some p_MO_partNeed) (v := .ref p_MO_partNeed) cx fl_X8_32 ob_MO rfl rfl dX8_moves_32 ?_
    refine k_iload cx dX8_moves_35 rfl ?_
    refine k_iload_n cx dX8_moves_37 rfl rfl ?_
    refine k_iadd cx dX8_moves_38 ?_
    obtain ⟨hi, h⟩ := h
    refine k_iald cx ar_MO_partNeed hi dX8_moves_39 ?_
    refine k_icmp_lt (tgt := 47) cx dX8_moves_40 (by decide) (fun hc => ?_) (fun hc => ?_)
    · replace h := h.1 hc
      refine k_iconst (v := (0 : Int32)) cx dX8_moves_47 (by decide +kernel) ?_
      refine k_istore cx dX8_moves_48 (by decide) ?_
      refine k_iconst (v := (0 : Int32)) cx dX8_moves_50 (by decide +kernel) ?_
      refine k_istore cx dX8_moves_51 (by decide) ?_
      exact k_weak h (lsLe.keep (lsLe.keep (lsLe.keep (lsLe.keep (lsLe.keep (lsLe.keep (lsLe.keep (lsLe.keep (lsLe.keep lsLe.nil)))))))))
    · replace h := h.2 hc
      refine k_iconst (v := (1 : Int32)) cx dX8_moves_43 (by decide +kernel) ?_
      refine k_goto (tgt := 48) cx dX8_moves_44 (by decide) ?_
      refine k_istore cx dX8_moves_48 (by decide) ?_
      refine k_iconst (v := (0 : Int32)) cx dX8_moves_50 (by decide +kernel) ?_
      refine k_istore cx dX8_moves_51 (by decide) ?_
      exact k_weak h (lsLe.keep (lsLe.keep (lsLe.keep (lsLe.keep (lsLe.keep (lsLe.keep (lsLe.keep (lsLe.keep (lsLe.keep lsLe.nil)))))))))
theorem m_X8_moves {g : GE} {l : Launch} {μ : Mm} {q : Int32 → Mm → Prop} {x1 : Int32} {x2 : Int32} {x3 : Int32}  (h : Wp_X8_moves  x1 x2 x3 μ q) : MW g l yX8_moves cX8_moves 9 (some .int) 4 93 [.ref p_MO, .int x1, .int x2, .int x3] μ (qI q) := by
  refine met_of (by decide) (Nat.le_of_ble_eq_true rfl) (by intro v hv; simp only [List.mem_cons, List.not_mem_nil, or_false] at hv; rcases hv with rfl | rfl | rfl | rfl <;> rfl) ?_
  intro f hfl cx hr hl hQ
  exact b_X8_moves_e  cx hr hl hQ (h (KK_X8_moves_53 g f ) (KK_X8_moves_127 g f ) (KK_X8_moves_205 g f ) (KK_X8_moves_370 g f ) (fun _ _ _ _ _ _ _ h => b_X8_moves_53  cx hr hl hQ h) (fun _ _ _ _ _ _ _ h => b_X8_moves_127  cx hr hl hQ h) (fun _ _ _ _ _ _ _ _ h => b_X8_moves_205  cx hr hl hQ h) (fun _ _ _ _ _ _ h => b_X8_moves_370  cx hr hl hQ h))
theorem dX8_letsIn_0 : decode cX8_letsIn 0 = .ok (.aload_n 0, 1) := by decide +kernel
theorem dX8_letsIn_1 : decode cX8_letsIn 1 = .ok (.getfield 38, 3) := by decide +kernel
theorem dX8_letsIn_4 : decode cX8_letsIn 4 = .ok (.iconst 3, 1) := by decide +kernel
theorem dX8_letsIn_5 : decode cX8_letsIn 5 = .ok (.iload_n 1, 1) := by decide +kernel
theorem dX8_letsIn_6 : decode cX8_letsIn 6 = .ok (.imul, 1) := by decide +kernel
theorem dX8_letsIn_7 : decode cX8_letsIn 7 = .ok (.iload_n 2, 1) := by decide +kernel
theorem dX8_letsIn_8 : decode cX8_letsIn 8 = .ok (.iadd, 1) := by decide +kernel
theorem dX8_letsIn_9 : decode cX8_letsIn 9 = .ok (.iaload, 1) := by decide +kernel
theorem dX8_letsIn_10 : decode cX8_letsIn 10 = .ok (.istore 4, 2) := by decide +kernel
theorem dX8_letsIn_12 : decode cX8_letsIn 12 = .ok (.iload 4, 2) := by decide +kernel
theorem dX8_letsIn_14 : decode cX8_letsIn 14 = .ok (.iload_n 3, 1) := by decide +kernel
theorem dX8_letsIn_15 : decode cX8_letsIn 15 = .ok (.if_icmp .eq 14, 3) := by decide +kernel
theorem dX8_letsIn_18 : decode cX8_letsIn 18 = .ok (.aload_n 0, 1) := by decide +kernel
theorem dX8_letsIn_19 : decode cX8_letsIn 19 = .ok (.iload_n 1, 1) := by decide +kernel
theorem dX8_letsIn_20 : decode cX8_letsIn 20 = .ok (.iload_n 2, 1) := by decide +kernel
theorem dX8_letsIn_21 : decode cX8_letsIn 21 = .ok (.iload_n 3, 1) := by decide +kernel
theorem dX8_letsIn_22 : decode cX8_letsIn 22 = .ok (.invokevirtual 241, 3) := by decide +kernel
theorem dX8_letsIn_25 : decode cX8_letsIn 25 = .ok (.iconst (-1), 1) := by decide +kernel
theorem dX8_letsIn_26 : decode cX8_letsIn 26 = .ok (.if_icmp .ne 5, 3) := by decide +kernel
theorem dX8_letsIn_29 : decode cX8_letsIn 29 = .ok (.iconst 0, 1) := by decide +kernel
theorem dX8_letsIn_30 : decode cX8_letsIn 30 = .ok (.ireturn, 1) := by decide +kernel
theorem dX8_letsIn_31 : decode cX8_letsIn 31 = .ok (.aload_n 0, 1) := by decide +kernel
theorem dX8_letsIn_32 : decode cX8_letsIn 32 = .ok (.invokevirtual 204, 3) := by decide +kernel
theorem dX8_letsIn_35 : decode cX8_letsIn 35 = .ok (.aload_n 0, 1) := by decide +kernel
theorem dX8_letsIn_36 : decode cX8_letsIn 36 = .ok (.iconst 1, 1) := by decide +kernel
theorem dX8_letsIn_37 : decode cX8_letsIn 37 = .ok (.invokevirtual 210, 3) := by decide +kernel
theorem dX8_letsIn_40 : decode cX8_letsIn 40 = .ok (.iconst (-1), 1) := by decide +kernel
theorem dX8_letsIn_41 : decode cX8_letsIn 41 = .ok (.if_icmp .eq 7, 3) := by decide +kernel
theorem dX8_letsIn_44 : decode cX8_letsIn 44 = .ok (.iconst 1, 1) := by decide +kernel
theorem dX8_letsIn_45 : decode cX8_letsIn 45 = .ok (.goto 4, 3) := by decide +kernel
theorem dX8_letsIn_48 : decode cX8_letsIn 48 = .ok (.iconst 0, 1) := by decide +kernel
theorem dX8_letsIn_49 : decode cX8_letsIn 49 = .ok (.istore 5, 2) := by decide +kernel
theorem dX8_letsIn_51 : decode cX8_letsIn 51 = .ok (.aload_n 0, 1) := by decide +kernel
theorem dX8_letsIn_52 : decode cX8_letsIn 52 = .ok (.iload_n 1, 1) := by decide +kernel
theorem dX8_letsIn_53 : decode cX8_letsIn 53 = .ok (.iload_n 2, 1) := by decide +kernel
theorem dX8_letsIn_54 : decode cX8_letsIn 54 = .ok (.iload 4, 2) := by decide +kernel
theorem dX8_letsIn_56 : decode cX8_letsIn 56 = .ok (.invokevirtual 232, 3) := by decide +kernel
theorem dX8_letsIn_59 : decode cX8_letsIn 59 = .ok (.iload 5, 2) := by decide +kernel
theorem dX8_letsIn_61 : decode cX8_letsIn 61 = .ok (.ireturn, 1) := by decide +kernel
def F_X8_letsIn_49  (K49 : Int32 → Int32 → Int32 → Int32 → Mm → Prop) (q : Bool → Mm → Prop) (x1 : Int32) (x2 : Int32) (x4 : Int32) (y0 : Int32) (μ : Mm) : Prop :=
  Wp_X8_back x1 x2 x4 μ (fun μ1 => ∃ b : Bool, y0 = bI b ∧ q b μ1)
def F_X8_letsIn_e  (K49 : Int32 → Int32 → Int32 → Int32 → Mm → Prop) (q : Bool → Mm → Prop) (x1 : Int32) (x2 : Int32) (x3 : Int32) (μ : Mm) : Prop :=
  vp_in (((3 : Int32) * x1) + x2) 39 ∧ (((μ p_MO_at ((((3 : Int32) * x1) + x2)).toNatClampNeg) = x3 → q false μ) ∧ (¬ ((μ p_MO_at ((((3 : Int32) * x1) + x2)).toNatClampNeg) = x3) → Wp_X8_moves x1 x2 x3 μ (fun z2 μ1 => ((¬ (z2 = (-1 : Int32)) → Wp_X8_sumsRooms μ1 (fun μ3 => Wp_X8_leastOf (1 : Int32) μ3 (fun z5 μ4 => ((z5 = (-1 : Int32) → K49 x1 x2 (μ p_MO_at ((((3 : Int32) * x1) + x2)).toNatClampNeg) (0 : Int32) μ4) ∧ (¬ (z5 = (-1 : Int32)) → K49 x1 x2 (μ p_MO_at ((((3 : Int32) * x1) + x2)).toNatClampNeg) (1 : Int32) μ4))))) ∧ (z2 = (-1 : Int32) → q false μ1)))))
def Wp_X8_letsIn  (x1 : Int32) (x2 : Int32) (x3 : Int32) (μ : Mm) (q : Bool → Mm → Prop) : Prop := ∀ (K49 : Int32 → Int32 → Int32 → Int32 → Mm → Prop), (∀ (x1 : Int32) (x2 : Int32) (x4 : Int32) (y0 : Int32) (μ : Mm), F_X8_letsIn_49  K49 q x1 x2 x4 y0 μ → K49 x1 x2 x4 y0 μ) → F_X8_letsIn_e  K49 q x1 x2 x3 μ
abbrev KK_X8_letsIn_49 (g : GE) (f : FE)  : Int32 → Int32 → Int32 → Int32 → Mm → Prop := fun x1 x2 x4 y0 μ => KW g f 6 0 0 49 [some (.ref p_MO), some (.int x1), some (.int x2), none, some (.int x4), none] [.int y0] μ
set_option maxHeartbeats 2000000 in
theorem b_X8_letsIn_49  {g : GE} {f : FE} {q : Bool → Mm → Prop} (cx : Cx g f cX8_letsIn 6 RX8 5 121 0 0) (hr : (f_M f).sig.returnType = (some .boolean)) (hl : (f_M f).locks = false) (hQ : f_Q f = MQ (f_b f) (QW g (qZ q)) (f_a f) (f_s f) 0 0 (fun q => g.2.2.2 ≤ q))  {x1 : Int32} {x2 : Int32} {x4 : Int32} {y0 : Int32} {μ : Mm} (h : F_X8_letsIn_49  (KK_X8_letsIn_49 g f ) q x1 x2 x4 y0 μ) : KK_X8_letsIn_49 g f  x1 x2 x4 y0 μ := by
  unfold F_X8_letsIn_49 at h
  show KW g f 6 0 0 49 [some (.ref p_MO), some (.int x1), some (.int x2), none, some (.int x4), none] [.int y0] μ
  refine k_istore cx dX8_letsIn_49 (by decide) ?_
  refine k_aload_n cx dX8_letsIn_51 rfl rfl ?_
  refine k_iload_n cx dX8_letsIn_52 rfl rfl ?_
  refine k_iload_n cx dX8_letsIn_53 rfl rfl ?_
  refine k_iload cx dX8_letsIn_54 rfl ?_
  refine k_callV (As := [.int x1, .int x2, .int x4]) (rest := []) cx (m_X8_back h) cv_X8_232 ob_MO rfl rfl rfl rfl (Nat.le_of_ble_eq_true rfl) ⟨Nat.le_of_ble_eq_true rfl, Nat.le_of_ble_eq_true rfl⟩ dX8_letsIn_56 (fun v μ1 hq => ?_)
  obtain ⟨rfl, h⟩ := hq
  refine k_iload cx dX8_letsIn_59 rfl ?_
  obtain ⟨b, hb, h⟩ := h
  exact k_ret_Z (b := b) cx hr hl hQ dX8_letsIn_61 hb h
set_option maxHeartbeats 2000000 in
theorem b_X8_letsIn_e  {g : GE} {f : FE} {q : Bool → Mm → Prop} (cx : Cx g f cX8_letsIn 6 RX8 5 121 0 0) (hr : (f_M f).sig.returnType = (some .boolean)) (hl : (f_M f).locks = false) (hQ : f_Q f = MQ (f_b f) (QW g (qZ q)) (f_a f) (f_s f) 0 0 (fun q => g.2.2.2 ≤ q))  {x1 : Int32} {x2 : Int32} {x3 : Int32} {μ : Mm} (h : F_X8_letsIn_e  (KK_X8_letsIn_49 g f ) q x1 x2 x3 μ) : KW g f 6 0 0 0 [some (.ref p_MO), some (.int x1), some (.int x2), some (.int x3), none, none] [] μ := by
  unfold F_X8_letsIn_e at h
  refine k_aload_n cx dX8_letsIn_0 rfl rfl ?_
  refine k_get (o := some p_MO_at) (v := .ref p_MO_at) cx fl_X8_38 ob_MO rfl rfl dX8_letsIn_1 ?_
  refine k_iconst (v := (3 : Int32)) cx dX8_letsIn_4 (by decide +kernel) ?_
  refine k_iload_n cx dX8_letsIn_5 rfl rfl ?_
  refine k_imul cx dX8_letsIn_6 ?_
  refine k_iload_n cx dX8_letsIn_7 rfl rfl ?_
  refine k_iadd cx dX8_letsIn_8 ?_
  obtain ⟨hi, h⟩ := h
  refine k_iald cx ar_MO_at hi dX8_letsIn_9 ?_
  refine k_istore cx dX8_letsIn_10 (by decide) ?_
  refine k_iload cx dX8_letsIn_12 rfl ?_
  refine k_iload_n cx dX8_letsIn_14 rfl rfl ?_
  refine k_icmp_eq (tgt := 29) cx dX8_letsIn_15 (by decide) (fun hc => ?_) (fun hc => ?_)
  · replace h := h.1 hc
    refine k_iconst (v := (0 : Int32)) cx dX8_letsIn_29 (by decide +kernel) ?_
    exact k_ret_Z (b := false) cx hr hl hQ dX8_letsIn_30 rfl h
  · replace h := h.2 hc
    refine k_aload_n cx dX8_letsIn_18 rfl rfl ?_
    refine k_iload_n cx dX8_letsIn_19 rfl rfl ?_
    refine k_iload_n cx dX8_letsIn_20 rfl rfl ?_
    refine k_iload_n cx dX8_letsIn_21 rfl rfl ?_
    refine k_callV (As := [.int x1, .int x2, .int x3]) (rest := []) cx (m_X8_moves h) cv_X8_241 ob_MO rfl rfl rfl rfl (Nat.le_of_ble_eq_true rfl) ⟨Nat.le_of_ble_eq_true rfl, Nat.le_of_ble_eq_true rfl⟩ dX8_letsIn_22 (fun v μ1 hq => ?_)
    obtain ⟨z2, rfl, h⟩ := hq
    refine k_iconst (v := (-1 : Int32)) cx dX8_letsIn_25 (by decide +kernel) ?_
    refine k_icmp_ne (tgt := 31) cx dX8_letsIn_26 (by decide) (fun hc => ?_) (fun hc => ?_)
    · replace h := h.1 hc
      refine k_aload_n cx dX8_letsIn_31 rfl rfl ?_
      refine k_callV (As := []) (rest := []) cx (m_X8_sumsRooms h) cv_X8_204 ob_MO rfl rfl rfl rfl (Nat.le_of_ble_eq_true rfl) ⟨Nat.le_of_ble_eq_true rfl, Nat.le_of_ble_eq_true rfl⟩ dX8_letsIn_32 (fun v μ3 hq => ?_)
      obtain ⟨rfl, h⟩ := hq
      refine k_aload_n cx dX8_letsIn_35 rfl rfl ?_
      refine k_iconst (v := (1 : Int32)) cx dX8_letsIn_36 (by decide +kernel) ?_
      refine k_callV (As := [.int (1 : Int32)]) (rest := []) cx (m_X8_leastOf h) cv_X8_210 ob_MO rfl rfl rfl rfl (Nat.le_of_ble_eq_true rfl) ⟨Nat.le_of_ble_eq_true rfl, Nat.le_of_ble_eq_true rfl⟩ dX8_letsIn_37 (fun v μ4 hq => ?_)
      obtain ⟨z5, rfl, h⟩ := hq
      refine k_iconst (v := (-1 : Int32)) cx dX8_letsIn_40 (by decide +kernel) ?_
      refine k_icmp_eq (tgt := 48) cx dX8_letsIn_41 (by decide) (fun hc => ?_) (fun hc => ?_)
      · replace h := h.1 hc
        refine k_iconst (v := (0 : Int32)) cx dX8_letsIn_48 (by decide +kernel) ?_
        exact k_weak h (lsLe.keep (lsLe.keep (lsLe.keep (lsLe.drop (lsLe.keep (lsLe.keep lsLe.nil))))))
      · replace h := h.2 hc
        refine k_iconst (v := (1 : Int32)) cx dX8_letsIn_44 (by decide +kernel) ?_
        refine k_goto (tgt := 49) cx dX8_letsIn_45 (by decide) ?_
        exact k_weak h (lsLe.keep (lsLe.keep (lsLe.keep (lsLe.drop (lsLe.keep (lsLe.keep lsLe.nil))))))
    · replace h := h.2 hc
      refine k_iconst (v := (0 : Int32)) cx dX8_letsIn_29 (by decide +kernel) ?_
      exact k_ret_Z (b := false) cx hr hl hQ dX8_letsIn_30 rfl h
theorem m_X8_letsIn {g : GE} {l : Launch} {μ : Mm} {q : Bool → Mm → Prop} {x1 : Int32} {x2 : Int32} {x3 : Int32}  (h : Wp_X8_letsIn  x1 x2 x3 μ q) : MW g l yX8_letsIn cX8_letsIn 6 (some .boolean) 5 121 [.ref p_MO, .int x1, .int x2, .int x3] μ (qZ q) := by
  refine met_of (by decide) (Nat.le_of_ble_eq_true rfl) (by intro v hv; simp only [List.mem_cons, List.not_mem_nil, or_false] at hv; rcases hv with rfl | rfl | rfl | rfl <;> rfl) ?_
  intro f hfl cx hr hl hQ
  exact b_X8_letsIn_e  cx hr hl hQ (h (KK_X8_letsIn_49 g f ) (fun _ _ _ _ _ h => b_X8_letsIn_49  cx hr hl hQ h))
theorem dX8_freeing_0 : decode cX8_freeing 0 = .ok (.aload_n 0, 1) := by decide +kernel
theorem dX8_freeing_1 : decode cX8_freeing 1 = .ok (.iconst 0, 1) := by decide +kernel
theorem dX8_freeing_2 : decode cX8_freeing 2 = .ok (.putfield 104, 3) := by decide +kernel
theorem dX8_freeing_5 : decode cX8_freeing 5 = .ok (.aload_n 0, 1) := by decide +kernel
theorem dX8_freeing_6 : decode cX8_freeing 6 = .ok (.invokevirtual 204, 3) := by decide +kernel
theorem dX8_freeing_9 : decode cX8_freeing 9 = .ok (.aload_n 0, 1) := by decide +kernel
theorem dX8_freeing_10 : decode cX8_freeing 10 = .ok (.getfield 26, 3) := by decide +kernel
theorem dX8_freeing_13 : decode cX8_freeing 13 = .ok (.aload_n 0, 1) := by decide +kernel
theorem dX8_freeing_14 : decode cX8_freeing 14 = .ok (.getfield 118, 3) := by decide +kernel
theorem dX8_freeing_17 : decode cX8_freeing 17 = .ok (.iaload, 1) := by decide +kernel
theorem dX8_freeing_18 : decode cX8_freeing 18 = .ok (.ifCond .eq 12, 3) := by decide +kernel
theorem dX8_freeing_21 : decode cX8_freeing 21 = .ok (.aload_n 0, 1) := by decide +kernel
theorem dX8_freeing_22 : decode cX8_freeing 22 = .ok (.iconst 1, 1) := by decide +kernel
theorem dX8_freeing_23 : decode cX8_freeing 23 = .ok (.invokevirtual 210, 3) := by decide +kernel
theorem dX8_freeing_26 : decode cX8_freeing 26 = .ok (.iconst (-1), 1) := by decide +kernel
theorem dX8_freeing_27 : decode cX8_freeing 27 = .ok (.if_icmp .eq 5, 3) := by decide +kernel
theorem dX8_freeing_30 : decode cX8_freeing 30 = .ok (.iconst (-1), 1) := by decide +kernel
theorem dX8_freeing_31 : decode cX8_freeing 31 = .ok (.ireturn, 1) := by decide +kernel
theorem dX8_freeing_32 : decode cX8_freeing 32 = .ok (.iconst (-1), 1) := by decide +kernel
theorem dX8_freeing_33 : decode cX8_freeing 33 = .ok (.istore_n 1, 1) := by decide +kernel
theorem dX8_freeing_34 : decode cX8_freeing 34 = .ok (.bipush 99, 2) := by decide +kernel
theorem dX8_freeing_36 : decode cX8_freeing 36 = .ok (.istore_n 2, 1) := by decide +kernel
theorem dX8_freeing_37 : decode cX8_freeing 37 = .ok (.iconst 0, 1) := by decide +kernel
theorem dX8_freeing_38 : decode cX8_freeing 38 = .ok (.istore_n 3, 1) := by decide +kernel
theorem dX8_freeing_39 : decode cX8_freeing 39 = .ok (.iload_n 3, 1) := by decide +kernel
theorem dX8_freeing_40 : decode cX8_freeing 40 = .ok (.iconst 3, 1) := by decide +kernel
theorem dX8_freeing_41 : decode cX8_freeing 41 = .ok (.aload_n 0, 1) := by decide +kernel
theorem dX8_freeing_42 : decode cX8_freeing 42 = .ok (.getfield 118, 3) := by decide +kernel
theorem dX8_freeing_45 : decode cX8_freeing 45 = .ok (.imul, 1) := by decide +kernel
theorem dX8_freeing_46 : decode cX8_freeing 46 = .ok (.bipush 6, 2) := by decide +kernel
theorem dX8_freeing_48 : decode cX8_freeing 48 = .ok (.imul, 1) := by decide +kernel
theorem dX8_freeing_49 : decode cX8_freeing 49 = .ok (.if_icmp .ge 128, 3) := by decide +kernel
theorem dX8_freeing_52 : decode cX8_freeing 52 = .ok (.iload_n 3, 1) := by decide +kernel
theorem dX8_freeing_53 : decode cX8_freeing 53 = .ok (.bipush 18, 2) := by decide +kernel
theorem dX8_freeing_55 : decode cX8_freeing 55 = .ok (.idiv, 1) := by decide +kernel
theorem dX8_freeing_56 : decode cX8_freeing 56 = .ok (.istore 4, 2) := by decide +kernel
theorem dX8_freeing_58 : decode cX8_freeing 58 = .ok (.iload_n 3, 1) := by decide +kernel
theorem dX8_freeing_59 : decode cX8_freeing 59 = .ok (.bipush 6, 2) := by decide +kernel
theorem dX8_freeing_61 : decode cX8_freeing 61 = .ok (.idiv, 1) := by decide +kernel
theorem dX8_freeing_62 : decode cX8_freeing 62 = .ok (.iconst 3, 1) := by decide +kernel
theorem dX8_freeing_63 : decode cX8_freeing 63 = .ok (.irem, 1) := by decide +kernel
theorem dX8_freeing_64 : decode cX8_freeing 64 = .ok (.istore 5, 2) := by decide +kernel
theorem dX8_freeing_66 : decode cX8_freeing 66 = .ok (.iload_n 3, 1) := by decide +kernel
theorem dX8_freeing_67 : decode cX8_freeing 67 = .ok (.bipush 6, 2) := by decide +kernel
theorem dX8_freeing_69 : decode cX8_freeing 69 = .ok (.irem, 1) := by decide +kernel
theorem dX8_freeing_70 : decode cX8_freeing 70 = .ok (.istore 6, 2) := by decide +kernel
theorem dX8_freeing_72 : decode cX8_freeing 72 = .ok (.aload_n 0, 1) := by decide +kernel
theorem dX8_freeing_73 : decode cX8_freeing 73 = .ok (.iload 4, 2) := by decide +kernel
theorem dX8_freeing_75 : decode cX8_freeing 75 = .ok (.invokevirtual 238, 3) := by decide +kernel
theorem dX8_freeing_78 : decode cX8_freeing 78 = .ok (.ifCond .eq 44, 3) := by decide +kernel
theorem dX8_freeing_81 : decode cX8_freeing 81 = .ok (.iload 5, 2) := by decide +kernel
theorem dX8_freeing_83 : decode cX8_freeing 83 = .ok (.aload_n 0, 1) := by decide +kernel
theorem dX8_freeing_84 : decode cX8_freeing 84 = .ok (.getfield 26, 3) := by decide +kernel
theorem dX8_freeing_87 : decode cX8_freeing 87 = .ok (.iload 4, 2) := by decide +kernel
theorem dX8_freeing_89 : decode cX8_freeing 89 = .ok (.iaload, 1) := by decide +kernel
theorem dX8_freeing_90 : decode cX8_freeing 90 = .ok (.if_icmp .ge 32, 3) := by decide +kernel
theorem dX8_freeing_93 : decode cX8_freeing 93 = .ok (.iload 6, 2) := by decide +kernel
theorem dX8_freeing_95 : decode cX8_freeing 95 = .ok (.aload_n 0, 1) := by decide +kernel
theorem dX8_freeing_96 : decode cX8_freeing 96 = .ok (.getfield 108, 3) := by decide +kernel
theorem dX8_freeing_99 : decode cX8_freeing 99 = .ok (.if_icmp .ge 23, 3) := by decide +kernel
theorem dX8_freeing_102 : decode cX8_freeing 102 = .ok (.aload_n 0, 1) := by decide +kernel
theorem dX8_freeing_103 : decode cX8_freeing 103 = .ok (.getfield 32, 3) := by decide +kernel
theorem dX8_freeing_106 : decode cX8_freeing 106 = .ok (.iconst 3, 1) := by decide +kernel
theorem dX8_freeing_107 : decode cX8_freeing 107 = .ok (.iload 4, 2) := by decide +kernel
theorem dX8_freeing_109 : decode cX8_freeing 109 = .ok (.imul, 1) := by decide +kernel
theorem dX8_freeing_110 : decode cX8_freeing 110 = .ok (.iload 5, 2) := by decide +kernel
theorem dX8_freeing_112 : decode cX8_freeing 112 = .ok (.iadd, 1) := by decide +kernel
theorem dX8_freeing_113 : decode cX8_freeing 113 = .ok (.iaload, 1) := by decide +kernel
theorem dX8_freeing_114 : decode cX8_freeing 114 = .ok (.iload_n 2, 1) := by decide +kernel
theorem dX8_freeing_115 : decode cX8_freeing 115 = .ok (.if_icmp .ge 7, 3) := by decide +kernel
theorem dX8_freeing_118 : decode cX8_freeing 118 = .ok (.iconst 1, 1) := by decide +kernel
theorem dX8_freeing_119 : decode cX8_freeing 119 = .ok (.goto 4, 3) := by decide +kernel
theorem dX8_freeing_122 : decode cX8_freeing 122 = .ok (.iconst 0, 1) := by decide +kernel
theorem dX8_freeing_123 : decode cX8_freeing 123 = .ok (.istore 7, 2) := by decide +kernel
theorem dX8_freeing_125 : decode cX8_freeing 125 = .ok (.iload 7, 2) := by decide +kernel
theorem dX8_freeing_127 : decode cX8_freeing 127 = .ok (.ifCond .eq 44, 3) := by decide +kernel
theorem dX8_freeing_130 : decode cX8_freeing 130 = .ok (.aload_n 0, 1) := by decide +kernel
theorem dX8_freeing_131 : decode cX8_freeing 131 = .ok (.iload 4, 2) := by decide +kernel
theorem dX8_freeing_133 : decode cX8_freeing 133 = .ok (.iload 5, 2) := by decide +kernel
theorem dX8_freeing_135 : decode cX8_freeing 135 = .ok (.iload 6, 2) := by decide +kernel
theorem dX8_freeing_137 : decode cX8_freeing 137 = .ok (.invokevirtual 244, 3) := by decide +kernel
theorem dX8_freeing_140 : decode cX8_freeing 140 = .ok (.ifCond .eq 31, 3) := by decide +kernel
theorem dX8_freeing_143 : decode cX8_freeing 143 = .ok (.bipush 100, 2) := by decide +kernel
theorem dX8_freeing_145 : decode cX8_freeing 145 = .ok (.iload 4, 2) := by decide +kernel
theorem dX8_freeing_147 : decode cX8_freeing 147 = .ok (.imul, 1) := by decide +kernel
theorem dX8_freeing_148 : decode cX8_freeing 148 = .ok (.bipush 10, 2) := by decide +kernel
theorem dX8_freeing_150 : decode cX8_freeing 150 = .ok (.iload 5, 2) := by decide +kernel
theorem dX8_freeing_152 : decode cX8_freeing 152 = .ok (.imul, 1) := by decide +kernel
theorem dX8_freeing_153 : decode cX8_freeing 153 = .ok (.iadd, 1) := by decide +kernel
theorem dX8_freeing_154 : decode cX8_freeing 154 = .ok (.iload 6, 2) := by decide +kernel
theorem dX8_freeing_156 : decode cX8_freeing 156 = .ok (.iadd, 1) := by decide +kernel
theorem dX8_freeing_157 : decode cX8_freeing 157 = .ok (.istore_n 1, 1) := by decide +kernel
theorem dX8_freeing_158 : decode cX8_freeing 158 = .ok (.aload_n 0, 1) := by decide +kernel
theorem dX8_freeing_159 : decode cX8_freeing 159 = .ok (.getfield 32, 3) := by decide +kernel
theorem dX8_freeing_162 : decode cX8_freeing 162 = .ok (.iconst 3, 1) := by decide +kernel
theorem dX8_freeing_163 : decode cX8_freeing 163 = .ok (.iload 4, 2) := by decide +kernel
theorem dX8_freeing_165 : decode cX8_freeing 165 = .ok (.imul, 1) := by decide +kernel
theorem dX8_freeing_166 : decode cX8_freeing 166 = .ok (.iload 5, 2) := by decide +kernel
theorem dX8_freeing_168 : decode cX8_freeing 168 = .ok (.iadd, 1) := by decide +kernel
theorem dX8_freeing_169 : decode cX8_freeing 169 = .ok (.iaload, 1) := by decide +kernel
theorem dX8_freeing_170 : decode cX8_freeing 170 = .ok (.istore_n 2, 1) := by decide +kernel
theorem dX8_freeing_171 : decode cX8_freeing 171 = .ok (.iinc 3 1, 3) := by decide +kernel
theorem dX8_freeing_174 : decode cX8_freeing 174 = .ok (.goto (-135), 3) := by decide +kernel
theorem dX8_freeing_177 : decode cX8_freeing 177 = .ok (.iload_n 1, 1) := by decide +kernel
theorem dX8_freeing_178 : decode cX8_freeing 178 = .ok (.ireturn, 1) := by decide +kernel
def F_X8_freeing_39  (K39 : Int32 → Int32 → Int32 → Mm → Prop) (K123 : Int32 → Int32 → Int32 → Int32 → Int32 → Int32 → Int32 → Mm → Prop) (q : Int32 → Mm → Prop) (x1 : Int32) (x2 : Int32) (x3 : Int32) (μ : Mm) : Prop :=
  (((((3 : Int32) * (μ p_MO 8)) * (6 : Int32)) ≤ x3 → q x1 μ) ∧ (¬ ((((3 : Int32) * (μ p_MO 8)) * (6 : Int32)) ≤ x3) → Wp_X8_canMove (x3 / (18 : Int32)) μ (fun b2 μ1 => (((bI b2) = 0 → K123 x1 x2 x3 (x3 / (18 : Int32)) ((x3 / (6 : Int32)) - (x3 / (6 : Int32)) / (3 : Int32) * (3 : Int32)) (x3 - x3 / (6 : Int32) * (6 : Int32)) (0 : Int32) μ1) ∧ (¬ ((bI b2) = 0) → vp_in (x3 / (18 : Int32)) 13 ∧ (((μ1 p_MO_parts ((x3 / (18 : Int32))).toNatClampNeg) ≤ ((x3 / (6 : Int32)) - (x3 / (6 : Int32)) / (3 : Int32) * (3 : Int32)) → K123 x1 x2 x3 (x3 / (18 : Int32)) ((x3 / (6 : Int32)) - (x3 / (6 : Int32)) / (3 : Int32) * (3 : Int32)) (x3 - x3 / (6 : Int32) * (6 : Int32)) (0 : Int32) μ1) ∧ (¬ ((μ1 p_MO_parts ((x3 / (18 : Int32))).toNatClampNeg) ≤ ((x3 / (6 : Int32)) - (x3 / (6 : Int32)) / (3 : Int32) * (3 : Int32))) → (((μ1 p_MO 1) ≤ (x3 - x3 / (6 : Int32) * (6 : Int32)) → K123 x1 x2 x3 (x3 / (18 : Int32)) ((x3 / (6 : Int32)) - (x3 / (6 : Int32)) / (3 : Int32) * (3 : Int32)) (x3 - x3 / (6 : Int32) * (6 : Int32)) (0 : Int32) μ1) ∧ (¬ ((μ1 p_MO 1) ≤ (x3 - x3 / (6 : Int32) * (6 : Int32))) → vp_in (((3 : Int32) * (x3 / (18 : Int32))) + ((x3 / (6 : Int32)) - (x3 / (6 : Int32)) / (3 : Int32) * (3 : Int32))) 39 ∧ ((x2 ≤ (μ1 p_MO_partNeed ((((3 : Int32) * (x3 / (18 : Int32))) + ((x3 / (6 : Int32)) - (x3 / (6 : Int32)) / (3 : Int32) * (3 : Int32)))).toNatClampNeg) → K123 x1 x2 x3 (x3 / (18 : Int32)) ((x3 / (6 : Int32)) - (x3 / (6 : Int32)) / (3 : Int32) * (3 : Int32)) (x3 - x3 / (6 : Int32) * (6 : Int32)) (0 : Int32) μ1) ∧ (¬ (x2 ≤ (μ1 p_MO_partNeed ((((3 : Int32) * (x3 / (18 : Int32))) + ((x3 / (6 : Int32)) - (x3 / (6 : Int32)) / (3 : Int32) * (3 : Int32)))).toNatClampNeg)) → K123 x1 x2 x3 (x3 / (18 : Int32)) ((x3 / (6 : Int32)) - (x3 / (6 : Int32)) / (3 : Int32) * (3 : Int32)) (x3 - x3 / (6 : Int32) * (6 : Int32)) (1 : Int32) μ1)))))))))))
def F_X8_freeing_123  (K39 : Int32 → Int32 → Int32 → Mm → Prop) (K123 : Int32 → Int32 → Int32 → Int32 → Int32 → Int32 → Int32 → Mm → Prop) (q : Int32 → Mm → Prop) (x1 : Int32) (x2 : Int32) (x3 : Int32) (x4 : Int32) (x5 : Int32) (x6 : Int32) (y0 : Int32) (μ : Mm) : Prop :=
  ((y0 = 0 → K39 x1 x2 (x3 + (1 : Int32)) μ) ∧ (¬ (y0 = 0) → Wp_X8_letsIn x4 x5 x6 μ (fun b2 μ1 => (((bI b2) = 0 → K39 x1 x2 (x3 + (1 : Int32)) μ1) ∧ (¬ ((bI b2) = 0) → vp_in (((3 : Int32) * x4) + x5) 39 ∧ K39 ((((100 : Int32) * x4) + ((10 : Int32) * x5)) + x6) (μ1 p_MO_partNeed ((((3 : Int32) * x4) + x5)).toNatClampNeg) (x3 + (1 : Int32)) μ1)))))
def F_X8_freeing_e  (K39 : Int32 → Int32 → Int32 → Mm → Prop) (K123 : Int32 → Int32 → Int32 → Int32 → Int32 → Int32 → Int32 → Mm → Prop) (q : Int32 → Mm → Prop)  (μ : Mm) : Prop :=
  Wp_X8_sumsRooms (up2 μ p_MO 35 (0 : Int32)) (fun μ1 => vp_in (μ1 p_MO 8) 13 ∧ (((μ1 p_MO_parts ((μ1 p_MO 8)).toNatClampNeg) = 0 → q (-1 : Int32) μ1) ∧ (¬ ((μ1 p_MO_parts ((μ1 p_MO 8)).toNatClampNeg) = 0) → Wp_X8_leastOf (1 : Int32) μ1 (fun z3 μ2 => ((z3 = (-1 : Int32) → K39 (-1 : Int32) (99 : Int32) (0 : Int32) μ2) ∧ (¬ (z3 = (-1 : Int32)) → q (-1 : Int32) μ2))))))
def Wp_X8_freeing   (μ : Mm) (q : Int32 → Mm → Prop) : Prop := ∀ (K39 : Int32 → Int32 → Int32 → Mm → Prop) (K123 : Int32 → Int32 → Int32 → Int32 → Int32 → Int32 → Int32 → Mm → Prop), (∀ (x1 : Int32) (x2 : Int32) (x3 : Int32) (μ : Mm), F_X8_freeing_39  K39 K123 q x1 x2 x3 μ → K39 x1 x2 x3 μ) → (∀ (x1 : Int32) (x2 : Int32) (x3 : Int32) (x4 : Int32) (x5 : Int32) (x6 : Int32) (y0 : Int32) (μ : Mm), F_X8_freeing_123  K39 K123 q x1 x2 x3 x4 x5 x6 y0 μ → K123 x1 x2 x3 x4 x5 x6 y0 μ) → F_X8_freeing_e  K39 K123 q  μ
abbrev KK_X8_freeing_39 (g : GE) (f : FE)  : Int32 → Int32 → Int32 → Mm → Prop := fun x1 x2 x3 μ => KW g f 8 0 0 39 [some (.ref p_MO), some (.int x1), some (.int x2), some (.int x3), none, none, none, none] [] μ
abbrev KK_X8_freeing_123 (g : GE) (f : FE)  : Int32 → Int32 → Int32 → Int32 → Int32 → Int32 → Int32 → Mm → Prop := fun x1 x2 x3 x4 x5 x6 y0 μ => KW g f 8 0 0 123 [some (.ref p_MO), some (.int x1), some (.int x2), some (.int x3), some (.int x4), some (.int x5), some (.int x6), none] [.int y0] μ
set_option maxHeartbeats 2000000 in
theorem b_X8_freeing_39  {g : GE} {f : FE} {q : Int32 → Mm → Prop} (cx : Cx g f cX8_freeing 8 RX8 6 146 0 0) (hr : (f_M f).sig.returnType = (some .int)) (hl : (f_M f).locks = false) (hQ : f_Q f = MQ (f_b f) (QW g (qI q)) (f_a f) (f_s f) 0 0 (fun q => g.2.2.2 ≤ q))  {x1 : Int32} {x2 : Int32} {x3 : Int32} {μ : Mm} (h : F_X8_freeing_39  (KK_X8_freeing_39 g f ) (KK_X8_freeing_123 g f ) q x1 x2 x3 μ) : KK_X8_freeing_39 g f  x1 x2 x3 μ := by
  unfold F_X8_freeing_39 at h
  show KW g f 8 0 0 39 [some (.ref p_MO), some (.int x1), some (.int x2), some (.int x3), none, none, none, none] [] μ
  refine k_iload_n cx dX8_freeing_39 rfl rfl ?_
  refine k_iconst (v := (3 : Int32)) cx dX8_freeing_40 (by decide +kernel) ?_
  refine k_aload_n cx dX8_freeing_41 rfl rfl ?_
  refine k_get (o := none) (v := .int (μ p_MO 8)) cx fl_X8_118 ob_MO rfl rfl dX8_freeing_42 ?_
  refine k_imul cx dX8_freeing_45 ?_
  refine k_bipush (v := (6 : Int32)) cx dX8_freeing_46 (by decide +kernel) ?_
  refine k_imul cx dX8_freeing_48 ?_
  refine k_icmp_ge (tgt := 177) cx dX8_freeing_49 (by decide) (fun hc => ?_) (fun hc => ?_)
  · replace h := h.1 hc
    refine k_iload_n cx dX8_freeing_177 rfl rfl ?_
    exact k_ret_I cx hr hl hQ dX8_freeing_178 h
  · replace h := h.2 hc
    refine k_iload_n cx dX8_freeing_52 rfl rfl ?_
    refine k_bipush (v := (18 : Int32)) cx dX8_freeing_53 (by decide +kernel) ?_
    refine k_idiv cx dX8_freeing_55 (by decide) ?_
    refine k_istore cx dX8_freeing_56 (by decide) ?_
    refine k_iload_n cx dX8_freeing_58 rfl rfl ?_
    refine k_bipush (v := (6 : Int32)) cx dX8_freeing_59 (by decide +kernel) ?_
    refine k_idiv cx dX8_freeing_61 (by decide) ?_
    refine k_iconst (v := (3 : Int32)) cx dX8_freeing_62 (by decide +kernel) ?_
    refine k_irem cx dX8_freeing_63 (by decide) ?_
    refine k_istore cx dX8_freeing_64 (by decide) ?_
    refine k_iload_n cx dX8_freeing_66 rfl rfl ?_
    refine k_bipush (v := (6 : Int32)) cx dX8_freeing_67 (by decide +kernel) ?_
    refine k_irem cx dX8_freeing_69 (by decide) ?_
    refine k_istore cx dX8_freeing_70 (by decide) ?_
    refine k_aload_n cx dX8_freeing_72 rfl rfl ?_
    refine k_iload cx dX8_freeing_73 rfl ?_
    refine k_callV (As := [.int (x3 / (18 : Int32))]) (rest := []) cx (m_X8_canMove h) cv_X8_238 ob_MO rfl rfl rfl rfl (Nat.le_of_ble_eq_true rfl) ⟨Nat.le_of_ble_eq_true rfl, Nat.le_of_ble_eq_true rfl⟩ dX8_freeing_75 (fun v μ1 hq => ?_)
    obtain ⟨b2, rfl, h⟩ := hq
    refine k_if_eq (tgt := 122) cx dX8_freeing_78 (by decide) (fun hc => ?_) (fun hc => ?_)
    · replace h := h.1 hc
      refine k_iconst (v := (0 : Int32)) cx dX8_freeing_122 (by decide +kernel) ?_
      exact k_weak h (lsLe.keep (lsLe.keep (lsLe.keep (lsLe.keep (lsLe.keep (lsLe.keep (lsLe.keep (lsLe.keep lsLe.nil))))))))
    · replace h := h.2 hc
      refine k_iload cx dX8_freeing_81 rfl ?_
      refine k_aload_n cx dX8_freeing_83 rfl rfl ?_
      refine k_get (o := some p_MO_parts) (v := .ref p_MO_parts) cx fl_X8_26 ob_MO rfl rfl dX8_freeing_84 ?_
      refine k_iload cx dX8_freeing_87 rfl ?_
      obtain ⟨hi, h⟩ := h
      refine k_iald cx ar_MO_parts hi dX8_freeing_89 ?_
      refine k_icmp_ge (tgt := 122) cx dX8_freeing_90 (by decide) (fun hc => ?_) (fun hc => ?_)
      · replace h := h.1 hc
        refine k_iconst (v := (0 : Int32)) cx dX8_freeing_122 (by decide +kernel) ?_
        exact k_weak h (lsLe.keep (lsLe.keep (lsLe.keep (lsLe.keep (lsLe.keep (lsLe.keep (lsLe.keep (lsLe.keep lsLe.nil))))))))
      · replace h := h.2 hc
        refine k_iload cx dX8_freeing_93 rfl ?_
        refine k_aload_n cx dX8_freeing_95 rfl rfl ?_
        refine k_get (o := none) (v := .int (μ1 p_MO 1)) cx fl_X8_108 ob_MO rfl rfl dX8_freeing_96 ?_
        refine k_icmp_ge (tgt := 122) cx dX8_freeing_99 (by decide) (fun hc => ?_) (fun hc => ?_)
        · replace h := h.1 hc
          refine k_iconst (v := (0 : Int32)) cx dX8_freeing_122 (by decide +kernel) ?_
          exact k_weak h (lsLe.keep (lsLe.keep (lsLe.keep (lsLe.keep (lsLe.keep (lsLe.keep (lsLe.keep (lsLe.keep lsLe.nil))))))))
        · replace h := h.2 hc
          refine k_aload_n cx dX8_freeing_102 rfl rfl ?_
          refine k_get (o := some p_MO_partNeed) (v := .ref p_MO_partNeed) cx fl_X8_32 ob_MO rfl rfl dX8_freeing_103 ?_
          refine k_iconst (v := (3 : Int32)) cx dX8_freeing_106 (by decide +kernel) ?_
          refine k_iload cx dX8_freeing_107 rfl ?_
          refine k_imul cx dX8_freeing_109 ?_
          refine k_iload cx dX8_freeing_110 rfl ?_
          refine k_iadd cx dX8_freeing_112 ?_
          obtain ⟨hi, h⟩ := h
          refine k_iald cx ar_MO_partNeed hi dX8_freeing_113 ?_
          refine k_iload_n cx dX8_freeing_114 rfl rfl ?_
          refine k_icmp_ge (tgt := 122) cx dX8_freeing_115 (by decide) (fun hc => ?_) (fun hc => ?_)
          · replace h := h.1 hc
            refine k_iconst (v := (0 : Int32)) cx dX8_freeing_122 (by decide +kernel) ?_
            exact k_weak h (lsLe.keep (lsLe.keep (lsLe.keep (lsLe.keep (lsLe.keep (lsLe.keep (lsLe.keep (lsLe.keep lsLe.nil))))))))
          · replace h := h.2 hc
            refine k_iconst (v := (1 : Int32)) cx dX8_freeing_118 (by decide +kernel) ?_
            refine k_goto (tgt := 123) cx dX8_freeing_119 (by decide) ?_
            exact k_weak h (lsLe.keep (lsLe.keep (lsLe.keep (lsLe.keep (lsLe.keep (lsLe.keep (lsLe.keep (lsLe.keep lsLe.nil))))))))
set_option maxHeartbeats 2000000 in
theorem b_X8_freeing_123  {g : GE} {f : FE} {q : Int32 → Mm → Prop} (cx : Cx g f cX8_freeing 8 RX8 6 146 0 0) (hr : (f_M f).sig.returnType = (some .int)) (hl : (f_M f).locks = false) (hQ : f_Q f = MQ (f_b f) (QW g (qI q)) (f_a f) (f_s f) 0 0 (fun q => g.2.2.2 ≤ q))  {x1 : Int32} {x2 : Int32} {x3 : Int32} {x4 : Int32} {x5 : Int32} {x6 : Int32} {y0 : Int32} {μ : Mm} (h : F_X8_freeing_123  (KK_X8_freeing_39 g f ) (KK_X8_freeing_123 g f ) q x1 x2 x3 x4 x5 x6 y0 μ) : KK_X8_freeing_123 g f  x1 x2 x3 x4 x5 x6 y0 μ := by
  unfold F_X8_freeing_123 at h
  show KW g f 8 0 0 123 [some (.ref p_MO), some (.int x1), some (.int x2), some (.int x3), some (.int x4), some (.int x5), some (.int x6), none] [.int y0] μ
  refine k_istore cx dX8_freeing_123 (by decide) ?_
  refine k_iload cx dX8_freeing_125 rfl ?_
  refine k_if_eq (tgt := 171) cx dX8_freeing_127 (by decide) (fun hc => ?_) (fun hc => ?_)
  · replace h := h.1 hc
    refine k_iinc (v := (x3 + (1 : Int32))) cx dX8_freeing_171 rfl rfl (by decide) ?_
    refine k_goto (tgt := 39) cx dX8_freeing_174 (by decide) ?_
    exact k_weak h (lsLe.keep (lsLe.keep (lsLe.keep (lsLe.keep (lsLe.drop (lsLe.drop (lsLe.drop (lsLe.drop lsLe.nil))))))))
  · replace h := h.2 hc
    refine k_aload_n cx dX8_freeing_130 rfl rfl ?_
    refine k_iload cx dX8_freeing_131 rfl ?_
    refine k_iload cx dX8_freeing_133 rfl ?_
    refine k_iload cx dX8_freeing_135 rfl ?_
    refine k_callV (As := [.int x4, .int x5, .int x6]) (rest := []) cx (m_X8_letsIn h) cv_X8_244 ob_MO rfl rfl rfl rfl (Nat.le_of_ble_eq_true rfl) ⟨Nat.le_of_ble_eq_true rfl, Nat.le_of_ble_eq_true rfl⟩ dX8_freeing_137 (fun v μ1 hq => ?_)
    obtain ⟨b2, rfl, h⟩ := hq
    refine k_if_eq (tgt := 171) cx dX8_freeing_140 (by decide) (fun hc => ?_) (fun hc => ?_)
    · replace h := h.1 hc
      refine k_iinc (v := (x3 + (1 : Int32))) cx dX8_freeing_171 rfl rfl (by decide) ?_
      refine k_goto (tgt := 39) cx dX8_freeing_174 (by decide) ?_
      exact k_weak h (lsLe.keep (lsLe.keep (lsLe.keep (lsLe.keep (lsLe.drop (lsLe.drop (lsLe.drop (lsLe.drop lsLe.nil))))))))
    · replace h := h.2 hc
      refine k_bipush (v := (100 : Int32)) cx dX8_freeing_143 (by decide +kernel) ?_
      refine k_iload cx dX8_freeing_145 rfl ?_
      refine k_imul cx dX8_freeing_147 ?_
      refine k_bipush (v := (10 : Int32)) cx dX8_freeing_148 (by decide +kernel) ?_
      refine k_iload cx dX8_freeing_150 rfl ?_
      refine k_imul cx dX8_freeing_152 ?_
      refine k_iadd cx dX8_freeing_153 ?_
      refine k_iload cx dX8_freeing_154 rfl ?_
      refine k_iadd cx dX8_freeing_156 ?_
      refine k_istore_n cx dX8_freeing_157 rfl (by decide) ?_
      refine k_aload_n cx dX8_freeing_158 rfl rfl ?_
      refine k_get (o := some p_MO_partNeed) (v := .ref p_MO_partNeed) cx fl_X8_32 ob_MO rfl rfl dX8_freeing_159 ?_
      refine k_iconst (v := (3 : Int32)) cx dX8_freeing_162 (by decide +kernel) ?_
      refine k_iload cx dX8_freeing_163 rfl ?_
      refine k_imul cx dX8_freeing_165 ?_
      refine k_iload cx dX8_freeing_166 rfl ?_
      refine k_iadd cx dX8_freeing_168 ?_
      obtain ⟨hi, h⟩ := h
      refine k_iald cx ar_MO_partNeed hi dX8_freeing_169 ?_
      refine k_istore_n cx dX8_freeing_170 rfl (by decide) ?_
      refine k_iinc (v := (x3 + (1 : Int32))) cx dX8_freeing_171 rfl rfl (by decide) ?_
      refine k_goto (tgt := 39) cx dX8_freeing_174 (by decide) ?_
      exact k_weak h (lsLe.keep (lsLe.keep (lsLe.keep (lsLe.keep (lsLe.drop (lsLe.drop (lsLe.drop (lsLe.drop lsLe.nil))))))))
set_option maxHeartbeats 2000000 in
theorem b_X8_freeing_e  {g : GE} {f : FE} {q : Int32 → Mm → Prop} (cx : Cx g f cX8_freeing 8 RX8 6 146 0 0) (hr : (f_M f).sig.returnType = (some .int)) (hl : (f_M f).locks = false) (hQ : f_Q f = MQ (f_b f) (QW g (qI q)) (f_a f) (f_s f) 0 0 (fun q => g.2.2.2 ≤ q))   {μ : Mm} (h : F_X8_freeing_e  (KK_X8_freeing_39 g f ) (KK_X8_freeing_123 g f ) q  μ) : KW g f 8 0 0 0 [some (.ref p_MO), none, none, none, none, none, none, none] [] μ := by
  unfold F_X8_freeing_e at h
  refine k_aload_n cx dX8_freeing_0 rfl rfl ?_
  refine k_iconst (v := (0 : Int32)) cx dX8_freeing_1 (by decide +kernel) ?_
  refine k_put cx fp_X8_104 ob_MO rfl rfl rfl dX8_freeing_2 ?_
  refine k_aload_n cx dX8_freeing_5 rfl rfl ?_
  refine k_callV (As := []) (rest := []) cx (m_X8_sumsRooms h) cv_X8_204 ob_MO rfl rfl rfl rfl (Nat.le_of_ble_eq_true rfl) ⟨Nat.le_of_ble_eq_true rfl, Nat.le_of_ble_eq_true rfl⟩ dX8_freeing_6 (fun v μ1 hq => ?_)
  obtain ⟨rfl, h⟩ := hq
  refine k_aload_n cx dX8_freeing_9 rfl rfl ?_
  refine k_get (o := some p_MO_parts) (v := .ref p_MO_parts) cx fl_X8_26 ob_MO rfl rfl dX8_freeing_10 ?_
  refine k_aload_n cx dX8_freeing_13 rfl rfl ?_
  refine k_get (o := none) (v := .int (μ1 p_MO 8)) cx fl_X8_118 ob_MO rfl rfl dX8_freeing_14 ?_
  obtain ⟨hi, h⟩ := h
  refine k_iald cx ar_MO_parts hi dX8_freeing_17 ?_
  refine k_if_eq (tgt := 30) cx dX8_freeing_18 (by decide) (fun hc => ?_) (fun hc => ?_)
  · replace h := h.1 hc
    refine k_iconst (v := (-1 : Int32)) cx dX8_freeing_30 (by decide +kernel) ?_
    exact k_ret_I cx hr hl hQ dX8_freeing_31 h
  · replace h := h.2 hc
    refine k_aload_n cx dX8_freeing_21 rfl rfl ?_
    refine k_iconst (v := (1 : Int32)) cx dX8_freeing_22 (by decide +kernel) ?_
    refine k_callV (As := [.int (1 : Int32)]) (rest := []) cx (m_X8_leastOf h) cv_X8_210 ob_MO rfl rfl rfl rfl (Nat.le_of_ble_eq_true rfl) ⟨Nat.le_of_ble_eq_true rfl, Nat.le_of_ble_eq_true rfl⟩ dX8_freeing_23 (fun v μ2 hq => ?_)
    obtain ⟨z3, rfl, h⟩ := hq
    refine k_iconst (v := (-1 : Int32)) cx dX8_freeing_26 (by decide +kernel) ?_
    refine k_icmp_eq (tgt := 32) cx dX8_freeing_27 (by decide) (fun hc => ?_) (fun hc => ?_)
    · replace h := h.1 hc
      refine k_iconst (v := (-1 : Int32)) cx dX8_freeing_32 (by decide +kernel) ?_
      refine k_istore_n cx dX8_freeing_33 rfl (by decide) ?_
      refine k_bipush (v := (99 : Int32)) cx dX8_freeing_34 (by decide +kernel) ?_
      refine k_istore_n cx dX8_freeing_36 rfl (by decide) ?_
      refine k_iconst (v := (0 : Int32)) cx dX8_freeing_37 (by decide +kernel) ?_
      refine k_istore_n cx dX8_freeing_38 rfl (by decide) ?_
      exact k_weak h (lsLe.keep (lsLe.keep (lsLe.keep (lsLe.keep (lsLe.keep (lsLe.keep (lsLe.keep (lsLe.keep lsLe.nil))))))))
    · replace h := h.2 hc
      refine k_iconst (v := (-1 : Int32)) cx dX8_freeing_30 (by decide +kernel) ?_
      exact k_ret_I cx hr hl hQ dX8_freeing_31 h
theorem m_X8_freeing {g : GE} {l : Launch} {μ : Mm} {q : Int32 → Mm → Prop}  (h : Wp_X8_freeing   μ q) : MW g l yX8_freeing cX8_freeing 8 (some .int) 6 146 [.ref p_MO] μ (qI q) := by
  refine met_of (by decide) (Nat.le_of_ble_eq_true rfl) (by intro v hv; simp only [List.mem_cons, List.not_mem_nil, or_false] at hv; subst hv; rfl) ?_
  intro f hfl cx hr hl hQ
  exact b_X8_freeing_e  cx hr hl hQ (h (KK_X8_freeing_39 g f ) (KK_X8_freeing_123 g f ) (fun _ _ _ _ h => b_X8_freeing_39  cx hr hl hQ h) (fun _ _ _ _ _ _ _ _ h => b_X8_freeing_123  cx hr hl hQ h))
theorem dX8_isWithin_0 : decode cX8_isWithin 0 = .ok (.iconst 1, 1) := by decide +kernel
theorem dX8_isWithin_1 : decode cX8_isWithin 1 = .ok (.istore_n 2, 1) := by decide +kernel
theorem dX8_isWithin_2 : decode cX8_isWithin 2 = .ok (.iconst 0, 1) := by decide +kernel
theorem dX8_isWithin_3 : decode cX8_isWithin 3 = .ok (.istore_n 3, 1) := by decide +kernel
theorem dX8_isWithin_4 : decode cX8_isWithin 4 = .ok (.iload_n 3, 1) := by decide +kernel
theorem dX8_isWithin_5 : decode cX8_isWithin 5 = .ok (.aload_n 0, 1) := by decide +kernel
theorem dX8_isWithin_6 : decode cX8_isWithin 6 = .ok (.getfield 115, 3) := by decide +kernel
theorem dX8_isWithin_9 : decode cX8_isWithin 9 = .ok (.if_icmp .ge 124, 3) := by decide +kernel
theorem dX8_isWithin_12 : decode cX8_isWithin 12 = .ok (.iload_n 1, 1) := by decide +kernel
theorem dX8_isWithin_13 : decode cX8_isWithin 13 = .ok (.iload_n 3, 1) := by decide +kernel
theorem dX8_isWithin_14 : decode cX8_isWithin 14 = .ok (.invokestatic 136, 3) := by decide +kernel
theorem dX8_isWithin_17 : decode cX8_isWithin 17 = .ok (.ifCond .eq 110, 3) := by decide +kernel
theorem dX8_isWithin_20 : decode cX8_isWithin 20 = .ok (.iconst 0, 1) := by decide +kernel
theorem dX8_isWithin_21 : decode cX8_isWithin 21 = .ok (.istore 4, 2) := by decide +kernel
theorem dX8_isWithin_23 : decode cX8_isWithin 23 = .ok (.iconst 3, 1) := by decide +kernel
theorem dX8_isWithin_24 : decode cX8_isWithin 24 = .ok (.aload_n 0, 1) := by decide +kernel
theorem dX8_isWithin_25 : decode cX8_isWithin 25 = .ok (.getfield 118, 3) := by decide +kernel
theorem dX8_isWithin_28 : decode cX8_isWithin 28 = .ok (.imul, 1) := by decide +kernel
theorem dX8_isWithin_29 : decode cX8_isWithin 29 = .ok (.istore 5, 2) := by decide +kernel
theorem dX8_isWithin_31 : decode cX8_isWithin 31 = .ok (.iload 5, 2) := by decide +kernel
theorem dX8_isWithin_33 : decode cX8_isWithin 33 = .ok (.iconst 3, 1) := by decide +kernel
theorem dX8_isWithin_34 : decode cX8_isWithin 34 = .ok (.aload_n 0, 1) := by decide +kernel
theorem dX8_isWithin_35 : decode cX8_isWithin 35 = .ok (.getfield 118, 3) := by decide +kernel
theorem dX8_isWithin_38 : decode cX8_isWithin 38 = .ok (.imul, 1) := by decide +kernel
theorem dX8_isWithin_39 : decode cX8_isWithin 39 = .ok (.aload_n 0, 1) := by decide +kernel
theorem dX8_isWithin_40 : decode cX8_isWithin 40 = .ok (.getfield 29, 3) := by decide +kernel
theorem dX8_isWithin_43 : decode cX8_isWithin 43 = .ok (.aload_n 0, 1) := by decide +kernel
theorem dX8_isWithin_44 : decode cX8_isWithin 44 = .ok (.getfield 118, 3) := by decide +kernel
theorem dX8_isWithin_47 : decode cX8_isWithin 47 = .ok (.iaload, 1) := by decide +kernel
theorem dX8_isWithin_48 : decode cX8_isWithin 48 = .ok (.iadd, 1) := by decide +kernel
theorem dX8_isWithin_49 : decode cX8_isWithin 49 = .ok (.if_icmp .ge 39, 3) := by decide +kernel
theorem dX8_isWithin_52 : decode cX8_isWithin 52 = .ok (.iload 4, 2) := by decide +kernel
theorem dX8_isWithin_54 : decode cX8_isWithin 54 = .ok (.aload_n 0, 1) := by decide +kernel
theorem dX8_isWithin_55 : decode cX8_isWithin 55 = .ok (.getfield 53, 3) := by decide +kernel
theorem dX8_isWithin_58 : decode cX8_isWithin 58 = .ok (.iload 5, 2) := by decide +kernel
theorem dX8_isWithin_60 : decode cX8_isWithin 60 = .ok (.iaload, 1) := by decide +kernel
theorem dX8_isWithin_61 : decode cX8_isWithin 61 = .ok (.iload_n 3, 1) := by decide +kernel
theorem dX8_isWithin_62 : decode cX8_isWithin 62 = .ok (.invokestatic 136, 3) := by decide +kernel
theorem dX8_isWithin_65 : decode cX8_isWithin 65 = .ok (.ifCond .eq 13, 3) := by decide +kernel
theorem dX8_isWithin_68 : decode cX8_isWithin 68 = .ok (.aload_n 0, 1) := by decide +kernel
theorem dX8_isWithin_69 : decode cX8_isWithin 69 = .ok (.getfield 47, 3) := by decide +kernel
theorem dX8_isWithin_72 : decode cX8_isWithin 72 = .ok (.iload 5, 2) := by decide +kernel
theorem dX8_isWithin_74 : decode cX8_isWithin 74 = .ok (.iaload, 1) := by decide +kernel
theorem dX8_isWithin_75 : decode cX8_isWithin 75 = .ok (.goto 4, 3) := by decide +kernel
theorem dX8_isWithin_78 : decode cX8_isWithin 78 = .ok (.iconst 0, 1) := by decide +kernel
theorem dX8_isWithin_79 : decode cX8_isWithin 79 = .ok (.iadd, 1) := by decide +kernel
theorem dX8_isWithin_80 : decode cX8_isWithin 80 = .ok (.istore 4, 2) := by decide +kernel
theorem dX8_isWithin_82 : decode cX8_isWithin 82 = .ok (.iinc 5 1, 3) := by decide +kernel
theorem dX8_isWithin_85 : decode cX8_isWithin 85 = .ok (.goto (-54), 3) := by decide +kernel
theorem dX8_isWithin_88 : decode cX8_isWithin 88 = .ok (.iload_n 2, 1) := by decide +kernel
theorem dX8_isWithin_89 : decode cX8_isWithin 89 = .ok (.ifCond .eq 36, 3) := by decide +kernel
theorem dX8_isWithin_92 : decode cX8_isWithin 92 = .ok (.aload_n 0, 1) := by decide +kernel
theorem dX8_isWithin_93 : decode cX8_isWithin 93 = .ok (.iload_n 3, 1) := by decide +kernel
theorem dX8_isWithin_94 : decode cX8_isWithin 94 = .ok (.aload_n 0, 1) := by decide +kernel
theorem dX8_isWithin_95 : decode cX8_isWithin 95 = .ok (.getfield 118, 3) := by decide +kernel
theorem dX8_isWithin_98 : decode cX8_isWithin 98 = .ok (.iconst 1, 1) := by decide +kernel
theorem dX8_isWithin_99 : decode cX8_isWithin 99 = .ok (.iadd, 1) := by decide +kernel
theorem dX8_isWithin_100 : decode cX8_isWithin 100 = .ok (.invokevirtual 150, 3) := by decide +kernel
theorem dX8_isWithin_103 : decode cX8_isWithin 103 = .ok (.aload_n 0, 1) := by decide +kernel
theorem dX8_isWithin_104 : decode cX8_isWithin 104 = .ok (.getfield 19, 3) := by decide +kernel
theorem dX8_isWithin_107 : decode cX8_isWithin 107 = .ok (.iload_n 3, 1) := by decide +kernel
theorem dX8_isWithin_108 : decode cX8_isWithin 108 = .ok (.iaload, 1) := by decide +kernel
theorem dX8_isWithin_109 : decode cX8_isWithin 109 = .ok (.aload_n 0, 1) := by decide +kernel
theorem dX8_isWithin_110 : decode cX8_isWithin 110 = .ok (.iload_n 3, 1) := by decide +kernel
theorem dX8_isWithin_111 : decode cX8_isWithin 111 = .ok (.invokevirtual 147, 3) := by decide +kernel
theorem dX8_isWithin_114 : decode cX8_isWithin 114 = .ok (.isub, 1) := by decide +kernel
theorem dX8_isWithin_115 : decode cX8_isWithin 115 = .ok (.iload 4, 2) := by decide +kernel
theorem dX8_isWithin_117 : decode cX8_isWithin 117 = .ok (.isub, 1) := by decide +kernel
theorem dX8_isWithin_118 : decode cX8_isWithin 118 = .ok (.if_icmp .gt 7, 3) := by decide +kernel
theorem dX8_isWithin_121 : decode cX8_isWithin 121 = .ok (.iconst 1, 1) := by decide +kernel
theorem dX8_isWithin_122 : decode cX8_isWithin 122 = .ok (.goto 4, 3) := by decide +kernel
theorem dX8_isWithin_125 : decode cX8_isWithin 125 = .ok (.iconst 0, 1) := by decide +kernel
theorem dX8_isWithin_126 : decode cX8_isWithin 126 = .ok (.istore_n 2, 1) := by decide +kernel
theorem dX8_isWithin_127 : decode cX8_isWithin 127 = .ok (.iinc 3 1, 3) := by decide +kernel
theorem dX8_isWithin_130 : decode cX8_isWithin 130 = .ok (.goto (-126), 3) := by decide +kernel
theorem dX8_isWithin_133 : decode cX8_isWithin 133 = .ok (.iload_n 2, 1) := by decide +kernel
theorem dX8_isWithin_134 : decode cX8_isWithin 134 = .ok (.ireturn, 1) := by decide +kernel
def F_X8_isWithin_4  (K4 : Int32 → Int32 → Int32 → Mm → Prop) (K31 : Int32 → Int32 → Int32 → Int32 → Int32 → Mm → Prop) (q : Bool → Mm → Prop) (x1 : Int32) (x2 : Int32) (x3 : Int32) (μ : Mm) : Prop :=
  (((μ p_MO 3) ≤ x3 → ∃ b : Bool, x2 = bI b ∧ q b μ) ∧ (¬ ((μ p_MO 3) ≤ x3) → Wp_X8_has x1 x3 μ (fun b2 μ1 => (((bI b2) = 0 → K4 x1 x2 (x3 + (1 : Int32)) μ1) ∧ (¬ ((bI b2) = 0) → K31 x1 x2 x3 (0 : Int32) ((3 : Int32) * (μ1 p_MO 8)) μ1)))))
def F_X8_isWithin_31  (K4 : Int32 → Int32 → Int32 → Mm → Prop) (K31 : Int32 → Int32 → Int32 → Int32 → Int32 → Mm → Prop) (q : Bool → Mm → Prop) (x1 : Int32) (x2 : Int32) (x3 : Int32) (x4 : Int32) (x5 : Int32) (μ : Mm) : Prop :=
  vp_in (μ p_MO 8) 13 ∧ (((((3 : Int32) * (μ p_MO 8)) + (μ p_MO_lines ((μ p_MO 8)).toNatClampNeg)) ≤ x5 → ((x2 = 0 → K4 x1 (0 : Int32) (x3 + (1 : Int32)) μ) ∧ (¬ (x2 = 0) → Wp_X8_reserved x3 ((μ p_MO 8) + (1 : Int32)) μ (fun z2 μ1 => vp_in x3 9 ∧ Wp_X8_needs x3 μ1 (fun z4 μ3 => (((((μ1 p_MO_linkRoom (x3).toNatClampNeg) - z4) - x4) < z2 → K4 x1 (0 : Int32) (x3 + (1 : Int32)) μ3) ∧ (¬ ((((μ1 p_MO_linkRoom (x3).toNatClampNeg) - z4) - x4) < z2) → K4 x1 (1 : Int32) (x3 + (1 : Int32)) μ3))))))) ∧ (¬ ((((3 : Int32) * (μ p_MO 8)) + (μ p_MO_lines ((μ p_MO 8)).toNatClampNeg)) ≤ x5) → vp_in x5 39 ∧ Wp_X8_has (μ p_MO_way (x5).toNatClampNeg) x3 μ (fun b6 μ5 => (((bI b6) = 0 → K31 x1 x2 x3 (x4 + (0 : Int32)) (x5 + (1 : Int32)) μ5) ∧ (¬ ((bI b6) = 0) → vp_in x5 39 ∧ K31 x1 x2 x3 (x4 + (μ5 p_MO_lineNeed (x5).toNatClampNeg)) (x5 + (1 : Int32)) μ5)))))
def F_X8_isWithin_e  (K4 : Int32 → Int32 → Int32 → Mm → Prop) (K31 : Int32 → Int32 → Int32 → Int32 → Int32 → Mm → Prop) (q : Bool → Mm → Prop) (x1 : Int32) (μ : Mm) : Prop :=
  K4 x1 (1 : Int32) (0 : Int32) μ
def Wp_X8_isWithin  (x1 : Int32) (μ : Mm) (q : Bool → Mm → Prop) : Prop := ∀ (K4 : Int32 → Int32 → Int32 → Mm → Prop) (K31 : Int32 → Int32 → Int32 → Int32 → Int32 → Mm → Prop), (∀ (x1 : Int32) (x2 : Int32) (x3 : Int32) (μ : Mm), F_X8_isWithin_4  K4 K31 q x1 x2 x3 μ → K4 x1 x2 x3 μ) → (∀ (x1 : Int32) (x2 : Int32) (x3 : Int32) (x4 : Int32) (x5 : Int32) (μ : Mm), F_X8_isWithin_31  K4 K31 q x1 x2 x3 x4 x5 μ → K31 x1 x2 x3 x4 x5 μ) → F_X8_isWithin_e  K4 K31 q x1 μ
abbrev KK_X8_isWithin_4 (g : GE) (f : FE)  : Int32 → Int32 → Int32 → Mm → Prop := fun x1 x2 x3 μ => KW g f 6 0 0 4 [some (.ref p_MO), some (.int x1), some (.int x2), some (.int x3), none, none] [] μ
abbrev KK_X8_isWithin_31 (g : GE) (f : FE)  : Int32 → Int32 → Int32 → Int32 → Int32 → Mm → Prop := fun x1 x2 x3 x4 x5 μ => KW g f 6 0 0 31 [some (.ref p_MO), some (.int x1), some (.int x2), some (.int x3), some (.int x4), some (.int x5)] [] μ
set_option maxHeartbeats 2000000 in
theorem b_X8_isWithin_4  {g : GE} {f : FE} {q : Bool → Mm → Prop} (cx : Cx g f cX8_isWithin 6 RX8 3 72 0 0) (hr : (f_M f).sig.returnType = (some .boolean)) (hl : (f_M f).locks = false) (hQ : f_Q f = MQ (f_b f) (QW g (qZ q)) (f_a f) (f_s f) 0 0 (fun q => g.2.2.2 ≤ q))  {x1 : Int32} {x2 : Int32} {x3 : Int32} {μ : Mm} (h : F_X8_isWithin_4  (KK_X8_isWithin_4 g f ) (KK_X8_isWithin_31 g f ) q x1 x2 x3 μ) : KK_X8_isWithin_4 g f  x1 x2 x3 μ := by
  unfold F_X8_isWithin_4 at h
  show KW g f 6 0 0 4 [some (.ref p_MO), some (.int x1), some (.int x2), some (.int x3), none, none] [] μ
  refine k_iload_n cx dX8_isWithin_4 rfl rfl ?_
  refine k_aload_n cx dX8_isWithin_5 rfl rfl ?_
  refine k_get (o := none) (v := .int (μ p_MO 3)) cx fl_X8_115 ob_MO rfl rfl dX8_isWithin_6 ?_
  refine k_icmp_ge (tgt := 133) cx dX8_isWithin_9 (by decide) (fun hc => ?_) (fun hc => ?_)
  · replace h := h.1 hc
    refine k_iload_n cx dX8_isWithin_133 rfl rfl ?_
    obtain ⟨b, hb, h⟩ := h
    exact k_ret_Z (b := b) cx hr hl hQ dX8_isWithin_134 hb h
  · replace h := h.2 hc
    refine k_iload_n cx dX8_isWithin_12 rfl rfl ?_
    refine k_iload_n cx dX8_isWithin_13 rfl rfl ?_
    refine k_callS (As := [.int x1, .int x3]) (rest := []) cx (m_X8_has h) cv_X8_136 rfl rfl (Nat.le_of_ble_eq_true rfl) ⟨Nat.le_of_ble_eq_true rfl, Nat.le_of_ble_eq_true rfl⟩ dX8_isWithin_14 (fun v μ1 hq => ?_)
    obtain ⟨b2, rfl, h⟩ := hq
    refine k_if_eq (tgt := 127) cx dX8_isWithin_17 (by decide) (fun hc => ?_) (fun hc => ?_)
    · replace h := h.1 hc
      refine k_iinc (v := (x3 + (1 : Int32))) cx dX8_isWithin_127 rfl rfl (by decide) ?_
      refine k_goto (tgt := 4) cx dX8_isWithin_130 (by decide) ?_
      exact k_weak h (lsLe.keep (lsLe.keep (lsLe.keep (lsLe.keep (lsLe.keep (lsLe.keep lsLe.nil))))))
    · replace h := h.2 hc
      refine k_iconst (v := (0 : Int32)) cx dX8_isWithin_20 (by decide +kernel) ?_
      refine k_istore cx dX8_isWithin_21 (by decide) ?_
      refine k_iconst (v := (3 : Int32)) cx dX8_isWithin_23 (by decide +kernel) ?_
      refine k_aload_n cx dX8_isWithin_24 rfl rfl ?_
      refine k_get (o := none) (v := .int (μ1 p_MO 8)) cx fl_X8_118 ob_MO rfl rfl dX8_isWithin_25 ?_
      refine k_imul cx dX8_isWithin_28 ?_
      refine k_istore cx dX8_isWithin_29 (by decide) ?_
      exact k_weak h (lsLe.keep (lsLe.keep (lsLe.keep (lsLe.keep (lsLe.keep (lsLe.keep lsLe.nil))))))
set_option maxHeartbeats 2000000 in
theorem b_X8_isWithin_31  {g : GE} {f : FE} {q : Bool → Mm → Prop} (cx : Cx g f cX8_isWithin 6 RX8 3 72 0 0) (hr : (f_M f).sig.returnType = (some .boolean)) (hl : (f_M f).locks = false) (hQ : f_Q f = MQ (f_b f) (QW g (qZ q)) (f_a f) (f_s f) 0 0 (fun q => g.2.2.2 ≤ q))  {x1 : Int32} {x2 : Int32} {x3 : Int32} {x4 : Int32} {x5 : Int32} {μ : Mm} (h : F_X8_isWithin_31  (KK_X8_isWithin_4 g f ) (KK_X8_isWithin_31 g f ) q x1 x2 x3 x4 x5 μ) : KK_X8_isWithin_31 g f  x1 x2 x3 x4 x5 μ := by
  unfold F_X8_isWithin_31 at h
  show KW g f 6 0 0 31 [some (.ref p_MO), some (.int x1), some (.int x2), some (.int x3), some (.int x4), some (.int x5)] [] μ
  refine k_iload cx dX8_isWithin_31 rfl ?_
  refine k_iconst (v := (3 : Int32)) cx dX8_isWithin_33 (by decide +kernel) ?_
  refine k_aload_n cx dX8_isWithin_34 rfl rfl ?_
  refine k_get (o := none) (v := .int (μ p_MO 8)) cx fl_X8_118 ob_MO rfl rfl dX8_isWithin_35 ?_
  refine k_imul cx dX8_isWithin_38 ?_
  refine k_aload_n cx dX8_isWithin_39 rfl rfl ?_
  refine k_get (o := some p_MO_lines) (v := .ref p_MO_lines) cx fl_X8_29 ob_MO rfl rfl dX8_isWithin_40 ?_
  refine k_aload_n cx dX8_isWithin_43 rfl rfl ?_
  refine k_get (o := none) (v := .int (μ p_MO 8)) cx fl_X8_118 ob_MO rfl rfl dX8_isWithin_44 ?_
  obtain ⟨hi, h⟩ := h
  refine k_iald cx ar_MO_lines hi dX8_isWithin_47 ?_
  refine k_iadd cx dX8_isWithin_48 ?_
  refine k_icmp_ge (tgt := 88) cx dX8_isWithin_49 (by decide) (fun hc => ?_) (fun hc => ?_)
  · replace h := h.1 hc
    refine k_iload_n cx dX8_isWithin_88 rfl rfl ?_
    refine k_if_eq (tgt := 125) cx dX8_isWithin_89 (by decide) (fun hc => ?_) (fun hc => ?_)
    · replace h := h.1 hc
      refine k_iconst (v := (0 : Int32)) cx dX8_isWithin_125 (by decide +kernel) ?_
      refine k_istore_n cx dX8_isWithin_126 rfl (by decide) ?_
      refine k_iinc (v := (x3 + (1 : Int32))) cx dX8_isWithin_127 rfl rfl (by decide) ?_
      refine k_goto (tgt := 4) cx dX8_isWithin_130 (by decide) ?_
      exact k_weak h (lsLe.keep (lsLe.keep (lsLe.keep (lsLe.keep (lsLe.drop (lsLe.drop lsLe.nil))))))
    · replace h := h.2 hc
      refine k_aload_n cx dX8_isWithin_92 rfl rfl ?_
      refine k_iload_n cx dX8_isWithin_93 rfl rfl ?_
      refine k_aload_n cx dX8_isWithin_94 rfl rfl ?_
      refine k_get (o := none) (v := .int (μ p_MO 8)) cx fl_X8_118 ob_MO rfl rfl dX8_isWithin_95 ?_
      refine k_iconst (v := (1 : Int32)) cx dX8_isWithin_98 (by decide +kernel) ?_
      refine k_iadd cx dX8_isWithin_99 ?_
      refine k_callV (As := [.int x3, .int ((μ p_MO 8) + (1 : Int32))]) (rest := []) cx (m_X8_reserved h) cv_X8_150 ob_MO rfl rfl rfl rfl (Nat.le_of_ble_eq_true rfl) ⟨Nat.le_of_ble_eq_true rfl, Nat.le_of_ble_eq_true rfl⟩ dX8_isWithin_100 (fun v μ1 hq => ?_)
      obtain ⟨z2, rfl, h⟩ := hq
      refine k_aload_n cx dX8_isWithin_103 rfl rfl ?_
      refine k_get (o := some p_MO_linkRoom) (v := .ref p_MO_linkRoom) cx fl_X8_19 ob_MO rfl rfl dX8_isWithin_104 ?_
      refine k_iload_n cx dX8_isWithin_107 rfl rfl ?_
      obtain ⟨hi, h⟩ := h
      refine k_iald cx ar_MO_linkRoom hi dX8_isWithin_108 ?_
      refine k_aload_n cx dX8_isWithin_109 rfl rfl ?_
      refine k_iload_n cx dX8_isWithin_110 rfl rfl ?_
      refine k_callV (As := [.int x3]) (rest := [.int (μ1 p_MO_linkRoom (x3).toNatClampNeg), .int z2]) cx (m_X8_needs h) cv_X8_147 ob_MO rfl rfl rfl rfl (Nat.le_of_ble_eq_true rfl) ⟨Nat.le_of_ble_eq_true rfl, Nat.le_of_ble_eq_true rfl⟩ dX8_isWithin_111 (fun v μ3 hq => ?_)
      obtain ⟨z4, rfl, h⟩ := hq
      refine k_isub cx dX8_isWithin_114 ?_
      refine k_iload cx dX8_isWithin_115 rfl ?_
      refine k_isub cx dX8_isWithin_117 ?_
      refine k_icmp_gt (tgt := 125) cx dX8_isWithin_118 (by decide) (fun hc => ?_) (fun hc => ?_)
      · replace h := h.1 hc
        refine k_iconst (v := (0 : Int32)) cx dX8_isWithin_125 (by decide +kernel) ?_
        refine k_istore_n cx dX8_isWithin_126 rfl (by decide) ?_
        refine k_iinc (v := (x3 + (1 : Int32))) cx dX8_isWithin_127 rfl rfl (by decide) ?_
        refine k_goto (tgt := 4) cx dX8_isWithin_130 (by decide) ?_
        exact k_weak h (lsLe.keep (lsLe.keep (lsLe.keep (lsLe.keep (lsLe.drop (lsLe.drop lsLe.nil))))))
      · replace h := h.2 hc
        refine k_iconst (v := (1 : Int32)) cx dX8_isWithin_121 (by decide +kernel) ?_
        refine k_goto (tgt := 126) cx dX8_isWithin_122 (by decide) ?_
        refine k_istore_n cx dX8_isWithin_126 rfl (by decide) ?_
        refine k_iinc (v := (x3 + (1 : Int32))) cx dX8_isWithin_127 rfl rfl (by decide) ?_
        refine k_goto (tgt := 4) cx dX8_isWithin_130 (by decide) ?_
        exact k_weak h (lsLe.keep (lsLe.keep (lsLe.keep (lsLe.keep (lsLe.drop (lsLe.drop lsLe.nil))))))
  · replace h := h.2 hc
    refine k_iload cx dX8_isWithin_52 rfl ?_
    refine k_aload_n cx dX8_isWithin_54 rfl rfl ?_
    refine k_get (o := some p_MO_way) (v := .ref p_MO_way) cx fl_X8_53 ob_MO rfl rfl dX8_isWithin_55 ?_
    refine k_iload cx dX8_isWithin_58 rfl ?_
    obtain ⟨hi, h⟩ := h
    refine k_iald cx ar_MO_way hi dX8_isWithin_60 ?_
    refine k_iload_n cx dX8_isWithin_61 rfl rfl ?_
    refine k_callS (As := [.int (μ p_MO_way (x5).toNatClampNeg), .int x3]) (rest := [.int x4]) cx (m_X8_has h) cv_X8_136 rfl rfl (Nat.le_of_ble_eq_true rfl) ⟨Nat.le_of_ble_eq_true rfl, Nat.le_of_ble_eq_true rfl⟩ dX8_isWithin_62 (fun v μ5 hq => ?_)
    obtain ⟨b6, rfl, h⟩ := hq
    refine k_if_eq (tgt := 78) cx dX8_isWithin_65 (by decide) (fun hc => ?_) (fun hc => ?_)
    · replace h := h.1 hc
      refine k_iconst (v := (0 : Int32)) cx dX8_isWithin_78 (by decide +kernel) ?_
      refine k_iadd cx dX8_isWithin_79 ?_
      refine k_istore cx dX8_isWithin_80 (by decide) ?_
      refine k_iinc (v := (x5 + (1 : Int32))) cx dX8_isWithin_82 rfl rfl (by decide) ?_
      refine k_goto (tgt := 31) cx dX8_isWithin_85 (by decide) ?_
      exact k_weak h (lsLe.keep (lsLe.keep (lsLe.keep (lsLe.keep (lsLe.keep (lsLe.keep lsLe.nil))))))
    · replace h := h.2 hc
      refine k_aload_n cx dX8_isWithin_68 rfl rfl ?_
      refine k_get (o := some p_MO_lineNeed) (v := .ref p_MO_lineNeed) cx fl_X8_47 ob_MO rfl rfl dX8_isWithin_69 ?_
      refine k_iload cx dX8_isWithin_72 rfl ?_
      obtain ⟨hi, h⟩ := h
      refine k_iald cx ar_MO_lineNeed hi dX8_isWithin_74 ?_
      refine k_goto (tgt := 79) cx dX8_isWithin_75 (by decide) ?_
      refine k_iadd cx dX8_isWithin_79 ?_
      refine k_istore cx dX8_isWithin_80 (by decide) ?_
      refine k_iinc (v := (x5 + (1 : Int32))) cx dX8_isWithin_82 rfl rfl (by decide) ?_
      refine k_goto (tgt := 31) cx dX8_isWithin_85 (by decide) ?_
      exact k_weak h (lsLe.keep (lsLe.keep (lsLe.keep (lsLe.keep (lsLe.keep (lsLe.keep lsLe.nil))))))
set_option maxHeartbeats 2000000 in
theorem b_X8_isWithin_e  {g : GE} {f : FE} {q : Bool → Mm → Prop} (cx : Cx g f cX8_isWithin 6 RX8 3 72 0 0) (hr : (f_M f).sig.returnType = (some .boolean)) (hl : (f_M f).locks = false) (hQ : f_Q f = MQ (f_b f) (QW g (qZ q)) (f_a f) (f_s f) 0 0 (fun q => g.2.2.2 ≤ q))  {x1 : Int32} {μ : Mm} (h : F_X8_isWithin_e  (KK_X8_isWithin_4 g f ) (KK_X8_isWithin_31 g f ) q x1 μ) : KW g f 6 0 0 0 [some (.ref p_MO), some (.int x1), none, none, none, none] [] μ := by
  unfold F_X8_isWithin_e at h
  refine k_iconst (v := (1 : Int32)) cx dX8_isWithin_0 (by decide +kernel) ?_
  refine k_istore_n cx dX8_isWithin_1 rfl (by decide) ?_
  refine k_iconst (v := (0 : Int32)) cx dX8_isWithin_2 (by decide +kernel) ?_
  refine k_istore_n cx dX8_isWithin_3 rfl (by decide) ?_
  exact k_weak h (lsLe.keep (lsLe.keep (lsLe.keep (lsLe.keep (lsLe.keep (lsLe.keep lsLe.nil))))))
theorem m_X8_isWithin {g : GE} {l : Launch} {μ : Mm} {q : Bool → Mm → Prop} {x1 : Int32}  (h : Wp_X8_isWithin  x1 μ q) : MW g l yX8_isWithin cX8_isWithin 6 (some .boolean) 3 72 [.ref p_MO, .int x1] μ (qZ q) := by
  refine met_of (by decide) (Nat.le_of_ble_eq_true rfl) (by intro v hv; simp only [List.mem_cons, List.not_mem_nil, or_false] at hv; rcases hv with rfl | rfl <;> rfl) ?_
  intro f hfl cx hr hl hQ
  exact b_X8_isWithin_e  cx hr hl hQ (h (KK_X8_isWithin_4 g f ) (KK_X8_isWithin_31 g f ) (fun _ _ _ _ h => b_X8_isWithin_4  cx hr hl hQ h) (fun _ _ _ _ _ _ h => b_X8_isWithin_31  cx hr hl hQ h))
theorem dX8_leastNow_0 : decode cX8_leastNow 0 = .ok (.aload_n 0, 1) := by decide +kernel
theorem dX8_leastNow_1 : decode cX8_leastNow 1 = .ok (.iconst 0, 1) := by decide +kernel
theorem dX8_leastNow_2 : decode cX8_leastNow 2 = .ok (.putfield 104, 3) := by decide +kernel
theorem dX8_leastNow_5 : decode cX8_leastNow 5 = .ok (.aload_n 0, 1) := by decide +kernel
theorem dX8_leastNow_6 : decode cX8_leastNow 6 = .ok (.invokevirtual 204, 3) := by decide +kernel
theorem dX8_leastNow_9 : decode cX8_leastNow 9 = .ok (.aload_n 0, 1) := by decide +kernel
theorem dX8_leastNow_10 : decode cX8_leastNow 10 = .ok (.iconst 0, 1) := by decide +kernel
theorem dX8_leastNow_11 : decode cX8_leastNow 11 = .ok (.invokevirtual 210, 3) := by decide +kernel
theorem dX8_leastNow_14 : decode cX8_leastNow 14 = .ok (.ireturn, 1) := by decide +kernel
def F_X8_leastNow_e   (q : Int32 → Mm → Prop)  (μ : Mm) : Prop :=
  Wp_X8_sumsRooms (up2 μ p_MO 35 (0 : Int32)) (fun μ1 => Wp_X8_leastOf (0 : Int32) μ1 (fun z3 μ2 => q z3 μ2))
def Wp_X8_leastNow   (μ : Mm) (q : Int32 → Mm → Prop) : Prop := F_X8_leastNow_e   q  μ
set_option maxHeartbeats 2000000 in
theorem b_X8_leastNow_e  {g : GE} {f : FE} {q : Int32 → Mm → Prop} (cx : Cx g f cX8_leastNow 1 RX8 5 113 0 0) (hr : (f_M f).sig.returnType = (some .int)) (hl : (f_M f).locks = false) (hQ : f_Q f = MQ (f_b f) (QW g (qI q)) (f_a f) (f_s f) 0 0 (fun q => g.2.2.2 ≤ q))   {μ : Mm} (h : F_X8_leastNow_e   q  μ) : KW g f 1 0 0 0 [some (.ref p_MO)] [] μ := by
  unfold F_X8_leastNow_e at h
  refine k_aload_n cx dX8_leastNow_0 rfl rfl ?_
  refine k_iconst (v := (0 : Int32)) cx dX8_leastNow_1 (by decide +kernel) ?_
  refine k_put cx fp_X8_104 ob_MO rfl rfl rfl dX8_leastNow_2 ?_
  refine k_aload_n cx dX8_leastNow_5 rfl rfl ?_
  refine k_callV (As := []) (rest := []) cx (m_X8_sumsRooms h) cv_X8_204 ob_MO rfl rfl rfl rfl (Nat.le_of_ble_eq_true rfl) ⟨Nat.le_of_ble_eq_true rfl, Nat.le_of_ble_eq_true rfl⟩ dX8_leastNow_6 (fun v μ1 hq => ?_)
  obtain ⟨rfl, h⟩ := hq
  refine k_aload_n cx dX8_leastNow_9 rfl rfl ?_
  refine k_iconst (v := (0 : Int32)) cx dX8_leastNow_10 (by decide +kernel) ?_
  refine k_callV (As := [.int (0 : Int32)]) (rest := []) cx (m_X8_leastOf h) cv_X8_210 ob_MO rfl rfl rfl rfl (Nat.le_of_ble_eq_true rfl) ⟨Nat.le_of_ble_eq_true rfl, Nat.le_of_ble_eq_true rfl⟩ dX8_leastNow_11 (fun v μ2 hq => ?_)
  obtain ⟨z3, rfl, h⟩ := hq
  exact k_ret_I cx hr hl hQ dX8_leastNow_14 h
theorem m_X8_leastNow {g : GE} {l : Launch} {μ : Mm} {q : Int32 → Mm → Prop}  (h : Wp_X8_leastNow   μ q) : MW g l yX8_leastNow cX8_leastNow 1 (some .int) 5 113 [.ref p_MO] μ (qI q) := by
  refine met_of (by decide) (Nat.le_of_ble_eq_true rfl) (by intro v hv; simp only [List.mem_cons, List.not_mem_nil, or_false] at hv; subst hv; rfl) ?_
  intro f hfl cx hr hl hQ
  exact b_X8_leastNow_e  cx hr hl hQ (h  )
theorem dX8_least_0 : decode cX8_least 0 = .ok (.aload_n 0, 1) := by decide +kernel
theorem dX8_least_1 : decode cX8_least 1 = .ok (.invokevirtual 262, 3) := by decide +kernel
theorem dX8_least_4 : decode cX8_least 4 = .ok (.ireturn, 1) := by decide +kernel
def F_X8_least_e   (q : Int32 → Mm → Prop)  (μ : Mm) : Prop :=
  Wp_X8_leastNow μ (fun z2 μ1 => q z2 μ1)
def Wp_X8_least   (μ : Mm) (q : Int32 → Mm → Prop) : Prop := F_X8_least_e   q  μ
set_option maxHeartbeats 2000000 in
theorem b_X8_least_e  {g : GE} {f : FE} {q : Int32 → Mm → Prop} (cx : Cx g f cX8_least 1 RX8 6 133 0 0) (hr : (f_M f).sig.returnType = (some .int)) (hl : (f_M f).locks = false) (hQ : f_Q f = MQ (f_b f) (QW g (qI q)) (f_a f) (f_s f) 0 0 (fun q => g.2.2.2 ≤ q))   {μ : Mm} (h : F_X8_least_e   q  μ) : KW g f 1 0 0 0 [some (.ref p_MO)] [] μ := by
  unfold F_X8_least_e at h
  refine k_aload_n cx dX8_least_0 rfl rfl ?_
  refine k_callV (As := []) (rest := []) cx (m_X8_leastNow h) cv_X8_262 ob_MO rfl rfl rfl rfl (Nat.le_of_ble_eq_true rfl) ⟨Nat.le_of_ble_eq_true rfl, Nat.le_of_ble_eq_true rfl⟩ dX8_least_1 (fun v μ1 hq => ?_)
  obtain ⟨z2, rfl, h⟩ := hq
  exact k_ret_I cx hr hl hQ dX8_least_4 h
theorem m_X8_least {g : GE} {l : Launch} {μ : Mm} {q : Int32 → Mm → Prop}  (h : Wp_X8_least   μ q) : MW g l yX8_least cX8_least 1 (some .int) 6 133 [.ref p_MO] μ (qI q) := by
  refine met_of (by decide) (Nat.le_of_ble_eq_true rfl) (by intro v hv; simp only [List.mem_cons, List.not_mem_nil, or_false] at hv; subst hv; rfl) ?_
  intro f hfl cx hr hl hQ
  exact b_X8_least_e  cx hr hl hQ (h  )
theorem dX8_leastAnew_0 : decode cX8_leastAnew 0 = .ok (.aload_n 0, 1) := by decide +kernel
theorem dX8_leastAnew_1 : decode cX8_leastAnew 1 = .ok (.invokevirtual 262, 3) := by decide +kernel
theorem dX8_leastAnew_4 : decode cX8_leastAnew 4 = .ok (.ireturn, 1) := by decide +kernel
def F_X8_leastAnew_e   (q : Int32 → Mm → Prop)  (μ : Mm) : Prop :=
  Wp_X8_leastNow μ (fun z2 μ1 => q z2 μ1)
def Wp_X8_leastAnew   (μ : Mm) (q : Int32 → Mm → Prop) : Prop := F_X8_leastAnew_e   q  μ
set_option maxHeartbeats 2000000 in
theorem b_X8_leastAnew_e  {g : GE} {f : FE} {q : Int32 → Mm → Prop} (cx : Cx g f cX8_leastAnew 1 RX8 6 133 0 0) (hr : (f_M f).sig.returnType = (some .int)) (hl : (f_M f).locks = false) (hQ : f_Q f = MQ (f_b f) (QW g (qI q)) (f_a f) (f_s f) 0 0 (fun q => g.2.2.2 ≤ q))   {μ : Mm} (h : F_X8_leastAnew_e   q  μ) : KW g f 1 0 0 0 [some (.ref p_MO)] [] μ := by
  unfold F_X8_leastAnew_e at h
  refine k_aload_n cx dX8_leastAnew_0 rfl rfl ?_
  refine k_callV (As := []) (rest := []) cx (m_X8_leastNow h) cv_X8_262 ob_MO rfl rfl rfl rfl (Nat.le_of_ble_eq_true rfl) ⟨Nat.le_of_ble_eq_true rfl, Nat.le_of_ble_eq_true rfl⟩ dX8_leastAnew_1 (fun v μ1 hq => ?_)
  obtain ⟨z2, rfl, h⟩ := hq
  exact k_ret_I cx hr hl hQ dX8_leastAnew_4 h
theorem m_X8_leastAnew {g : GE} {l : Launch} {μ : Mm} {q : Int32 → Mm → Prop}  (h : Wp_X8_leastAnew   μ q) : MW g l yX8_leastAnew cX8_leastAnew 1 (some .int) 6 133 [.ref p_MO] μ (qI q) := by
  refine met_of (by decide) (Nat.le_of_ble_eq_true rfl) (by intro v hv; simp only [List.mem_cons, List.not_mem_nil, or_false] at hv; subst hv; rfl) ?_
  intro f hfl cx hr hl hQ
  exact b_X8_leastAnew_e  cx hr hl hQ (h  )
