theorem dX4_lodge_0 : decode cX4_lodge 0 = .ok (.aload_n 0, 1) := by decide +kernel
theorem dX4_lodge_1 : decode cX4_lodge 1 = .ok (.getfield 19, 3) := by decide +kernel
theorem dX4_lodge_4 : decode cX4_lodge 4 = .ok (.aload_n 1, 1) := by decide +kernel
theorem dX4_lodge_5 : decode cX4_lodge 5 = .ok (.iconst 0, 1) := by decide +kernel
theorem dX4_lodge_6 : decode cX4_lodge 6 = .ok (.invokevirtual 34, 3) := by decide +kernel
theorem dX4_lodge_9 : decode cX4_lodge 9 = .ok (.iconst (-1), 1) := by decide +kernel
theorem dX4_lodge_10 : decode cX4_lodge 10 = .ok (.if_icmp .eq 7, 3) := by decide +kernel
theorem dX4_lodge_13 : decode cX4_lodge 13 = .ok (.iconst 1, 1) := by decide +kernel
theorem dX4_lodge_14 : decode cX4_lodge 14 = .ok (.goto 4, 3) := by decide +kernel
theorem dX4_lodge_17 : decode cX4_lodge 17 = .ok (.iconst 0, 1) := by decide +kernel
theorem dX4_lodge_18 : decode cX4_lodge 18 = .ok (.istore_n 3, 1) := by decide +kernel
theorem dX4_lodge_19 : decode cX4_lodge 19 = .ok (.iload_n 3, 1) := by decide +kernel
theorem dX4_lodge_20 : decode cX4_lodge 20 = .ok (.ifCond .eq 14, 3) := by decide +kernel
theorem dX4_lodge_23 : decode cX4_lodge 23 = .ok (.aload_n 0, 1) := by decide +kernel
theorem dX4_lodge_24 : decode cX4_lodge 24 = .ok (.getfield 19, 3) := by decide +kernel
theorem dX4_lodge_27 : decode cX4_lodge 27 = .ok (.aload_n 1, 1) := by decide +kernel
theorem dX4_lodge_28 : decode cX4_lodge 28 = .ok (.invokevirtual 38, 3) := by decide +kernel
theorem dX4_lodge_31 : decode cX4_lodge 31 = .ok (.goto 18, 3) := by decide +kernel
theorem dX4_lodge_34 : decode cX4_lodge 34 = .ok (.iload_n 2, 1) := by decide +kernel
theorem dX4_lodge_35 : decode cX4_lodge 35 = .ok (.iconst 1, 1) := by decide +kernel
theorem dX4_lodge_36 : decode cX4_lodge 36 = .ok (.if_icmp .ne 11, 3) := by decide +kernel
theorem dX4_lodge_39 : decode cX4_lodge 39 = .ok (.aload_n 0, 1) := by decide +kernel
theorem dX4_lodge_40 : decode cX4_lodge 40 = .ok (.aload_n 1, 1) := by decide +kernel
theorem dX4_lodge_41 : decode cX4_lodge 41 = .ok (.invokevirtual 42, 3) := by decide +kernel
theorem dX4_lodge_44 : decode cX4_lodge 44 = .ok (.ifCond .ne 5, 3) := by decide +kernel
theorem dX4_lodge_47 : decode cX4_lodge 47 = .ok (.iconst 0, 1) := by decide +kernel
theorem dX4_lodge_48 : decode cX4_lodge 48 = .ok (.ireturn, 1) := by decide +kernel
theorem dX4_lodge_49 : decode cX4_lodge 49 = .ok (.aload_n 0, 1) := by decide +kernel
theorem dX4_lodge_50 : decode cX4_lodge 50 = .ok (.getfield 15, 3) := by decide +kernel
theorem dX4_lodge_53 : decode cX4_lodge 53 = .ok (.aload_n 1, 1) := by decide +kernel
theorem dX4_lodge_54 : decode cX4_lodge 54 = .ok (.iconst 1, 1) := by decide +kernel
theorem dX4_lodge_55 : decode cX4_lodge 55 = .ok (.invokevirtual 46, 3) := by decide +kernel
theorem dX4_lodge_58 : decode cX4_lodge 58 = .ok (.iload_n 2, 1) := by decide +kernel
theorem dX4_lodge_59 : decode cX4_lodge 59 = .ok (.iconst 2, 1) := by decide +kernel
theorem dX4_lodge_60 : decode cX4_lodge 60 = .ok (.if_icmp .ne 11, 3) := by decide +kernel
theorem dX4_lodge_63 : decode cX4_lodge 63 = .ok (.aload_n 0, 1) := by decide +kernel
theorem dX4_lodge_64 : decode cX4_lodge 64 = .ok (.aload_n 1, 1) := by decide +kernel
theorem dX4_lodge_65 : decode cX4_lodge 65 = .ok (.invokevirtual 52, 3) := by decide +kernel
theorem dX4_lodge_68 : decode cX4_lodge 68 = .ok (.ifCond .eq 5, 3) := by decide +kernel
theorem dX4_lodge_71 : decode cX4_lodge 71 = .ok (.iconst 1, 1) := by decide +kernel
theorem dX4_lodge_72 : decode cX4_lodge 72 = .ok (.ireturn, 1) := by decide +kernel
theorem dX4_lodge_73 : decode cX4_lodge 73 = .ok (.aload_n 0, 1) := by decide +kernel
theorem dX4_lodge_74 : decode cX4_lodge 74 = .ok (.getfield 15, 3) := by decide +kernel
theorem dX4_lodge_77 : decode cX4_lodge 77 = .ok (.aload_n 1, 1) := by decide +kernel
theorem dX4_lodge_78 : decode cX4_lodge 78 = .ok (.iconst (-1), 1) := by decide +kernel
theorem dX4_lodge_79 : decode cX4_lodge 79 = .ok (.invokevirtual 46, 3) := by decide +kernel
theorem dX4_lodge_82 : decode cX4_lodge 82 = .ok (.iconst 0, 1) := by decide +kernel
theorem dX4_lodge_83 : decode cX4_lodge 83 = .ok (.ireturn, 1) := by decide +kernel
def F_X4_lodge_18 (p1 : Nat) (K18 : Int32 → Int32 → Mm → Prop) (K49 : Int32 → Mm → Prop) (q : Bool → Mm → Prop) (x2 : Int32) (y0 : Int32) (μ : Mm) : Prop :=
  ((y0 = 0 → ((¬ (x2 = (1 : Int32)) → q false μ) ∧ (x2 = (1 : Int32) → Wp_X4_mapSplit p1 μ (fun b2 μ1 => ((¬ ((bI b2) = 0) → K49 x2 μ1) ∧ ((bI b2) = 0 → q false μ1)))))) ∧ (¬ (y0 = 0) → Wp_X6_handOver p1 μ (fun μ3 => K49 x2 μ3)))
def F_X4_lodge_49 (p1 : Nat) (K18 : Int32 → Int32 → Mm → Prop) (K49 : Int32 → Mm → Prop) (q : Bool → Mm → Prop) (x2 : Int32) (μ : Mm) : Prop :=
  Wp_X0_enter p1 (1 : Int32) μ (fun μ1 => ((¬ (x2 = (2 : Int32)) → q true μ1) ∧ (x2 = (2 : Int32) → Wp_X4_secure p1 μ1 (fun b3 μ2 => (((bI b3) = 0 → Wp_X0_enter p1 (-1 : Int32) μ2 (fun μ4 => q false μ4)) ∧ (¬ ((bI b3) = 0) → q true μ2))))))
def F_X4_lodge_e (p1 : Nat) (K18 : Int32 → Int32 → Mm → Prop) (K49 : Int32 → Mm → Prop) (q : Bool → Mm → Prop) (x2 : Int32) (μ : Mm) : Prop :=
  Wp_X6_run p1 (0 : Int32) μ (fun z2 μ1 => ((z2 = (-1 : Int32) → K18 x2 (0 : Int32) μ1) ∧ (¬ (z2 = (-1 : Int32)) → K18 x2 (1 : Int32) μ1)))
def Wp_X4_lodge (p1 : Nat) (x2 : Int32) (μ : Mm) (q : Bool → Mm → Prop) : Prop := ∀ (K18 : Int32 → Int32 → Mm → Prop) (K49 : Int32 → Mm → Prop), (∀ (x2 : Int32) (y0 : Int32) (μ : Mm), F_X4_lodge_18 p1 K18 K49 q x2 y0 μ → K18 x2 y0 μ) → (∀ (x2 : Int32) (μ : Mm), F_X4_lodge_49 p1 K18 K49 q x2 μ → K49 x2 μ) → F_X4_lodge_e p1 K18 K49 q x2 μ
abbrev KK_X4_lodge_18 (g : GE) (f : FE) (p1 : Nat) : Int32 → Int32 → Mm → Prop := fun x2 y0 μ => KW g f 4 0 0 18 [some (.ref p_PL), some (.ref p1), some (.int x2), none] [.int y0] μ
abbrev KK_X4_lodge_49 (g : GE) (f : FE) (p1 : Nat) : Int32 → Mm → Prop := fun x2 μ => KW g f 4 0 0 49 [some (.ref p_PL), some (.ref p1), some (.int x2), none] [] μ
set_option maxHeartbeats 2000000 in
theorem b_X4_lodge_18 {p1 : Nat} (h_p1 : isReq p1) {g : GE} {f : FE} {q : Bool → Mm → Prop} (cx : Cx g f cX4_lodge 4 RX4 8 218 0 0) (hr : (f_M f).sig.returnType = (some .boolean)) (hl : (f_M f).locks = false) (hQ : f_Q f = MQ (f_b f) (QW g (qZ q)) (f_a f) (f_s f) 0 0 (fun q => g.2.2.2.1 ≤ q))  {x2 : Int32} {y0 : Int32} {μ : Mm} (h : F_X4_lodge_18 p1 (KK_X4_lodge_18 g f p1) (KK_X4_lodge_49 g f p1) q x2 y0 μ) : KK_X4_lodge_18 g f p1 x2 y0 μ := by
  unfold F_X4_lodge_18 at h
  show KW g f 4 0 0 18 [some (.ref p_PL), some (.ref p1), some (.int x2), none] [.int y0] μ
  refine k_istore_n cx dX4_lodge_18 rfl (by decide) ?_
  refine k_iload_n cx dX4_lodge_19 rfl rfl ?_
  refine k_if_eq (tgt := 34) cx dX4_lodge_20 (by decide) (fun hc => ?_) (fun hc => ?_)
  · replace h := h.1 hc
    refine k_iload_n cx dX4_lodge_34 rfl rfl ?_
    refine k_iconst (v := (1 : Int32)) cx dX4_lodge_35 (by decide +kernel) ?_
    refine k_icmp_ne (tgt := 47) cx dX4_lodge_36 (by decide) (fun hc => ?_) (fun hc => ?_)
    · replace h := h.1 hc
      refine k_iconst (v := (0 : Int32)) cx dX4_lodge_47 (by decide +kernel) ?_
      exact k_ret_Z (b := false) cx hr hl hQ dX4_lodge_48 rfl h
    · replace h := h.2 hc
      refine k_aload_n cx dX4_lodge_39 rfl rfl ?_
      refine k_aload_n cx dX4_lodge_40 rfl rfl ?_
      refine k_callV (As := [.ref p1]) (rest := []) cx (m_X4_mapSplit h_p1 h) cv_X4_42 ob_PL rfl rfl rfl rfl (Nat.le_of_ble_eq_true rfl) ⟨Nat.le_of_ble_eq_true rfl, Nat.le_of_ble_eq_true rfl⟩ dX4_lodge_41 (fun v μ1 hq => ?_)
      obtain ⟨b2, rfl, h⟩ := hq
      refine k_if_ne (tgt := 49) cx dX4_lodge_44 (by decide) (fun hc => ?_) (fun hc => ?_)
      · replace h := h.1 hc
        exact k_weak h (lsLe.keep (lsLe.keep (lsLe.keep (lsLe.drop lsLe.nil))))
      · replace h := h.2 hc
        refine k_iconst (v := (0 : Int32)) cx dX4_lodge_47 (by decide +kernel) ?_
        exact k_ret_Z (b := false) cx hr hl hQ dX4_lodge_48 rfl h
  · replace h := h.2 hc
    refine k_aload_n cx dX4_lodge_23 rfl rfl ?_
    refine k_get (o := some p_SE) (v := .ref p_SE) cx fl_X4_19 ob_PL rfl rfl dX4_lodge_24 ?_
    refine k_aload_n cx dX4_lodge_27 rfl rfl ?_
    refine k_callV (As := [.ref p1]) (rest := []) cx (m_X6_handOver h_p1 h) cv_X4_38 ob_SE rfl rfl rfl rfl (Nat.le_of_ble_eq_true rfl) ⟨Nat.le_of_ble_eq_true rfl, Nat.le_of_ble_eq_true rfl⟩ dX4_lodge_28 (fun v μ3 hq => ?_)
    obtain ⟨rfl, h⟩ := hq
    refine k_goto (tgt := 49) cx dX4_lodge_31 (by decide) ?_
    exact k_weak h (lsLe.keep (lsLe.keep (lsLe.keep (lsLe.drop lsLe.nil))))
set_option maxHeartbeats 2000000 in
theorem b_X4_lodge_49 {p1 : Nat} (h_p1 : isReq p1) {g : GE} {f : FE} {q : Bool → Mm → Prop} (cx : Cx g f cX4_lodge 4 RX4 8 218 0 0) (hr : (f_M f).sig.returnType = (some .boolean)) (hl : (f_M f).locks = false) (hQ : f_Q f = MQ (f_b f) (QW g (qZ q)) (f_a f) (f_s f) 0 0 (fun q => g.2.2.2.1 ≤ q))  {x2 : Int32} {μ : Mm} (h : F_X4_lodge_49 p1 (KK_X4_lodge_18 g f p1) (KK_X4_lodge_49 g f p1) q x2 μ) : KK_X4_lodge_49 g f p1 x2 μ := by
  unfold F_X4_lodge_49 at h
  show KW g f 4 0 0 49 [some (.ref p_PL), some (.ref p1), some (.int x2), none] [] μ
  refine k_aload_n cx dX4_lodge_49 rfl rfl ?_
  refine k_get (o := some p_BK) (v := .ref p_BK) cx fl_X4_15 ob_PL rfl rfl dX4_lodge_50 ?_
  refine k_aload_n cx dX4_lodge_53 rfl rfl ?_
  refine k_iconst (v := (1 : Int32)) cx dX4_lodge_54 (by decide +kernel) ?_
  refine k_callV (As := [.ref p1, .int (1 : Int32)]) (rest := []) cx (m_X0_enter h_p1 h) cv_X4_46 ob_BK rfl rfl rfl rfl (Nat.le_of_ble_eq_true rfl) ⟨Nat.le_of_ble_eq_true rfl, Nat.le_of_ble_eq_true rfl⟩ dX4_lodge_55 (fun v μ1 hq => ?_)
  obtain ⟨rfl, h⟩ := hq
  refine k_iload_n cx dX4_lodge_58 rfl rfl ?_
  refine k_iconst (v := (2 : Int32)) cx dX4_lodge_59 (by decide +kernel) ?_
  refine k_icmp_ne (tgt := 71) cx dX4_lodge_60 (by decide) (fun hc => ?_) (fun hc => ?_)
  · replace h := h.1 hc
    refine k_iconst (v := (1 : Int32)) cx dX4_lodge_71 (by decide +kernel) ?_
    exact k_ret_Z (b := true) cx hr hl hQ dX4_lodge_72 rfl h
  · replace h := h.2 hc
    refine k_aload_n cx dX4_lodge_63 rfl rfl ?_
    refine k_aload_n cx dX4_lodge_64 rfl rfl ?_
    refine k_callV (As := [.ref p1]) (rest := []) cx (m_X4_secure h_p1 h) cv_X4_52 ob_PL rfl rfl rfl rfl (Nat.le_of_ble_eq_true rfl) ⟨Nat.le_of_ble_eq_true rfl, Nat.le_of_ble_eq_true rfl⟩ dX4_lodge_65 (fun v μ2 hq => ?_)
    obtain ⟨b3, rfl, h⟩ := hq
    refine k_if_eq (tgt := 73) cx dX4_lodge_68 (by decide) (fun hc => ?_) (fun hc => ?_)
    · replace h := h.1 hc
      refine k_aload_n cx dX4_lodge_73 rfl rfl ?_
      refine k_get (o := some p_BK) (v := .ref p_BK) cx fl_X4_15 ob_PL rfl rfl dX4_lodge_74 ?_
      refine k_aload_n cx dX4_lodge_77 rfl rfl ?_
      refine k_iconst (v := (-1 : Int32)) cx dX4_lodge_78 (by decide +kernel) ?_
      refine k_callV (As := [.ref p1, .int (-1 : Int32)]) (rest := []) cx (m_X0_enter h_p1 h) cv_X4_46 ob_BK rfl rfl rfl rfl (Nat.le_of_ble_eq_true rfl) ⟨Nat.le_of_ble_eq_true rfl, Nat.le_of_ble_eq_true rfl⟩ dX4_lodge_79 (fun v μ4 hq => ?_)
      obtain ⟨rfl, h⟩ := hq
      refine k_iconst (v := (0 : Int32)) cx dX4_lodge_82 (by decide +kernel) ?_
      exact k_ret_Z (b := false) cx hr hl hQ dX4_lodge_83 rfl h
    · replace h := h.2 hc
      refine k_iconst (v := (1 : Int32)) cx dX4_lodge_71 (by decide +kernel) ?_
      exact k_ret_Z (b := true) cx hr hl hQ dX4_lodge_72 rfl h
set_option maxHeartbeats 2000000 in
theorem b_X4_lodge_e {p1 : Nat} (h_p1 : isReq p1) {g : GE} {f : FE} {q : Bool → Mm → Prop} (cx : Cx g f cX4_lodge 4 RX4 8 218 0 0) (hr : (f_M f).sig.returnType = (some .boolean)) (hl : (f_M f).locks = false) (hQ : f_Q f = MQ (f_b f) (QW g (qZ q)) (f_a f) (f_s f) 0 0 (fun q => g.2.2.2.1 ≤ q))  {x2 : Int32} {μ : Mm} (h : F_X4_lodge_e p1 (KK_X4_lodge_18 g f p1) (KK_X4_lodge_49 g f p1) q x2 μ) : KW g f 4 0 0 0 [some (.ref p_PL), some (.ref p1), some (.int x2), none] [] μ := by
  unfold F_X4_lodge_e at h
  refine k_aload_n cx dX4_lodge_0 rfl rfl ?_
  refine k_get (o := some p_SE) (v := .ref p_SE) cx fl_X4_19 ob_PL rfl rfl dX4_lodge_1 ?_
  refine k_aload_n cx dX4_lodge_4 rfl rfl ?_
  refine k_iconst (v := (0 : Int32)) cx dX4_lodge_5 (by decide +kernel) ?_
  refine k_callV (As := [.ref p1, .int (0 : Int32)]) (rest := []) cx (m_X6_run h_p1 h) cv_X4_34 ob_SE rfl rfl rfl rfl (Nat.le_of_ble_eq_true rfl) ⟨Nat.le_of_ble_eq_true rfl, Nat.le_of_ble_eq_true rfl⟩ dX4_lodge_6 (fun v μ1 hq => ?_)
  obtain ⟨z2, rfl, h⟩ := hq
  refine k_iconst (v := (-1 : Int32)) cx dX4_lodge_9 (by decide +kernel) ?_
  refine k_icmp_eq (tgt := 17) cx dX4_lodge_10 (by decide) (fun hc => ?_) (fun hc => ?_)
  · replace h := h.1 hc
    refine k_iconst (v := (0 : Int32)) cx dX4_lodge_17 (by decide +kernel) ?_
    exact k_weak h (lsLe.keep (lsLe.keep (lsLe.keep (lsLe.keep lsLe.nil))))
  · replace h := h.2 hc
    refine k_iconst (v := (1 : Int32)) cx dX4_lodge_13 (by decide +kernel) ?_
    refine k_goto (tgt := 18) cx dX4_lodge_14 (by decide) ?_
    exact k_weak h (lsLe.keep (lsLe.keep (lsLe.keep (lsLe.keep lsLe.nil))))
theorem m_X4_lodge {g : GE} {l : Launch} {μ : Mm} {q : Bool → Mm → Prop} {p1 : Nat} {x2 : Int32} (h_p1 : isReq p1) (h : Wp_X4_lodge p1 x2 μ q) : MW g l yX4_lodge cX4_lodge 4 (some .boolean) 8 218 [.ref p_PL, .ref p1, .int x2] μ (qZ q) := by
  refine met_of (by decide) (Nat.le_of_ble_eq_true rfl) (by intro v hv; simp only [List.mem_cons, List.not_mem_nil, or_false] at hv; rcases hv with rfl | rfl | rfl <;> rfl) ?_
  intro f hfl cx hr hl hQ
  exact b_X4_lodge_e h_p1 cx hr hl hQ (h (KK_X4_lodge_18 g f p1) (KK_X4_lodge_49 g f p1) (fun _ _ _ h => b_X4_lodge_18 h_p1 cx hr hl hQ h) (fun _ _ h => b_X4_lodge_49 h_p1 cx hr hl hQ h))
theorem dX5_addLine_0 : decode cX5_addLine 0 = .ok (.aload_n 0, 1) := by decide +kernel
theorem dX5_addLine_1 : decode cX5_addLine 1 = .ok (.getfield 21, 3) := by decide +kernel
theorem dX5_addLine_4 : decode cX5_addLine 4 = .ok (.aload_n 0, 1) := by decide +kernel
theorem dX5_addLine_5 : decode cX5_addLine 5 = .ok (.getfield 46, 3) := by decide +kernel
theorem dX5_addLine_8 : decode cX5_addLine 8 = .ok (.iload_n 1, 1) := by decide +kernel
theorem dX5_addLine_9 : decode cX5_addLine 9 = .ok (.iastore, 1) := by decide +kernel
theorem dX5_addLine_10 : decode cX5_addLine 10 = .ok (.aload_n 0, 1) := by decide +kernel
theorem dX5_addLine_11 : decode cX5_addLine 11 = .ok (.getfield 24, 3) := by decide +kernel
theorem dX5_addLine_14 : decode cX5_addLine 14 = .ok (.aload_n 0, 1) := by decide +kernel
theorem dX5_addLine_15 : decode cX5_addLine 15 = .ok (.getfield 46, 3) := by decide +kernel
theorem dX5_addLine_18 : decode cX5_addLine 18 = .ok (.iload_n 2, 1) := by decide +kernel
theorem dX5_addLine_19 : decode cX5_addLine 19 = .ok (.iastore, 1) := by decide +kernel
theorem dX5_addLine_20 : decode cX5_addLine 20 = .ok (.aload_n 0, 1) := by decide +kernel
theorem dX5_addLine_21 : decode cX5_addLine 21 = .ok (.getfield 27, 3) := by decide +kernel
theorem dX5_addLine_24 : decode cX5_addLine 24 = .ok (.aload_n 0, 1) := by decide +kernel
theorem dX5_addLine_25 : decode cX5_addLine 25 = .ok (.getfield 46, 3) := by decide +kernel
theorem dX5_addLine_28 : decode cX5_addLine 28 = .ok (.iload_n 3, 1) := by decide +kernel
theorem dX5_addLine_29 : decode cX5_addLine 29 = .ok (.iastore, 1) := by decide +kernel
theorem dX5_addLine_30 : decode cX5_addLine 30 = .ok (.aload_n 0, 1) := by decide +kernel
theorem dX5_addLine_31 : decode cX5_addLine 31 = .ok (.dup, 1) := by decide +kernel
theorem dX5_addLine_32 : decode cX5_addLine 32 = .ok (.getfield 46, 3) := by decide +kernel
theorem dX5_addLine_35 : decode cX5_addLine 35 = .ok (.iconst 1, 1) := by decide +kernel
theorem dX5_addLine_36 : decode cX5_addLine 36 = .ok (.iadd, 1) := by decide +kernel
theorem dX5_addLine_37 : decode cX5_addLine 37 = .ok (.putfield 46, 3) := by decide +kernel
theorem dX5_addLine_40 : decode cX5_addLine 40 = .ok (.aload_n 0, 1) := by decide +kernel
theorem dX5_addLine_41 : decode cX5_addLine 41 = .ok (.getfield 46, 3) := by decide +kernel
theorem dX5_addLine_44 : decode cX5_addLine 44 = .ok (.iconst 1, 1) := by decide +kernel
theorem dX5_addLine_45 : decode cX5_addLine 45 = .ok (.isub, 1) := by decide +kernel
theorem dX5_addLine_46 : decode cX5_addLine 46 = .ok (.ireturn, 1) := by decide +kernel
def F_X5_addLine_e (p0 : Nat)  (q : Int32 → Mm → Prop) (x1 : Int32) (x2 : Int32) (x3 : Int32) (μ : Mm) : Prop :=
  vp_in (μ p0 11) 3 ∧ vp_in ((up2 μ (p0 + 4) ((μ p0 11)).toNatClampNeg x1) p0 11) 3 ∧ vp_in ((up2 (up2 μ (p0 + 4) ((μ p0 11)).toNatClampNeg x1) (p0 + 5) (((up2 μ (p0 + 4) ((μ p0 11)).toNatClampNeg x1) p0 11)).toNatClampNeg x2) p0 11) 3 ∧ q (((up2 (up2 (up2 (up2 μ (p0 + 4) ((μ p0 11)).toNatClampNeg x1) (p0 + 5) (((up2 μ (p0 + 4) ((μ p0 11)).toNatClampNeg x1) p0 11)).toNatClampNeg x2) (p0 + 6) (((up2 (up2 μ (p0 + 4) ((μ p0 11)).toNatClampNeg x1) (p0 + 5) (((up2 μ (p0 + 4) ((μ p0 11)).toNatClampNeg x1) p0 11)).toNatClampNeg x2) p0 11)).toNatClampNeg x3) p0 11 (((up2 (up2 (up2 μ (p0 + 4) ((μ p0 11)).toNatClampNeg x1) (p0 + 5) (((up2 μ (p0 + 4) ((μ p0 11)).toNatClampNeg x1) p0 11)).toNatClampNeg x2) (p0 + 6) (((up2 (up2 μ (p0 + 4) ((μ p0 11)).toNatClampNeg x1) (p0 + 5) (((up2 μ (p0 + 4) ((μ p0 11)).toNatClampNeg x1) p0 11)).toNatClampNeg x2) p0 11)).toNatClampNeg x3) p0 11) + (1 : Int32))) p0 11) - (1 : Int32)) (up2 (up2 (up2 (up2 μ (p0 + 4) ((μ p0 11)).toNatClampNeg x1) (p0 + 5) (((up2 μ (p0 + 4) ((μ p0 11)).toNatClampNeg x1) p0 11)).toNatClampNeg x2) (p0 + 6) (((up2 (up2 μ (p0 + 4) ((μ p0 11)).toNatClampNeg x1) (p0 + 5) (((up2 μ (p0 + 4) ((μ p0 11)).toNatClampNeg x1) p0 11)).toNatClampNeg x2) p0 11)).toNatClampNeg x3) p0 11 (((up2 (up2 (up2 μ (p0 + 4) ((μ p0 11)).toNatClampNeg x1) (p0 + 5) (((up2 μ (p0 + 4) ((μ p0 11)).toNatClampNeg x1) p0 11)).toNatClampNeg x2) (p0 + 6) (((up2 (up2 μ (p0 + 4) ((μ p0 11)).toNatClampNeg x1) (p0 + 5) (((up2 μ (p0 + 4) ((μ p0 11)).toNatClampNeg x1) p0 11)).toNatClampNeg x2) p0 11)).toNatClampNeg x3) p0 11) + (1 : Int32)))
def Wp_X5_addLine (p0 : Nat) (x1 : Int32) (x2 : Int32) (x3 : Int32) (μ : Mm) (q : Int32 → Mm → Prop) : Prop := F_X5_addLine_e p0  q x1 x2 x3 μ
set_option maxHeartbeats 2000000 in
theorem b_X5_addLine_e {p0 : Nat} (h_p0 : isReq p0) {g : GE} {f : FE} {q : Int32 → Mm → Prop} (cx : Cx g f cX5_addLine 4 RX5 0 0 0 0) (hr : (f_M f).sig.returnType = (some .int)) (hl : (f_M f).locks = false) (hQ : f_Q f = MQ (f_b f) (QW g (qI q)) (f_a f) (f_s f) 0 0 (fun q => g.2.2.2.1 ≤ q))  {x1 : Int32} {x2 : Int32} {x3 : Int32} {μ : Mm} (h : F_X5_addLine_e p0  q x1 x2 x3 μ) : KW g f 4 0 0 0 [some (.ref p0), some (.int x1), some (.int x2), some (.int x3)] [] μ := by
  unfold F_X5_addLine_e at h
  refine k_aload_n cx dX5_addLine_0 rfl rfl ?_
  refine k_get (o := some (p0 + 4)) (v := .ref (p0 + 4)) cx fl_X5_21 (ob_RQ h_p0) rfl rfl dX5_addLine_1 ?_
  refine k_aload_n cx dX5_addLine_4 rfl rfl ?_
  refine k_get (o := none) (v := .int (μ p0 11)) cx fl_X5_46 (ob_RQ h_p0) rfl rfl dX5_addLine_5 ?_
  refine k_iload_n cx dX5_addLine_8 rfl rfl ?_
  obtain ⟨hi, h⟩ := h
  refine k_iast cx (ar_RQ h_p0 4 (by decide) (by decide)) hi dX5_addLine_9 ?_
  refine k_aload_n cx dX5_addLine_10 rfl rfl ?_
  refine k_get (o := some (p0 + 5)) (v := .ref (p0 + 5)) cx fl_X5_24 (ob_RQ h_p0) rfl rfl dX5_addLine_11 ?_
  refine k_aload_n cx dX5_addLine_14 rfl rfl ?_
  refine k_get (o := none) (v := .int ((up2 μ (p0 + 4) ((μ p0 11)).toNatClampNeg x1) p0 11)) cx fl_X5_46 (ob_RQ h_p0) rfl rfl dX5_addLine_15 ?_
  refine k_iload_n cx dX5_addLine_18 rfl rfl ?_
  obtain ⟨hi, h⟩ := h
  refine k_iast cx (ar_RQ h_p0 5 (by decide) (by decide)) hi dX5_addLine_19 ?_
  refine k_aload_n cx dX5_addLine_20 rfl rfl ?_
  refine k_get (o := some (p0 + 6)) (v := .ref (p0 + 6)) cx fl_X5_27 (ob_RQ h_p0) rfl rfl dX5_addLine_21 ?_
  refine k_aload_n cx dX5_addLine_24 rfl rfl ?_
  refine k_get (o := none) (v := .int ((up2 (up2 μ (p0 + 4) ((μ p0 11)).toNatClampNeg x1) (p0 + 5) (((up2 μ (p0 + 4) ((μ p0 11)).toNatClampNeg x1) p0 11)).toNatClampNeg x2) p0 11)) cx fl_X5_46 (ob_RQ h_p0) rfl rfl dX5_addLine_25 ?_
  refine k_iload_n cx dX5_addLine_28 rfl rfl ?_
  obtain ⟨hi, h⟩ := h
  refine k_iast cx (ar_RQ h_p0 6 (by decide) (by decide)) hi dX5_addLine_29 ?_
  refine k_aload_n cx dX5_addLine_30 rfl rfl ?_
  refine k_dup cx dX5_addLine_31 rfl ?_
  refine k_get (o := none) (v := .int ((up2 (up2 (up2 μ (p0 + 4) ((μ p0 11)).toNatClampNeg x1) (p0 + 5) (((up2 μ (p0 + 4) ((μ p0 11)).toNatClampNeg x1) p0 11)).toNatClampNeg x2) (p0 + 6) (((up2 (up2 μ (p0 + 4) ((μ p0 11)).toNatClampNeg x1) (p0 + 5) (((up2 μ (p0 + 4) ((μ p0 11)).toNatClampNeg x1) p0 11)).toNatClampNeg x2) p0 11)).toNatClampNeg x3) p0 11)) cx fl_X5_46 (ob_RQ h_p0) rfl rfl dX5_addLine_32 ?_
  refine k_iconst (v := (1 : Int32)) cx dX5_addLine_35 (by decide +kernel) ?_
  refine k_iadd cx dX5_addLine_36 ?_
  refine k_put cx fp_X5_46 (ob_RQ h_p0) rfl rfl rfl dX5_addLine_37 ?_
  refine k_aload_n cx dX5_addLine_40 rfl rfl ?_
  refine k_get (o := none) (v := .int ((up2 (up2 (up2 (up2 μ (p0 + 4) ((μ p0 11)).toNatClampNeg x1) (p0 + 5) (((up2 μ (p0 + 4) ((μ p0 11)).toNatClampNeg x1) p0 11)).toNatClampNeg x2) (p0 + 6) (((up2 (up2 μ (p0 + 4) ((μ p0 11)).toNatClampNeg x1) (p0 + 5) (((up2 μ (p0 + 4) ((μ p0 11)).toNatClampNeg x1) p0 11)).toNatClampNeg x2) p0 11)).toNatClampNeg x3) p0 11 (((up2 (up2 (up2 μ (p0 + 4) ((μ p0 11)).toNatClampNeg x1) (p0 + 5) (((up2 μ (p0 + 4) ((μ p0 11)).toNatClampNeg x1) p0 11)).toNatClampNeg x2) (p0 + 6) (((up2 (up2 μ (p0 + 4) ((μ p0 11)).toNatClampNeg x1) (p0 + 5) (((up2 μ (p0 + 4) ((μ p0 11)).toNatClampNeg x1) p0 11)).toNatClampNeg x2) p0 11)).toNatClampNeg x3) p0 11) + (1 : Int32))) p0 11)) cx fl_X5_46 (ob_RQ h_p0) rfl rfl dX5_addLine_41 ?_
  refine k_iconst (v := (1 : Int32)) cx dX5_addLine_44 (by decide +kernel) ?_
  refine k_isub cx dX5_addLine_45 ?_
  exact k_ret_I cx hr hl hQ dX5_addLine_46 h
theorem m_X5_addLine {g : GE} {l : Launch} {μ : Mm} {q : Int32 → Mm → Prop} {p0 : Nat} {x1 : Int32} {x2 : Int32} {x3 : Int32} (h_p0 : isReq p0) (h : Wp_X5_addLine p0 x1 x2 x3 μ q) : MW g l yX5_addLine cX5_addLine 4 (some .int) 0 0 [.ref p0, .int x1, .int x2, .int x3] μ (qI q) := by
  refine met_of (by decide) (Nat.le_of_ble_eq_true rfl) (by intro v hv; simp only [List.mem_cons, List.not_mem_nil, or_false] at hv; rcases hv with rfl | rfl | rfl | rfl <;> rfl) ?_
  intro f hfl cx hr hl hQ
  exact b_X5_addLine_e h_p0 cx hr hl hQ (h  )
theorem dX5_addPart_0 : decode cX5_addPart 0 = .ok (.aload_n 0, 1) := by decide +kernel
theorem dX5_addPart_1 : decode cX5_addPart 1 = .ok (.getfield 9, 3) := by decide +kernel
theorem dX5_addPart_4 : decode cX5_addPart 4 = .ok (.aload_n 0, 1) := by decide +kernel
theorem dX5_addPart_5 : decode cX5_addPart 5 = .ok (.getfield 42, 3) := by decide +kernel
theorem dX5_addPart_8 : decode cX5_addPart 8 = .ok (.iload_n 1, 1) := by decide +kernel
theorem dX5_addPart_9 : decode cX5_addPart 9 = .ok (.iastore, 1) := by decide +kernel
theorem dX5_addPart_10 : decode cX5_addPart 10 = .ok (.aload_n 0, 1) := by decide +kernel
theorem dX5_addPart_11 : decode cX5_addPart 11 = .ok (.getfield 15, 3) := by decide +kernel
theorem dX5_addPart_14 : decode cX5_addPart 14 = .ok (.aload_n 0, 1) := by decide +kernel
theorem dX5_addPart_15 : decode cX5_addPart 15 = .ok (.getfield 42, 3) := by decide +kernel
theorem dX5_addPart_18 : decode cX5_addPart 18 = .ok (.iload_n 2, 1) := by decide +kernel
theorem dX5_addPart_19 : decode cX5_addPart 19 = .ok (.iastore, 1) := by decide +kernel
theorem dX5_addPart_20 : decode cX5_addPart 20 = .ok (.aload_n 0, 1) := by decide +kernel
theorem dX5_addPart_21 : decode cX5_addPart 21 = .ok (.dup, 1) := by decide +kernel
theorem dX5_addPart_22 : decode cX5_addPart 22 = .ok (.getfield 42, 3) := by decide +kernel
theorem dX5_addPart_25 : decode cX5_addPart 25 = .ok (.iconst 1, 1) := by decide +kernel
theorem dX5_addPart_26 : decode cX5_addPart 26 = .ok (.iadd, 1) := by decide +kernel
theorem dX5_addPart_27 : decode cX5_addPart 27 = .ok (.putfield 42, 3) := by decide +kernel
theorem dX5_addPart_30 : decode cX5_addPart 30 = .ok (.aload_n 0, 1) := by decide +kernel
theorem dX5_addPart_31 : decode cX5_addPart 31 = .ok (.getfield 42, 3) := by decide +kernel
theorem dX5_addPart_34 : decode cX5_addPart 34 = .ok (.iconst 1, 1) := by decide +kernel
theorem dX5_addPart_35 : decode cX5_addPart 35 = .ok (.isub, 1) := by decide +kernel
theorem dX5_addPart_36 : decode cX5_addPart 36 = .ok (.ireturn, 1) := by decide +kernel
def F_X5_addPart_e (p0 : Nat)  (q : Int32 → Mm → Prop) (x1 : Int32) (x2 : Int32) (μ : Mm) : Prop :=
  vp_in (μ p0 10) 3 ∧ vp_in ((up2 μ (p0 + 1) ((μ p0 10)).toNatClampNeg x1) p0 10) 3 ∧ q (((up2 (up2 (up2 μ (p0 + 1) ((μ p0 10)).toNatClampNeg x1) (p0 + 2) (((up2 μ (p0 + 1) ((μ p0 10)).toNatClampNeg x1) p0 10)).toNatClampNeg x2) p0 10 (((up2 (up2 μ (p0 + 1) ((μ p0 10)).toNatClampNeg x1) (p0 + 2) (((up2 μ (p0 + 1) ((μ p0 10)).toNatClampNeg x1) p0 10)).toNatClampNeg x2) p0 10) + (1 : Int32))) p0 10) - (1 : Int32)) (up2 (up2 (up2 μ (p0 + 1) ((μ p0 10)).toNatClampNeg x1) (p0 + 2) (((up2 μ (p0 + 1) ((μ p0 10)).toNatClampNeg x1) p0 10)).toNatClampNeg x2) p0 10 (((up2 (up2 μ (p0 + 1) ((μ p0 10)).toNatClampNeg x1) (p0 + 2) (((up2 μ (p0 + 1) ((μ p0 10)).toNatClampNeg x1) p0 10)).toNatClampNeg x2) p0 10) + (1 : Int32)))
def Wp_X5_addPart (p0 : Nat) (x1 : Int32) (x2 : Int32) (μ : Mm) (q : Int32 → Mm → Prop) : Prop := F_X5_addPart_e p0  q x1 x2 μ
set_option maxHeartbeats 2000000 in
theorem b_X5_addPart_e {p0 : Nat} (h_p0 : isReq p0) {g : GE} {f : FE} {q : Int32 → Mm → Prop} (cx : Cx g f cX5_addPart 3 RX5 0 0 0 0) (hr : (f_M f).sig.returnType = (some .int)) (hl : (f_M f).locks = false) (hQ : f_Q f = MQ (f_b f) (QW g (qI q)) (f_a f) (f_s f) 0 0 (fun q => g.2.2.2.1 ≤ q))  {x1 : Int32} {x2 : Int32} {μ : Mm} (h : F_X5_addPart_e p0  q x1 x2 μ) : KW g f 3 0 0 0 [some (.ref p0), some (.int x1), some (.int x2)] [] μ := by
  unfold F_X5_addPart_e at h
  refine k_aload_n cx dX5_addPart_0 rfl rfl ?_
  refine k_get (o := some (p0 + 1)) (v := .ref (p0 + 1)) cx fl_X5_9 (ob_RQ h_p0) rfl rfl dX5_addPart_1 ?_
  refine k_aload_n cx dX5_addPart_4 rfl rfl ?_
  refine k_get (o := none) (v := .int (μ p0 10)) cx fl_X5_42 (ob_RQ h_p0) rfl rfl dX5_addPart_5 ?_
  refine k_iload_n cx dX5_addPart_8 rfl rfl ?_
  obtain ⟨hi, h⟩ := h
  refine k_iast cx (ar_RQ h_p0 1 (by decide) (by decide)) hi dX5_addPart_9 ?_
  refine k_aload_n cx dX5_addPart_10 rfl rfl ?_
  refine k_get (o := some (p0 + 2)) (v := .ref (p0 + 2)) cx fl_X5_15 (ob_RQ h_p0) rfl rfl dX5_addPart_11 ?_
  refine k_aload_n cx dX5_addPart_14 rfl rfl ?_
  refine k_get (o := none) (v := .int ((up2 μ (p0 + 1) ((μ p0 10)).toNatClampNeg x1) p0 10)) cx fl_X5_42 (ob_RQ h_p0) rfl rfl dX5_addPart_15 ?_
  refine k_iload_n cx dX5_addPart_18 rfl rfl ?_
  obtain ⟨hi, h⟩ := h
  refine k_iast cx (ar_RQ h_p0 2 (by decide) (by decide)) hi dX5_addPart_19 ?_
  refine k_aload_n cx dX5_addPart_20 rfl rfl ?_
  refine k_dup cx dX5_addPart_21 rfl ?_
  refine k_get (o := none) (v := .int ((up2 (up2 μ (p0 + 1) ((μ p0 10)).toNatClampNeg x1) (p0 + 2) (((up2 μ (p0 + 1) ((μ p0 10)).toNatClampNeg x1) p0 10)).toNatClampNeg x2) p0 10)) cx fl_X5_42 (ob_RQ h_p0) rfl rfl dX5_addPart_22 ?_
  refine k_iconst (v := (1 : Int32)) cx dX5_addPart_25 (by decide +kernel) ?_
  refine k_iadd cx dX5_addPart_26 ?_
  refine k_put cx fp_X5_42 (ob_RQ h_p0) rfl rfl rfl dX5_addPart_27 ?_
  refine k_aload_n cx dX5_addPart_30 rfl rfl ?_
  refine k_get (o := none) (v := .int ((up2 (up2 (up2 μ (p0 + 1) ((μ p0 10)).toNatClampNeg x1) (p0 + 2) (((up2 μ (p0 + 1) ((μ p0 10)).toNatClampNeg x1) p0 10)).toNatClampNeg x2) p0 10 (((up2 (up2 μ (p0 + 1) ((μ p0 10)).toNatClampNeg x1) (p0 + 2) (((up2 μ (p0 + 1) ((μ p0 10)).toNatClampNeg x1) p0 10)).toNatClampNeg x2) p0 10) + (1 : Int32))) p0 10)) cx fl_X5_42 (ob_RQ h_p0) rfl rfl dX5_addPart_31 ?_
  refine k_iconst (v := (1 : Int32)) cx dX5_addPart_34 (by decide +kernel) ?_
  refine k_isub cx dX5_addPart_35 ?_
  exact k_ret_I cx hr hl hQ dX5_addPart_36 h
theorem m_X5_addPart {g : GE} {l : Launch} {μ : Mm} {q : Int32 → Mm → Prop} {p0 : Nat} {x1 : Int32} {x2 : Int32} (h_p0 : isReq p0) (h : Wp_X5_addPart p0 x1 x2 μ q) : MW g l yX5_addPart cX5_addPart 3 (some .int) 0 0 [.ref p0, .int x1, .int x2] μ (qI q) := by
  refine met_of (by decide) (Nat.le_of_ble_eq_true rfl) (by intro v hv; simp only [List.mem_cons, List.not_mem_nil, or_false] at hv; rcases hv with rfl | rfl | rfl <;> rfl) ?_
  intro f hfl cx hr hl hQ
  exact b_X5_addPart_e h_p0 cx hr hl hQ (h  )
theorem dX5_cost_0 : decode cX5_cost 0 = .ok (.iconst 0, 1) := by decide +kernel
theorem dX5_cost_1 : decode cX5_cost 1 = .ok (.istore_n 1, 1) := by decide +kernel
theorem dX5_cost_2 : decode cX5_cost 2 = .ok (.iconst 0, 1) := by decide +kernel
theorem dX5_cost_3 : decode cX5_cost 3 = .ok (.istore_n 2, 1) := by decide +kernel
theorem dX5_cost_4 : decode cX5_cost 4 = .ok (.iload_n 2, 1) := by decide +kernel
theorem dX5_cost_5 : decode cX5_cost 5 = .ok (.aload_n 0, 1) := by decide +kernel
theorem dX5_cost_6 : decode cX5_cost 6 = .ok (.getfield 46, 3) := by decide +kernel
theorem dX5_cost_9 : decode cX5_cost 9 = .ok (.if_icmp .ge 46, 3) := by decide +kernel
theorem dX5_cost_12 : decode cX5_cost 12 = .ok (.iload_n 1, 1) := by decide +kernel
theorem dX5_cost_13 : decode cX5_cost 13 = .ok (.aload_n 0, 1) := by decide +kernel
theorem dX5_cost_14 : decode cX5_cost 14 = .ok (.getfield 33, 3) := by decide +kernel
theorem dX5_cost_17 : decode cX5_cost 17 = .ok (.iload_n 2, 1) := by decide +kernel
theorem dX5_cost_18 : decode cX5_cost 18 = .ok (.iaload, 1) := by decide +kernel
theorem dX5_cost_19 : decode cX5_cost 19 = .ok (.aload_n 0, 1) := by decide +kernel
theorem dX5_cost_20 : decode cX5_cost 20 = .ok (.getfield 30, 3) := by decide +kernel
theorem dX5_cost_23 : decode cX5_cost 23 = .ok (.iload_n 2, 1) := by decide +kernel
theorem dX5_cost_24 : decode cX5_cost 24 = .ok (.iaload, 1) := by decide +kernel
theorem dX5_cost_25 : decode cX5_cost 25 = .ok (.invokestatic 79, 3) := by decide +kernel
theorem dX5_cost_28 : decode cX5_cost 28 = .ok (.imul, 1) := by decide +kernel
theorem dX5_cost_29 : decode cX5_cost 29 = .ok (.iadd, 1) := by decide +kernel
theorem dX5_cost_30 : decode cX5_cost 30 = .ok (.istore_n 1, 1) := by decide +kernel
theorem dX5_cost_31 : decode cX5_cost 31 = .ok (.iload_n 1, 1) := by decide +kernel
theorem dX5_cost_32 : decode cX5_cost 32 = .ok (.aload_n 0, 1) := by decide +kernel
theorem dX5_cost_33 : decode cX5_cost 33 = .ok (.iload_n 2, 1) := by decide +kernel
theorem dX5_cost_34 : decode cX5_cost 34 = .ok (.invokevirtual 76, 3) := by decide +kernel
theorem dX5_cost_37 : decode cX5_cost 37 = .ok (.aload_n 0, 1) := by decide +kernel
theorem dX5_cost_38 : decode cX5_cost 38 = .ok (.getfield 36, 3) := by decide +kernel
theorem dX5_cost_41 : decode cX5_cost 41 = .ok (.iload_n 2, 1) := by decide +kernel
theorem dX5_cost_42 : decode cX5_cost 42 = .ok (.iaload, 1) := by decide +kernel
theorem dX5_cost_43 : decode cX5_cost 43 = .ok (.invokestatic 79, 3) := by decide +kernel
theorem dX5_cost_46 : decode cX5_cost 46 = .ok (.imul, 1) := by decide +kernel
theorem dX5_cost_47 : decode cX5_cost 47 = .ok (.iadd, 1) := by decide +kernel
theorem dX5_cost_48 : decode cX5_cost 48 = .ok (.istore_n 1, 1) := by decide +kernel
theorem dX5_cost_49 : decode cX5_cost 49 = .ok (.iinc 2 1, 3) := by decide +kernel
theorem dX5_cost_52 : decode cX5_cost 52 = .ok (.goto (-48), 3) := by decide +kernel
theorem dX5_cost_55 : decode cX5_cost 55 = .ok (.iload_n 1, 1) := by decide +kernel
theorem dX5_cost_56 : decode cX5_cost 56 = .ok (.ireturn, 1) := by decide +kernel
def F_X5_cost_4 (p0 : Nat) (K4 : Int32 → Int32 → Mm → Prop) (q : Int32 → Mm → Prop) (x1 : Int32) (x2 : Int32) (μ : Mm) : Prop :=
  (((μ p0 11) ≤ x2 → q x1 μ) ∧ (¬ ((μ p0 11) ≤ x2) → vp_in x2 3 ∧ vp_in x2 3 ∧ Wp_J6_bitCount_0f7a4 (μ (p0 + 7) (x2).toNatClampNeg) μ (fun z2 μ1 => Wp_X5_restOf p0 x2 μ1 (fun z4 μ3 => vp_in x2 3 ∧ Wp_J6_bitCount_0f7a4 (μ3 (p0 + 9) (x2).toNatClampNeg) μ3 (fun z6 μ5 => K4 ((x1 + ((μ (p0 + 8) (x2).toNatClampNeg) * z2)) + (z4 * z6)) (x2 + (1 : Int32)) μ5)))))
def F_X5_cost_e (p0 : Nat) (K4 : Int32 → Int32 → Mm → Prop) (q : Int32 → Mm → Prop)  (μ : Mm) : Prop :=
  K4 (0 : Int32) (0 : Int32) μ
def Wp_X5_cost (p0 : Nat)  (μ : Mm) (q : Int32 → Mm → Prop) : Prop := ∀ (K4 : Int32 → Int32 → Mm → Prop), (∀ (x1 : Int32) (x2 : Int32) (μ : Mm), F_X5_cost_4 p0 K4 q x1 x2 μ → K4 x1 x2 μ) → F_X5_cost_e p0 K4 q  μ
abbrev KK_X5_cost_4 (g : GE) (f : FE) (p0 : Nat) : Int32 → Int32 → Mm → Prop := fun x1 x2 μ => KW g f 3 0 0 4 [some (.ref p0), some (.int x1), some (.int x2)] [] μ
set_option maxHeartbeats 2000000 in
theorem b_X5_cost_4 {p0 : Nat} (h_p0 : isReq p0) {g : GE} {f : FE} {q : Int32 → Mm → Prop} (cx : Cx g f cX5_cost 3 RX5 1 21 0 0) (hr : (f_M f).sig.returnType = (some .int)) (hl : (f_M f).locks = false) (hQ : f_Q f = MQ (f_b f) (QW g (qI q)) (f_a f) (f_s f) 0 0 (fun q => g.2.2.2.1 ≤ q))  {x1 : Int32} {x2 : Int32} {μ : Mm} (h : F_X5_cost_4 p0 (KK_X5_cost_4 g f p0) q x1 x2 μ) : KK_X5_cost_4 g f p0 x1 x2 μ := by
  unfold F_X5_cost_4 at h
  show KW g f 3 0 0 4 [some (.ref p0), some (.int x1), some (.int x2)] [] μ
  refine k_iload_n cx dX5_cost_4 rfl rfl ?_
  refine k_aload_n cx dX5_cost_5 rfl rfl ?_
  refine k_get (o := none) (v := .int (μ p0 11)) cx fl_X5_46 (ob_RQ h_p0) rfl rfl dX5_cost_6 ?_
  refine k_icmp_ge (tgt := 55) cx dX5_cost_9 (by decide) (fun hc => ?_) (fun hc => ?_)
  · replace h := h.1 hc
    refine k_iload_n cx dX5_cost_55 rfl rfl ?_
    exact k_ret_I cx hr hl hQ dX5_cost_56 h
  · replace h := h.2 hc
    refine k_iload_n cx dX5_cost_12 rfl rfl ?_
    refine k_aload_n cx dX5_cost_13 rfl rfl ?_
    refine k_get (o := some (p0 + 8)) (v := .ref (p0 + 8)) cx fl_X5_33 (ob_RQ h_p0) rfl rfl dX5_cost_14 ?_
    refine k_iload_n cx dX5_cost_17 rfl rfl ?_
    obtain ⟨hi, h⟩ := h
    refine k_iald cx (ar_RQ h_p0 8 (by decide) (by decide)) hi dX5_cost_18 ?_
    refine k_aload_n cx dX5_cost_19 rfl rfl ?_
    refine k_get (o := some (p0 + 7)) (v := .ref (p0 + 7)) cx fl_X5_30 (ob_RQ h_p0) rfl rfl dX5_cost_20 ?_
    refine k_iload_n cx dX5_cost_23 rfl rfl ?_
    obtain ⟨hi, h⟩ := h
    refine k_iald cx (ar_RQ h_p0 7 (by decide) (by decide)) hi dX5_cost_24 ?_
    refine k_callS (As := [.int (μ (p0 + 7) (x2).toNatClampNeg)]) (rest := [.int (μ (p0 + 8) (x2).toNatClampNeg), .int x1]) cx (m_J6_bitCount_0f7a4 h) cv_X5_79 rfl rfl (Nat.le_of_ble_eq_true rfl) ⟨Nat.le_of_ble_eq_true rfl, Nat.le_of_ble_eq_true rfl⟩ dX5_cost_25 (fun v μ1 hq => ?_)
    obtain ⟨z2, rfl, h⟩ := hq
    refine k_imul cx dX5_cost_28 ?_
    refine k_iadd cx dX5_cost_29 ?_
    refine k_istore_n cx dX5_cost_30 rfl (by decide) ?_
    refine k_iload_n cx dX5_cost_31 rfl rfl ?_
    refine k_aload_n cx dX5_cost_32 rfl rfl ?_
    refine k_iload_n cx dX5_cost_33 rfl rfl ?_
    refine k_callV (As := [.int x2]) (rest := [.int (x1 + ((μ (p0 + 8) (x2).toNatClampNeg) * z2))]) cx (m_X5_restOf h_p0 h) cv_X5_76 (ob_RQ h_p0) rfl rfl rfl rfl (Nat.le_of_ble_eq_true rfl) ⟨Nat.le_of_ble_eq_true rfl, Nat.le_of_ble_eq_true rfl⟩ dX5_cost_34 (fun v μ3 hq => ?_)
    obtain ⟨z4, rfl, h⟩ := hq
    refine k_aload_n cx dX5_cost_37 rfl rfl ?_
    refine k_get (o := some (p0 + 9)) (v := .ref (p0 + 9)) cx fl_X5_36 (ob_RQ h_p0) rfl rfl dX5_cost_38 ?_
    refine k_iload_n cx dX5_cost_41 rfl rfl ?_
    obtain ⟨hi, h⟩ := h
    refine k_iald cx (ar_RQ h_p0 9 (by decide) (by decide)) hi dX5_cost_42 ?_
    refine k_callS (As := [.int (μ3 (p0 + 9) (x2).toNatClampNeg)]) (rest := [.int z4, .int (x1 + ((μ (p0 + 8) (x2).toNatClampNeg) * z2))]) cx (m_J6_bitCount_0f7a4 h) cv_X5_79 rfl rfl (Nat.le_of_ble_eq_true rfl) ⟨Nat.le_of_ble_eq_true rfl, Nat.le_of_ble_eq_true rfl⟩ dX5_cost_43 (fun v μ5 hq => ?_)
    obtain ⟨z6, rfl, h⟩ := hq
    refine k_imul cx dX5_cost_46 ?_
    refine k_iadd cx dX5_cost_47 ?_
    refine k_istore_n cx dX5_cost_48 rfl (by decide) ?_
    refine k_iinc (v := (x2 + (1 : Int32))) cx dX5_cost_49 rfl rfl (by decide) ?_
    refine k_goto (tgt := 4) cx dX5_cost_52 (by decide) ?_
    exact k_weak h (lsLe.keep (lsLe.keep (lsLe.keep lsLe.nil)))
set_option maxHeartbeats 2000000 in
theorem b_X5_cost_e {p0 : Nat} (h_p0 : isReq p0) {g : GE} {f : FE} {q : Int32 → Mm → Prop} (cx : Cx g f cX5_cost 3 RX5 1 21 0 0) (hr : (f_M f).sig.returnType = (some .int)) (hl : (f_M f).locks = false) (hQ : f_Q f = MQ (f_b f) (QW g (qI q)) (f_a f) (f_s f) 0 0 (fun q => g.2.2.2.1 ≤ q))   {μ : Mm} (h : F_X5_cost_e p0 (KK_X5_cost_4 g f p0) q  μ) : KW g f 3 0 0 0 [some (.ref p0), none, none] [] μ := by
  unfold F_X5_cost_e at h
  refine k_iconst (v := (0 : Int32)) cx dX5_cost_0 (by decide +kernel) ?_
  refine k_istore_n cx dX5_cost_1 rfl (by decide) ?_
  refine k_iconst (v := (0 : Int32)) cx dX5_cost_2 (by decide +kernel) ?_
  refine k_istore_n cx dX5_cost_3 rfl (by decide) ?_
  exact k_weak h (lsLe.keep (lsLe.keep (lsLe.keep lsLe.nil)))
theorem m_X5_cost {g : GE} {l : Launch} {μ : Mm} {q : Int32 → Mm → Prop} {p0 : Nat} (h_p0 : isReq p0) (h : Wp_X5_cost p0  μ q) : MW g l yX5_cost cX5_cost 3 (some .int) 1 21 [.ref p0] μ (qI q) := by
  refine met_of (by decide) (Nat.le_of_ble_eq_true rfl) (by intro v hv; simp only [List.mem_cons, List.not_mem_nil, or_false] at hv; subst hv; rfl) ?_
  intro f hfl cx hr hl hQ
  exact b_X5_cost_e h_p0 cx hr hl hQ (h (KK_X5_cost_4 g f p0) (fun _ _ _ h => b_X5_cost_4 h_p0 cx hr hl hQ h))
theorem dX5_empty_0 : decode cX5_empty 0 = .ok (.aload_n 0, 1) := by decide +kernel
theorem dX5_empty_1 : decode cX5_empty 1 = .ok (.getfield 42, 3) := by decide +kernel
theorem dX5_empty_4 : decode cX5_empty 4 = .ok (.istore_n 1, 1) := by decide +kernel
theorem dX5_empty_5 : decode cX5_empty 5 = .ok (.aload_n 0, 1) := by decide +kernel
theorem dX5_empty_6 : decode cX5_empty 6 = .ok (.iconst 0, 1) := by decide +kernel
theorem dX5_empty_7 : decode cX5_empty 7 = .ok (.putfield 42, 3) := by decide +kernel
theorem dX5_empty_10 : decode cX5_empty 10 = .ok (.aload_n 0, 1) := by decide +kernel
theorem dX5_empty_11 : decode cX5_empty 11 = .ok (.iconst 0, 1) := by decide +kernel
theorem dX5_empty_12 : decode cX5_empty 12 = .ok (.putfield 46, 3) := by decide +kernel
theorem dX5_empty_15 : decode cX5_empty 15 = .ok (.iload_n 1, 1) := by decide +kernel
theorem dX5_empty_16 : decode cX5_empty 16 = .ok (.ireturn, 1) := by decide +kernel
def F_X5_empty_e (p0 : Nat)  (q : Int32 → Mm → Prop)  (μ : Mm) : Prop :=
  q (μ p0 10) (up2 (up2 μ p0 10 (0 : Int32)) p0 11 (0 : Int32))
def Wp_X5_empty (p0 : Nat)  (μ : Mm) (q : Int32 → Mm → Prop) : Prop := F_X5_empty_e p0  q  μ
set_option maxHeartbeats 2000000 in
theorem b_X5_empty_e {p0 : Nat} (h_p0 : isReq p0) {g : GE} {f : FE} {q : Int32 → Mm → Prop} (cx : Cx g f cX5_empty 2 RX5 0 0 0 0) (hr : (f_M f).sig.returnType = (some .int)) (hl : (f_M f).locks = false) (hQ : f_Q f = MQ (f_b f) (QW g (qI q)) (f_a f) (f_s f) 0 0 (fun q => g.2.2.2.1 ≤ q))   {μ : Mm} (h : F_X5_empty_e p0  q  μ) : KW g f 2 0 0 0 [some (.ref p0), none] [] μ := by
  unfold F_X5_empty_e at h
  refine k_aload_n cx dX5_empty_0 rfl rfl ?_
  refine k_get (o := none) (v := .int (μ p0 10)) cx fl_X5_42 (ob_RQ h_p0) rfl rfl dX5_empty_1 ?_
  refine k_istore_n cx dX5_empty_4 rfl (by decide) ?_
  refine k_aload_n cx dX5_empty_5 rfl rfl ?_
  refine k_iconst (v := (0 : Int32)) cx dX5_empty_6 (by decide +kernel) ?_
  refine k_put cx fp_X5_42 (ob_RQ h_p0) rfl rfl rfl dX5_empty_7 ?_
  refine k_aload_n cx dX5_empty_10 rfl rfl ?_
  refine k_iconst (v := (0 : Int32)) cx dX5_empty_11 (by decide +kernel) ?_
  refine k_put cx fp_X5_46 (ob_RQ h_p0) rfl rfl rfl dX5_empty_12 ?_
  refine k_iload_n cx dX5_empty_15 rfl rfl ?_
  exact k_ret_I cx hr hl hQ dX5_empty_16 h
theorem m_X5_empty {g : GE} {l : Launch} {μ : Mm} {q : Int32 → Mm → Prop} {p0 : Nat} (h_p0 : isReq p0) (h : Wp_X5_empty p0  μ q) : MW g l yX5_empty cX5_empty 2 (some .int) 0 0 [.ref p0] μ (qI q) := by
  refine met_of (by decide) (Nat.le_of_ble_eq_true rfl) (by intro v hv; simp only [List.mem_cons, List.not_mem_nil, or_false] at hv; subst hv; rfl) ?_
  intro f hfl cx hr hl hQ
  exact b_X5_empty_e h_p0 cx hr hl hQ (h  )
theorem dX5_hasLine_0 : decode cX5_hasLine 0 = .ok (.iload_n 1, 1) := by decide +kernel
theorem dX5_hasLine_1 : decode cX5_hasLine 1 = .ok (.ifCond .lt 15, 3) := by decide +kernel
theorem dX5_hasLine_4 : decode cX5_hasLine 4 = .ok (.iload_n 1, 1) := by decide +kernel
theorem dX5_hasLine_5 : decode cX5_hasLine 5 = .ok (.aload_n 0, 1) := by decide +kernel
theorem dX5_hasLine_6 : decode cX5_hasLine 6 = .ok (.getfield 46, 3) := by decide +kernel
theorem dX5_hasLine_9 : decode cX5_hasLine 9 = .ok (.if_icmp .ge 7, 3) := by decide +kernel
theorem dX5_hasLine_12 : decode cX5_hasLine 12 = .ok (.iconst 1, 1) := by decide +kernel
theorem dX5_hasLine_13 : decode cX5_hasLine 13 = .ok (.goto 4, 3) := by decide +kernel
theorem dX5_hasLine_16 : decode cX5_hasLine 16 = .ok (.iconst 0, 1) := by decide +kernel
theorem dX5_hasLine_17 : decode cX5_hasLine 17 = .ok (.ireturn, 1) := by decide +kernel
def F_X5_hasLine_e (p0 : Nat)  (q : Bool → Mm → Prop) (x1 : Int32) (μ : Mm) : Prop :=
  ((x1 < 0 → q false μ) ∧ (¬ (x1 < 0) → (((μ p0 11) ≤ x1 → q false μ) ∧ (¬ ((μ p0 11) ≤ x1) → q true μ))))
def Wp_X5_hasLine (p0 : Nat) (x1 : Int32) (μ : Mm) (q : Bool → Mm → Prop) : Prop := F_X5_hasLine_e p0  q x1 μ
set_option maxHeartbeats 2000000 in
theorem b_X5_hasLine_e {p0 : Nat} (h_p0 : isReq p0) {g : GE} {f : FE} {q : Bool → Mm → Prop} (cx : Cx g f cX5_hasLine 2 RX5 0 0 0 0) (hr : (f_M f).sig.returnType = (some .boolean)) (hl : (f_M f).locks = false) (hQ : f_Q f = MQ (f_b f) (QW g (qZ q)) (f_a f) (f_s f) 0 0 (fun q => g.2.2.2.1 ≤ q))  {x1 : Int32} {μ : Mm} (h : F_X5_hasLine_e p0  q x1 μ) : KW g f 2 0 0 0 [some (.ref p0), some (.int x1)] [] μ := by
  unfold F_X5_hasLine_e at h
  refine k_iload_n cx dX5_hasLine_0 rfl rfl ?_
  refine k_if_lt (tgt := 16) cx dX5_hasLine_1 (by decide) (fun hc => ?_) (fun hc => ?_)
  · replace h := h.1 hc
    refine k_iconst (v := (0 : Int32)) cx dX5_hasLine_16 (by decide +kernel) ?_
    exact k_ret_Z (b := false) cx hr hl hQ dX5_hasLine_17 rfl h
  · replace h := h.2 hc
    refine k_iload_n cx dX5_hasLine_4 rfl rfl ?_
    refine k_aload_n cx dX5_hasLine_5 rfl rfl ?_
    refine k_get (o := none) (v := .int (μ p0 11)) cx fl_X5_46 (ob_RQ h_p0) rfl rfl dX5_hasLine_6 ?_
    refine k_icmp_ge (tgt := 16) cx dX5_hasLine_9 (by decide) (fun hc => ?_) (fun hc => ?_)
    · replace h := h.1 hc
      refine k_iconst (v := (0 : Int32)) cx dX5_hasLine_16 (by decide +kernel) ?_
      exact k_ret_Z (b := false) cx hr hl hQ dX5_hasLine_17 rfl h
    · replace h := h.2 hc
      refine k_iconst (v := (1 : Int32)) cx dX5_hasLine_12 (by decide +kernel) ?_
      refine k_goto (tgt := 17) cx dX5_hasLine_13 (by decide) ?_
      exact k_ret_Z (b := true) cx hr hl hQ dX5_hasLine_17 rfl h
theorem m_X5_hasLine {g : GE} {l : Launch} {μ : Mm} {q : Bool → Mm → Prop} {p0 : Nat} {x1 : Int32} (h_p0 : isReq p0) (h : Wp_X5_hasLine p0 x1 μ q) : MW g l yX5_hasLine cX5_hasLine 2 (some .boolean) 0 0 [.ref p0, .int x1] μ (qZ q) := by
  refine met_of (by decide) (Nat.le_of_ble_eq_true rfl) (by intro v hv; simp only [List.mem_cons, List.not_mem_nil, or_false] at hv; rcases hv with rfl | rfl <;> rfl) ?_
  intro f hfl cx hr hl hQ
  exact b_X5_hasLine_e h_p0 cx hr hl hQ (h  )
theorem dX5_hasLineFor_0 : decode cX5_hasLineFor 0 = .ok (.iconst 0, 1) := by decide +kernel
theorem dX5_hasLineFor_1 : decode cX5_hasLineFor 1 = .ok (.istore_n 3, 1) := by decide +kernel
theorem dX5_hasLineFor_2 : decode cX5_hasLineFor 2 = .ok (.iload_n 3, 1) := by decide +kernel
theorem dX5_hasLineFor_3 : decode cX5_hasLineFor 3 = .ok (.aload_n 0, 1) := by decide +kernel
theorem dX5_hasLineFor_4 : decode cX5_hasLineFor 4 = .ok (.getfield 46, 3) := by decide +kernel
theorem dX5_hasLineFor_7 : decode cX5_hasLineFor 7 = .ok (.if_icmp .ge 29, 3) := by decide +kernel
theorem dX5_hasLineFor_10 : decode cX5_hasLineFor 10 = .ok (.aload_n 0, 1) := by decide +kernel
theorem dX5_hasLineFor_11 : decode cX5_hasLineFor 11 = .ok (.iload_n 3, 1) := by decide +kernel
theorem dX5_hasLineFor_12 : decode cX5_hasLineFor 12 = .ok (.iload_n 1, 1) := by decide +kernel
theorem dX5_hasLineFor_13 : decode cX5_hasLineFor 13 = .ok (.invokevirtual 49, 3) := by decide +kernel
theorem dX5_hasLineFor_16 : decode cX5_hasLineFor 16 = .ok (.ifCond .eq 14, 3) := by decide +kernel
theorem dX5_hasLineFor_19 : decode cX5_hasLineFor 19 = .ok (.aload_n 0, 1) := by decide +kernel
theorem dX5_hasLineFor_20 : decode cX5_hasLineFor 20 = .ok (.iload_n 3, 1) := by decide +kernel
theorem dX5_hasLineFor_21 : decode cX5_hasLineFor 21 = .ok (.iload_n 2, 1) := by decide +kernel
theorem dX5_hasLineFor_22 : decode cX5_hasLineFor 22 = .ok (.invokevirtual 49, 3) := by decide +kernel
theorem dX5_hasLineFor_25 : decode cX5_hasLineFor 25 = .ok (.ifCond .eq 5, 3) := by decide +kernel
theorem dX5_hasLineFor_28 : decode cX5_hasLineFor 28 = .ok (.iconst 1, 1) := by decide +kernel
theorem dX5_hasLineFor_29 : decode cX5_hasLineFor 29 = .ok (.ireturn, 1) := by decide +kernel
theorem dX5_hasLineFor_30 : decode cX5_hasLineFor 30 = .ok (.iinc 3 1, 3) := by decide +kernel
theorem dX5_hasLineFor_33 : decode cX5_hasLineFor 33 = .ok (.goto (-31), 3) := by decide +kernel
theorem dX5_hasLineFor_36 : decode cX5_hasLineFor 36 = .ok (.iconst 0, 1) := by decide +kernel
theorem dX5_hasLineFor_37 : decode cX5_hasLineFor 37 = .ok (.ireturn, 1) := by decide +kernel
def F_X5_hasLineFor_2 (p0 : Nat) (K2 : Int32 → Int32 → Int32 → Mm → Prop) (q : Bool → Mm → Prop) (x1 : Int32) (x2 : Int32) (x3 : Int32) (μ : Mm) : Prop :=
  (((μ p0 11) ≤ x3 → q false μ) ∧ (¬ ((μ p0 11) ≤ x3) → Wp_X5_isLineOf p0 x3 x1 μ (fun b2 μ1 => (((bI b2) = 0 → K2 x1 x2 (x3 + (1 : Int32)) μ1) ∧ (¬ ((bI b2) = 0) → Wp_X5_isLineOf p0 x3 x2 μ1 (fun b4 μ3 => (((bI b4) = 0 → K2 x1 x2 (x3 + (1 : Int32)) μ3) ∧ (¬ ((bI b4) = 0) → q true μ3))))))))
def F_X5_hasLineFor_e (p0 : Nat) (K2 : Int32 → Int32 → Int32 → Mm → Prop) (q : Bool → Mm → Prop) (x1 : Int32) (x2 : Int32) (μ : Mm) : Prop :=
  K2 x1 x2 (0 : Int32) μ
def Wp_X5_hasLineFor (p0 : Nat) (x1 : Int32) (x2 : Int32) (μ : Mm) (q : Bool → Mm → Prop) : Prop := ∀ (K2 : Int32 → Int32 → Int32 → Mm → Prop), (∀ (x1 : Int32) (x2 : Int32) (x3 : Int32) (μ : Mm), F_X5_hasLineFor_2 p0 K2 q x1 x2 x3 μ → K2 x1 x2 x3 μ) → F_X5_hasLineFor_e p0 K2 q x1 x2 μ
abbrev KK_X5_hasLineFor_2 (g : GE) (f : FE) (p0 : Nat) : Int32 → Int32 → Int32 → Mm → Prop := fun x1 x2 x3 μ => KW g f 4 0 0 2 [some (.ref p0), some (.int x1), some (.int x2), some (.int x3)] [] μ
set_option maxHeartbeats 2000000 in
theorem b_X5_hasLineFor_2 {p0 : Nat} (h_p0 : isReq p0) {g : GE} {f : FE} {q : Bool → Mm → Prop} (cx : Cx g f cX5_hasLineFor 4 RX5 1 22 0 0) (hr : (f_M f).sig.returnType = (some .boolean)) (hl : (f_M f).locks = false) (hQ : f_Q f = MQ (f_b f) (QW g (qZ q)) (f_a f) (f_s f) 0 0 (fun q => g.2.2.2.1 ≤ q))  {x1 : Int32} {x2 : Int32} {x3 : Int32} {μ : Mm} (h : F_X5_hasLineFor_2 p0 (KK_X5_hasLineFor_2 g f p0) q x1 x2 x3 μ) : KK_X5_hasLineFor_2 g f p0 x1 x2 x3 μ := by
  unfold F_X5_hasLineFor_2 at h
  show KW g f 4 0 0 2 [some (.ref p0), some (.int x1), some (.int x2), some (.int x3)] [] μ
  refine k_iload_n cx dX5_hasLineFor_2 rfl rfl ?_
  refine k_aload_n cx dX5_hasLineFor_3 rfl rfl ?_
  refine k_get (o := none) (v := .int (μ p0 11)) cx fl_X5_46 (ob_RQ h_p0) rfl rfl dX5_hasLineFor_4 ?_
  refine k_icmp_ge (tgt := 36) cx dX5_hasLineFor_7 (by decide) (fun hc => ?_) (fun hc => ?_)
  · replace h := h.1 hc
    refine k_iconst (v := (0 : Int32)) cx dX5_hasLineFor_36 (by decide +kernel) ?_
    exact k_ret_Z (b := false) cx hr hl hQ dX5_hasLineFor_37 rfl h
  · replace h := h.2 hc
    refine k_aload_n cx dX5_hasLineFor_10 rfl rfl ?_
    refine k_iload_n cx dX5_hasLineFor_11 rfl rfl ?_
    refine k_iload_n cx dX5_hasLineFor_12 rfl rfl ?_
    refine k_callV (As := [.int x3, .int x1]) (rest := []) cx (m_X5_isLineOf h_p0 h) cv_X5_49 (ob_RQ h_p0) rfl rfl rfl rfl (Nat.le_of_ble_eq_true rfl) ⟨Nat.le_of_ble_eq_true rfl, Nat.le_of_ble_eq_true rfl⟩ dX5_hasLineFor_13 (fun v μ1 hq => ?_)
    obtain ⟨b2, rfl, h⟩ := hq
    refine k_if_eq (tgt := 30) cx dX5_hasLineFor_16 (by decide) (fun hc => ?_) (fun hc => ?_)
    · replace h := h.1 hc
      refine k_iinc (v := (x3 + (1 : Int32))) cx dX5_hasLineFor_30 rfl rfl (by decide) ?_
      refine k_goto (tgt := 2) cx dX5_hasLineFor_33 (by decide) ?_
      exact k_weak h (lsLe.keep (lsLe.keep (lsLe.keep (lsLe.keep lsLe.nil))))
    · replace h := h.2 hc
      refine k_aload_n cx dX5_hasLineFor_19 rfl rfl ?_
      refine k_iload_n cx dX5_hasLineFor_20 rfl rfl ?_
      refine k_iload_n cx dX5_hasLineFor_21 rfl rfl ?_
      refine k_callV (As := [.int x3, .int x2]) (rest := []) cx (m_X5_isLineOf h_p0 h) cv_X5_49 (ob_RQ h_p0) rfl rfl rfl rfl (Nat.le_of_ble_eq_true rfl) ⟨Nat.le_of_ble_eq_true rfl, Nat.le_of_ble_eq_true rfl⟩ dX5_hasLineFor_22 (fun v μ3 hq => ?_)
      obtain ⟨b4, rfl, h⟩ := hq
      refine k_if_eq (tgt := 30) cx dX5_hasLineFor_25 (by decide) (fun hc => ?_) (fun hc => ?_)
      · replace h := h.1 hc
        refine k_iinc (v := (x3 + (1 : Int32))) cx dX5_hasLineFor_30 rfl rfl (by decide) ?_
        refine k_goto (tgt := 2) cx dX5_hasLineFor_33 (by decide) ?_
        exact k_weak h (lsLe.keep (lsLe.keep (lsLe.keep (lsLe.keep lsLe.nil))))
      · replace h := h.2 hc
        refine k_iconst (v := (1 : Int32)) cx dX5_hasLineFor_28 (by decide +kernel) ?_
        exact k_ret_Z (b := true) cx hr hl hQ dX5_hasLineFor_29 rfl h
set_option maxHeartbeats 2000000 in
theorem b_X5_hasLineFor_e {p0 : Nat} (h_p0 : isReq p0) {g : GE} {f : FE} {q : Bool → Mm → Prop} (cx : Cx g f cX5_hasLineFor 4 RX5 1 22 0 0) (hr : (f_M f).sig.returnType = (some .boolean)) (hl : (f_M f).locks = false) (hQ : f_Q f = MQ (f_b f) (QW g (qZ q)) (f_a f) (f_s f) 0 0 (fun q => g.2.2.2.1 ≤ q))  {x1 : Int32} {x2 : Int32} {μ : Mm} (h : F_X5_hasLineFor_e p0 (KK_X5_hasLineFor_2 g f p0) q x1 x2 μ) : KW g f 4 0 0 0 [some (.ref p0), some (.int x1), some (.int x2), none] [] μ := by
  unfold F_X5_hasLineFor_e at h
  refine k_iconst (v := (0 : Int32)) cx dX5_hasLineFor_0 (by decide +kernel) ?_
  refine k_istore_n cx dX5_hasLineFor_1 rfl (by decide) ?_
  exact k_weak h (lsLe.keep (lsLe.keep (lsLe.keep (lsLe.keep lsLe.nil))))
theorem m_X5_hasLineFor {g : GE} {l : Launch} {μ : Mm} {q : Bool → Mm → Prop} {p0 : Nat} {x1 : Int32} {x2 : Int32} (h_p0 : isReq p0) (h : Wp_X5_hasLineFor p0 x1 x2 μ q) : MW g l yX5_hasLineFor cX5_hasLineFor 4 (some .boolean) 1 22 [.ref p0, .int x1, .int x2] μ (qZ q) := by
  refine met_of (by decide) (Nat.le_of_ble_eq_true rfl) (by intro v hv; simp only [List.mem_cons, List.not_mem_nil, or_false] at hv; rcases hv with rfl | rfl | rfl <;> rfl) ?_
  intro f hfl cx hr hl hQ
  exact b_X5_hasLineFor_e h_p0 cx hr hl hQ (h (KK_X5_hasLineFor_2 g f p0) (fun _ _ _ _ h => b_X5_hasLineFor_2 h_p0 cx hr hl hQ h))
theorem dX5_hasPart_0 : decode cX5_hasPart 0 = .ok (.iload_n 1, 1) := by decide +kernel
theorem dX5_hasPart_1 : decode cX5_hasPart 1 = .ok (.ifCond .lt 15, 3) := by decide +kernel
theorem dX5_hasPart_4 : decode cX5_hasPart 4 = .ok (.iload_n 1, 1) := by decide +kernel
theorem dX5_hasPart_5 : decode cX5_hasPart 5 = .ok (.aload_n 0, 1) := by decide +kernel
theorem dX5_hasPart_6 : decode cX5_hasPart 6 = .ok (.getfield 42, 3) := by decide +kernel
theorem dX5_hasPart_9 : decode cX5_hasPart 9 = .ok (.if_icmp .ge 7, 3) := by decide +kernel
theorem dX5_hasPart_12 : decode cX5_hasPart 12 = .ok (.iconst 1, 1) := by decide +kernel
theorem dX5_hasPart_13 : decode cX5_hasPart 13 = .ok (.goto 4, 3) := by decide +kernel
theorem dX5_hasPart_16 : decode cX5_hasPart 16 = .ok (.iconst 0, 1) := by decide +kernel
theorem dX5_hasPart_17 : decode cX5_hasPart 17 = .ok (.ireturn, 1) := by decide +kernel
def F_X5_hasPart_e (p0 : Nat)  (q : Bool → Mm → Prop) (x1 : Int32) (μ : Mm) : Prop :=
  ((x1 < 0 → q false μ) ∧ (¬ (x1 < 0) → (((μ p0 10) ≤ x1 → q false μ) ∧ (¬ ((μ p0 10) ≤ x1) → q true μ))))
def Wp_X5_hasPart (p0 : Nat) (x1 : Int32) (μ : Mm) (q : Bool → Mm → Prop) : Prop := F_X5_hasPart_e p0  q x1 μ
set_option maxHeartbeats 2000000 in
theorem b_X5_hasPart_e {p0 : Nat} (h_p0 : isReq p0) {g : GE} {f : FE} {q : Bool → Mm → Prop} (cx : Cx g f cX5_hasPart 2 RX5 0 0 0 0) (hr : (f_M f).sig.returnType = (some .boolean)) (hl : (f_M f).locks = false) (hQ : f_Q f = MQ (f_b f) (QW g (qZ q)) (f_a f) (f_s f) 0 0 (fun q => g.2.2.2.1 ≤ q))  {x1 : Int32} {μ : Mm} (h : F_X5_hasPart_e p0  q x1 μ) : KW g f 2 0 0 0 [some (.ref p0), some (.int x1)] [] μ := by
  unfold F_X5_hasPart_e at h
  refine k_iload_n cx dX5_hasPart_0 rfl rfl ?_
  refine k_if_lt (tgt := 16) cx dX5_hasPart_1 (by decide) (fun hc => ?_) (fun hc => ?_)
  · replace h := h.1 hc
    refine k_iconst (v := (0 : Int32)) cx dX5_hasPart_16 (by decide +kernel) ?_
    exact k_ret_Z (b := false) cx hr hl hQ dX5_hasPart_17 rfl h
  · replace h := h.2 hc
    refine k_iload_n cx dX5_hasPart_4 rfl rfl ?_
    refine k_aload_n cx dX5_hasPart_5 rfl rfl ?_
    refine k_get (o := none) (v := .int (μ p0 10)) cx fl_X5_42 (ob_RQ h_p0) rfl rfl dX5_hasPart_6 ?_
    refine k_icmp_ge (tgt := 16) cx dX5_hasPart_9 (by decide) (fun hc => ?_) (fun hc => ?_)
    · replace h := h.1 hc
      refine k_iconst (v := (0 : Int32)) cx dX5_hasPart_16 (by decide +kernel) ?_
      exact k_ret_Z (b := false) cx hr hl hQ dX5_hasPart_17 rfl h
    · replace h := h.2 hc
      refine k_iconst (v := (1 : Int32)) cx dX5_hasPart_12 (by decide +kernel) ?_
      refine k_goto (tgt := 17) cx dX5_hasPart_13 (by decide) ?_
      exact k_ret_Z (b := true) cx hr hl hQ dX5_hasPart_17 rfl h
theorem m_X5_hasPart {g : GE} {l : Launch} {μ : Mm} {q : Bool → Mm → Prop} {p0 : Nat} {x1 : Int32} (h_p0 : isReq p0) (h : Wp_X5_hasPart p0 x1 μ q) : MW g l yX5_hasPart cX5_hasPart 2 (some .boolean) 0 0 [.ref p0, .int x1] μ (qZ q) := by
  refine met_of (by decide) (Nat.le_of_ble_eq_true rfl) (by intro v hv; simp only [List.mem_cons, List.not_mem_nil, or_false] at hv; rcases hv with rfl | rfl <;> rfl) ?_
  intro f hfl cx hr hl hQ
  exact b_X5_hasPart_e h_p0 cx hr hl hQ (h  )
theorem dX5_isHit_0 : decode cX5_isHit 0 = .ok (.aload_n 0, 1) := by decide +kernel
theorem dX5_isHit_1 : decode cX5_isHit 1 = .ok (.getfield 30, 3) := by decide +kernel
theorem dX5_isHit_4 : decode cX5_isHit 4 = .ok (.iload_n 1, 1) := by decide +kernel
theorem dX5_isHit_5 : decode cX5_isHit 5 = .ok (.iaload, 1) := by decide +kernel
theorem dX5_isHit_6 : decode cX5_isHit 6 = .ok (.aload_n 0, 1) := by decide +kernel
theorem dX5_isHit_7 : decode cX5_isHit 7 = .ok (.getfield 36, 3) := by decide +kernel
theorem dX5_isHit_10 : decode cX5_isHit 10 = .ok (.iload_n 1, 1) := by decide +kernel
theorem dX5_isHit_11 : decode cX5_isHit 11 = .ok (.iaload, 1) := by decide +kernel
theorem dX5_isHit_12 : decode cX5_isHit 12 = .ok (.ior, 1) := by decide +kernel
theorem dX5_isHit_13 : decode cX5_isHit 13 = .ok (.iload_n 2, 1) := by decide +kernel
theorem dX5_isHit_14 : decode cX5_isHit 14 = .ok (.iand, 1) := by decide +kernel
theorem dX5_isHit_15 : decode cX5_isHit 15 = .ok (.ifCond .eq 7, 3) := by decide +kernel
theorem dX5_isHit_18 : decode cX5_isHit 18 = .ok (.iconst 1, 1) := by decide +kernel
theorem dX5_isHit_19 : decode cX5_isHit 19 = .ok (.goto 4, 3) := by decide +kernel
theorem dX5_isHit_22 : decode cX5_isHit 22 = .ok (.iconst 0, 1) := by decide +kernel
theorem dX5_isHit_23 : decode cX5_isHit 23 = .ok (.ireturn, 1) := by decide +kernel
def F_X5_isHit_e (p0 : Nat)  (q : Bool → Mm → Prop) (x1 : Int32) (x2 : Int32) (μ : Mm) : Prop :=
  vp_in x1 3 ∧ vp_in x1 3 ∧ (((((μ (p0 + 7) (x1).toNatClampNeg) ||| (μ (p0 + 9) (x1).toNatClampNeg)) &&& x2) = 0 → q false μ) ∧ (¬ ((((μ (p0 + 7) (x1).toNatClampNeg) ||| (μ (p0 + 9) (x1).toNatClampNeg)) &&& x2) = 0) → q true μ))
def Wp_X5_isHit (p0 : Nat) (x1 : Int32) (x2 : Int32) (μ : Mm) (q : Bool → Mm → Prop) : Prop := F_X5_isHit_e p0  q x1 x2 μ
set_option maxHeartbeats 2000000 in
theorem b_X5_isHit_e {p0 : Nat} (h_p0 : isReq p0) {g : GE} {f : FE} {q : Bool → Mm → Prop} (cx : Cx g f cX5_isHit 3 RX5 0 0 0 0) (hr : (f_M f).sig.returnType = (some .boolean)) (hl : (f_M f).locks = false) (hQ : f_Q f = MQ (f_b f) (QW g (qZ q)) (f_a f) (f_s f) 0 0 (fun q => g.2.2.2.1 ≤ q))  {x1 : Int32} {x2 : Int32} {μ : Mm} (h : F_X5_isHit_e p0  q x1 x2 μ) : KW g f 3 0 0 0 [some (.ref p0), some (.int x1), some (.int x2)] [] μ := by
  unfold F_X5_isHit_e at h
  refine k_aload_n cx dX5_isHit_0 rfl rfl ?_
  refine k_get (o := some (p0 + 7)) (v := .ref (p0 + 7)) cx fl_X5_30 (ob_RQ h_p0) rfl rfl dX5_isHit_1 ?_
  refine k_iload_n cx dX5_isHit_4 rfl rfl ?_
  obtain ⟨hi, h⟩ := h
  refine k_iald cx (ar_RQ h_p0 7 (by decide) (by decide)) hi dX5_isHit_5 ?_
  refine k_aload_n cx dX5_isHit_6 rfl rfl ?_
  refine k_get (o := some (p0 + 9)) (v := .ref (p0 + 9)) cx fl_X5_36 (ob_RQ h_p0) rfl rfl dX5_isHit_7 ?_
  refine k_iload_n cx dX5_isHit_10 rfl rfl ?_
  obtain ⟨hi, h⟩ := h
  refine k_iald cx (ar_RQ h_p0 9 (by decide) (by decide)) hi dX5_isHit_11 ?_
  refine k_ior cx dX5_isHit_12 ?_
  refine k_iload_n cx dX5_isHit_13 rfl rfl ?_
  refine k_iand cx dX5_isHit_14 ?_
  refine k_if_eq (tgt := 22) cx dX5_isHit_15 (by decide) (fun hc => ?_) (fun hc => ?_)
  · replace h := h.1 hc
    refine k_iconst (v := (0 : Int32)) cx dX5_isHit_22 (by decide +kernel) ?_
    exact k_ret_Z (b := false) cx hr hl hQ dX5_isHit_23 rfl h
  · replace h := h.2 hc
    refine k_iconst (v := (1 : Int32)) cx dX5_isHit_18 (by decide +kernel) ?_
    refine k_goto (tgt := 23) cx dX5_isHit_19 (by decide) ?_
    exact k_ret_Z (b := true) cx hr hl hQ dX5_isHit_23 rfl h
theorem m_X5_isHit {g : GE} {l : Launch} {μ : Mm} {q : Bool → Mm → Prop} {p0 : Nat} {x1 : Int32} {x2 : Int32} (h_p0 : isReq p0) (h : Wp_X5_isHit p0 x1 x2 μ q) : MW g l yX5_isHit cX5_isHit 3 (some .boolean) 0 0 [.ref p0, .int x1, .int x2] μ (qZ q) := by
  refine met_of (by decide) (Nat.le_of_ble_eq_true rfl) (by intro v hv; simp only [List.mem_cons, List.not_mem_nil, or_false] at hv; rcases hv with rfl | rfl | rfl <;> rfl) ?_
  intro f hfl cx hr hl hQ
  exact b_X5_isHit_e h_p0 cx hr hl hQ (h  )
theorem dX5_isMovable_0 : decode cX5_isMovable 0 = .ok (.aload_n 0, 1) := by decide +kernel
theorem dX5_isMovable_1 : decode cX5_isMovable 1 = .ok (.getfield 63, 3) := by decide +kernel
theorem dX5_isMovable_4 : decode cX5_isMovable 4 = .ok (.ifCond .ne 15, 3) := by decide +kernel
theorem dX5_isMovable_7 : decode cX5_isMovable 7 = .ok (.aload_n 0, 1) := by decide +kernel
theorem dX5_isMovable_8 : decode cX5_isMovable 8 = .ok (.getfield 67, 3) := by decide +kernel
theorem dX5_isMovable_11 : decode cX5_isMovable 11 = .ok (.iconst 2, 1) := by decide +kernel
theorem dX5_isMovable_12 : decode cX5_isMovable 12 = .ok (.if_icmp .eq 7, 3) := by decide +kernel
theorem dX5_isMovable_15 : decode cX5_isMovable 15 = .ok (.iconst 1, 1) := by decide +kernel
theorem dX5_isMovable_16 : decode cX5_isMovable 16 = .ok (.goto 4, 3) := by decide +kernel
theorem dX5_isMovable_19 : decode cX5_isMovable 19 = .ok (.iconst 0, 1) := by decide +kernel
theorem dX5_isMovable_20 : decode cX5_isMovable 20 = .ok (.istore_n 1, 1) := by decide +kernel
theorem dX5_isMovable_21 : decode cX5_isMovable 21 = .ok (.iconst 0, 1) := by decide +kernel
theorem dX5_isMovable_22 : decode cX5_isMovable 22 = .ok (.istore_n 2, 1) := by decide +kernel
theorem dX5_isMovable_23 : decode cX5_isMovable 23 = .ok (.iload_n 2, 1) := by decide +kernel
theorem dX5_isMovable_24 : decode cX5_isMovable 24 = .ok (.aload_n 0, 1) := by decide +kernel
theorem dX5_isMovable_25 : decode cX5_isMovable 25 = .ok (.getfield 46, 3) := by decide +kernel
theorem dX5_isMovable_28 : decode cX5_isMovable 28 = .ok (.if_icmp .ge 28, 3) := by decide +kernel
theorem dX5_isMovable_31 : decode cX5_isMovable 31 = .ok (.iload_n 1, 1) := by decide +kernel
theorem dX5_isMovable_32 : decode cX5_isMovable 32 = .ok (.ifCond .eq 16, 3) := by decide +kernel
theorem dX5_isMovable_35 : decode cX5_isMovable 35 = .ok (.aload_n 0, 1) := by decide +kernel
theorem dX5_isMovable_36 : decode cX5_isMovable 36 = .ok (.getfield 36, 3) := by decide +kernel
theorem dX5_isMovable_39 : decode cX5_isMovable 39 = .ok (.iload_n 2, 1) := by decide +kernel
theorem dX5_isMovable_40 : decode cX5_isMovable 40 = .ok (.iaload, 1) := by decide +kernel
theorem dX5_isMovable_41 : decode cX5_isMovable 41 = .ok (.ifCond .ne 7, 3) := by decide +kernel
theorem dX5_isMovable_44 : decode cX5_isMovable 44 = .ok (.iconst 1, 1) := by decide +kernel
theorem dX5_isMovable_45 : decode cX5_isMovable 45 = .ok (.goto 4, 3) := by decide +kernel
theorem dX5_isMovable_48 : decode cX5_isMovable 48 = .ok (.iconst 0, 1) := by decide +kernel
theorem dX5_isMovable_49 : decode cX5_isMovable 49 = .ok (.istore_n 1, 1) := by decide +kernel
theorem dX5_isMovable_50 : decode cX5_isMovable 50 = .ok (.iinc 2 1, 3) := by decide +kernel
theorem dX5_isMovable_53 : decode cX5_isMovable 53 = .ok (.goto (-30), 3) := by decide +kernel
theorem dX5_isMovable_56 : decode cX5_isMovable 56 = .ok (.iload_n 1, 1) := by decide +kernel
theorem dX5_isMovable_57 : decode cX5_isMovable 57 = .ok (.ireturn, 1) := by decide +kernel
def F_X5_isMovable_23 (p0 : Nat) (K23 : Int32 → Int32 → Mm → Prop) (q : Bool → Mm → Prop) (x1 : Int32) (x2 : Int32) (μ : Mm) : Prop :=
  (((μ p0 11) ≤ x2 → ∃ b : Bool, x1 = bI b ∧ q b μ) ∧ (¬ ((μ p0 11) ≤ x2) → ((x1 = 0 → K23 (0 : Int32) (x2 + (1 : Int32)) μ) ∧ (¬ (x1 = 0) → vp_in x2 3 ∧ ((¬ ((μ (p0 + 9) (x2).toNatClampNeg) = 0) → K23 (0 : Int32) (x2 + (1 : Int32)) μ) ∧ ((μ (p0 + 9) (x2).toNatClampNeg) = 0 → K23 (1 : Int32) (x2 + (1 : Int32)) μ))))))
def F_X5_isMovable_e (p0 : Nat) (K23 : Int32 → Int32 → Mm → Prop) (q : Bool → Mm → Prop)  (μ : Mm) : Prop :=
  ((¬ ((μ p0 14) = 0) → K23 (0 : Int32) (0 : Int32) μ) ∧ ((μ p0 14) = 0 → (((μ p0 12) = (2 : Int32) → K23 (0 : Int32) (0 : Int32) μ) ∧ (¬ ((μ p0 12) = (2 : Int32)) → K23 (1 : Int32) (0 : Int32) μ))))
def Wp_X5_isMovable (p0 : Nat)  (μ : Mm) (q : Bool → Mm → Prop) : Prop := ∀ (K23 : Int32 → Int32 → Mm → Prop), (∀ (x1 : Int32) (x2 : Int32) (μ : Mm), F_X5_isMovable_23 p0 K23 q x1 x2 μ → K23 x1 x2 μ) → F_X5_isMovable_e p0 K23 q  μ
abbrev KK_X5_isMovable_23 (g : GE) (f : FE) (p0 : Nat) : Int32 → Int32 → Mm → Prop := fun x1 x2 μ => KW g f 3 0 0 23 [some (.ref p0), some (.int x1), some (.int x2)] [] μ
set_option maxHeartbeats 2000000 in
theorem b_X5_isMovable_23 {p0 : Nat} (h_p0 : isReq p0) {g : GE} {f : FE} {q : Bool → Mm → Prop} (cx : Cx g f cX5_isMovable 3 RX5 0 0 0 0) (hr : (f_M f).sig.returnType = (some .boolean)) (hl : (f_M f).locks = false) (hQ : f_Q f = MQ (f_b f) (QW g (qZ q)) (f_a f) (f_s f) 0 0 (fun q => g.2.2.2.1 ≤ q))  {x1 : Int32} {x2 : Int32} {μ : Mm} (h : F_X5_isMovable_23 p0 (KK_X5_isMovable_23 g f p0) q x1 x2 μ) : KK_X5_isMovable_23 g f p0 x1 x2 μ := by
  unfold F_X5_isMovable_23 at h
  show KW g f 3 0 0 23 [some (.ref p0), some (.int x1), some (.int x2)] [] μ
  refine k_iload_n cx dX5_isMovable_23 rfl rfl ?_
  refine k_aload_n cx dX5_isMovable_24 rfl rfl ?_
  refine k_get (o := none) (v := .int (μ p0 11)) cx fl_X5_46 (ob_RQ h_p0) rfl rfl dX5_isMovable_25 ?_
  refine k_icmp_ge (tgt := 56) cx dX5_isMovable_28 (by decide) (fun hc => ?_) (fun hc => ?_)
  · replace h := h.1 hc
    refine k_iload_n cx dX5_isMovable_56 rfl rfl ?_
    obtain ⟨b, hb, h⟩ := h
    exact k_ret_Z (b := b) cx hr hl hQ dX5_isMovable_57 hb h
  · replace h := h.2 hc
    refine k_iload_n cx dX5_isMovable_31 rfl rfl ?_
    refine k_if_eq (tgt := 48) cx dX5_isMovable_32 (by decide) (fun hc => ?_) (fun hc => ?_)
    · replace h := h.1 hc
      refine k_iconst (v := (0 : Int32)) cx dX5_isMovable_48 (by decide +kernel) ?_
      refine k_istore_n cx dX5_isMovable_49 rfl (by decide) ?_
      refine k_iinc (v := (x2 + (1 : Int32))) cx dX5_isMovable_50 rfl rfl (by decide) ?_
      refine k_goto (tgt := 23) cx dX5_isMovable_53 (by decide) ?_
      exact k_weak h (lsLe.keep (lsLe.keep (lsLe.keep lsLe.nil)))
    · replace h := h.2 hc
      refine k_aload_n cx dX5_isMovable_35 rfl rfl ?_
      refine k_get (o := some (p0 + 9)) (v := .ref (p0 + 9)) cx fl_X5_36 (ob_RQ h_p0) rfl rfl dX5_isMovable_36 ?_
      refine k_iload_n cx dX5_isMovable_39 rfl rfl ?_
      obtain ⟨hi, h⟩ := h
      refine k_iald cx (ar_RQ h_p0 9 (by decide) (by decide)) hi dX5_isMovable_40 ?_
      refine k_if_ne (tgt := 48) cx dX5_isMovable_41 (by decide) (fun hc => ?_) (fun hc => ?_)
      · replace h := h.1 hc
        refine k_iconst (v := (0 : Int32)) cx dX5_isMovable_48 (by decide +kernel) ?_
        refine k_istore_n cx dX5_isMovable_49 rfl (by decide) ?_
        refine k_iinc (v := (x2 + (1 : Int32))) cx dX5_isMovable_50 rfl rfl (by decide) ?_
        refine k_goto (tgt := 23) cx dX5_isMovable_53 (by decide) ?_
        exact k_weak h (lsLe.keep (lsLe.keep (lsLe.keep lsLe.nil)))
      · replace h := h.2 hc
        refine k_iconst (v := (1 : Int32)) cx dX5_isMovable_44 (by decide +kernel) ?_
        refine k_goto (tgt := 49) cx dX5_isMovable_45 (by decide) ?_
        refine k_istore_n cx dX5_isMovable_49 rfl (by decide) ?_
        refine k_iinc (v := (x2 + (1 : Int32))) cx dX5_isMovable_50 rfl rfl (by decide) ?_
        refine k_goto (tgt := 23) cx dX5_isMovable_53 (by decide) ?_
        exact k_weak h (lsLe.keep (lsLe.keep (lsLe.keep lsLe.nil)))
set_option maxHeartbeats 2000000 in
theorem b_X5_isMovable_e {p0 : Nat} (h_p0 : isReq p0) {g : GE} {f : FE} {q : Bool → Mm → Prop} (cx : Cx g f cX5_isMovable 3 RX5 0 0 0 0) (hr : (f_M f).sig.returnType = (some .boolean)) (hl : (f_M f).locks = false) (hQ : f_Q f = MQ (f_b f) (QW g (qZ q)) (f_a f) (f_s f) 0 0 (fun q => g.2.2.2.1 ≤ q))   {μ : Mm} (h : F_X5_isMovable_e p0 (KK_X5_isMovable_23 g f p0) q  μ) : KW g f 3 0 0 0 [some (.ref p0), none, none] [] μ := by
  unfold F_X5_isMovable_e at h
  refine k_aload_n cx dX5_isMovable_0 rfl rfl ?_
  refine k_get (o := none) (v := .int (μ p0 14)) cx fl_X5_63 (ob_RQ h_p0) rfl rfl dX5_isMovable_1 ?_
  refine k_if_ne (tgt := 19) cx dX5_isMovable_4 (by decide) (fun hc => ?_) (fun hc => ?_)
  · replace h := h.1 hc
    refine k_iconst (v := (0 : Int32)) cx dX5_isMovable_19 (by decide +kernel) ?_
    refine k_istore_n cx dX5_isMovable_20 rfl (by decide) ?_
    refine k_iconst (v := (0 : Int32)) cx dX5_isMovable_21 (by decide +kernel) ?_
    refine k_istore_n cx dX5_isMovable_22 rfl (by decide) ?_
    exact k_weak h (lsLe.keep (lsLe.keep (lsLe.keep lsLe.nil)))
  · replace h := h.2 hc
    refine k_aload_n cx dX5_isMovable_7 rfl rfl ?_
    refine k_get (o := none) (v := .int (μ p0 12)) cx fl_X5_67 (ob_RQ h_p0) rfl rfl dX5_isMovable_8 ?_
    refine k_iconst (v := (2 : Int32)) cx dX5_isMovable_11 (by decide +kernel) ?_
    refine k_icmp_eq (tgt := 19) cx dX5_isMovable_12 (by decide) (fun hc => ?_) (fun hc => ?_)
    · replace h := h.1 hc
      refine k_iconst (v := (0 : Int32)) cx dX5_isMovable_19 (by decide +kernel) ?_
      refine k_istore_n cx dX5_isMovable_20 rfl (by decide) ?_
      refine k_iconst (v := (0 : Int32)) cx dX5_isMovable_21 (by decide +kernel) ?_
      refine k_istore_n cx dX5_isMovable_22 rfl (by decide) ?_
      exact k_weak h (lsLe.keep (lsLe.keep (lsLe.keep lsLe.nil)))
    · replace h := h.2 hc
      refine k_iconst (v := (1 : Int32)) cx dX5_isMovable_15 (by decide +kernel) ?_
      refine k_goto (tgt := 20) cx dX5_isMovable_16 (by decide) ?_
      refine k_istore_n cx dX5_isMovable_20 rfl (by decide) ?_
      refine k_iconst (v := (0 : Int32)) cx dX5_isMovable_21 (by decide +kernel) ?_
      refine k_istore_n cx dX5_isMovable_22 rfl (by decide) ?_
      exact k_weak h (lsLe.keep (lsLe.keep (lsLe.keep lsLe.nil)))
theorem m_X5_isMovable {g : GE} {l : Launch} {μ : Mm} {q : Bool → Mm → Prop} {p0 : Nat} (h_p0 : isReq p0) (h : Wp_X5_isMovable p0  μ q) : MW g l yX5_isMovable cX5_isMovable 3 (some .boolean) 0 0 [.ref p0] μ (qZ q) := by
  refine met_of (by decide) (Nat.le_of_ble_eq_true rfl) (by intro v hv; simp only [List.mem_cons, List.not_mem_nil, or_false] at hv; subst hv; rfl) ?_
  intro f hfl cx hr hl hQ
  exact b_X5_isMovable_e h_p0 cx hr hl hQ (h (KK_X5_isMovable_23 g f p0) (fun _ _ _ h => b_X5_isMovable_23 h_p0 cx hr hl hQ h))
theorem dX5_runsOnSecondWay_0 : decode cX5_runsOnSecondWay 0 = .ok (.aload_n 0, 1) := by decide +kernel
theorem dX5_runsOnSecondWay_1 : decode cX5_runsOnSecondWay 1 = .ok (.iload_n 1, 1) := by decide +kernel
theorem dX5_runsOnSecondWay_2 : decode cX5_runsOnSecondWay 2 = .ok (.iload_n 2, 1) := by decide +kernel
theorem dX5_runsOnSecondWay_3 : decode cX5_runsOnSecondWay 3 = .ok (.invokevirtual 70, 3) := by decide +kernel
theorem dX5_runsOnSecondWay_6 : decode cX5_runsOnSecondWay 6 = .ok (.ifCond .eq 27, 3) := by decide +kernel
theorem dX5_runsOnSecondWay_9 : decode cX5_runsOnSecondWay 9 = .ok (.aload_n 0, 1) := by decide +kernel
theorem dX5_runsOnSecondWay_10 : decode cX5_runsOnSecondWay 10 = .ok (.getfield 39, 3) := by decide +kernel
theorem dX5_runsOnSecondWay_13 : decode cX5_runsOnSecondWay 13 = .ok (.iload_n 1, 1) := by decide +kernel
theorem dX5_runsOnSecondWay_14 : decode cX5_runsOnSecondWay 14 = .ok (.iaload, 1) := by decide +kernel
theorem dX5_runsOnSecondWay_15 : decode cX5_runsOnSecondWay 15 = .ok (.ifCond .eq 18, 3) := by decide +kernel
theorem dX5_runsOnSecondWay_18 : decode cX5_runsOnSecondWay 18 = .ok (.aload_n 0, 1) := by decide +kernel
theorem dX5_runsOnSecondWay_19 : decode cX5_runsOnSecondWay 19 = .ok (.getfield 39, 3) := by decide +kernel
theorem dX5_runsOnSecondWay_22 : decode cX5_runsOnSecondWay 22 = .ok (.iload_n 1, 1) := by decide +kernel
theorem dX5_runsOnSecondWay_23 : decode cX5_runsOnSecondWay 23 = .ok (.iaload, 1) := by decide +kernel
theorem dX5_runsOnSecondWay_24 : decode cX5_runsOnSecondWay 24 = .ok (.iload_n 2, 1) := by decide +kernel
theorem dX5_runsOnSecondWay_25 : decode cX5_runsOnSecondWay 25 = .ok (.iand, 1) := by decide +kernel
theorem dX5_runsOnSecondWay_26 : decode cX5_runsOnSecondWay 26 = .ok (.ifCond .ne 7, 3) := by decide +kernel
theorem dX5_runsOnSecondWay_29 : decode cX5_runsOnSecondWay 29 = .ok (.iconst 1, 1) := by decide +kernel
theorem dX5_runsOnSecondWay_30 : decode cX5_runsOnSecondWay 30 = .ok (.goto 4, 3) := by decide +kernel
theorem dX5_runsOnSecondWay_33 : decode cX5_runsOnSecondWay 33 = .ok (.iconst 0, 1) := by decide +kernel
theorem dX5_runsOnSecondWay_34 : decode cX5_runsOnSecondWay 34 = .ok (.ireturn, 1) := by decide +kernel
def F_X5_runsOnSecondWay_e (p0 : Nat)  (q : Bool → Mm → Prop) (x1 : Int32) (x2 : Int32) (μ : Mm) : Prop :=
  Wp_X5_isHit p0 x1 x2 μ (fun b2 μ1 => (((bI b2) = 0 → q false μ1) ∧ (¬ ((bI b2) = 0) → vp_in x1 3 ∧ (((μ1 (p0 + 10) (x1).toNatClampNeg) = 0 → q false μ1) ∧ (¬ ((μ1 (p0 + 10) (x1).toNatClampNeg) = 0) → vp_in x1 3 ∧ ((¬ (((μ1 (p0 + 10) (x1).toNatClampNeg) &&& x2) = 0) → q false μ1) ∧ (((μ1 (p0 + 10) (x1).toNatClampNeg) &&& x2) = 0 → q true μ1)))))))
def Wp_X5_runsOnSecondWay (p0 : Nat) (x1 : Int32) (x2 : Int32) (μ : Mm) (q : Bool → Mm → Prop) : Prop := F_X5_runsOnSecondWay_e p0  q x1 x2 μ
set_option maxHeartbeats 2000000 in
theorem b_X5_runsOnSecondWay_e {p0 : Nat} (h_p0 : isReq p0) {g : GE} {f : FE} {q : Bool → Mm → Prop} (cx : Cx g f cX5_runsOnSecondWay 3 RX5 1 22 0 0) (hr : (f_M f).sig.returnType = (some .boolean)) (hl : (f_M f).locks = false) (hQ : f_Q f = MQ (f_b f) (QW g (qZ q)) (f_a f) (f_s f) 0 0 (fun q => g.2.2.2.1 ≤ q))  {x1 : Int32} {x2 : Int32} {μ : Mm} (h : F_X5_runsOnSecondWay_e p0  q x1 x2 μ) : KW g f 3 0 0 0 [some (.ref p0), some (.int x1), some (.int x2)] [] μ := by
  unfold F_X5_runsOnSecondWay_e at h
  refine k_aload_n cx dX5_runsOnSecondWay_0 rfl rfl ?_
  refine k_iload_n cx dX5_runsOnSecondWay_1 rfl rfl ?_
  refine k_iload_n cx dX5_runsOnSecondWay_2 rfl rfl ?_
  refine k_callV (As := [.int x1, .int x2]) (rest := []) cx (m_X5_isHit h_p0 h) cv_X5_70 (ob_RQ h_p0) rfl rfl rfl rfl (Nat.le_of_ble_eq_true rfl) ⟨Nat.le_of_ble_eq_true rfl, Nat.le_of_ble_eq_true rfl⟩ dX5_runsOnSecondWay_3 (fun v μ1 hq => ?_)
  obtain ⟨b2, rfl, h⟩ := hq
  refine k_if_eq (tgt := 33) cx dX5_runsOnSecondWay_6 (by decide) (fun hc => ?_) (fun hc => ?_)
  · replace h := h.1 hc
    refine k_iconst (v := (0 : Int32)) cx dX5_runsOnSecondWay_33 (by decide +kernel) ?_
    exact k_ret_Z (b := false) cx hr hl hQ dX5_runsOnSecondWay_34 rfl h
  · replace h := h.2 hc
    refine k_aload_n cx dX5_runsOnSecondWay_9 rfl rfl ?_
    refine k_get (o := some (p0 + 10)) (v := .ref (p0 + 10)) cx fl_X5_39 (ob_RQ h_p0) rfl rfl dX5_runsOnSecondWay_10 ?_
    refine k_iload_n cx dX5_runsOnSecondWay_13 rfl rfl ?_
    obtain ⟨hi, h⟩ := h
    refine k_iald cx (ar_RQ h_p0 10 (by decide) (by decide)) hi dX5_runsOnSecondWay_14 ?_
    refine k_if_eq (tgt := 33) cx dX5_runsOnSecondWay_15 (by decide) (fun hc => ?_) (fun hc => ?_)
    · replace h := h.1 hc
      refine k_iconst (v := (0 : Int32)) cx dX5_runsOnSecondWay_33 (by decide +kernel) ?_
      exact k_ret_Z (b := false) cx hr hl hQ dX5_runsOnSecondWay_34 rfl h
    · replace h := h.2 hc
      refine k_aload_n cx dX5_runsOnSecondWay_18 rfl rfl ?_
      refine k_get (o := some (p0 + 10)) (v := .ref (p0 + 10)) cx fl_X5_39 (ob_RQ h_p0) rfl rfl dX5_runsOnSecondWay_19 ?_
      refine k_iload_n cx dX5_runsOnSecondWay_22 rfl rfl ?_
      obtain ⟨hi, h⟩ := h
      refine k_iald cx (ar_RQ h_p0 10 (by decide) (by decide)) hi dX5_runsOnSecondWay_23 ?_
      refine k_iload_n cx dX5_runsOnSecondWay_24 rfl rfl ?_
      refine k_iand cx dX5_runsOnSecondWay_25 ?_
      refine k_if_ne (tgt := 33) cx dX5_runsOnSecondWay_26 (by decide) (fun hc => ?_) (fun hc => ?_)
      · replace h := h.1 hc
        refine k_iconst (v := (0 : Int32)) cx dX5_runsOnSecondWay_33 (by decide +kernel) ?_
        exact k_ret_Z (b := false) cx hr hl hQ dX5_runsOnSecondWay_34 rfl h
      · replace h := h.2 hc
        refine k_iconst (v := (1 : Int32)) cx dX5_runsOnSecondWay_29 (by decide +kernel) ?_
        refine k_goto (tgt := 34) cx dX5_runsOnSecondWay_30 (by decide) ?_
        exact k_ret_Z (b := true) cx hr hl hQ dX5_runsOnSecondWay_34 rfl h
theorem m_X5_runsOnSecondWay {g : GE} {l : Launch} {μ : Mm} {q : Bool → Mm → Prop} {p0 : Nat} {x1 : Int32} {x2 : Int32} (h_p0 : isReq p0) (h : Wp_X5_runsOnSecondWay p0 x1 x2 μ q) : MW g l yX5_runsOnSecondWay cX5_runsOnSecondWay 3 (some .boolean) 1 22 [.ref p0, .int x1, .int x2] μ (qZ q) := by
  refine met_of (by decide) (Nat.le_of_ble_eq_true rfl) (by intro v hv; simp only [List.mem_cons, List.not_mem_nil, or_false] at hv; rcases hv with rfl | rfl | rfl <;> rfl) ?_
  intro f hfl cx hr hl hQ
  exact b_X5_runsOnSecondWay_e h_p0 cx hr hl hQ (h  )
theorem dX5_linesOnSecondWay_0 : decode cX5_linesOnSecondWay 0 = .ok (.iconst 0, 1) := by decide +kernel
theorem dX5_linesOnSecondWay_1 : decode cX5_linesOnSecondWay 1 = .ok (.istore_n 2, 1) := by decide +kernel
theorem dX5_linesOnSecondWay_2 : decode cX5_linesOnSecondWay 2 = .ok (.iconst 0, 1) := by decide +kernel
theorem dX5_linesOnSecondWay_3 : decode cX5_linesOnSecondWay 3 = .ok (.istore_n 3, 1) := by decide +kernel
theorem dX5_linesOnSecondWay_4 : decode cX5_linesOnSecondWay 4 = .ok (.iload_n 3, 1) := by decide +kernel
theorem dX5_linesOnSecondWay_5 : decode cX5_linesOnSecondWay 5 = .ok (.aload_n 0, 1) := by decide +kernel
theorem dX5_linesOnSecondWay_6 : decode cX5_linesOnSecondWay 6 = .ok (.getfield 46, 3) := by decide +kernel
theorem dX5_linesOnSecondWay_9 : decode cX5_linesOnSecondWay 9 = .ok (.if_icmp .ge 26, 3) := by decide +kernel
theorem dX5_linesOnSecondWay_12 : decode cX5_linesOnSecondWay 12 = .ok (.iload_n 2, 1) := by decide +kernel
theorem dX5_linesOnSecondWay_13 : decode cX5_linesOnSecondWay 13 = .ok (.aload_n 0, 1) := by decide +kernel
theorem dX5_linesOnSecondWay_14 : decode cX5_linesOnSecondWay 14 = .ok (.iload_n 3, 1) := by decide +kernel
theorem dX5_linesOnSecondWay_15 : decode cX5_linesOnSecondWay 15 = .ok (.iload_n 1, 1) := by decide +kernel
theorem dX5_linesOnSecondWay_16 : decode cX5_linesOnSecondWay 16 = .ok (.invokevirtual 73, 3) := by decide +kernel
theorem dX5_linesOnSecondWay_19 : decode cX5_linesOnSecondWay 19 = .ok (.ifCond .eq 7, 3) := by decide +kernel
theorem dX5_linesOnSecondWay_22 : decode cX5_linesOnSecondWay 22 = .ok (.iconst 1, 1) := by decide +kernel
theorem dX5_linesOnSecondWay_23 : decode cX5_linesOnSecondWay 23 = .ok (.goto 4, 3) := by decide +kernel
theorem dX5_linesOnSecondWay_26 : decode cX5_linesOnSecondWay 26 = .ok (.iconst 0, 1) := by decide +kernel
theorem dX5_linesOnSecondWay_27 : decode cX5_linesOnSecondWay 27 = .ok (.iadd, 1) := by decide +kernel
theorem dX5_linesOnSecondWay_28 : decode cX5_linesOnSecondWay 28 = .ok (.istore_n 2, 1) := by decide +kernel
theorem dX5_linesOnSecondWay_29 : decode cX5_linesOnSecondWay 29 = .ok (.iinc 3 1, 3) := by decide +kernel
theorem dX5_linesOnSecondWay_32 : decode cX5_linesOnSecondWay 32 = .ok (.goto (-28), 3) := by decide +kernel
theorem dX5_linesOnSecondWay_35 : decode cX5_linesOnSecondWay 35 = .ok (.iload_n 2, 1) := by decide +kernel
theorem dX5_linesOnSecondWay_36 : decode cX5_linesOnSecondWay 36 = .ok (.ireturn, 1) := by decide +kernel
def F_X5_linesOnSecondWay_4 (p0 : Nat) (K4 : Int32 → Int32 → Int32 → Mm → Prop) (q : Int32 → Mm → Prop) (x1 : Int32) (x2 : Int32) (x3 : Int32) (μ : Mm) : Prop :=
  (((μ p0 11) ≤ x3 → q x2 μ) ∧ (¬ ((μ p0 11) ≤ x3) → Wp_X5_runsOnSecondWay p0 x3 x1 μ (fun b2 μ1 => (((bI b2) = 0 → K4 x1 (x2 + (0 : Int32)) (x3 + (1 : Int32)) μ1) ∧ (¬ ((bI b2) = 0) → K4 x1 (x2 + (1 : Int32)) (x3 + (1 : Int32)) μ1)))))
def F_X5_linesOnSecondWay_e (p0 : Nat) (K4 : Int32 → Int32 → Int32 → Mm → Prop) (q : Int32 → Mm → Prop) (x1 : Int32) (μ : Mm) : Prop :=
  K4 x1 (0 : Int32) (0 : Int32) μ
def Wp_X5_linesOnSecondWay (p0 : Nat) (x1 : Int32) (μ : Mm) (q : Int32 → Mm → Prop) : Prop := ∀ (K4 : Int32 → Int32 → Int32 → Mm → Prop), (∀ (x1 : Int32) (x2 : Int32) (x3 : Int32) (μ : Mm), F_X5_linesOnSecondWay_4 p0 K4 q x1 x2 x3 μ → K4 x1 x2 x3 μ) → F_X5_linesOnSecondWay_e p0 K4 q x1 μ
abbrev KK_X5_linesOnSecondWay_4 (g : GE) (f : FE) (p0 : Nat) : Int32 → Int32 → Int32 → Mm → Prop := fun x1 x2 x3 μ => KW g f 4 0 0 4 [some (.ref p0), some (.int x1), some (.int x2), some (.int x3)] [] μ
set_option maxHeartbeats 2000000 in
theorem b_X5_linesOnSecondWay_4 {p0 : Nat} (h_p0 : isReq p0) {g : GE} {f : FE} {q : Int32 → Mm → Prop} (cx : Cx g f cX5_linesOnSecondWay 4 RX5 2 44 0 0) (hr : (f_M f).sig.returnType = (some .int)) (hl : (f_M f).locks = false) (hQ : f_Q f = MQ (f_b f) (QW g (qI q)) (f_a f) (f_s f) 0 0 (fun q => g.2.2.2.1 ≤ q))  {x1 : Int32} {x2 : Int32} {x3 : Int32} {μ : Mm} (h : F_X5_linesOnSecondWay_4 p0 (KK_X5_linesOnSecondWay_4 g f p0) q x1 x2 x3 μ) : KK_X5_linesOnSecondWay_4 g f p0 x1 x2 x3 μ := by
  unfold F_X5_linesOnSecondWay_4 at h
  show KW g f 4 0 0 4 [some (.ref p0), some (.int x1), some (.int x2), some (.int x3)] [] μ
  refine k_iload_n cx dX5_linesOnSecondWay_4 rfl rfl ?_
  refine k_aload_n cx dX5_linesOnSecondWay_5 rfl rfl ?_
  refine k_get (o := none) (v := .int (μ p0 11)) cx fl_X5_46 (ob_RQ h_p0) rfl rfl dX5_linesOnSecondWay_6 ?_
  refine k_icmp_ge (tgt := 35) cx dX5_linesOnSecondWay_9 (by decide) (fun hc => ?_) (fun hc => ?_)
  · replace h := h.1 hc
    refine k_iload_n cx dX5_linesOnSecondWay_35 rfl rfl ?_
    exact k_ret_I cx hr hl hQ dX5_linesOnSecondWay_36 h
  · replace h := h.2 hc
    refine k_iload_n cx dX5_linesOnSecondWay_12 rfl rfl ?_
    refine k_aload_n cx dX5_linesOnSecondWay_13 rfl rfl ?_
    refine k_iload_n cx dX5_linesOnSecondWay_14 rfl rfl ?_
    refine k_iload_n cx dX5_linesOnSecondWay_15 rfl rfl ?_
    refine k_callV (As := [.int x3, .int x1]) (rest := [.int x2]) cx (m_X5_runsOnSecondWay h_p0 h) cv_X5_73 (ob_RQ h_p0) rfl rfl rfl rfl (Nat.le_of_ble_eq_true rfl) ⟨Nat.le_of_ble_eq_true rfl, Nat.le_of_ble_eq_true rfl⟩ dX5_linesOnSecondWay_16 (fun v μ1 hq => ?_)
    obtain ⟨b2, rfl, h⟩ := hq
    refine k_if_eq (tgt := 26) cx dX5_linesOnSecondWay_19 (by decide) (fun hc => ?_) (fun hc => ?_)
    · replace h := h.1 hc
      refine k_iconst (v := (0 : Int32)) cx dX5_linesOnSecondWay_26 (by decide +kernel) ?_
      refine k_iadd cx dX5_linesOnSecondWay_27 ?_
      refine k_istore_n cx dX5_linesOnSecondWay_28 rfl (by decide) ?_
      refine k_iinc (v := (x3 + (1 : Int32))) cx dX5_linesOnSecondWay_29 rfl rfl (by decide) ?_
      refine k_goto (tgt := 4) cx dX5_linesOnSecondWay_32 (by decide) ?_
      exact k_weak h (lsLe.keep (lsLe.keep (lsLe.keep (lsLe.keep lsLe.nil))))
    · replace h := h.2 hc
      refine k_iconst (v := (1 : Int32)) cx dX5_linesOnSecondWay_22 (by decide +kernel) ?_
      refine k_goto (tgt := 27) cx dX5_linesOnSecondWay_23 (by decide) ?_
      refine k_iadd cx dX5_linesOnSecondWay_27 ?_
      refine k_istore_n cx dX5_linesOnSecondWay_28 rfl (by decide) ?_
      refine k_iinc (v := (x3 + (1 : Int32))) cx dX5_linesOnSecondWay_29 rfl rfl (by decide) ?_
      refine k_goto (tgt := 4) cx dX5_linesOnSecondWay_32 (by decide) ?_
      exact k_weak h (lsLe.keep (lsLe.keep (lsLe.keep (lsLe.keep lsLe.nil))))
set_option maxHeartbeats 2000000 in
theorem b_X5_linesOnSecondWay_e {p0 : Nat} (h_p0 : isReq p0) {g : GE} {f : FE} {q : Int32 → Mm → Prop} (cx : Cx g f cX5_linesOnSecondWay 4 RX5 2 44 0 0) (hr : (f_M f).sig.returnType = (some .int)) (hl : (f_M f).locks = false) (hQ : f_Q f = MQ (f_b f) (QW g (qI q)) (f_a f) (f_s f) 0 0 (fun q => g.2.2.2.1 ≤ q))  {x1 : Int32} {μ : Mm} (h : F_X5_linesOnSecondWay_e p0 (KK_X5_linesOnSecondWay_4 g f p0) q x1 μ) : KW g f 4 0 0 0 [some (.ref p0), some (.int x1), none, none] [] μ := by
  unfold F_X5_linesOnSecondWay_e at h
  refine k_iconst (v := (0 : Int32)) cx dX5_linesOnSecondWay_0 (by decide +kernel) ?_
  refine k_istore_n cx dX5_linesOnSecondWay_1 rfl (by decide) ?_
  refine k_iconst (v := (0 : Int32)) cx dX5_linesOnSecondWay_2 (by decide +kernel) ?_
  refine k_istore_n cx dX5_linesOnSecondWay_3 rfl (by decide) ?_
  exact k_weak h (lsLe.keep (lsLe.keep (lsLe.keep (lsLe.keep lsLe.nil))))
theorem m_X5_linesOnSecondWay {g : GE} {l : Launch} {μ : Mm} {q : Int32 → Mm → Prop} {p0 : Nat} {x1 : Int32} (h_p0 : isReq p0) (h : Wp_X5_linesOnSecondWay p0 x1 μ q) : MW g l yX5_linesOnSecondWay cX5_linesOnSecondWay 4 (some .int) 2 44 [.ref p0, .int x1] μ (qI q) := by
  refine met_of (by decide) (Nat.le_of_ble_eq_true rfl) (by intro v hv; simp only [List.mem_cons, List.not_mem_nil, or_false] at hv; rcases hv with rfl | rfl <;> rfl) ?_
  intro f hfl cx hr hl hQ
  exact b_X5_linesOnSecondWay_e h_p0 cx hr hl hQ (h (KK_X5_linesOnSecondWay_4 g f p0) (fun _ _ _ _ h => b_X5_linesOnSecondWay_4 h_p0 cx hr hl hQ h))
theorem dX5_linksOfPart_0 : decode cX5_linksOfPart 0 = .ok (.iconst 0, 1) := by decide +kernel
theorem dX5_linksOfPart_1 : decode cX5_linksOfPart 1 = .ok (.istore_n 2, 1) := by decide +kernel
theorem dX5_linksOfPart_2 : decode cX5_linksOfPart 2 = .ok (.iconst 0, 1) := by decide +kernel
theorem dX5_linksOfPart_3 : decode cX5_linksOfPart 3 = .ok (.istore_n 3, 1) := by decide +kernel
theorem dX5_linksOfPart_4 : decode cX5_linksOfPart 4 = .ok (.iload_n 3, 1) := by decide +kernel
theorem dX5_linksOfPart_5 : decode cX5_linksOfPart 5 = .ok (.aload_n 0, 1) := by decide +kernel
theorem dX5_linksOfPart_6 : decode cX5_linksOfPart 6 = .ok (.getfield 46, 3) := by decide +kernel
theorem dX5_linksOfPart_9 : decode cX5_linksOfPart 9 = .ok (.if_icmp .ge 34, 3) := by decide +kernel
theorem dX5_linksOfPart_12 : decode cX5_linksOfPart 12 = .ok (.iload_n 2, 1) := by decide +kernel
theorem dX5_linksOfPart_13 : decode cX5_linksOfPart 13 = .ok (.aload_n 0, 1) := by decide +kernel
theorem dX5_linksOfPart_14 : decode cX5_linksOfPart 14 = .ok (.iload_n 3, 1) := by decide +kernel
theorem dX5_linksOfPart_15 : decode cX5_linksOfPart 15 = .ok (.iload_n 1, 1) := by decide +kernel
theorem dX5_linksOfPart_16 : decode cX5_linksOfPart 16 = .ok (.invokevirtual 49, 3) := by decide +kernel
theorem dX5_linksOfPart_19 : decode cX5_linksOfPart 19 = .ok (.ifCond .eq 15, 3) := by decide +kernel
theorem dX5_linksOfPart_22 : decode cX5_linksOfPart 22 = .ok (.aload_n 0, 1) := by decide +kernel
theorem dX5_linksOfPart_23 : decode cX5_linksOfPart 23 = .ok (.getfield 30, 3) := by decide +kernel
theorem dX5_linksOfPart_26 : decode cX5_linksOfPart 26 = .ok (.iload_n 3, 1) := by decide +kernel
theorem dX5_linksOfPart_27 : decode cX5_linksOfPart 27 = .ok (.iaload, 1) := by decide +kernel
theorem dX5_linksOfPart_28 : decode cX5_linksOfPart 28 = .ok (.invokestatic 79, 3) := by decide +kernel
theorem dX5_linksOfPart_31 : decode cX5_linksOfPart 31 = .ok (.goto 4, 3) := by decide +kernel
theorem dX5_linksOfPart_34 : decode cX5_linksOfPart 34 = .ok (.iconst 0, 1) := by decide +kernel
theorem dX5_linksOfPart_35 : decode cX5_linksOfPart 35 = .ok (.iadd, 1) := by decide +kernel
theorem dX5_linksOfPart_36 : decode cX5_linksOfPart 36 = .ok (.istore_n 2, 1) := by decide +kernel
theorem dX5_linksOfPart_37 : decode cX5_linksOfPart 37 = .ok (.iinc 3 1, 3) := by decide +kernel
theorem dX5_linksOfPart_40 : decode cX5_linksOfPart 40 = .ok (.goto (-36), 3) := by decide +kernel
theorem dX5_linksOfPart_43 : decode cX5_linksOfPart 43 = .ok (.iload_n 2, 1) := by decide +kernel
theorem dX5_linksOfPart_44 : decode cX5_linksOfPart 44 = .ok (.ireturn, 1) := by decide +kernel
def F_X5_linksOfPart_4 (p0 : Nat) (K4 : Int32 → Int32 → Int32 → Mm → Prop) (q : Int32 → Mm → Prop) (x1 : Int32) (x2 : Int32) (x3 : Int32) (μ : Mm) : Prop :=
  (((μ p0 11) ≤ x3 → q x2 μ) ∧ (¬ ((μ p0 11) ≤ x3) → Wp_X5_isLineOf p0 x3 x1 μ (fun b2 μ1 => (((bI b2) = 0 → K4 x1 (x2 + (0 : Int32)) (x3 + (1 : Int32)) μ1) ∧ (¬ ((bI b2) = 0) → vp_in x3 3 ∧ Wp_J6_bitCount_0f7a4 (μ1 (p0 + 7) (x3).toNatClampNeg) μ1 (fun z4 μ3 => K4 x1 (x2 + z4) (x3 + (1 : Int32)) μ3))))))
def F_X5_linksOfPart_e (p0 : Nat) (K4 : Int32 → Int32 → Int32 → Mm → Prop) (q : Int32 → Mm → Prop) (x1 : Int32) (μ : Mm) : Prop :=
  K4 x1 (0 : Int32) (0 : Int32) μ
def Wp_X5_linksOfPart (p0 : Nat) (x1 : Int32) (μ : Mm) (q : Int32 → Mm → Prop) : Prop := ∀ (K4 : Int32 → Int32 → Int32 → Mm → Prop), (∀ (x1 : Int32) (x2 : Int32) (x3 : Int32) (μ : Mm), F_X5_linksOfPart_4 p0 K4 q x1 x2 x3 μ → K4 x1 x2 x3 μ) → F_X5_linksOfPart_e p0 K4 q x1 μ
abbrev KK_X5_linksOfPart_4 (g : GE) (f : FE) (p0 : Nat) : Int32 → Int32 → Int32 → Mm → Prop := fun x1 x2 x3 μ => KW g f 4 0 0 4 [some (.ref p0), some (.int x1), some (.int x2), some (.int x3)] [] μ
set_option maxHeartbeats 2000000 in
theorem b_X5_linksOfPart_4 {p0 : Nat} (h_p0 : isReq p0) {g : GE} {f : FE} {q : Int32 → Mm → Prop} (cx : Cx g f cX5_linksOfPart 4 RX5 1 22 0 0) (hr : (f_M f).sig.returnType = (some .int)) (hl : (f_M f).locks = false) (hQ : f_Q f = MQ (f_b f) (QW g (qI q)) (f_a f) (f_s f) 0 0 (fun q => g.2.2.2.1 ≤ q))  {x1 : Int32} {x2 : Int32} {x3 : Int32} {μ : Mm} (h : F_X5_linksOfPart_4 p0 (KK_X5_linksOfPart_4 g f p0) q x1 x2 x3 μ) : KK_X5_linksOfPart_4 g f p0 x1 x2 x3 μ := by
  unfold F_X5_linksOfPart_4 at h
  show KW g f 4 0 0 4 [some (.ref p0), some (.int x1), some (.int x2), some (.int x3)] [] μ
  refine k_iload_n cx dX5_linksOfPart_4 rfl rfl ?_
  refine k_aload_n cx dX5_linksOfPart_5 rfl rfl ?_
  refine k_get (o := none) (v := .int (μ p0 11)) cx fl_X5_46 (ob_RQ h_p0) rfl rfl dX5_linksOfPart_6 ?_
  refine k_icmp_ge (tgt := 43) cx dX5_linksOfPart_9 (by decide) (fun hc => ?_) (fun hc => ?_)
  · replace h := h.1 hc
    refine k_iload_n cx dX5_linksOfPart_43 rfl rfl ?_
    exact k_ret_I cx hr hl hQ dX5_linksOfPart_44 h
  · replace h := h.2 hc
    refine k_iload_n cx dX5_linksOfPart_12 rfl rfl ?_
    refine k_aload_n cx dX5_linksOfPart_13 rfl rfl ?_
    refine k_iload_n cx dX5_linksOfPart_14 rfl rfl ?_
    refine k_iload_n cx dX5_linksOfPart_15 rfl rfl ?_
    refine k_callV (As := [.int x3, .int x1]) (rest := [.int x2]) cx (m_X5_isLineOf h_p0 h) cv_X5_49 (ob_RQ h_p0) rfl rfl rfl rfl (Nat.le_of_ble_eq_true rfl) ⟨Nat.le_of_ble_eq_true rfl, Nat.le_of_ble_eq_true rfl⟩ dX5_linksOfPart_16 (fun v μ1 hq => ?_)
    obtain ⟨b2, rfl, h⟩ := hq
    refine k_if_eq (tgt := 34) cx dX5_linksOfPart_19 (by decide) (fun hc => ?_) (fun hc => ?_)
    · replace h := h.1 hc
      refine k_iconst (v := (0 : Int32)) cx dX5_linksOfPart_34 (by decide +kernel) ?_
      refine k_iadd cx dX5_linksOfPart_35 ?_
      refine k_istore_n cx dX5_linksOfPart_36 rfl (by decide) ?_
      refine k_iinc (v := (x3 + (1 : Int32))) cx dX5_linksOfPart_37 rfl rfl (by decide) ?_
      refine k_goto (tgt := 4) cx dX5_linksOfPart_40 (by decide) ?_
      exact k_weak h (lsLe.keep (lsLe.keep (lsLe.keep (lsLe.keep lsLe.nil))))
    · replace h := h.2 hc
      refine k_aload_n cx dX5_linksOfPart_22 rfl rfl ?_
      refine k_get (o := some (p0 + 7)) (v := .ref (p0 + 7)) cx fl_X5_30 (ob_RQ h_p0) rfl rfl dX5_linksOfPart_23 ?_
      refine k_iload_n cx dX5_linksOfPart_26 rfl rfl ?_
      obtain ⟨hi, h⟩ := h
      refine k_iald cx (ar_RQ h_p0 7 (by decide) (by decide)) hi dX5_linksOfPart_27 ?_
      refine k_callS (As := [.int (μ1 (p0 + 7) (x3).toNatClampNeg)]) (rest := [.int x2]) cx (m_J6_bitCount_0f7a4 h) cv_X5_79 rfl rfl (Nat.le_of_ble_eq_true rfl) ⟨Nat.le_of_ble_eq_true rfl, Nat.le_of_ble_eq_true rfl⟩ dX5_linksOfPart_28 (fun v μ3 hq => ?_)
      obtain ⟨z4, rfl, h⟩ := hq
      refine k_goto (tgt := 35) cx dX5_linksOfPart_31 (by decide) ?_
      refine k_iadd cx dX5_linksOfPart_35 ?_
      refine k_istore_n cx dX5_linksOfPart_36 rfl (by decide) ?_
      refine k_iinc (v := (x3 + (1 : Int32))) cx dX5_linksOfPart_37 rfl rfl (by decide) ?_
      refine k_goto (tgt := 4) cx dX5_linksOfPart_40 (by decide) ?_
      exact k_weak h (lsLe.keep (lsLe.keep (lsLe.keep (lsLe.keep lsLe.nil))))
set_option maxHeartbeats 2000000 in
theorem b_X5_linksOfPart_e {p0 : Nat} (h_p0 : isReq p0) {g : GE} {f : FE} {q : Int32 → Mm → Prop} (cx : Cx g f cX5_linksOfPart 4 RX5 1 22 0 0) (hr : (f_M f).sig.returnType = (some .int)) (hl : (f_M f).locks = false) (hQ : f_Q f = MQ (f_b f) (QW g (qI q)) (f_a f) (f_s f) 0 0 (fun q => g.2.2.2.1 ≤ q))  {x1 : Int32} {μ : Mm} (h : F_X5_linksOfPart_e p0 (KK_X5_linksOfPart_4 g f p0) q x1 μ) : KW g f 4 0 0 0 [some (.ref p0), some (.int x1), none, none] [] μ := by
  unfold F_X5_linksOfPart_e at h
  refine k_iconst (v := (0 : Int32)) cx dX5_linksOfPart_0 (by decide +kernel) ?_
  refine k_istore_n cx dX5_linksOfPart_1 rfl (by decide) ?_
  refine k_iconst (v := (0 : Int32)) cx dX5_linksOfPart_2 (by decide +kernel) ?_
  refine k_istore_n cx dX5_linksOfPart_3 rfl (by decide) ?_
  exact k_weak h (lsLe.keep (lsLe.keep (lsLe.keep (lsLe.keep lsLe.nil))))
theorem m_X5_linksOfPart {g : GE} {l : Launch} {μ : Mm} {q : Int32 → Mm → Prop} {p0 : Nat} {x1 : Int32} (h_p0 : isReq p0) (h : Wp_X5_linksOfPart p0 x1 μ q) : MW g l yX5_linksOfPart cX5_linksOfPart 4 (some .int) 1 22 [.ref p0, .int x1] μ (qI q) := by
  refine met_of (by decide) (Nat.le_of_ble_eq_true rfl) (by intro v hv; simp only [List.mem_cons, List.not_mem_nil, or_false] at hv; rcases hv with rfl | rfl <;> rfl) ?_
  intro f hfl cx hr hl hQ
  exact b_X5_linksOfPart_e h_p0 cx hr hl hQ (h (KK_X5_linksOfPart_4 g f p0) (fun _ _ _ _ h => b_X5_linksOfPart_4 h_p0 cx hr hl hQ h))
theorem dX5_loadOn_0 : decode cX5_loadOn 0 = .ok (.iconst 0, 1) := by decide +kernel
theorem dX5_loadOn_1 : decode cX5_loadOn 1 = .ok (.istore_n 3, 1) := by decide +kernel
theorem dX5_loadOn_2 : decode cX5_loadOn 2 = .ok (.iconst 0, 1) := by decide +kernel
theorem dX5_loadOn_3 : decode cX5_loadOn 3 = .ok (.istore 4, 2) := by decide +kernel
theorem dX5_loadOn_5 : decode cX5_loadOn 5 = .ok (.iload 4, 2) := by decide +kernel
theorem dX5_loadOn_7 : decode cX5_loadOn 7 = .ok (.aload_n 0, 1) := by decide +kernel
theorem dX5_loadOn_8 : decode cX5_loadOn 8 = .ok (.getfield 46, 3) := by decide +kernel
theorem dX5_loadOn_11 : decode cX5_loadOn 11 = .ok (.if_icmp .ge 87, 3) := by decide +kernel
theorem dX5_loadOn_14 : decode cX5_loadOn 14 = .ok (.aload_n 0, 1) := by decide +kernel
theorem dX5_loadOn_15 : decode cX5_loadOn 15 = .ok (.iload 4, 2) := by decide +kernel
theorem dX5_loadOn_17 : decode cX5_loadOn 17 = .ok (.iload_n 2, 1) := by decide +kernel
theorem dX5_loadOn_18 : decode cX5_loadOn 18 = .ok (.invokevirtual 70, 3) := by decide +kernel
theorem dX5_loadOn_21 : decode cX5_loadOn 21 = .ok (.ifCond .eq 28, 3) := by decide +kernel
theorem dX5_loadOn_24 : decode cX5_loadOn 24 = .ok (.iload_n 3, 1) := by decide +kernel
theorem dX5_loadOn_25 : decode cX5_loadOn 25 = .ok (.aload_n 0, 1) := by decide +kernel
theorem dX5_loadOn_26 : decode cX5_loadOn 26 = .ok (.getfield 39, 3) := by decide +kernel
theorem dX5_loadOn_29 : decode cX5_loadOn 29 = .ok (.iload 4, 2) := by decide +kernel
theorem dX5_loadOn_31 : decode cX5_loadOn 31 = .ok (.iaload, 1) := by decide +kernel
theorem dX5_loadOn_32 : decode cX5_loadOn 32 = .ok (.iload_n 1, 1) := by decide +kernel
theorem dX5_loadOn_33 : decode cX5_loadOn 33 = .ok (.ishr, 1) := by decide +kernel
theorem dX5_loadOn_34 : decode cX5_loadOn 34 = .ok (.iconst 1, 1) := by decide +kernel
theorem dX5_loadOn_35 : decode cX5_loadOn 35 = .ok (.iand, 1) := by decide +kernel
theorem dX5_loadOn_36 : decode cX5_loadOn 36 = .ok (.aload_n 0, 1) := by decide +kernel
theorem dX5_loadOn_37 : decode cX5_loadOn 37 = .ok (.getfield 27, 3) := by decide +kernel
theorem dX5_loadOn_40 : decode cX5_loadOn 40 = .ok (.iload 4, 2) := by decide +kernel
theorem dX5_loadOn_42 : decode cX5_loadOn 42 = .ok (.iaload, 1) := by decide +kernel
theorem dX5_loadOn_43 : decode cX5_loadOn 43 = .ok (.imul, 1) := by decide +kernel
theorem dX5_loadOn_44 : decode cX5_loadOn 44 = .ok (.iadd, 1) := by decide +kernel
theorem dX5_loadOn_45 : decode cX5_loadOn 45 = .ok (.istore_n 3, 1) := by decide +kernel
theorem dX5_loadOn_46 : decode cX5_loadOn 46 = .ok (.goto 46, 3) := by decide +kernel
theorem dX5_loadOn_49 : decode cX5_loadOn 49 = .ok (.iload_n 3, 1) := by decide +kernel
theorem dX5_loadOn_50 : decode cX5_loadOn 50 = .ok (.aload_n 0, 1) := by decide +kernel
theorem dX5_loadOn_51 : decode cX5_loadOn 51 = .ok (.getfield 30, 3) := by decide +kernel
theorem dX5_loadOn_54 : decode cX5_loadOn 54 = .ok (.iload 4, 2) := by decide +kernel
theorem dX5_loadOn_56 : decode cX5_loadOn 56 = .ok (.iaload, 1) := by decide +kernel
theorem dX5_loadOn_57 : decode cX5_loadOn 57 = .ok (.iload_n 1, 1) := by decide +kernel
theorem dX5_loadOn_58 : decode cX5_loadOn 58 = .ok (.ishr, 1) := by decide +kernel
theorem dX5_loadOn_59 : decode cX5_loadOn 59 = .ok (.iconst 1, 1) := by decide +kernel
theorem dX5_loadOn_60 : decode cX5_loadOn 60 = .ok (.iand, 1) := by decide +kernel
theorem dX5_loadOn_61 : decode cX5_loadOn 61 = .ok (.aload_n 0, 1) := by decide +kernel
theorem dX5_loadOn_62 : decode cX5_loadOn 62 = .ok (.getfield 33, 3) := by decide +kernel
theorem dX5_loadOn_65 : decode cX5_loadOn 65 = .ok (.iload 4, 2) := by decide +kernel
theorem dX5_loadOn_67 : decode cX5_loadOn 67 = .ok (.iaload, 1) := by decide +kernel
theorem dX5_loadOn_68 : decode cX5_loadOn 68 = .ok (.imul, 1) := by decide +kernel
theorem dX5_loadOn_69 : decode cX5_loadOn 69 = .ok (.iadd, 1) := by decide +kernel
theorem dX5_loadOn_70 : decode cX5_loadOn 70 = .ok (.istore_n 3, 1) := by decide +kernel
theorem dX5_loadOn_71 : decode cX5_loadOn 71 = .ok (.iload_n 3, 1) := by decide +kernel
theorem dX5_loadOn_72 : decode cX5_loadOn 72 = .ok (.aload_n 0, 1) := by decide +kernel
theorem dX5_loadOn_73 : decode cX5_loadOn 73 = .ok (.getfield 36, 3) := by decide +kernel
theorem dX5_loadOn_76 : decode cX5_loadOn 76 = .ok (.iload 4, 2) := by decide +kernel
theorem dX5_loadOn_78 : decode cX5_loadOn 78 = .ok (.iaload, 1) := by decide +kernel
theorem dX5_loadOn_79 : decode cX5_loadOn 79 = .ok (.iload_n 1, 1) := by decide +kernel
theorem dX5_loadOn_80 : decode cX5_loadOn 80 = .ok (.ishr, 1) := by decide +kernel
theorem dX5_loadOn_81 : decode cX5_loadOn 81 = .ok (.iconst 1, 1) := by decide +kernel
theorem dX5_loadOn_82 : decode cX5_loadOn 82 = .ok (.iand, 1) := by decide +kernel
theorem dX5_loadOn_83 : decode cX5_loadOn 83 = .ok (.aload_n 0, 1) := by decide +kernel
theorem dX5_loadOn_84 : decode cX5_loadOn 84 = .ok (.iload 4, 2) := by decide +kernel
theorem dX5_loadOn_86 : decode cX5_loadOn 86 = .ok (.invokevirtual 76, 3) := by decide +kernel
theorem dX5_loadOn_89 : decode cX5_loadOn 89 = .ok (.imul, 1) := by decide +kernel
theorem dX5_loadOn_90 : decode cX5_loadOn 90 = .ok (.iadd, 1) := by decide +kernel
theorem dX5_loadOn_91 : decode cX5_loadOn 91 = .ok (.istore_n 3, 1) := by decide +kernel
theorem dX5_loadOn_92 : decode cX5_loadOn 92 = .ok (.iinc 4 1, 3) := by decide +kernel
theorem dX5_loadOn_95 : decode cX5_loadOn 95 = .ok (.goto (-90), 3) := by decide +kernel
theorem dX5_loadOn_98 : decode cX5_loadOn 98 = .ok (.iload_n 3, 1) := by decide +kernel
theorem dX5_loadOn_99 : decode cX5_loadOn 99 = .ok (.ireturn, 1) := by decide +kernel
def F_X5_loadOn_5 (p0 : Nat) (K5 : Int32 → Int32 → Int32 → Int32 → Mm → Prop) (q : Int32 → Mm → Prop) (x1 : Int32) (x2 : Int32) (x3 : Int32) (x4 : Int32) (μ : Mm) : Prop :=
  (((μ p0 11) ≤ x4 → q x3 μ) ∧ (¬ ((μ p0 11) ≤ x4) → Wp_X5_isHit p0 x4 x2 μ (fun b2 μ1 => (((bI b2) = 0 → vp_in x4 3 ∧ vp_in x4 3 ∧ vp_in x4 3 ∧ Wp_X5_restOf p0 x4 μ1 (fun z4 μ3 => K5 x1 x2 ((x3 + ((((μ1 (p0 + 7) (x4).toNatClampNeg) >>> (x1 &&& 31)) &&& (1 : Int32)) * (μ1 (p0 + 8) (x4).toNatClampNeg))) + ((((μ1 (p0 + 9) (x4).toNatClampNeg) >>> (x1 &&& 31)) &&& (1 : Int32)) * z4)) (x4 + (1 : Int32)) μ3)) ∧ (¬ ((bI b2) = 0) → vp_in x4 3 ∧ vp_in x4 3 ∧ K5 x1 x2 (x3 + ((((μ1 (p0 + 10) (x4).toNatClampNeg) >>> (x1 &&& 31)) &&& (1 : Int32)) * (μ1 (p0 + 6) (x4).toNatClampNeg))) (x4 + (1 : Int32)) μ1)))))
def F_X5_loadOn_e (p0 : Nat) (K5 : Int32 → Int32 → Int32 → Int32 → Mm → Prop) (q : Int32 → Mm → Prop) (x1 : Int32) (x2 : Int32) (μ : Mm) : Prop :=
  K5 x1 x2 (0 : Int32) (0 : Int32) μ
def Wp_X5_loadOn (p0 : Nat) (x1 : Int32) (x2 : Int32) (μ : Mm) (q : Int32 → Mm → Prop) : Prop := ∀ (K5 : Int32 → Int32 → Int32 → Int32 → Mm → Prop), (∀ (x1 : Int32) (x2 : Int32) (x3 : Int32) (x4 : Int32) (μ : Mm), F_X5_loadOn_5 p0 K5 q x1 x2 x3 x4 μ → K5 x1 x2 x3 x4 μ) → F_X5_loadOn_e p0 K5 q x1 x2 μ
abbrev KK_X5_loadOn_5 (g : GE) (f : FE) (p0 : Nat) : Int32 → Int32 → Int32 → Int32 → Mm → Prop := fun x1 x2 x3 x4 μ => KW g f 5 0 0 5 [some (.ref p0), some (.int x1), some (.int x2), some (.int x3), some (.int x4)] [] μ
set_option maxHeartbeats 2000000 in
theorem b_X5_loadOn_5 {p0 : Nat} (h_p0 : isReq p0) {g : GE} {f : FE} {q : Int32 → Mm → Prop} (cx : Cx g f cX5_loadOn 5 RX5 1 22 0 0) (hr : (f_M f).sig.returnType = (some .int)) (hl : (f_M f).locks = false) (hQ : f_Q f = MQ (f_b f) (QW g (qI q)) (f_a f) (f_s f) 0 0 (fun q => g.2.2.2.1 ≤ q))  {x1 : Int32} {x2 : Int32} {x3 : Int32} {x4 : Int32} {μ : Mm} (h : F_X5_loadOn_5 p0 (KK_X5_loadOn_5 g f p0) q x1 x2 x3 x4 μ) : KK_X5_loadOn_5 g f p0 x1 x2 x3 x4 μ := by
  unfold F_X5_loadOn_5 at h
  show KW g f 5 0 0 5 [some (.ref p0), some (.int x1), some (.int x2), some (.int x3), some (.int x4)] [] μ
  refine k_iload cx dX5_loadOn_5 rfl ?_
  refine k_aload_n cx dX5_loadOn_7 rfl rfl ?_
  refine k_get (o := none) (v := .int (μ p0 11)) cx fl_X5_46 (ob_RQ h_p0) rfl rfl dX5_loadOn_8 ?_
  refine k_icmp_ge (tgt := 98) cx dX5_loadOn_11 (by decide) (fun hc => ?_) (fun hc => ?_)
  · replace h := h.1 hc
    refine k_iload_n cx dX5_loadOn_98 rfl rfl ?_
    exact k_ret_I cx hr hl hQ dX5_loadOn_99 h
  · replace h := h.2 hc
    refine k_aload_n cx dX5_loadOn_14 rfl rfl ?_
    refine k_iload cx dX5_loadOn_15 rfl ?_
    refine k_iload_n cx dX5_loadOn_17 rfl rfl ?_
    refine k_callV (As := [.int x4, .int x2]) (rest := []) cx (m_X5_isHit h_p0 h) cv_X5_70 (ob_RQ h_p0) rfl rfl rfl rfl (Nat.le_of_ble_eq_true rfl) ⟨Nat.le_of_ble_eq_true rfl, Nat.le_of_ble_eq_true rfl⟩ dX5_loadOn_18 (fun v μ1 hq => ?_)
    obtain ⟨b2, rfl, h⟩ := hq
    refine k_if_eq (tgt := 49) cx dX5_loadOn_21 (by decide) (fun hc => ?_) (fun hc => ?_)
    · replace h := h.1 hc
      refine k_iload_n cx dX5_loadOn_49 rfl rfl ?_
      refine k_aload_n cx dX5_loadOn_50 rfl rfl ?_
      refine k_get (o := some (p0 + 7)) (v := .ref (p0 + 7)) cx fl_X5_30 (ob_RQ h_p0) rfl rfl dX5_loadOn_51 ?_
      refine k_iload cx dX5_loadOn_54 rfl ?_
      obtain ⟨hi, h⟩ := h
      refine k_iald cx (ar_RQ h_p0 7 (by decide) (by decide)) hi dX5_loadOn_56 ?_
      refine k_iload_n cx dX5_loadOn_57 rfl rfl ?_
      refine k_ishr cx dX5_loadOn_58 ?_
      refine k_iconst (v := (1 : Int32)) cx dX5_loadOn_59 (by decide +kernel) ?_
      refine k_iand cx dX5_loadOn_60 ?_
      refine k_aload_n cx dX5_loadOn_61 rfl rfl ?_
      refine k_get (o := some (p0 + 8)) (v := .ref (p0 + 8)) cx fl_X5_33 (ob_RQ h_p0) rfl rfl dX5_loadOn_62 ?_
      refine k_iload cx dX5_loadOn_65 rfl ?_
      obtain ⟨hi, h⟩ := h
      refine k_iald cx (ar_RQ h_p0 8 (by decide) (by decide)) hi dX5_loadOn_67 ?_
      refine k_imul cx dX5_loadOn_68 ?_
      refine k_iadd cx dX5_loadOn_69 ?_
      refine k_istore_n cx dX5_loadOn_70 rfl (by decide) ?_
      refine k_iload_n cx dX5_loadOn_71 rfl rfl ?_
      refine k_aload_n cx dX5_loadOn_72 rfl rfl ?_
      refine k_get (o := some (p0 + 9)) (v := .ref (p0 + 9)) cx fl_X5_36 (ob_RQ h_p0) rfl rfl dX5_loadOn_73 ?_
      refine k_iload cx dX5_loadOn_76 rfl ?_
      obtain ⟨hi, h⟩ := h
      refine k_iald cx (ar_RQ h_p0 9 (by decide) (by decide)) hi dX5_loadOn_78 ?_
      refine k_iload_n cx dX5_loadOn_79 rfl rfl ?_
      refine k_ishr cx dX5_loadOn_80 ?_
      refine k_iconst (v := (1 : Int32)) cx dX5_loadOn_81 (by decide +kernel) ?_
      refine k_iand cx dX5_loadOn_82 ?_
      refine k_aload_n cx dX5_loadOn_83 rfl rfl ?_
      refine k_iload cx dX5_loadOn_84 rfl ?_
      refine k_callV (As := [.int x4]) (rest := [.int (((μ1 (p0 + 9) (x4).toNatClampNeg) >>> (x1 &&& 31)) &&& (1 : Int32)), .int (x3 + ((((μ1 (p0 + 7) (x4).toNatClampNeg) >>> (x1 &&& 31)) &&& (1 : Int32)) * (μ1 (p0 + 8) (x4).toNatClampNeg)))]) cx (m_X5_restOf h_p0 h) cv_X5_76 (ob_RQ h_p0) rfl rfl rfl rfl (Nat.le_of_ble_eq_true rfl) ⟨Nat.le_of_ble_eq_true rfl, Nat.le_of_ble_eq_true rfl⟩ dX5_loadOn_86 (fun v μ3 hq => ?_)
      obtain ⟨z4, rfl, h⟩ := hq
      refine k_imul cx dX5_loadOn_89 ?_
      refine k_iadd cx dX5_loadOn_90 ?_
      refine k_istore_n cx dX5_loadOn_91 rfl (by decide) ?_
      refine k_iinc (v := (x4 + (1 : Int32))) cx dX5_loadOn_92 rfl rfl (by decide) ?_
      refine k_goto (tgt := 5) cx dX5_loadOn_95 (by decide) ?_
      exact k_weak h (lsLe.keep (lsLe.keep (lsLe.keep (lsLe.keep (lsLe.keep lsLe.nil)))))
    · replace h := h.2 hc
      refine k_iload_n cx dX5_loadOn_24 rfl rfl ?_
      refine k_aload_n cx dX5_loadOn_25 rfl rfl ?_
      refine k_get (o := some (p0 + 10)) (v := .ref (p0 + 10)) cx fl_X5_39 (ob_RQ h_p0) rfl rfl dX5_loadOn_26 ?_
      refine k_iload cx dX5_loadOn_29 rfl ?_
      obtain ⟨hi, h⟩ := h
      refine k_iald cx (ar_RQ h_p0 10 (by decide) (by decide)) hi dX5_loadOn_31 ?_
      refine k_iload_n cx dX5_loadOn_32 rfl rfl ?_
      refine k_ishr cx dX5_loadOn_33 ?_
      refine k_iconst (v := (1 : Int32)) cx dX5_loadOn_34 (by decide +kernel) ?_
      refine k_iand cx dX5_loadOn_35 ?_
      refine k_aload_n cx dX5_loadOn_36 rfl rfl ?_
      refine k_get (o := some (p0 + 6)) (v := .ref (p0 + 6)) cx fl_X5_27 (ob_RQ h_p0) rfl rfl dX5_loadOn_37 ?_
      refine k_iload cx dX5_loadOn_40 rfl ?_
      obtain ⟨hi, h⟩ := h
      refine k_iald cx (ar_RQ h_p0 6 (by decide) (by decide)) hi dX5_loadOn_42 ?_
      refine k_imul cx dX5_loadOn_43 ?_
      refine k_iadd cx dX5_loadOn_44 ?_
      refine k_istore_n cx dX5_loadOn_45 rfl (by decide) ?_
      refine k_goto (tgt := 92) cx dX5_loadOn_46 (by decide) ?_
      refine k_iinc (v := (x4 + (1 : Int32))) cx dX5_loadOn_92 rfl rfl (by decide) ?_
      refine k_goto (tgt := 5) cx dX5_loadOn_95 (by decide) ?_
      exact k_weak h (lsLe.keep (lsLe.keep (lsLe.keep (lsLe.keep (lsLe.keep lsLe.nil)))))
set_option maxHeartbeats 2000000 in
theorem b_X5_loadOn_e {p0 : Nat} (h_p0 : isReq p0) {g : GE} {f : FE} {q : Int32 → Mm → Prop} (cx : Cx g f cX5_loadOn 5 RX5 1 22 0 0) (hr : (f_M f).sig.returnType = (some .int)) (hl : (f_M f).locks = false) (hQ : f_Q f = MQ (f_b f) (QW g (qI q)) (f_a f) (f_s f) 0 0 (fun q => g.2.2.2.1 ≤ q))  {x1 : Int32} {x2 : Int32} {μ : Mm} (h : F_X5_loadOn_e p0 (KK_X5_loadOn_5 g f p0) q x1 x2 μ) : KW g f 5 0 0 0 [some (.ref p0), some (.int x1), some (.int x2), none, none] [] μ := by
  unfold F_X5_loadOn_e at h
  refine k_iconst (v := (0 : Int32)) cx dX5_loadOn_0 (by decide +kernel) ?_
  refine k_istore_n cx dX5_loadOn_1 rfl (by decide) ?_
  refine k_iconst (v := (0 : Int32)) cx dX5_loadOn_2 (by decide +kernel) ?_
  refine k_istore cx dX5_loadOn_3 (by decide) ?_
  exact k_weak h (lsLe.keep (lsLe.keep (lsLe.keep (lsLe.keep (lsLe.keep lsLe.nil)))))
theorem m_X5_loadOn {g : GE} {l : Launch} {μ : Mm} {q : Int32 → Mm → Prop} {p0 : Nat} {x1 : Int32} {x2 : Int32} (h_p0 : isReq p0) (h : Wp_X5_loadOn p0 x1 x2 μ q) : MW g l yX5_loadOn cX5_loadOn 5 (some .int) 1 22 [.ref p0, .int x1, .int x2] μ (qI q) := by
  refine met_of (by decide) (Nat.le_of_ble_eq_true rfl) (by intro v hv; simp only [List.mem_cons, List.not_mem_nil, or_false] at hv; rcases hv with rfl | rfl | rfl <;> rfl) ?_
  intro f hfl cx hr hl hQ
  exact b_X5_loadOn_e h_p0 cx hr hl hQ (h (KK_X5_loadOn_5 g f p0) (fun _ _ _ _ _ h => b_X5_loadOn_5 h_p0 cx hr hl hQ h))
theorem dX5_stoppedLines_0 : decode cX5_stoppedLines 0 = .ok (.iconst 0, 1) := by decide +kernel
theorem dX5_stoppedLines_1 : decode cX5_stoppedLines 1 = .ok (.istore_n 2, 1) := by decide +kernel
theorem dX5_stoppedLines_2 : decode cX5_stoppedLines 2 = .ok (.iconst 0, 1) := by decide +kernel
theorem dX5_stoppedLines_3 : decode cX5_stoppedLines 3 = .ok (.istore_n 3, 1) := by decide +kernel
theorem dX5_stoppedLines_4 : decode cX5_stoppedLines 4 = .ok (.iload_n 3, 1) := by decide +kernel
theorem dX5_stoppedLines_5 : decode cX5_stoppedLines 5 = .ok (.aload_n 0, 1) := by decide +kernel
theorem dX5_stoppedLines_6 : decode cX5_stoppedLines 6 = .ok (.getfield 46, 3) := by decide +kernel
theorem dX5_stoppedLines_9 : decode cX5_stoppedLines 9 = .ok (.if_icmp .ge 35, 3) := by decide +kernel
theorem dX5_stoppedLines_12 : decode cX5_stoppedLines 12 = .ok (.iload_n 2, 1) := by decide +kernel
theorem dX5_stoppedLines_13 : decode cX5_stoppedLines 13 = .ok (.aload_n 0, 1) := by decide +kernel
theorem dX5_stoppedLines_14 : decode cX5_stoppedLines 14 = .ok (.iload_n 3, 1) := by decide +kernel
theorem dX5_stoppedLines_15 : decode cX5_stoppedLines 15 = .ok (.iload_n 1, 1) := by decide +kernel
theorem dX5_stoppedLines_16 : decode cX5_stoppedLines 16 = .ok (.invokevirtual 70, 3) := by decide +kernel
theorem dX5_stoppedLines_19 : decode cX5_stoppedLines 19 = .ok (.ifCond .eq 16, 3) := by decide +kernel
theorem dX5_stoppedLines_22 : decode cX5_stoppedLines 22 = .ok (.aload_n 0, 1) := by decide +kernel
theorem dX5_stoppedLines_23 : decode cX5_stoppedLines 23 = .ok (.iload_n 3, 1) := by decide +kernel
theorem dX5_stoppedLines_24 : decode cX5_stoppedLines 24 = .ok (.iload_n 1, 1) := by decide +kernel
theorem dX5_stoppedLines_25 : decode cX5_stoppedLines 25 = .ok (.invokevirtual 73, 3) := by decide +kernel
theorem dX5_stoppedLines_28 : decode cX5_stoppedLines 28 = .ok (.ifCond .ne 7, 3) := by decide +kernel
theorem dX5_stoppedLines_31 : decode cX5_stoppedLines 31 = .ok (.iconst 1, 1) := by decide +kernel
theorem dX5_stoppedLines_32 : decode cX5_stoppedLines 32 = .ok (.goto 4, 3) := by decide +kernel
theorem dX5_stoppedLines_35 : decode cX5_stoppedLines 35 = .ok (.iconst 0, 1) := by decide +kernel
theorem dX5_stoppedLines_36 : decode cX5_stoppedLines 36 = .ok (.iadd, 1) := by decide +kernel
theorem dX5_stoppedLines_37 : decode cX5_stoppedLines 37 = .ok (.istore_n 2, 1) := by decide +kernel
theorem dX5_stoppedLines_38 : decode cX5_stoppedLines 38 = .ok (.iinc 3 1, 3) := by decide +kernel
theorem dX5_stoppedLines_41 : decode cX5_stoppedLines 41 = .ok (.goto (-37), 3) := by decide +kernel
theorem dX5_stoppedLines_44 : decode cX5_stoppedLines 44 = .ok (.iload_n 2, 1) := by decide +kernel
theorem dX5_stoppedLines_45 : decode cX5_stoppedLines 45 = .ok (.ireturn, 1) := by decide +kernel
def F_X5_stoppedLines_4 (p0 : Nat) (K4 : Int32 → Int32 → Int32 → Mm → Prop) (q : Int32 → Mm → Prop) (x1 : Int32) (x2 : Int32) (x3 : Int32) (μ : Mm) : Prop :=
  (((μ p0 11) ≤ x3 → q x2 μ) ∧ (¬ ((μ p0 11) ≤ x3) → Wp_X5_isHit p0 x3 x1 μ (fun b2 μ1 => (((bI b2) = 0 → K4 x1 (x2 + (0 : Int32)) (x3 + (1 : Int32)) μ1) ∧ (¬ ((bI b2) = 0) → Wp_X5_runsOnSecondWay p0 x3 x1 μ1 (fun b4 μ3 => ((¬ ((bI b4) = 0) → K4 x1 (x2 + (0 : Int32)) (x3 + (1 : Int32)) μ3) ∧ ((bI b4) = 0 → K4 x1 (x2 + (1 : Int32)) (x3 + (1 : Int32)) μ3))))))))
def F_X5_stoppedLines_e (p0 : Nat) (K4 : Int32 → Int32 → Int32 → Mm → Prop) (q : Int32 → Mm → Prop) (x1 : Int32) (μ : Mm) : Prop :=
  K4 x1 (0 : Int32) (0 : Int32) μ
def Wp_X5_stoppedLines (p0 : Nat) (x1 : Int32) (μ : Mm) (q : Int32 → Mm → Prop) : Prop := ∀ (K4 : Int32 → Int32 → Int32 → Mm → Prop), (∀ (x1 : Int32) (x2 : Int32) (x3 : Int32) (μ : Mm), F_X5_stoppedLines_4 p0 K4 q x1 x2 x3 μ → K4 x1 x2 x3 μ) → F_X5_stoppedLines_e p0 K4 q x1 μ
abbrev KK_X5_stoppedLines_4 (g : GE) (f : FE) (p0 : Nat) : Int32 → Int32 → Int32 → Mm → Prop := fun x1 x2 x3 μ => KW g f 4 0 0 4 [some (.ref p0), some (.int x1), some (.int x2), some (.int x3)] [] μ
set_option maxHeartbeats 2000000 in
theorem b_X5_stoppedLines_4 {p0 : Nat} (h_p0 : isReq p0) {g : GE} {f : FE} {q : Int32 → Mm → Prop} (cx : Cx g f cX5_stoppedLines 4 RX5 2 44 0 0) (hr : (f_M f).sig.returnType = (some .int)) (hl : (f_M f).locks = false) (hQ : f_Q f = MQ (f_b f) (QW g (qI q)) (f_a f) (f_s f) 0 0 (fun q => g.2.2.2.1 ≤ q))  {x1 : Int32} {x2 : Int32} {x3 : Int32} {μ : Mm} (h : F_X5_stoppedLines_4 p0 (KK_X5_stoppedLines_4 g f p0) q x1 x2 x3 μ) : KK_X5_stoppedLines_4 g f p0 x1 x2 x3 μ := by
  unfold F_X5_stoppedLines_4 at h
  show KW g f 4 0 0 4 [some (.ref p0), some (.int x1), some (.int x2), some (.int x3)] [] μ
  refine k_iload_n cx dX5_stoppedLines_4 rfl rfl ?_
  refine k_aload_n cx dX5_stoppedLines_5 rfl rfl ?_
  refine k_get (o := none) (v := .int (μ p0 11)) cx fl_X5_46 (ob_RQ h_p0) rfl rfl dX5_stoppedLines_6 ?_
  refine k_icmp_ge (tgt := 44) cx dX5_stoppedLines_9 (by decide) (fun hc => ?_) (fun hc => ?_)
  · replace h := h.1 hc
    refine k_iload_n cx dX5_stoppedLines_44 rfl rfl ?_
    exact k_ret_I cx hr hl hQ dX5_stoppedLines_45 h
  · replace h := h.2 hc
    refine k_iload_n cx dX5_stoppedLines_12 rfl rfl ?_
    refine k_aload_n cx dX5_stoppedLines_13 rfl rfl ?_
    refine k_iload_n cx dX5_stoppedLines_14 rfl rfl ?_
    refine k_iload_n cx dX5_stoppedLines_15 rfl rfl ?_
    refine k_callV (As := [.int x3, .int x1]) (rest := [.int x2]) cx (m_X5_isHit h_p0 h) cv_X5_70 (ob_RQ h_p0) rfl rfl rfl rfl (Nat.le_of_ble_eq_true rfl) ⟨Nat.le_of_ble_eq_true rfl, Nat.le_of_ble_eq_true rfl⟩ dX5_stoppedLines_16 (fun v μ1 hq => ?_)
    obtain ⟨b2, rfl, h⟩ := hq
    refine k_if_eq (tgt := 35) cx dX5_stoppedLines_19 (by decide) (fun hc => ?_) (fun hc => ?_)
    · replace h := h.1 hc
      refine k_iconst (v := (0 : Int32)) cx dX5_stoppedLines_35 (by decide +kernel) ?_
      refine k_iadd cx dX5_stoppedLines_36 ?_
      refine k_istore_n cx dX5_stoppedLines_37 rfl (by decide) ?_
      refine k_iinc (v := (x3 + (1 : Int32))) cx dX5_stoppedLines_38 rfl rfl (by decide) ?_
      refine k_goto (tgt := 4) cx dX5_stoppedLines_41 (by decide) ?_
      exact k_weak h (lsLe.keep (lsLe.keep (lsLe.keep (lsLe.keep lsLe.nil))))
    · replace h := h.2 hc
      refine k_aload_n cx dX5_stoppedLines_22 rfl rfl ?_
      refine k_iload_n cx dX5_stoppedLines_23 rfl rfl ?_
      refine k_iload_n cx dX5_stoppedLines_24 rfl rfl ?_
      refine k_callV (As := [.int x3, .int x1]) (rest := [.int x2]) cx (m_X5_runsOnSecondWay h_p0 h) cv_X5_73 (ob_RQ h_p0) rfl rfl rfl rfl (Nat.le_of_ble_eq_true rfl) ⟨Nat.le_of_ble_eq_true rfl, Nat.le_of_ble_eq_true rfl⟩ dX5_stoppedLines_25 (fun v μ3 hq => ?_)
      obtain ⟨b4, rfl, h⟩ := hq
      refine k_if_ne (tgt := 35) cx dX5_stoppedLines_28 (by decide) (fun hc => ?_) (fun hc => ?_)
      · replace h := h.1 hc
        refine k_iconst (v := (0 : Int32)) cx dX5_stoppedLines_35 (by decide +kernel) ?_
        refine k_iadd cx dX5_stoppedLines_36 ?_
        refine k_istore_n cx dX5_stoppedLines_37 rfl (by decide) ?_
        refine k_iinc (v := (x3 + (1 : Int32))) cx dX5_stoppedLines_38 rfl rfl (by decide) ?_
        refine k_goto (tgt := 4) cx dX5_stoppedLines_41 (by decide) ?_
        exact k_weak h (lsLe.keep (lsLe.keep (lsLe.keep (lsLe.keep lsLe.nil))))
      · replace h := h.2 hc
        refine k_iconst (v := (1 : Int32)) cx dX5_stoppedLines_31 (by decide +kernel) ?_
        refine k_goto (tgt := 36) cx dX5_stoppedLines_32 (by decide) ?_
        refine k_iadd cx dX5_stoppedLines_36 ?_
        refine k_istore_n cx dX5_stoppedLines_37 rfl (by decide) ?_
        refine k_iinc (v := (x3 + (1 : Int32))) cx dX5_stoppedLines_38 rfl rfl (by decide) ?_
        refine k_goto (tgt := 4) cx dX5_stoppedLines_41 (by decide) ?_
        exact k_weak h (lsLe.keep (lsLe.keep (lsLe.keep (lsLe.keep lsLe.nil))))
set_option maxHeartbeats 2000000 in
theorem b_X5_stoppedLines_e {p0 : Nat} (h_p0 : isReq p0) {g : GE} {f : FE} {q : Int32 → Mm → Prop} (cx : Cx g f cX5_stoppedLines 4 RX5 2 44 0 0) (hr : (f_M f).sig.returnType = (some .int)) (hl : (f_M f).locks = false) (hQ : f_Q f = MQ (f_b f) (QW g (qI q)) (f_a f) (f_s f) 0 0 (fun q => g.2.2.2.1 ≤ q))  {x1 : Int32} {μ : Mm} (h : F_X5_stoppedLines_e p0 (KK_X5_stoppedLines_4 g f p0) q x1 μ) : KW g f 4 0 0 0 [some (.ref p0), some (.int x1), none, none] [] μ := by
  unfold F_X5_stoppedLines_e at h
  refine k_iconst (v := (0 : Int32)) cx dX5_stoppedLines_0 (by decide +kernel) ?_
  refine k_istore_n cx dX5_stoppedLines_1 rfl (by decide) ?_
  refine k_iconst (v := (0 : Int32)) cx dX5_stoppedLines_2 (by decide +kernel) ?_
  refine k_istore_n cx dX5_stoppedLines_3 rfl (by decide) ?_
  exact k_weak h (lsLe.keep (lsLe.keep (lsLe.keep (lsLe.keep lsLe.nil))))
theorem m_X5_stoppedLines {g : GE} {l : Launch} {μ : Mm} {q : Int32 → Mm → Prop} {p0 : Nat} {x1 : Int32} (h_p0 : isReq p0) (h : Wp_X5_stoppedLines p0 x1 μ q) : MW g l yX5_stoppedLines cX5_stoppedLines 4 (some .int) 2 44 [.ref p0, .int x1] μ (qI q) := by
  refine met_of (by decide) (Nat.le_of_ble_eq_true rfl) (by intro v hv; simp only [List.mem_cons, List.not_mem_nil, or_false] at hv; rcases hv with rfl | rfl <;> rfl) ?_
  intro f hfl cx hr hl hQ
  exact b_X5_stoppedLines_e h_p0 cx hr hl hQ (h (KK_X5_stoppedLines_4 g f p0) (fun _ _ _ _ h => b_X5_stoppedLines_4 h_p0 cx hr hl hQ h))
theorem dX7_isPlaced_0 : decode cX7_isPlaced 0 = .ok (.iload_n 1, 1) := by decide +kernel
theorem dX7_isPlaced_1 : decode cX7_isPlaced 1 = .ok (.ifCond .lt 15, 3) := by decide +kernel
theorem dX7_isPlaced_4 : decode cX7_isPlaced 4 = .ok (.iload_n 1, 1) := by decide +kernel
theorem dX7_isPlaced_5 : decode cX7_isPlaced 5 = .ok (.aload_n 0, 1) := by decide +kernel
theorem dX7_isPlaced_6 : decode cX7_isPlaced 6 = .ok (.getfield 110, 3) := by decide +kernel
theorem dX7_isPlaced_9 : decode cX7_isPlaced 9 = .ok (.if_icmp .ge 7, 3) := by decide +kernel
theorem dX7_isPlaced_12 : decode cX7_isPlaced 12 = .ok (.iconst 1, 1) := by decide +kernel
theorem dX7_isPlaced_13 : decode cX7_isPlaced 13 = .ok (.goto 4, 3) := by decide +kernel
theorem dX7_isPlaced_16 : decode cX7_isPlaced 16 = .ok (.iconst 0, 1) := by decide +kernel
theorem dX7_isPlaced_17 : decode cX7_isPlaced 17 = .ok (.ireturn, 1) := by decide +kernel
def F_X7_isPlaced_e   (q : Bool → Mm → Prop) (x1 : Int32) (μ : Mm) : Prop :=
  ((x1 < 0 → q false μ) ∧ (¬ (x1 < 0) → (((μ p_ML 6) ≤ x1 → q false μ) ∧ (¬ ((μ p_ML 6) ≤ x1) → q true μ))))
def Wp_X7_isPlaced  (x1 : Int32) (μ : Mm) (q : Bool → Mm → Prop) : Prop := F_X7_isPlaced_e   q x1 μ
set_option maxHeartbeats 2000000 in
theorem b_X7_isPlaced_e  {g : GE} {f : FE} {q : Bool → Mm → Prop} (cx : Cx g f cX7_isPlaced 2 RX7 0 0 0 0) (hr : (f_M f).sig.returnType = (some .boolean)) (hl : (f_M f).locks = false) (hQ : f_Q f = MQ (f_b f) (QW g (qZ q)) (f_a f) (f_s f) 0 0 (fun q => g.2.2.2.1 ≤ q))  {x1 : Int32} {μ : Mm} (h : F_X7_isPlaced_e   q x1 μ) : KW g f 2 0 0 0 [some (.ref p_ML), some (.int x1)] [] μ := by
  unfold F_X7_isPlaced_e at h
  refine k_iload_n cx dX7_isPlaced_0 rfl rfl ?_
  refine k_if_lt (tgt := 16) cx dX7_isPlaced_1 (by decide) (fun hc => ?_) (fun hc => ?_)
  · replace h := h.1 hc
    refine k_iconst (v := (0 : Int32)) cx dX7_isPlaced_16 (by decide +kernel) ?_
    exact k_ret_Z (b := false) cx hr hl hQ dX7_isPlaced_17 rfl h
  · replace h := h.2 hc
    refine k_iload_n cx dX7_isPlaced_4 rfl rfl ?_
    refine k_aload_n cx dX7_isPlaced_5 rfl rfl ?_
    refine k_get (o := none) (v := .int (μ p_ML 6)) cx fl_X7_110 ob_ML rfl rfl dX7_isPlaced_6 ?_
    refine k_icmp_ge (tgt := 16) cx dX7_isPlaced_9 (by decide) (fun hc => ?_) (fun hc => ?_)
    · replace h := h.1 hc
      refine k_iconst (v := (0 : Int32)) cx dX7_isPlaced_16 (by decide +kernel) ?_
      exact k_ret_Z (b := false) cx hr hl hQ dX7_isPlaced_17 rfl h
    · replace h := h.2 hc
      refine k_iconst (v := (1 : Int32)) cx dX7_isPlaced_12 (by decide +kernel) ?_
      refine k_goto (tgt := 17) cx dX7_isPlaced_13 (by decide) ?_
      exact k_ret_Z (b := true) cx hr hl hQ dX7_isPlaced_17 rfl h
theorem m_X7_isPlaced {g : GE} {l : Launch} {μ : Mm} {q : Bool → Mm → Prop} {x1 : Int32}  (h : Wp_X7_isPlaced  x1 μ q) : MW g l yX7_isPlaced cX7_isPlaced 2 (some .boolean) 0 0 [.ref p_ML, .int x1] μ (qZ q) := by
  refine met_of (by decide) (Nat.le_of_ble_eq_true rfl) (by intro v hv; simp only [List.mem_cons, List.not_mem_nil, or_false] at hv; rcases hv with rfl | rfl <;> rfl) ?_
  intro f hfl cx hr hl hQ
  exact b_X7_isPlaced_e  cx hr hl hQ (h  )
theorem dX7_draft_0 : decode cX7_draft 0 = .ok (.aload_n 0, 1) := by decide +kernel
theorem dX7_draft_1 : decode cX7_draft 1 = .ok (.getfield 52, 3) := by decide +kernel
theorem dX7_draft_4 : decode cX7_draft 4 = .ok (.aload_n 0, 1) := by decide +kernel
theorem dX7_draft_5 : decode cX7_draft 5 = .ok (.getfield 110, 3) := by decide +kernel
theorem dX7_draft_8 : decode cX7_draft 8 = .ok (.aaload, 1) := by decide +kernel
theorem dX7_draft_9 : decode cX7_draft 9 = .ok (.areturn, 1) := by decide +kernel
def F_X7_draft_e   (q : Nat → Mm → Prop)  (μ : Mm) : Prop :=
  vp_in (μ p_ML 6) 13 ∧ q (p_RQ + 11 * ((μ p_ML 6)).toNatClampNeg) μ
def Wp_X7_draft   (μ : Mm) (q : Nat → Mm → Prop) : Prop := F_X7_draft_e   q  μ
set_option maxHeartbeats 2000000 in
theorem b_X7_draft_e  {g : GE} {f : FE} {q : Nat → Mm → Prop} (cx : Cx g f cX7_draft 1 RX7 0 0 0 0) (hr : (f_M f).sig.returnType = (some (.object "MeshLodger$Request"))) (hl : (f_M f).locks = false) (hQ : f_Q f = MQ (f_b f) (QW g (qR q)) (f_a f) (f_s f) 0 0 (fun q => g.2.2.2.1 ≤ q))   {μ : Mm} (h : F_X7_draft_e   q  μ) : KW g f 1 0 0 0 [some (.ref p_ML)] [] μ := by
  unfold F_X7_draft_e at h
  refine k_aload_n cx dX7_draft_0 rfl rfl ?_
  refine k_get (o := some p_ML_requests) (v := .ref p_ML_requests) cx fl_X7_52 ob_ML rfl rfl dX7_draft_1 ?_
  refine k_aload_n cx dX7_draft_4 rfl rfl ?_
  refine k_get (o := none) (v := .int (μ p_ML 6)) cx fl_X7_110 ob_ML rfl rfl dX7_draft_5 ?_
  obtain ⟨hi1, h⟩ := h
  refine k_aald_ML_requests cx hi1 dX7_draft_8 ?_
  exact k_ret_R cx hr hl hQ dX7_draft_9 (vp_req hi1) h
theorem m_X7_draft {g : GE} {l : Launch} {μ : Mm} {q : Nat → Mm → Prop}  (h : Wp_X7_draft   μ q) : MW g l yX7_draft cX7_draft 1 (some (.object "MeshLodger$Request")) 0 0 [.ref p_ML] μ (qR q) := by
  refine met_of (by decide) (Nat.le_of_ble_eq_true rfl) (by intro v hv; simp only [List.mem_cons, List.not_mem_nil, or_false] at hv; subst hv; rfl) ?_
  intro f hfl cx hr hl hQ
  exact b_X7_draft_e  cx hr hl hQ (h  )
theorem dX7_clear_0 : decode cX7_clear 0 = .ok (.aload_n 0, 1) := by decide +kernel
theorem dX7_clear_1 : decode cX7_clear 1 = .ok (.invokevirtual 125, 3) := by decide +kernel
theorem dX7_clear_4 : decode cX7_clear 4 = .ok (.invokevirtual 156, 3) := by decide +kernel
theorem dX7_clear_7 : decode cX7_clear 7 = .ok (.ireturn, 1) := by decide +kernel
def F_X7_clear_e   (q : Int32 → Mm → Prop)  (μ : Mm) : Prop :=
  Wp_X7_draft μ (fun r2 μ1 => Wp_X5_empty r2 μ1 (fun z4 μ3 => q z4 μ3))
def Wp_X7_clear   (μ : Mm) (q : Int32 → Mm → Prop) : Prop := F_X7_clear_e   q  μ
set_option maxHeartbeats 2000000 in
theorem b_X7_clear_e  {g : GE} {f : FE} {q : Int32 → Mm → Prop} (cx : Cx g f cX7_clear 1 RX7 1 21 0 0) (hr : (f_M f).sig.returnType = (some .int)) (hl : (f_M f).locks = false) (hQ : f_Q f = MQ (f_b f) (QW g (qI q)) (f_a f) (f_s f) 0 0 (fun q => g.2.2.2.1 ≤ q))   {μ : Mm} (h : F_X7_clear_e   q  μ) : KW g f 1 0 0 0 [some (.ref p_ML)] [] μ := by
  unfold F_X7_clear_e at h
  refine k_aload_n cx dX7_clear_0 rfl rfl ?_
  refine k_callV (As := []) (rest := []) cx (m_X7_draft h) cv_X7_125 ob_ML rfl rfl rfl rfl (Nat.le_of_ble_eq_true rfl) ⟨Nat.le_of_ble_eq_true rfl, Nat.le_of_ble_eq_true rfl⟩ dX7_clear_1 (fun v μ1 hq => ?_)
  obtain ⟨r2, rfl, hr_r2, h⟩ := hq
  refine k_callV (As := []) (rest := []) cx (m_X5_empty hr_r2 h) cv_X7_156 (ob_RQ hr_r2) rfl rfl rfl rfl (Nat.le_of_ble_eq_true rfl) ⟨Nat.le_of_ble_eq_true rfl, Nat.le_of_ble_eq_true rfl⟩ dX7_clear_4 (fun v μ3 hq => ?_)
  obtain ⟨z4, rfl, h⟩ := hq
  exact k_ret_I cx hr hl hQ dX7_clear_7 h
theorem m_X7_clear {g : GE} {l : Launch} {μ : Mm} {q : Int32 → Mm → Prop}  (h : Wp_X7_clear   μ q) : MW g l yX7_clear cX7_clear 1 (some .int) 1 21 [.ref p_ML] μ (qI q) := by
  refine met_of (by decide) (Nat.le_of_ble_eq_true rfl) (by intro v hv; simp only [List.mem_cons, List.not_mem_nil, or_false] at hv; subst hv; rfl) ?_
  intro f hfl cx hr hl hQ
  exact b_X7_clear_e  cx hr hl hQ (h  )
theorem dX7_dismiss_0 : decode cX7_dismiss 0 = .ok (.aload_n 0, 1) := by decide +kernel
theorem dX7_dismiss_1 : decode cX7_dismiss 1 = .ok (.getfield 21, 3) := by decide +kernel
theorem dX7_dismiss_4 : decode cX7_dismiss 4 = .ok (.aload_n 1, 1) := by decide +kernel
theorem dX7_dismiss_5 : decode cX7_dismiss 5 = .ok (.iconst (-1), 1) := by decide +kernel
theorem dX7_dismiss_6 : decode cX7_dismiss 6 = .ok (.invokevirtual 272, 3) := by decide +kernel
theorem dX7_dismiss_9 : decode cX7_dismiss 9 = .ok (.aload_n 1, 1) := by decide +kernel
theorem dX7_dismiss_10 : decode cX7_dismiss 10 = .ok (.iconst 1, 1) := by decide +kernel
theorem dX7_dismiss_11 : decode cX7_dismiss 11 = .ok (.putfield 113, 3) := by decide +kernel
theorem dX7_dismiss_14 : decode cX7_dismiss 14 = .ok (.return_, 1) := by decide +kernel
def F_X7_dismiss_e (p1 : Nat)  (q : Mm → Prop)  (μ : Mm) : Prop :=
  Wp_X0_enter p1 (-1 : Int32) μ (fun μ1 => q (up2 μ1 p1 14 (1 : Int32)))
def Wp_X7_dismiss (p1 : Nat)  (μ : Mm) (q : Mm → Prop) : Prop := F_X7_dismiss_e p1  q  μ
set_option maxHeartbeats 2000000 in
theorem b_X7_dismiss_e {p1 : Nat} (h_p1 : isReq p1) {g : GE} {f : FE} {q : Mm → Prop} (cx : Cx g f cX7_dismiss 2 RX7 4 93 0 0) (hr : (f_M f).sig.returnType = none) (hl : (f_M f).locks = false) (hQ : f_Q f = MQ (f_b f) (QW g (qV q)) (f_a f) (f_s f) 0 0 (fun q => g.2.2.2.1 ≤ q))   {μ : Mm} (h : F_X7_dismiss_e p1  q  μ) : KW g f 2 0 0 0 [some (.ref p_ML), some (.ref p1)] [] μ := by
  unfold F_X7_dismiss_e at h
  refine k_aload_n cx dX7_dismiss_0 rfl rfl ?_
  refine k_get (o := some p_BK) (v := .ref p_BK) cx fl_X7_21 ob_ML rfl rfl dX7_dismiss_1 ?_
  refine k_aload_n cx dX7_dismiss_4 rfl rfl ?_
  refine k_iconst (v := (-1 : Int32)) cx dX7_dismiss_5 (by decide +kernel) ?_
  refine k_callV (As := [.ref p1, .int (-1 : Int32)]) (rest := []) cx (m_X0_enter h_p1 h) cv_X7_272 ob_BK rfl rfl rfl rfl (Nat.le_of_ble_eq_true rfl) ⟨Nat.le_of_ble_eq_true rfl, Nat.le_of_ble_eq_true rfl⟩ dX7_dismiss_6 (fun v μ1 hq => ?_)
  obtain ⟨rfl, h⟩ := hq
  refine k_aload_n cx dX7_dismiss_9 rfl rfl ?_
  refine k_iconst (v := (1 : Int32)) cx dX7_dismiss_10 (by decide +kernel) ?_
  refine k_put cx fp_X7_113 (ob_RQ h_p1) rfl rfl rfl dX7_dismiss_11 ?_
  exact k_ret_V cx hr hl hQ dX7_dismiss_14 h
theorem m_X7_dismiss {g : GE} {l : Launch} {μ : Mm} {q : Mm → Prop} {p1 : Nat} (h_p1 : isReq p1) (h : Wp_X7_dismiss p1  μ q) : MW g l yX7_dismiss cX7_dismiss 2 none 4 93 [.ref p_ML, .ref p1] μ (qV q) := by
  refine met_of (by decide) (Nat.le_of_ble_eq_true rfl) (by intro v hv; simp only [List.mem_cons, List.not_mem_nil, or_false] at hv; rcases hv with rfl | rfl <;> rfl) ?_
  intro f hfl cx hr hl hQ
  exact b_X7_dismiss_e h_p1 cx hr hl hQ (h  )
theorem dX7_freeingNode_0 : decode cX7_freeingNode 0 = .ok (.aload_n 1, 1) := by decide +kernel
theorem dX7_freeingNode_1 : decode cX7_freeingNode 1 = .ok (.getfield 265, 3) := by decide +kernel
theorem dX7_freeingNode_4 : decode cX7_freeingNode 4 = .ok (.iload_n 2, 1) := by decide +kernel
theorem dX7_freeingNode_5 : decode cX7_freeingNode 5 = .ok (.iaload, 1) := by decide +kernel
theorem dX7_freeingNode_6 : decode cX7_freeingNode 6 = .ok (.iload_n 3, 1) := by decide +kernel
theorem dX7_freeingNode_7 : decode cX7_freeingNode 7 = .ok (.if_icmp .ne 10, 3) := by decide +kernel
theorem dX7_freeingNode_10 : decode cX7_freeingNode 10 = .ok (.aload_n 1, 1) := by decide +kernel
theorem dX7_freeingNode_11 : decode cX7_freeingNode 11 = .ok (.invokevirtual 195, 3) := by decide +kernel
theorem dX7_freeingNode_14 : decode cX7_freeingNode 14 = .ok (.ifCond .ne 5, 3) := by decide +kernel
theorem dX7_freeingNode_17 : decode cX7_freeingNode 17 = .ok (.iconst (-1), 1) := by decide +kernel
theorem dX7_freeingNode_18 : decode cX7_freeingNode 18 = .ok (.ireturn, 1) := by decide +kernel
theorem dX7_freeingNode_19 : decode cX7_freeingNode 19 = .ok (.aload_n 1, 1) := by decide +kernel
theorem dX7_freeingNode_20 : decode cX7_freeingNode 20 = .ok (.iload_n 2, 1) := by decide +kernel
theorem dX7_freeingNode_21 : decode cX7_freeingNode 21 = .ok (.invokevirtual 190, 3) := by decide +kernel
theorem dX7_freeingNode_24 : decode cX7_freeingNode 24 = .ok (.istore 4, 2) := by decide +kernel
theorem dX7_freeingNode_26 : decode cX7_freeingNode 26 = .ok (.iconst 0, 1) := by decide +kernel
theorem dX7_freeingNode_27 : decode cX7_freeingNode 27 = .ok (.istore 5, 2) := by decide +kernel
theorem dX7_freeingNode_29 : decode cX7_freeingNode 29 = .ok (.iload 5, 2) := by decide +kernel
theorem dX7_freeingNode_31 : decode cX7_freeingNode 31 = .ok (.aload_n 0, 1) := by decide +kernel
theorem dX7_freeingNode_32 : decode cX7_freeingNode 32 = .ok (.getfield 12, 3) := by decide +kernel
theorem dX7_freeingNode_35 : decode cX7_freeingNode 35 = .ok (.getfield 64, 3) := by decide +kernel
theorem dX7_freeingNode_38 : decode cX7_freeingNode 38 = .ok (.if_icmp .ge 70, 3) := by decide +kernel
theorem dX7_freeingNode_41 : decode cX7_freeingNode 41 = .ok (.iload 5, 2) := by decide +kernel
theorem dX7_freeingNode_43 : decode cX7_freeingNode 43 = .ok (.iload 4, 2) := by decide +kernel
theorem dX7_freeingNode_45 : decode cX7_freeingNode 45 = .ok (.if_icmp .eq 57, 3) := by decide +kernel
theorem dX7_freeingNode_48 : decode cX7_freeingNode 48 = .ok (.aload_n 0, 1) := by decide +kernel
theorem dX7_freeingNode_49 : decode cX7_freeingNode 49 = .ok (.getfield 46, 3) := by decide +kernel
theorem dX7_freeingNode_52 : decode cX7_freeingNode 52 = .ok (.aload_n 1, 1) := by decide +kernel
theorem dX7_freeingNode_53 : decode cX7_freeingNode 53 = .ok (.iload_n 2, 1) := by decide +kernel
theorem dX7_freeingNode_54 : decode cX7_freeingNode 54 = .ok (.iload 5, 2) := by decide +kernel
theorem dX7_freeingNode_56 : decode cX7_freeingNode 56 = .ok (.invokevirtual 201, 3) := by decide +kernel
theorem dX7_freeingNode_59 : decode cX7_freeingNode 59 = .ok (.ifCond .eq 43, 3) := by decide +kernel
theorem dX7_freeingNode_62 : decode cX7_freeingNode 62 = .ok (.aload_n 0, 1) := by decide +kernel
theorem dX7_freeingNode_63 : decode cX7_freeingNode 63 = .ok (.getfield 30, 3) := by decide +kernel
theorem dX7_freeingNode_66 : decode cX7_freeingNode 66 = .ok (.aload_n 0, 1) := by decide +kernel
theorem dX7_freeingNode_67 : decode cX7_freeingNode 67 = .ok (.invokevirtual 125, 3) := by decide +kernel
theorem dX7_freeingNode_70 : decode cX7_freeingNode 70 = .ok (.iconst 2, 1) := by decide +kernel
theorem dX7_freeingNode_71 : decode cX7_freeingNode 71 = .ok (.invokevirtual 257, 3) := by decide +kernel
theorem dX7_freeingNode_74 : decode cX7_freeingNode 74 = .ok (.iconst (-1), 1) := by decide +kernel
theorem dX7_freeingNode_75 : decode cX7_freeingNode 75 = .ok (.if_icmp .eq 7, 3) := by decide +kernel
theorem dX7_freeingNode_78 : decode cX7_freeingNode 78 = .ok (.iconst 1, 1) := by decide +kernel
theorem dX7_freeingNode_79 : decode cX7_freeingNode 79 = .ok (.goto 4, 3) := by decide +kernel
theorem dX7_freeingNode_82 : decode cX7_freeingNode 82 = .ok (.iconst 0, 1) := by decide +kernel
theorem dX7_freeingNode_83 : decode cX7_freeingNode 83 = .ok (.istore 6, 2) := by decide +kernel
theorem dX7_freeingNode_85 : decode cX7_freeingNode 85 = .ok (.aload_n 0, 1) := by decide +kernel
theorem dX7_freeingNode_86 : decode cX7_freeingNode 86 = .ok (.getfield 46, 3) := by decide +kernel
theorem dX7_freeingNode_89 : decode cX7_freeingNode 89 = .ok (.aload_n 1, 1) := by decide +kernel
theorem dX7_freeingNode_90 : decode cX7_freeingNode 90 = .ok (.iload_n 2, 1) := by decide +kernel
theorem dX7_freeingNode_91 : decode cX7_freeingNode 91 = .ok (.invokevirtual 268, 3) := by decide +kernel
theorem dX7_freeingNode_94 : decode cX7_freeingNode 94 = .ok (.iload 6, 2) := by decide +kernel
theorem dX7_freeingNode_96 : decode cX7_freeingNode 96 = .ok (.ifCond .eq 6, 3) := by decide +kernel
theorem dX7_freeingNode_99 : decode cX7_freeingNode 99 = .ok (.iload 5, 2) := by decide +kernel
theorem dX7_freeingNode_101 : decode cX7_freeingNode 101 = .ok (.ireturn, 1) := by decide +kernel
theorem dX7_freeingNode_102 : decode cX7_freeingNode 102 = .ok (.iinc 5 1, 3) := by decide +kernel
theorem dX7_freeingNode_105 : decode cX7_freeingNode 105 = .ok (.goto (-76), 3) := by decide +kernel
theorem dX7_freeingNode_108 : decode cX7_freeingNode 108 = .ok (.iconst (-1), 1) := by decide +kernel
theorem dX7_freeingNode_109 : decode cX7_freeingNode 109 = .ok (.ireturn, 1) := by decide +kernel
def F_X7_freeingNode_29 (p1 : Nat) (K29 : Int32 → Int32 → Int32 → Mm → Prop) (K83 : Int32 → Int32 → Int32 → Int32 → Mm → Prop) (q : Int32 → Mm → Prop) (x2 : Int32) (x4 : Int32) (x5 : Int32) (μ : Mm) : Prop :=
  (((μ p_GR 6) ≤ x5 → q (-1 : Int32) μ) ∧ (¬ ((μ p_GR 6) ≤ x5) → ((x5 = x4 → K29 x2 x4 (x5 + (1 : Int32)) μ) ∧ (¬ (x5 = x4) → Wp_X3_shift p1 x2 x5 μ (fun b2 μ1 => (((bI b2) = 0 → K29 x2 x4 (x5 + (1 : Int32)) μ1) ∧ (¬ ((bI b2) = 0) → Wp_X7_draft μ1 (fun r4 μ3 => Wp_X6_run r4 (2 : Int32) μ3 (fun z6 μ5 => ((z6 = (-1 : Int32) → K83 x2 x4 x5 (0 : Int32) μ5) ∧ (¬ (z6 = (-1 : Int32)) → K83 x2 x4 x5 (1 : Int32) μ5)))))))))))
def F_X7_freeingNode_83 (p1 : Nat) (K29 : Int32 → Int32 → Int32 → Mm → Prop) (K83 : Int32 → Int32 → Int32 → Int32 → Mm → Prop) (q : Int32 → Mm → Prop) (x2 : Int32) (x4 : Int32) (x5 : Int32) (y0 : Int32) (μ : Mm) : Prop :=
  Wp_X3_takeBack p1 x2 μ (fun μ1 => ((y0 = 0 → K29 x2 x4 (x5 + (1 : Int32)) μ1) ∧ (¬ (y0 = 0) → q x5 μ1)))
def F_X7_freeingNode_e (p1 : Nat) (K29 : Int32 → Int32 → Int32 → Mm → Prop) (K83 : Int32 → Int32 → Int32 → Int32 → Mm → Prop) (q : Int32 → Mm → Prop) (x2 : Int32) (x3 : Int32) (μ : Mm) : Prop :=
  vp_in x2 3 ∧ ((¬ ((μ (p1 + 1) (x2).toNatClampNeg) = x3) → q (-1 : Int32) μ) ∧ ((μ (p1 + 1) (x2).toNatClampNeg) = x3 → Wp_X5_isMovable p1 μ (fun b2 μ1 => ((¬ ((bI b2) = 0) → Wp_X5_nodeOf p1 x2 μ1 (fun z4 μ3 => K29 x2 z4 (0 : Int32) μ3)) ∧ ((bI b2) = 0 → q (-1 : Int32) μ1)))))
def Wp_X7_freeingNode (p1 : Nat) (x2 : Int32) (x3 : Int32) (μ : Mm) (q : Int32 → Mm → Prop) : Prop := ∀ (K29 : Int32 → Int32 → Int32 → Mm → Prop) (K83 : Int32 → Int32 → Int32 → Int32 → Mm → Prop), (∀ (x2 : Int32) (x4 : Int32) (x5 : Int32) (μ : Mm), F_X7_freeingNode_29 p1 K29 K83 q x2 x4 x5 μ → K29 x2 x4 x5 μ) → (∀ (x2 : Int32) (x4 : Int32) (x5 : Int32) (y0 : Int32) (μ : Mm), F_X7_freeingNode_83 p1 K29 K83 q x2 x4 x5 y0 μ → K83 x2 x4 x5 y0 μ) → F_X7_freeingNode_e p1 K29 K83 q x2 x3 μ
abbrev KK_X7_freeingNode_29 (g : GE) (f : FE) (p1 : Nat) : Int32 → Int32 → Int32 → Mm → Prop := fun x2 x4 x5 μ => KW g f 7 0 0 29 [some (.ref p_ML), some (.ref p1), some (.int x2), none, some (.int x4), some (.int x5), none] [] μ
abbrev KK_X7_freeingNode_83 (g : GE) (f : FE) (p1 : Nat) : Int32 → Int32 → Int32 → Int32 → Mm → Prop := fun x2 x4 x5 y0 μ => KW g f 7 0 0 83 [some (.ref p_ML), some (.ref p1), some (.int x2), none, some (.int x4), some (.int x5), none] [.int y0] μ
set_option maxHeartbeats 2000000 in
theorem b_X7_freeingNode_29 {p1 : Nat} (h_p1 : isReq p1) {g : GE} {f : FE} {q : Int32 → Mm → Prop} (cx : Cx g f cX7_freeingNode 7 RX7 8 218 0 0) (hr : (f_M f).sig.returnType = (some .int)) (hl : (f_M f).locks = false) (hQ : f_Q f = MQ (f_b f) (QW g (qI q)) (f_a f) (f_s f) 0 0 (fun q => g.2.2.2.1 ≤ q))  {x2 : Int32} {x4 : Int32} {x5 : Int32} {μ : Mm} (h : F_X7_freeingNode_29 p1 (KK_X7_freeingNode_29 g f p1) (KK_X7_freeingNode_83 g f p1) q x2 x4 x5 μ) : KK_X7_freeingNode_29 g f p1 x2 x4 x5 μ := by
  unfold F_X7_freeingNode_29 at h
  show KW g f 7 0 0 29 [some (.ref p_ML), some (.ref p1), some (.int x2), none, some (.int x4), some (.int x5), none] [] μ
  refine k_iload cx dX7_freeingNode_29 rfl ?_
  refine k_aload_n cx dX7_freeingNode_31 rfl rfl ?_
  refine k_get (o := some p_GR) (v := .ref p_GR) cx fl_X7_12 ob_ML rfl rfl dX7_freeingNode_32 ?_
  refine k_get (o := none) (v := .int (μ p_GR 6)) cx fl_X7_64 ob_GR rfl rfl dX7_freeingNode_35 ?_
  refine k_icmp_ge (tgt := 108) cx dX7_freeingNode_38 (by decide) (fun hc => ?_) (fun hc => ?_)
  · replace h := h.1 hc
    refine k_iconst (v := (-1 : Int32)) cx dX7_freeingNode_108 (by decide +kernel) ?_
    exact k_ret_I cx hr hl hQ dX7_freeingNode_109 h
  · replace h := h.2 hc
    refine k_iload cx dX7_freeingNode_41 rfl ?_
    refine k_iload cx dX7_freeingNode_43 rfl ?_
    refine k_icmp_eq (tgt := 102) cx dX7_freeingNode_45 (by decide) (fun hc => ?_) (fun hc => ?_)
    · replace h := h.1 hc
      refine k_iinc (v := (x5 + (1 : Int32))) cx dX7_freeingNode_102 rfl rfl (by decide) ?_
      refine k_goto (tgt := 29) cx dX7_freeingNode_105 (by decide) ?_
      exact k_weak h (lsLe.keep (lsLe.keep (lsLe.keep (lsLe.keep (lsLe.keep (lsLe.keep (lsLe.keep lsLe.nil)))))))
    · replace h := h.2 hc
      refine k_aload_n cx dX7_freeingNode_48 rfl rfl ?_
      refine k_get (o := some p_MV) (v := .ref p_MV) cx fl_X7_46 ob_ML rfl rfl dX7_freeingNode_49 ?_
      refine k_aload_n cx dX7_freeingNode_52 rfl rfl ?_
      refine k_iload_n cx dX7_freeingNode_53 rfl rfl ?_
      refine k_iload cx dX7_freeingNode_54 rfl ?_
      refine k_callV (As := [.ref p1, .int x2, .int x5]) (rest := []) cx (m_X3_shift h_p1 h) cv_X7_201 ob_MV rfl rfl rfl rfl (Nat.le_of_ble_eq_true rfl) ⟨Nat.le_of_ble_eq_true rfl, Nat.le_of_ble_eq_true rfl⟩ dX7_freeingNode_56 (fun v μ1 hq => ?_)
      obtain ⟨b2, rfl, h⟩ := hq
      refine k_if_eq (tgt := 102) cx dX7_freeingNode_59 (by decide) (fun hc => ?_) (fun hc => ?_)
      · replace h := h.1 hc
        refine k_iinc (v := (x5 + (1 : Int32))) cx dX7_freeingNode_102 rfl rfl (by decide) ?_
        refine k_goto (tgt := 29) cx dX7_freeingNode_105 (by decide) ?_
        exact k_weak h (lsLe.keep (lsLe.keep (lsLe.keep (lsLe.keep (lsLe.keep (lsLe.keep (lsLe.keep lsLe.nil)))))))
      · replace h := h.2 hc
        refine k_aload_n cx dX7_freeingNode_62 rfl rfl ?_
        refine k_get (o := some p_SE) (v := .ref p_SE) cx fl_X7_30 ob_ML rfl rfl dX7_freeingNode_63 ?_
        refine k_aload_n cx dX7_freeingNode_66 rfl rfl ?_
        refine k_callV (As := []) (rest := [.ref p_SE]) cx (m_X7_draft h) cv_X7_125 ob_ML rfl rfl rfl rfl (Nat.le_of_ble_eq_true rfl) ⟨Nat.le_of_ble_eq_true rfl, Nat.le_of_ble_eq_true rfl⟩ dX7_freeingNode_67 (fun v μ3 hq => ?_)
        obtain ⟨r4, rfl, hr_r4, h⟩ := hq
        refine k_iconst (v := (2 : Int32)) cx dX7_freeingNode_70 (by decide +kernel) ?_
        refine k_callV (As := [.ref r4, .int (2 : Int32)]) (rest := []) cx (m_X6_run hr_r4 h) cv_X7_257 ob_SE rfl rfl rfl rfl (Nat.le_of_ble_eq_true rfl) ⟨Nat.le_of_ble_eq_true rfl, Nat.le_of_ble_eq_true rfl⟩ dX7_freeingNode_71 (fun v μ5 hq => ?_)
        obtain ⟨z6, rfl, h⟩ := hq
        refine k_iconst (v := (-1 : Int32)) cx dX7_freeingNode_74 (by decide +kernel) ?_
        refine k_icmp_eq (tgt := 82) cx dX7_freeingNode_75 (by decide) (fun hc => ?_) (fun hc => ?_)
        · replace h := h.1 hc
          refine k_iconst (v := (0 : Int32)) cx dX7_freeingNode_82 (by decide +kernel) ?_
          exact k_weak h (lsLe.keep (lsLe.keep (lsLe.keep (lsLe.keep (lsLe.keep (lsLe.keep (lsLe.keep lsLe.nil)))))))
        · replace h := h.2 hc
          refine k_iconst (v := (1 : Int32)) cx dX7_freeingNode_78 (by decide +kernel) ?_
          refine k_goto (tgt := 83) cx dX7_freeingNode_79 (by decide) ?_
          exact k_weak h (lsLe.keep (lsLe.keep (lsLe.keep (lsLe.keep (lsLe.keep (lsLe.keep (lsLe.keep lsLe.nil)))))))
set_option maxHeartbeats 2000000 in
theorem b_X7_freeingNode_83 {p1 : Nat} (h_p1 : isReq p1) {g : GE} {f : FE} {q : Int32 → Mm → Prop} (cx : Cx g f cX7_freeingNode 7 RX7 8 218 0 0) (hr : (f_M f).sig.returnType = (some .int)) (hl : (f_M f).locks = false) (hQ : f_Q f = MQ (f_b f) (QW g (qI q)) (f_a f) (f_s f) 0 0 (fun q => g.2.2.2.1 ≤ q))  {x2 : Int32} {x4 : Int32} {x5 : Int32} {y0 : Int32} {μ : Mm} (h : F_X7_freeingNode_83 p1 (KK_X7_freeingNode_29 g f p1) (KK_X7_freeingNode_83 g f p1) q x2 x4 x5 y0 μ) : KK_X7_freeingNode_83 g f p1 x2 x4 x5 y0 μ := by
  unfold F_X7_freeingNode_83 at h
  show KW g f 7 0 0 83 [some (.ref p_ML), some (.ref p1), some (.int x2), none, some (.int x4), some (.int x5), none] [.int y0] μ
  refine k_istore cx dX7_freeingNode_83 (by decide) ?_
  refine k_aload_n cx dX7_freeingNode_85 rfl rfl ?_
  refine k_get (o := some p_MV) (v := .ref p_MV) cx fl_X7_46 ob_ML rfl rfl dX7_freeingNode_86 ?_
  refine k_aload_n cx dX7_freeingNode_89 rfl rfl ?_
  refine k_iload_n cx dX7_freeingNode_90 rfl rfl ?_
  refine k_callV (As := [.ref p1, .int x2]) (rest := []) cx (m_X3_takeBack h_p1 h) cv_X7_268 ob_MV rfl rfl rfl rfl (Nat.le_of_ble_eq_true rfl) ⟨Nat.le_of_ble_eq_true rfl, Nat.le_of_ble_eq_true rfl⟩ dX7_freeingNode_91 (fun v μ1 hq => ?_)
  obtain ⟨rfl, h⟩ := hq
  refine k_iload cx dX7_freeingNode_94 rfl ?_
  refine k_if_eq (tgt := 102) cx dX7_freeingNode_96 (by decide) (fun hc => ?_) (fun hc => ?_)
  · replace h := h.1 hc
    refine k_iinc (v := (x5 + (1 : Int32))) cx dX7_freeingNode_102 rfl rfl (by decide) ?_
    refine k_goto (tgt := 29) cx dX7_freeingNode_105 (by decide) ?_
    exact k_weak h (lsLe.keep (lsLe.keep (lsLe.keep (lsLe.keep (lsLe.keep (lsLe.keep (lsLe.drop lsLe.nil)))))))
  · replace h := h.2 hc
    refine k_iload cx dX7_freeingNode_99 rfl ?_
    exact k_ret_I cx hr hl hQ dX7_freeingNode_101 h
set_option maxHeartbeats 2000000 in
theorem b_X7_freeingNode_e {p1 : Nat} (h_p1 : isReq p1) {g : GE} {f : FE} {q : Int32 → Mm → Prop} (cx : Cx g f cX7_freeingNode 7 RX7 8 218 0 0) (hr : (f_M f).sig.returnType = (some .int)) (hl : (f_M f).locks = false) (hQ : f_Q f = MQ (f_b f) (QW g (qI q)) (f_a f) (f_s f) 0 0 (fun q => g.2.2.2.1 ≤ q))  {x2 : Int32} {x3 : Int32} {μ : Mm} (h : F_X7_freeingNode_e p1 (KK_X7_freeingNode_29 g f p1) (KK_X7_freeingNode_83 g f p1) q x2 x3 μ) : KW g f 7 0 0 0 [some (.ref p_ML), some (.ref p1), some (.int x2), some (.int x3), none, none, none] [] μ := by
  unfold F_X7_freeingNode_e at h
  refine k_aload_n cx dX7_freeingNode_0 rfl rfl ?_
  refine k_get (o := some (p1 + 1)) (v := .ref (p1 + 1)) cx fl_X7_265 (ob_RQ h_p1) rfl rfl dX7_freeingNode_1 ?_
  refine k_iload_n cx dX7_freeingNode_4 rfl rfl ?_
  obtain ⟨hi, h⟩ := h
  refine k_iald cx (ar_RQ h_p1 1 (by decide) (by decide)) hi dX7_freeingNode_5 ?_
  refine k_iload_n cx dX7_freeingNode_6 rfl rfl ?_
  refine k_icmp_ne (tgt := 17) cx dX7_freeingNode_7 (by decide) (fun hc => ?_) (fun hc => ?_)
  · replace h := h.1 hc
    refine k_iconst (v := (-1 : Int32)) cx dX7_freeingNode_17 (by decide +kernel) ?_
    exact k_ret_I cx hr hl hQ dX7_freeingNode_18 h
  · replace h := h.2 hc
    refine k_aload_n cx dX7_freeingNode_10 rfl rfl ?_
    refine k_callV (As := []) (rest := []) cx (m_X5_isMovable h_p1 h) cv_X7_195 (ob_RQ h_p1) rfl rfl rfl rfl (Nat.le_of_ble_eq_true rfl) ⟨Nat.le_of_ble_eq_true rfl, Nat.le_of_ble_eq_true rfl⟩ dX7_freeingNode_11 (fun v μ1 hq => ?_)
    obtain ⟨b2, rfl, h⟩ := hq
    refine k_if_ne (tgt := 19) cx dX7_freeingNode_14 (by decide) (fun hc => ?_) (fun hc => ?_)
    · replace h := h.1 hc
      refine k_aload_n cx dX7_freeingNode_19 rfl rfl ?_
      refine k_iload_n cx dX7_freeingNode_20 rfl rfl ?_
      refine k_callV (As := [.int x2]) (rest := []) cx (m_X5_nodeOf h_p1 h) cv_X7_190 (ob_RQ h_p1) rfl rfl rfl rfl (Nat.le_of_ble_eq_true rfl) ⟨Nat.le_of_ble_eq_true rfl, Nat.le_of_ble_eq_true rfl⟩ dX7_freeingNode_21 (fun v μ3 hq => ?_)
      obtain ⟨z4, rfl, h⟩ := hq
      refine k_istore cx dX7_freeingNode_24 (by decide) ?_
      refine k_iconst (v := (0 : Int32)) cx dX7_freeingNode_26 (by decide +kernel) ?_
      refine k_istore cx dX7_freeingNode_27 (by decide) ?_
      exact k_weak h (lsLe.keep (lsLe.keep (lsLe.keep (lsLe.drop (lsLe.keep (lsLe.keep (lsLe.keep lsLe.nil)))))))
    · replace h := h.2 hc
      refine k_iconst (v := (-1 : Int32)) cx dX7_freeingNode_17 (by decide +kernel) ?_
      exact k_ret_I cx hr hl hQ dX7_freeingNode_18 h
theorem m_X7_freeingNode {g : GE} {l : Launch} {μ : Mm} {q : Int32 → Mm → Prop} {p1 : Nat} {x2 : Int32} {x3 : Int32} (h_p1 : isReq p1) (h : Wp_X7_freeingNode p1 x2 x3 μ q) : MW g l yX7_freeingNode cX7_freeingNode 7 (some .int) 8 218 [.ref p_ML, .ref p1, .int x2, .int x3] μ (qI q) := by
  refine met_of (by decide) (Nat.le_of_ble_eq_true rfl) (by intro v hv; simp only [List.mem_cons, List.not_mem_nil, or_false] at hv; rcases hv with rfl | rfl | rfl | rfl <;> rfl) ?_
  intro f hfl cx hr hl hQ
  exact b_X7_freeingNode_e h_p1 cx hr hl hQ (h (KK_X7_freeingNode_29 g f p1) (KK_X7_freeingNode_83 g f p1) (fun _ _ _ _ h => b_X7_freeingNode_29 h_p1 cx hr hl hQ h) (fun _ _ _ _ _ h => b_X7_freeingNode_83 h_p1 cx hr hl hQ h))
