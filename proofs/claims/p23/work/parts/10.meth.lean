theorem dX0_carry_0 : decode cX0_carry 0 = .ok (.iconst 0, 1) := by decide +kernel
theorem dX0_carry_1 : decode cX0_carry 1 = .ok (.istore_n 3, 1) := by decide +kernel
theorem dX0_carry_2 : decode cX0_carry 2 = .ok (.iload_n 3, 1) := by decide +kernel
theorem dX0_carry_3 : decode cX0_carry 3 = .ok (.aload_n 0, 1) := by decide +kernel
theorem dX0_carry_4 : decode cX0_carry 4 = .ok (.getfield 29, 3) := by decide +kernel
theorem dX0_carry_7 : decode cX0_carry 7 = .ok (.getfield 41, 3) := by decide +kernel
theorem dX0_carry_10 : decode cX0_carry 10 = .ok (.if_icmp .ge 25, 3) := by decide +kernel
theorem dX0_carry_13 : decode cX0_carry 13 = .ok (.aload_n 0, 1) := by decide +kernel
theorem dX0_carry_14 : decode cX0_carry 14 = .ok (.getfield 18, 3) := by decide +kernel
theorem dX0_carry_17 : decode cX0_carry 17 = .ok (.iload_n 3, 1) := by decide +kernel
theorem dX0_carry_18 : decode cX0_carry 18 = .ok (.dup2, 1) := by decide +kernel
theorem dX0_carry_19 : decode cX0_carry 19 = .ok (.iaload, 1) := by decide +kernel
theorem dX0_carry_20 : decode cX0_carry 20 = .ok (.iload_n 1, 1) := by decide +kernel
theorem dX0_carry_21 : decode cX0_carry 21 = .ok (.iload_n 3, 1) := by decide +kernel
theorem dX0_carry_22 : decode cX0_carry 22 = .ok (.ishr, 1) := by decide +kernel
theorem dX0_carry_23 : decode cX0_carry 23 = .ok (.iconst 1, 1) := by decide +kernel
theorem dX0_carry_24 : decode cX0_carry 24 = .ok (.iand, 1) := by decide +kernel
theorem dX0_carry_25 : decode cX0_carry 25 = .ok (.iload_n 2, 1) := by decide +kernel
theorem dX0_carry_26 : decode cX0_carry 26 = .ok (.imul, 1) := by decide +kernel
theorem dX0_carry_27 : decode cX0_carry 27 = .ok (.iadd, 1) := by decide +kernel
theorem dX0_carry_28 : decode cX0_carry 28 = .ok (.iastore, 1) := by decide +kernel
theorem dX0_carry_29 : decode cX0_carry 29 = .ok (.iinc 3 1, 3) := by decide +kernel
theorem dX0_carry_32 : decode cX0_carry 32 = .ok (.goto (-30), 3) := by decide +kernel
theorem dX0_carry_35 : decode cX0_carry 35 = .ok (.return_, 1) := by decide +kernel
def F_X0_carry_2  (K2 : Int32 → Int32 → Int32 → Mm → Prop) (q : Mm → Prop) (x1 : Int32) (x2 : Int32) (x3 : Int32) (μ : Mm) : Prop :=
  (((μ p_GR 7) ≤ x3 → q μ) ∧ (¬ ((μ p_GR 7) ≤ x3) → vp_in x3 9 ∧ vp_in x3 9 ∧ K2 x1 x2 (x3 + (1 : Int32)) (up2 μ p_BK_linkNeeds (x3).toNatClampNeg ((μ p_BK_linkNeeds (x3).toNatClampNeg) + (((x1 >>> (x3 &&& 31)) &&& (1 : Int32)) * x2)))))
def F_X0_carry_e  (K2 : Int32 → Int32 → Int32 → Mm → Prop) (q : Mm → Prop) (x1 : Int32) (x2 : Int32) (μ : Mm) : Prop :=
  K2 x1 x2 (0 : Int32) μ
def Wp_X0_carry  (x1 : Int32) (x2 : Int32) (μ : Mm) (q : Mm → Prop) : Prop := ∀ (K2 : Int32 → Int32 → Int32 → Mm → Prop), (∀ (x1 : Int32) (x2 : Int32) (x3 : Int32) (μ : Mm), F_X0_carry_2  K2 q x1 x2 x3 μ → K2 x1 x2 x3 μ) → F_X0_carry_e  K2 q x1 x2 μ
abbrev KK_X0_carry_2 (g : GE) (f : FE)  : Int32 → Int32 → Int32 → Mm → Prop := fun x1 x2 x3 μ => KW g f 4 0 0 2 [some (.ref p_BK), some (.int x1), some (.int x2), some (.int x3)] [] μ
set_option maxHeartbeats 2000000 in
theorem b_X0_carry_2  {g : GE} {f : FE} {q : Mm → Prop} (cx : Cx g f cX0_carry 4 RX0 0 0 0 0) (hr : (f_M f).sig.returnType = none) (hl : (f_M f).locks = false) (hQ : f_Q f = MQ (f_b f) (QW g (qV q)) (f_a f) (f_s f) 0 0 (fun q => g.2.2.2.1 ≤ q))  {x1 : Int32} {x2 : Int32} {x3 : Int32} {μ : Mm} (h : F_X0_carry_2  (KK_X0_carry_2 g f ) q x1 x2 x3 μ) : KK_X0_carry_2 g f  x1 x2 x3 μ := by
  unfold F_X0_carry_2 at h
  show KW g f 4 0 0 2 [some (.ref p_BK), some (.int x1), some (.int x2), some (.int x3)] [] μ
  refine k_iload_n cx dX0_carry_2 rfl rfl ?_
  refine k_aload_n cx dX0_carry_3 rfl rfl ?_
  refine k_get (o := some p_GR) (v := .ref p_GR) cx fl_X0_29 ob_BK rfl rfl dX0_carry_4 ?_
  refine k_get (o := none) (v := .int (μ p_GR 7)) cx fl_X0_41 ob_GR rfl rfl dX0_carry_7 ?_
  refine k_icmp_ge (tgt := 35) cx dX0_carry_10 (by decide) (fun hc => ?_) (fun hc => ?_)
  · replace h := h.1 hc
    exact k_ret_V cx hr hl hQ dX0_carry_35 h
  · replace h := h.2 hc
    refine k_aload_n cx dX0_carry_13 rfl rfl ?_
    refine k_get (o := some p_BK_linkNeeds) (v := .ref p_BK_linkNeeds) cx fl_X0_18 ob_BK rfl rfl dX0_carry_14 ?_
    refine k_iload_n cx dX0_carry_17 rfl rfl ?_
    refine k_dup2 cx dX0_carry_18 rfl rfl ?_
    obtain ⟨hi, h⟩ := h
    refine k_iald cx ar_BK_linkNeeds hi dX0_carry_19 ?_
    refine k_iload_n cx dX0_carry_20 rfl rfl ?_
    refine k_iload_n cx dX0_carry_21 rfl rfl ?_
    refine k_ishr cx dX0_carry_22 ?_
    refine k_iconst (v := (1 : Int32)) cx dX0_carry_23 (by decide +kernel) ?_
    refine k_iand cx dX0_carry_24 ?_
    refine k_iload_n cx dX0_carry_25 rfl rfl ?_
    refine k_imul cx dX0_carry_26 ?_
    refine k_iadd cx dX0_carry_27 ?_
    obtain ⟨hi, h⟩ := h
    refine k_iast cx ar_BK_linkNeeds hi dX0_carry_28 ?_
    refine k_iinc (v := (x3 + (1 : Int32))) cx dX0_carry_29 rfl rfl (by decide) ?_
    refine k_goto (tgt := 2) cx dX0_carry_32 (by decide) ?_
    exact k_weak h (lsLe.keep (lsLe.keep (lsLe.keep (lsLe.keep lsLe.nil))))
set_option maxHeartbeats 2000000 in
theorem b_X0_carry_e  {g : GE} {f : FE} {q : Mm → Prop} (cx : Cx g f cX0_carry 4 RX0 0 0 0 0) (hr : (f_M f).sig.returnType = none) (hl : (f_M f).locks = false) (hQ : f_Q f = MQ (f_b f) (QW g (qV q)) (f_a f) (f_s f) 0 0 (fun q => g.2.2.2.1 ≤ q))  {x1 : Int32} {x2 : Int32} {μ : Mm} (h : F_X0_carry_e  (KK_X0_carry_2 g f ) q x1 x2 μ) : KW g f 4 0 0 0 [some (.ref p_BK), some (.int x1), some (.int x2), none] [] μ := by
  unfold F_X0_carry_e at h
  refine k_iconst (v := (0 : Int32)) cx dX0_carry_0 (by decide +kernel) ?_
  refine k_istore_n cx dX0_carry_1 rfl (by decide) ?_
  exact k_weak h (lsLe.keep (lsLe.keep (lsLe.keep (lsLe.keep lsLe.nil))))
theorem m_X0_carry {g : GE} {l : Launch} {μ : Mm} {q : Mm → Prop} {x1 : Int32} {x2 : Int32}  (h : Wp_X0_carry  x1 x2 μ q) : MW g l yX0_carry cX0_carry 4 none 0 0 [.ref p_BK, .int x1, .int x2] μ (qV q) := by
  refine met_of (by decide) (Nat.le_of_ble_eq_true rfl) (by intro v hv; simp only [List.mem_cons, List.not_mem_nil, or_false] at hv; rcases hv with rfl | rfl | rfl <;> rfl) ?_
  intro f hfl cx hr hl hQ
  exact b_X0_carry_e  cx hr hl hQ (h (KK_X0_carry_2 g f ) (fun _ _ _ _ h => b_X0_carry_2  cx hr hl hQ h))
theorem dX2_hasNode_0 : decode cX2_hasNode 0 = .ok (.iload_n 1, 1) := by decide +kernel
theorem dX2_hasNode_1 : decode cX2_hasNode 1 = .ok (.ifCond .lt 15, 3) := by decide +kernel
theorem dX2_hasNode_4 : decode cX2_hasNode 4 = .ok (.iload_n 1, 1) := by decide +kernel
theorem dX2_hasNode_5 : decode cX2_hasNode 5 = .ok (.aload_n 0, 1) := by decide +kernel
theorem dX2_hasNode_6 : decode cX2_hasNode 6 = .ok (.getfield 32, 3) := by decide +kernel
theorem dX2_hasNode_9 : decode cX2_hasNode 9 = .ok (.if_icmp .ge 7, 3) := by decide +kernel
theorem dX2_hasNode_12 : decode cX2_hasNode 12 = .ok (.iconst 1, 1) := by decide +kernel
theorem dX2_hasNode_13 : decode cX2_hasNode 13 = .ok (.goto 4, 3) := by decide +kernel
theorem dX2_hasNode_16 : decode cX2_hasNode 16 = .ok (.iconst 0, 1) := by decide +kernel
theorem dX2_hasNode_17 : decode cX2_hasNode 17 = .ok (.ireturn, 1) := by decide +kernel
def F_X2_hasNode_e   (q : Bool → Mm → Prop) (x1 : Int32) (μ : Mm) : Prop :=
  ((x1 < 0 → q false μ) ∧ (¬ (x1 < 0) → (((μ p_GR 6) ≤ x1 → q false μ) ∧ (¬ ((μ p_GR 6) ≤ x1) → q true μ))))
def Wp_X2_hasNode  (x1 : Int32) (μ : Mm) (q : Bool → Mm → Prop) : Prop := F_X2_hasNode_e   q x1 μ
set_option maxHeartbeats 2000000 in
theorem b_X2_hasNode_e  {g : GE} {f : FE} {q : Bool → Mm → Prop} (cx : Cx g f cX2_hasNode 2 RX2 0 0 0 0) (hr : (f_M f).sig.returnType = (some .boolean)) (hl : (f_M f).locks = false) (hQ : f_Q f = MQ (f_b f) (QW g (qZ q)) (f_a f) (f_s f) 0 0 (fun q => g.2.2.2.1 ≤ q))  {x1 : Int32} {μ : Mm} (h : F_X2_hasNode_e   q x1 μ) : KW g f 2 0 0 0 [some (.ref p_GR), some (.int x1)] [] μ := by
  unfold F_X2_hasNode_e at h
  refine k_iload_n cx dX2_hasNode_0 rfl rfl ?_
  refine k_if_lt (tgt := 16) cx dX2_hasNode_1 (by decide) (fun hc => ?_) (fun hc => ?_)
  · replace h := h.1 hc
    refine k_iconst (v := (0 : Int32)) cx dX2_hasNode_16 (by decide +kernel) ?_
    exact k_ret_Z (b := false) cx hr hl hQ dX2_hasNode_17 rfl h
  · replace h := h.2 hc
    refine k_iload_n cx dX2_hasNode_4 rfl rfl ?_
    refine k_aload_n cx dX2_hasNode_5 rfl rfl ?_
    refine k_get (o := none) (v := .int (μ p_GR 6)) cx fl_X2_32 ob_GR rfl rfl dX2_hasNode_6 ?_
    refine k_icmp_ge (tgt := 16) cx dX2_hasNode_9 (by decide) (fun hc => ?_) (fun hc => ?_)
    · replace h := h.1 hc
      refine k_iconst (v := (0 : Int32)) cx dX2_hasNode_16 (by decide +kernel) ?_
      exact k_ret_Z (b := false) cx hr hl hQ dX2_hasNode_17 rfl h
    · replace h := h.2 hc
      refine k_iconst (v := (1 : Int32)) cx dX2_hasNode_12 (by decide +kernel) ?_
      refine k_goto (tgt := 17) cx dX2_hasNode_13 (by decide) ?_
      exact k_ret_Z (b := true) cx hr hl hQ dX2_hasNode_17 rfl h
theorem m_X2_hasNode {g : GE} {l : Launch} {μ : Mm} {q : Bool → Mm → Prop} {x1 : Int32}  (h : Wp_X2_hasNode  x1 μ q) : MW g l yX2_hasNode cX2_hasNode 2 (some .boolean) 0 0 [.ref p_GR, .int x1] μ (qZ q) := by
  refine met_of (by decide) (Nat.le_of_ble_eq_true rfl) (by intro v hv; simp only [List.mem_cons, List.not_mem_nil, or_false] at hv; rcases hv with rfl | rfl <;> rfl) ?_
  intro f hfl cx hr hl hQ
  exact b_X2_hasNode_e  cx hr hl hQ (h  )
theorem dX0_enterPart_0 : decode cX0_enterPart 0 = .ok (.aload_n 0, 1) := by decide +kernel
theorem dX0_enterPart_1 : decode cX0_enterPart 1 = .ok (.getfield 29, 3) := by decide +kernel
theorem dX0_enterPart_4 : decode cX0_enterPart 4 = .ok (.iload_n 1, 1) := by decide +kernel
theorem dX0_enterPart_5 : decode cX0_enterPart 5 = .ok (.invokevirtual 80, 3) := by decide +kernel
theorem dX0_enterPart_8 : decode cX0_enterPart 8 = .ok (.ifCond .eq 25, 3) := by decide +kernel
theorem dX0_enterPart_11 : decode cX0_enterPart 11 = .ok (.aload_n 0, 1) := by decide +kernel
theorem dX0_enterPart_12 : decode cX0_enterPart 12 = .ok (.getfield 9, 3) := by decide +kernel
theorem dX0_enterPart_15 : decode cX0_enterPart 15 = .ok (.iload_n 1, 1) := by decide +kernel
theorem dX0_enterPart_16 : decode cX0_enterPart 16 = .ok (.dup2, 1) := by decide +kernel
theorem dX0_enterPart_17 : decode cX0_enterPart 17 = .ok (.iaload, 1) := by decide +kernel
theorem dX0_enterPart_18 : decode cX0_enterPart 18 = .ok (.iload_n 3, 1) := by decide +kernel
theorem dX0_enterPart_19 : decode cX0_enterPart 19 = .ok (.iload_n 2, 1) := by decide +kernel
theorem dX0_enterPart_20 : decode cX0_enterPart 20 = .ok (.imul, 1) := by decide +kernel
theorem dX0_enterPart_21 : decode cX0_enterPart 21 = .ok (.iadd, 1) := by decide +kernel
theorem dX0_enterPart_22 : decode cX0_enterPart 22 = .ok (.iastore, 1) := by decide +kernel
theorem dX0_enterPart_23 : decode cX0_enterPart 23 = .ok (.aload_n 0, 1) := by decide +kernel
theorem dX0_enterPart_24 : decode cX0_enterPart 24 = .ok (.getfield 15, 3) := by decide +kernel
theorem dX0_enterPart_27 : decode cX0_enterPart 27 = .ok (.iload_n 1, 1) := by decide +kernel
theorem dX0_enterPart_28 : decode cX0_enterPart 28 = .ok (.dup2, 1) := by decide +kernel
theorem dX0_enterPart_29 : decode cX0_enterPart 29 = .ok (.iaload, 1) := by decide +kernel
theorem dX0_enterPart_30 : decode cX0_enterPart 30 = .ok (.iload_n 3, 1) := by decide +kernel
theorem dX0_enterPart_31 : decode cX0_enterPart 31 = .ok (.iadd, 1) := by decide +kernel
theorem dX0_enterPart_32 : decode cX0_enterPart 32 = .ok (.iastore, 1) := by decide +kernel
theorem dX0_enterPart_33 : decode cX0_enterPart 33 = .ok (.return_, 1) := by decide +kernel
def F_X0_enterPart_e   (q : Mm → Prop) (x1 : Int32) (x2 : Int32) (x3 : Int32) (μ : Mm) : Prop :=
  Wp_X2_hasNode x1 μ (fun b2 μ1 => (((bI b2) = 0 → q μ1) ∧ (¬ ((bI b2) = 0) → vp_in x1 6 ∧ vp_in x1 6 ∧ vp_in x1 6 ∧ vp_in x1 6 ∧ q (up2 (up2 μ1 p_BK_nodeNeeds (x1).toNatClampNeg ((μ1 p_BK_nodeNeeds (x1).toNatClampNeg) + (x3 * x2))) p_BK_nodeParts (x1).toNatClampNeg (((up2 μ1 p_BK_nodeNeeds (x1).toNatClampNeg ((μ1 p_BK_nodeNeeds (x1).toNatClampNeg) + (x3 * x2))) p_BK_nodeParts (x1).toNatClampNeg) + x3)))))
def Wp_X0_enterPart  (x1 : Int32) (x2 : Int32) (x3 : Int32) (μ : Mm) (q : Mm → Prop) : Prop := F_X0_enterPart_e   q x1 x2 x3 μ
set_option maxHeartbeats 2000000 in
theorem b_X0_enterPart_e  {g : GE} {f : FE} {q : Mm → Prop} (cx : Cx g f cX0_enterPart 4 RX0 1 21 0 0) (hr : (f_M f).sig.returnType = none) (hl : (f_M f).locks = false) (hQ : f_Q f = MQ (f_b f) (QW g (qV q)) (f_a f) (f_s f) 0 0 (fun q => g.2.2.2.1 ≤ q))  {x1 : Int32} {x2 : Int32} {x3 : Int32} {μ : Mm} (h : F_X0_enterPart_e   q x1 x2 x3 μ) : KW g f 4 0 0 0 [some (.ref p_BK), some (.int x1), some (.int x2), some (.int x3)] [] μ := by
  unfold F_X0_enterPart_e at h
  refine k_aload_n cx dX0_enterPart_0 rfl rfl ?_
  refine k_get (o := some p_GR) (v := .ref p_GR) cx fl_X0_29 ob_BK rfl rfl dX0_enterPart_1 ?_
  refine k_iload_n cx dX0_enterPart_4 rfl rfl ?_
  refine k_callV (As := [.int x1]) (rest := []) cx (m_X2_hasNode h) cv_X0_80 ob_GR rfl rfl rfl rfl (Nat.le_of_ble_eq_true rfl) ⟨Nat.le_of_ble_eq_true rfl, Nat.le_of_ble_eq_true rfl⟩ dX0_enterPart_5 (fun v μ1 hq => ?_)
  obtain ⟨b2, rfl, h⟩ := hq
  refine k_if_eq (tgt := 33) cx dX0_enterPart_8 (by decide) (fun hc => ?_) (fun hc => ?_)
  · replace h := h.1 hc
    exact k_ret_V cx hr hl hQ dX0_enterPart_33 h
  · replace h := h.2 hc
    refine k_aload_n cx dX0_enterPart_11 rfl rfl ?_
    refine k_get (o := some p_BK_nodeNeeds) (v := .ref p_BK_nodeNeeds) cx fl_X0_9 ob_BK rfl rfl dX0_enterPart_12 ?_
    refine k_iload_n cx dX0_enterPart_15 rfl rfl ?_
    refine k_dup2 cx dX0_enterPart_16 rfl rfl ?_
    obtain ⟨hi, h⟩ := h
    refine k_iald cx ar_BK_nodeNeeds hi dX0_enterPart_17 ?_
    refine k_iload_n cx dX0_enterPart_18 rfl rfl ?_
    refine k_iload_n cx dX0_enterPart_19 rfl rfl ?_
    refine k_imul cx dX0_enterPart_20 ?_
    refine k_iadd cx dX0_enterPart_21 ?_
    obtain ⟨hi, h⟩ := h
    refine k_iast cx ar_BK_nodeNeeds hi dX0_enterPart_22 ?_
    refine k_aload_n cx dX0_enterPart_23 rfl rfl ?_
    refine k_get (o := some p_BK_nodeParts) (v := .ref p_BK_nodeParts) cx fl_X0_15 ob_BK rfl rfl dX0_enterPart_24 ?_
    refine k_iload_n cx dX0_enterPart_27 rfl rfl ?_
    refine k_dup2 cx dX0_enterPart_28 rfl rfl ?_
    obtain ⟨hi, h⟩ := h
    refine k_iald cx ar_BK_nodeParts hi dX0_enterPart_29 ?_
    refine k_iload_n cx dX0_enterPart_30 rfl rfl ?_
    refine k_iadd cx dX0_enterPart_31 ?_
    obtain ⟨hi, h⟩ := h
    refine k_iast cx ar_BK_nodeParts hi dX0_enterPart_32 ?_
    exact k_ret_V cx hr hl hQ dX0_enterPart_33 h
theorem m_X0_enterPart {g : GE} {l : Launch} {μ : Mm} {q : Mm → Prop} {x1 : Int32} {x2 : Int32} {x3 : Int32}  (h : Wp_X0_enterPart  x1 x2 x3 μ q) : MW g l yX0_enterPart cX0_enterPart 4 none 1 21 [.ref p_BK, .int x1, .int x2, .int x3] μ (qV q) := by
  refine met_of (by decide) (Nat.le_of_ble_eq_true rfl) (by intro v hv; simp only [List.mem_cons, List.not_mem_nil, or_false] at hv; rcases hv with rfl | rfl | rfl | rfl <;> rfl) ?_
  intro f hfl cx hr hl hQ
  exact b_X0_enterPart_e  cx hr hl hQ (h  )
theorem dX0_reserve_0 : decode cX0_reserve 0 = .ok (.iconst 0, 1) := by decide +kernel
theorem dX0_reserve_1 : decode cX0_reserve 1 = .ok (.istore 4, 2) := by decide +kernel
theorem dX0_reserve_3 : decode cX0_reserve 3 = .ok (.iconst 0, 1) := by decide +kernel
theorem dX0_reserve_4 : decode cX0_reserve 4 = .ok (.istore 5, 2) := by decide +kernel
theorem dX0_reserve_6 : decode cX0_reserve 6 = .ok (.iload 5, 2) := by decide +kernel
theorem dX0_reserve_8 : decode cX0_reserve 8 = .ok (.aload_n 0, 1) := by decide +kernel
theorem dX0_reserve_9 : decode cX0_reserve 9 = .ok (.getfield 29, 3) := by decide +kernel
theorem dX0_reserve_12 : decode cX0_reserve 12 = .ok (.getfield 41, 3) := by decide +kernel
theorem dX0_reserve_15 : decode cX0_reserve 15 = .ok (.if_icmp .ge 45, 3) := by decide +kernel
theorem dX0_reserve_18 : decode cX0_reserve 18 = .ok (.aload_n 0, 1) := by decide +kernel
theorem dX0_reserve_19 : decode cX0_reserve 19 = .ok (.getfield 26, 3) := by decide +kernel
theorem dX0_reserve_22 : decode cX0_reserve 22 = .ok (.iload 5, 2) := by decide +kernel
theorem dX0_reserve_24 : decode cX0_reserve 24 = .ok (.aaload, 1) := by decide +kernel
theorem dX0_reserve_25 : decode cX0_reserve 25 = .ok (.iload_n 1, 1) := by decide +kernel
theorem dX0_reserve_26 : decode cX0_reserve 26 = .ok (.dup2, 1) := by decide +kernel
theorem dX0_reserve_27 : decode cX0_reserve 27 = .ok (.iaload, 1) := by decide +kernel
theorem dX0_reserve_28 : decode cX0_reserve 28 = .ok (.iload_n 2, 1) := by decide +kernel
theorem dX0_reserve_29 : decode cX0_reserve 29 = .ok (.iload 5, 2) := by decide +kernel
theorem dX0_reserve_31 : decode cX0_reserve 31 = .ok (.ishr, 1) := by decide +kernel
theorem dX0_reserve_32 : decode cX0_reserve 32 = .ok (.iconst 1, 1) := by decide +kernel
theorem dX0_reserve_33 : decode cX0_reserve 33 = .ok (.iand, 1) := by decide +kernel
theorem dX0_reserve_34 : decode cX0_reserve 34 = .ok (.iload_n 3, 1) := by decide +kernel
theorem dX0_reserve_35 : decode cX0_reserve 35 = .ok (.imul, 1) := by decide +kernel
theorem dX0_reserve_36 : decode cX0_reserve 36 = .ok (.iadd, 1) := by decide +kernel
theorem dX0_reserve_37 : decode cX0_reserve 37 = .ok (.iastore, 1) := by decide +kernel
theorem dX0_reserve_38 : decode cX0_reserve 38 = .ok (.iload 4, 2) := by decide +kernel
theorem dX0_reserve_40 : decode cX0_reserve 40 = .ok (.aload_n 0, 1) := by decide +kernel
theorem dX0_reserve_41 : decode cX0_reserve 41 = .ok (.getfield 26, 3) := by decide +kernel
theorem dX0_reserve_44 : decode cX0_reserve 44 = .ok (.iload 5, 2) := by decide +kernel
theorem dX0_reserve_46 : decode cX0_reserve 46 = .ok (.aaload, 1) := by decide +kernel
theorem dX0_reserve_47 : decode cX0_reserve 47 = .ok (.iload_n 1, 1) := by decide +kernel
theorem dX0_reserve_48 : decode cX0_reserve 48 = .ok (.iaload, 1) := by decide +kernel
theorem dX0_reserve_49 : decode cX0_reserve 49 = .ok (.invokestatic 49, 3) := by decide +kernel
theorem dX0_reserve_52 : decode cX0_reserve 52 = .ok (.istore 4, 2) := by decide +kernel
theorem dX0_reserve_54 : decode cX0_reserve 54 = .ok (.iinc 5 1, 3) := by decide +kernel
theorem dX0_reserve_57 : decode cX0_reserve 57 = .ok (.goto (-51), 3) := by decide +kernel
theorem dX0_reserve_60 : decode cX0_reserve 60 = .ok (.aload_n 0, 1) := by decide +kernel
theorem dX0_reserve_61 : decode cX0_reserve 61 = .ok (.getfield 21, 3) := by decide +kernel
theorem dX0_reserve_64 : decode cX0_reserve 64 = .ok (.iload_n 1, 1) := by decide +kernel
theorem dX0_reserve_65 : decode cX0_reserve 65 = .ok (.iload 4, 2) := by decide +kernel
theorem dX0_reserve_67 : decode cX0_reserve 67 = .ok (.iastore, 1) := by decide +kernel
theorem dX0_reserve_68 : decode cX0_reserve 68 = .ok (.return_, 1) := by decide +kernel
def F_X0_reserve_6  (K6 : Int32 → Int32 → Int32 → Int32 → Int32 → Mm → Prop) (q : Mm → Prop) (x1 : Int32) (x2 : Int32) (x3 : Int32) (x4 : Int32) (x5 : Int32) (μ : Mm) : Prop :=
  (((μ p_GR 7) ≤ x5 → vp_in x1 9 ∧ q (up2 μ p_BK_reserved (x1).toNatClampNeg x4)) ∧ (¬ ((μ p_GR 7) ≤ x5) → vp_in x5 9 ∧ vp_in x1 9 ∧ vp_in x1 9 ∧ vp_in x5 9 ∧ vp_in x1 9 ∧ K6 x1 x2 x3 (imax x4 ((up2 μ (p_BH + (x5).toNatClampNeg) (x1).toNatClampNeg ((μ (p_BH + (x5).toNatClampNeg) (x1).toNatClampNeg) + (((x2 >>> (x5 &&& 31)) &&& (1 : Int32)) * x3))) (p_BH + (x5).toNatClampNeg) (x1).toNatClampNeg)) (x5 + (1 : Int32)) (up2 μ (p_BH + (x5).toNatClampNeg) (x1).toNatClampNeg ((μ (p_BH + (x5).toNatClampNeg) (x1).toNatClampNeg) + (((x2 >>> (x5 &&& 31)) &&& (1 : Int32)) * x3)))))
def F_X0_reserve_e  (K6 : Int32 → Int32 → Int32 → Int32 → Int32 → Mm → Prop) (q : Mm → Prop) (x1 : Int32) (x2 : Int32) (x3 : Int32) (μ : Mm) : Prop :=
  K6 x1 x2 x3 (0 : Int32) (0 : Int32) μ
def Wp_X0_reserve  (x1 : Int32) (x2 : Int32) (x3 : Int32) (μ : Mm) (q : Mm → Prop) : Prop := ∀ (K6 : Int32 → Int32 → Int32 → Int32 → Int32 → Mm → Prop), (∀ (x1 : Int32) (x2 : Int32) (x3 : Int32) (x4 : Int32) (x5 : Int32) (μ : Mm), F_X0_reserve_6  K6 q x1 x2 x3 x4 x5 μ → K6 x1 x2 x3 x4 x5 μ) → F_X0_reserve_e  K6 q x1 x2 x3 μ
abbrev KK_X0_reserve_6 (g : GE) (f : FE)  : Int32 → Int32 → Int32 → Int32 → Int32 → Mm → Prop := fun x1 x2 x3 x4 x5 μ => KW g f 6 0 0 6 [some (.ref p_BK), some (.int x1), some (.int x2), some (.int x3), some (.int x4), some (.int x5)] [] μ
set_option maxHeartbeats 2000000 in
theorem b_X0_reserve_6  {g : GE} {f : FE} {q : Mm → Prop} (cx : Cx g f cX0_reserve 6 RX0 1 21 0 0) (hr : (f_M f).sig.returnType = none) (hl : (f_M f).locks = false) (hQ : f_Q f = MQ (f_b f) (QW g (qV q)) (f_a f) (f_s f) 0 0 (fun q => g.2.2.2.1 ≤ q))  {x1 : Int32} {x2 : Int32} {x3 : Int32} {x4 : Int32} {x5 : Int32} {μ : Mm} (h : F_X0_reserve_6  (KK_X0_reserve_6 g f ) q x1 x2 x3 x4 x5 μ) : KK_X0_reserve_6 g f  x1 x2 x3 x4 x5 μ := by
  unfold F_X0_reserve_6 at h
  show KW g f 6 0 0 6 [some (.ref p_BK), some (.int x1), some (.int x2), some (.int x3), some (.int x4), some (.int x5)] [] μ
  refine k_iload cx dX0_reserve_6 rfl ?_
  refine k_aload_n cx dX0_reserve_8 rfl rfl ?_
  refine k_get (o := some p_GR) (v := .ref p_GR) cx fl_X0_29 ob_BK rfl rfl dX0_reserve_9 ?_
  refine k_get (o := none) (v := .int (μ p_GR 7)) cx fl_X0_41 ob_GR rfl rfl dX0_reserve_12 ?_
  refine k_icmp_ge (tgt := 60) cx dX0_reserve_15 (by decide) (fun hc => ?_) (fun hc => ?_)
  · replace h := h.1 hc
    refine k_aload_n cx dX0_reserve_60 rfl rfl ?_
    refine k_get (o := some p_BK_reserved) (v := .ref p_BK_reserved) cx fl_X0_21 ob_BK rfl rfl dX0_reserve_61 ?_
    refine k_iload_n cx dX0_reserve_64 rfl rfl ?_
    refine k_iload cx dX0_reserve_65 rfl ?_
    obtain ⟨hi, h⟩ := h
    refine k_iast cx ar_BK_reserved hi dX0_reserve_67 ?_
    exact k_ret_V cx hr hl hQ dX0_reserve_68 h
  · replace h := h.2 hc
    refine k_aload_n cx dX0_reserve_18 rfl rfl ?_
    refine k_get (o := some p_BK_behind) (v := .ref p_BK_behind) cx fl_X0_26 ob_BK rfl rfl dX0_reserve_19 ?_
    refine k_iload cx dX0_reserve_22 rfl ?_
    obtain ⟨hi1, h⟩ := h
    refine k_aald_BK_behind cx hi1 dX0_reserve_24 ?_
    refine k_iload_n cx dX0_reserve_25 rfl rfl ?_
    refine k_dup2 cx dX0_reserve_26 rfl rfl ?_
    obtain ⟨hi, h⟩ := h
    refine k_iald cx (ar_BH hi1) hi dX0_reserve_27 ?_
    refine k_iload_n cx dX0_reserve_28 rfl rfl ?_
    refine k_iload cx dX0_reserve_29 rfl ?_
    refine k_ishr cx dX0_reserve_31 ?_
    refine k_iconst (v := (1 : Int32)) cx dX0_reserve_32 (by decide +kernel) ?_
    refine k_iand cx dX0_reserve_33 ?_
    refine k_iload_n cx dX0_reserve_34 rfl rfl ?_
    refine k_imul cx dX0_reserve_35 ?_
    refine k_iadd cx dX0_reserve_36 ?_
    obtain ⟨hi, h⟩ := h
    refine k_iast cx (ar_BH hi1) hi dX0_reserve_37 ?_
    refine k_iload cx dX0_reserve_38 rfl ?_
    refine k_aload_n cx dX0_reserve_40 rfl rfl ?_
    refine k_get (o := some p_BK_behind) (v := .ref p_BK_behind) cx fl_X0_26 ob_BK rfl rfl dX0_reserve_41 ?_
    refine k_iload cx dX0_reserve_44 rfl ?_
    obtain ⟨hi2, h⟩ := h
    refine k_aald_BK_behind cx hi2 dX0_reserve_46 ?_
    refine k_iload_n cx dX0_reserve_47 rfl rfl ?_
    obtain ⟨hi, h⟩ := h
    refine k_iald cx (ar_BH hi2) hi dX0_reserve_48 ?_
    refine k_mmax cx mm_X0_49 (Nat.le_of_ble_eq_true rfl) (Nat.le_of_ble_eq_true rfl) (Nat.le_of_ble_eq_true rfl) dX0_reserve_49 ?_
    refine k_istore cx dX0_reserve_52 (by decide) ?_
    refine k_iinc (v := (x5 + (1 : Int32))) cx dX0_reserve_54 rfl rfl (by decide) ?_
    refine k_goto (tgt := 6) cx dX0_reserve_57 (by decide) ?_
    exact k_weak h (lsLe.keep (lsLe.keep (lsLe.keep (lsLe.keep (lsLe.keep (lsLe.keep lsLe.nil))))))
set_option maxHeartbeats 2000000 in
theorem b_X0_reserve_e  {g : GE} {f : FE} {q : Mm → Prop} (cx : Cx g f cX0_reserve 6 RX0 1 21 0 0) (hr : (f_M f).sig.returnType = none) (hl : (f_M f).locks = false) (hQ : f_Q f = MQ (f_b f) (QW g (qV q)) (f_a f) (f_s f) 0 0 (fun q => g.2.2.2.1 ≤ q))  {x1 : Int32} {x2 : Int32} {x3 : Int32} {μ : Mm} (h : F_X0_reserve_e  (KK_X0_reserve_6 g f ) q x1 x2 x3 μ) : KW g f 6 0 0 0 [some (.ref p_BK), some (.int x1), some (.int x2), some (.int x3), none, none] [] μ := by
  unfold F_X0_reserve_e at h
  refine k_iconst (v := (0 : Int32)) cx dX0_reserve_0 (by decide +kernel) ?_
  refine k_istore cx dX0_reserve_1 (by decide) ?_
  refine k_iconst (v := (0 : Int32)) cx dX0_reserve_3 (by decide +kernel) ?_
  refine k_istore cx dX0_reserve_4 (by decide) ?_
  exact k_weak h (lsLe.keep (lsLe.keep (lsLe.keep (lsLe.keep (lsLe.keep (lsLe.keep lsLe.nil))))))
theorem m_X0_reserve {g : GE} {l : Launch} {μ : Mm} {q : Mm → Prop} {x1 : Int32} {x2 : Int32} {x3 : Int32}  (h : Wp_X0_reserve  x1 x2 x3 μ q) : MW g l yX0_reserve cX0_reserve 6 none 1 21 [.ref p_BK, .int x1, .int x2, .int x3] μ (qV q) := by
  refine met_of (by decide) (Nat.le_of_ble_eq_true rfl) (by intro v hv; simp only [List.mem_cons, List.not_mem_nil, or_false] at hv; rcases hv with rfl | rfl | rfl | rfl <;> rfl) ?_
  intro f hfl cx hr hl hQ
  exact b_X0_reserve_e  cx hr hl hQ (h (KK_X0_reserve_6 g f ) (fun _ _ _ _ _ _ h => b_X0_reserve_6  cx hr hl hQ h))
theorem dX0_enterSecondWay_0 : decode cX0_enterSecondWay 0 = .ok (.iconst 0, 1) := by decide +kernel
theorem dX0_enterSecondWay_1 : decode cX0_enterSecondWay 1 = .ok (.istore 4, 2) := by decide +kernel
theorem dX0_enterSecondWay_3 : decode cX0_enterSecondWay 3 = .ok (.iload 4, 2) := by decide +kernel
theorem dX0_enterSecondWay_5 : decode cX0_enterSecondWay 5 = .ok (.aload_n 0, 1) := by decide +kernel
theorem dX0_enterSecondWay_6 : decode cX0_enterSecondWay 6 = .ok (.getfield 29, 3) := by decide +kernel
theorem dX0_enterSecondWay_9 : decode cX0_enterSecondWay 9 = .ok (.getfield 41, 3) := by decide +kernel
theorem dX0_enterSecondWay_12 : decode cX0_enterSecondWay 12 = .ok (.if_icmp .ge 43, 3) := by decide +kernel
theorem dX0_enterSecondWay_15 : decode cX0_enterSecondWay 15 = .ok (.aload_n 1, 1) := by decide +kernel
theorem dX0_enterSecondWay_16 : decode cX0_enterSecondWay 16 = .ok (.getfield 100, 3) := by decide +kernel
theorem dX0_enterSecondWay_19 : decode cX0_enterSecondWay 19 = .ok (.iload_n 2, 1) := by decide +kernel
theorem dX0_enterSecondWay_20 : decode cX0_enterSecondWay 20 = .ok (.iaload, 1) := by decide +kernel
theorem dX0_enterSecondWay_21 : decode cX0_enterSecondWay 21 = .ok (.iload 4, 2) := by decide +kernel
theorem dX0_enterSecondWay_23 : decode cX0_enterSecondWay 23 = .ok (.ishr, 1) := by decide +kernel
theorem dX0_enterSecondWay_24 : decode cX0_enterSecondWay 24 = .ok (.iconst 1, 1) := by decide +kernel
theorem dX0_enterSecondWay_25 : decode cX0_enterSecondWay 25 = .ok (.iand, 1) := by decide +kernel
theorem dX0_enterSecondWay_26 : decode cX0_enterSecondWay 26 = .ok (.ifCond .eq 23, 3) := by decide +kernel
theorem dX0_enterSecondWay_29 : decode cX0_enterSecondWay 29 = .ok (.aload_n 0, 1) := by decide +kernel
theorem dX0_enterSecondWay_30 : decode cX0_enterSecondWay 30 = .ok (.iload 4, 2) := by decide +kernel
theorem dX0_enterSecondWay_32 : decode cX0_enterSecondWay 32 = .ok (.aload_n 1, 1) := by decide +kernel
theorem dX0_enterSecondWay_33 : decode cX0_enterSecondWay 33 = .ok (.getfield 84, 3) := by decide +kernel
theorem dX0_enterSecondWay_36 : decode cX0_enterSecondWay 36 = .ok (.iload_n 2, 1) := by decide +kernel
theorem dX0_enterSecondWay_37 : decode cX0_enterSecondWay 37 = .ok (.iaload, 1) := by decide +kernel
theorem dX0_enterSecondWay_38 : decode cX0_enterSecondWay 38 = .ok (.iload_n 3, 1) := by decide +kernel
theorem dX0_enterSecondWay_39 : decode cX0_enterSecondWay 39 = .ok (.aload_n 1, 1) := by decide +kernel
theorem dX0_enterSecondWay_40 : decode cX0_enterSecondWay 40 = .ok (.getfield 103, 3) := by decide +kernel
theorem dX0_enterSecondWay_43 : decode cX0_enterSecondWay 43 = .ok (.iload_n 2, 1) := by decide +kernel
theorem dX0_enterSecondWay_44 : decode cX0_enterSecondWay 44 = .ok (.iaload, 1) := by decide +kernel
theorem dX0_enterSecondWay_45 : decode cX0_enterSecondWay 45 = .ok (.imul, 1) := by decide +kernel
theorem dX0_enterSecondWay_46 : decode cX0_enterSecondWay 46 = .ok (.invokevirtual 106, 3) := by decide +kernel
theorem dX0_enterSecondWay_49 : decode cX0_enterSecondWay 49 = .ok (.iinc 4 1, 3) := by decide +kernel
theorem dX0_enterSecondWay_52 : decode cX0_enterSecondWay 52 = .ok (.goto (-49), 3) := by decide +kernel
theorem dX0_enterSecondWay_55 : decode cX0_enterSecondWay 55 = .ok (.return_, 1) := by decide +kernel
def F_X0_enterSecondWay_3 (p1 : Nat) (K3 : Int32 → Int32 → Int32 → Mm → Prop) (q : Mm → Prop) (x2 : Int32) (x3 : Int32) (x4 : Int32) (μ : Mm) : Prop :=
  (((μ p_GR 7) ≤ x4 → q μ) ∧ (¬ ((μ p_GR 7) ≤ x4) → vp_in x2 3 ∧ (((((μ (p1 + 10) (x2).toNatClampNeg) >>> (x4 &&& 31)) &&& (1 : Int32)) = 0 → K3 x2 x3 (x4 + (1 : Int32)) μ) ∧ (¬ ((((μ (p1 + 10) (x2).toNatClampNeg) >>> (x4 &&& 31)) &&& (1 : Int32)) = 0) → vp_in x2 3 ∧ vp_in x2 3 ∧ Wp_X0_reserve x4 (μ (p1 + 7) (x2).toNatClampNeg) (x3 * (μ (p1 + 6) (x2).toNatClampNeg)) μ (fun μ1 => K3 x2 x3 (x4 + (1 : Int32)) μ1)))))
def F_X0_enterSecondWay_e (p1 : Nat) (K3 : Int32 → Int32 → Int32 → Mm → Prop) (q : Mm → Prop) (x2 : Int32) (x3 : Int32) (μ : Mm) : Prop :=
  K3 x2 x3 (0 : Int32) μ
def Wp_X0_enterSecondWay (p1 : Nat) (x2 : Int32) (x3 : Int32) (μ : Mm) (q : Mm → Prop) : Prop := ∀ (K3 : Int32 → Int32 → Int32 → Mm → Prop), (∀ (x2 : Int32) (x3 : Int32) (x4 : Int32) (μ : Mm), F_X0_enterSecondWay_3 p1 K3 q x2 x3 x4 μ → K3 x2 x3 x4 μ) → F_X0_enterSecondWay_e p1 K3 q x2 x3 μ
abbrev KK_X0_enterSecondWay_3 (g : GE) (f : FE) (p1 : Nat) : Int32 → Int32 → Int32 → Mm → Prop := fun x2 x3 x4 μ => KW g f 5 0 0 3 [some (.ref p_BK), some (.ref p1), some (.int x2), some (.int x3), some (.int x4)] [] μ
set_option maxHeartbeats 2000000 in
theorem b_X0_enterSecondWay_3 {p1 : Nat} (h_p1 : isReq p1) {g : GE} {f : FE} {q : Mm → Prop} (cx : Cx g f cX0_enterSecondWay 5 RX0 2 46 0 0) (hr : (f_M f).sig.returnType = none) (hl : (f_M f).locks = false) (hQ : f_Q f = MQ (f_b f) (QW g (qV q)) (f_a f) (f_s f) 0 0 (fun q => g.2.2.2.1 ≤ q))  {x2 : Int32} {x3 : Int32} {x4 : Int32} {μ : Mm} (h : F_X0_enterSecondWay_3 p1 (KK_X0_enterSecondWay_3 g f p1) q x2 x3 x4 μ) : KK_X0_enterSecondWay_3 g f p1 x2 x3 x4 μ := by
  unfold F_X0_enterSecondWay_3 at h
  show KW g f 5 0 0 3 [some (.ref p_BK), some (.ref p1), some (.int x2), some (.int x3), some (.int x4)] [] μ
  refine k_iload cx dX0_enterSecondWay_3 rfl ?_
  refine k_aload_n cx dX0_enterSecondWay_5 rfl rfl ?_
  refine k_get (o := some p_GR) (v := .ref p_GR) cx fl_X0_29 ob_BK rfl rfl dX0_enterSecondWay_6 ?_
  refine k_get (o := none) (v := .int (μ p_GR 7)) cx fl_X0_41 ob_GR rfl rfl dX0_enterSecondWay_9 ?_
  refine k_icmp_ge (tgt := 55) cx dX0_enterSecondWay_12 (by decide) (fun hc => ?_) (fun hc => ?_)
  · replace h := h.1 hc
    exact k_ret_V cx hr hl hQ dX0_enterSecondWay_55 h
  · replace h := h.2 hc
    refine k_aload_n cx dX0_enterSecondWay_15 rfl rfl ?_
    refine k_get (o := some (p1 + 10)) (v := .ref (p1 + 10)) cx fl_X0_100 (ob_RQ h_p1) rfl rfl dX0_enterSecondWay_16 ?_
    refine k_iload_n cx dX0_enterSecondWay_19 rfl rfl ?_
    obtain ⟨hi, h⟩ := h
    refine k_iald cx (ar_RQ h_p1 10 (by decide) (by decide)) hi dX0_enterSecondWay_20 ?_
    refine k_iload cx dX0_enterSecondWay_21 rfl ?_
    refine k_ishr cx dX0_enterSecondWay_23 ?_
    refine k_iconst (v := (1 : Int32)) cx dX0_enterSecondWay_24 (by decide +kernel) ?_
    refine k_iand cx dX0_enterSecondWay_25 ?_
    refine k_if_eq (tgt := 49) cx dX0_enterSecondWay_26 (by decide) (fun hc => ?_) (fun hc => ?_)
    · replace h := h.1 hc
      refine k_iinc (v := (x4 + (1 : Int32))) cx dX0_enterSecondWay_49 rfl rfl (by decide) ?_
      refine k_goto (tgt := 3) cx dX0_enterSecondWay_52 (by decide) ?_
      exact k_weak h (lsLe.keep (lsLe.keep (lsLe.keep (lsLe.keep (lsLe.keep lsLe.nil)))))
    · replace h := h.2 hc
      refine k_aload_n cx dX0_enterSecondWay_29 rfl rfl ?_
      refine k_iload cx dX0_enterSecondWay_30 rfl ?_
      refine k_aload_n cx dX0_enterSecondWay_32 rfl rfl ?_
      refine k_get (o := some (p1 + 7)) (v := .ref (p1 + 7)) cx fl_X0_84 (ob_RQ h_p1) rfl rfl dX0_enterSecondWay_33 ?_
      refine k_iload_n cx dX0_enterSecondWay_36 rfl rfl ?_
      obtain ⟨hi, h⟩ := h
      refine k_iald cx (ar_RQ h_p1 7 (by decide) (by decide)) hi dX0_enterSecondWay_37 ?_
      refine k_iload_n cx dX0_enterSecondWay_38 rfl rfl ?_
      refine k_aload_n cx dX0_enterSecondWay_39 rfl rfl ?_
      refine k_get (o := some (p1 + 6)) (v := .ref (p1 + 6)) cx fl_X0_103 (ob_RQ h_p1) rfl rfl dX0_enterSecondWay_40 ?_
      refine k_iload_n cx dX0_enterSecondWay_43 rfl rfl ?_
      obtain ⟨hi, h⟩ := h
      refine k_iald cx (ar_RQ h_p1 6 (by decide) (by decide)) hi dX0_enterSecondWay_44 ?_
      refine k_imul cx dX0_enterSecondWay_45 ?_
      refine k_callV (As := [.int x4, .int (μ (p1 + 7) (x2).toNatClampNeg), .int (x3 * (μ (p1 + 6) (x2).toNatClampNeg))]) (rest := []) cx (m_X0_reserve h) cv_X0_106 ob_BK rfl rfl rfl rfl (Nat.le_of_ble_eq_true rfl) ⟨Nat.le_of_ble_eq_true rfl, Nat.le_of_ble_eq_true rfl⟩ dX0_enterSecondWay_46 (fun v μ1 hq => ?_)
      obtain ⟨rfl, h⟩ := hq
      refine k_iinc (v := (x4 + (1 : Int32))) cx dX0_enterSecondWay_49 rfl rfl (by decide) ?_
      refine k_goto (tgt := 3) cx dX0_enterSecondWay_52 (by decide) ?_
      exact k_weak h (lsLe.keep (lsLe.keep (lsLe.keep (lsLe.keep (lsLe.keep lsLe.nil)))))
set_option maxHeartbeats 2000000 in
theorem b_X0_enterSecondWay_e {p1 : Nat} (h_p1 : isReq p1) {g : GE} {f : FE} {q : Mm → Prop} (cx : Cx g f cX0_enterSecondWay 5 RX0 2 46 0 0) (hr : (f_M f).sig.returnType = none) (hl : (f_M f).locks = false) (hQ : f_Q f = MQ (f_b f) (QW g (qV q)) (f_a f) (f_s f) 0 0 (fun q => g.2.2.2.1 ≤ q))  {x2 : Int32} {x3 : Int32} {μ : Mm} (h : F_X0_enterSecondWay_e p1 (KK_X0_enterSecondWay_3 g f p1) q x2 x3 μ) : KW g f 5 0 0 0 [some (.ref p_BK), some (.ref p1), some (.int x2), some (.int x3), none] [] μ := by
  unfold F_X0_enterSecondWay_e at h
  refine k_iconst (v := (0 : Int32)) cx dX0_enterSecondWay_0 (by decide +kernel) ?_
  refine k_istore cx dX0_enterSecondWay_1 (by decide) ?_
  exact k_weak h (lsLe.keep (lsLe.keep (lsLe.keep (lsLe.keep (lsLe.keep lsLe.nil)))))
theorem m_X0_enterSecondWay {g : GE} {l : Launch} {μ : Mm} {q : Mm → Prop} {p1 : Nat} {x2 : Int32} {x3 : Int32} (h_p1 : isReq p1) (h : Wp_X0_enterSecondWay p1 x2 x3 μ q) : MW g l yX0_enterSecondWay cX0_enterSecondWay 5 none 2 46 [.ref p_BK, .ref p1, .int x2, .int x3] μ (qV q) := by
  refine met_of (by decide) (Nat.le_of_ble_eq_true rfl) (by intro v hv; simp only [List.mem_cons, List.not_mem_nil, or_false] at hv; rcases hv with rfl | rfl | rfl | rfl <;> rfl) ?_
  intro f hfl cx hr hl hQ
  exact b_X0_enterSecondWay_e h_p1 cx hr hl hQ (h (KK_X0_enterSecondWay_3 g f p1) (fun _ _ _ _ h => b_X0_enterSecondWay_3 h_p1 cx hr hl hQ h))
theorem dX5_restOf_0 : decode cX5_restOf 0 = .ok (.aload_n 0, 1) := by decide +kernel
theorem dX5_restOf_1 : decode cX5_restOf 1 = .ok (.getfield 27, 3) := by decide +kernel
theorem dX5_restOf_4 : decode cX5_restOf 4 = .ok (.iload_n 1, 1) := by decide +kernel
theorem dX5_restOf_5 : decode cX5_restOf 5 = .ok (.iaload, 1) := by decide +kernel
theorem dX5_restOf_6 : decode cX5_restOf 6 = .ok (.aload_n 0, 1) := by decide +kernel
theorem dX5_restOf_7 : decode cX5_restOf 7 = .ok (.getfield 33, 3) := by decide +kernel
theorem dX5_restOf_10 : decode cX5_restOf 10 = .ok (.iload_n 1, 1) := by decide +kernel
theorem dX5_restOf_11 : decode cX5_restOf 11 = .ok (.iaload, 1) := by decide +kernel
theorem dX5_restOf_12 : decode cX5_restOf 12 = .ok (.isub, 1) := by decide +kernel
theorem dX5_restOf_13 : decode cX5_restOf 13 = .ok (.ireturn, 1) := by decide +kernel
def F_X5_restOf_e (p0 : Nat)  (q : Int32 → Mm → Prop) (x1 : Int32) (μ : Mm) : Prop :=
  vp_in x1 3 ∧ vp_in x1 3 ∧ q ((μ (p0 + 6) (x1).toNatClampNeg) - (μ (p0 + 8) (x1).toNatClampNeg)) μ
def Wp_X5_restOf (p0 : Nat) (x1 : Int32) (μ : Mm) (q : Int32 → Mm → Prop) : Prop := F_X5_restOf_e p0  q x1 μ
set_option maxHeartbeats 2000000 in
theorem b_X5_restOf_e {p0 : Nat} (h_p0 : isReq p0) {g : GE} {f : FE} {q : Int32 → Mm → Prop} (cx : Cx g f cX5_restOf 2 RX5 0 0 0 0) (hr : (f_M f).sig.returnType = (some .int)) (hl : (f_M f).locks = false) (hQ : f_Q f = MQ (f_b f) (QW g (qI q)) (f_a f) (f_s f) 0 0 (fun q => g.2.2.2.1 ≤ q))  {x1 : Int32} {μ : Mm} (h : F_X5_restOf_e p0  q x1 μ) : KW g f 2 0 0 0 [some (.ref p0), some (.int x1)] [] μ := by
  unfold F_X5_restOf_e at h
  refine k_aload_n cx dX5_restOf_0 rfl rfl ?_
  refine k_get (o := some (p0 + 6)) (v := .ref (p0 + 6)) cx fl_X5_27 (ob_RQ h_p0) rfl rfl dX5_restOf_1 ?_
  refine k_iload_n cx dX5_restOf_4 rfl rfl ?_
  obtain ⟨hi, h⟩ := h
  refine k_iald cx (ar_RQ h_p0 6 (by decide) (by decide)) hi dX5_restOf_5 ?_
  refine k_aload_n cx dX5_restOf_6 rfl rfl ?_
  refine k_get (o := some (p0 + 8)) (v := .ref (p0 + 8)) cx fl_X5_33 (ob_RQ h_p0) rfl rfl dX5_restOf_7 ?_
  refine k_iload_n cx dX5_restOf_10 rfl rfl ?_
  obtain ⟨hi, h⟩ := h
  refine k_iald cx (ar_RQ h_p0 8 (by decide) (by decide)) hi dX5_restOf_11 ?_
  refine k_isub cx dX5_restOf_12 ?_
  exact k_ret_I cx hr hl hQ dX5_restOf_13 h
theorem m_X5_restOf {g : GE} {l : Launch} {μ : Mm} {q : Int32 → Mm → Prop} {p0 : Nat} {x1 : Int32} (h_p0 : isReq p0) (h : Wp_X5_restOf p0 x1 μ q) : MW g l yX5_restOf cX5_restOf 2 (some .int) 0 0 [.ref p0, .int x1] μ (qI q) := by
  refine met_of (by decide) (Nat.le_of_ble_eq_true rfl) (by intro v hv; simp only [List.mem_cons, List.not_mem_nil, or_false] at hv; rcases hv with rfl | rfl <;> rfl) ?_
  intro f hfl cx hr hl hQ
  exact b_X5_restOf_e h_p0 cx hr hl hQ (h  )
theorem dX0_enterWays_0 : decode cX0_enterWays 0 = .ok (.aload_n 0, 1) := by decide +kernel
theorem dX0_enterWays_1 : decode cX0_enterWays 1 = .ok (.aload_n 1, 1) := by decide +kernel
theorem dX0_enterWays_2 : decode cX0_enterWays 2 = .ok (.getfield 84, 3) := by decide +kernel
theorem dX0_enterWays_5 : decode cX0_enterWays 5 = .ok (.iload_n 2, 1) := by decide +kernel
theorem dX0_enterWays_6 : decode cX0_enterWays 6 = .ok (.iaload, 1) := by decide +kernel
theorem dX0_enterWays_7 : decode cX0_enterWays 7 = .ok (.iload_n 3, 1) := by decide +kernel
theorem dX0_enterWays_8 : decode cX0_enterWays 8 = .ok (.aload_n 1, 1) := by decide +kernel
theorem dX0_enterWays_9 : decode cX0_enterWays 9 = .ok (.getfield 87, 3) := by decide +kernel
theorem dX0_enterWays_12 : decode cX0_enterWays 12 = .ok (.iload_n 2, 1) := by decide +kernel
theorem dX0_enterWays_13 : decode cX0_enterWays 13 = .ok (.iaload, 1) := by decide +kernel
theorem dX0_enterWays_14 : decode cX0_enterWays 14 = .ok (.imul, 1) := by decide +kernel
theorem dX0_enterWays_15 : decode cX0_enterWays 15 = .ok (.invokevirtual 90, 3) := by decide +kernel
theorem dX0_enterWays_18 : decode cX0_enterWays 18 = .ok (.aload_n 0, 1) := by decide +kernel
theorem dX0_enterWays_19 : decode cX0_enterWays 19 = .ok (.aload_n 1, 1) := by decide +kernel
theorem dX0_enterWays_20 : decode cX0_enterWays 20 = .ok (.getfield 94, 3) := by decide +kernel
theorem dX0_enterWays_23 : decode cX0_enterWays 23 = .ok (.iload_n 2, 1) := by decide +kernel
theorem dX0_enterWays_24 : decode cX0_enterWays 24 = .ok (.iaload, 1) := by decide +kernel
theorem dX0_enterWays_25 : decode cX0_enterWays 25 = .ok (.iload_n 3, 1) := by decide +kernel
theorem dX0_enterWays_26 : decode cX0_enterWays 26 = .ok (.aload_n 1, 1) := by decide +kernel
theorem dX0_enterWays_27 : decode cX0_enterWays 27 = .ok (.iload_n 2, 1) := by decide +kernel
theorem dX0_enterWays_28 : decode cX0_enterWays 28 = .ok (.invokevirtual 97, 3) := by decide +kernel
theorem dX0_enterWays_31 : decode cX0_enterWays 31 = .ok (.imul, 1) := by decide +kernel
theorem dX0_enterWays_32 : decode cX0_enterWays 32 = .ok (.invokevirtual 90, 3) := by decide +kernel
theorem dX0_enterWays_35 : decode cX0_enterWays 35 = .ok (.return_, 1) := by decide +kernel
def F_X0_enterWays_e (p1 : Nat)  (q : Mm → Prop) (x2 : Int32) (x3 : Int32) (μ : Mm) : Prop :=
  vp_in x2 3 ∧ vp_in x2 3 ∧ Wp_X0_carry (μ (p1 + 7) (x2).toNatClampNeg) (x3 * (μ (p1 + 8) (x2).toNatClampNeg)) μ (fun μ1 => vp_in x2 3 ∧ Wp_X5_restOf p1 x2 μ1 (fun z3 μ2 => Wp_X0_carry (μ1 (p1 + 9) (x2).toNatClampNeg) (x3 * z3) μ2 (fun μ4 => q μ4)))
def Wp_X0_enterWays (p1 : Nat) (x2 : Int32) (x3 : Int32) (μ : Mm) (q : Mm → Prop) : Prop := F_X0_enterWays_e p1  q x2 x3 μ
set_option maxHeartbeats 2000000 in
theorem b_X0_enterWays_e {p1 : Nat} (h_p1 : isReq p1) {g : GE} {f : FE} {q : Mm → Prop} (cx : Cx g f cX0_enterWays 4 RX0 1 23 0 0) (hr : (f_M f).sig.returnType = none) (hl : (f_M f).locks = false) (hQ : f_Q f = MQ (f_b f) (QW g (qV q)) (f_a f) (f_s f) 0 0 (fun q => g.2.2.2.1 ≤ q))  {x2 : Int32} {x3 : Int32} {μ : Mm} (h : F_X0_enterWays_e p1  q x2 x3 μ) : KW g f 4 0 0 0 [some (.ref p_BK), some (.ref p1), some (.int x2), some (.int x3)] [] μ := by
  unfold F_X0_enterWays_e at h
  refine k_aload_n cx dX0_enterWays_0 rfl rfl ?_
  refine k_aload_n cx dX0_enterWays_1 rfl rfl ?_
  refine k_get (o := some (p1 + 7)) (v := .ref (p1 + 7)) cx fl_X0_84 (ob_RQ h_p1) rfl rfl dX0_enterWays_2 ?_
  refine k_iload_n cx dX0_enterWays_5 rfl rfl ?_
  obtain ⟨hi, h⟩ := h
  refine k_iald cx (ar_RQ h_p1 7 (by decide) (by decide)) hi dX0_enterWays_6 ?_
  refine k_iload_n cx dX0_enterWays_7 rfl rfl ?_
  refine k_aload_n cx dX0_enterWays_8 rfl rfl ?_
  refine k_get (o := some (p1 + 8)) (v := .ref (p1 + 8)) cx fl_X0_87 (ob_RQ h_p1) rfl rfl dX0_enterWays_9 ?_
  refine k_iload_n cx dX0_enterWays_12 rfl rfl ?_
  obtain ⟨hi, h⟩ := h
  refine k_iald cx (ar_RQ h_p1 8 (by decide) (by decide)) hi dX0_enterWays_13 ?_
  refine k_imul cx dX0_enterWays_14 ?_
  refine k_callV (As := [.int (μ (p1 + 7) (x2).toNatClampNeg), .int (x3 * (μ (p1 + 8) (x2).toNatClampNeg))]) (rest := []) cx (m_X0_carry h) cv_X0_90 ob_BK rfl rfl rfl rfl (Nat.le_of_ble_eq_true rfl) ⟨Nat.le_of_ble_eq_true rfl, Nat.le_of_ble_eq_true rfl⟩ dX0_enterWays_15 (fun v μ1 hq => ?_)
  obtain ⟨rfl, h⟩ := hq
  refine k_aload_n cx dX0_enterWays_18 rfl rfl ?_
  refine k_aload_n cx dX0_enterWays_19 rfl rfl ?_
  refine k_get (o := some (p1 + 9)) (v := .ref (p1 + 9)) cx fl_X0_94 (ob_RQ h_p1) rfl rfl dX0_enterWays_20 ?_
  refine k_iload_n cx dX0_enterWays_23 rfl rfl ?_
  obtain ⟨hi, h⟩ := h
  refine k_iald cx (ar_RQ h_p1 9 (by decide) (by decide)) hi dX0_enterWays_24 ?_
  refine k_iload_n cx dX0_enterWays_25 rfl rfl ?_
  refine k_aload_n cx dX0_enterWays_26 rfl rfl ?_
  refine k_iload_n cx dX0_enterWays_27 rfl rfl ?_
  refine k_callV (As := [.int x2]) (rest := [.int x3, .int (μ1 (p1 + 9) (x2).toNatClampNeg), .ref p_BK]) cx (m_X5_restOf h_p1 h) cv_X0_97 (ob_RQ h_p1) rfl rfl rfl rfl (Nat.le_of_ble_eq_true rfl) ⟨Nat.le_of_ble_eq_true rfl, Nat.le_of_ble_eq_true rfl⟩ dX0_enterWays_28 (fun v μ2 hq => ?_)
  obtain ⟨z3, rfl, h⟩ := hq
  refine k_imul cx dX0_enterWays_31 ?_
  refine k_callV (As := [.int (μ1 (p1 + 9) (x2).toNatClampNeg), .int (x3 * z3)]) (rest := []) cx (m_X0_carry h) cv_X0_90 ob_BK rfl rfl rfl rfl (Nat.le_of_ble_eq_true rfl) ⟨Nat.le_of_ble_eq_true rfl, Nat.le_of_ble_eq_true rfl⟩ dX0_enterWays_32 (fun v μ4 hq => ?_)
  obtain ⟨rfl, h⟩ := hq
  exact k_ret_V cx hr hl hQ dX0_enterWays_35 h
theorem m_X0_enterWays {g : GE} {l : Launch} {μ : Mm} {q : Mm → Prop} {p1 : Nat} {x2 : Int32} {x3 : Int32} (h_p1 : isReq p1) (h : Wp_X0_enterWays p1 x2 x3 μ q) : MW g l yX0_enterWays cX0_enterWays 4 none 1 23 [.ref p_BK, .ref p1, .int x2, .int x3] μ (qV q) := by
  refine met_of (by decide) (Nat.le_of_ble_eq_true rfl) (by intro v hv; simp only [List.mem_cons, List.not_mem_nil, or_false] at hv; rcases hv with rfl | rfl | rfl | rfl <;> rfl) ?_
  intro f hfl cx hr hl hQ
  exact b_X0_enterWays_e h_p1 cx hr hl hQ (h  )
theorem dX0_enter_0 : decode cX0_enter 0 = .ok (.iconst 0, 1) := by decide +kernel
theorem dX0_enter_1 : decode cX0_enter 1 = .ok (.istore_n 3, 1) := by decide +kernel
theorem dX0_enter_2 : decode cX0_enter 2 = .ok (.iload_n 3, 1) := by decide +kernel
theorem dX0_enter_3 : decode cX0_enter 3 = .ok (.aload_n 1, 1) := by decide +kernel
theorem dX0_enter_4 : decode cX0_enter 4 = .ok (.getfield 55, 3) := by decide +kernel
theorem dX0_enter_7 : decode cX0_enter 7 = .ok (.if_icmp .ge 26, 3) := by decide +kernel
theorem dX0_enter_10 : decode cX0_enter 10 = .ok (.aload_n 0, 1) := by decide +kernel
theorem dX0_enter_11 : decode cX0_enter 11 = .ok (.aload_n 1, 1) := by decide +kernel
theorem dX0_enter_12 : decode cX0_enter 12 = .ok (.getfield 60, 3) := by decide +kernel
theorem dX0_enter_15 : decode cX0_enter 15 = .ok (.iload_n 3, 1) := by decide +kernel
theorem dX0_enter_16 : decode cX0_enter 16 = .ok (.iaload, 1) := by decide +kernel
theorem dX0_enter_17 : decode cX0_enter 17 = .ok (.aload_n 1, 1) := by decide +kernel
theorem dX0_enter_18 : decode cX0_enter 18 = .ok (.getfield 63, 3) := by decide +kernel
theorem dX0_enter_21 : decode cX0_enter 21 = .ok (.iload_n 3, 1) := by decide +kernel
theorem dX0_enter_22 : decode cX0_enter 22 = .ok (.iaload, 1) := by decide +kernel
theorem dX0_enter_23 : decode cX0_enter 23 = .ok (.iload_n 2, 1) := by decide +kernel
theorem dX0_enter_24 : decode cX0_enter 24 = .ok (.invokevirtual 66, 3) := by decide +kernel
theorem dX0_enter_27 : decode cX0_enter 27 = .ok (.iinc 3 1, 3) := by decide +kernel
theorem dX0_enter_30 : decode cX0_enter 30 = .ok (.goto (-28), 3) := by decide +kernel
theorem dX0_enter_33 : decode cX0_enter 33 = .ok (.iconst 0, 1) := by decide +kernel
theorem dX0_enter_34 : decode cX0_enter 34 = .ok (.istore_n 3, 1) := by decide +kernel
theorem dX0_enter_35 : decode cX0_enter 35 = .ok (.iload_n 3, 1) := by decide +kernel
theorem dX0_enter_36 : decode cX0_enter 36 = .ok (.aload_n 1, 1) := by decide +kernel
theorem dX0_enter_37 : decode cX0_enter 37 = .ok (.getfield 70, 3) := by decide +kernel
theorem dX0_enter_40 : decode cX0_enter 40 = .ok (.if_icmp .ge 23, 3) := by decide +kernel
theorem dX0_enter_43 : decode cX0_enter 43 = .ok (.aload_n 0, 1) := by decide +kernel
theorem dX0_enter_44 : decode cX0_enter 44 = .ok (.aload_n 1, 1) := by decide +kernel
theorem dX0_enter_45 : decode cX0_enter 45 = .ok (.iload_n 3, 1) := by decide +kernel
theorem dX0_enter_46 : decode cX0_enter 46 = .ok (.iload_n 2, 1) := by decide +kernel
theorem dX0_enter_47 : decode cX0_enter 47 = .ok (.invokevirtual 73, 3) := by decide +kernel
theorem dX0_enter_50 : decode cX0_enter 50 = .ok (.aload_n 0, 1) := by decide +kernel
theorem dX0_enter_51 : decode cX0_enter 51 = .ok (.aload_n 1, 1) := by decide +kernel
theorem dX0_enter_52 : decode cX0_enter 52 = .ok (.iload_n 3, 1) := by decide +kernel
theorem dX0_enter_53 : decode cX0_enter 53 = .ok (.iload_n 2, 1) := by decide +kernel
theorem dX0_enter_54 : decode cX0_enter 54 = .ok (.invokevirtual 77, 3) := by decide +kernel
theorem dX0_enter_57 : decode cX0_enter 57 = .ok (.iinc 3 1, 3) := by decide +kernel
theorem dX0_enter_60 : decode cX0_enter 60 = .ok (.goto (-25), 3) := by decide +kernel
theorem dX0_enter_63 : decode cX0_enter 63 = .ok (.return_, 1) := by decide +kernel
def F_X0_enter_2 (p1 : Nat) (K2 : Int32 → Int32 → Mm → Prop) (K35 : Int32 → Int32 → Mm → Prop) (q : Mm → Prop) (x2 : Int32) (x3 : Int32) (μ : Mm) : Prop :=
  (((μ p1 10) ≤ x3 → K35 x2 (0 : Int32) μ) ∧ (¬ ((μ p1 10) ≤ x3) → vp_in x3 3 ∧ vp_in x3 3 ∧ Wp_X0_enterPart (μ (p1 + 3) (x3).toNatClampNeg) (μ (p1 + 1) (x3).toNatClampNeg) x2 μ (fun μ1 => K2 x2 (x3 + (1 : Int32)) μ1)))
def F_X0_enter_35 (p1 : Nat) (K2 : Int32 → Int32 → Mm → Prop) (K35 : Int32 → Int32 → Mm → Prop) (q : Mm → Prop) (x2 : Int32) (x3 : Int32) (μ : Mm) : Prop :=
  (((μ p1 11) ≤ x3 → q μ) ∧ (¬ ((μ p1 11) ≤ x3) → Wp_X0_enterWays p1 x3 x2 μ (fun μ1 => Wp_X0_enterSecondWay p1 x3 x2 μ1 (fun μ2 => K35 x2 (x3 + (1 : Int32)) μ2))))
def F_X0_enter_e (p1 : Nat) (K2 : Int32 → Int32 → Mm → Prop) (K35 : Int32 → Int32 → Mm → Prop) (q : Mm → Prop) (x2 : Int32) (μ : Mm) : Prop :=
  K2 x2 (0 : Int32) μ
def Wp_X0_enter (p1 : Nat) (x2 : Int32) (μ : Mm) (q : Mm → Prop) : Prop := ∀ (K2 : Int32 → Int32 → Mm → Prop) (K35 : Int32 → Int32 → Mm → Prop), (∀ (x2 : Int32) (x3 : Int32) (μ : Mm), F_X0_enter_2 p1 K2 K35 q x2 x3 μ → K2 x2 x3 μ) → (∀ (x2 : Int32) (x3 : Int32) (μ : Mm), F_X0_enter_35 p1 K2 K35 q x2 x3 μ → K35 x2 x3 μ) → F_X0_enter_e p1 K2 K35 q x2 μ
abbrev KK_X0_enter_2 (g : GE) (f : FE) (p1 : Nat) : Int32 → Int32 → Mm → Prop := fun x2 x3 μ => KW g f 4 0 0 2 [some (.ref p_BK), some (.ref p1), some (.int x2), some (.int x3)] [] μ
abbrev KK_X0_enter_35 (g : GE) (f : FE) (p1 : Nat) : Int32 → Int32 → Mm → Prop := fun x2 x3 μ => KW g f 4 0 0 35 [some (.ref p_BK), some (.ref p1), some (.int x2), some (.int x3)] [] μ
set_option maxHeartbeats 2000000 in
theorem b_X0_enter_2 {p1 : Nat} (h_p1 : isReq p1) {g : GE} {f : FE} {q : Mm → Prop} (cx : Cx g f cX0_enter 4 RX0 3 70 0 0) (hr : (f_M f).sig.returnType = none) (hl : (f_M f).locks = false) (hQ : f_Q f = MQ (f_b f) (QW g (qV q)) (f_a f) (f_s f) 0 0 (fun q => g.2.2.2.1 ≤ q))  {x2 : Int32} {x3 : Int32} {μ : Mm} (h : F_X0_enter_2 p1 (KK_X0_enter_2 g f p1) (KK_X0_enter_35 g f p1) q x2 x3 μ) : KK_X0_enter_2 g f p1 x2 x3 μ := by
  unfold F_X0_enter_2 at h
  show KW g f 4 0 0 2 [some (.ref p_BK), some (.ref p1), some (.int x2), some (.int x3)] [] μ
  refine k_iload_n cx dX0_enter_2 rfl rfl ?_
  refine k_aload_n cx dX0_enter_3 rfl rfl ?_
  refine k_get (o := none) (v := .int (μ p1 10)) cx fl_X0_55 (ob_RQ h_p1) rfl rfl dX0_enter_4 ?_
  refine k_icmp_ge (tgt := 33) cx dX0_enter_7 (by decide) (fun hc => ?_) (fun hc => ?_)
  · replace h := h.1 hc
    refine k_iconst (v := (0 : Int32)) cx dX0_enter_33 (by decide +kernel) ?_
    refine k_istore_n cx dX0_enter_34 rfl (by decide) ?_
    exact k_weak h (lsLe.keep (lsLe.keep (lsLe.keep (lsLe.keep lsLe.nil))))
  · replace h := h.2 hc
    refine k_aload_n cx dX0_enter_10 rfl rfl ?_
    refine k_aload_n cx dX0_enter_11 rfl rfl ?_
    refine k_get (o := some (p1 + 3)) (v := .ref (p1 + 3)) cx fl_X0_60 (ob_RQ h_p1) rfl rfl dX0_enter_12 ?_
    refine k_iload_n cx dX0_enter_15 rfl rfl ?_
    obtain ⟨hi, h⟩ := h
    refine k_iald cx (ar_RQ h_p1 3 (by decide) (by decide)) hi dX0_enter_16 ?_
    refine k_aload_n cx dX0_enter_17 rfl rfl ?_
    refine k_get (o := some (p1 + 1)) (v := .ref (p1 + 1)) cx fl_X0_63 (ob_RQ h_p1) rfl rfl dX0_enter_18 ?_
    refine k_iload_n cx dX0_enter_21 rfl rfl ?_
    obtain ⟨hi, h⟩ := h
    refine k_iald cx (ar_RQ h_p1 1 (by decide) (by decide)) hi dX0_enter_22 ?_
    refine k_iload_n cx dX0_enter_23 rfl rfl ?_
    refine k_callV (As := [.int (μ (p1 + 3) (x3).toNatClampNeg), .int (μ (p1 + 1) (x3).toNatClampNeg), .int x2]) (rest := []) cx (m_X0_enterPart h) cv_X0_66 ob_BK rfl rfl rfl rfl (Nat.le_of_ble_eq_true rfl) ⟨Nat.le_of_ble_eq_true rfl, Nat.le_of_ble_eq_true rfl⟩ dX0_enter_24 (fun v μ1 hq => ?_)
    obtain ⟨rfl, h⟩ := hq
    refine k_iinc (v := (x3 + (1 : Int32))) cx dX0_enter_27 rfl rfl (by decide) ?_
    refine k_goto (tgt := 2) cx dX0_enter_30 (by decide) ?_
    exact k_weak h (lsLe.keep (lsLe.keep (lsLe.keep (lsLe.keep lsLe.nil))))
set_option maxHeartbeats 2000000 in
theorem b_X0_enter_35 {p1 : Nat} (h_p1 : isReq p1) {g : GE} {f : FE} {q : Mm → Prop} (cx : Cx g f cX0_enter 4 RX0 3 70 0 0) (hr : (f_M f).sig.returnType = none) (hl : (f_M f).locks = false) (hQ : f_Q f = MQ (f_b f) (QW g (qV q)) (f_a f) (f_s f) 0 0 (fun q => g.2.2.2.1 ≤ q))  {x2 : Int32} {x3 : Int32} {μ : Mm} (h : F_X0_enter_35 p1 (KK_X0_enter_2 g f p1) (KK_X0_enter_35 g f p1) q x2 x3 μ) : KK_X0_enter_35 g f p1 x2 x3 μ := by
  unfold F_X0_enter_35 at h
  show KW g f 4 0 0 35 [some (.ref p_BK), some (.ref p1), some (.int x2), some (.int x3)] [] μ
  refine k_iload_n cx dX0_enter_35 rfl rfl ?_
  refine k_aload_n cx dX0_enter_36 rfl rfl ?_
  refine k_get (o := none) (v := .int (μ p1 11)) cx fl_X0_70 (ob_RQ h_p1) rfl rfl dX0_enter_37 ?_
  refine k_icmp_ge (tgt := 63) cx dX0_enter_40 (by decide) (fun hc => ?_) (fun hc => ?_)
  · replace h := h.1 hc
    exact k_ret_V cx hr hl hQ dX0_enter_63 h
  · replace h := h.2 hc
    refine k_aload_n cx dX0_enter_43 rfl rfl ?_
    refine k_aload_n cx dX0_enter_44 rfl rfl ?_
    refine k_iload_n cx dX0_enter_45 rfl rfl ?_
    refine k_iload_n cx dX0_enter_46 rfl rfl ?_
    refine k_callV (As := [.ref p1, .int x3, .int x2]) (rest := []) cx (m_X0_enterWays h_p1 h) cv_X0_73 ob_BK rfl rfl rfl rfl (Nat.le_of_ble_eq_true rfl) ⟨Nat.le_of_ble_eq_true rfl, Nat.le_of_ble_eq_true rfl⟩ dX0_enter_47 (fun v μ1 hq => ?_)
    obtain ⟨rfl, h⟩ := hq
    refine k_aload_n cx dX0_enter_50 rfl rfl ?_
    refine k_aload_n cx dX0_enter_51 rfl rfl ?_
    refine k_iload_n cx dX0_enter_52 rfl rfl ?_
    refine k_iload_n cx dX0_enter_53 rfl rfl ?_
    refine k_callV (As := [.ref p1, .int x3, .int x2]) (rest := []) cx (m_X0_enterSecondWay h_p1 h) cv_X0_77 ob_BK rfl rfl rfl rfl (Nat.le_of_ble_eq_true rfl) ⟨Nat.le_of_ble_eq_true rfl, Nat.le_of_ble_eq_true rfl⟩ dX0_enter_54 (fun v μ2 hq => ?_)
    obtain ⟨rfl, h⟩ := hq
    refine k_iinc (v := (x3 + (1 : Int32))) cx dX0_enter_57 rfl rfl (by decide) ?_
    refine k_goto (tgt := 35) cx dX0_enter_60 (by decide) ?_
    exact k_weak h (lsLe.keep (lsLe.keep (lsLe.keep (lsLe.keep lsLe.nil))))
set_option maxHeartbeats 2000000 in
theorem b_X0_enter_e {p1 : Nat} (h_p1 : isReq p1) {g : GE} {f : FE} {q : Mm → Prop} (cx : Cx g f cX0_enter 4 RX0 3 70 0 0) (hr : (f_M f).sig.returnType = none) (hl : (f_M f).locks = false) (hQ : f_Q f = MQ (f_b f) (QW g (qV q)) (f_a f) (f_s f) 0 0 (fun q => g.2.2.2.1 ≤ q))  {x2 : Int32} {μ : Mm} (h : F_X0_enter_e p1 (KK_X0_enter_2 g f p1) (KK_X0_enter_35 g f p1) q x2 μ) : KW g f 4 0 0 0 [some (.ref p_BK), some (.ref p1), some (.int x2), none] [] μ := by
  unfold F_X0_enter_e at h
  refine k_iconst (v := (0 : Int32)) cx dX0_enter_0 (by decide +kernel) ?_
  refine k_istore_n cx dX0_enter_1 rfl (by decide) ?_
  exact k_weak h (lsLe.keep (lsLe.keep (lsLe.keep (lsLe.keep lsLe.nil))))
theorem m_X0_enter {g : GE} {l : Launch} {μ : Mm} {q : Mm → Prop} {p1 : Nat} {x2 : Int32} (h_p1 : isReq p1) (h : Wp_X0_enter p1 x2 μ q) : MW g l yX0_enter cX0_enter 4 none 3 70 [.ref p_BK, .ref p1, .int x2] μ (qV q) := by
  refine met_of (by decide) (Nat.le_of_ble_eq_true rfl) (by intro v hv; simp only [List.mem_cons, List.not_mem_nil, or_false] at hv; rcases hv with rfl | rfl | rfl <;> rfl) ?_
  intro f hfl cx hr hl hQ
  exact b_X0_enter_e h_p1 cx hr hl hQ (h (KK_X0_enter_2 g f p1) (KK_X0_enter_35 g f p1) (fun _ _ _ h => b_X0_enter_2 h_p1 cx hr hl hQ h) (fun _ _ _ h => b_X0_enter_35 h_p1 cx hr hl hQ h))
theorem dX0_leftAtNode_0 : decode cX0_leftAtNode 0 = .ok (.aload_n 0, 1) := by decide +kernel
theorem dX0_leftAtNode_1 : decode cX0_leftAtNode 1 = .ok (.getfield 29, 3) := by decide +kernel
theorem dX0_leftAtNode_4 : decode cX0_leftAtNode 4 = .ok (.getfield 33, 3) := by decide +kernel
theorem dX0_leftAtNode_7 : decode cX0_leftAtNode 7 = .ok (.iload_n 1, 1) := by decide +kernel
theorem dX0_leftAtNode_8 : decode cX0_leftAtNode 8 = .ok (.iaload, 1) := by decide +kernel
theorem dX0_leftAtNode_9 : decode cX0_leftAtNode 9 = .ok (.aload_n 0, 1) := by decide +kernel
theorem dX0_leftAtNode_10 : decode cX0_leftAtNode 10 = .ok (.getfield 9, 3) := by decide +kernel
theorem dX0_leftAtNode_13 : decode cX0_leftAtNode 13 = .ok (.iload_n 1, 1) := by decide +kernel
theorem dX0_leftAtNode_14 : decode cX0_leftAtNode 14 = .ok (.iaload, 1) := by decide +kernel
theorem dX0_leftAtNode_15 : decode cX0_leftAtNode 15 = .ok (.isub, 1) := by decide +kernel
theorem dX0_leftAtNode_16 : decode cX0_leftAtNode 16 = .ok (.ireturn, 1) := by decide +kernel
def F_X0_leftAtNode_e   (q : Int32 → Mm → Prop) (x1 : Int32) (μ : Mm) : Prop :=
  vp_in x1 6 ∧ vp_in x1 6 ∧ q ((μ p_GR_nodeRooms (x1).toNatClampNeg) - (μ p_BK_nodeNeeds (x1).toNatClampNeg)) μ
def Wp_X0_leftAtNode  (x1 : Int32) (μ : Mm) (q : Int32 → Mm → Prop) : Prop := F_X0_leftAtNode_e   q x1 μ
set_option maxHeartbeats 2000000 in
theorem b_X0_leftAtNode_e  {g : GE} {f : FE} {q : Int32 → Mm → Prop} (cx : Cx g f cX0_leftAtNode 2 RX0 0 0 0 0) (hr : (f_M f).sig.returnType = (some .int)) (hl : (f_M f).locks = false) (hQ : f_Q f = MQ (f_b f) (QW g (qI q)) (f_a f) (f_s f) 0 0 (fun q => g.2.2.2.1 ≤ q))  {x1 : Int32} {μ : Mm} (h : F_X0_leftAtNode_e   q x1 μ) : KW g f 2 0 0 0 [some (.ref p_BK), some (.int x1)] [] μ := by
  unfold F_X0_leftAtNode_e at h
  refine k_aload_n cx dX0_leftAtNode_0 rfl rfl ?_
  refine k_get (o := some p_GR) (v := .ref p_GR) cx fl_X0_29 ob_BK rfl rfl dX0_leftAtNode_1 ?_
  refine k_get (o := some p_GR_nodeRooms) (v := .ref p_GR_nodeRooms) cx fl_X0_33 ob_GR rfl rfl dX0_leftAtNode_4 ?_
  refine k_iload_n cx dX0_leftAtNode_7 rfl rfl ?_
  obtain ⟨hi, h⟩ := h
  refine k_iald cx ar_GR_nodeRooms hi dX0_leftAtNode_8 ?_
  refine k_aload_n cx dX0_leftAtNode_9 rfl rfl ?_
  refine k_get (o := some p_BK_nodeNeeds) (v := .ref p_BK_nodeNeeds) cx fl_X0_9 ob_BK rfl rfl dX0_leftAtNode_10 ?_
  refine k_iload_n cx dX0_leftAtNode_13 rfl rfl ?_
  obtain ⟨hi, h⟩ := h
  refine k_iald cx ar_BK_nodeNeeds hi dX0_leftAtNode_14 ?_
  refine k_isub cx dX0_leftAtNode_15 ?_
  exact k_ret_I cx hr hl hQ dX0_leftAtNode_16 h
theorem m_X0_leftAtNode {g : GE} {l : Launch} {μ : Mm} {q : Int32 → Mm → Prop} {x1 : Int32}  (h : Wp_X0_leftAtNode  x1 μ q) : MW g l yX0_leftAtNode cX0_leftAtNode 2 (some .int) 0 0 [.ref p_BK, .int x1] μ (qI q) := by
  refine met_of (by decide) (Nat.le_of_ble_eq_true rfl) (by intro v hv; simp only [List.mem_cons, List.not_mem_nil, or_false] at hv; rcases hv with rfl | rfl <;> rfl) ?_
  intro f hfl cx hr hl hQ
  exact b_X0_leftAtNode_e  cx hr hl hQ (h  )
theorem dX0_leftOnLink_0 : decode cX0_leftOnLink 0 = .ok (.aload_n 0, 1) := by decide +kernel
theorem dX0_leftOnLink_1 : decode cX0_leftOnLink 1 = .ok (.getfield 29, 3) := by decide +kernel
theorem dX0_leftOnLink_4 : decode cX0_leftOnLink 4 = .ok (.getfield 38, 3) := by decide +kernel
theorem dX0_leftOnLink_7 : decode cX0_leftOnLink 7 = .ok (.iload_n 1, 1) := by decide +kernel
theorem dX0_leftOnLink_8 : decode cX0_leftOnLink 8 = .ok (.iaload, 1) := by decide +kernel
theorem dX0_leftOnLink_9 : decode cX0_leftOnLink 9 = .ok (.aload_n 0, 1) := by decide +kernel
theorem dX0_leftOnLink_10 : decode cX0_leftOnLink 10 = .ok (.getfield 18, 3) := by decide +kernel
theorem dX0_leftOnLink_13 : decode cX0_leftOnLink 13 = .ok (.iload_n 1, 1) := by decide +kernel
theorem dX0_leftOnLink_14 : decode cX0_leftOnLink 14 = .ok (.iaload, 1) := by decide +kernel
theorem dX0_leftOnLink_15 : decode cX0_leftOnLink 15 = .ok (.isub, 1) := by decide +kernel
theorem dX0_leftOnLink_16 : decode cX0_leftOnLink 16 = .ok (.aload_n 0, 1) := by decide +kernel
theorem dX0_leftOnLink_17 : decode cX0_leftOnLink 17 = .ok (.getfield 21, 3) := by decide +kernel
theorem dX0_leftOnLink_20 : decode cX0_leftOnLink 20 = .ok (.iload_n 1, 1) := by decide +kernel
theorem dX0_leftOnLink_21 : decode cX0_leftOnLink 21 = .ok (.iaload, 1) := by decide +kernel
theorem dX0_leftOnLink_22 : decode cX0_leftOnLink 22 = .ok (.isub, 1) := by decide +kernel
theorem dX0_leftOnLink_23 : decode cX0_leftOnLink 23 = .ok (.ireturn, 1) := by decide +kernel
def F_X0_leftOnLink_e   (q : Int32 → Mm → Prop) (x1 : Int32) (μ : Mm) : Prop :=
  vp_in x1 9 ∧ vp_in x1 9 ∧ vp_in x1 9 ∧ q (((μ p_GR_linkRooms (x1).toNatClampNeg) - (μ p_BK_linkNeeds (x1).toNatClampNeg)) - (μ p_BK_reserved (x1).toNatClampNeg)) μ
def Wp_X0_leftOnLink  (x1 : Int32) (μ : Mm) (q : Int32 → Mm → Prop) : Prop := F_X0_leftOnLink_e   q x1 μ
set_option maxHeartbeats 2000000 in
theorem b_X0_leftOnLink_e  {g : GE} {f : FE} {q : Int32 → Mm → Prop} (cx : Cx g f cX0_leftOnLink 2 RX0 0 0 0 0) (hr : (f_M f).sig.returnType = (some .int)) (hl : (f_M f).locks = false) (hQ : f_Q f = MQ (f_b f) (QW g (qI q)) (f_a f) (f_s f) 0 0 (fun q => g.2.2.2.1 ≤ q))  {x1 : Int32} {μ : Mm} (h : F_X0_leftOnLink_e   q x1 μ) : KW g f 2 0 0 0 [some (.ref p_BK), some (.int x1)] [] μ := by
  unfold F_X0_leftOnLink_e at h
  refine k_aload_n cx dX0_leftOnLink_0 rfl rfl ?_
  refine k_get (o := some p_GR) (v := .ref p_GR) cx fl_X0_29 ob_BK rfl rfl dX0_leftOnLink_1 ?_
  refine k_get (o := some p_GR_linkRooms) (v := .ref p_GR_linkRooms) cx fl_X0_38 ob_GR rfl rfl dX0_leftOnLink_4 ?_
  refine k_iload_n cx dX0_leftOnLink_7 rfl rfl ?_
  obtain ⟨hi, h⟩ := h
  refine k_iald cx ar_GR_linkRooms hi dX0_leftOnLink_8 ?_
  refine k_aload_n cx dX0_leftOnLink_9 rfl rfl ?_
  refine k_get (o := some p_BK_linkNeeds) (v := .ref p_BK_linkNeeds) cx fl_X0_18 ob_BK rfl rfl dX0_leftOnLink_10 ?_
  refine k_iload_n cx dX0_leftOnLink_13 rfl rfl ?_
  obtain ⟨hi, h⟩ := h
  refine k_iald cx ar_BK_linkNeeds hi dX0_leftOnLink_14 ?_
  refine k_isub cx dX0_leftOnLink_15 ?_
  refine k_aload_n cx dX0_leftOnLink_16 rfl rfl ?_
  refine k_get (o := some p_BK_reserved) (v := .ref p_BK_reserved) cx fl_X0_21 ob_BK rfl rfl dX0_leftOnLink_17 ?_
  refine k_iload_n cx dX0_leftOnLink_20 rfl rfl ?_
  obtain ⟨hi, h⟩ := h
  refine k_iald cx ar_BK_reserved hi dX0_leftOnLink_21 ?_
  refine k_isub cx dX0_leftOnLink_22 ?_
  exact k_ret_I cx hr hl hQ dX0_leftOnLink_23 h
theorem m_X0_leftOnLink {g : GE} {l : Launch} {μ : Mm} {q : Int32 → Mm → Prop} {x1 : Int32}  (h : Wp_X0_leftOnLink  x1 μ q) : MW g l yX0_leftOnLink cX0_leftOnLink 2 (some .int) 0 0 [.ref p_BK, .int x1] μ (qI q) := by
  refine met_of (by decide) (Nat.le_of_ble_eq_true rfl) (by intro v hv; simp only [List.mem_cons, List.not_mem_nil, or_false] at hv; rcases hv with rfl | rfl <;> rfl) ?_
  intro f hfl cx hr hl hQ
  exact b_X0_leftOnLink_e  cx hr hl hQ (h  )
theorem dX0_openBehind_0 : decode cX0_openBehind 0 = .ok (.iconst 0, 1) := by decide +kernel
theorem dX0_openBehind_1 : decode cX0_openBehind 1 = .ok (.istore_n 3, 1) := by decide +kernel
theorem dX0_openBehind_2 : decode cX0_openBehind 2 = .ok (.iconst 0, 1) := by decide +kernel
theorem dX0_openBehind_3 : decode cX0_openBehind 3 = .ok (.istore 4, 2) := by decide +kernel
theorem dX0_openBehind_5 : decode cX0_openBehind 5 = .ok (.iload 4, 2) := by decide +kernel
theorem dX0_openBehind_7 : decode cX0_openBehind 7 = .ok (.aload_n 0, 1) := by decide +kernel
theorem dX0_openBehind_8 : decode cX0_openBehind 8 = .ok (.getfield 29, 3) := by decide +kernel
theorem dX0_openBehind_11 : decode cX0_openBehind 11 = .ok (.getfield 41, 3) := by decide +kernel
theorem dX0_openBehind_14 : decode cX0_openBehind 14 = .ok (.if_icmp .ge 103, 3) := by decide +kernel
theorem dX0_openBehind_17 : decode cX0_openBehind 17 = .ok (.aload_n 0, 1) := by decide +kernel
theorem dX0_openBehind_18 : decode cX0_openBehind 18 = .ok (.getfield 21, 3) := by decide +kernel
theorem dX0_openBehind_21 : decode cX0_openBehind 21 = .ok (.iload 4, 2) := by decide +kernel
theorem dX0_openBehind_23 : decode cX0_openBehind 23 = .ok (.iaload, 1) := by decide +kernel
theorem dX0_openBehind_24 : decode cX0_openBehind 24 = .ok (.istore 5, 2) := by decide +kernel
theorem dX0_openBehind_26 : decode cX0_openBehind 26 = .ok (.iconst 0, 1) := by decide +kernel
theorem dX0_openBehind_27 : decode cX0_openBehind 27 = .ok (.istore 6, 2) := by decide +kernel
theorem dX0_openBehind_29 : decode cX0_openBehind 29 = .ok (.iload 6, 2) := by decide +kernel
theorem dX0_openBehind_31 : decode cX0_openBehind 31 = .ok (.aload_n 0, 1) := by decide +kernel
theorem dX0_openBehind_32 : decode cX0_openBehind 32 = .ok (.getfield 29, 3) := by decide +kernel
theorem dX0_openBehind_35 : decode cX0_openBehind 35 = .ok (.getfield 41, 3) := by decide +kernel
theorem dX0_openBehind_38 : decode cX0_openBehind 38 = .ok (.if_icmp .ge 39, 3) := by decide +kernel
theorem dX0_openBehind_41 : decode cX0_openBehind 41 = .ok (.aload_n 0, 1) := by decide +kernel
theorem dX0_openBehind_42 : decode cX0_openBehind 42 = .ok (.getfield 26, 3) := by decide +kernel
theorem dX0_openBehind_45 : decode cX0_openBehind 45 = .ok (.iload 6, 2) := by decide +kernel
theorem dX0_openBehind_47 : decode cX0_openBehind 47 = .ok (.aaload, 1) := by decide +kernel
theorem dX0_openBehind_48 : decode cX0_openBehind 48 = .ok (.iload 4, 2) := by decide +kernel
theorem dX0_openBehind_50 : decode cX0_openBehind 50 = .ok (.iaload, 1) := by decide +kernel
theorem dX0_openBehind_51 : decode cX0_openBehind 51 = .ok (.iload_n 1, 1) := by decide +kernel
theorem dX0_openBehind_52 : decode cX0_openBehind 52 = .ok (.iload 6, 2) := by decide +kernel
theorem dX0_openBehind_54 : decode cX0_openBehind 54 = .ok (.ishr, 1) := by decide +kernel
theorem dX0_openBehind_55 : decode cX0_openBehind 55 = .ok (.iconst 1, 1) := by decide +kernel
theorem dX0_openBehind_56 : decode cX0_openBehind 56 = .ok (.iand, 1) := by decide +kernel
theorem dX0_openBehind_57 : decode cX0_openBehind 57 = .ok (.iload_n 2, 1) := by decide +kernel
theorem dX0_openBehind_58 : decode cX0_openBehind 58 = .ok (.imul, 1) := by decide +kernel
theorem dX0_openBehind_59 : decode cX0_openBehind 59 = .ok (.iadd, 1) := by decide +kernel
theorem dX0_openBehind_60 : decode cX0_openBehind 60 = .ok (.istore 7, 2) := by decide +kernel
theorem dX0_openBehind_62 : decode cX0_openBehind 62 = .ok (.iload 5, 2) := by decide +kernel
theorem dX0_openBehind_64 : decode cX0_openBehind 64 = .ok (.iload 7, 2) := by decide +kernel
theorem dX0_openBehind_66 : decode cX0_openBehind 66 = .ok (.invokestatic 49, 3) := by decide +kernel
theorem dX0_openBehind_69 : decode cX0_openBehind 69 = .ok (.istore 5, 2) := by decide +kernel
theorem dX0_openBehind_71 : decode cX0_openBehind 71 = .ok (.iinc 6 1, 3) := by decide +kernel
theorem dX0_openBehind_74 : decode cX0_openBehind 74 = .ok (.goto (-45), 3) := by decide +kernel
theorem dX0_openBehind_77 : decode cX0_openBehind 77 = .ok (.iload_n 3, 1) := by decide +kernel
theorem dX0_openBehind_78 : decode cX0_openBehind 78 = .ok (.aload_n 0, 1) := by decide +kernel
theorem dX0_openBehind_79 : decode cX0_openBehind 79 = .ok (.getfield 18, 3) := by decide +kernel
theorem dX0_openBehind_82 : decode cX0_openBehind 82 = .ok (.iload 4, 2) := by decide +kernel
theorem dX0_openBehind_84 : decode cX0_openBehind 84 = .ok (.iaload, 1) := by decide +kernel
theorem dX0_openBehind_85 : decode cX0_openBehind 85 = .ok (.iload 5, 2) := by decide +kernel
theorem dX0_openBehind_87 : decode cX0_openBehind 87 = .ok (.iadd, 1) := by decide +kernel
theorem dX0_openBehind_88 : decode cX0_openBehind 88 = .ok (.aload_n 0, 1) := by decide +kernel
theorem dX0_openBehind_89 : decode cX0_openBehind 89 = .ok (.getfield 29, 3) := by decide +kernel
theorem dX0_openBehind_92 : decode cX0_openBehind 92 = .ok (.getfield 38, 3) := by decide +kernel
theorem dX0_openBehind_95 : decode cX0_openBehind 95 = .ok (.iload 4, 2) := by decide +kernel
theorem dX0_openBehind_97 : decode cX0_openBehind 97 = .ok (.iaload, 1) := by decide +kernel
theorem dX0_openBehind_98 : decode cX0_openBehind 98 = .ok (.if_icmp .gt 10, 3) := by decide +kernel
theorem dX0_openBehind_101 : decode cX0_openBehind 101 = .ok (.iconst 1, 1) := by decide +kernel
theorem dX0_openBehind_102 : decode cX0_openBehind 102 = .ok (.iload 4, 2) := by decide +kernel
theorem dX0_openBehind_104 : decode cX0_openBehind 104 = .ok (.ishl, 1) := by decide +kernel
theorem dX0_openBehind_105 : decode cX0_openBehind 105 = .ok (.goto 4, 3) := by decide +kernel
theorem dX0_openBehind_108 : decode cX0_openBehind 108 = .ok (.iconst 0, 1) := by decide +kernel
theorem dX0_openBehind_109 : decode cX0_openBehind 109 = .ok (.ior, 1) := by decide +kernel
theorem dX0_openBehind_110 : decode cX0_openBehind 110 = .ok (.istore_n 3, 1) := by decide +kernel
theorem dX0_openBehind_111 : decode cX0_openBehind 111 = .ok (.iinc 4 1, 3) := by decide +kernel
theorem dX0_openBehind_114 : decode cX0_openBehind 114 = .ok (.goto (-109), 3) := by decide +kernel
theorem dX0_openBehind_117 : decode cX0_openBehind 117 = .ok (.iload_n 3, 1) := by decide +kernel
theorem dX0_openBehind_118 : decode cX0_openBehind 118 = .ok (.iload_n 1, 1) := by decide +kernel
theorem dX0_openBehind_119 : decode cX0_openBehind 119 = .ok (.iconst (-1), 1) := by decide +kernel
theorem dX0_openBehind_120 : decode cX0_openBehind 120 = .ok (.ixor, 1) := by decide +kernel
theorem dX0_openBehind_121 : decode cX0_openBehind 121 = .ok (.iand, 1) := by decide +kernel
theorem dX0_openBehind_122 : decode cX0_openBehind 122 = .ok (.ireturn, 1) := by decide +kernel
def F_X0_openBehind_5  (K5 : Int32 → Int32 → Int32 → Int32 → Mm → Prop) (K29 : Int32 → Int32 → Int32 → Int32 → Int32 → Int32 → Mm → Prop) (q : Int32 → Mm → Prop) (x1 : Int32) (x2 : Int32) (x3 : Int32) (x4 : Int32) (μ : Mm) : Prop :=
  (((μ p_GR 7) ≤ x4 → q (x3 &&& (x1 ^^^ (-1 : Int32))) μ) ∧ (¬ ((μ p_GR 7) ≤ x4) → vp_in x4 9 ∧ K29 x1 x2 x3 x4 (μ p_BK_reserved (x4).toNatClampNeg) (0 : Int32) μ))
def F_X0_openBehind_29  (K5 : Int32 → Int32 → Int32 → Int32 → Mm → Prop) (K29 : Int32 → Int32 → Int32 → Int32 → Int32 → Int32 → Mm → Prop) (q : Int32 → Mm → Prop) (x1 : Int32) (x2 : Int32) (x3 : Int32) (x4 : Int32) (x5 : Int32) (x6 : Int32) (μ : Mm) : Prop :=
  (((μ p_GR 7) ≤ x6 → vp_in x4 9 ∧ vp_in x4 9 ∧ (((μ p_GR_linkRooms (x4).toNatClampNeg) < ((μ p_BK_linkNeeds (x4).toNatClampNeg) + x5) → K5 x1 x2 (x3 ||| (0 : Int32)) (x4 + (1 : Int32)) μ) ∧ (¬ ((μ p_GR_linkRooms (x4).toNatClampNeg) < ((μ p_BK_linkNeeds (x4).toNatClampNeg) + x5)) → K5 x1 x2 (x3 ||| ((1 : Int32) <<< (x4 &&& 31))) (x4 + (1 : Int32)) μ))) ∧ (¬ ((μ p_GR 7) ≤ x6) → vp_in x6 9 ∧ vp_in x4 9 ∧ K29 x1 x2 x3 x4 (imax x5 ((μ (p_BH + (x6).toNatClampNeg) (x4).toNatClampNeg) + (((x1 >>> (x6 &&& 31)) &&& (1 : Int32)) * x2))) (x6 + (1 : Int32)) μ))
def F_X0_openBehind_e  (K5 : Int32 → Int32 → Int32 → Int32 → Mm → Prop) (K29 : Int32 → Int32 → Int32 → Int32 → Int32 → Int32 → Mm → Prop) (q : Int32 → Mm → Prop) (x1 : Int32) (x2 : Int32) (μ : Mm) : Prop :=
  K5 x1 x2 (0 : Int32) (0 : Int32) μ
def Wp_X0_openBehind  (x1 : Int32) (x2 : Int32) (μ : Mm) (q : Int32 → Mm → Prop) : Prop := ∀ (K5 : Int32 → Int32 → Int32 → Int32 → Mm → Prop) (K29 : Int32 → Int32 → Int32 → Int32 → Int32 → Int32 → Mm → Prop), (∀ (x1 : Int32) (x2 : Int32) (x3 : Int32) (x4 : Int32) (μ : Mm), F_X0_openBehind_5  K5 K29 q x1 x2 x3 x4 μ → K5 x1 x2 x3 x4 μ) → (∀ (x1 : Int32) (x2 : Int32) (x3 : Int32) (x4 : Int32) (x5 : Int32) (x6 : Int32) (μ : Mm), F_X0_openBehind_29  K5 K29 q x1 x2 x3 x4 x5 x6 μ → K29 x1 x2 x3 x4 x5 x6 μ) → F_X0_openBehind_e  K5 K29 q x1 x2 μ
abbrev KK_X0_openBehind_5 (g : GE) (f : FE)  : Int32 → Int32 → Int32 → Int32 → Mm → Prop := fun x1 x2 x3 x4 μ => KW g f 8 0 0 5 [some (.ref p_BK), some (.int x1), some (.int x2), some (.int x3), some (.int x4), none, none, none] [] μ
abbrev KK_X0_openBehind_29 (g : GE) (f : FE)  : Int32 → Int32 → Int32 → Int32 → Int32 → Int32 → Mm → Prop := fun x1 x2 x3 x4 x5 x6 μ => KW g f 8 0 0 29 [some (.ref p_BK), some (.int x1), some (.int x2), some (.int x3), some (.int x4), some (.int x5), some (.int x6), none] [] μ
set_option maxHeartbeats 2000000 in
theorem b_X0_openBehind_5  {g : GE} {f : FE} {q : Int32 → Mm → Prop} (cx : Cx g f cX0_openBehind 8 RX0 1 21 0 0) (hr : (f_M f).sig.returnType = (some .int)) (hl : (f_M f).locks = false) (hQ : f_Q f = MQ (f_b f) (QW g (qI q)) (f_a f) (f_s f) 0 0 (fun q => g.2.2.2.1 ≤ q))  {x1 : Int32} {x2 : Int32} {x3 : Int32} {x4 : Int32} {μ : Mm} (h : F_X0_openBehind_5  (KK_X0_openBehind_5 g f ) (KK_X0_openBehind_29 g f ) q x1 x2 x3 x4 μ) : KK_X0_openBehind_5 g f  x1 x2 x3 x4 μ := by
  unfold F_X0_openBehind_5 at h
  show KW g f 8 0 0 5 [some (.ref p_BK), some (.int x1), some (.int x2), some (.int x3), some (.int x4), none, none, none] [] μ
  refine k_iload cx dX0_openBehind_5 rfl ?_
  refine k_aload_n cx dX0_openBehind_7 rfl rfl ?_
  refine k_get (o := some p_GR) (v := .ref p_GR) cx fl_X0_29 ob_BK rfl rfl dX0_openBehind_8 ?_
  refine k_get (o := none) (v := .int (μ p_GR 7)) cx fl_X0_41 ob_GR rfl rfl dX0_openBehind_11 ?_
  refine k_icmp_ge (tgt := 117) cx dX0_openBehind_14 (by decide) (fun hc => ?_) (fun hc => ?_)
  · replace h := h.1 hc
    refine k_iload_n cx dX0_openBehind_117 rfl rfl ?_
    refine k_iload_n cx dX0_openBehind_118 rfl rfl ?_
    refine k_iconst (v := (-1 : Int32)) cx dX0_openBehind_119 (by decide +kernel) ?_
    refine k_ixor cx dX0_openBehind_120 ?_
    refine k_iand cx dX0_openBehind_121 ?_
    exact k_ret_I cx hr hl hQ dX0_openBehind_122 h
  · replace h := h.2 hc
    refine k_aload_n cx dX0_openBehind_17 rfl rfl ?_
    refine k_get (o := some p_BK_reserved) (v := .ref p_BK_reserved) cx fl_X0_21 ob_BK rfl rfl dX0_openBehind_18 ?_
    refine k_iload cx dX0_openBehind_21 rfl ?_
    obtain ⟨hi, h⟩ := h
    refine k_iald cx ar_BK_reserved hi dX0_openBehind_23 ?_
    refine k_istore cx dX0_openBehind_24 (by decide) ?_
    refine k_iconst (v := (0 : Int32)) cx dX0_openBehind_26 (by decide +kernel) ?_
    refine k_istore cx dX0_openBehind_27 (by decide) ?_
    exact k_weak h (lsLe.keep (lsLe.keep (lsLe.keep (lsLe.keep (lsLe.keep (lsLe.keep (lsLe.keep (lsLe.keep lsLe.nil))))))))
set_option maxHeartbeats 2000000 in
theorem b_X0_openBehind_29  {g : GE} {f : FE} {q : Int32 → Mm → Prop} (cx : Cx g f cX0_openBehind 8 RX0 1 21 0 0) (hr : (f_M f).sig.returnType = (some .int)) (hl : (f_M f).locks = false) (hQ : f_Q f = MQ (f_b f) (QW g (qI q)) (f_a f) (f_s f) 0 0 (fun q => g.2.2.2.1 ≤ q))  {x1 : Int32} {x2 : Int32} {x3 : Int32} {x4 : Int32} {x5 : Int32} {x6 : Int32} {μ : Mm} (h : F_X0_openBehind_29  (KK_X0_openBehind_5 g f ) (KK_X0_openBehind_29 g f ) q x1 x2 x3 x4 x5 x6 μ) : KK_X0_openBehind_29 g f  x1 x2 x3 x4 x5 x6 μ := by
  unfold F_X0_openBehind_29 at h
  show KW g f 8 0 0 29 [some (.ref p_BK), some (.int x1), some (.int x2), some (.int x3), some (.int x4), some (.int x5), some (.int x6), none] [] μ
  refine k_iload cx dX0_openBehind_29 rfl ?_
  refine k_aload_n cx dX0_openBehind_31 rfl rfl ?_
  refine k_get (o := some p_GR) (v := .ref p_GR) cx fl_X0_29 ob_BK rfl rfl dX0_openBehind_32 ?_
  refine k_get (o := none) (v := .int (μ p_GR 7)) cx fl_X0_41 ob_GR rfl rfl dX0_openBehind_35 ?_
  refine k_icmp_ge (tgt := 77) cx dX0_openBehind_38 (by decide) (fun hc => ?_) (fun hc => ?_)
  · replace h := h.1 hc
    refine k_iload_n cx dX0_openBehind_77 rfl rfl ?_
    refine k_aload_n cx dX0_openBehind_78 rfl rfl ?_
    refine k_get (o := some p_BK_linkNeeds) (v := .ref p_BK_linkNeeds) cx fl_X0_18 ob_BK rfl rfl dX0_openBehind_79 ?_
    refine k_iload cx dX0_openBehind_82 rfl ?_
    obtain ⟨hi, h⟩ := h
    refine k_iald cx ar_BK_linkNeeds hi dX0_openBehind_84 ?_
    refine k_iload cx dX0_openBehind_85 rfl ?_
    refine k_iadd cx dX0_openBehind_87 ?_
    refine k_aload_n cx dX0_openBehind_88 rfl rfl ?_
    refine k_get (o := some p_GR) (v := .ref p_GR) cx fl_X0_29 ob_BK rfl rfl dX0_openBehind_89 ?_
    refine k_get (o := some p_GR_linkRooms) (v := .ref p_GR_linkRooms) cx fl_X0_38 ob_GR rfl rfl dX0_openBehind_92 ?_
    refine k_iload cx dX0_openBehind_95 rfl ?_
    obtain ⟨hi, h⟩ := h
    refine k_iald cx ar_GR_linkRooms hi dX0_openBehind_97 ?_
    refine k_icmp_gt (tgt := 108) cx dX0_openBehind_98 (by decide) (fun hc => ?_) (fun hc => ?_)
    · replace h := h.1 hc
      refine k_iconst (v := (0 : Int32)) cx dX0_openBehind_108 (by decide +kernel) ?_
      refine k_ior cx dX0_openBehind_109 ?_
      refine k_istore_n cx dX0_openBehind_110 rfl (by decide) ?_
      refine k_iinc (v := (x4 + (1 : Int32))) cx dX0_openBehind_111 rfl rfl (by decide) ?_
      refine k_goto (tgt := 5) cx dX0_openBehind_114 (by decide) ?_
      exact k_weak h (lsLe.keep (lsLe.keep (lsLe.keep (lsLe.keep (lsLe.keep (lsLe.drop (lsLe.drop (lsLe.keep lsLe.nil))))))))
    · replace h := h.2 hc
      refine k_iconst (v := (1 : Int32)) cx dX0_openBehind_101 (by decide +kernel) ?_
      refine k_iload cx dX0_openBehind_102 rfl ?_
      refine k_ishl cx dX0_openBehind_104 ?_
      refine k_goto (tgt := 109) cx dX0_openBehind_105 (by decide) ?_
      refine k_ior cx dX0_openBehind_109 ?_
      refine k_istore_n cx dX0_openBehind_110 rfl (by decide) ?_
      refine k_iinc (v := (x4 + (1 : Int32))) cx dX0_openBehind_111 rfl rfl (by decide) ?_
      refine k_goto (tgt := 5) cx dX0_openBehind_114 (by decide) ?_
      exact k_weak h (lsLe.keep (lsLe.keep (lsLe.keep (lsLe.keep (lsLe.keep (lsLe.drop (lsLe.drop (lsLe.keep lsLe.nil))))))))
  · replace h := h.2 hc
    refine k_aload_n cx dX0_openBehind_41 rfl rfl ?_
    refine k_get (o := some p_BK_behind) (v := .ref p_BK_behind) cx fl_X0_26 ob_BK rfl rfl dX0_openBehind_42 ?_
    refine k_iload cx dX0_openBehind_45 rfl ?_
    obtain ⟨hi1, h⟩ := h
    refine k_aald_BK_behind cx hi1 dX0_openBehind_47 ?_
    refine k_iload cx dX0_openBehind_48 rfl ?_
    obtain ⟨hi, h⟩ := h
    refine k_iald cx (ar_BH hi1) hi dX0_openBehind_50 ?_
    refine k_iload_n cx dX0_openBehind_51 rfl rfl ?_
    refine k_iload cx dX0_openBehind_52 rfl ?_
    refine k_ishr cx dX0_openBehind_54 ?_
    refine k_iconst (v := (1 : Int32)) cx dX0_openBehind_55 (by decide +kernel) ?_
    refine k_iand cx dX0_openBehind_56 ?_
    refine k_iload_n cx dX0_openBehind_57 rfl rfl ?_
    refine k_imul cx dX0_openBehind_58 ?_
    refine k_iadd cx dX0_openBehind_59 ?_
    refine k_istore cx dX0_openBehind_60 (by decide) ?_
    refine k_iload cx dX0_openBehind_62 rfl ?_
    refine k_iload cx dX0_openBehind_64 rfl ?_
    refine k_mmax cx mm_X0_49 (Nat.le_of_ble_eq_true rfl) (Nat.le_of_ble_eq_true rfl) (Nat.le_of_ble_eq_true rfl) dX0_openBehind_66 ?_
    refine k_istore cx dX0_openBehind_69 (by decide) ?_
    refine k_iinc (v := (x6 + (1 : Int32))) cx dX0_openBehind_71 rfl rfl (by decide) ?_
    refine k_goto (tgt := 29) cx dX0_openBehind_74 (by decide) ?_
    exact k_weak h (lsLe.keep (lsLe.keep (lsLe.keep (lsLe.keep (lsLe.keep (lsLe.keep (lsLe.keep (lsLe.drop lsLe.nil))))))))
set_option maxHeartbeats 2000000 in
theorem b_X0_openBehind_e  {g : GE} {f : FE} {q : Int32 → Mm → Prop} (cx : Cx g f cX0_openBehind 8 RX0 1 21 0 0) (hr : (f_M f).sig.returnType = (some .int)) (hl : (f_M f).locks = false) (hQ : f_Q f = MQ (f_b f) (QW g (qI q)) (f_a f) (f_s f) 0 0 (fun q => g.2.2.2.1 ≤ q))  {x1 : Int32} {x2 : Int32} {μ : Mm} (h : F_X0_openBehind_e  (KK_X0_openBehind_5 g f ) (KK_X0_openBehind_29 g f ) q x1 x2 μ) : KW g f 8 0 0 0 [some (.ref p_BK), some (.int x1), some (.int x2), none, none, none, none, none] [] μ := by
  unfold F_X0_openBehind_e at h
  refine k_iconst (v := (0 : Int32)) cx dX0_openBehind_0 (by decide +kernel) ?_
  refine k_istore_n cx dX0_openBehind_1 rfl (by decide) ?_
  refine k_iconst (v := (0 : Int32)) cx dX0_openBehind_2 (by decide +kernel) ?_
  refine k_istore cx dX0_openBehind_3 (by decide) ?_
  exact k_weak h (lsLe.keep (lsLe.keep (lsLe.keep (lsLe.keep (lsLe.keep (lsLe.keep (lsLe.keep (lsLe.keep lsLe.nil))))))))
theorem m_X0_openBehind {g : GE} {l : Launch} {μ : Mm} {q : Int32 → Mm → Prop} {x1 : Int32} {x2 : Int32}  (h : Wp_X0_openBehind  x1 x2 μ q) : MW g l yX0_openBehind cX0_openBehind 8 (some .int) 1 21 [.ref p_BK, .int x1, .int x2] μ (qI q) := by
  refine met_of (by decide) (Nat.le_of_ble_eq_true rfl) (by intro v hv; simp only [List.mem_cons, List.not_mem_nil, or_false] at hv; rcases hv with rfl | rfl | rfl <;> rfl) ?_
  intro f hfl cx hr hl hQ
  exact b_X0_openBehind_e  cx hr hl hQ (h (KK_X0_openBehind_5 g f ) (KK_X0_openBehind_29 g f ) (fun _ _ _ _ _ h => b_X0_openBehind_5  cx hr hl hQ h) (fun _ _ _ _ _ _ _ h => b_X0_openBehind_29  cx hr hl hQ h))
theorem dX0_openFor_0 : decode cX0_openFor 0 = .ok (.iconst 0, 1) := by decide +kernel
theorem dX0_openFor_1 : decode cX0_openFor 1 = .ok (.istore_n 2, 1) := by decide +kernel
theorem dX0_openFor_2 : decode cX0_openFor 2 = .ok (.iconst 0, 1) := by decide +kernel
theorem dX0_openFor_3 : decode cX0_openFor 3 = .ok (.istore_n 3, 1) := by decide +kernel
theorem dX0_openFor_4 : decode cX0_openFor 4 = .ok (.iload_n 3, 1) := by decide +kernel
theorem dX0_openFor_5 : decode cX0_openFor 5 = .ok (.aload_n 0, 1) := by decide +kernel
theorem dX0_openFor_6 : decode cX0_openFor 6 = .ok (.getfield 29, 3) := by decide +kernel
theorem dX0_openFor_9 : decode cX0_openFor 9 = .ok (.getfield 41, 3) := by decide +kernel
theorem dX0_openFor_12 : decode cX0_openFor 12 = .ok (.if_icmp .ge 28, 3) := by decide +kernel
theorem dX0_openFor_15 : decode cX0_openFor 15 = .ok (.iload_n 2, 1) := by decide +kernel
theorem dX0_openFor_16 : decode cX0_openFor 16 = .ok (.aload_n 0, 1) := by decide +kernel
theorem dX0_openFor_17 : decode cX0_openFor 17 = .ok (.iload_n 3, 1) := by decide +kernel
theorem dX0_openFor_18 : decode cX0_openFor 18 = .ok (.invokevirtual 45, 3) := by decide +kernel
theorem dX0_openFor_21 : decode cX0_openFor 21 = .ok (.iload_n 1, 1) := by decide +kernel
theorem dX0_openFor_22 : decode cX0_openFor 22 = .ok (.if_icmp .lt 9, 3) := by decide +kernel
theorem dX0_openFor_25 : decode cX0_openFor 25 = .ok (.iconst 1, 1) := by decide +kernel
theorem dX0_openFor_26 : decode cX0_openFor 26 = .ok (.iload_n 3, 1) := by decide +kernel
theorem dX0_openFor_27 : decode cX0_openFor 27 = .ok (.ishl, 1) := by decide +kernel
theorem dX0_openFor_28 : decode cX0_openFor 28 = .ok (.goto 4, 3) := by decide +kernel
theorem dX0_openFor_31 : decode cX0_openFor 31 = .ok (.iconst 0, 1) := by decide +kernel
theorem dX0_openFor_32 : decode cX0_openFor 32 = .ok (.ior, 1) := by decide +kernel
theorem dX0_openFor_33 : decode cX0_openFor 33 = .ok (.istore_n 2, 1) := by decide +kernel
theorem dX0_openFor_34 : decode cX0_openFor 34 = .ok (.iinc 3 1, 3) := by decide +kernel
theorem dX0_openFor_37 : decode cX0_openFor 37 = .ok (.goto (-33), 3) := by decide +kernel
theorem dX0_openFor_40 : decode cX0_openFor 40 = .ok (.iload_n 2, 1) := by decide +kernel
theorem dX0_openFor_41 : decode cX0_openFor 41 = .ok (.ireturn, 1) := by decide +kernel
def F_X0_openFor_4  (K4 : Int32 → Int32 → Int32 → Mm → Prop) (q : Int32 → Mm → Prop) (x1 : Int32) (x2 : Int32) (x3 : Int32) (μ : Mm) : Prop :=
  (((μ p_GR 7) ≤ x3 → q x2 μ) ∧ (¬ ((μ p_GR 7) ≤ x3) → Wp_X0_leftOnLink x3 μ (fun z2 μ1 => ((z2 < x1 → K4 x1 (x2 ||| (0 : Int32)) (x3 + (1 : Int32)) μ1) ∧ (¬ (z2 < x1) → K4 x1 (x2 ||| ((1 : Int32) <<< (x3 &&& 31))) (x3 + (1 : Int32)) μ1)))))
def F_X0_openFor_e  (K4 : Int32 → Int32 → Int32 → Mm → Prop) (q : Int32 → Mm → Prop) (x1 : Int32) (μ : Mm) : Prop :=
  K4 x1 (0 : Int32) (0 : Int32) μ
def Wp_X0_openFor  (x1 : Int32) (μ : Mm) (q : Int32 → Mm → Prop) : Prop := ∀ (K4 : Int32 → Int32 → Int32 → Mm → Prop), (∀ (x1 : Int32) (x2 : Int32) (x3 : Int32) (μ : Mm), F_X0_openFor_4  K4 q x1 x2 x3 μ → K4 x1 x2 x3 μ) → F_X0_openFor_e  K4 q x1 μ
abbrev KK_X0_openFor_4 (g : GE) (f : FE)  : Int32 → Int32 → Int32 → Mm → Prop := fun x1 x2 x3 μ => KW g f 4 0 0 4 [some (.ref p_BK), some (.int x1), some (.int x2), some (.int x3)] [] μ
set_option maxHeartbeats 2000000 in
theorem b_X0_openFor_4  {g : GE} {f : FE} {q : Int32 → Mm → Prop} (cx : Cx g f cX0_openFor 4 RX0 1 21 0 0) (hr : (f_M f).sig.returnType = (some .int)) (hl : (f_M f).locks = false) (hQ : f_Q f = MQ (f_b f) (QW g (qI q)) (f_a f) (f_s f) 0 0 (fun q => g.2.2.2.1 ≤ q))  {x1 : Int32} {x2 : Int32} {x3 : Int32} {μ : Mm} (h : F_X0_openFor_4  (KK_X0_openFor_4 g f ) q x1 x2 x3 μ) : KK_X0_openFor_4 g f  x1 x2 x3 μ := by
  unfold F_X0_openFor_4 at h
  show KW g f 4 0 0 4 [some (.ref p_BK), some (.int x1), some (.int x2), some (.int x3)] [] μ
  refine k_iload_n cx dX0_openFor_4 rfl rfl ?_
  refine k_aload_n cx dX0_openFor_5 rfl rfl ?_
  refine k_get (o := some p_GR) (v := .ref p_GR) cx fl_X0_29 ob_BK rfl rfl dX0_openFor_6 ?_
  refine k_get (o := none) (v := .int (μ p_GR 7)) cx fl_X0_41 ob_GR rfl rfl dX0_openFor_9 ?_
  refine k_icmp_ge (tgt := 40) cx dX0_openFor_12 (by decide) (fun hc => ?_) (fun hc => ?_)
  · replace h := h.1 hc
    refine k_iload_n cx dX0_openFor_40 rfl rfl ?_
    exact k_ret_I cx hr hl hQ dX0_openFor_41 h
  · replace h := h.2 hc
    refine k_iload_n cx dX0_openFor_15 rfl rfl ?_
    refine k_aload_n cx dX0_openFor_16 rfl rfl ?_
    refine k_iload_n cx dX0_openFor_17 rfl rfl ?_
    refine k_callV (As := [.int x3]) (rest := [.int x2]) cx (m_X0_leftOnLink h) cv_X0_45 ob_BK rfl rfl rfl rfl (Nat.le_of_ble_eq_true rfl) ⟨Nat.le_of_ble_eq_true rfl, Nat.le_of_ble_eq_true rfl⟩ dX0_openFor_18 (fun v μ1 hq => ?_)
    obtain ⟨z2, rfl, h⟩ := hq
    refine k_iload_n cx dX0_openFor_21 rfl rfl ?_
    refine k_icmp_lt (tgt := 31) cx dX0_openFor_22 (by decide) (fun hc => ?_) (fun hc => ?_)
    · replace h := h.1 hc
      refine k_iconst (v := (0 : Int32)) cx dX0_openFor_31 (by decide +kernel) ?_
      refine k_ior cx dX0_openFor_32 ?_
      refine k_istore_n cx dX0_openFor_33 rfl (by decide) ?_
      refine k_iinc (v := (x3 + (1 : Int32))) cx dX0_openFor_34 rfl rfl (by decide) ?_
      refine k_goto (tgt := 4) cx dX0_openFor_37 (by decide) ?_
      exact k_weak h (lsLe.keep (lsLe.keep (lsLe.keep (lsLe.keep lsLe.nil))))
    · replace h := h.2 hc
      refine k_iconst (v := (1 : Int32)) cx dX0_openFor_25 (by decide +kernel) ?_
      refine k_iload_n cx dX0_openFor_26 rfl rfl ?_
      refine k_ishl cx dX0_openFor_27 ?_
      refine k_goto (tgt := 32) cx dX0_openFor_28 (by decide) ?_
      refine k_ior cx dX0_openFor_32 ?_
      refine k_istore_n cx dX0_openFor_33 rfl (by decide) ?_
      refine k_iinc (v := (x3 + (1 : Int32))) cx dX0_openFor_34 rfl rfl (by decide) ?_
      refine k_goto (tgt := 4) cx dX0_openFor_37 (by decide) ?_
      exact k_weak h (lsLe.keep (lsLe.keep (lsLe.keep (lsLe.keep lsLe.nil))))
set_option maxHeartbeats 2000000 in
theorem b_X0_openFor_e  {g : GE} {f : FE} {q : Int32 → Mm → Prop} (cx : Cx g f cX0_openFor 4 RX0 1 21 0 0) (hr : (f_M f).sig.returnType = (some .int)) (hl : (f_M f).locks = false) (hQ : f_Q f = MQ (f_b f) (QW g (qI q)) (f_a f) (f_s f) 0 0 (fun q => g.2.2.2.1 ≤ q))  {x1 : Int32} {μ : Mm} (h : F_X0_openFor_e  (KK_X0_openFor_4 g f ) q x1 μ) : KW g f 4 0 0 0 [some (.ref p_BK), some (.int x1), none, none] [] μ := by
  unfold F_X0_openFor_e at h
  refine k_iconst (v := (0 : Int32)) cx dX0_openFor_0 (by decide +kernel) ?_
  refine k_istore_n cx dX0_openFor_1 rfl (by decide) ?_
  refine k_iconst (v := (0 : Int32)) cx dX0_openFor_2 (by decide +kernel) ?_
  refine k_istore_n cx dX0_openFor_3 rfl (by decide) ?_
  exact k_weak h (lsLe.keep (lsLe.keep (lsLe.keep (lsLe.keep lsLe.nil))))
theorem m_X0_openFor {g : GE} {l : Launch} {μ : Mm} {q : Int32 → Mm → Prop} {x1 : Int32}  (h : Wp_X0_openFor  x1 μ q) : MW g l yX0_openFor cX0_openFor 4 (some .int) 1 21 [.ref p_BK, .int x1] μ (qI q) := by
  refine met_of (by decide) (Nat.le_of_ble_eq_true rfl) (by intro v hv; simp only [List.mem_cons, List.not_mem_nil, or_false] at hv; rcases hv with rfl | rfl <;> rfl) ?_
  intro f hfl cx hr hl hQ
  exact b_X0_openFor_e  cx hr hl hQ (h (KK_X0_openFor_4 g f ) (fun _ _ _ _ h => b_X0_openFor_4  cx hr hl hQ h))
theorem dX1_prepare_0 : decode cX1_prepare 0 = .ok (.iconst 1, 1) := by decide +kernel
theorem dX1_prepare_1 : decode cX1_prepare 1 = .ok (.istore_n 2, 1) := by decide +kernel
theorem dX1_prepare_2 : decode cX1_prepare 2 = .ok (.iconst 0, 1) := by decide +kernel
theorem dX1_prepare_3 : decode cX1_prepare 3 = .ok (.istore_n 3, 1) := by decide +kernel
theorem dX1_prepare_4 : decode cX1_prepare 4 = .ok (.iload_n 3, 1) := by decide +kernel
theorem dX1_prepare_5 : decode cX1_prepare 5 = .ok (.aload_n 1, 1) := by decide +kernel
theorem dX1_prepare_6 : decode cX1_prepare 6 = .ok (.getfield 23, 3) := by decide +kernel
theorem dX1_prepare_9 : decode cX1_prepare 9 = .ok (.if_icmp .ge 96, 3) := by decide +kernel
theorem dX1_prepare_12 : decode cX1_prepare 12 = .ok (.aload_n 0, 1) := by decide +kernel
theorem dX1_prepare_13 : decode cX1_prepare 13 = .ok (.getfield 9, 3) := by decide +kernel
theorem dX1_prepare_16 : decode cX1_prepare 16 = .ok (.iload_n 3, 1) := by decide +kernel
theorem dX1_prepare_17 : decode cX1_prepare 17 = .ok (.iconst 0, 1) := by decide +kernel
theorem dX1_prepare_18 : decode cX1_prepare 18 = .ok (.iastore, 1) := by decide +kernel
theorem dX1_prepare_19 : decode cX1_prepare 19 = .ok (.iconst 0, 1) := by decide +kernel
theorem dX1_prepare_20 : decode cX1_prepare 20 = .ok (.istore 4, 2) := by decide +kernel
theorem dX1_prepare_22 : decode cX1_prepare 22 = .ok (.iload 4, 2) := by decide +kernel
theorem dX1_prepare_24 : decode cX1_prepare 24 = .ok (.aload_n 0, 1) := by decide +kernel
theorem dX1_prepare_25 : decode cX1_prepare 25 = .ok (.getfield 15, 3) := by decide +kernel
theorem dX1_prepare_28 : decode cX1_prepare 28 = .ok (.getfield 29, 3) := by decide +kernel
theorem dX1_prepare_31 : decode cX1_prepare 31 = .ok (.if_icmp .ge 63, 3) := by decide +kernel
theorem dX1_prepare_34 : decode cX1_prepare 34 = .ok (.aload_n 0, 1) := by decide +kernel
theorem dX1_prepare_35 : decode cX1_prepare 35 = .ok (.getfield 19, 3) := by decide +kernel
theorem dX1_prepare_38 : decode cX1_prepare 38 = .ok (.iload 4, 2) := by decide +kernel
theorem dX1_prepare_40 : decode cX1_prepare 40 = .ok (.invokevirtual 34, 3) := by decide +kernel
theorem dX1_prepare_43 : decode cX1_prepare 43 = .ok (.aload_n 1, 1) := by decide +kernel
theorem dX1_prepare_44 : decode cX1_prepare 44 = .ok (.getfield 40, 3) := by decide +kernel
theorem dX1_prepare_47 : decode cX1_prepare 47 = .ok (.iload_n 3, 1) := by decide +kernel
theorem dX1_prepare_48 : decode cX1_prepare 48 = .ok (.iaload, 1) := by decide +kernel
theorem dX1_prepare_49 : decode cX1_prepare 49 = .ok (.if_icmp .lt 7, 3) := by decide +kernel
theorem dX1_prepare_52 : decode cX1_prepare 52 = .ok (.iconst 1, 1) := by decide +kernel
theorem dX1_prepare_53 : decode cX1_prepare 53 = .ok (.goto 4, 3) := by decide +kernel
theorem dX1_prepare_56 : decode cX1_prepare 56 = .ok (.iconst 0, 1) := by decide +kernel
theorem dX1_prepare_57 : decode cX1_prepare 57 = .ok (.istore 5, 2) := by decide +kernel
theorem dX1_prepare_59 : decode cX1_prepare 59 = .ok (.aload_n 0, 1) := by decide +kernel
theorem dX1_prepare_60 : decode cX1_prepare 60 = .ok (.getfield 9, 3) := by decide +kernel
theorem dX1_prepare_63 : decode cX1_prepare 63 = .ok (.iload_n 3, 1) := by decide +kernel
theorem dX1_prepare_64 : decode cX1_prepare 64 = .ok (.dup2, 1) := by decide +kernel
theorem dX1_prepare_65 : decode cX1_prepare 65 = .ok (.iaload, 1) := by decide +kernel
theorem dX1_prepare_66 : decode cX1_prepare 66 = .ok (.iload 5, 2) := by decide +kernel
theorem dX1_prepare_68 : decode cX1_prepare 68 = .ok (.ifCond .eq 17, 3) := by decide +kernel
theorem dX1_prepare_71 : decode cX1_prepare 71 = .ok (.aload_n 1, 1) := by decide +kernel
theorem dX1_prepare_72 : decode cX1_prepare 72 = .ok (.getfield 43, 3) := by decide +kernel
theorem dX1_prepare_75 : decode cX1_prepare 75 = .ok (.iload_n 3, 1) := by decide +kernel
theorem dX1_prepare_76 : decode cX1_prepare 76 = .ok (.iaload, 1) := by decide +kernel
theorem dX1_prepare_77 : decode cX1_prepare 77 = .ok (.iconst 1, 1) := by decide +kernel
theorem dX1_prepare_78 : decode cX1_prepare 78 = .ok (.iload 4, 2) := by decide +kernel
theorem dX1_prepare_80 : decode cX1_prepare 80 = .ok (.ishl, 1) := by decide +kernel
theorem dX1_prepare_81 : decode cX1_prepare 81 = .ok (.iand, 1) := by decide +kernel
theorem dX1_prepare_82 : decode cX1_prepare 82 = .ok (.goto 4, 3) := by decide +kernel
theorem dX1_prepare_85 : decode cX1_prepare 85 = .ok (.iconst 0, 1) := by decide +kernel
theorem dX1_prepare_86 : decode cX1_prepare 86 = .ok (.ior, 1) := by decide +kernel
theorem dX1_prepare_87 : decode cX1_prepare 87 = .ok (.iastore, 1) := by decide +kernel
theorem dX1_prepare_88 : decode cX1_prepare 88 = .ok (.iinc 4 1, 3) := by decide +kernel
theorem dX1_prepare_91 : decode cX1_prepare 91 = .ok (.goto (-69), 3) := by decide +kernel
theorem dX1_prepare_94 : decode cX1_prepare 94 = .ok (.iload_n 2, 1) := by decide +kernel
theorem dX1_prepare_95 : decode cX1_prepare 95 = .ok (.bipush 6, 2) := by decide +kernel
theorem dX1_prepare_97 : decode cX1_prepare 97 = .ok (.imul, 1) := by decide +kernel
theorem dX1_prepare_98 : decode cX1_prepare 98 = .ok (.istore_n 2, 1) := by decide +kernel
theorem dX1_prepare_99 : decode cX1_prepare 99 = .ok (.iinc 3 1, 3) := by decide +kernel
theorem dX1_prepare_102 : decode cX1_prepare 102 = .ok (.goto (-98), 3) := by decide +kernel
theorem dX1_prepare_105 : decode cX1_prepare 105 = .ok (.iload_n 2, 1) := by decide +kernel
theorem dX1_prepare_106 : decode cX1_prepare 106 = .ok (.ireturn, 1) := by decide +kernel
def F_X1_prepare_4 (p0 : Nat) (p1 : Nat) (K4 : Int32 → Int32 → Mm → Prop) (K22 : Int32 → Int32 → Int32 → Mm → Prop) (K57 : Int32 → Int32 → Int32 → Int32 → Mm → Prop) (q : Int32 → Mm → Prop) (x2 : Int32) (x3 : Int32) (μ : Mm) : Prop :=
  (((μ p1 10) ≤ x3 → q x2 μ) ∧ (¬ ((μ p1 10) ≤ x3) → vp_in x3 3 ∧ K22 x2 x3 (0 : Int32) (up2 μ (p0 + 1) (x3).toNatClampNeg (0 : Int32))))
def F_X1_prepare_22 (p0 : Nat) (p1 : Nat) (K4 : Int32 → Int32 → Mm → Prop) (K22 : Int32 → Int32 → Int32 → Mm → Prop) (K57 : Int32 → Int32 → Int32 → Int32 → Mm → Prop) (q : Int32 → Mm → Prop) (x2 : Int32) (x3 : Int32) (x4 : Int32) (μ : Mm) : Prop :=
  (((μ p_GR 6) ≤ x4 → K4 (x2 * (6 : Int32)) (x3 + (1 : Int32)) μ) ∧ (¬ ((μ p_GR 6) ≤ x4) → Wp_X0_leftAtNode x4 μ (fun z2 μ1 => vp_in x3 3 ∧ ((z2 < (μ1 (p1 + 1) (x3).toNatClampNeg) → K57 x2 x3 x4 (0 : Int32) μ1) ∧ (¬ (z2 < (μ1 (p1 + 1) (x3).toNatClampNeg)) → K57 x2 x3 x4 (1 : Int32) μ1)))))
def F_X1_prepare_57 (p0 : Nat) (p1 : Nat) (K4 : Int32 → Int32 → Mm → Prop) (K22 : Int32 → Int32 → Int32 → Mm → Prop) (K57 : Int32 → Int32 → Int32 → Int32 → Mm → Prop) (q : Int32 → Mm → Prop) (x2 : Int32) (x3 : Int32) (x4 : Int32) (y0 : Int32) (μ : Mm) : Prop :=
  vp_in x3 3 ∧ ((y0 = 0 → vp_in x3 3 ∧ K22 x2 x3 (x4 + (1 : Int32)) (up2 μ (p0 + 1) (x3).toNatClampNeg ((μ (p0 + 1) (x3).toNatClampNeg) ||| (0 : Int32)))) ∧ (¬ (y0 = 0) → vp_in x3 3 ∧ vp_in x3 3 ∧ K22 x2 x3 (x4 + (1 : Int32)) (up2 μ (p0 + 1) (x3).toNatClampNeg ((μ (p0 + 1) (x3).toNatClampNeg) ||| ((μ (p1 + 2) (x3).toNatClampNeg) &&& ((1 : Int32) <<< (x4 &&& 31)))))))
def F_X1_prepare_e (p0 : Nat) (p1 : Nat) (K4 : Int32 → Int32 → Mm → Prop) (K22 : Int32 → Int32 → Int32 → Mm → Prop) (K57 : Int32 → Int32 → Int32 → Int32 → Mm → Prop) (q : Int32 → Mm → Prop)  (μ : Mm) : Prop :=
  K4 (1 : Int32) (0 : Int32) μ
def Wp_X1_prepare (p0 : Nat) (p1 : Nat)  (μ : Mm) (q : Int32 → Mm → Prop) : Prop := ∀ (K4 : Int32 → Int32 → Mm → Prop) (K22 : Int32 → Int32 → Int32 → Mm → Prop) (K57 : Int32 → Int32 → Int32 → Int32 → Mm → Prop), (∀ (x2 : Int32) (x3 : Int32) (μ : Mm), F_X1_prepare_4 p0 p1 K4 K22 K57 q x2 x3 μ → K4 x2 x3 μ) → (∀ (x2 : Int32) (x3 : Int32) (x4 : Int32) (μ : Mm), F_X1_prepare_22 p0 p1 K4 K22 K57 q x2 x3 x4 μ → K22 x2 x3 x4 μ) → (∀ (x2 : Int32) (x3 : Int32) (x4 : Int32) (y0 : Int32) (μ : Mm), F_X1_prepare_57 p0 p1 K4 K22 K57 q x2 x3 x4 y0 μ → K57 x2 x3 x4 y0 μ) → F_X1_prepare_e p0 p1 K4 K22 K57 q  μ
abbrev KK_X1_prepare_4 (g : GE) (f : FE) (p0 : Nat) (p1 : Nat) : Int32 → Int32 → Mm → Prop := fun x2 x3 μ => KW g f 6 0 0 4 [some (.ref p0), some (.ref p1), some (.int x2), some (.int x3), none, none] [] μ
abbrev KK_X1_prepare_22 (g : GE) (f : FE) (p0 : Nat) (p1 : Nat) : Int32 → Int32 → Int32 → Mm → Prop := fun x2 x3 x4 μ => KW g f 6 0 0 22 [some (.ref p0), some (.ref p1), some (.int x2), some (.int x3), some (.int x4), none] [] μ
abbrev KK_X1_prepare_57 (g : GE) (f : FE) (p0 : Nat) (p1 : Nat) : Int32 → Int32 → Int32 → Int32 → Mm → Prop := fun x2 x3 x4 y0 μ => KW g f 6 0 0 57 [some (.ref p0), some (.ref p1), some (.int x2), some (.int x3), some (.int x4), none] [.int y0] μ
set_option maxHeartbeats 2000000 in
theorem b_X1_prepare_4 {p0 : Nat} {p1 : Nat} (h_p0 : isCho p0) (h_p1 : isReq p1) {g : GE} {f : FE} {q : Int32 → Mm → Prop} (cx : Cx g f cX1_prepare 6 RX1 1 21 0 0) (hr : (f_M f).sig.returnType = (some .int)) (hl : (f_M f).locks = false) (hQ : f_Q f = MQ (f_b f) (QW g (qI q)) (f_a f) (f_s f) 0 0 (fun q => g.2.2.2.1 ≤ q))  {x2 : Int32} {x3 : Int32} {μ : Mm} (h : F_X1_prepare_4 p0 p1 (KK_X1_prepare_4 g f p0 p1) (KK_X1_prepare_22 g f p0 p1) (KK_X1_prepare_57 g f p0 p1) q x2 x3 μ) : KK_X1_prepare_4 g f p0 p1 x2 x3 μ := by
  unfold F_X1_prepare_4 at h
  show KW g f 6 0 0 4 [some (.ref p0), some (.ref p1), some (.int x2), some (.int x3), none, none] [] μ
  refine k_iload_n cx dX1_prepare_4 rfl rfl ?_
  refine k_aload_n cx dX1_prepare_5 rfl rfl ?_
  refine k_get (o := none) (v := .int (μ p1 10)) cx fl_X1_23 (ob_RQ h_p1) rfl rfl dX1_prepare_6 ?_
  refine k_icmp_ge (tgt := 105) cx dX1_prepare_9 (by decide) (fun hc => ?_) (fun hc => ?_)
  · replace h := h.1 hc
    refine k_iload_n cx dX1_prepare_105 rfl rfl ?_
    exact k_ret_I cx hr hl hQ dX1_prepare_106 h
  · replace h := h.2 hc
    refine k_aload_n cx dX1_prepare_12 rfl rfl ?_
    refine k_get (o := some (p0 + 1)) (v := .ref (p0 + 1)) cx fl_X1_9 (ob_CH h_p0) rfl rfl dX1_prepare_13 ?_
    refine k_iload_n cx dX1_prepare_16 rfl rfl ?_
    refine k_iconst (v := (0 : Int32)) cx dX1_prepare_17 (by decide +kernel) ?_
    obtain ⟨hi, h⟩ := h
    refine k_iast cx (ar_CH h_p0) hi dX1_prepare_18 ?_
    refine k_iconst (v := (0 : Int32)) cx dX1_prepare_19 (by decide +kernel) ?_
    refine k_istore cx dX1_prepare_20 (by decide) ?_
    exact k_weak h (lsLe.keep (lsLe.keep (lsLe.keep (lsLe.keep (lsLe.keep (lsLe.keep lsLe.nil))))))
set_option maxHeartbeats 2000000 in
theorem b_X1_prepare_22 {p0 : Nat} {p1 : Nat} (h_p0 : isCho p0) (h_p1 : isReq p1) {g : GE} {f : FE} {q : Int32 → Mm → Prop} (cx : Cx g f cX1_prepare 6 RX1 1 21 0 0) (hr : (f_M f).sig.returnType = (some .int)) (hl : (f_M f).locks = false) (hQ : f_Q f = MQ (f_b f) (QW g (qI q)) (f_a f) (f_s f) 0 0 (fun q => g.2.2.2.1 ≤ q))  {x2 : Int32} {x3 : Int32} {x4 : Int32} {μ : Mm} (h : F_X1_prepare_22 p0 p1 (KK_X1_prepare_4 g f p0 p1) (KK_X1_prepare_22 g f p0 p1) (KK_X1_prepare_57 g f p0 p1) q x2 x3 x4 μ) : KK_X1_prepare_22 g f p0 p1 x2 x3 x4 μ := by
  unfold F_X1_prepare_22 at h
  show KW g f 6 0 0 22 [some (.ref p0), some (.ref p1), some (.int x2), some (.int x3), some (.int x4), none] [] μ
  refine k_iload cx dX1_prepare_22 rfl ?_
  refine k_aload_n cx dX1_prepare_24 rfl rfl ?_
  refine k_get (o := some p_GR) (v := .ref p_GR) cx fl_X1_15 (ob_CH h_p0) rfl rfl dX1_prepare_25 ?_
  refine k_get (o := none) (v := .int (μ p_GR 6)) cx fl_X1_29 ob_GR rfl rfl dX1_prepare_28 ?_
  refine k_icmp_ge (tgt := 94) cx dX1_prepare_31 (by decide) (fun hc => ?_) (fun hc => ?_)
  · replace h := h.1 hc
    refine k_iload_n cx dX1_prepare_94 rfl rfl ?_
    refine k_bipush (v := (6 : Int32)) cx dX1_prepare_95 (by decide +kernel) ?_
    refine k_imul cx dX1_prepare_97 ?_
    refine k_istore_n cx dX1_prepare_98 rfl (by decide) ?_
    refine k_iinc (v := (x3 + (1 : Int32))) cx dX1_prepare_99 rfl rfl (by decide) ?_
    refine k_goto (tgt := 4) cx dX1_prepare_102 (by decide) ?_
    exact k_weak h (lsLe.keep (lsLe.keep (lsLe.keep (lsLe.keep (lsLe.drop (lsLe.keep lsLe.nil))))))
  · replace h := h.2 hc
    refine k_aload_n cx dX1_prepare_34 rfl rfl ?_
    refine k_get (o := some p_BK) (v := .ref p_BK) cx fl_X1_19 (ob_CH h_p0) rfl rfl dX1_prepare_35 ?_
    refine k_iload cx dX1_prepare_38 rfl ?_
    refine k_callV (As := [.int x4]) (rest := []) cx (m_X0_leftAtNode h) cv_X1_34 ob_BK rfl rfl rfl rfl (Nat.le_of_ble_eq_true rfl) ⟨Nat.le_of_ble_eq_true rfl, Nat.le_of_ble_eq_true rfl⟩ dX1_prepare_40 (fun v μ1 hq => ?_)
    obtain ⟨z2, rfl, h⟩ := hq
    refine k_aload_n cx dX1_prepare_43 rfl rfl ?_
    refine k_get (o := some (p1 + 1)) (v := .ref (p1 + 1)) cx fl_X1_40 (ob_RQ h_p1) rfl rfl dX1_prepare_44 ?_
    refine k_iload_n cx dX1_prepare_47 rfl rfl ?_
    obtain ⟨hi, h⟩ := h
    refine k_iald cx (ar_RQ h_p1 1 (by decide) (by decide)) hi dX1_prepare_48 ?_
    refine k_icmp_lt (tgt := 56) cx dX1_prepare_49 (by decide) (fun hc => ?_) (fun hc => ?_)
    · replace h := h.1 hc
      refine k_iconst (v := (0 : Int32)) cx dX1_prepare_56 (by decide +kernel) ?_
      exact k_weak h (lsLe.keep (lsLe.keep (lsLe.keep (lsLe.keep (lsLe.keep (lsLe.keep lsLe.nil))))))
    · replace h := h.2 hc
      refine k_iconst (v := (1 : Int32)) cx dX1_prepare_52 (by decide +kernel) ?_
      refine k_goto (tgt := 57) cx dX1_prepare_53 (by decide) ?_
      exact k_weak h (lsLe.keep (lsLe.keep (lsLe.keep (lsLe.keep (lsLe.keep (lsLe.keep lsLe.nil))))))
set_option maxHeartbeats 2000000 in
theorem b_X1_prepare_57 {p0 : Nat} {p1 : Nat} (h_p0 : isCho p0) (h_p1 : isReq p1) {g : GE} {f : FE} {q : Int32 → Mm → Prop} (cx : Cx g f cX1_prepare 6 RX1 1 21 0 0) (hr : (f_M f).sig.returnType = (some .int)) (hl : (f_M f).locks = false) (hQ : f_Q f = MQ (f_b f) (QW g (qI q)) (f_a f) (f_s f) 0 0 (fun q => g.2.2.2.1 ≤ q))  {x2 : Int32} {x3 : Int32} {x4 : Int32} {y0 : Int32} {μ : Mm} (h : F_X1_prepare_57 p0 p1 (KK_X1_prepare_4 g f p0 p1) (KK_X1_prepare_22 g f p0 p1) (KK_X1_prepare_57 g f p0 p1) q x2 x3 x4 y0 μ) : KK_X1_prepare_57 g f p0 p1 x2 x3 x4 y0 μ := by
  unfold F_X1_prepare_57 at h
  show KW g f 6 0 0 57 [some (.ref p0), some (.ref p1), some (.int x2), some (.int x3), some (.int x4), none] [.int y0] μ
  refine k_istore cx dX1_prepare_57 (by decide) ?_
  refine k_aload_n cx dX1_prepare_59 rfl rfl ?_
  refine k_get (o := some (p0 + 1)) (v := .ref (p0 + 1)) cx fl_X1_9 (ob_CH h_p0) rfl rfl dX1_prepare_60 ?_
  refine k_iload_n cx dX1_prepare_63 rfl rfl ?_
  refine k_dup2 cx dX1_prepare_64 rfl rfl ?_
  obtain ⟨hi, h⟩ := h
  refine k_iald cx (ar_CH h_p0) hi dX1_prepare_65 ?_
  refine k_iload cx dX1_prepare_66 rfl ?_
  refine k_if_eq (tgt := 85) cx dX1_prepare_68 (by decide) (fun hc => ?_) (fun hc => ?_)
  · replace h := h.1 hc
    refine k_iconst (v := (0 : Int32)) cx dX1_prepare_85 (by decide +kernel) ?_
    refine k_ior cx dX1_prepare_86 ?_
    obtain ⟨hi, h⟩ := h
    refine k_iast cx (ar_CH h_p0) hi dX1_prepare_87 ?_
    refine k_iinc (v := (x4 + (1 : Int32))) cx dX1_prepare_88 rfl rfl (by decide) ?_
    refine k_goto (tgt := 22) cx dX1_prepare_91 (by decide) ?_
    exact k_weak h (lsLe.keep (lsLe.keep (lsLe.keep (lsLe.keep (lsLe.keep (lsLe.drop lsLe.nil))))))
  · replace h := h.2 hc
    refine k_aload_n cx dX1_prepare_71 rfl rfl ?_
    refine k_get (o := some (p1 + 2)) (v := .ref (p1 + 2)) cx fl_X1_43 (ob_RQ h_p1) rfl rfl dX1_prepare_72 ?_
    refine k_iload_n cx dX1_prepare_75 rfl rfl ?_
    obtain ⟨hi, h⟩ := h
    refine k_iald cx (ar_RQ h_p1 2 (by decide) (by decide)) hi dX1_prepare_76 ?_
    refine k_iconst (v := (1 : Int32)) cx dX1_prepare_77 (by decide +kernel) ?_
    refine k_iload cx dX1_prepare_78 rfl ?_
    refine k_ishl cx dX1_prepare_80 ?_
    refine k_iand cx dX1_prepare_81 ?_
    refine k_goto (tgt := 86) cx dX1_prepare_82 (by decide) ?_
    refine k_ior cx dX1_prepare_86 ?_
    obtain ⟨hi, h⟩ := h
    refine k_iast cx (ar_CH h_p0) hi dX1_prepare_87 ?_
    refine k_iinc (v := (x4 + (1 : Int32))) cx dX1_prepare_88 rfl rfl (by decide) ?_
    refine k_goto (tgt := 22) cx dX1_prepare_91 (by decide) ?_
    exact k_weak h (lsLe.keep (lsLe.keep (lsLe.keep (lsLe.keep (lsLe.keep (lsLe.drop lsLe.nil))))))
set_option maxHeartbeats 2000000 in
theorem b_X1_prepare_e {p0 : Nat} {p1 : Nat} (h_p0 : isCho p0) (h_p1 : isReq p1) {g : GE} {f : FE} {q : Int32 → Mm → Prop} (cx : Cx g f cX1_prepare 6 RX1 1 21 0 0) (hr : (f_M f).sig.returnType = (some .int)) (hl : (f_M f).locks = false) (hQ : f_Q f = MQ (f_b f) (QW g (qI q)) (f_a f) (f_s f) 0 0 (fun q => g.2.2.2.1 ≤ q))   {μ : Mm} (h : F_X1_prepare_e p0 p1 (KK_X1_prepare_4 g f p0 p1) (KK_X1_prepare_22 g f p0 p1) (KK_X1_prepare_57 g f p0 p1) q  μ) : KW g f 6 0 0 0 [some (.ref p0), some (.ref p1), none, none, none, none] [] μ := by
  unfold F_X1_prepare_e at h
  refine k_iconst (v := (1 : Int32)) cx dX1_prepare_0 (by decide +kernel) ?_
  refine k_istore_n cx dX1_prepare_1 rfl (by decide) ?_
  refine k_iconst (v := (0 : Int32)) cx dX1_prepare_2 (by decide +kernel) ?_
  refine k_istore_n cx dX1_prepare_3 rfl (by decide) ?_
  exact k_weak h (lsLe.keep (lsLe.keep (lsLe.keep (lsLe.keep (lsLe.keep (lsLe.keep lsLe.nil))))))
theorem m_X1_prepare {g : GE} {l : Launch} {μ : Mm} {q : Int32 → Mm → Prop} {p0 : Nat} {p1 : Nat} (h_p0 : isCho p0) (h_p1 : isReq p1) (h : Wp_X1_prepare p0 p1  μ q) : MW g l yX1_prepare cX1_prepare 6 (some .int) 1 21 [.ref p0, .ref p1] μ (qI q) := by
  refine met_of (by decide) (Nat.le_of_ble_eq_true rfl) (by intro v hv; simp only [List.mem_cons, List.not_mem_nil, or_false] at hv; rcases hv with rfl | rfl <;> rfl) ?_
  intro f hfl cx hr hl hQ
  exact b_X1_prepare_e h_p0 h_p1 cx hr hl hQ (h (KK_X1_prepare_4 g f p0 p1) (KK_X1_prepare_22 g f p0 p1) (KK_X1_prepare_57 g f p0 p1) (fun _ _ _ h => b_X1_prepare_4 h_p0 h_p1 cx hr hl hQ h) (fun _ _ _ _ h => b_X1_prepare_22 h_p0 h_p1 cx hr hl hQ h) (fun _ _ _ _ _ h => b_X1_prepare_57 h_p0 h_p1 cx hr hl hQ h))
theorem dX1_take_0 : decode cX1_take 0 = .ok (.iload_n 2, 1) := by decide +kernel
theorem dX1_take_1 : decode cX1_take 1 = .ok (.istore_n 3, 1) := by decide +kernel
theorem dX1_take_2 : decode cX1_take 2 = .ok (.iconst 0, 1) := by decide +kernel
theorem dX1_take_3 : decode cX1_take 3 = .ok (.istore 4, 2) := by decide +kernel
theorem dX1_take_5 : decode cX1_take 5 = .ok (.aload_n 1, 1) := by decide +kernel
theorem dX1_take_6 : decode cX1_take 6 = .ok (.getfield 23, 3) := by decide +kernel
theorem dX1_take_9 : decode cX1_take 9 = .ok (.iconst 1, 1) := by decide +kernel
theorem dX1_take_10 : decode cX1_take 10 = .ok (.isub, 1) := by decide +kernel
theorem dX1_take_11 : decode cX1_take 11 = .ok (.istore 5, 2) := by decide +kernel
theorem dX1_take_13 : decode cX1_take 13 = .ok (.iload 5, 2) := by decide +kernel
theorem dX1_take_15 : decode cX1_take 15 = .ok (.ifCond .lt 65, 3) := by decide +kernel
theorem dX1_take_18 : decode cX1_take 18 = .ok (.iload_n 3, 1) := by decide +kernel
theorem dX1_take_19 : decode cX1_take 19 = .ok (.bipush 6, 2) := by decide +kernel
theorem dX1_take_21 : decode cX1_take 21 = .ok (.irem, 1) := by decide +kernel
theorem dX1_take_22 : decode cX1_take 22 = .ok (.istore 6, 2) := by decide +kernel
theorem dX1_take_24 : decode cX1_take 24 = .ok (.iload_n 3, 1) := by decide +kernel
theorem dX1_take_25 : decode cX1_take 25 = .ok (.bipush 6, 2) := by decide +kernel
theorem dX1_take_27 : decode cX1_take 27 = .ok (.idiv, 1) := by decide +kernel
theorem dX1_take_28 : decode cX1_take 28 = .ok (.istore_n 3, 1) := by decide +kernel
theorem dX1_take_29 : decode cX1_take 29 = .ok (.aload_n 0, 1) := by decide +kernel
theorem dX1_take_30 : decode cX1_take 30 = .ok (.getfield 9, 3) := by decide +kernel
theorem dX1_take_33 : decode cX1_take 33 = .ok (.iload 5, 2) := by decide +kernel
theorem dX1_take_35 : decode cX1_take 35 = .ok (.iaload, 1) := by decide +kernel
theorem dX1_take_36 : decode cX1_take 36 = .ok (.iload 6, 2) := by decide +kernel
theorem dX1_take_38 : decode cX1_take 38 = .ok (.ishr, 1) := by decide +kernel
theorem dX1_take_39 : decode cX1_take 39 = .ok (.iconst 1, 1) := by decide +kernel
theorem dX1_take_40 : decode cX1_take 40 = .ok (.iand, 1) := by decide +kernel
theorem dX1_take_41 : decode cX1_take 41 = .ok (.ifCond .eq 13, 3) := by decide +kernel
theorem dX1_take_44 : decode cX1_take 44 = .ok (.iload 4, 2) := by decide +kernel
theorem dX1_take_46 : decode cX1_take 46 = .ok (.iload 6, 2) := by decide +kernel
theorem dX1_take_48 : decode cX1_take 48 = .ok (.ishr, 1) := by decide +kernel
theorem dX1_take_49 : decode cX1_take 49 = .ok (.iconst 1, 1) := by decide +kernel
theorem dX1_take_50 : decode cX1_take 50 = .ok (.iand, 1) := by decide +kernel
theorem dX1_take_51 : decode cX1_take 51 = .ok (.ifCond .eq 5, 3) := by decide +kernel
theorem dX1_take_54 : decode cX1_take 54 = .ok (.iconst 0, 1) := by decide +kernel
theorem dX1_take_55 : decode cX1_take 55 = .ok (.ireturn, 1) := by decide +kernel
theorem dX1_take_56 : decode cX1_take 56 = .ok (.iload 4, 2) := by decide +kernel
theorem dX1_take_58 : decode cX1_take 58 = .ok (.iconst 1, 1) := by decide +kernel
theorem dX1_take_59 : decode cX1_take 59 = .ok (.iload 6, 2) := by decide +kernel
theorem dX1_take_61 : decode cX1_take 61 = .ok (.ishl, 1) := by decide +kernel
theorem dX1_take_62 : decode cX1_take 62 = .ok (.ior, 1) := by decide +kernel
theorem dX1_take_63 : decode cX1_take 63 = .ok (.istore 4, 2) := by decide +kernel
theorem dX1_take_65 : decode cX1_take 65 = .ok (.aload_n 1, 1) := by decide +kernel
theorem dX1_take_66 : decode cX1_take 66 = .ok (.getfield 46, 3) := by decide +kernel
theorem dX1_take_69 : decode cX1_take 69 = .ok (.iload 5, 2) := by decide +kernel
theorem dX1_take_71 : decode cX1_take 71 = .ok (.iload 6, 2) := by decide +kernel
theorem dX1_take_73 : decode cX1_take 73 = .ok (.iastore, 1) := by decide +kernel
theorem dX1_take_74 : decode cX1_take 74 = .ok (.iinc 5 (-1), 3) := by decide +kernel
theorem dX1_take_77 : decode cX1_take 77 = .ok (.goto (-64), 3) := by decide +kernel
theorem dX1_take_80 : decode cX1_take 80 = .ok (.iconst 1, 1) := by decide +kernel
theorem dX1_take_81 : decode cX1_take 81 = .ok (.ireturn, 1) := by decide +kernel
def F_X1_take_13 (p0 : Nat) (p1 : Nat) (K13 : Int32 → Int32 → Int32 → Mm → Prop) (q : Bool → Mm → Prop) (x3 : Int32) (x4 : Int32) (x5 : Int32) (μ : Mm) : Prop :=
  ((x5 < 0 → q true μ) ∧ (¬ (x5 < 0) → vp_in x5 3 ∧ (((((μ (p0 + 1) (x5).toNatClampNeg) >>> ((x3 - x3 / (6 : Int32) * (6 : Int32)) &&& 31)) &&& (1 : Int32)) = 0 → q false μ) ∧ (¬ ((((μ (p0 + 1) (x5).toNatClampNeg) >>> ((x3 - x3 / (6 : Int32) * (6 : Int32)) &&& 31)) &&& (1 : Int32)) = 0) → ((((x4 >>> ((x3 - x3 / (6 : Int32) * (6 : Int32)) &&& 31)) &&& (1 : Int32)) = 0 → vp_in x5 3 ∧ K13 (x3 / (6 : Int32)) (x4 ||| ((1 : Int32) <<< ((x3 - x3 / (6 : Int32) * (6 : Int32)) &&& 31))) (x5 + (-1 : Int32)) (up2 μ (p1 + 3) (x5).toNatClampNeg (x3 - x3 / (6 : Int32) * (6 : Int32)))) ∧ (¬ (((x4 >>> ((x3 - x3 / (6 : Int32) * (6 : Int32)) &&& 31)) &&& (1 : Int32)) = 0) → q false μ))))))
def F_X1_take_e (p0 : Nat) (p1 : Nat) (K13 : Int32 → Int32 → Int32 → Mm → Prop) (q : Bool → Mm → Prop) (x2 : Int32) (μ : Mm) : Prop :=
  K13 x2 (0 : Int32) ((μ p1 10) - (1 : Int32)) μ
def Wp_X1_take (p0 : Nat) (p1 : Nat) (x2 : Int32) (μ : Mm) (q : Bool → Mm → Prop) : Prop := ∀ (K13 : Int32 → Int32 → Int32 → Mm → Prop), (∀ (x3 : Int32) (x4 : Int32) (x5 : Int32) (μ : Mm), F_X1_take_13 p0 p1 K13 q x3 x4 x5 μ → K13 x3 x4 x5 μ) → F_X1_take_e p0 p1 K13 q x2 μ
abbrev KK_X1_take_13 (g : GE) (f : FE) (p0 : Nat) (p1 : Nat) : Int32 → Int32 → Int32 → Mm → Prop := fun x3 x4 x5 μ => KW g f 7 0 0 13 [some (.ref p0), some (.ref p1), none, some (.int x3), some (.int x4), some (.int x5), none] [] μ
set_option maxHeartbeats 2000000 in
theorem b_X1_take_13 {p0 : Nat} {p1 : Nat} (h_p0 : isCho p0) (h_p1 : isReq p1) {g : GE} {f : FE} {q : Bool → Mm → Prop} (cx : Cx g f cX1_take 7 RX1 0 0 0 0) (hr : (f_M f).sig.returnType = (some .boolean)) (hl : (f_M f).locks = false) (hQ : f_Q f = MQ (f_b f) (QW g (qZ q)) (f_a f) (f_s f) 0 0 (fun q => g.2.2.2.1 ≤ q))  {x3 : Int32} {x4 : Int32} {x5 : Int32} {μ : Mm} (h : F_X1_take_13 p0 p1 (KK_X1_take_13 g f p0 p1) q x3 x4 x5 μ) : KK_X1_take_13 g f p0 p1 x3 x4 x5 μ := by
  unfold F_X1_take_13 at h
  show KW g f 7 0 0 13 [some (.ref p0), some (.ref p1), none, some (.int x3), some (.int x4), some (.int x5), none] [] μ
  refine k_iload cx dX1_take_13 rfl ?_
  refine k_if_lt (tgt := 80) cx dX1_take_15 (by decide) (fun hc => ?_) (fun hc => ?_)
  · replace h := h.1 hc
    refine k_iconst (v := (1 : Int32)) cx dX1_take_80 (by decide +kernel) ?_
    exact k_ret_Z (b := true) cx hr hl hQ dX1_take_81 rfl h
  · replace h := h.2 hc
    refine k_iload_n cx dX1_take_18 rfl rfl ?_
    refine k_bipush (v := (6 : Int32)) cx dX1_take_19 (by decide +kernel) ?_
    refine k_irem cx dX1_take_21 (by decide) ?_
    refine k_istore cx dX1_take_22 (by decide) ?_
    refine k_iload_n cx dX1_take_24 rfl rfl ?_
    refine k_bipush (v := (6 : Int32)) cx dX1_take_25 (by decide +kernel) ?_
    refine k_idiv cx dX1_take_27 (by decide) ?_
    refine k_istore_n cx dX1_take_28 rfl (by decide) ?_
    refine k_aload_n cx dX1_take_29 rfl rfl ?_
    refine k_get (o := some (p0 + 1)) (v := .ref (p0 + 1)) cx fl_X1_9 (ob_CH h_p0) rfl rfl dX1_take_30 ?_
    refine k_iload cx dX1_take_33 rfl ?_
    obtain ⟨hi, h⟩ := h
    refine k_iald cx (ar_CH h_p0) hi dX1_take_35 ?_
    refine k_iload cx dX1_take_36 rfl ?_
    refine k_ishr cx dX1_take_38 ?_
    refine k_iconst (v := (1 : Int32)) cx dX1_take_39 (by decide +kernel) ?_
    refine k_iand cx dX1_take_40 ?_
    refine k_if_eq (tgt := 54) cx dX1_take_41 (by decide) (fun hc => ?_) (fun hc => ?_)
    · replace h := h.1 hc
      refine k_iconst (v := (0 : Int32)) cx dX1_take_54 (by decide +kernel) ?_
      exact k_ret_Z (b := false) cx hr hl hQ dX1_take_55 rfl h
    · replace h := h.2 hc
      refine k_iload cx dX1_take_44 rfl ?_
      refine k_iload cx dX1_take_46 rfl ?_
      refine k_ishr cx dX1_take_48 ?_
      refine k_iconst (v := (1 : Int32)) cx dX1_take_49 (by decide +kernel) ?_
      refine k_iand cx dX1_take_50 ?_
      refine k_if_eq (tgt := 56) cx dX1_take_51 (by decide) (fun hc => ?_) (fun hc => ?_)
      · replace h := h.1 hc
        refine k_iload cx dX1_take_56 rfl ?_
        refine k_iconst (v := (1 : Int32)) cx dX1_take_58 (by decide +kernel) ?_
        refine k_iload cx dX1_take_59 rfl ?_
        refine k_ishl cx dX1_take_61 ?_
        refine k_ior cx dX1_take_62 ?_
        refine k_istore cx dX1_take_63 (by decide) ?_
        refine k_aload_n cx dX1_take_65 rfl rfl ?_
        refine k_get (o := some (p1 + 3)) (v := .ref (p1 + 3)) cx fl_X1_46 (ob_RQ h_p1) rfl rfl dX1_take_66 ?_
        refine k_iload cx dX1_take_69 rfl ?_
        refine k_iload cx dX1_take_71 rfl ?_
        obtain ⟨hi, h⟩ := h
        refine k_iast cx (ar_RQ h_p1 3 (by decide) (by decide)) hi dX1_take_73 ?_
        refine k_iinc (v := (x5 + (-1 : Int32))) cx dX1_take_74 rfl rfl (by decide) ?_
        refine k_goto (tgt := 13) cx dX1_take_77 (by decide) ?_
        exact k_weak h (lsLe.keep (lsLe.keep (lsLe.keep (lsLe.keep (lsLe.keep (lsLe.keep (lsLe.drop lsLe.nil)))))))
      · replace h := h.2 hc
        refine k_iconst (v := (0 : Int32)) cx dX1_take_54 (by decide +kernel) ?_
        exact k_ret_Z (b := false) cx hr hl hQ dX1_take_55 rfl h
set_option maxHeartbeats 2000000 in
theorem b_X1_take_e {p0 : Nat} {p1 : Nat} (h_p0 : isCho p0) (h_p1 : isReq p1) {g : GE} {f : FE} {q : Bool → Mm → Prop} (cx : Cx g f cX1_take 7 RX1 0 0 0 0) (hr : (f_M f).sig.returnType = (some .boolean)) (hl : (f_M f).locks = false) (hQ : f_Q f = MQ (f_b f) (QW g (qZ q)) (f_a f) (f_s f) 0 0 (fun q => g.2.2.2.1 ≤ q))  {x2 : Int32} {μ : Mm} (h : F_X1_take_e p0 p1 (KK_X1_take_13 g f p0 p1) q x2 μ) : KW g f 7 0 0 0 [some (.ref p0), some (.ref p1), some (.int x2), none, none, none, none] [] μ := by
  unfold F_X1_take_e at h
  refine k_iload_n cx dX1_take_0 rfl rfl ?_
  refine k_istore_n cx dX1_take_1 rfl (by decide) ?_
  refine k_iconst (v := (0 : Int32)) cx dX1_take_2 (by decide +kernel) ?_
  refine k_istore cx dX1_take_3 (by decide) ?_
  refine k_aload_n cx dX1_take_5 rfl rfl ?_
  refine k_get (o := none) (v := .int (μ p1 10)) cx fl_X1_23 (ob_RQ h_p1) rfl rfl dX1_take_6 ?_
  refine k_iconst (v := (1 : Int32)) cx dX1_take_9 (by decide +kernel) ?_
  refine k_isub cx dX1_take_10 ?_
  refine k_istore cx dX1_take_11 (by decide) ?_
  exact k_weak h (lsLe.keep (lsLe.keep (lsLe.drop (lsLe.keep (lsLe.keep (lsLe.keep (lsLe.keep lsLe.nil)))))))
theorem m_X1_take {g : GE} {l : Launch} {μ : Mm} {q : Bool → Mm → Prop} {p0 : Nat} {p1 : Nat} {x2 : Int32} (h_p0 : isCho p0) (h_p1 : isReq p1) (h : Wp_X1_take p0 p1 x2 μ q) : MW g l yX1_take cX1_take 7 (some .boolean) 0 0 [.ref p0, .ref p1, .int x2] μ (qZ q) := by
  refine met_of (by decide) (Nat.le_of_ble_eq_true rfl) (by intro v hv; simp only [List.mem_cons, List.not_mem_nil, or_false] at hv; rcases hv with rfl | rfl | rfl <;> rfl) ?_
  intro f hfl cx hr hl hQ
  exact b_X1_take_e h_p0 h_p1 cx hr hl hQ (h (KK_X1_take_13 g f p0 p1) (fun _ _ _ _ h => b_X1_take_13 h_p0 h_p1 cx hr hl hQ h))
theorem dJ6_bitCount_0f7a4_0 : decode cJ6_bitCount_0f7a4 0 = .ok (.iload_n 0, 1) := by decide +kernel
theorem dJ6_bitCount_0f7a4_1 : decode cJ6_bitCount_0f7a4 1 = .ok (.iload_n 0, 1) := by decide +kernel
theorem dJ6_bitCount_0f7a4_2 : decode cJ6_bitCount_0f7a4 2 = .ok (.iconst 1, 1) := by decide +kernel
theorem dJ6_bitCount_0f7a4_3 : decode cJ6_bitCount_0f7a4 3 = .ok (.iushr, 1) := by decide +kernel
theorem dJ6_bitCount_0f7a4_4 : decode cJ6_bitCount_0f7a4 4 = .ok (.ldc_w 265, 3) := by decide +kernel
theorem dJ6_bitCount_0f7a4_7 : decode cJ6_bitCount_0f7a4 7 = .ok (.iand, 1) := by decide +kernel
theorem dJ6_bitCount_0f7a4_8 : decode cJ6_bitCount_0f7a4 8 = .ok (.isub, 1) := by decide +kernel
theorem dJ6_bitCount_0f7a4_9 : decode cJ6_bitCount_0f7a4 9 = .ok (.istore_n 0, 1) := by decide +kernel
theorem dJ6_bitCount_0f7a4_10 : decode cJ6_bitCount_0f7a4 10 = .ok (.iload_n 0, 1) := by decide +kernel
theorem dJ6_bitCount_0f7a4_11 : decode cJ6_bitCount_0f7a4 11 = .ok (.ldc_w 266, 3) := by decide +kernel
theorem dJ6_bitCount_0f7a4_14 : decode cJ6_bitCount_0f7a4 14 = .ok (.iand, 1) := by decide +kernel
theorem dJ6_bitCount_0f7a4_15 : decode cJ6_bitCount_0f7a4 15 = .ok (.iload_n 0, 1) := by decide +kernel
theorem dJ6_bitCount_0f7a4_16 : decode cJ6_bitCount_0f7a4 16 = .ok (.iconst 2, 1) := by decide +kernel
theorem dJ6_bitCount_0f7a4_17 : decode cJ6_bitCount_0f7a4 17 = .ok (.iushr, 1) := by decide +kernel
theorem dJ6_bitCount_0f7a4_18 : decode cJ6_bitCount_0f7a4 18 = .ok (.ldc_w 266, 3) := by decide +kernel
theorem dJ6_bitCount_0f7a4_21 : decode cJ6_bitCount_0f7a4 21 = .ok (.iand, 1) := by decide +kernel
theorem dJ6_bitCount_0f7a4_22 : decode cJ6_bitCount_0f7a4 22 = .ok (.iadd, 1) := by decide +kernel
theorem dJ6_bitCount_0f7a4_23 : decode cJ6_bitCount_0f7a4 23 = .ok (.istore_n 0, 1) := by decide +kernel
theorem dJ6_bitCount_0f7a4_24 : decode cJ6_bitCount_0f7a4 24 = .ok (.iload_n 0, 1) := by decide +kernel
theorem dJ6_bitCount_0f7a4_25 : decode cJ6_bitCount_0f7a4 25 = .ok (.iload_n 0, 1) := by decide +kernel
theorem dJ6_bitCount_0f7a4_26 : decode cJ6_bitCount_0f7a4 26 = .ok (.iconst 4, 1) := by decide +kernel
theorem dJ6_bitCount_0f7a4_27 : decode cJ6_bitCount_0f7a4 27 = .ok (.iushr, 1) := by decide +kernel
theorem dJ6_bitCount_0f7a4_28 : decode cJ6_bitCount_0f7a4 28 = .ok (.iadd, 1) := by decide +kernel
theorem dJ6_bitCount_0f7a4_29 : decode cJ6_bitCount_0f7a4 29 = .ok (.ldc_w 267, 3) := by decide +kernel
theorem dJ6_bitCount_0f7a4_32 : decode cJ6_bitCount_0f7a4 32 = .ok (.iand, 1) := by decide +kernel
theorem dJ6_bitCount_0f7a4_33 : decode cJ6_bitCount_0f7a4 33 = .ok (.istore_n 0, 1) := by decide +kernel
theorem dJ6_bitCount_0f7a4_34 : decode cJ6_bitCount_0f7a4 34 = .ok (.iload_n 0, 1) := by decide +kernel
theorem dJ6_bitCount_0f7a4_35 : decode cJ6_bitCount_0f7a4 35 = .ok (.iload_n 0, 1) := by decide +kernel
theorem dJ6_bitCount_0f7a4_36 : decode cJ6_bitCount_0f7a4 36 = .ok (.bipush 8, 2) := by decide +kernel
theorem dJ6_bitCount_0f7a4_38 : decode cJ6_bitCount_0f7a4 38 = .ok (.iushr, 1) := by decide +kernel
theorem dJ6_bitCount_0f7a4_39 : decode cJ6_bitCount_0f7a4 39 = .ok (.iadd, 1) := by decide +kernel
theorem dJ6_bitCount_0f7a4_40 : decode cJ6_bitCount_0f7a4 40 = .ok (.istore_n 0, 1) := by decide +kernel
theorem dJ6_bitCount_0f7a4_41 : decode cJ6_bitCount_0f7a4 41 = .ok (.iload_n 0, 1) := by decide +kernel
theorem dJ6_bitCount_0f7a4_42 : decode cJ6_bitCount_0f7a4 42 = .ok (.iload_n 0, 1) := by decide +kernel
theorem dJ6_bitCount_0f7a4_43 : decode cJ6_bitCount_0f7a4 43 = .ok (.bipush 16, 2) := by decide +kernel
theorem dJ6_bitCount_0f7a4_45 : decode cJ6_bitCount_0f7a4 45 = .ok (.iushr, 1) := by decide +kernel
theorem dJ6_bitCount_0f7a4_46 : decode cJ6_bitCount_0f7a4 46 = .ok (.iadd, 1) := by decide +kernel
theorem dJ6_bitCount_0f7a4_47 : decode cJ6_bitCount_0f7a4 47 = .ok (.istore_n 0, 1) := by decide +kernel
theorem dJ6_bitCount_0f7a4_48 : decode cJ6_bitCount_0f7a4 48 = .ok (.iload_n 0, 1) := by decide +kernel
theorem dJ6_bitCount_0f7a4_49 : decode cJ6_bitCount_0f7a4 49 = .ok (.bipush 63, 2) := by decide +kernel
theorem dJ6_bitCount_0f7a4_51 : decode cJ6_bitCount_0f7a4 51 = .ok (.iand, 1) := by decide +kernel
theorem dJ6_bitCount_0f7a4_52 : decode cJ6_bitCount_0f7a4 52 = .ok (.ireturn, 1) := by decide +kernel
def F_J6_bitCount_0f7a4_e   (q : Int32 → Mm → Prop) (x0 : Int32) (μ : Mm) : Prop :=
  q ((((((((x0 - ((x0.toUInt32 >>> (Int32.toUInt32 (1 : Int32) &&& Int32.toUInt32 31)).toInt32 &&& (1431655765 : Int32))) &&& (858993459 : Int32)) + (((x0 - ((x0.toUInt32 >>> (Int32.toUInt32 (1 : Int32) &&& Int32.toUInt32 31)).toInt32 &&& (1431655765 : Int32))).toUInt32 >>> (Int32.toUInt32 (2 : Int32) &&& Int32.toUInt32 31)).toInt32 &&& (858993459 : Int32))) + ((((x0 - ((x0.toUInt32 >>> (Int32.toUInt32 (1 : Int32) &&& Int32.toUInt32 31)).toInt32 &&& (1431655765 : Int32))) &&& (858993459 : Int32)) + (((x0 - ((x0.toUInt32 >>> (Int32.toUInt32 (1 : Int32) &&& Int32.toUInt32 31)).toInt32 &&& (1431655765 : Int32))).toUInt32 >>> (Int32.toUInt32 (2 : Int32) &&& Int32.toUInt32 31)).toInt32 &&& (858993459 : Int32))).toUInt32 >>> (Int32.toUInt32 (4 : Int32) &&& Int32.toUInt32 31)).toInt32) &&& (252645135 : Int32)) + ((((((x0 - ((x0.toUInt32 >>> (Int32.toUInt32 (1 : Int32) &&& Int32.toUInt32 31)).toInt32 &&& (1431655765 : Int32))) &&& (858993459 : Int32)) + (((x0 - ((x0.toUInt32 >>> (Int32.toUInt32 (1 : Int32) &&& Int32.toUInt32 31)).toInt32 &&& (1431655765 : Int32))).toUInt32 >>> (Int32.toUInt32 (2 : Int32) &&& Int32.toUInt32 31)).toInt32 &&& (858993459 : Int32))) + ((((x0 - ((x0.toUInt32 >>> (Int32.toUInt32 (1 : Int32) &&& Int32.toUInt32 31)).toInt32 &&& (1431655765 : Int32))) &&& (858993459 : Int32)) + (((x0 - ((x0.toUInt32 >>> (Int32.toUInt32 (1 : Int32) &&& Int32.toUInt32 31)).toInt32 &&& (1431655765 : Int32))).toUInt32 >>> (Int32.toUInt32 (2 : Int32) &&& Int32.toUInt32 31)).toInt32 &&& (858993459 : Int32))).toUInt32 >>> (Int32.toUInt32 (4 : Int32) &&& Int32.toUInt32 31)).toInt32) &&& (252645135 : Int32)).toUInt32 >>> (Int32.toUInt32 (8 : Int32) &&& Int32.toUInt32 31)).toInt32) + (((((((x0 - ((x0.toUInt32 >>> (Int32.toUInt32 (1 : Int32) &&& Int32.toUInt32 31)).toInt32 &&& (1431655765 : Int32))) &&& (858993459 : Int32)) + (((x0 - ((x0.toUInt32 >>> (Int32.toUInt32 (1 : Int32) &&& Int32.toUInt32 31)).toInt32 &&& (1431655765 : Int32))).toUInt32 >>> (Int32.toUInt32 (2 : Int32) &&& Int32.toUInt32 31)).toInt32 &&& (858993459 : Int32))) + ((((x0 - ((x0.toUInt32 >>> (Int32.toUInt32 (1 : Int32) &&& Int32.toUInt32 31)).toInt32 &&& (1431655765 : Int32))) &&& (858993459 : Int32)) + (((x0 - ((x0.toUInt32 >>> (Int32.toUInt32 (1 : Int32) &&& Int32.toUInt32 31)).toInt32 &&& (1431655765 : Int32))).toUInt32 >>> (Int32.toUInt32 (2 : Int32) &&& Int32.toUInt32 31)).toInt32 &&& (858993459 : Int32))).toUInt32 >>> (Int32.toUInt32 (4 : Int32) &&& Int32.toUInt32 31)).toInt32) &&& (252645135 : Int32)) + ((((((x0 - ((x0.toUInt32 >>> (Int32.toUInt32 (1 : Int32) &&& Int32.toUInt32 31)).toInt32 &&& (1431655765 : Int32))) &&& (858993459 : Int32)) + (((x0 - ((x0.toUInt32 >>> (Int32.toUInt32 (1 : Int32) &&& Int32.toUInt32 31)).toInt32 &&& (1431655765 : Int32))).toUInt32 >>> (Int32.toUInt32 (2 : Int32) &&& Int32.toUInt32 31)).toInt32 &&& (858993459 : Int32))) + ((((x0 - ((x0.toUInt32 >>> (Int32.toUInt32 (1 : Int32) &&& Int32.toUInt32 31)).toInt32 &&& (1431655765 : Int32))) &&& (858993459 : Int32)) + (((x0 - ((x0.toUInt32 >>> (Int32.toUInt32 (1 : Int32) &&& Int32.toUInt32 31)).toInt32 &&& (1431655765 : Int32))).toUInt32 >>> (Int32.toUInt32 (2 : Int32) &&& Int32.toUInt32 31)).toInt32 &&& (858993459 : Int32))).toUInt32 >>> (Int32.toUInt32 (4 : Int32) &&& Int32.toUInt32 31)).toInt32) &&& (252645135 : Int32)).toUInt32 >>> (Int32.toUInt32 (8 : Int32) &&& Int32.toUInt32 31)).toInt32).toUInt32 >>> (Int32.toUInt32 (16 : Int32) &&& Int32.toUInt32 31)).toInt32) &&& (63 : Int32)) μ
def Wp_J6_bitCount_0f7a4  (x0 : Int32) (μ : Mm) (q : Int32 → Mm → Prop) : Prop := F_J6_bitCount_0f7a4_e   q x0 μ
set_option maxHeartbeats 2000000 in
theorem b_J6_bitCount_0f7a4_e  {g : GE} {f : FE} {q : Int32 → Mm → Prop} (cx : Cx g f cJ6_bitCount_0f7a4 1 RJ6 0 0 0 0) (hr : (f_M f).sig.returnType = (some .int)) (hl : (f_M f).locks = false) (hQ : f_Q f = MQ (f_b f) (QW g (qI q)) (f_a f) (f_s f) 0 0 (fun q => g.2.2.2.1 ≤ q))  {x0 : Int32} {μ : Mm} (h : F_J6_bitCount_0f7a4_e   q x0 μ) : KW g f 1 0 0 0 [some (.int x0)] [] μ := by
  unfold F_J6_bitCount_0f7a4_e at h
  refine k_iload_n cx dJ6_bitCount_0f7a4_0 rfl rfl ?_
  refine k_iload_n cx dJ6_bitCount_0f7a4_1 rfl rfl ?_
  refine k_iconst (v := (1 : Int32)) cx dJ6_bitCount_0f7a4_2 (by decide +kernel) ?_
  refine k_iushr cx dJ6_bitCount_0f7a4_3 rfl ?_
  refine k_ldc_w (v := (1431655765 : Int32)) cx kc_J6_265 dJ6_bitCount_0f7a4_4 ?_
  refine k_iand cx dJ6_bitCount_0f7a4_7 ?_
  refine k_isub cx dJ6_bitCount_0f7a4_8 ?_
  refine k_istore_n cx dJ6_bitCount_0f7a4_9 rfl (by decide) ?_
  refine k_iload_n cx dJ6_bitCount_0f7a4_10 rfl rfl ?_
  refine k_ldc_w (v := (858993459 : Int32)) cx kc_J6_266 dJ6_bitCount_0f7a4_11 ?_
  refine k_iand cx dJ6_bitCount_0f7a4_14 ?_
  refine k_iload_n cx dJ6_bitCount_0f7a4_15 rfl rfl ?_
  refine k_iconst (v := (2 : Int32)) cx dJ6_bitCount_0f7a4_16 (by decide +kernel) ?_
  refine k_iushr cx dJ6_bitCount_0f7a4_17 rfl ?_
  refine k_ldc_w (v := (858993459 : Int32)) cx kc_J6_266 dJ6_bitCount_0f7a4_18 ?_
  refine k_iand cx dJ6_bitCount_0f7a4_21 ?_
  refine k_iadd cx dJ6_bitCount_0f7a4_22 ?_
  refine k_istore_n cx dJ6_bitCount_0f7a4_23 rfl (by decide) ?_
  refine k_iload_n cx dJ6_bitCount_0f7a4_24 rfl rfl ?_
  refine k_iload_n cx dJ6_bitCount_0f7a4_25 rfl rfl ?_
  refine k_iconst (v := (4 : Int32)) cx dJ6_bitCount_0f7a4_26 (by decide +kernel) ?_
  refine k_iushr cx dJ6_bitCount_0f7a4_27 rfl ?_
  refine k_iadd cx dJ6_bitCount_0f7a4_28 ?_
  refine k_ldc_w (v := (252645135 : Int32)) cx kc_J6_267 dJ6_bitCount_0f7a4_29 ?_
  refine k_iand cx dJ6_bitCount_0f7a4_32 ?_
  refine k_istore_n cx dJ6_bitCount_0f7a4_33 rfl (by decide) ?_
  refine k_iload_n cx dJ6_bitCount_0f7a4_34 rfl rfl ?_
  refine k_iload_n cx dJ6_bitCount_0f7a4_35 rfl rfl ?_
  refine k_bipush (v := (8 : Int32)) cx dJ6_bitCount_0f7a4_36 (by decide +kernel) ?_
  refine k_iushr cx dJ6_bitCount_0f7a4_38 rfl ?_
  refine k_iadd cx dJ6_bitCount_0f7a4_39 ?_
  refine k_istore_n cx dJ6_bitCount_0f7a4_40 rfl (by decide) ?_
  refine k_iload_n cx dJ6_bitCount_0f7a4_41 rfl rfl ?_
  refine k_iload_n cx dJ6_bitCount_0f7a4_42 rfl rfl ?_
  refine k_bipush (v := (16 : Int32)) cx dJ6_bitCount_0f7a4_43 (by decide +kernel) ?_
  refine k_iushr cx dJ6_bitCount_0f7a4_45 rfl ?_
  refine k_iadd cx dJ6_bitCount_0f7a4_46 ?_
  refine k_istore_n cx dJ6_bitCount_0f7a4_47 rfl (by decide) ?_
  refine k_iload_n cx dJ6_bitCount_0f7a4_48 rfl rfl ?_
  refine k_bipush (v := (63 : Int32)) cx dJ6_bitCount_0f7a4_49 (by decide +kernel) ?_
  refine k_iand cx dJ6_bitCount_0f7a4_51 ?_
  exact k_ret_I cx hr hl hQ dJ6_bitCount_0f7a4_52 h
theorem m_J6_bitCount_0f7a4 {g : GE} {l : Launch} {μ : Mm} {q : Int32 → Mm → Prop} {x0 : Int32}  (h : Wp_J6_bitCount_0f7a4  x0 μ q) : MW g l yJ6_bitCount_0f7a4 cJ6_bitCount_0f7a4 1 (some .int) 0 0 [.int x0] μ (qI q) := by
  refine met_of (by decide) (Nat.le_of_ble_eq_true rfl) (by intro v hv; simp only [List.mem_cons, List.not_mem_nil, or_false] at hv; subst hv; rfl) ?_
  intro f hfl cx hr hl hQ
  exact b_J6_bitCount_0f7a4_e  cx hr hl hQ (h  )
theorem dX2_beyond_0 : decode cX2_beyond 0 = .ok (.aload_n 0, 1) := by decide +kernel
theorem dX2_beyond_1 : decode cX2_beyond 1 = .ok (.getfield 18, 3) := by decide +kernel
theorem dX2_beyond_4 : decode cX2_beyond 4 = .ok (.iload_n 1, 1) := by decide +kernel
theorem dX2_beyond_5 : decode cX2_beyond 5 = .ok (.iaload, 1) := by decide +kernel
theorem dX2_beyond_6 : decode cX2_beyond 6 = .ok (.iload_n 2, 1) := by decide +kernel
theorem dX2_beyond_7 : decode cX2_beyond 7 = .ok (.if_icmp .ne 10, 3) := by decide +kernel
theorem dX2_beyond_10 : decode cX2_beyond 10 = .ok (.aload_n 0, 1) := by decide +kernel
theorem dX2_beyond_11 : decode cX2_beyond 11 = .ok (.getfield 21, 3) := by decide +kernel
theorem dX2_beyond_14 : decode cX2_beyond 14 = .ok (.iload_n 1, 1) := by decide +kernel
theorem dX2_beyond_15 : decode cX2_beyond 15 = .ok (.iaload, 1) := by decide +kernel
theorem dX2_beyond_16 : decode cX2_beyond 16 = .ok (.ireturn, 1) := by decide +kernel
theorem dX2_beyond_17 : decode cX2_beyond 17 = .ok (.aload_n 0, 1) := by decide +kernel
theorem dX2_beyond_18 : decode cX2_beyond 18 = .ok (.getfield 21, 3) := by decide +kernel
theorem dX2_beyond_21 : decode cX2_beyond 21 = .ok (.iload_n 1, 1) := by decide +kernel
theorem dX2_beyond_22 : decode cX2_beyond 22 = .ok (.iaload, 1) := by decide +kernel
theorem dX2_beyond_23 : decode cX2_beyond 23 = .ok (.iload_n 2, 1) := by decide +kernel
theorem dX2_beyond_24 : decode cX2_beyond 24 = .ok (.if_icmp .ne 12, 3) := by decide +kernel
theorem dX2_beyond_27 : decode cX2_beyond 27 = .ok (.aload_n 0, 1) := by decide +kernel
theorem dX2_beyond_28 : decode cX2_beyond 28 = .ok (.getfield 18, 3) := by decide +kernel
theorem dX2_beyond_31 : decode cX2_beyond 31 = .ok (.iload_n 1, 1) := by decide +kernel
theorem dX2_beyond_32 : decode cX2_beyond 32 = .ok (.iaload, 1) := by decide +kernel
theorem dX2_beyond_33 : decode cX2_beyond 33 = .ok (.goto 4, 3) := by decide +kernel
theorem dX2_beyond_36 : decode cX2_beyond 36 = .ok (.iconst (-1), 1) := by decide +kernel
theorem dX2_beyond_37 : decode cX2_beyond 37 = .ok (.ireturn, 1) := by decide +kernel
def F_X2_beyond_e   (q : Int32 → Mm → Prop) (x1 : Int32) (x2 : Int32) (μ : Mm) : Prop :=
  vp_in x1 9 ∧ ((¬ ((μ p_GR_linkStarts (x1).toNatClampNeg) = x2) → vp_in x1 9 ∧ ((¬ ((μ p_GR_linkEnds (x1).toNatClampNeg) = x2) → q (-1 : Int32) μ) ∧ ((μ p_GR_linkEnds (x1).toNatClampNeg) = x2 → vp_in x1 9 ∧ q (μ p_GR_linkStarts (x1).toNatClampNeg) μ))) ∧ ((μ p_GR_linkStarts (x1).toNatClampNeg) = x2 → vp_in x1 9 ∧ q (μ p_GR_linkEnds (x1).toNatClampNeg) μ))
def Wp_X2_beyond  (x1 : Int32) (x2 : Int32) (μ : Mm) (q : Int32 → Mm → Prop) : Prop := F_X2_beyond_e   q x1 x2 μ
set_option maxHeartbeats 2000000 in
theorem b_X2_beyond_e  {g : GE} {f : FE} {q : Int32 → Mm → Prop} (cx : Cx g f cX2_beyond 3 RX2 0 0 0 0) (hr : (f_M f).sig.returnType = (some .int)) (hl : (f_M f).locks = false) (hQ : f_Q f = MQ (f_b f) (QW g (qI q)) (f_a f) (f_s f) 0 0 (fun q => g.2.2.2.1 ≤ q))  {x1 : Int32} {x2 : Int32} {μ : Mm} (h : F_X2_beyond_e   q x1 x2 μ) : KW g f 3 0 0 0 [some (.ref p_GR), some (.int x1), some (.int x2)] [] μ := by
  unfold F_X2_beyond_e at h
  refine k_aload_n cx dX2_beyond_0 rfl rfl ?_
  refine k_get (o := some p_GR_linkStarts) (v := .ref p_GR_linkStarts) cx fl_X2_18 ob_GR rfl rfl dX2_beyond_1 ?_
  refine k_iload_n cx dX2_beyond_4 rfl rfl ?_
  obtain ⟨hi, h⟩ := h
  refine k_iald cx ar_GR_linkStarts hi dX2_beyond_5 ?_
  refine k_iload_n cx dX2_beyond_6 rfl rfl ?_
  refine k_icmp_ne (tgt := 17) cx dX2_beyond_7 (by decide) (fun hc => ?_) (fun hc => ?_)
  · replace h := h.1 hc
    refine k_aload_n cx dX2_beyond_17 rfl rfl ?_
    refine k_get (o := some p_GR_linkEnds) (v := .ref p_GR_linkEnds) cx fl_X2_21 ob_GR rfl rfl dX2_beyond_18 ?_
    refine k_iload_n cx dX2_beyond_21 rfl rfl ?_
    obtain ⟨hi, h⟩ := h
    refine k_iald cx ar_GR_linkEnds hi dX2_beyond_22 ?_
    refine k_iload_n cx dX2_beyond_23 rfl rfl ?_
    refine k_icmp_ne (tgt := 36) cx dX2_beyond_24 (by decide) (fun hc => ?_) (fun hc => ?_)
    · replace h := h.1 hc
      refine k_iconst (v := (-1 : Int32)) cx dX2_beyond_36 (by decide +kernel) ?_
      exact k_ret_I cx hr hl hQ dX2_beyond_37 h
    · replace h := h.2 hc
      refine k_aload_n cx dX2_beyond_27 rfl rfl ?_
      refine k_get (o := some p_GR_linkStarts) (v := .ref p_GR_linkStarts) cx fl_X2_18 ob_GR rfl rfl dX2_beyond_28 ?_
      refine k_iload_n cx dX2_beyond_31 rfl rfl ?_
      obtain ⟨hi, h⟩ := h
      refine k_iald cx ar_GR_linkStarts hi dX2_beyond_32 ?_
      refine k_goto (tgt := 37) cx dX2_beyond_33 (by decide) ?_
      exact k_ret_I cx hr hl hQ dX2_beyond_37 h
  · replace h := h.2 hc
    refine k_aload_n cx dX2_beyond_10 rfl rfl ?_
    refine k_get (o := some p_GR_linkEnds) (v := .ref p_GR_linkEnds) cx fl_X2_21 ob_GR rfl rfl dX2_beyond_11 ?_
    refine k_iload_n cx dX2_beyond_14 rfl rfl ?_
    obtain ⟨hi, h⟩ := h
    refine k_iald cx ar_GR_linkEnds hi dX2_beyond_15 ?_
    exact k_ret_I cx hr hl hQ dX2_beyond_16 h
theorem m_X2_beyond {g : GE} {l : Launch} {μ : Mm} {q : Int32 → Mm → Prop} {x1 : Int32} {x2 : Int32}  (h : Wp_X2_beyond  x1 x2 μ q) : MW g l yX2_beyond cX2_beyond 3 (some .int) 0 0 [.ref p_GR, .int x1, .int x2] μ (qI q) := by
  refine met_of (by decide) (Nat.le_of_ble_eq_true rfl) (by intro v hv; simp only [List.mem_cons, List.not_mem_nil, or_false] at hv; rcases hv with rfl | rfl | rfl <;> rfl) ?_
  intro f hfl cx hr hl hQ
  exact b_X2_beyond_e  cx hr hl hQ (h  )
theorem dX2_keepWay_0 : decode cX2_keepWay 0 = .ok (.iload_n 1, 1) := by decide +kernel
theorem dX2_keepWay_1 : decode cX2_keepWay 1 = .ok (.ifCond .lt 47, 3) := by decide +kernel
theorem dX2_keepWay_4 : decode cX2_keepWay 4 = .ok (.iload_n 1, 1) := by decide +kernel
theorem dX2_keepWay_5 : decode cX2_keepWay 5 = .ok (.aload_n 0, 1) := by decide +kernel
theorem dX2_keepWay_6 : decode cX2_keepWay 6 = .ok (.getfield 29, 3) := by decide +kernel
theorem dX2_keepWay_9 : decode cX2_keepWay 9 = .ok (.arraylength, 1) := by decide +kernel
theorem dX2_keepWay_10 : decode cX2_keepWay 10 = .ok (.if_icmp .ge 38, 3) := by decide +kernel
theorem dX2_keepWay_13 : decode cX2_keepWay 13 = .ok (.aload_n 0, 1) := by decide +kernel
theorem dX2_keepWay_14 : decode cX2_keepWay 14 = .ok (.getfield 29, 3) := by decide +kernel
theorem dX2_keepWay_17 : decode cX2_keepWay 17 = .ok (.iload_n 1, 1) := by decide +kernel
theorem dX2_keepWay_18 : decode cX2_keepWay 18 = .ok (.iaload, 1) := by decide +kernel
theorem dX2_keepWay_19 : decode cX2_keepWay 19 = .ok (.bipush 15, 2) := by decide +kernel
theorem dX2_keepWay_21 : decode cX2_keepWay 21 = .ok (.if_icmp .ge 27, 3) := by decide +kernel
theorem dX2_keepWay_24 : decode cX2_keepWay 24 = .ok (.aload_n 0, 1) := by decide +kernel
theorem dX2_keepWay_25 : decode cX2_keepWay 25 = .ok (.getfield 26, 3) := by decide +kernel
theorem dX2_keepWay_28 : decode cX2_keepWay 28 = .ok (.iload_n 1, 1) := by decide +kernel
theorem dX2_keepWay_29 : decode cX2_keepWay 29 = .ok (.aaload, 1) := by decide +kernel
theorem dX2_keepWay_30 : decode cX2_keepWay 30 = .ok (.aload_n 0, 1) := by decide +kernel
theorem dX2_keepWay_31 : decode cX2_keepWay 31 = .ok (.getfield 29, 3) := by decide +kernel
theorem dX2_keepWay_34 : decode cX2_keepWay 34 = .ok (.iload_n 1, 1) := by decide +kernel
theorem dX2_keepWay_35 : decode cX2_keepWay 35 = .ok (.iaload, 1) := by decide +kernel
theorem dX2_keepWay_36 : decode cX2_keepWay 36 = .ok (.iload_n 2, 1) := by decide +kernel
theorem dX2_keepWay_37 : decode cX2_keepWay 37 = .ok (.iastore, 1) := by decide +kernel
theorem dX2_keepWay_38 : decode cX2_keepWay 38 = .ok (.aload_n 0, 1) := by decide +kernel
theorem dX2_keepWay_39 : decode cX2_keepWay 39 = .ok (.getfield 29, 3) := by decide +kernel
theorem dX2_keepWay_42 : decode cX2_keepWay 42 = .ok (.iload_n 1, 1) := by decide +kernel
theorem dX2_keepWay_43 : decode cX2_keepWay 43 = .ok (.dup2, 1) := by decide +kernel
theorem dX2_keepWay_44 : decode cX2_keepWay 44 = .ok (.iaload, 1) := by decide +kernel
theorem dX2_keepWay_45 : decode cX2_keepWay 45 = .ok (.iconst 1, 1) := by decide +kernel
theorem dX2_keepWay_46 : decode cX2_keepWay 46 = .ok (.iadd, 1) := by decide +kernel
theorem dX2_keepWay_47 : decode cX2_keepWay 47 = .ok (.iastore, 1) := by decide +kernel
theorem dX2_keepWay_48 : decode cX2_keepWay 48 = .ok (.return_, 1) := by decide +kernel
def F_X2_keepWay_e   (q : Mm → Prop) (x1 : Int32) (x2 : Int32) (μ : Mm) : Prop :=
  ((x1 < 0 → q μ) ∧ (¬ (x1 < 0) → (((36 : Int32) ≤ x1 → q μ) ∧ (¬ ((36 : Int32) ≤ x1) → vp_in x1 36 ∧ (((15 : Int32) ≤ (μ p_GR_wayCounts (x1).toNatClampNeg) → q μ) ∧ (¬ ((15 : Int32) ≤ (μ p_GR_wayCounts (x1).toNatClampNeg)) → vp_in x1 36 ∧ vp_in x1 36 ∧ vp_in (μ p_GR_wayCounts (x1).toNatClampNeg) 15 ∧ vp_in x1 36 ∧ vp_in x1 36 ∧ q (up2 (up2 μ (p_WY + (x1).toNatClampNeg) ((μ p_GR_wayCounts (x1).toNatClampNeg)).toNatClampNeg x2) p_GR_wayCounts (x1).toNatClampNeg (((up2 μ (p_WY + (x1).toNatClampNeg) ((μ p_GR_wayCounts (x1).toNatClampNeg)).toNatClampNeg x2) p_GR_wayCounts (x1).toNatClampNeg) + (1 : Int32)))))))))
def Wp_X2_keepWay  (x1 : Int32) (x2 : Int32) (μ : Mm) (q : Mm → Prop) : Prop := F_X2_keepWay_e   q x1 x2 μ
set_option maxHeartbeats 2000000 in
theorem b_X2_keepWay_e  {g : GE} {f : FE} {q : Mm → Prop} (cx : Cx g f cX2_keepWay 3 RX2 0 0 0 0) (hr : (f_M f).sig.returnType = none) (hl : (f_M f).locks = false) (hQ : f_Q f = MQ (f_b f) (QW g (qV q)) (f_a f) (f_s f) 0 0 (fun q => g.2.2.2.1 ≤ q))  {x1 : Int32} {x2 : Int32} {μ : Mm} (h : F_X2_keepWay_e   q x1 x2 μ) : KW g f 3 0 0 0 [some (.ref p_GR), some (.int x1), some (.int x2)] [] μ := by
  unfold F_X2_keepWay_e at h
  refine k_iload_n cx dX2_keepWay_0 rfl rfl ?_
  refine k_if_lt (tgt := 48) cx dX2_keepWay_1 (by decide) (fun hc => ?_) (fun hc => ?_)
  · replace h := h.1 hc
    exact k_ret_V cx hr hl hQ dX2_keepWay_48 h
  · replace h := h.2 hc
    refine k_iload_n cx dX2_keepWay_4 rfl rfl ?_
    refine k_aload_n cx dX2_keepWay_5 rfl rfl ?_
    refine k_get (o := some p_GR_wayCounts) (v := .ref p_GR_wayCounts) cx fl_X2_29 ob_GR rfl rfl dX2_keepWay_6 ?_
    refine k_alen (v := (36 : Int32)) (t := 0) cx ar_GR_wayCounts (by decide) rfl (by decide +kernel) dX2_keepWay_9 ?_
    refine k_icmp_ge (tgt := 48) cx dX2_keepWay_10 (by decide) (fun hc => ?_) (fun hc => ?_)
    · replace h := h.1 hc
      exact k_ret_V cx hr hl hQ dX2_keepWay_48 h
    · replace h := h.2 hc
      refine k_aload_n cx dX2_keepWay_13 rfl rfl ?_
      refine k_get (o := some p_GR_wayCounts) (v := .ref p_GR_wayCounts) cx fl_X2_29 ob_GR rfl rfl dX2_keepWay_14 ?_
      refine k_iload_n cx dX2_keepWay_17 rfl rfl ?_
      obtain ⟨hi, h⟩ := h
      refine k_iald cx ar_GR_wayCounts hi dX2_keepWay_18 ?_
      refine k_bipush (v := (15 : Int32)) cx dX2_keepWay_19 (by decide +kernel) ?_
      refine k_icmp_ge (tgt := 48) cx dX2_keepWay_21 (by decide) (fun hc => ?_) (fun hc => ?_)
      · replace h := h.1 hc
        exact k_ret_V cx hr hl hQ dX2_keepWay_48 h
      · replace h := h.2 hc
        refine k_aload_n cx dX2_keepWay_24 rfl rfl ?_
        refine k_get (o := some p_GR_ways) (v := .ref p_GR_ways) cx fl_X2_26 ob_GR rfl rfl dX2_keepWay_25 ?_
        refine k_iload_n cx dX2_keepWay_28 rfl rfl ?_
        obtain ⟨hi1, h⟩ := h
        refine k_aald_GR_ways cx hi1 dX2_keepWay_29 ?_
        refine k_aload_n cx dX2_keepWay_30 rfl rfl ?_
        refine k_get (o := some p_GR_wayCounts) (v := .ref p_GR_wayCounts) cx fl_X2_29 ob_GR rfl rfl dX2_keepWay_31 ?_
        refine k_iload_n cx dX2_keepWay_34 rfl rfl ?_
        obtain ⟨hi, h⟩ := h
        refine k_iald cx ar_GR_wayCounts hi dX2_keepWay_35 ?_
        refine k_iload_n cx dX2_keepWay_36 rfl rfl ?_
        obtain ⟨hi, h⟩ := h
        refine k_iast cx (ar_WY hi1) hi dX2_keepWay_37 ?_
        refine k_aload_n cx dX2_keepWay_38 rfl rfl ?_
        refine k_get (o := some p_GR_wayCounts) (v := .ref p_GR_wayCounts) cx fl_X2_29 ob_GR rfl rfl dX2_keepWay_39 ?_
        refine k_iload_n cx dX2_keepWay_42 rfl rfl ?_
        refine k_dup2 cx dX2_keepWay_43 rfl rfl ?_
        obtain ⟨hi, h⟩ := h
        refine k_iald cx ar_GR_wayCounts hi dX2_keepWay_44 ?_
        refine k_iconst (v := (1 : Int32)) cx dX2_keepWay_45 (by decide +kernel) ?_
        refine k_iadd cx dX2_keepWay_46 ?_
        obtain ⟨hi, h⟩ := h
        refine k_iast cx ar_GR_wayCounts hi dX2_keepWay_47 ?_
        exact k_ret_V cx hr hl hQ dX2_keepWay_48 h
theorem m_X2_keepWay {g : GE} {l : Launch} {μ : Mm} {q : Mm → Prop} {x1 : Int32} {x2 : Int32}  (h : Wp_X2_keepWay  x1 x2 μ q) : MW g l yX2_keepWay cX2_keepWay 3 none 0 0 [.ref p_GR, .int x1, .int x2] μ (qV q) := by
  refine met_of (by decide) (Nat.le_of_ble_eq_true rfl) (by intro v hv; simp only [List.mem_cons, List.not_mem_nil, or_false] at hv; rcases hv with rfl | rfl | rfl <;> rfl) ?_
  intro f hfl cx hr hl hQ
  exact b_X2_keepWay_e  cx hr hl hQ (h  )
theorem dX2_pairOf_0 : decode cX2_pairOf 0 = .ok (.iload_n 0, 1) := by decide +kernel
theorem dX2_pairOf_1 : decode cX2_pairOf 1 = .ok (.bipush 6, 2) := by decide +kernel
theorem dX2_pairOf_3 : decode cX2_pairOf 3 = .ok (.imul, 1) := by decide +kernel
theorem dX2_pairOf_4 : decode cX2_pairOf 4 = .ok (.iload_n 1, 1) := by decide +kernel
theorem dX2_pairOf_5 : decode cX2_pairOf 5 = .ok (.iadd, 1) := by decide +kernel
theorem dX2_pairOf_6 : decode cX2_pairOf 6 = .ok (.ireturn, 1) := by decide +kernel
def F_X2_pairOf_e   (q : Int32 → Mm → Prop) (x0 : Int32) (x1 : Int32) (μ : Mm) : Prop :=
  q ((x0 * (6 : Int32)) + x1) μ
def Wp_X2_pairOf  (x0 : Int32) (x1 : Int32) (μ : Mm) (q : Int32 → Mm → Prop) : Prop := F_X2_pairOf_e   q x0 x1 μ
set_option maxHeartbeats 2000000 in
theorem b_X2_pairOf_e  {g : GE} {f : FE} {q : Int32 → Mm → Prop} (cx : Cx g f cX2_pairOf 2 RX2 0 0 0 0) (hr : (f_M f).sig.returnType = (some .int)) (hl : (f_M f).locks = false) (hQ : f_Q f = MQ (f_b f) (QW g (qI q)) (f_a f) (f_s f) 0 0 (fun q => g.2.2.2.1 ≤ q))  {x0 : Int32} {x1 : Int32} {μ : Mm} (h : F_X2_pairOf_e   q x0 x1 μ) : KW g f 2 0 0 0 [some (.int x0), some (.int x1)] [] μ := by
  unfold F_X2_pairOf_e at h
  refine k_iload_n cx dX2_pairOf_0 rfl rfl ?_
  refine k_bipush (v := (6 : Int32)) cx dX2_pairOf_1 (by decide +kernel) ?_
  refine k_imul cx dX2_pairOf_3 ?_
  refine k_iload_n cx dX2_pairOf_4 rfl rfl ?_
  refine k_iadd cx dX2_pairOf_5 ?_
  exact k_ret_I cx hr hl hQ dX2_pairOf_6 h
theorem m_X2_pairOf {g : GE} {l : Launch} {μ : Mm} {q : Int32 → Mm → Prop} {x0 : Int32} {x1 : Int32}  (h : Wp_X2_pairOf  x0 x1 μ q) : MW g l yX2_pairOf cX2_pairOf 2 (some .int) 0 0 [.int x0, .int x1] μ (qI q) := by
  refine met_of (by decide) (Nat.le_of_ble_eq_true rfl) (by intro v hv; simp only [List.mem_cons, List.not_mem_nil, or_false] at hv; rcases hv with rfl | rfl <;> rfl) ?_
  intro f hfl cx hr hl hQ
  exact b_X2_pairOf_e  cx hr hl hQ (h  )
