theorem dL_draw_0 : decode cL_draw 0 = .ok (.iload_n 1, 1) := by decide +kernel
theorem dL_draw_1 : decode cL_draw 1 = .ok (.aload_n 0, 1) := by decide +kernel
theorem dL_draw_2 : decode cL_draw 2 = .ok (.arraylength, 1) := by decide +kernel
theorem dL_draw_3 : decode cL_draw 3 = .ok (.if_icmp .ge 9, 3) := by decide +kernel
theorem dL_draw_6 : decode cL_draw 6 = .ok (.aload_n 0, 1) := by decide +kernel
theorem dL_draw_7 : decode cL_draw 7 = .ok (.iload_n 1, 1) := by decide +kernel
theorem dL_draw_8 : decode cL_draw 8 = .ok (.iaload, 1) := by decide +kernel
theorem dL_draw_9 : decode cL_draw 9 = .ok (.goto 14, 3) := by decide +kernel
theorem dL_draw_12 : decode cL_draw 12 = .ok (.ldc 7, 2) := by decide +kernel
theorem dL_draw_14 : decode cL_draw 14 = .ok (.iload_n 1, 1) := by decide +kernel
theorem dL_draw_15 : decode cL_draw 15 = .ok (.sipush 977, 3) := by decide +kernel
theorem dL_draw_18 : decode cL_draw 18 = .ok (.iadd, 1) := by decide +kernel
theorem dL_draw_19 : decode cL_draw 19 = .ok (.imul, 1) := by decide +kernel
theorem dL_draw_20 : decode cL_draw 20 = .ok (.ldc 8, 2) := by decide +kernel
theorem dL_draw_22 : decode cL_draw 22 = .ok (.iadd, 1) := by decide +kernel
theorem dL_draw_23 : decode cL_draw 23 = .ok (.istore_n 3, 1) := by decide +kernel
theorem dL_draw_24 : decode cL_draw 24 = .ok (.iload_n 3, 1) := by decide +kernel
theorem dL_draw_25 : decode cL_draw 25 = .ok (.ldc 9, 2) := by decide +kernel
theorem dL_draw_27 : decode cL_draw 27 = .ok (.iand, 1) := by decide +kernel
theorem dL_draw_28 : decode cL_draw 28 = .ok (.iload_n 2, 1) := by decide +kernel
theorem dL_draw_29 : decode cL_draw 29 = .ok (.irem, 1) := by decide +kernel
theorem dL_draw_30 : decode cL_draw 30 = .ok (.ireturn, 1) := by decide +kernel
def F_L_draw_e (z : ScT)  (q : Int32 → Mm → Prop) (x1 : Int32) (x2 : Int32) (μ : Mm) : Prop :=
  (((Int32.ofNat z.2.1) ≤ x1 → (∀ v3_1 : Int32, v3_1 = (((936110033 : Int32) * (x1 + (977 : Int32))) + (799912399 : Int32)) → ¬ (x2 = 0) ∧ q (irm (v3_1 &&& (2147483647 : Int32)) x2) μ)) ∧ (¬ ((Int32.ofNat z.2.1) ≤ x1) → vp_in x1 z.2.1 ∧ (∀ v3_2 : Int32, v3_2 = (z.2.2 (x1).toNatClampNeg) → ¬ (x2 = 0) ∧ q (irm (v3_2 &&& (2147483647 : Int32)) x2) μ)))
def Wp_L_draw (z : ScT) (x1 : Int32) (x2 : Int32) (μ : Mm) (q : Int32 → Mm → Prop) : Prop := F_L_draw_e z  q x1 x2 μ
set_option maxHeartbeats 4000000 in
theorem b_L_draw_e {g : GE} {f : FE} {z : ScT} {q : Int32 → Mm → Prop} (hcx : (∀ n, n ≤ 0 → Cx g f cL_draw 4 RL 0 0 n (6 * n))) (bx : BXl g z f) (hr : (f_M f).sig.returnType = (some .int)) (rx : RXl g f 0 (qI q)) {x1 : Int32} {x2 : Int32} {μ : Mm} (h : F_L_draw_e z  q x1 x2 μ) : KW g f 4 0 (6 * 0) 0 [some (.ref p_SCR), some (.int x1), some (.int x2), none] [] μ := by
  unfold F_L_draw_e at h
  have cx := hcx 0 (by omega)
  refine k_iload_n cx dL_draw_0 rfl rfl ?_
  refine k_aload_n cx dL_draw_1 rfl rfl ?_
  refine k_slen cx bx dL_draw_2 ?_
  refine k_icmp_ge (tgt := 12) cx dL_draw_3 (by decide) (fun hc => ?_) (fun hc => ?_)
  · replace h := h.1 hc
    refine k_ldc (v := (936110033 : Int32)) cx kc_L_7 dL_draw_12 ?_
    refine k_iload_n cx dL_draw_14 rfl rfl ?_
    refine k_sipush (v := (977 : Int32)) cx dL_draw_15 (by decide +kernel) ?_
    refine k_iadd cx dL_draw_18 ?_
    refine k_imul cx dL_draw_19 ?_
    refine k_ldc (v := (799912399 : Int32)) cx kc_L_8 dL_draw_20 ?_
    refine k_iadd cx dL_draw_22 ?_
    refine k_istore_n cx dL_draw_23 rfl (by decide) ?_
    generalize ev3_1 : (((936110033 : Int32) * (x1 + (977 : Int32))) + (799912399 : Int32)) = v3_1
    replace h := h v3_1 ev3_1.symm
    refine k_iload_n cx dL_draw_24 rfl rfl ?_
    refine k_ldc (v := (2147483647 : Int32)) cx kc_L_9 dL_draw_25 ?_
    refine k_iand cx dL_draw_27 ?_
    refine k_iload_n cx dL_draw_28 rfl rfl ?_
    obtain ⟨hz, h⟩ := h
    refine k_rem cx dL_draw_29 hz ?_
    exact k_bret_I cx hr rx (by omega) dL_draw_30 h
  · replace h := h.2 hc
    refine k_aload_n cx dL_draw_6 rfl rfl ?_
    refine k_iload_n cx dL_draw_7 rfl rfl ?_
    obtain ⟨hi, h⟩ := h
    refine k_sld cx bx hi dL_draw_8 ?_
    refine k_goto (tgt := 23) cx dL_draw_9 (by decide) ?_
    refine k_istore_n cx dL_draw_23 rfl (by decide) ?_
    generalize ev3_2 : (z.2.2 (x1).toNatClampNeg) = v3_2
    replace h := h v3_2 ev3_2.symm
    refine k_iload_n cx dL_draw_24 rfl rfl ?_
    refine k_ldc (v := (2147483647 : Int32)) cx kc_L_9 dL_draw_25 ?_
    refine k_iand cx dL_draw_27 ?_
    refine k_iload_n cx dL_draw_28 rfl rfl ?_
    obtain ⟨hz, h⟩ := h
    refine k_rem cx dL_draw_29 hz ?_
    exact k_bret_I cx hr rx (by omega) dL_draw_30 h
theorem m_L_draw {g : GE} {z : ScT} {l : Launch} (hst : l.stackTraces = false) {μ : Mm} {q : Int32 → Mm → Prop} {x1 : Int32} {x2 : Int32} (h : Wp_L_draw z x1 x2 μ q) : MBl g z l yL_draw cL_draw 4 (some .int) 0 0 0 [.ref p_SCR, .int x1, .int x2] μ (qI q) := by
  refine bmet_of hst (by decide) (Nat.le_of_ble_eq_true rfl) (by intro v hv; simp only [List.mem_cons, List.not_mem_nil, or_false] at hv; rcases hv with rfl | rfl | rfl <;> rfl) ?_
  intro f hfl hcx bx hr rx
  exact b_L_draw_e hcx bx hr rx (h  )

theorem dL_bits_0 : decode cL_bits 0 = .ok (.iconst 0, 1) := by decide +kernel
theorem dL_bits_1 : decode cL_bits 1 = .ok (.istore_n 1, 1) := by decide +kernel
theorem dL_bits_2 : decode cL_bits 2 = .ok (.iconst 0, 1) := by decide +kernel
theorem dL_bits_3 : decode cL_bits 3 = .ok (.istore_n 2, 1) := by decide +kernel
theorem dL_bits_4 : decode cL_bits 4 = .ok (.iload_n 2, 1) := by decide +kernel
theorem dL_bits_5 : decode cL_bits 5 = .ok (.bipush 9, 2) := by decide +kernel
theorem dL_bits_7 : decode cL_bits 7 = .ok (.if_icmp .ge 17, 3) := by decide +kernel
theorem dL_bits_10 : decode cL_bits 10 = .ok (.iload_n 1, 1) := by decide +kernel
theorem dL_bits_11 : decode cL_bits 11 = .ok (.iload_n 0, 1) := by decide +kernel
theorem dL_bits_12 : decode cL_bits 12 = .ok (.iload_n 2, 1) := by decide +kernel
theorem dL_bits_13 : decode cL_bits 13 = .ok (.ishr, 1) := by decide +kernel
theorem dL_bits_14 : decode cL_bits 14 = .ok (.iconst 1, 1) := by decide +kernel
theorem dL_bits_15 : decode cL_bits 15 = .ok (.iand, 1) := by decide +kernel
theorem dL_bits_16 : decode cL_bits 16 = .ok (.iadd, 1) := by decide +kernel
theorem dL_bits_17 : decode cL_bits 17 = .ok (.istore_n 1, 1) := by decide +kernel
theorem dL_bits_18 : decode cL_bits 18 = .ok (.iinc 2 1, 3) := by decide +kernel
theorem dL_bits_21 : decode cL_bits 21 = .ok (.goto (-17), 3) := by decide +kernel
theorem dL_bits_24 : decode cL_bits 24 = .ok (.iload_n 1, 1) := by decide +kernel
theorem dL_bits_25 : decode cL_bits 25 = .ok (.ireturn, 1) := by decide +kernel
def F_L_bits_4 (z : ScT) (K4 : Int32 → Int32 → Int32 → Mm → Prop) (q : Int32 → Mm → Prop) (x0 : Int32) (x1 : Int32) (x2 : Int32) (μ : Mm) : Prop :=
  (((9 : Int32) ≤ x2 → q x1 μ) ∧ (¬ ((9 : Int32) ≤ x2) → (∀ v1_1 : Int32, v1_1 = (x1 + ((x0 >>> (x2 &&& 31)) &&& (1 : Int32))) → K4 x0 v1_1 (x2 + (1 : Int32)) μ)))
def F_L_bits_e (z : ScT) (K4 : Int32 → Int32 → Int32 → Mm → Prop) (q : Int32 → Mm → Prop) (x0 : Int32) (μ : Mm) : Prop :=
  K4 x0 (0 : Int32) (0 : Int32) μ
def Wp_L_bits (z : ScT) (x0 : Int32) (μ : Mm) (q : Int32 → Mm → Prop) : Prop := ∀ (K4 : Int32 → Int32 → Int32 → Mm → Prop), (∀ (x0 : Int32) (x1 : Int32) (x2 : Int32) (μ : Mm), F_L_bits_4 z K4 q x0 x1 x2 μ → K4 x0 x1 x2 μ) → F_L_bits_e z K4 q x0 μ
abbrev KK_L_bits_4 (g : GE) (f : FE) (z : ScT) : Int32 → Int32 → Int32 → Mm → Prop := fun x0 x1 x2 μ => KW g f 3 0 (6 * 0) 4 [some (.int x0), some (.int x1), some (.int x2)] [] μ
set_option maxHeartbeats 4000000 in
theorem b_L_bits_4 {g : GE} {f : FE} {z : ScT} {q : Int32 → Mm → Prop} (hcx : (∀ n, n ≤ 0 → Cx g f cL_bits 3 RL 0 0 n (6 * n))) (bx : BXl g z f) (hr : (f_M f).sig.returnType = (some .int)) (rx : RXl g f 0 (qI q)) {x0 : Int32} {x1 : Int32} {x2 : Int32} {μ : Mm} (h : F_L_bits_4 z (KK_L_bits_4 g f z) q x0 x1 x2 μ) : KW g f 3 0 (6 * 0) 4 [some (.int x0), some (.int x1), some (.int x2)] [] μ := by
  unfold F_L_bits_4 at h
  have cx := hcx 0 (by omega)
  refine k_iload_n cx dL_bits_4 rfl rfl ?_
  refine k_bipush (v := (9 : Int32)) cx dL_bits_5 (by decide +kernel) ?_
  refine k_icmp_ge (tgt := 24) cx dL_bits_7 (by decide) (fun hc => ?_) (fun hc => ?_)
  · replace h := h.1 hc
    refine k_iload_n cx dL_bits_24 rfl rfl ?_
    exact k_bret_I cx hr rx (by omega) dL_bits_25 h
  · replace h := h.2 hc
    refine k_iload_n cx dL_bits_10 rfl rfl ?_
    refine k_iload_n cx dL_bits_11 rfl rfl ?_
    refine k_iload_n cx dL_bits_12 rfl rfl ?_
    refine k_ishr cx dL_bits_13 ?_
    refine k_iconst (v := (1 : Int32)) cx dL_bits_14 (by decide +kernel) ?_
    refine k_iand cx dL_bits_15 ?_
    refine k_iadd cx dL_bits_16 ?_
    refine k_istore_n cx dL_bits_17 rfl (by decide) ?_
    generalize ev1_1 : (x1 + ((x0 >>> (x2 &&& 31)) &&& (1 : Int32))) = v1_1
    replace h := h v1_1 ev1_1.symm
    refine k_iinc (v := (x2 + (1 : Int32))) cx dL_bits_18 rfl rfl (by decide) ?_
    refine k_goto (tgt := 4) cx dL_bits_21 (by decide) ?_
    exact k_weak h (lsLe.keep (lsLe.keep (lsLe.keep lsLe.nil)))
set_option maxHeartbeats 4000000 in
theorem b_L_bits_e {g : GE} {f : FE} {z : ScT} {q : Int32 → Mm → Prop} (hcx : (∀ n, n ≤ 0 → Cx g f cL_bits 3 RL 0 0 n (6 * n))) (bx : BXl g z f) (hr : (f_M f).sig.returnType = (some .int)) (rx : RXl g f 0 (qI q)) {x0 : Int32} {μ : Mm} (h : F_L_bits_e z (KK_L_bits_4 g f z) q x0 μ) : KW g f 3 0 (6 * 0) 0 [some (.int x0), none, none] [] μ := by
  unfold F_L_bits_e at h
  have cx := hcx 0 (by omega)
  refine k_iconst (v := (0 : Int32)) cx dL_bits_0 (by decide +kernel) ?_
  refine k_istore_n cx dL_bits_1 rfl (by decide) ?_
  refine k_iconst (v := (0 : Int32)) cx dL_bits_2 (by decide +kernel) ?_
  refine k_istore_n cx dL_bits_3 rfl (by decide) ?_
  exact k_weak h (lsLe.keep (lsLe.keep (lsLe.keep lsLe.nil)))
theorem m_L_bits {g : GE} {z : ScT} {l : Launch} (hst : l.stackTraces = false) {μ : Mm} {q : Int32 → Mm → Prop} {x0 : Int32} (h : Wp_L_bits z x0 μ q) : MBl g z l yL_bits cL_bits 3 (some .int) 0 0 0 [.int x0] μ (qI q) := by
  refine bmet_of hst (by decide) (Nat.le_of_ble_eq_true rfl) (by intro v hv; simp only [List.mem_cons, List.not_mem_nil, or_false] at hv; subst hv; rfl) ?_
  intro f hfl hcx bx hr rx
  exact b_L_bits_e hcx bx hr rx (h (KK_L_bits_4 g f z) (fun _ _ _ _ h => b_L_bits_4 hcx bx hr rx h))

theorem dL_isWay_0 : decode cL_isWay 0 = .ok (.bipush 6, 2) := by decide +kernel
theorem dL_isWay_2 : decode cL_isWay 2 = .ok (.newarray .int, 2) := by decide +kernel
theorem dL_isWay_4 : decode cL_isWay 4 = .ok (.astore 5, 2) := by decide +kernel
theorem dL_isWay_6 : decode cL_isWay 6 = .ok (.iconst 0, 1) := by decide +kernel
theorem dL_isWay_7 : decode cL_isWay 7 = .ok (.istore 6, 2) := by decide +kernel
theorem dL_isWay_9 : decode cL_isWay 9 = .ok (.iload 6, 2) := by decide +kernel
theorem dL_isWay_11 : decode cL_isWay 11 = .ok (.iload_n 1, 1) := by decide +kernel
theorem dL_isWay_12 : decode cL_isWay 12 = .ok (.if_icmp .ge 47, 3) := by decide +kernel
theorem dL_isWay_15 : decode cL_isWay 15 = .ok (.aload 5, 2) := by decide +kernel
theorem dL_isWay_17 : decode cL_isWay 17 = .ok (.aload_n 0, 1) := by decide +kernel
theorem dL_isWay_18 : decode cL_isWay 18 = .ok (.iconst 3, 1) := by decide +kernel
theorem dL_isWay_19 : decode cL_isWay 19 = .ok (.iload 6, 2) := by decide +kernel
theorem dL_isWay_21 : decode cL_isWay 21 = .ok (.imul, 1) := by decide +kernel
theorem dL_isWay_22 : decode cL_isWay 22 = .ok (.iaload, 1) := by decide +kernel
theorem dL_isWay_23 : decode cL_isWay 23 = .ok (.dup2, 1) := by decide +kernel
theorem dL_isWay_24 : decode cL_isWay 24 = .ok (.iaload, 1) := by decide +kernel
theorem dL_isWay_25 : decode cL_isWay 25 = .ok (.iload_n 2, 1) := by decide +kernel
theorem dL_isWay_26 : decode cL_isWay 26 = .ok (.iload 6, 2) := by decide +kernel
theorem dL_isWay_28 : decode cL_isWay 28 = .ok (.ishr, 1) := by decide +kernel
theorem dL_isWay_29 : decode cL_isWay 29 = .ok (.iconst 1, 1) := by decide +kernel
theorem dL_isWay_30 : decode cL_isWay 30 = .ok (.iand, 1) := by decide +kernel
theorem dL_isWay_31 : decode cL_isWay 31 = .ok (.iadd, 1) := by decide +kernel
theorem dL_isWay_32 : decode cL_isWay 32 = .ok (.iastore, 1) := by decide +kernel
theorem dL_isWay_33 : decode cL_isWay 33 = .ok (.aload 5, 2) := by decide +kernel
theorem dL_isWay_35 : decode cL_isWay 35 = .ok (.aload_n 0, 1) := by decide +kernel
theorem dL_isWay_36 : decode cL_isWay 36 = .ok (.iconst 3, 1) := by decide +kernel
theorem dL_isWay_37 : decode cL_isWay 37 = .ok (.iload 6, 2) := by decide +kernel
theorem dL_isWay_39 : decode cL_isWay 39 = .ok (.imul, 1) := by decide +kernel
theorem dL_isWay_40 : decode cL_isWay 40 = .ok (.iconst 1, 1) := by decide +kernel
theorem dL_isWay_41 : decode cL_isWay 41 = .ok (.iadd, 1) := by decide +kernel
theorem dL_isWay_42 : decode cL_isWay 42 = .ok (.iaload, 1) := by decide +kernel
theorem dL_isWay_43 : decode cL_isWay 43 = .ok (.dup2, 1) := by decide +kernel
theorem dL_isWay_44 : decode cL_isWay 44 = .ok (.iaload, 1) := by decide +kernel
theorem dL_isWay_45 : decode cL_isWay 45 = .ok (.iload_n 2, 1) := by decide +kernel
theorem dL_isWay_46 : decode cL_isWay 46 = .ok (.iload 6, 2) := by decide +kernel
theorem dL_isWay_48 : decode cL_isWay 48 = .ok (.ishr, 1) := by decide +kernel
theorem dL_isWay_49 : decode cL_isWay 49 = .ok (.iconst 1, 1) := by decide +kernel
theorem dL_isWay_50 : decode cL_isWay 50 = .ok (.iand, 1) := by decide +kernel
theorem dL_isWay_51 : decode cL_isWay 51 = .ok (.iadd, 1) := by decide +kernel
theorem dL_isWay_52 : decode cL_isWay 52 = .ok (.iastore, 1) := by decide +kernel
theorem dL_isWay_53 : decode cL_isWay 53 = .ok (.iinc 6 1, 3) := by decide +kernel
theorem dL_isWay_56 : decode cL_isWay 56 = .ok (.goto (-47), 3) := by decide +kernel
theorem dL_isWay_59 : decode cL_isWay 59 = .ok (.iconst 0, 1) := by decide +kernel
theorem dL_isWay_60 : decode cL_isWay 60 = .ok (.istore 6, 2) := by decide +kernel
theorem dL_isWay_62 : decode cL_isWay 62 = .ok (.iload_n 2, 1) := by decide +kernel
theorem dL_isWay_63 : decode cL_isWay 63 = .ok (.ifCond .le 19, 3) := by decide +kernel
theorem dL_isWay_66 : decode cL_isWay 66 = .ok (.iload_n 2, 1) := by decide +kernel
theorem dL_isWay_67 : decode cL_isWay 67 = .ok (.iload_n 1, 1) := by decide +kernel
theorem dL_isWay_68 : decode cL_isWay 68 = .ok (.ishr, 1) := by decide +kernel
theorem dL_isWay_69 : decode cL_isWay 69 = .ok (.ifCond .ne 13, 3) := by decide +kernel
theorem dL_isWay_72 : decode cL_isWay 72 = .ok (.iload_n 3, 1) := by decide +kernel
theorem dL_isWay_73 : decode cL_isWay 73 = .ok (.iload 4, 2) := by decide +kernel
theorem dL_isWay_75 : decode cL_isWay 75 = .ok (.if_icmp .eq 7, 3) := by decide +kernel
theorem dL_isWay_78 : decode cL_isWay 78 = .ok (.iconst 1, 1) := by decide +kernel
theorem dL_isWay_79 : decode cL_isWay 79 = .ok (.goto 4, 3) := by decide +kernel
theorem dL_isWay_83 : decode cL_isWay 83 = .ok (.istore 7, 2) := by decide +kernel
theorem dL_isWay_85 : decode cL_isWay 85 = .ok (.iconst 0, 1) := by decide +kernel
theorem dL_isWay_86 : decode cL_isWay 86 = .ok (.istore 8, 2) := by decide +kernel
theorem dL_isWay_88 : decode cL_isWay 88 = .ok (.iload 8, 2) := by decide +kernel
theorem dL_isWay_90 : decode cL_isWay 90 = .ok (.bipush 6, 2) := by decide +kernel
theorem dL_isWay_92 : decode cL_isWay 92 = .ok (.if_icmp .ge 81, 3) := by decide +kernel
theorem dL_isWay_95 : decode cL_isWay 95 = .ok (.iload 7, 2) := by decide +kernel
theorem dL_isWay_97 : decode cL_isWay 97 = .ok (.ifCond .eq 49, 3) := by decide +kernel
theorem dL_isWay_100 : decode cL_isWay 100 = .ok (.iload 8, 2) := by decide +kernel
theorem dL_isWay_102 : decode cL_isWay 102 = .ok (.iload_n 3, 1) := by decide +kernel
theorem dL_isWay_103 : decode cL_isWay 103 = .ok (.if_icmp .eq 10, 3) := by decide +kernel
theorem dL_isWay_106 : decode cL_isWay 106 = .ok (.iload 8, 2) := by decide +kernel
theorem dL_isWay_108 : decode cL_isWay 108 = .ok (.iload 4, 2) := by decide +kernel
theorem dL_isWay_110 : decode cL_isWay 110 = .ok (.if_icmp .ne 15, 3) := by decide +kernel
theorem dL_isWay_113 : decode cL_isWay 113 = .ok (.aload 5, 2) := by decide +kernel
theorem dL_isWay_115 : decode cL_isWay 115 = .ok (.iload 8, 2) := by decide +kernel
theorem dL_isWay_117 : decode cL_isWay 117 = .ok (.iaload, 1) := by decide +kernel
theorem dL_isWay_118 : decode cL_isWay 118 = .ok (.iconst 1, 1) := by decide +kernel
theorem dL_isWay_119 : decode cL_isWay 119 = .ok (.if_icmp .ne 27, 3) := by decide +kernel
theorem dL_isWay_122 : decode cL_isWay 122 = .ok (.goto 20, 3) := by decide +kernel
theorem dL_isWay_125 : decode cL_isWay 125 = .ok (.aload 5, 2) := by decide +kernel
theorem dL_isWay_127 : decode cL_isWay 127 = .ok (.iload 8, 2) := by decide +kernel
theorem dL_isWay_129 : decode cL_isWay 129 = .ok (.iaload, 1) := by decide +kernel
theorem dL_isWay_130 : decode cL_isWay 130 = .ok (.ifCond .eq 12, 3) := by decide +kernel
theorem dL_isWay_133 : decode cL_isWay 133 = .ok (.aload 5, 2) := by decide +kernel
theorem dL_isWay_135 : decode cL_isWay 135 = .ok (.iload 8, 2) := by decide +kernel
theorem dL_isWay_137 : decode cL_isWay 137 = .ok (.iaload, 1) := by decide +kernel
theorem dL_isWay_138 : decode cL_isWay 138 = .ok (.iconst 2, 1) := by decide +kernel
theorem dL_isWay_139 : decode cL_isWay 139 = .ok (.if_icmp .ne 7, 3) := by decide +kernel
theorem dL_isWay_142 : decode cL_isWay 142 = .ok (.iconst 1, 1) := by decide +kernel
theorem dL_isWay_143 : decode cL_isWay 143 = .ok (.goto 4, 3) := by decide +kernel
theorem dL_isWay_147 : decode cL_isWay 147 = .ok (.istore 7, 2) := by decide +kernel
theorem dL_isWay_149 : decode cL_isWay 149 = .ok (.iload 6, 2) := by decide +kernel
theorem dL_isWay_151 : decode cL_isWay 151 = .ok (.aload 5, 2) := by decide +kernel
theorem dL_isWay_153 : decode cL_isWay 153 = .ok (.iload 8, 2) := by decide +kernel
theorem dL_isWay_155 : decode cL_isWay 155 = .ok (.iaload, 1) := by decide +kernel
theorem dL_isWay_156 : decode cL_isWay 156 = .ok (.ifCond .le 7, 3) := by decide +kernel
theorem dL_isWay_159 : decode cL_isWay 159 = .ok (.iconst 1, 1) := by decide +kernel
theorem dL_isWay_160 : decode cL_isWay 160 = .ok (.goto 4, 3) := by decide +kernel
theorem dL_isWay_163 : decode cL_isWay 163 = .ok (.iconst 0, 1) := by decide +kernel
theorem dL_isWay_164 : decode cL_isWay 164 = .ok (.iadd, 1) := by decide +kernel
theorem dL_isWay_165 : decode cL_isWay 165 = .ok (.istore 6, 2) := by decide +kernel
theorem dL_isWay_167 : decode cL_isWay 167 = .ok (.iinc 8 1, 3) := by decide +kernel
theorem dL_isWay_170 : decode cL_isWay 170 = .ok (.goto (-82), 3) := by decide +kernel
theorem dL_isWay_173 : decode cL_isWay 173 = .ok (.iload 7, 2) := by decide +kernel
theorem dL_isWay_175 : decode cL_isWay 175 = .ok (.ifCond .eq 18, 3) := by decide +kernel
theorem dL_isWay_178 : decode cL_isWay 178 = .ok (.iload 6, 2) := by decide +kernel
theorem dL_isWay_180 : decode cL_isWay 180 = .ok (.iload_n 2, 1) := by decide +kernel
theorem dL_isWay_181 : decode cL_isWay 181 = .ok (.invokestatic 55, 3) := by decide +kernel
theorem dL_isWay_184 : decode cL_isWay 184 = .ok (.iconst 1, 1) := by decide +kernel
theorem dL_isWay_185 : decode cL_isWay 185 = .ok (.iadd, 1) := by decide +kernel
theorem dL_isWay_186 : decode cL_isWay 186 = .ok (.if_icmp .ne 7, 3) := by decide +kernel
theorem dL_isWay_189 : decode cL_isWay 189 = .ok (.iconst 1, 1) := by decide +kernel
theorem dL_isWay_190 : decode cL_isWay 190 = .ok (.goto 4, 3) := by decide +kernel
theorem dL_isWay_194 : decode cL_isWay 194 = .ok (.ireturn, 1) := by decide +kernel
def F_L_isWay_9 (z : ScT) (K9 : Int32 → Int32 → Int32 → Int32 → Int32 → Nat → Mm → Prop) (K88 : Int32 → Int32 → Int32 → Int32 → Int32 → Nat → Mm → Prop) (K142 : Int32 → Int32 → Int32 → Int32 → Int32 → Nat → Mm → Prop) (q : Mm → Prop) (x1 : Int32) (x2 : Int32) (x3 : Int32) (x4 : Int32) (x6 : Int32) (n : Nat) (μ : Mm) : Prop :=
  n + 0 ≤ 1 ∧ (((x1 ≤ x6 → ((x2 ≤ 0 → False) ∧ (¬ (x2 ≤ 0) → ((¬ ((x2 >>> (x1 &&& 31)) = 0) → False) ∧ ((x2 >>> (x1 &&& 31)) = 0 → ((x3 = x4 → False) ∧ (¬ (x3 = x4) → K88 x2 x3 x4 (0 : Int32) (0 : Int32) n μ))))))) ∧ (¬ (x1 ≤ x6) → vp_in ((3 : Int32) * x6) 27 ∧ vp_in (μ p_LL (((3 : Int32) * x6)).toNatClampNeg) 6 ∧ vp_in (μ p_LL (((3 : Int32) * x6)).toNatClampNeg) 6 ∧ (∀ μ_1 : Mm, μ_1 = (up2 μ p_LE ((μ p_LL (((3 : Int32) * x6)).toNatClampNeg)).toNatClampNeg ((μ p_LE ((μ p_LL (((3 : Int32) * x6)).toNatClampNeg)).toNatClampNeg) + ((x2 >>> (x6 &&& 31)) &&& (1 : Int32)))) → vp_in (((3 : Int32) * x6) + (1 : Int32)) 27 ∧ vp_in (μ_1 p_LL ((((3 : Int32) * x6) + (1 : Int32))).toNatClampNeg) 6 ∧ vp_in (μ_1 p_LL ((((3 : Int32) * x6) + (1 : Int32))).toNatClampNeg) 6 ∧ (∀ μ_2 : Mm, μ_2 = (up2 μ_1 p_LE ((μ_1 p_LL ((((3 : Int32) * x6) + (1 : Int32))).toNatClampNeg)).toNatClampNeg ((μ_1 p_LE ((μ_1 p_LL ((((3 : Int32) * x6) + (1 : Int32))).toNatClampNeg)).toNatClampNeg) + ((x2 >>> (x6 &&& 31)) &&& (1 : Int32)))) → K9 x1 x2 x3 x4 (x6 + (1 : Int32)) n μ_2)))))
def F_L_isWay_88 (z : ScT) (K9 : Int32 → Int32 → Int32 → Int32 → Int32 → Nat → Mm → Prop) (K88 : Int32 → Int32 → Int32 → Int32 → Int32 → Nat → Mm → Prop) (K142 : Int32 → Int32 → Int32 → Int32 → Int32 → Nat → Mm → Prop) (q : Mm → Prop) (x2 : Int32) (x3 : Int32) (x4 : Int32) (x6 : Int32) (x8 : Int32) (n : Nat) (μ : Mm) : Prop :=
  n + 0 ≤ 1 ∧ ((((6 : Int32) ≤ x8 → Wp_L_bits z x2 μ (fun z2 μ_1 => ((¬ (x6 = (z2 + (1 : Int32))) → False) ∧ (x6 = (z2 + (1 : Int32)) → q μ_1)))) ∧ (¬ ((6 : Int32) ≤ x8) → ((x8 = x3 → vp_in x8 6 ∧ ((¬ ((μ p_LE (x8).toNatClampNeg) = (1 : Int32)) → False) ∧ ((μ p_LE (x8).toNatClampNeg) = (1 : Int32) → K142 x2 x3 x4 x6 x8 n μ))) ∧ (¬ (x8 = x3) → ((¬ (x8 = x4) → vp_in x8 6 ∧ (((μ p_LE (x8).toNatClampNeg) = 0 → K142 x2 x3 x4 x6 x8 n μ) ∧ (¬ ((μ p_LE (x8).toNatClampNeg) = 0) → vp_in x8 6 ∧ ((¬ ((μ p_LE (x8).toNatClampNeg) = (2 : Int32)) → False) ∧ ((μ p_LE (x8).toNatClampNeg) = (2 : Int32) → K142 x2 x3 x4 x6 x8 n μ))))) ∧ (x8 = x4 → vp_in x8 6 ∧ ((¬ ((μ p_LE (x8).toNatClampNeg) = (1 : Int32)) → False) ∧ ((μ p_LE (x8).toNatClampNeg) = (1 : Int32) → K142 x2 x3 x4 x6 x8 n μ)))))))))
def F_L_isWay_142 (z : ScT) (K9 : Int32 → Int32 → Int32 → Int32 → Int32 → Nat → Mm → Prop) (K88 : Int32 → Int32 → Int32 → Int32 → Int32 → Nat → Mm → Prop) (K142 : Int32 → Int32 → Int32 → Int32 → Int32 → Nat → Mm → Prop) (q : Mm → Prop) (x2 : Int32) (x3 : Int32) (x4 : Int32) (x6 : Int32) (x8 : Int32) (n : Nat) (μ : Mm) : Prop :=
  n + 0 ≤ 1 ∧ (vp_in x8 6 ∧ (((μ p_LE (x8).toNatClampNeg) ≤ 0 → (∀ v6_1 : Int32, v6_1 = (x6 + (0 : Int32)) → K88 x2 x3 x4 v6_1 (x8 + (1 : Int32)) n μ)) ∧ (¬ ((μ p_LE (x8).toNatClampNeg) ≤ 0) → (∀ v6_2 : Int32, v6_2 = (x6 + (1 : Int32)) → K88 x2 x3 x4 v6_2 (x8 + (1 : Int32)) n μ))))
def F_L_isWay_e (z : ScT) (K9 : Int32 → Int32 → Int32 → Int32 → Int32 → Nat → Mm → Prop) (K88 : Int32 → Int32 → Int32 → Int32 → Int32 → Nat → Mm → Prop) (K142 : Int32 → Int32 → Int32 → Int32 → Int32 → Nat → Mm → Prop) (q : Mm → Prop) (x1 : Int32) (x2 : Int32) (x3 : Int32) (x4 : Int32) (μ : Mm) : Prop :=
  K9 x1 x2 x3 x4 (0 : Int32) 1 (zrm μ p_LE)
def Wp_L_isWay (z : ScT) (x1 : Int32) (x2 : Int32) (x3 : Int32) (x4 : Int32) (μ : Mm) (q : Mm → Prop) : Prop := ∀ (K9 : Int32 → Int32 → Int32 → Int32 → Int32 → Nat → Mm → Prop) (K88 : Int32 → Int32 → Int32 → Int32 → Int32 → Nat → Mm → Prop) (K142 : Int32 → Int32 → Int32 → Int32 → Int32 → Nat → Mm → Prop), (∀ (x1 : Int32) (x2 : Int32) (x3 : Int32) (x4 : Int32) (x6 : Int32) (n : Nat) (μ : Mm), F_L_isWay_9 z K9 K88 K142 q x1 x2 x3 x4 x6 n μ → K9 x1 x2 x3 x4 x6 n μ) → (∀ (x2 : Int32) (x3 : Int32) (x4 : Int32) (x6 : Int32) (x8 : Int32) (n : Nat) (μ : Mm), F_L_isWay_88 z K9 K88 K142 q x2 x3 x4 x6 x8 n μ → K88 x2 x3 x4 x6 x8 n μ) → (∀ (x2 : Int32) (x3 : Int32) (x4 : Int32) (x6 : Int32) (x8 : Int32) (n : Nat) (μ : Mm), F_L_isWay_142 z K9 K88 K142 q x2 x3 x4 x6 x8 n μ → K142 x2 x3 x4 x6 x8 n μ) → F_L_isWay_e z K9 K88 K142 q x1 x2 x3 x4 μ
abbrev KK_L_isWay_9 (g : GE) (f : FE) (z : ScT) : Int32 → Int32 → Int32 → Int32 → Int32 → Nat → Mm → Prop := fun x1 x2 x3 x4 x6 n μ => ∀ g2, GXn g g2 p_LE 6 → (∀ n, n ≤ 1 → Cx g2 f cL_isWay 9 RL 1 22 n (6 * n)) → BXl g2 z f → KW g2 f 9 n (6 * n) 9 [some (.ref p_LL), some (.int x1), some (.int x2), some (.int x3), some (.int x4), some (.ref p_LE), some (.int x6), none, none] [] μ
abbrev KK_L_isWay_88 (g : GE) (f : FE) (z : ScT) : Int32 → Int32 → Int32 → Int32 → Int32 → Nat → Mm → Prop := fun x2 x3 x4 x6 x8 n μ => ∀ g2, GXn g g2 p_LE 6 → (∀ n, n ≤ 1 → Cx g2 f cL_isWay 9 RL 1 22 n (6 * n)) → BXl g2 z f → KW g2 f 9 n (6 * n) 88 [none, none, some (.int x2), some (.int x3), some (.int x4), some (.ref p_LE), some (.int x6), some (.int (1 : Int32)), some (.int x8)] [] μ
abbrev KK_L_isWay_142 (g : GE) (f : FE) (z : ScT) : Int32 → Int32 → Int32 → Int32 → Int32 → Nat → Mm → Prop := fun x2 x3 x4 x6 x8 n μ => ∀ g2, GXn g g2 p_LE 6 → (∀ n, n ≤ 1 → Cx g2 f cL_isWay 9 RL 1 22 n (6 * n)) → BXl g2 z f → KW g2 f 9 n (6 * n) 142 [none, none, some (.int x2), some (.int x3), some (.int x4), some (.ref p_LE), some (.int x6), none, some (.int x8)] [] μ
set_option maxHeartbeats 4000000 in
theorem b_L_isWay_9 {g g2 : GE} {f : FE} {z : ScT} {q : Mm → Prop} (hg : GXn g g2 p_LE 6) (hcx : (∀ n, n ≤ 1 → Cx g2 f cL_isWay 9 RL 1 22 n (6 * n))) (bx : BXl g2 z f) (hr : (f_M f).sig.returnType = (some .boolean)) (rx : RXl g f 1 (qTr q)) {x1 : Int32} {x2 : Int32} {x3 : Int32} {x4 : Int32} {x6 : Int32} {n : Nat} {μ : Mm} (h : F_L_isWay_9 z (KK_L_isWay_9 g f z) (KK_L_isWay_88 g f z) (KK_L_isWay_142 g f z) q x1 x2 x3 x4 x6 n μ) : KW g2 f 9 n (6 * n) 9 [some (.ref p_LL), some (.int x1), some (.int x2), some (.int x3), some (.int x4), some (.ref p_LE), some (.int x6), none, none] [] μ := by
  unfold F_L_isWay_9 at h
  obtain ⟨hn, h⟩ := h
  have cx := hcx n (by omega)
  refine k_iload cx dL_isWay_9 rfl ?_
  refine k_iload_n cx dL_isWay_11 rfl rfl ?_
  refine k_icmp_ge (tgt := 59) cx dL_isWay_12 (by decide) (fun hc => ?_) (fun hc => ?_)
  · replace h := h.1 hc
    refine k_iconst (v := (0 : Int32)) cx dL_isWay_59 (by decide +kernel) ?_
    refine k_istore cx dL_isWay_60 (by decide) ?_
    refine k_iload_n cx dL_isWay_62 rfl rfl ?_
    refine k_if_le (tgt := 82) cx dL_isWay_63 (by decide) (fun hc => ?_) (fun hc => ?_)
    · replace h := h.1 hc
      exact h.elim
    · replace h := h.2 hc
      refine k_iload_n cx dL_isWay_66 rfl rfl ?_
      refine k_iload_n cx dL_isWay_67 rfl rfl ?_
      refine k_ishr cx dL_isWay_68 ?_
      refine k_if_ne (tgt := 82) cx dL_isWay_69 (by decide) (fun hc => ?_) (fun hc => ?_)
      · replace h := h.1 hc
        exact h.elim
      · replace h := h.2 hc
        refine k_iload_n cx dL_isWay_72 rfl rfl ?_
        refine k_iload cx dL_isWay_73 rfl ?_
        refine k_icmp_eq (tgt := 82) cx dL_isWay_75 (by decide) (fun hc => ?_) (fun hc => ?_)
        · replace h := h.1 hc
          exact h.elim
        · replace h := h.2 hc
          refine k_iconst (v := (1 : Int32)) cx dL_isWay_78 (by decide +kernel) ?_
          refine k_goto (tgt := 83) cx dL_isWay_79 (by decide) ?_
          refine k_istore cx dL_isWay_83 (by decide) ?_
          refine k_iconst (v := (0 : Int32)) cx dL_isWay_85 (by decide +kernel) ?_
          refine k_istore cx dL_isWay_86 (by decide) ?_
          exact k_weak (h _ hg hcx bx) (lsLe.drop (lsLe.drop (lsLe.keep (lsLe.keep (lsLe.keep (lsLe.keep (lsLe.keep (lsLe.keep (lsLe.keep lsLe.nil)))))))))
  · replace h := h.2 hc
    refine k_aload cx dL_isWay_15 rfl ?_
    refine k_aload_n cx dL_isWay_17 rfl rfl ?_
    refine k_iconst (v := (3 : Int32)) cx dL_isWay_18 (by decide +kernel) ?_
    refine k_iload cx dL_isWay_19 rfl ?_
    refine k_imul cx dL_isWay_21 ?_
    obtain ⟨hi, h⟩ := h
    refine k_iald cx ar_LL hi dL_isWay_22 ?_
    refine k_dup2 cx dL_isWay_23 rfl rfl ?_
    obtain ⟨hi, h⟩ := h
    refine k_iald cx hg.at hi dL_isWay_24 ?_
    refine k_iload_n cx dL_isWay_25 rfl rfl ?_
    refine k_iload cx dL_isWay_26 rfl ?_
    refine k_ishr cx dL_isWay_28 ?_
    refine k_iconst (v := (1 : Int32)) cx dL_isWay_29 (by decide +kernel) ?_
    refine k_iand cx dL_isWay_30 ?_
    refine k_iadd cx dL_isWay_31 ?_
    obtain ⟨hi, h⟩ := h
    refine k_iast cx hg.at hi dL_isWay_32 ?_
    generalize eμ_1 : (up2 μ p_LE ((μ p_LL (((3 : Int32) * x6)).toNatClampNeg)).toNatClampNeg ((μ p_LE ((μ p_LL (((3 : Int32) * x6)).toNatClampNeg)).toNatClampNeg) + ((x2 >>> (x6 &&& 31)) &&& (1 : Int32)))) = μ_1
    replace h := h μ_1 eμ_1.symm
    refine k_aload cx dL_isWay_33 rfl ?_
    refine k_aload_n cx dL_isWay_35 rfl rfl ?_
    refine k_iconst (v := (3 : Int32)) cx dL_isWay_36 (by decide +kernel) ?_
    refine k_iload cx dL_isWay_37 rfl ?_
    refine k_imul cx dL_isWay_39 ?_
    refine k_iconst (v := (1 : Int32)) cx dL_isWay_40 (by decide +kernel) ?_
    refine k_iadd cx dL_isWay_41 ?_
    obtain ⟨hi, h⟩ := h
    refine k_iald cx ar_LL hi dL_isWay_42 ?_
    refine k_dup2 cx dL_isWay_43 rfl rfl ?_
    obtain ⟨hi, h⟩ := h
    refine k_iald cx hg.at hi dL_isWay_44 ?_
    refine k_iload_n cx dL_isWay_45 rfl rfl ?_
    refine k_iload cx dL_isWay_46 rfl ?_
    refine k_ishr cx dL_isWay_48 ?_
    refine k_iconst (v := (1 : Int32)) cx dL_isWay_49 (by decide +kernel) ?_
    refine k_iand cx dL_isWay_50 ?_
    refine k_iadd cx dL_isWay_51 ?_
    obtain ⟨hi, h⟩ := h
    refine k_iast cx hg.at hi dL_isWay_52 ?_
    generalize eμ_2 : (up2 μ_1 p_LE ((μ_1 p_LL ((((3 : Int32) * x6) + (1 : Int32))).toNatClampNeg)).toNatClampNeg ((μ_1 p_LE ((μ_1 p_LL ((((3 : Int32) * x6) + (1 : Int32))).toNatClampNeg)).toNatClampNeg) + ((x2 >>> (x6 &&& 31)) &&& (1 : Int32)))) = μ_2
    replace h := h μ_2 eμ_2.symm
    refine k_iinc (v := (x6 + (1 : Int32))) cx dL_isWay_53 rfl rfl (by decide) ?_
    refine k_goto (tgt := 9) cx dL_isWay_56 (by decide) ?_
    exact k_weak (h _ hg hcx bx) (lsLe.keep (lsLe.keep (lsLe.keep (lsLe.keep (lsLe.keep (lsLe.keep (lsLe.keep (lsLe.keep (lsLe.keep lsLe.nil)))))))))
set_option maxHeartbeats 4000000 in
theorem b_L_isWay_88 {g g2 : GE} {f : FE} {z : ScT} {q : Mm → Prop} (hg : GXn g g2 p_LE 6) (hcx : (∀ n, n ≤ 1 → Cx g2 f cL_isWay 9 RL 1 22 n (6 * n))) (bx : BXl g2 z f) (hr : (f_M f).sig.returnType = (some .boolean)) (rx : RXl g f 1 (qTr q)) {x2 : Int32} {x3 : Int32} {x4 : Int32} {x6 : Int32} {x8 : Int32} {n : Nat} {μ : Mm} (h : F_L_isWay_88 z (KK_L_isWay_9 g f z) (KK_L_isWay_88 g f z) (KK_L_isWay_142 g f z) q x2 x3 x4 x6 x8 n μ) : KW g2 f 9 n (6 * n) 88 [none, none, some (.int x2), some (.int x3), some (.int x4), some (.ref p_LE), some (.int x6), some (.int (1 : Int32)), some (.int x8)] [] μ := by
  unfold F_L_isWay_88 at h
  obtain ⟨hn, h⟩ := h
  have cx := hcx n (by omega)
  refine k_iload cx dL_isWay_88 rfl ?_
  refine k_bipush (v := (6 : Int32)) cx dL_isWay_90 (by decide +kernel) ?_
  refine k_icmp_ge (tgt := 173) cx dL_isWay_92 (by decide) (fun hc => ?_) (fun hc => ?_)
  · replace h := h.1 hc
    refine k_iload cx dL_isWay_173 rfl ?_
    refine k_if_eq (tgt := 193) cx dL_isWay_175 (by decide) (fun hc => absurd hc (by decide)) (fun _ => ?_)
    refine k_iload cx dL_isWay_178 rfl ?_
    refine k_iload_n cx dL_isWay_180 rfl rfl ?_
    refine k_callB (As := [.int x2]) (rest := [.int x6]) (n2 := n) hcx bx (m_L_bits bx.2.2.2 h) cv_L_55 rfl rfl (Nat.le_of_ble_eq_true rfl) ⟨Nat.le_of_ble_eq_true rfl, Nat.le_of_ble_eq_true rfl⟩ (by omega) (by omega) dL_isWay_181 (fun v μ_1 hq => ?_)
    obtain ⟨z2, rfl, h⟩ := hq
    have cx := hcx n (by omega)
    refine k_iconst (v := (1 : Int32)) cx dL_isWay_184 (by decide +kernel) ?_
    refine k_iadd cx dL_isWay_185 ?_
    refine k_icmp_ne (tgt := 193) cx dL_isWay_186 (by decide) (fun hc => ?_) (fun hc => ?_)
    · replace h := h.1 hc
      exact h.elim
    · replace h := h.2 hc
      refine k_iconst (v := (1 : Int32)) cx dL_isWay_189 (by decide +kernel) ?_
      refine k_goto (tgt := 194) cx dL_isWay_190 (by decide) ?_
      exact k_nret_T hg cx hr rx (by omega) dL_isWay_194 h
  · replace h := h.2 hc
    refine k_iload cx dL_isWay_95 rfl ?_
    refine k_if_eq (tgt := 146) cx dL_isWay_97 (by decide) (fun hc => absurd hc (by decide)) (fun _ => ?_)
    refine k_iload cx dL_isWay_100 rfl ?_
    refine k_iload_n cx dL_isWay_102 rfl rfl ?_
    refine k_icmp_eq (tgt := 113) cx dL_isWay_103 (by decide) (fun hc => ?_) (fun hc => ?_)
    · replace h := h.1 hc
      refine k_aload cx dL_isWay_113 rfl ?_
      refine k_iload cx dL_isWay_115 rfl ?_
      obtain ⟨hi, h⟩ := h
      refine k_iald cx hg.at hi dL_isWay_117 ?_
      refine k_iconst (v := (1 : Int32)) cx dL_isWay_118 (by decide +kernel) ?_
      refine k_icmp_ne (tgt := 146) cx dL_isWay_119 (by decide) (fun hc => ?_) (fun hc => ?_)
      · replace h := h.1 hc
        exact h.elim
      · replace h := h.2 hc
        refine k_goto (tgt := 142) cx dL_isWay_122 (by decide) ?_
        exact k_weak (h _ hg hcx bx) (lsLe.keep (lsLe.keep (lsLe.keep (lsLe.keep (lsLe.keep (lsLe.keep (lsLe.keep (lsLe.drop (lsLe.keep lsLe.nil)))))))))
    · replace h := h.2 hc
      refine k_iload cx dL_isWay_106 rfl ?_
      refine k_iload cx dL_isWay_108 rfl ?_
      refine k_icmp_ne (tgt := 125) cx dL_isWay_110 (by decide) (fun hc => ?_) (fun hc => ?_)
      · replace h := h.1 hc
        refine k_aload cx dL_isWay_125 rfl ?_
        refine k_iload cx dL_isWay_127 rfl ?_
        obtain ⟨hi, h⟩ := h
        refine k_iald cx hg.at hi dL_isWay_129 ?_
        refine k_if_eq (tgt := 142) cx dL_isWay_130 (by decide) (fun hc => ?_) (fun hc => ?_)
        · replace h := h.1 hc
          exact k_weak (h _ hg hcx bx) (lsLe.keep (lsLe.keep (lsLe.keep (lsLe.keep (lsLe.keep (lsLe.keep (lsLe.keep (lsLe.drop (lsLe.keep lsLe.nil)))))))))
        · replace h := h.2 hc
          refine k_aload cx dL_isWay_133 rfl ?_
          refine k_iload cx dL_isWay_135 rfl ?_
          obtain ⟨hi, h⟩ := h
          refine k_iald cx hg.at hi dL_isWay_137 ?_
          refine k_iconst (v := (2 : Int32)) cx dL_isWay_138 (by decide +kernel) ?_
          refine k_icmp_ne (tgt := 146) cx dL_isWay_139 (by decide) (fun hc => ?_) (fun hc => ?_)
          · replace h := h.1 hc
            exact h.elim
          · replace h := h.2 hc
            exact k_weak (h _ hg hcx bx) (lsLe.keep (lsLe.keep (lsLe.keep (lsLe.keep (lsLe.keep (lsLe.keep (lsLe.keep (lsLe.drop (lsLe.keep lsLe.nil)))))))))
      · replace h := h.2 hc
        refine k_aload cx dL_isWay_113 rfl ?_
        refine k_iload cx dL_isWay_115 rfl ?_
        obtain ⟨hi, h⟩ := h
        refine k_iald cx hg.at hi dL_isWay_117 ?_
        refine k_iconst (v := (1 : Int32)) cx dL_isWay_118 (by decide +kernel) ?_
        refine k_icmp_ne (tgt := 146) cx dL_isWay_119 (by decide) (fun hc => ?_) (fun hc => ?_)
        · replace h := h.1 hc
          exact h.elim
        · replace h := h.2 hc
          refine k_goto (tgt := 142) cx dL_isWay_122 (by decide) ?_
          exact k_weak (h _ hg hcx bx) (lsLe.keep (lsLe.keep (lsLe.keep (lsLe.keep (lsLe.keep (lsLe.keep (lsLe.keep (lsLe.drop (lsLe.keep lsLe.nil)))))))))
set_option maxHeartbeats 4000000 in
theorem b_L_isWay_142 {g g2 : GE} {f : FE} {z : ScT} {q : Mm → Prop} (hg : GXn g g2 p_LE 6) (hcx : (∀ n, n ≤ 1 → Cx g2 f cL_isWay 9 RL 1 22 n (6 * n))) (bx : BXl g2 z f) (hr : (f_M f).sig.returnType = (some .boolean)) (rx : RXl g f 1 (qTr q)) {x2 : Int32} {x3 : Int32} {x4 : Int32} {x6 : Int32} {x8 : Int32} {n : Nat} {μ : Mm} (h : F_L_isWay_142 z (KK_L_isWay_9 g f z) (KK_L_isWay_88 g f z) (KK_L_isWay_142 g f z) q x2 x3 x4 x6 x8 n μ) : KW g2 f 9 n (6 * n) 142 [none, none, some (.int x2), some (.int x3), some (.int x4), some (.ref p_LE), some (.int x6), none, some (.int x8)] [] μ := by
  unfold F_L_isWay_142 at h
  obtain ⟨hn, h⟩ := h
  have cx := hcx n (by omega)
  refine k_iconst (v := (1 : Int32)) cx dL_isWay_142 (by decide +kernel) ?_
  refine k_goto (tgt := 147) cx dL_isWay_143 (by decide) ?_
  refine k_istore cx dL_isWay_147 (by decide) ?_
  refine k_iload cx dL_isWay_149 rfl ?_
  refine k_aload cx dL_isWay_151 rfl ?_
  refine k_iload cx dL_isWay_153 rfl ?_
  obtain ⟨hi, h⟩ := h
  refine k_iald cx hg.at hi dL_isWay_155 ?_
  refine k_if_le (tgt := 163) cx dL_isWay_156 (by decide) (fun hc => ?_) (fun hc => ?_)
  · replace h := h.1 hc
    refine k_iconst (v := (0 : Int32)) cx dL_isWay_163 (by decide +kernel) ?_
    refine k_iadd cx dL_isWay_164 ?_
    refine k_istore cx dL_isWay_165 (by decide) ?_
    generalize ev6_1 : (x6 + (0 : Int32)) = v6_1
    replace h := h v6_1 ev6_1.symm
    refine k_iinc (v := (x8 + (1 : Int32))) cx dL_isWay_167 rfl rfl (by decide) ?_
    refine k_goto (tgt := 88) cx dL_isWay_170 (by decide) ?_
    exact k_weak (h _ hg hcx bx) (lsLe.keep (lsLe.keep (lsLe.keep (lsLe.keep (lsLe.keep (lsLe.keep (lsLe.keep (lsLe.keep (lsLe.keep lsLe.nil)))))))))
  · replace h := h.2 hc
    refine k_iconst (v := (1 : Int32)) cx dL_isWay_159 (by decide +kernel) ?_
    refine k_goto (tgt := 164) cx dL_isWay_160 (by decide) ?_
    refine k_iadd cx dL_isWay_164 ?_
    refine k_istore cx dL_isWay_165 (by decide) ?_
    generalize ev6_2 : (x6 + (1 : Int32)) = v6_2
    replace h := h v6_2 ev6_2.symm
    refine k_iinc (v := (x8 + (1 : Int32))) cx dL_isWay_167 rfl rfl (by decide) ?_
    refine k_goto (tgt := 88) cx dL_isWay_170 (by decide) ?_
    exact k_weak (h _ hg hcx bx) (lsLe.keep (lsLe.keep (lsLe.keep (lsLe.keep (lsLe.keep (lsLe.keep (lsLe.keep (lsLe.keep (lsLe.keep lsLe.nil)))))))))
set_option maxHeartbeats 4000000 in
theorem b_L_isWay_e {g : GE} {f : FE} {z : ScT} {q : Mm → Prop} (hm : g.2.2.2.2 = []) (hcx : (∀ n, n ≤ 1 → Cx g f cL_isWay 9 RL 1 22 n (6 * n))) (bx : BXl g z f) (hr : (f_M f).sig.returnType = (some .boolean)) (rx : RXl g f 1 (qTr q)) {x1 : Int32} {x2 : Int32} {x3 : Int32} {x4 : Int32} {μ : Mm} (h : F_L_isWay_e z (KK_L_isWay_9 g f z) (KK_L_isWay_88 g f z) (KK_L_isWay_142 g f z) q x1 x2 x3 x4 μ) : KW g f 9 0 (6 * 0) 0 [some (.ref p_LL), some (.int x1), some (.int x2), some (.int x3), some (.int x4), none, none, none, none] [] μ := by
  unfold F_L_isWay_e at h
  have cx := hcx 0 (by omega)
  refine k_bipush (v := (6 : Int32)) cx dL_isWay_0 (by decide +kernel) ?_
  refine k_bnew (N2 := 6) (p2 := p_LE) (c := 1) (n2 := 1) hm (Or.inr rfl) hcx bx ac_I (by decide) (by decide) (by decide) (by decide) (by decide) (by omega) (by omega) (nr_loc (Or.inr rfl) rfl) (nr_stk (Or.inr rfl) rfl) dL_isWay_2 (fun g2 hg hcx bx => ?_)
  have cx := hcx 1 (by omega)
  refine k_astore cx dL_isWay_4 (by decide) ?_
  refine k_iconst (v := (0 : Int32)) cx dL_isWay_6 (by decide +kernel) ?_
  refine k_istore cx dL_isWay_7 (by decide) ?_
  exact k_weak (h _ hg hcx bx) (lsLe.keep (lsLe.keep (lsLe.keep (lsLe.keep (lsLe.keep (lsLe.keep (lsLe.keep (lsLe.keep (lsLe.keep lsLe.nil)))))))))
theorem m_L_isWay {g : GE} {z : ScT} {l : Launch} (hst : l.stackTraces = false) (hm : g.2.2.2.2 = []) {μ : Mm} {q : Mm → Prop} {x1 : Int32} {x2 : Int32} {x3 : Int32} {x4 : Int32} (h : Wp_L_isWay z x1 x2 x3 x4 μ q) : MBl g z l yL_isWay cL_isWay 9 (some .boolean) 1 22 1 [.ref p_LL, .int x1, .int x2, .int x3, .int x4] μ (qTr q) := by
  refine bmet_of hst (by decide) (Nat.le_of_ble_eq_true rfl) (by intro v hv; simp only [List.mem_cons, List.not_mem_nil, or_false] at hv; rcases hv with rfl | rfl | rfl | rfl | rfl <;> rfl) ?_
  intro f hfl hcx bx hr rx
  exact b_L_isWay_e hm hcx bx hr rx (h (KK_L_isWay_9 g f z) (KK_L_isWay_88 g f z) (KK_L_isWay_142 g f z) (fun _ _ _ _ _ _ _ h => fun g2 hg hcx bx => b_L_isWay_9 hg hcx bx hr rx h) (fun _ _ _ _ _ _ _ h => fun g2 hg hcx bx => b_L_isWay_88 hg hcx bx hr rx h) (fun _ _ _ _ _ _ _ h => fun g2 hg hcx bx => b_L_isWay_142 hg hcx bx hr rx h))
