theorem dL_asks_0 : decode cL_asks 0 = .ok (.iload_n 1, 1) := by decide +kernel
theorem dL_asks_1 : decode cL_asks 1 = .ok (.ifCond .ne 11, 3) := by decide +kernel
theorem dL_asks_4 : decode cL_asks 4 = .ok (.aload_n 0, 1) := by decide +kernel
theorem dL_asks_5 : decode cL_asks 5 = .ok (.iload_n 2, 1) := by decide +kernel
theorem dL_asks_6 : decode cL_asks 6 = .ok (.invokevirtual 16, 3) := by decide +kernel
theorem dL_asks_9 : decode cL_asks 9 = .ok (.goto 99, 3) := by decide +kernel
theorem dL_asks_12 : decode cL_asks 12 = .ok (.iload_n 1, 1) := by decide +kernel
theorem dL_asks_13 : decode cL_asks 13 = .ok (.iconst 1, 1) := by decide +kernel
theorem dL_asks_14 : decode cL_asks 14 = .ok (.if_icmp .ne 14, 3) := by decide +kernel
theorem dL_asks_17 : decode cL_asks 17 = .ok (.aload_n 0, 1) := by decide +kernel
theorem dL_asks_18 : decode cL_asks 18 = .ok (.iload_n 2, 1) := by decide +kernel
theorem dL_asks_19 : decode cL_asks 19 = .ok (.iload_n 3, 1) := by decide +kernel
theorem dL_asks_20 : decode cL_asks 20 = .ok (.iload 4, 2) := by decide +kernel
theorem dL_asks_22 : decode cL_asks 22 = .ok (.invokevirtual 20, 3) := by decide +kernel
theorem dL_asks_25 : decode cL_asks 25 = .ok (.goto 83, 3) := by decide +kernel
theorem dL_asks_28 : decode cL_asks 28 = .ok (.iload_n 1, 1) := by decide +kernel
theorem dL_asks_29 : decode cL_asks 29 = .ok (.iconst 2, 1) := by decide +kernel
theorem dL_asks_30 : decode cL_asks 30 = .ok (.if_icmp .ne 12, 3) := by decide +kernel
theorem dL_asks_33 : decode cL_asks 33 = .ok (.aload_n 0, 1) := by decide +kernel
theorem dL_asks_34 : decode cL_asks 34 = .ok (.iload_n 2, 1) := by decide +kernel
theorem dL_asks_35 : decode cL_asks 35 = .ok (.iload_n 3, 1) := by decide +kernel
theorem dL_asks_36 : decode cL_asks 36 = .ok (.invokevirtual 24, 3) := by decide +kernel
theorem dL_asks_39 : decode cL_asks 39 = .ok (.goto 69, 3) := by decide +kernel
theorem dL_asks_42 : decode cL_asks 42 = .ok (.iload_n 1, 1) := by decide +kernel
theorem dL_asks_43 : decode cL_asks 43 = .ok (.iconst 3, 1) := by decide +kernel
theorem dL_asks_44 : decode cL_asks 44 = .ok (.if_icmp .ne 14, 3) := by decide +kernel
theorem dL_asks_47 : decode cL_asks 47 = .ok (.aload_n 0, 1) := by decide +kernel
theorem dL_asks_48 : decode cL_asks 48 = .ok (.iload_n 2, 1) := by decide +kernel
theorem dL_asks_49 : decode cL_asks 49 = .ok (.iload_n 3, 1) := by decide +kernel
theorem dL_asks_50 : decode cL_asks 50 = .ok (.iload 4, 2) := by decide +kernel
theorem dL_asks_52 : decode cL_asks 52 = .ok (.invokevirtual 28, 3) := by decide +kernel
theorem dL_asks_55 : decode cL_asks 55 = .ok (.goto 53, 3) := by decide +kernel
theorem dL_asks_58 : decode cL_asks 58 = .ok (.iload_n 1, 1) := by decide +kernel
theorem dL_asks_59 : decode cL_asks 59 = .ok (.iconst 4, 1) := by decide +kernel
theorem dL_asks_60 : decode cL_asks 60 = .ok (.if_icmp .ne 12, 3) := by decide +kernel
theorem dL_asks_63 : decode cL_asks 63 = .ok (.aload_n 0, 1) := by decide +kernel
theorem dL_asks_64 : decode cL_asks 64 = .ok (.iload_n 2, 1) := by decide +kernel
theorem dL_asks_65 : decode cL_asks 65 = .ok (.iload_n 3, 1) := by decide +kernel
theorem dL_asks_66 : decode cL_asks 66 = .ok (.invokevirtual 31, 3) := by decide +kernel
theorem dL_asks_69 : decode cL_asks 69 = .ok (.goto 39, 3) := by decide +kernel
theorem dL_asks_72 : decode cL_asks 72 = .ok (.iload_n 1, 1) := by decide +kernel
theorem dL_asks_73 : decode cL_asks 73 = .ok (.iconst 5, 1) := by decide +kernel
theorem dL_asks_74 : decode cL_asks 74 = .ok (.if_icmp .ne 11, 3) := by decide +kernel
theorem dL_asks_77 : decode cL_asks 77 = .ok (.aload_n 0, 1) := by decide +kernel
theorem dL_asks_78 : decode cL_asks 78 = .ok (.iload_n 2, 1) := by decide +kernel
theorem dL_asks_79 : decode cL_asks 79 = .ok (.invokestatic 34, 3) := by decide +kernel
theorem dL_asks_82 : decode cL_asks 82 = .ok (.goto 26, 3) := by decide +kernel
theorem dL_asks_85 : decode cL_asks 85 = .ok (.iload_n 1, 1) := by decide +kernel
theorem dL_asks_86 : decode cL_asks 86 = .ok (.bipush 6, 2) := by decide +kernel
theorem dL_asks_88 : decode cL_asks 88 = .ok (.if_icmp .ne 14, 3) := by decide +kernel
theorem dL_asks_91 : decode cL_asks 91 = .ok (.aload_n 0, 1) := by decide +kernel
theorem dL_asks_92 : decode cL_asks 92 = .ok (.iload_n 2, 1) := by decide +kernel
theorem dL_asks_93 : decode cL_asks 93 = .ok (.iload_n 3, 1) := by decide +kernel
theorem dL_asks_94 : decode cL_asks 94 = .ok (.iload 4, 2) := by decide +kernel
theorem dL_asks_96 : decode cL_asks 96 = .ok (.invokevirtual 40, 3) := by decide +kernel
theorem dL_asks_99 : decode cL_asks 99 = .ok (.goto 9, 3) := by decide +kernel
theorem dL_asks_102 : decode cL_asks 102 = .ok (.aload_n 0, 1) := by decide +kernel
theorem dL_asks_103 : decode cL_asks 103 = .ok (.iload_n 2, 1) := by decide +kernel
theorem dL_asks_104 : decode cL_asks 104 = .ok (.iload_n 3, 1) := by decide +kernel
theorem dL_asks_105 : decode cL_asks 105 = .ok (.invokevirtual 43, 3) := by decide +kernel
theorem dL_asks_108 : decode cL_asks 108 = .ok (.ireturn, 1) := by decide +kernel
theorem dL_asks_109 : decode cL_asks 109 = .ok (.astore 5, 2) := by decide +kernel
theorem dL_asks_111 : decode cL_asks 111 = .ok (.ldc 48, 2) := by decide +kernel
theorem dL_asks_113 : decode cL_asks 113 = .ok (.ireturn, 1) := by decide +kernel
theorem dL_asks_114 : decode cL_asks 114 = .ok (.astore 5, 2) := by decide +kernel
theorem dL_asks_116 : decode cL_asks 116 = .ok (.ldc 51, 2) := by decide +kernel
theorem dL_asks_118 : decode cL_asks 118 = .ok (.ireturn, 1) := by decide +kernel
theorem dL_asks_119 : decode cL_asks 119 = .ok (.astore 5, 2) := by decide +kernel
theorem dL_asks_121 : decode cL_asks 121 = .ok (.ldc 54, 2) := by decide +kernel
theorem dL_asks_123 : decode cL_asks 123 = .ok (.ireturn, 1) := by decide +kernel
def Wp_L_asks (x1 x2 x3 x4 : Int32) (μ : Mm) (q : Int32 → Mm → Prop) : Prop :=
  ((¬ (x1 = 0) → ((¬ (x1 = (1 : Int32)) → ((¬ (x1 = (2 : Int32)) → ((¬ (x1 = (3 : Int32)) → ((¬ (x1 = (4 : Int32)) → ((¬ (x1 = (5 : Int32)) → ((¬ (x1 = (6 : Int32)) → T_X7_told x2 x3 μ (fun z μ2 => q z μ2) (fun E μx => (E = "java/lang/IndexOutOfBoundsException" ∧ q (-70007 : Int32) μx) ∨ (E = "java/lang/IllegalArgumentException" ∧ q (-70009 : Int32) μx) ∨ (E = "java/lang/IllegalStateException" ∧ q (-70008 : Int32) μx))) ∧ (x1 = (6 : Int32) → T_X7_move x2 x3 x4 μ (fun z μ2 => q z μ2) (fun E μx => (E = "java/lang/IndexOutOfBoundsException" ∧ q (-70007 : Int32) μx) ∨ (E = "java/lang/IllegalArgumentException" ∧ q (-70009 : Int32) μx) ∨ (E = "java/lang/IllegalStateException" ∧ q (-70008 : Int32) μx))))) ∧ (x1 = (5 : Int32) → Wp_L_closes x2 μ (fun z μ2 => q z μ2) (fun E μx => (E = "java/lang/IndexOutOfBoundsException" ∧ q (-70007 : Int32) μx) ∨ (E = "java/lang/IllegalArgumentException" ∧ q (-70009 : Int32) μx) ∨ (E = "java/lang/IllegalStateException" ∧ q (-70008 : Int32) μx))))) ∧ (x1 = (4 : Int32) → T_X7_place x2 x3 μ (fun z μ2 => q z μ2) (fun E μx => (E = "java/lang/IndexOutOfBoundsException" ∧ q (-70007 : Int32) μx) ∨ (E = "java/lang/IllegalArgumentException" ∧ q (-70009 : Int32) μx) ∨ (E = "java/lang/IllegalStateException" ∧ q (-70008 : Int32) μx))))) ∧ (x1 = (3 : Int32) → T_X7_line x2 x3 x4 μ (fun z μ2 => q z μ2) (fun E μx => (E = "java/lang/IndexOutOfBoundsException" ∧ q (-70007 : Int32) μx) ∨ (E = "java/lang/IllegalArgumentException" ∧ q (-70009 : Int32) μx) ∨ (E = "java/lang/IllegalStateException" ∧ q (-70008 : Int32) μx))))) ∧ (x1 = (2 : Int32) → T_X7_part x2 x3 μ (fun z μ2 => q z μ2) (fun E μx => (E = "java/lang/IndexOutOfBoundsException" ∧ q (-70007 : Int32) μx) ∨ (E = "java/lang/IllegalArgumentException" ∧ q (-70009 : Int32) μx) ∨ (E = "java/lang/IllegalStateException" ∧ q (-70008 : Int32) μx))))) ∧ (x1 = (1 : Int32) → T_X7_link x2 x3 x4 μ (fun z μ2 => q z μ2) (fun E μx => (E = "java/lang/IndexOutOfBoundsException" ∧ q (-70007 : Int32) μx) ∨ (E = "java/lang/IllegalArgumentException" ∧ q (-70009 : Int32) μx) ∨ (E = "java/lang/IllegalStateException" ∧ q (-70008 : Int32) μx))))) ∧ (x1 = 0 → T_X7_node x2 μ (fun z μ2 => q z μ2) (fun E μx => (E = "java/lang/IndexOutOfBoundsException" ∧ q (-70007 : Int32) μx) ∨ (E = "java/lang/IllegalArgumentException" ∧ q (-70009 : Int32) μx) ∨ (E = "java/lang/IllegalStateException" ∧ q (-70008 : Int32) μx))))
set_option maxHeartbeats 2000000 in
theorem m_L_asks {g : GE} {l : Launch} (hst : l.stackTraces = false) {μ : Mm} {q : Int32 → Mm → Prop} {x1 x2 x3 x4 : Int32} (h : Wp_L_asks x1 x2 x3 x4 μ q) : MH g l yL_asks cL_asks 6 (some .int) [(0, 108, 109, 46), (0, 108, 114, 49), (0, 108, 119, 52)] 11 271 [.ref p_ML, .int x1, .int x2, .int x3, .int x4] μ (qI q) := by
  refine hmet_of hst (by decide) (Nat.le_of_ble_eq_true rfl) (by intro v hv; simp only [List.mem_cons, List.not_mem_nil, or_false] at hv; rcases hv with rfl | rfl | rfl | rfl | rfl <;> rfl) ?_
  intro f hfl cx cx6 hr hx
  unfold Wp_L_asks at h
  show KW g f 6 0 0 0 [some (.ref p_ML), some (.int x1), some (.int x2), some (.int x3), some (.int x4), none] [] μ
  refine k_iload_n cx dL_asks_0 rfl rfl ?_
  refine k_if_ne (tgt := 12) cx dL_asks_1 (by decide) (fun hc => ?_) (fun hc => ?_)
  · replace h := h.1 hc
    refine k_iload_n cx dL_asks_12 rfl rfl ?_
    refine k_iconst (v := (1 : Int32)) cx dL_asks_13 (by decide +kernel) ?_
    refine k_icmp_ne (tgt := 28) cx dL_asks_14 (by decide) (fun hc => ?_) (fun hc => ?_)
    · replace h := h.1 hc
      refine k_iload_n cx dL_asks_28 rfl rfl ?_
      refine k_iconst (v := (2 : Int32)) cx dL_asks_29 (by decide +kernel) ?_
      refine k_icmp_ne (tgt := 42) cx dL_asks_30 (by decide) (fun hc => ?_) (fun hc => ?_)
      · replace h := h.1 hc
        refine k_iload_n cx dL_asks_42 rfl rfl ?_
        refine k_iconst (v := (3 : Int32)) cx dL_asks_43 (by decide +kernel) ?_
        refine k_icmp_ne (tgt := 58) cx dL_asks_44 (by decide) (fun hc => ?_) (fun hc => ?_)
        · replace h := h.1 hc
          refine k_iload_n cx dL_asks_58 rfl rfl ?_
          refine k_iconst (v := (4 : Int32)) cx dL_asks_59 (by decide +kernel) ?_
          refine k_icmp_ne (tgt := 72) cx dL_asks_60 (by decide) (fun hc => ?_) (fun hc => ?_)
          · replace h := h.1 hc
            refine k_iload_n cx dL_asks_72 rfl rfl ?_
            refine k_iconst (v := (5 : Int32)) cx dL_asks_73 (by decide +kernel) ?_
            refine k_icmp_ne (tgt := 85) cx dL_asks_74 (by decide) (fun hc => ?_) (fun hc => ?_)
            · replace h := h.1 hc
              refine k_iload_n cx dL_asks_85 rfl rfl ?_
              refine k_bipush (v := (6 : Int32)) cx dL_asks_86 (by decide +kernel) ?_
              refine k_icmp_ne (tgt := 102) cx dL_asks_88 (by decide) (fun hc => ?_) (fun hc => ?_)
              · replace h := h.1 hc
                refine k_aload_n cx dL_asks_102 rfl rfl ?_
                refine k_iload_n cx dL_asks_103 rfl rfl ?_
                refine k_iload_n cx dL_asks_104 rfl rfl ?_
                obtain ⟨q0, qx0, h0, hq0, hx0⟩ := h
                refine k_callX (As := [.int x2, .int x3]) (rest := []) cx hx (m_X7_told hx.2.2.2.2.1 h0) lk_L_43 cv_L_43 ob_ML rfl rfl rfl rfl (Nat.le_of_ble_eq_true rfl) ⟨Nat.le_of_ble_eq_true rfl, Nat.le_of_ble_eq_true rfl⟩ dL_asks_105 (fun E μx hq => ?_) (fun v μ2 hq => ?_)
                · rcases hx0 _ _ hq with ⟨rfl, h⟩ | ⟨rfl, h⟩ | ⟨rfl, h⟩
                  · refine ⟨109, hd_105_eB, 5, by decide, Or.inr ⟨dL_asks_109, ?_⟩⟩
                    refine k_ldc (v := (-70007 : Int32)) cx6 kc_L_48 dL_asks_111 ?_
                    exact k_hret_I cx6 hr hx dL_asks_113 h
                  · refine ⟨114, hd_105_eA, 5, by decide, Or.inr ⟨dL_asks_114, ?_⟩⟩
                    refine k_ldc (v := (-70009 : Int32)) cx6 kc_L_51 dL_asks_116 ?_
                    exact k_hret_I cx6 hr hx dL_asks_118 h
                  · refine ⟨119, hd_105_eS, 5, by decide, Or.inr ⟨dL_asks_119, ?_⟩⟩
                    refine k_ldc (v := (-70008 : Int32)) cx6 kc_L_54 dL_asks_121 ?_
                    exact k_hret_I cx6 hr hx dL_asks_123 h
                · obtain ⟨z, rfl, h⟩ := hq
                  replace h := hq0 _ _ h
                  exact k_hret_I cx6 hr hx dL_asks_108 h
              · replace h := h.2 hc
                refine k_aload_n cx dL_asks_91 rfl rfl ?_
                refine k_iload_n cx dL_asks_92 rfl rfl ?_
                refine k_iload_n cx dL_asks_93 rfl rfl ?_
                refine k_iload cx dL_asks_94 rfl ?_
                obtain ⟨q0, qx0, h0, hq0, hx0⟩ := h
                refine k_callX (As := [.int x2, .int x3, .int x4]) (rest := []) cx hx (m_X7_move hx.2.2.2.2.1 h0) lk_L_40 cv_L_40 ob_ML rfl rfl rfl rfl (Nat.le_of_ble_eq_true rfl) ⟨Nat.le_of_ble_eq_true rfl, Nat.le_of_ble_eq_true rfl⟩ dL_asks_96 (fun E μx hq => ?_) (fun v μ2 hq => ?_)
                · rcases hx0 _ _ hq with ⟨rfl, h⟩ | ⟨rfl, h⟩ | ⟨rfl, h⟩
                  · refine ⟨109, hd_96_eB, 5, by decide, Or.inr ⟨dL_asks_109, ?_⟩⟩
                    refine k_ldc (v := (-70007 : Int32)) cx6 kc_L_48 dL_asks_111 ?_
                    exact k_hret_I cx6 hr hx dL_asks_113 h
                  · refine ⟨114, hd_96_eA, 5, by decide, Or.inr ⟨dL_asks_114, ?_⟩⟩
                    refine k_ldc (v := (-70009 : Int32)) cx6 kc_L_51 dL_asks_116 ?_
                    exact k_hret_I cx6 hr hx dL_asks_118 h
                  · refine ⟨119, hd_96_eS, 5, by decide, Or.inr ⟨dL_asks_119, ?_⟩⟩
                    refine k_ldc (v := (-70008 : Int32)) cx6 kc_L_54 dL_asks_121 ?_
                    exact k_hret_I cx6 hr hx dL_asks_123 h
                · obtain ⟨z, rfl, h⟩ := hq
                  replace h := hq0 _ _ h
                  refine k_goto (tgt := 108) cx6 dL_asks_99 (by decide) ?_
                  exact k_hret_I cx6 hr hx dL_asks_108 h
            · replace h := h.2 hc
              refine k_aload_n cx dL_asks_77 rfl rfl ?_
              refine k_iload_n cx dL_asks_78 rfl rfl ?_
              refine k_callXs (As := [.ref p_ML, .int x2]) (rest := []) cx hx (m_L_closes hx.2.2.2.2.1 h) cs_L_closes rfl rfl (Nat.le_of_ble_eq_true rfl) ⟨Nat.le_of_ble_eq_true rfl, Nat.le_of_ble_eq_true rfl⟩ dL_asks_79 (fun E μx hq => ?_) (fun v μ2 hq => ?_)
              · rcases hq with ⟨rfl, h⟩ | ⟨rfl, h⟩ | ⟨rfl, h⟩
                · refine ⟨109, hd_79_eB, 5, by decide, Or.inr ⟨dL_asks_109, ?_⟩⟩
                  refine k_ldc (v := (-70007 : Int32)) cx6 kc_L_48 dL_asks_111 ?_
                  exact k_hret_I cx6 hr hx dL_asks_113 h
                · refine ⟨114, hd_79_eA, 5, by decide, Or.inr ⟨dL_asks_114, ?_⟩⟩
                  refine k_ldc (v := (-70009 : Int32)) cx6 kc_L_51 dL_asks_116 ?_
                  exact k_hret_I cx6 hr hx dL_asks_118 h
                · refine ⟨119, hd_79_eS, 5, by decide, Or.inr ⟨dL_asks_119, ?_⟩⟩
                  refine k_ldc (v := (-70008 : Int32)) cx6 kc_L_54 dL_asks_121 ?_
                  exact k_hret_I cx6 hr hx dL_asks_123 h
              · obtain ⟨z, rfl, h⟩ := hq
                refine k_goto (tgt := 108) cx6 dL_asks_82 (by decide) ?_
                exact k_hret_I cx6 hr hx dL_asks_108 h
          · replace h := h.2 hc
            refine k_aload_n cx dL_asks_63 rfl rfl ?_
            refine k_iload_n cx dL_asks_64 rfl rfl ?_
            refine k_iload_n cx dL_asks_65 rfl rfl ?_
            obtain ⟨q0, qx0, h0, hq0, hx0⟩ := h
            refine k_callX (As := [.int x2, .int x3]) (rest := []) cx hx (m_X7_place hx.2.2.2.2.1 h0) lk_L_31 cv_L_31 ob_ML rfl rfl rfl rfl (Nat.le_of_ble_eq_true rfl) ⟨Nat.le_of_ble_eq_true rfl, Nat.le_of_ble_eq_true rfl⟩ dL_asks_66 (fun E μx hq => ?_) (fun v μ2 hq => ?_)
            · rcases hx0 _ _ hq with ⟨rfl, h⟩ | ⟨rfl, h⟩ | ⟨rfl, h⟩
              · refine ⟨109, hd_66_eB, 5, by decide, Or.inr ⟨dL_asks_109, ?_⟩⟩
                refine k_ldc (v := (-70007 : Int32)) cx6 kc_L_48 dL_asks_111 ?_
                exact k_hret_I cx6 hr hx dL_asks_113 h
              · refine ⟨114, hd_66_eA, 5, by decide, Or.inr ⟨dL_asks_114, ?_⟩⟩
                refine k_ldc (v := (-70009 : Int32)) cx6 kc_L_51 dL_asks_116 ?_
                exact k_hret_I cx6 hr hx dL_asks_118 h
              · refine ⟨119, hd_66_eS, 5, by decide, Or.inr ⟨dL_asks_119, ?_⟩⟩
                refine k_ldc (v := (-70008 : Int32)) cx6 kc_L_54 dL_asks_121 ?_
                exact k_hret_I cx6 hr hx dL_asks_123 h
            · obtain ⟨z, rfl, h⟩ := hq
              replace h := hq0 _ _ h
              refine k_goto (tgt := 108) cx6 dL_asks_69 (by decide) ?_
              exact k_hret_I cx6 hr hx dL_asks_108 h
        · replace h := h.2 hc
          refine k_aload_n cx dL_asks_47 rfl rfl ?_
          refine k_iload_n cx dL_asks_48 rfl rfl ?_
          refine k_iload_n cx dL_asks_49 rfl rfl ?_
          refine k_iload cx dL_asks_50 rfl ?_
          obtain ⟨q0, qx0, h0, hq0, hx0⟩ := h
          refine k_callX (As := [.int x2, .int x3, .int x4]) (rest := []) cx hx (m_X7_line hx.2.2.2.2.1 h0) lk_L_28 cv_L_28 ob_ML rfl rfl rfl rfl (Nat.le_of_ble_eq_true rfl) ⟨Nat.le_of_ble_eq_true rfl, Nat.le_of_ble_eq_true rfl⟩ dL_asks_52 (fun E μx hq => ?_) (fun v μ2 hq => ?_)
          · rcases hx0 _ _ hq with ⟨rfl, h⟩ | ⟨rfl, h⟩ | ⟨rfl, h⟩
            · refine ⟨109, hd_52_eB, 5, by decide, Or.inr ⟨dL_asks_109, ?_⟩⟩
              refine k_ldc (v := (-70007 : Int32)) cx6 kc_L_48 dL_asks_111 ?_
              exact k_hret_I cx6 hr hx dL_asks_113 h
            · refine ⟨114, hd_52_eA, 5, by decide, Or.inr ⟨dL_asks_114, ?_⟩⟩
              refine k_ldc (v := (-70009 : Int32)) cx6 kc_L_51 dL_asks_116 ?_
              exact k_hret_I cx6 hr hx dL_asks_118 h
            · refine ⟨119, hd_52_eS, 5, by decide, Or.inr ⟨dL_asks_119, ?_⟩⟩
              refine k_ldc (v := (-70008 : Int32)) cx6 kc_L_54 dL_asks_121 ?_
              exact k_hret_I cx6 hr hx dL_asks_123 h
          · obtain ⟨z, rfl, h⟩ := hq
            replace h := hq0 _ _ h
            refine k_goto (tgt := 108) cx6 dL_asks_55 (by decide) ?_
            exact k_hret_I cx6 hr hx dL_asks_108 h
      · replace h := h.2 hc
        refine k_aload_n cx dL_asks_33 rfl rfl ?_
        refine k_iload_n cx dL_asks_34 rfl rfl ?_
        refine k_iload_n cx dL_asks_35 rfl rfl ?_
        obtain ⟨q0, qx0, h0, hq0, hx0⟩ := h
        refine k_callX (As := [.int x2, .int x3]) (rest := []) cx hx (m_X7_part hx.2.2.2.2.1 h0) lk_L_24 cv_L_24 ob_ML rfl rfl rfl rfl (Nat.le_of_ble_eq_true rfl) ⟨Nat.le_of_ble_eq_true rfl, Nat.le_of_ble_eq_true rfl⟩ dL_asks_36 (fun E μx hq => ?_) (fun v μ2 hq => ?_)
        · rcases hx0 _ _ hq with ⟨rfl, h⟩ | ⟨rfl, h⟩ | ⟨rfl, h⟩
          · refine ⟨109, hd_36_eB, 5, by decide, Or.inr ⟨dL_asks_109, ?_⟩⟩
            refine k_ldc (v := (-70007 : Int32)) cx6 kc_L_48 dL_asks_111 ?_
            exact k_hret_I cx6 hr hx dL_asks_113 h
          · refine ⟨114, hd_36_eA, 5, by decide, Or.inr ⟨dL_asks_114, ?_⟩⟩
            refine k_ldc (v := (-70009 : Int32)) cx6 kc_L_51 dL_asks_116 ?_
            exact k_hret_I cx6 hr hx dL_asks_118 h
          · refine ⟨119, hd_36_eS, 5, by decide, Or.inr ⟨dL_asks_119, ?_⟩⟩
            refine k_ldc (v := (-70008 : Int32)) cx6 kc_L_54 dL_asks_121 ?_
            exact k_hret_I cx6 hr hx dL_asks_123 h
        · obtain ⟨z, rfl, h⟩ := hq
          replace h := hq0 _ _ h
          refine k_goto (tgt := 108) cx6 dL_asks_39 (by decide) ?_
          exact k_hret_I cx6 hr hx dL_asks_108 h
    · replace h := h.2 hc
      refine k_aload_n cx dL_asks_17 rfl rfl ?_
      refine k_iload_n cx dL_asks_18 rfl rfl ?_
      refine k_iload_n cx dL_asks_19 rfl rfl ?_
      refine k_iload cx dL_asks_20 rfl ?_
      obtain ⟨q0, qx0, h0, hq0, hx0⟩ := h
      refine k_callX (As := [.int x2, .int x3, .int x4]) (rest := []) cx hx (m_X7_link hx.2.2.2.2.1 h0) lk_L_20 cv_L_20 ob_ML rfl rfl rfl rfl (Nat.le_of_ble_eq_true rfl) ⟨Nat.le_of_ble_eq_true rfl, Nat.le_of_ble_eq_true rfl⟩ dL_asks_22 (fun E μx hq => ?_) (fun v μ2 hq => ?_)
      · rcases hx0 _ _ hq with ⟨rfl, h⟩ | ⟨rfl, h⟩ | ⟨rfl, h⟩
        · refine ⟨109, hd_22_eB, 5, by decide, Or.inr ⟨dL_asks_109, ?_⟩⟩
          refine k_ldc (v := (-70007 : Int32)) cx6 kc_L_48 dL_asks_111 ?_
          exact k_hret_I cx6 hr hx dL_asks_113 h
        · refine ⟨114, hd_22_eA, 5, by decide, Or.inr ⟨dL_asks_114, ?_⟩⟩
          refine k_ldc (v := (-70009 : Int32)) cx6 kc_L_51 dL_asks_116 ?_
          exact k_hret_I cx6 hr hx dL_asks_118 h
        · refine ⟨119, hd_22_eS, 5, by decide, Or.inr ⟨dL_asks_119, ?_⟩⟩
          refine k_ldc (v := (-70008 : Int32)) cx6 kc_L_54 dL_asks_121 ?_
          exact k_hret_I cx6 hr hx dL_asks_123 h
      · obtain ⟨z, rfl, h⟩ := hq
        replace h := hq0 _ _ h
        refine k_goto (tgt := 108) cx6 dL_asks_25 (by decide) ?_
        exact k_hret_I cx6 hr hx dL_asks_108 h
  · replace h := h.2 hc
    refine k_aload_n cx dL_asks_4 rfl rfl ?_
    refine k_iload_n cx dL_asks_5 rfl rfl ?_
    obtain ⟨q0, qx0, h0, hq0, hx0⟩ := h
    refine k_callX (As := [.int x2]) (rest := []) cx hx (m_X7_node hx.2.2.2.2.1 h0) lk_L_16 cv_L_16 ob_ML rfl rfl rfl rfl (Nat.le_of_ble_eq_true rfl) ⟨Nat.le_of_ble_eq_true rfl, Nat.le_of_ble_eq_true rfl⟩ dL_asks_6 (fun E μx hq => ?_) (fun v μ2 hq => ?_)
    · rcases hx0 _ _ hq with ⟨rfl, h⟩ | ⟨rfl, h⟩ | ⟨rfl, h⟩
      · refine ⟨109, hd_6_eB, 5, by decide, Or.inr ⟨dL_asks_109, ?_⟩⟩
        refine k_ldc (v := (-70007 : Int32)) cx6 kc_L_48 dL_asks_111 ?_
        exact k_hret_I cx6 hr hx dL_asks_113 h
      · refine ⟨114, hd_6_eA, 5, by decide, Or.inr ⟨dL_asks_114, ?_⟩⟩
        refine k_ldc (v := (-70009 : Int32)) cx6 kc_L_51 dL_asks_116 ?_
        exact k_hret_I cx6 hr hx dL_asks_118 h
      · refine ⟨119, hd_6_eS, 5, by decide, Or.inr ⟨dL_asks_119, ?_⟩⟩
        refine k_ldc (v := (-70008 : Int32)) cx6 kc_L_54 dL_asks_121 ?_
        exact k_hret_I cx6 hr hx dL_asks_123 h
    · obtain ⟨z, rfl, h⟩ := hq
      replace h := hq0 _ _ h
      refine k_goto (tgt := 108) cx6 dL_asks_9 (by decide) ?_
      exact k_hret_I cx6 hr hx dL_asks_108 h
