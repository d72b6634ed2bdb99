theorem dX7_way_0 : decode cX7_way 0 = .ok (.aload_n 0, 1) := by decide +kernel
theorem dX7_way_1 : decode cX7_way 1 = .ok (.iload_n 1, 1) := by decide +kernel
theorem dX7_way_2 : decode cX7_way 2 = .ok (.invokevirtual 177, 3) := by decide +kernel
theorem dX7_way_5 : decode cX7_way 5 = .ok (.ifCond .eq 16, 3) := by decide +kernel
theorem dX7_way_8 : decode cX7_way 8 = .ok (.aload_n 0, 1) := by decide +kernel
theorem dX7_way_9 : decode cX7_way 9 = .ok (.getfield 52, 3) := by decide +kernel
theorem dX7_way_12 : decode cX7_way 12 = .ok (.iload_n 1, 1) := by decide +kernel
theorem dX7_way_13 : decode cX7_way 13 = .ok (.aaload, 1) := by decide +kernel
theorem dX7_way_14 : decode cX7_way 14 = .ok (.iload_n 2, 1) := by decide +kernel
theorem dX7_way_15 : decode cX7_way 15 = .ok (.invokevirtual 241, 3) := by decide +kernel
theorem dX7_way_18 : decode cX7_way 18 = .ok (.ifCond .ne 13, 3) := by decide +kernel
theorem dX7_way_21 : decode cX7_way 21 = .ok (.new 81, 3) := by decide +kernel
theorem dX7_way_24 : decode cX7_way 24 = .ok (.dup, 1) := by decide +kernel
theorem dX7_way_25 : decode cX7_way 25 = .ok (.ldc 244, 2) := by decide +kernel
theorem dX7_way_27 : decode cX7_way 27 = .ok (.invokespecial 85, 3) := by decide +kernel
theorem dX7_way_30 : decode cX7_way 30 = .ok (.athrow, 1) := by decide +kernel
theorem dX7_way_31 : decode cX7_way 31 = .ok (.iload_n 3, 1) := by decide +kernel
theorem dX7_way_32 : decode cX7_way 32 = .ok (.ifCond .lt 8, 3) := by decide +kernel
theorem dX7_way_35 : decode cX7_way 35 = .ok (.iload_n 3, 1) := by decide +kernel
theorem dX7_way_36 : decode cX7_way 36 = .ok (.iconst 2, 1) := by decide +kernel
theorem dX7_way_37 : decode cX7_way 37 = .ok (.if_icmp .le 13, 3) := by decide +kernel
theorem dX7_way_40 : decode cX7_way 40 = .ok (.new 57, 3) := by decide +kernel
theorem dX7_way_43 : decode cX7_way 43 = .ok (.dup, 1) := by decide +kernel
theorem dX7_way_44 : decode cX7_way 44 = .ok (.ldc 246, 2) := by decide +kernel
theorem dX7_way_46 : decode cX7_way 46 = .ok (.invokespecial 61, 3) := by decide +kernel
theorem dX7_way_49 : decode cX7_way 49 = .ok (.athrow, 1) := by decide +kernel
theorem dX7_way_50 : decode cX7_way 50 = .ok (.aload_n 0, 1) := by decide +kernel
theorem dX7_way_51 : decode cX7_way 51 = .ok (.getfield 52, 3) := by decide +kernel
theorem dX7_way_54 : decode cX7_way 54 = .ok (.iload_n 1, 1) := by decide +kernel
theorem dX7_way_55 : decode cX7_way 55 = .ok (.aaload, 1) := by decide +kernel
theorem dX7_way_56 : decode cX7_way 56 = .ok (.astore 4, 2) := by decide +kernel
theorem dX7_way_58 : decode cX7_way 58 = .ok (.iload_n 3, 1) := by decide +kernel
theorem dX7_way_59 : decode cX7_way 59 = .ok (.lookupswitch 41 #[(0, 25), (1, 33)], 25) := by decide +kernel
theorem dX7_way_84 : decode cX7_way 84 = .ok (.aload 4, 2) := by decide +kernel
theorem dX7_way_86 : decode cX7_way 86 = .ok (.getfield 248, 3) := by decide +kernel
theorem dX7_way_89 : decode cX7_way 89 = .ok (.iload_n 2, 1) := by decide +kernel
theorem dX7_way_90 : decode cX7_way 90 = .ok (.iaload, 1) := by decide +kernel
theorem dX7_way_91 : decode cX7_way 91 = .ok (.ireturn, 1) := by decide +kernel
theorem dX7_way_92 : decode cX7_way 92 = .ok (.aload 4, 2) := by decide +kernel
theorem dX7_way_94 : decode cX7_way 94 = .ok (.getfield 251, 3) := by decide +kernel
theorem dX7_way_97 : decode cX7_way 97 = .ok (.iload_n 2, 1) := by decide +kernel
theorem dX7_way_98 : decode cX7_way 98 = .ok (.iaload, 1) := by decide +kernel
theorem dX7_way_99 : decode cX7_way 99 = .ok (.ireturn, 1) := by decide +kernel
theorem dX7_way_100 : decode cX7_way 100 = .ok (.aload 4, 2) := by decide +kernel
theorem dX7_way_102 : decode cX7_way 102 = .ok (.getfield 254, 3) := by decide +kernel
theorem dX7_way_105 : decode cX7_way 105 = .ok (.iload_n 2, 1) := by decide +kernel
theorem dX7_way_106 : decode cX7_way 106 = .ok (.iaload, 1) := by decide +kernel
theorem dX7_way_107 : decode cX7_way 107 = .ok (.ireturn, 1) := by decide +kernel
def F_X7_way_e   (q : Int32 → Mm → Prop) (qx : String → Mm → Prop) (x1 : Int32) (x2 : Int32) (x3 : Int32) (μ : Mm) : Prop :=
  Wp_X7_isPlaced x1 μ (fun b2 μ1 => (((bI b2) = 0 → qx "java/lang/IndexOutOfBoundsException" μ1) ∧ (¬ ((bI b2) = 0) → vp_in x1 13 ∧ Wp_X5_hasLine (p_RQ + 11 * (x1).toNatClampNeg) x2 μ1 (fun b4 μ3 => ((¬ ((bI b4) = 0) → ((x3 < 0 → qx "java/lang/IllegalArgumentException" μ3) ∧ (¬ (x3 < 0) → ((x3 ≤ (2 : Int32) → vp_in x1 13 ∧ ((x3 = 0 → vp_in x2 3 ∧ q (μ3 ((p_RQ + 11 * (x1).toNatClampNeg) + 7) (x2).toNatClampNeg) μ3) ∧ (¬ (x3 = 0) → ((x3 = 1 → vp_in x2 3 ∧ q (μ3 ((p_RQ + 11 * (x1).toNatClampNeg) + 9) (x2).toNatClampNeg) μ3) ∧ (¬ (x3 = 1) → vp_in x2 3 ∧ q (μ3 ((p_RQ + 11 * (x1).toNatClampNeg) + 10) (x2).toNatClampNeg) μ3))))) ∧ (¬ (x3 ≤ (2 : Int32)) → qx "java/lang/IllegalArgumentException" μ3))))) ∧ ((bI b4) = 0 → qx "java/lang/IndexOutOfBoundsException" μ3))))))
def Wp_X7_way  (x1 : Int32) (x2 : Int32) (x3 : Int32) (μ : Mm) (q : Int32 → Mm → Prop) (qx : String → Mm → Prop) : Prop := F_X7_way_e   q qx x1 x2 x3 μ
set_option maxHeartbeats 2000000 in
theorem b_X7_way_e  {g : GE} {f : FE} {q : Int32 → Mm → Prop} {qx : String → Mm → Prop} (cx : Cx g f cX7_way 5 RX7 6 90 0 0) (hr : (f_M f).sig.returnType = (some .int)) (fx : FX g f (qI q) qx)  {x1 : Int32} {x2 : Int32} {x3 : Int32} {μ : Mm} (h : F_X7_way_e   q qx x1 x2 x3 μ) : KW g f 5 0 0 0 [some (.ref p_ML), some (.int x1), some (.int x2), some (.int x3), none] [] μ := by
  unfold F_X7_way_e at h
  refine k_aload_n cx dX7_way_0 rfl rfl ?_
  refine k_iload_n cx dX7_way_1 rfl rfl ?_
  refine k_callV (As := [.int x1]) (rest := []) cx (m_X7_isPlaced h) cv_X7_177 ob_ML rfl rfl rfl rfl (Nat.le_of_ble_eq_true rfl) ⟨Nat.le_of_ble_eq_true rfl, Nat.le_of_ble_eq_true rfl⟩ dX7_way_2 (fun v μ1 hq => ?_)
  obtain ⟨b2, rfl, h⟩ := hq
  refine k_if_eq (tgt := 21) cx dX7_way_5 (by decide) (fun hc => ?_) (fun hc => ?_)
  · replace h := h.1 hc
    exact k_throw (text := "no such request, or line of it") cx fx (by decide +kernel) (by decide +kernel) tk_IndexOutOfBoundsException ti_IndexOutOfBoundsException th_IndexOutOfBoundsException (Nat.le_of_ble_eq_true rfl) (Nat.le_of_ble_eq_true rfl) (Nat.le_of_ble_eq_true rfl) h dX7_way_21 dX7_way_24 dX7_way_25 dX7_way_27 dX7_way_30
  · replace h := h.2 hc
    refine k_aload_n cx dX7_way_8 rfl rfl ?_
    refine k_get (o := some p_ML_requests) (v := .ref p_ML_requests) cx fl_X7_52 ob_ML rfl rfl dX7_way_9 ?_
    refine k_iload_n cx dX7_way_12 rfl rfl ?_
    obtain ⟨hi1, h⟩ := h
    refine k_aald_ML_requests cx hi1 dX7_way_13 ?_
    refine k_iload_n cx dX7_way_14 rfl rfl ?_
    refine k_callV (As := [.int x2]) (rest := []) cx (m_X5_hasLine (vp_req hi1) h) cv_X7_241 (ob_RQ (vp_req hi1)) rfl rfl rfl rfl (Nat.le_of_ble_eq_true rfl) ⟨Nat.le_of_ble_eq_true rfl, Nat.le_of_ble_eq_true rfl⟩ dX7_way_15 (fun v μ3 hq => ?_)
    obtain ⟨b4, rfl, h⟩ := hq
    refine k_if_ne (tgt := 31) cx dX7_way_18 (by decide) (fun hc => ?_) (fun hc => ?_)
    · replace h := h.1 hc
      refine k_iload_n cx dX7_way_31 rfl rfl ?_
      refine k_if_lt (tgt := 40) cx dX7_way_32 (by decide) (fun hc => ?_) (fun hc => ?_)
      · replace h := h.1 hc
        exact k_throw (text := "which is out of range") cx fx (by decide +kernel) (by decide +kernel) tk_IllegalArgumentException ti_IllegalArgumentException th_IllegalArgumentException (Nat.le_of_ble_eq_true rfl) (Nat.le_of_ble_eq_true rfl) (Nat.le_of_ble_eq_true rfl) h dX7_way_40 dX7_way_43 dX7_way_44 dX7_way_46 dX7_way_49
      · replace h := h.2 hc
        refine k_iload_n cx dX7_way_35 rfl rfl ?_
        refine k_iconst (v := (2 : Int32)) cx dX7_way_36 (by decide +kernel) ?_
        refine k_icmp_le (tgt := 50) cx dX7_way_37 (by decide) (fun hc => ?_) (fun hc => ?_)
        · replace h := h.1 hc
          refine k_aload_n cx dX7_way_50 rfl rfl ?_
          refine k_get (o := some p_ML_requests) (v := .ref p_ML_requests) cx fl_X7_52 ob_ML rfl rfl dX7_way_51 ?_
          refine k_iload_n cx dX7_way_54 rfl rfl ?_
          obtain ⟨hi2, h⟩ := h
          refine k_aald_ML_requests cx hi2 dX7_way_55 ?_
          refine k_astore cx dX7_way_56 (by decide) ?_
          refine k_iload_n cx dX7_way_58 rfl rfl ?_
          by_cases hx0 : x3 = 0
          · replace h := h.1 hx0
            refine k_lookup (off := 25) (tgt := 84) cx dX7_way_59 (by decide) (by rw [hx0]; decide) (by decide) ?_
            refine k_aload cx dX7_way_84 rfl ?_
            refine k_get (o := some ((p_RQ + 11 * (x1).toNatClampNeg) + 7)) (v := .ref ((p_RQ + 11 * (x1).toNatClampNeg) + 7)) cx fl_X7_248 (ob_RQ (vp_req hi2)) rfl rfl dX7_way_86 ?_
            refine k_iload_n cx dX7_way_89 rfl rfl ?_
            obtain ⟨hi, h⟩ := h
            refine k_iald cx (ar_RQ (vp_req hi2) 7 (by decide) (by decide)) hi dX7_way_90 ?_
            exact k_xret_I cx hr fx dX7_way_91 h
          · replace h := h.2 hx0
            by_cases hx1 : x3 = 1
            · replace h := h.1 hx1
              refine k_lookup (off := 33) (tgt := 92) cx dX7_way_59 (by decide) (by rw [hx1]; decide) (by decide) ?_
              refine k_aload cx dX7_way_92 rfl ?_
              refine k_get (o := some ((p_RQ + 11 * (x1).toNatClampNeg) + 9)) (v := .ref ((p_RQ + 11 * (x1).toNatClampNeg) + 9)) cx fl_X7_251 (ob_RQ (vp_req hi2)) rfl rfl dX7_way_94 ?_
              refine k_iload_n cx dX7_way_97 rfl rfl ?_
              obtain ⟨hi, h⟩ := h
              refine k_iald cx (ar_RQ (vp_req hi2) 9 (by decide) (by decide)) hi dX7_way_98 ?_
              exact k_xret_I cx hr fx dX7_way_99 h
            · replace h := h.2 hx1
              refine k_lookup (off := 41) (tgt := 100) cx dX7_way_59 (by decide) (lk_0_1 hx0 hx1) (by decide) ?_
              refine k_aload cx dX7_way_100 rfl ?_
              refine k_get (o := some ((p_RQ + 11 * (x1).toNatClampNeg) + 10)) (v := .ref ((p_RQ + 11 * (x1).toNatClampNeg) + 10)) cx fl_X7_254 (ob_RQ (vp_req hi2)) rfl rfl dX7_way_102 ?_
              refine k_iload_n cx dX7_way_105 rfl rfl ?_
              obtain ⟨hi, h⟩ := h
              refine k_iald cx (ar_RQ (vp_req hi2) 10 (by decide) (by decide)) hi dX7_way_106 ?_
              exact k_xret_I cx hr fx dX7_way_107 h
        · replace h := h.2 hc
          exact k_throw (text := "which is out of range") cx fx (by decide +kernel) (by decide +kernel) tk_IllegalArgumentException ti_IllegalArgumentException th_IllegalArgumentException (Nat.le_of_ble_eq_true rfl) (Nat.le_of_ble_eq_true rfl) (Nat.le_of_ble_eq_true rfl) h dX7_way_40 dX7_way_43 dX7_way_44 dX7_way_46 dX7_way_49
    · replace h := h.2 hc
      exact k_throw (text := "no such request, or line of it") cx fx (by decide +kernel) (by decide +kernel) tk_IndexOutOfBoundsException ti_IndexOutOfBoundsException th_IndexOutOfBoundsException (Nat.le_of_ble_eq_true rfl) (Nat.le_of_ble_eq_true rfl) (Nat.le_of_ble_eq_true rfl) h dX7_way_21 dX7_way_24 dX7_way_25 dX7_way_27 dX7_way_30
theorem m_X7_way {g : GE} {l : Launch} (hst : l.stackTraces = false) {μ : Mm} {q : Int32 → Mm → Prop} {qx : String → Mm → Prop} {x1 : Int32} {x2 : Int32} {x3 : Int32}  (h : Wp_X7_way  x1 x2 x3 μ q qx) : MX g l yX7_way cX7_way 5 (some .int) 6 90 [.ref p_ML, .int x1, .int x2, .int x3] μ (qI q) qx := by
  refine xmet_of hst (by decide) (Nat.le_of_ble_eq_true rfl) (by intro v hv; simp only [List.mem_cons, List.not_mem_nil, or_false] at hv; rcases hv with rfl | rfl | rfl | rfl <;> rfl) ?_
  intro f hfl cx hr fx
  exact b_X7_way_e  cx hr fx (h  )
