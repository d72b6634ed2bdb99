theorem tb_1 {w : Cond} (h : w ∈ tables_1_1) : w ∈ tables_1 := List.mem_append_left _ h
theorem tb_2 {w : Cond} (h : w ∈ tables_1_2) : w ∈ tables_1 := List.mem_append_right _ (List.mem_append_left _ h)
theorem tb_3 {w : Cond} (h : w ∈ tables_1_3) : w ∈ tables_1 := List.mem_append_right _ (List.mem_append_right _ (List.mem_append_left _ h))
theorem tb_4 {w : Cond} (h : w ∈ tables_1_4) : w ∈ tables_1 := List.mem_append_right _ (List.mem_append_right _ (List.mem_append_right _ h))
set_option maxRecDepth 100000 in
theorem tq_L_bits : tables_1_4[113]? = some (Cond.code yL_bits cL_bits 3 (some .int)) := rfl
theorem cd_L_bits : Cond.code yL_bits cL_bits 3 (some .int) ∈ Om := List.mem_filter.mpr ⟨List.mem_append_right _ (tb_4 (List.mem_of_getElem? tq_L_bits)), rfl⟩
theorem cv_L_55 : CS_ RL 55 yL_bits cL_bits 3 (some .int) 1 := ⟨Or.inl (om_tbl 851 (by decide +kernel) rfl), (om_tbl 852 (by decide +kernel) rfl), (om_tbl 20 (by decide +kernel) rfl), cd_L_bits, by decide +kernel, by decide +kernel, by decide +kernel⟩
set_option maxRecDepth 100000 in
theorem tq_L_isWay : tables_1_4[116]? = some (Cond.code yL_isWay cL_isWay 9 (some .boolean)) := rfl
theorem cd_L_isWay : Cond.code yL_isWay cL_isWay 9 (some .boolean) ∈ Om := List.mem_filter.mpr ⟨List.mem_append_right _ (tb_4 (List.mem_of_getElem? tq_L_isWay)), rfl⟩
theorem cv_L_64 : CS_ RL 64 yL_isWay cL_isWay 9 (some .boolean) 5 := ⟨Or.inl (om_tbl 854 (by decide +kernel) rfl), (om_tbl 855 (by decide +kernel) rfl), (om_tbl 20 (by decide +kernel) rfl), cd_L_isWay, by decide +kernel, by decide +kernel, by decide +kernel⟩
set_option maxRecDepth 100000 in
theorem tq_L_isRequest : tables_1_4[110]? = some (Cond.code yL_isRequest cL_isRequest 17 (some .boolean)) := rfl
theorem cd_L_isRequest : Cond.code yL_isRequest cL_isRequest 17 (some .boolean) ∈ Om := List.mem_filter.mpr ⟨List.mem_append_right _ (tb_4 (List.mem_of_getElem? tq_L_isRequest)), rfl⟩
theorem cv_L_85 : CS_ RL 85 yL_isRequest cL_isRequest 17 (some .boolean) 6 := ⟨Or.inl (om_tbl 848 (by decide +kernel) rfl), (om_tbl 849 (by decide +kernel) rfl), (om_tbl 20 (by decide +kernel) rfl), cd_L_isRequest, by decide +kernel, by decide +kernel, by decide +kernel⟩
set_option maxRecDepth 100000 in
theorem tq_L_areRooms : tables_1_4[119]? = some (Cond.code yL_areRooms cL_areRooms 13 (some .boolean)) := rfl
theorem cd_L_areRooms : Cond.code yL_areRooms cL_areRooms 13 (some .boolean) ∈ Om := List.mem_filter.mpr ⟨List.mem_append_right _ (tb_4 (List.mem_of_getElem? tq_L_areRooms)), rfl⟩
theorem cv_L_92 : CS_ RL 92 yL_areRooms cL_areRooms 13 (some .boolean) 5 := ⟨Or.inl (om_tbl 857 (by decide +kernel) rfl), (om_tbl 858 (by decide +kernel) rfl), (om_tbl 20 (by decide +kernel) rfl), cd_L_areRooms, by decide +kernel, by decide +kernel, by decide +kernel⟩
set_option maxRecDepth 100000 in
theorem tq_L_frees : tables_1_4[59]? = some (Cond.code yL_frees cL_frees 8 (some .boolean)) := rfl
theorem cd_L_frees : Cond.code yL_frees cL_frees 8 (some .boolean) ∈ Om := List.mem_filter.mpr ⟨List.mem_append_right _ (tb_4 (List.mem_of_getElem? tq_L_frees)), rfl⟩
theorem cv_L_105 : CS_ RL 105 yL_frees cL_frees 8 (some .boolean) 4 := ⟨Or.inl (om_tbl 797 (by decide +kernel) rfl), (om_tbl 798 (by decide +kernel) rfl), (om_tbl 20 (by decide +kernel) rfl), cd_L_frees, by decide +kernel, by decide +kernel, by decide +kernel⟩
set_option maxRecDepth 100000 in
theorem tq_L_draw : tables_1_2[68]? = some (Cond.code yL_draw cL_draw 4 (some .int)) := rfl
theorem cd_L_draw : Cond.code yL_draw cL_draw 4 (some .int) ∈ Om := List.mem_filter.mpr ⟨List.mem_append_right _ (tb_2 (List.mem_of_getElem? tq_L_draw)), rfl⟩
theorem cv_L_117 : CS_ RL 117 yL_draw cL_draw 4 (some .int) 3 := ⟨Or.inl (om_tbl 326 (by decide +kernel) rfl), (om_tbl 327 (by decide +kernel) rfl), (om_tbl 20 (by decide +kernel) rfl), cd_L_draw, by decide +kernel, by decide +kernel, by decide +kernel⟩
set_option maxRecDepth 100000 in
theorem tq_L_ground : tables_1_2[225]? = some (Cond.code yL_ground cL_ground 10 (some .boolean)) := rfl
theorem cd_L_ground : Cond.code yL_ground cL_ground 10 (some .boolean) ∈ Om := List.mem_filter.mpr ⟨List.mem_append_right _ (tb_2 (List.mem_of_getElem? tq_L_ground)), rfl⟩
theorem cv_L_122 : CS_ RL 122 yL_ground cL_ground 10 (some .boolean) 6 := ⟨Or.inl (om_tbl 483 (by decide +kernel) rfl), (om_tbl 484 (by decide +kernel) rfl), (om_tbl 20 (by decide +kernel) rfl), cd_L_ground, by decide +kernel, by decide +kernel, by decide +kernel⟩
set_option maxRecDepth 100000 in
theorem tq_L_places : tables_1_4[30]? = some (Cond.code yL_places cL_places 17 (some .boolean)) := rfl
theorem cd_L_places : Cond.code yL_places cL_places 17 (some .boolean) ∈ Om := List.mem_filter.mpr ⟨List.mem_append_right _ (tb_4 (List.mem_of_getElem? tq_L_places)), rfl⟩
theorem cv_L_126 : CS_ RL 126 yL_places cL_places 17 (some .boolean) 7 := ⟨Or.inl (om_tbl 768 (by decide +kernel) rfl), (om_tbl 769 (by decide +kernel) rfl), (om_tbl 20 (by decide +kernel) rfl), cd_L_places, by decide +kernel, by decide +kernel, by decide +kernel⟩
set_option maxRecDepth 100000 in
theorem tq_L_others : tables_1_4[67]? = some (Cond.code yL_others cL_others 12 (some .boolean)) := rfl
theorem cd_L_others : Cond.code yL_others cL_others 12 (some .boolean) ∈ Om := List.mem_filter.mpr ⟨List.mem_append_right _ (tb_4 (List.mem_of_getElem? tq_L_others)), rfl⟩
theorem cv_L_130 : CS_ RL 130 yL_others cL_others 12 (some .boolean) 5 := ⟨Or.inl (om_tbl 805 (by decide +kernel) rfl), (om_tbl 806 (by decide +kernel) rfl), (om_tbl 20 (by decide +kernel) rfl), cd_L_others, by decide +kernel, by decide +kernel, by decide +kernel⟩
set_option maxRecDepth 100000 in
theorem tq_L_isSound : tables_1_4[103]? = some (Cond.code yL_isSound cL_isSound 9 (some .boolean)) := rfl
theorem cd_L_isSound : Cond.code yL_isSound cL_isSound 9 (some .boolean) ∈ Om := List.mem_filter.mpr ⟨List.mem_append_right _ (tb_4 (List.mem_of_getElem? tq_L_isSound)), rfl⟩
theorem cv_L_134 : CS_ RL 134 yL_isSound cL_isSound 9 (some .boolean) 7 := ⟨Or.inl (om_tbl 841 (by decide +kernel) rfl), (om_tbl 842 (by decide +kernel) rfl), (om_tbl 20 (by decide +kernel) rfl), cd_L_isSound, by decide +kernel, by decide +kernel, by decide +kernel⟩
theorem cs_L_closes : CSx RL 34 yL_closes cL_closes 2 (some .int) 2 := ⟨(om_tbl 673 (by decide +kernel) rfl), (om_tbl 674 (by decide +kernel) rfl), (om_tbl 20 (by decide +kernel) rfl), (om_tbl 675 (by decide +kernel) rfl), by decide +kernel, by decide +kernel, by decide +kernel⟩
theorem ch_L_asks : CH RL 81 yL_asks cL_asks 6 (some .int) [(0, 108, 109, 46), (0, 108, 114, 49), (0, 108, 119, 52)] 5 := ⟨(om_tbl 486 (by decide +kernel) rfl), (om_tbl 487 (by decide +kernel) rfl), (om_tbl 20 (by decide +kernel) rfl), (om_tbl 488 (by decide +kernel) rfl), by decide +kernel, by decide +kernel, by decide +kernel⟩
theorem dL_closes_0 : decode cL_closes 0 = .ok (.aload_n 0, 1) := by decide +kernel
theorem dL_closes_1 : decode cL_closes 1 = .ok (.iload_n 1, 1) := by decide +kernel
theorem dL_closes_2 : decode cL_closes 2 = .ok (.invokevirtual 10, 3) := by decide +kernel
theorem dL_closes_5 : decode cL_closes 5 = .ok (.iconst 0, 1) := by decide +kernel
theorem dL_closes_6 : decode cL_closes 6 = .ok (.ireturn, 1) := by decide +kernel
def Wp_L_closes (x1 : Int32) (μ : Mm) (q : Int32 → Mm → Prop) (qx : String → Mm → Prop) : Prop := T_X7_end x1 μ (fun μ2 => q (0 : Int32) μ2) qx
theorem m_L_closes {g : GE} {l : Launch} (hst : l.stackTraces = false) {μ : Mm} {q : Int32 → Mm → Prop} {qx : String → Mm → Prop} {x1 : Int32} (h : Wp_L_closes x1 μ q qx) : MX g l yL_closes cL_closes 2 (some .int) 7 135 [.ref p_ML, .int x1] μ (qI q) qx := by
  refine xmet_of hst (by decide) (Nat.le_of_ble_eq_true rfl) (by intro v hv; simp only [List.mem_cons, List.not_mem_nil, or_false] at hv; rcases hv with rfl | rfl <;> rfl) ?_
  intro f hfl cx hr fx
  obtain ⟨q0, qx0, h0, hq0, hx0⟩ := h
  refine k_aload_n cx dL_closes_0 rfl rfl ?_
  refine k_iload_n cx dL_closes_1 rfl rfl ?_
  refine k_callXO (As := [.int x1]) (rest := []) cx fx (m_X7_end fx.2.2.2.1 h0) hx0 lk_L_10 cv_L_10 ob_ML rfl rfl rfl rfl (Nat.le_of_ble_eq_true rfl) ⟨Nat.le_of_ble_eq_true rfl, Nat.le_of_ble_eq_true rfl⟩ dL_closes_2 (fun v μ2 hq => ?_)
  obtain ⟨rfl, h⟩ := hq
  have cx6 : Cx g f cL_closes 2 RL 7 135 1 6 := ⟨cx.1, cx.2.1, cx.2.2.1, cx.2.2.2.1, cx.2.2.2.2.1, cx.2.2.2.2.2.1, cx.2.2.2.2.2.2.1, fx.2.1, fx.2.2.1⟩
  refine k_iconst (v := (0 : Int32)) cx6 dL_closes_5 (by decide +kernel) ?_
  exact k_xret6_I cx hr fx dL_closes_6 (hq0 _ h)
