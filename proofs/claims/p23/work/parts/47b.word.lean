set_option maxRecDepth 100000 in
theorem tq_L_mesh : tables_1_1[19]? = some (Cond.code yL_mesh cL_mesh 14 (some .boolean)) := rfl
theorem cd_L_mesh : Cond.code yL_mesh cL_mesh 14 (some .boolean) ∈ Om := List.mem_filter.mpr ⟨List.mem_append_right _ (tb_1 (List.mem_of_getElem? tq_L_mesh)), rfl⟩
theorem cv_L_138 : CS_ RL 138 yL_mesh cL_mesh 14 (some .boolean) 2 := ⟨Or.inl (om_tbl 37 (by decide +kernel) rfl), (om_tbl 38 (by decide +kernel) rfl), (om_tbl 20 (by decide +kernel) rfl), cd_L_mesh, by decide +kernel, by decide +kernel, by decide +kernel⟩
theorem ml_L_138 : Cond.methodLink RL 138 yL_mesh ∈ Om := om_tbl 37 (by decide +kernel) rfl
