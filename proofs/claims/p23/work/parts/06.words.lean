/-! what the tables say, by their places -/
theorem om_list {ws : List Cond} (ps : List Nat) (hp : ws = ps.filterMap (fun i => lw_tbl[i]?)) (h : ws.all goodWord = true) : ∀ w ∈ ws, w ∈ Om := by
  intro w hw
  have h1 := List.all_eq_true.mp h w hw
  rw [hp] at hw
  obtain ⟨i, -, hi⟩ := List.mem_filterMap.mp hw
  exact om_tbl i hi h1
theorem nest_mem {w : Cond} (i : Nat) (h : tables_1[i]? = some w) (hn : isNest w = true) : w ∈ nestL := List.mem_filter.mpr ⟨List.mem_of_getElem? h, hn⟩
set_option maxRecDepth 20000 in
theorem in_X0 : ∀ w ∈ u_ws RX0 TX0 6, w ∈ Om := om_list [108, 110, 112, 114, 116, 118] (by decide +kernel) (by decide +kernel)
set_option maxRecDepth 20000 in
theorem in_X1 : ∀ w ∈ u_ws RX1 TX1 3, w ∈ Om := om_list [136, 138, 140] (by decide +kernel) (by decide +kernel)
set_option maxRecDepth 20000 in
theorem in_X2 : ∀ w ∈ u_ws RX2 TX2 9, w ∈ Om := om_list [72, 74, 76, 78, 80, 82, 84, 86, 88] (by decide +kernel) (by decide +kernel)
set_option maxRecDepth 20000 in
theorem in_X3 : ∀ w ∈ u_ws RX3 TX3 4, w ∈ Om := om_list [202, 204, 206, 208] (by decide +kernel) (by decide +kernel)
set_option maxRecDepth 20000 in
theorem in_X4 : ∀ w ∈ u_ws RX4 TX4 4, w ∈ Om := om_list [183, 185, 187, 189] (by decide +kernel) (by decide +kernel)
set_option maxRecDepth 20000 in
theorem in_X5 : ∀ w ∈ u_ws RX5 TX5 15, w ∈ Om := om_list [270, 272, 274, 276, 278, 280, 282, 284, 286, 288, 290, 292, 294, 296, 298] (by decide +kernel) (by decide +kernel)
set_option maxRecDepth 20000 in
theorem in_X6 : ∀ w ∈ u_ws RX6 TX6 9, w ∈ Om := om_list [152, 154, 156, 158, 160, 162, 164, 166, 168] (by decide +kernel) (by decide +kernel)
set_option maxRecDepth 20000 in
theorem in_X7 : ∀ w ∈ u_ws RX7 TX7 8, w ∈ Om := om_list [309, 311, 313, 315, 317, 319, 321, 323] (by decide +kernel) (by decide +kernel)
theorem fl_X0_9 : FL RX0 9 0 1 := ⟨RX0, TX0, 6, rfl, by decide, rfl, in_X0, Or.inl (om_tbl 100 (by decide +kernel) rfl)⟩
theorem fl_X0_15 : FL RX0 15 0 2 := ⟨RX0, TX0, 6, rfl, by decide, rfl, in_X0, Or.inl (om_tbl 101 (by decide +kernel) rfl)⟩
theorem fl_X0_18 : FL RX0 18 0 3 := ⟨RX0, TX0, 6, rfl, by decide, rfl, in_X0, Or.inl (om_tbl 103 (by decide +kernel) rfl)⟩
theorem fl_X0_21 : FL RX0 21 0 4 := ⟨RX0, TX0, 6, rfl, by decide, rfl, in_X0, Or.inl (om_tbl 105 (by decide +kernel) rfl)⟩
theorem fl_X0_26 : FL RX0 26 0 5 := ⟨RX0, TX0, 6, rfl, by decide, rfl, in_X0, Or.inl (om_tbl 107 (by decide +kernel) rfl)⟩
theorem fl_X0_29 : FL RX0 29 0 0 := ⟨RX0, TX0, 6, rfl, by decide, rfl, in_X0, Or.inl (om_tbl 99 (by decide +kernel) rfl)⟩
theorem fl_X0_33 : FL RX0 33 2 0 := ⟨RX2, TX2, 9, rfl, by decide, rfl, in_X2, Or.inr ⟨"MeshLodger", (nest_mem 37 (by decide +kernel) rfl)⟩⟩
theorem fl_X0_38 : FL RX0 38 2 1 := ⟨RX2, TX2, 9, rfl, by decide, rfl, in_X2, Or.inr ⟨"MeshLodger", (nest_mem 39 (by decide +kernel) rfl)⟩⟩
theorem fl_X0_41 : FL RX0 41 2 7 := ⟨RX2, TX2, 9, rfl, by decide, rfl, in_X2, Or.inr ⟨"MeshLodger", (nest_mem 49 (by decide +kernel) rfl)⟩⟩
theorem fl_X0_55 : FL RX0 55 5 10 := ⟨RX5, TX5, 15, rfl, by decide, rfl, in_X5, Or.inr ⟨"MeshLodger", (nest_mem 238 (by decide +kernel) rfl)⟩⟩
theorem fl_X0_60 : FL RX0 60 5 2 := ⟨RX5, TX5, 15, rfl, by decide, rfl, in_X5, Or.inr ⟨"MeshLodger", (nest_mem 210 (by decide +kernel) rfl)⟩⟩
theorem fl_X0_63 : FL RX0 63 5 0 := ⟨RX5, TX5, 15, rfl, by decide, rfl, in_X5, Or.inr ⟨"MeshLodger", (nest_mem 201 (by decide +kernel) rfl)⟩⟩
theorem fl_X0_70 : FL RX0 70 5 11 := ⟨RX5, TX5, 15, rfl, by decide, rfl, in_X5, Or.inr ⟨"MeshLodger", (nest_mem 243 (by decide +kernel) rfl)⟩⟩
theorem fl_X0_84 : FL RX0 84 5 6 := ⟨RX5, TX5, 15, rfl, by decide, rfl, in_X5, Or.inr ⟨"MeshLodger", (nest_mem 221 (by decide +kernel) rfl)⟩⟩
theorem fl_X0_87 : FL RX0 87 5 7 := ⟨RX5, TX5, 15, rfl, by decide, rfl, in_X5, Or.inr ⟨"MeshLodger", (nest_mem 225 (by decide +kernel) rfl)⟩⟩
theorem fl_X0_94 : FL RX0 94 5 8 := ⟨RX5, TX5, 15, rfl, by decide, rfl, in_X5, Or.inr ⟨"MeshLodger", (nest_mem 228 (by decide +kernel) rfl)⟩⟩
theorem fl_X0_100 : FL RX0 100 5 9 := ⟨RX5, TX5, 15, rfl, by decide, rfl, in_X5, Or.inr ⟨"MeshLodger", (nest_mem 232 (by decide +kernel) rfl)⟩⟩
theorem fl_X0_103 : FL RX0 103 5 5 := ⟨RX5, TX5, 15, rfl, by decide, rfl, in_X5, Or.inr ⟨"MeshLodger", (nest_mem 217 (by decide +kernel) rfl)⟩⟩
theorem fl_X1_9 : FL RX1 9 1 2 := ⟨RX1, TX1, 3, rfl, by decide, rfl, in_X1, Or.inl (om_tbl 135 (by decide +kernel) rfl)⟩
theorem fl_X1_15 : FL RX1 15 1 0 := ⟨RX1, TX1, 3, rfl, by decide, rfl, in_X1, Or.inl (om_tbl 133 (by decide +kernel) rfl)⟩
theorem fl_X1_19 : FL RX1 19 1 1 := ⟨RX1, TX1, 3, rfl, by decide, rfl, in_X1, Or.inl (om_tbl 134 (by decide +kernel) rfl)⟩
theorem fl_X1_23 : FL RX1 23 5 10 := ⟨RX5, TX5, 15, rfl, by decide, rfl, in_X5, Or.inr ⟨"MeshLodger", (nest_mem 235 (by decide +kernel) rfl)⟩⟩
theorem fl_X1_29 : FL RX1 29 2 6 := ⟨RX2, TX2, 9, rfl, by decide, rfl, in_X2, Or.inr ⟨"MeshLodger", (nest_mem 46 (by decide +kernel) rfl)⟩⟩
theorem fl_X1_40 : FL RX1 40 5 0 := ⟨RX5, TX5, 15, rfl, by decide, rfl, in_X5, Or.inr ⟨"MeshLodger", (nest_mem 200 (by decide +kernel) rfl)⟩⟩
theorem fl_X1_43 : FL RX1 43 5 1 := ⟨RX5, TX5, 15, rfl, by decide, rfl, in_X5, Or.inr ⟨"MeshLodger", (nest_mem 205 (by decide +kernel) rfl)⟩⟩
theorem fl_X1_46 : FL RX1 46 5 2 := ⟨RX5, TX5, 15, rfl, by decide, rfl, in_X5, Or.inr ⟨"MeshLodger", (nest_mem 209 (by decide +kernel) rfl)⟩⟩
theorem fl_X2_9 : FL RX2 9 2 0 := ⟨RX2, TX2, 9, rfl, by decide, rfl, in_X2, Or.inl (om_tbl 56 (by decide +kernel) rfl)⟩
theorem fl_X2_15 : FL RX2 15 2 1 := ⟨RX2, TX2, 9, rfl, by decide, rfl, in_X2, Or.inl (om_tbl 58 (by decide +kernel) rfl)⟩
theorem fl_X2_18 : FL RX2 18 2 2 := ⟨RX2, TX2, 9, rfl, by decide, rfl, in_X2, Or.inl (om_tbl 60 (by decide +kernel) rfl)⟩
theorem fl_X2_21 : FL RX2 21 2 3 := ⟨RX2, TX2, 9, rfl, by decide, rfl, in_X2, Or.inl (om_tbl 61 (by decide +kernel) rfl)⟩
theorem fl_X2_26 : FL RX2 26 2 4 := ⟨RX2, TX2, 9, rfl, by decide, rfl, in_X2, Or.inl (om_tbl 62 (by decide +kernel) rfl)⟩
theorem fl_X2_29 : FL RX2 29 2 5 := ⟨RX2, TX2, 9, rfl, by decide, rfl, in_X2, Or.inl (om_tbl 63 (by decide +kernel) rfl)⟩
theorem fl_X2_32 : FL RX2 32 2 6 := ⟨RX2, TX2, 9, rfl, by decide, rfl, in_X2, Or.inl (om_tbl 64 (by decide +kernel) rfl)⟩
theorem fl_X2_36 : FL RX2 36 2 7 := ⟨RX2, TX2, 9, rfl, by decide, rfl, in_X2, Or.inl (om_tbl 67 (by decide +kernel) rfl)⟩
theorem fl_X2_46 : FL RX2 46 2 8 := ⟨RX2, TX2, 9, rfl, by decide, rfl, in_X2, Or.inl (om_tbl 71 (by decide +kernel) rfl)⟩
theorem fl_X3_9 : FL RX3 9 3 2 := ⟨RX3, TX3, 4, rfl, by decide, rfl, in_X3, Or.inl (om_tbl 200 (by decide +kernel) rfl)⟩
theorem fl_X3_15 : FL RX3 15 3 0 := ⟨RX3, TX3, 4, rfl, by decide, rfl, in_X3, Or.inl (om_tbl 198 (by decide +kernel) rfl)⟩
theorem fl_X3_19 : FL RX3 19 3 1 := ⟨RX3, TX3, 4, rfl, by decide, rfl, in_X3, Or.inl (om_tbl 199 (by decide +kernel) rfl)⟩
theorem fl_X3_23 : FL RX3 23 5 1 := ⟨RX5, TX5, 15, rfl, by decide, rfl, in_X5, Or.inr ⟨"MeshLodger", (nest_mem 204 (by decide +kernel) rfl)⟩⟩
theorem fl_X3_38 : FL RX3 38 5 0 := ⟨RX5, TX5, 15, rfl, by decide, rfl, in_X5, Or.inr ⟨"MeshLodger", (nest_mem 199 (by decide +kernel) rfl)⟩⟩
theorem fl_X3_41 : FL RX3 41 5 2 := ⟨RX5, TX5, 15, rfl, by decide, rfl, in_X5, Or.inr ⟨"MeshLodger", (nest_mem 207 (by decide +kernel) rfl)⟩⟩
theorem fl_X3_44 : FL RX3 44 3 3 := ⟨RX3, TX3, 4, rfl, by decide, rfl, in_X3, Or.inl (om_tbl 201 (by decide +kernel) rfl)⟩
theorem fl_X3_52 : FL RX3 52 5 11 := ⟨RX5, TX5, 15, rfl, by decide, rfl, in_X5, Or.inr ⟨"MeshLodger", (nest_mem 239 (by decide +kernel) rfl)⟩⟩
theorem fl_X3_59 : FL RX3 59 5 6 := ⟨RX5, TX5, 15, rfl, by decide, rfl, in_X5, Or.inr ⟨"MeshLodger", (nest_mem 219 (by decide +kernel) rfl)⟩⟩
theorem fl_X3_76 : FL RX3 76 5 5 := ⟨RX5, TX5, 15, rfl, by decide, rfl, in_X5, Or.inr ⟨"MeshLodger", (nest_mem 214 (by decide +kernel) rfl)⟩⟩
theorem fl_X4_9 : FL RX4 9 4 0 := ⟨RX4, TX4, 4, rfl, by decide, rfl, in_X4, Or.inl (om_tbl 179 (by decide +kernel) rfl)⟩
theorem fl_X4_15 : FL RX4 15 4 1 := ⟨RX4, TX4, 4, rfl, by decide, rfl, in_X4, Or.inl (om_tbl 180 (by decide +kernel) rfl)⟩
theorem fl_X4_19 : FL RX4 19 4 2 := ⟨RX4, TX4, 4, rfl, by decide, rfl, in_X4, Or.inl (om_tbl 181 (by decide +kernel) rfl)⟩
theorem fl_X4_28 : FL RX4 28 4 3 := ⟨RX4, TX4, 4, rfl, by decide, rfl, in_X4, Or.inl (om_tbl 182 (by decide +kernel) rfl)⟩
theorem fl_X4_66 : FL RX4 66 5 11 := ⟨RX5, TX5, 15, rfl, by decide, rfl, in_X5, Or.inr ⟨"MeshLodger", (nest_mem 242 (by decide +kernel) rfl)⟩⟩
theorem fl_X4_83 : FL RX4 83 5 5 := ⟨RX5, TX5, 15, rfl, by decide, rfl, in_X5, Or.inr ⟨"MeshLodger", (nest_mem 216 (by decide +kernel) rfl)⟩⟩
theorem fl_X4_100 : FL RX4 100 5 7 := ⟨RX5, TX5, 15, rfl, by decide, rfl, in_X5, Or.inr ⟨"MeshLodger", (nest_mem 224 (by decide +kernel) rfl)⟩⟩
theorem fl_X4_109 : FL RX4 109 5 8 := ⟨RX5, TX5, 15, rfl, by decide, rfl, in_X5, Or.inr ⟨"MeshLodger", (nest_mem 227 (by decide +kernel) rfl)⟩⟩
theorem fl_X4_112 : FL RX4 112 5 6 := ⟨RX5, TX5, 15, rfl, by decide, rfl, in_X5, Or.inr ⟨"MeshLodger", (nest_mem 220 (by decide +kernel) rfl)⟩⟩
theorem fl_X4_118 : FL RX4 118 5 9 := ⟨RX5, TX5, 15, rfl, by decide, rfl, in_X5, Or.inr ⟨"MeshLodger", (nest_mem 231 (by decide +kernel) rfl)⟩⟩
theorem fl_X5_9 : FL RX5 9 5 0 := ⟨RX5, TX5, 15, rfl, by decide, rfl, in_X5, Or.inl (om_tbl 218 (by decide +kernel) rfl)⟩
theorem fl_X5_15 : FL RX5 15 5 1 := ⟨RX5, TX5, 15, rfl, by decide, rfl, in_X5, Or.inl (om_tbl 223 (by decide +kernel) rfl)⟩
theorem fl_X5_18 : FL RX5 18 5 2 := ⟨RX5, TX5, 15, rfl, by decide, rfl, in_X5, Or.inl (om_tbl 226 (by decide +kernel) rfl)⟩
theorem fl_X5_21 : FL RX5 21 5 3 := ⟨RX5, TX5, 15, rfl, by decide, rfl, in_X5, Or.inl (om_tbl 231 (by decide +kernel) rfl)⟩
theorem fl_X5_24 : FL RX5 24 5 4 := ⟨RX5, TX5, 15, rfl, by decide, rfl, in_X5, Or.inl (om_tbl 232 (by decide +kernel) rfl)⟩
theorem fl_X5_27 : FL RX5 27 5 5 := ⟨RX5, TX5, 15, rfl, by decide, rfl, in_X5, Or.inl (om_tbl 233 (by decide +kernel) rfl)⟩
theorem fl_X5_30 : FL RX5 30 5 6 := ⟨RX5, TX5, 15, rfl, by decide, rfl, in_X5, Or.inl (om_tbl 238 (by decide +kernel) rfl)⟩
theorem fl_X5_33 : FL RX5 33 5 7 := ⟨RX5, TX5, 15, rfl, by decide, rfl, in_X5, Or.inl (om_tbl 243 (by decide +kernel) rfl)⟩
theorem fl_X5_36 : FL RX5 36 5 8 := ⟨RX5, TX5, 15, rfl, by decide, rfl, in_X5, Or.inl (om_tbl 246 (by decide +kernel) rfl)⟩
theorem fl_X5_39 : FL RX5 39 5 9 := ⟨RX5, TX5, 15, rfl, by decide, rfl, in_X5, Or.inl (om_tbl 250 (by decide +kernel) rfl)⟩
theorem fl_X5_42 : FL RX5 42 5 10 := ⟨RX5, TX5, 15, rfl, by decide, rfl, in_X5, Or.inl (om_tbl 254 (by decide +kernel) rfl)⟩
theorem fl_X5_46 : FL RX5 46 5 11 := ⟨RX5, TX5, 15, rfl, by decide, rfl, in_X5, Or.inl (om_tbl 260 (by decide +kernel) rfl)⟩
theorem fl_X5_63 : FL RX5 63 5 14 := ⟨RX5, TX5, 15, rfl, by decide, rfl, in_X5, Or.inl (om_tbl 269 (by decide +kernel) rfl)⟩
theorem fl_X5_67 : FL RX5 67 5 12 := ⟨RX5, TX5, 15, rfl, by decide, rfl, in_X5, Or.inl (om_tbl 266 (by decide +kernel) rfl)⟩
theorem fl_X6_9 : FL RX6 9 6 3 := ⟨RX6, TX6, 9, rfl, by decide, rfl, in_X6, Or.inl (om_tbl 146 (by decide +kernel) rfl)⟩
theorem fl_X6_15 : FL RX6 15 6 4 := ⟨RX6, TX6, 9, rfl, by decide, rfl, in_X6, Or.inl (om_tbl 147 (by decide +kernel) rfl)⟩
theorem fl_X6_18 : FL RX6 18 6 5 := ⟨RX6, TX6, 9, rfl, by decide, rfl, in_X6, Or.inl (om_tbl 148 (by decide +kernel) rfl)⟩
theorem fl_X6_21 : FL RX6 21 6 6 := ⟨RX6, TX6, 9, rfl, by decide, rfl, in_X6, Or.inl (om_tbl 149 (by decide +kernel) rfl)⟩
theorem fl_X6_24 : FL RX6 24 6 0 := ⟨RX6, TX6, 9, rfl, by decide, rfl, in_X6, Or.inl (om_tbl 143 (by decide +kernel) rfl)⟩
theorem fl_X6_28 : FL RX6 28 6 1 := ⟨RX6, TX6, 9, rfl, by decide, rfl, in_X6, Or.inl (om_tbl 144 (by decide +kernel) rfl)⟩
theorem fl_X6_37 : FL RX6 37 6 2 := ⟨RX6, TX6, 9, rfl, by decide, rfl, in_X6, Or.inl (om_tbl 145 (by decide +kernel) rfl)⟩
theorem fl_X6_41 : FL RX6 41 6 7 := ⟨RX6, TX6, 9, rfl, by decide, rfl, in_X6, Or.inl (om_tbl 150 (by decide +kernel) rfl)⟩
theorem fl_X6_45 : FL RX6 45 6 8 := ⟨RX6, TX6, 9, rfl, by decide, rfl, in_X6, Or.inl (om_tbl 151 (by decide +kernel) rfl)⟩
theorem fl_X6_68 : FL RX6 68 5 10 := ⟨RX5, TX5, 15, rfl, by decide, rfl, in_X5, Or.inr ⟨"MeshLodger", (nest_mem 236 (by decide +kernel) rfl)⟩⟩
theorem fl_X6_73 : FL RX6 73 5 2 := ⟨RX5, TX5, 15, rfl, by decide, rfl, in_X5, Or.inr ⟨"MeshLodger", (nest_mem 208 (by decide +kernel) rfl)⟩⟩
theorem fl_X6_76 : FL RX6 76 5 11 := ⟨RX5, TX5, 15, rfl, by decide, rfl, in_X5, Or.inr ⟨"MeshLodger", (nest_mem 241 (by decide +kernel) rfl)⟩⟩
theorem fl_X6_83 : FL RX6 83 5 5 := ⟨RX5, TX5, 15, rfl, by decide, rfl, in_X5, Or.inr ⟨"MeshLodger", (nest_mem 215 (by decide +kernel) rfl)⟩⟩
theorem fl_X7_12 : FL RX7 12 7 0 := ⟨RX7, TX7, 8, rfl, by decide, rfl, in_X7, Or.inl (om_tbl 301 (by decide +kernel) rfl)⟩
theorem fl_X7_21 : FL RX7 21 7 1 := ⟨RX7, TX7, 8, rfl, by decide, rfl, in_X7, Or.inl (om_tbl 302 (by decide +kernel) rfl)⟩
theorem fl_X7_30 : FL RX7 30 7 2 := ⟨RX7, TX7, 8, rfl, by decide, rfl, in_X7, Or.inl (om_tbl 303 (by decide +kernel) rfl)⟩
theorem fl_X7_39 : FL RX7 39 7 3 := ⟨RX7, TX7, 8, rfl, by decide, rfl, in_X7, Or.inl (om_tbl 304 (by decide +kernel) rfl)⟩
theorem fl_X7_46 : FL RX7 46 7 4 := ⟨RX7, TX7, 8, rfl, by decide, rfl, in_X7, Or.inl (om_tbl 305 (by decide +kernel) rfl)⟩
theorem fl_X7_52 : FL RX7 52 7 5 := ⟨RX7, TX7, 8, rfl, by decide, rfl, in_X7, Or.inl (om_tbl 306 (by decide +kernel) rfl)⟩
theorem fl_X7_64 : FL RX7 64 2 6 := ⟨RX2, TX2, 9, rfl, by decide, rfl, in_X2, Or.inr ⟨"MeshLodger", (nest_mem 45 (by decide +kernel) rfl)⟩⟩
theorem fl_X7_88 : FL RX7 88 2 7 := ⟨RX2, TX2, 9, rfl, by decide, rfl, in_X2, Or.inr ⟨"MeshLodger", (nest_mem 48 (by decide +kernel) rfl)⟩⟩
theorem fl_X7_110 : FL RX7 110 7 6 := ⟨RX7, TX7, 8, rfl, by decide, rfl, in_X7, Or.inl (om_tbl 307 (by decide +kernel) rfl)⟩
theorem fl_X7_113 : FL RX7 113 5 14 := ⟨RX5, TX5, 15, rfl, by decide, rfl, in_X5, Or.inr ⟨"MeshLodger", (nest_mem 248 (by decide +kernel) rfl)⟩⟩
theorem fl_X7_117 : FL RX7 117 2 8 := ⟨RX2, TX2, 9, rfl, by decide, rfl, in_X2, Or.inr ⟨"MeshLodger", (nest_mem 50 (by decide +kernel) rfl)⟩⟩
theorem fl_X7_129 : FL RX7 129 5 10 := ⟨RX5, TX5, 15, rfl, by decide, rfl, in_X5, Or.inr ⟨"MeshLodger", (nest_mem 237 (by decide +kernel) rfl)⟩⟩
theorem fl_X7_145 : FL RX7 145 5 11 := ⟨RX5, TX5, 15, rfl, by decide, rfl, in_X5, Or.inr ⟨"MeshLodger", (nest_mem 244 (by decide +kernel) rfl)⟩⟩
theorem fl_X7_168 : FL RX7 168 5 12 := ⟨RX5, TX5, 15, rfl, by decide, rfl, in_X5, Or.inr ⟨"MeshLodger", (nest_mem 245 (by decide +kernel) rfl)⟩⟩
theorem fl_X7_171 : FL RX7 171 7 7 := ⟨RX7, TX7, 8, rfl, by decide, rfl, in_X7, Or.inl (om_tbl 308 (by decide +kernel) rfl)⟩
theorem fl_X7_174 : FL RX7 174 5 13 := ⟨RX5, TX5, 15, rfl, by decide, rfl, in_X5, Or.inr ⟨"MeshLodger", (nest_mem 247 (by decide +kernel) rfl)⟩⟩
theorem fl_X7_215 : FL RX7 215 0 2 := ⟨RX0, TX0, 6, rfl, by decide, rfl, in_X0, Or.inr ⟨"MeshLodger", (nest_mem 82 (by decide +kernel) rfl)⟩⟩
theorem fl_X7_219 : FL RX7 219 0 3 := ⟨RX0, TX0, 6, rfl, by decide, rfl, in_X0, Or.inr ⟨"MeshLodger", (nest_mem 84 (by decide +kernel) rfl)⟩⟩
theorem fl_X7_222 : FL RX7 222 0 4 := ⟨RX0, TX0, 6, rfl, by decide, rfl, in_X0, Or.inr ⟨"MeshLodger", (nest_mem 86 (by decide +kernel) rfl)⟩⟩
theorem fl_X7_248 : FL RX7 248 5 6 := ⟨RX5, TX5, 15, rfl, by decide, rfl, in_X5, Or.inr ⟨"MeshLodger", (nest_mem 222 (by decide +kernel) rfl)⟩⟩
theorem fl_X7_251 : FL RX7 251 5 8 := ⟨RX5, TX5, 15, rfl, by decide, rfl, in_X5, Or.inr ⟨"MeshLodger", (nest_mem 229 (by decide +kernel) rfl)⟩⟩
theorem fl_X7_254 : FL RX7 254 5 9 := ⟨RX5, TX5, 15, rfl, by decide, rfl, in_X5, Or.inr ⟨"MeshLodger", (nest_mem 233 (by decide +kernel) rfl)⟩⟩
theorem fl_X7_265 : FL RX7 265 5 0 := ⟨RX5, TX5, 15, rfl, by decide, rfl, in_X5, Or.inr ⟨"MeshLodger", (nest_mem 202 (by decide +kernel) rfl)⟩⟩
theorem fp_X2_32 : FP RX2 32 2 6 .int := ⟨fl_X2_32, RX2, TX2, 9, tyX2, rfl, tyX2_ok, nmX2, rfl, by decide +kernel⟩
theorem fp_X2_36 : FP RX2 36 2 7 .int := ⟨fl_X2_36, RX2, TX2, 9, tyX2, rfl, tyX2_ok, nmX2, rfl, by decide +kernel⟩
theorem fp_X2_46 : FP RX2 46 2 8 .int := ⟨fl_X2_46, RX2, TX2, 9, tyX2, rfl, tyX2_ok, nmX2, rfl, by decide +kernel⟩
theorem fp_X3_44 : FP RX3 44 3 3 .int := ⟨fl_X3_44, RX3, TX3, 4, tyX3, rfl, tyX3_ok, nmX3, rfl, by decide +kernel⟩
theorem fp_X5_42 : FP RX5 42 5 10 .int := ⟨fl_X5_42, RX5, TX5, 15, tyX5, rfl, tyX5_ok, nmX5, rfl, by decide +kernel⟩
theorem fp_X5_46 : FP RX5 46 5 11 .int := ⟨fl_X5_46, RX5, TX5, 15, tyX5, rfl, tyX5_ok, nmX5, rfl, by decide +kernel⟩
theorem fp_X6_41 : FP RX6 41 6 7 .int := ⟨fl_X6_41, RX6, TX6, 9, tyX6, rfl, tyX6_ok, nmX6, rfl, by decide +kernel⟩
theorem fp_X6_45 : FP RX6 45 6 8 .int := ⟨fl_X6_45, RX6, TX6, 9, tyX6, rfl, tyX6_ok, nmX6, rfl, by decide +kernel⟩
theorem fp_X7_110 : FP RX7 110 7 6 .int := ⟨fl_X7_110, RX7, TX7, 8, tyX7, rfl, tyX7_ok, nmX7, rfl, by decide +kernel⟩
theorem fp_X7_113 : FP RX7 113 5 14 .boolean := ⟨fl_X7_113, RX5, TX5, 15, tyX5, rfl, tyX5_ok, nmX5, rfl, by decide +kernel⟩
theorem fp_X7_168 : FP RX7 168 5 12 .int := ⟨fl_X7_168, RX5, TX5, 15, tyX5, rfl, tyX5_ok, nmX5, rfl, by decide +kernel⟩
theorem fp_X7_171 : FP RX7 171 7 7 .int := ⟨fl_X7_171, RX7, TX7, 8, tyX7, rfl, tyX7_ok, nmX7, rfl, by decide +kernel⟩
theorem fp_X7_174 : FP RX7 174 5 13 .int := ⟨fl_X7_174, RX5, TX5, 15, tyX5, rfl, tyX5_ok, nmX5, rfl, by decide +kernel⟩
theorem kc_J6_265 : Cond.constant RJ6 265 (1431655765 : Int32) ∈ Om := (om_tbl 472 (by decide +kernel) rfl)
theorem kc_J6_266 : Cond.constant RJ6 266 (858993459 : Int32) ∈ Om := (om_tbl 473 (by decide +kernel) rfl)
theorem kc_J6_267 : Cond.constant RJ6 267 (252645135 : Int32) ∈ Om := (om_tbl 474 (by decide +kernel) rfl)
theorem cv_X0_45 : CV RX0 45 yX0_leftOnLink cX0_leftOnLink 2 (some .int) 1 := ⟨Or.inl (om_tbl 572 (by decide +kernel) rfl), (om_tbl 573 (by decide +kernel) rfl), (om_tbl 574 (by decide +kernel) rfl), (om_tbl 23 (by decide +kernel) rfl), (om_tbl 575 (by decide +kernel) rfl), by decide +kernel, by decide +kernel, by decide +kernel⟩
theorem cv_X0_66 : CV RX0 66 yX0_enterPart cX0_enterPart 4 none 3 := ⟨Or.inl (om_tbl 647 (by decide +kernel) rfl), (om_tbl 648 (by decide +kernel) rfl), (om_tbl 649 (by decide +kernel) rfl), (om_tbl 23 (by decide +kernel) rfl), (om_tbl 650 (by decide +kernel) rfl), by decide +kernel, by decide +kernel, by decide +kernel⟩
theorem cv_X0_73 : CV RX0 73 yX0_enterWays cX0_enterWays 4 none 3 := ⟨Or.inl (om_tbl 652 (by decide +kernel) rfl), (om_tbl 638 (by decide +kernel) rfl), (om_tbl 639 (by decide +kernel) rfl), (om_tbl 23 (by decide +kernel) rfl), (om_tbl 640 (by decide +kernel) rfl), by decide +kernel, by decide +kernel, by decide +kernel⟩
theorem cv_X0_77 : CV RX0 77 yX0_enterSecondWay cX0_enterSecondWay 5 none 3 := ⟨Or.inl (om_tbl 653 (by decide +kernel) rfl), (om_tbl 654 (by decide +kernel) rfl), (om_tbl 655 (by decide +kernel) rfl), (om_tbl 23 (by decide +kernel) rfl), (om_tbl 656 (by decide +kernel) rfl), by decide +kernel, by decide +kernel, by decide +kernel⟩
theorem cv_X0_80 : CV RX0 80 yX2_hasNode cX2_hasNode 2 (some .boolean) 1 := ⟨Or.inl (om_tbl 651 (by decide +kernel) rfl), (om_tbl 429 (by decide +kernel) rfl), (om_tbl 430 (by decide +kernel) rfl), (om_tbl 22 (by decide +kernel) rfl), (om_tbl 431 (by decide +kernel) rfl), by decide +kernel, by decide +kernel, by decide +kernel⟩
theorem cv_X0_90 : CV RX0 90 yX0_carry cX0_carry 4 none 2 := ⟨Or.inl (om_tbl 641 (by decide +kernel) rfl), (om_tbl 603 (by decide +kernel) rfl), (om_tbl 604 (by decide +kernel) rfl), (om_tbl 23 (by decide +kernel) rfl), (om_tbl 605 (by decide +kernel) rfl), by decide +kernel, by decide +kernel, by decide +kernel⟩
theorem cv_X0_97 : CV RX0 97 yX5_restOf cX5_restOf 2 (some .int) 1 := ⟨Or.inl (om_tbl 642 (by decide +kernel) rfl), (om_tbl 633 (by decide +kernel) rfl), (om_tbl 634 (by decide +kernel) rfl), (om_tbl 28 (by decide +kernel) rfl), (om_tbl 635 (by decide +kernel) rfl), by decide +kernel, by decide +kernel, by decide +kernel⟩
theorem cv_X0_106 : CV RX0 106 yX0_reserve cX0_reserve 6 none 3 := ⟨Or.inl (om_tbl 657 (by decide +kernel) rfl), (om_tbl 659 (by decide +kernel) rfl), (om_tbl 10 (by decide +kernel) rfl), (om_tbl 23 (by decide +kernel) rfl), (om_tbl 660 (by decide +kernel) rfl), by decide +kernel, by decide +kernel, by decide +kernel⟩
theorem cv_X1_34 : CV RX1 34 yX0_leftAtNode cX0_leftAtNode 2 (some .int) 1 := ⟨Or.inl (om_tbl 547 (by decide +kernel) rfl), (om_tbl 548 (by decide +kernel) rfl), (om_tbl 549 (by decide +kernel) rfl), (om_tbl 23 (by decide +kernel) rfl), (om_tbl 550 (by decide +kernel) rfl), by decide +kernel, by decide +kernel, by decide +kernel⟩
theorem cv_X2_39 : CV RX2 39 yX2_findWays cX2_findWays 2 none 0 := ⟨Or.inl (om_tbl 462 (by decide +kernel) rfl), (om_tbl 464 (by decide +kernel) rfl), (om_tbl 1 (by decide +kernel) rfl), (om_tbl 22 (by decide +kernel) rfl), (om_tbl 465 (by decide +kernel) rfl), by decide +kernel, by decide +kernel, by decide +kernel⟩
theorem cv_X2_42 : CV RX2 42 yX2_beyond cX2_beyond 3 (some .int) 2 := ⟨Or.inl (om_tbl 453 (by decide +kernel) rfl), (om_tbl 454 (by decide +kernel) rfl), (om_tbl 455 (by decide +kernel) rfl), (om_tbl 22 (by decide +kernel) rfl), (om_tbl 456 (by decide +kernel) rfl), by decide +kernel, by decide +kernel, by decide +kernel⟩
theorem cv_X2_49 : CS_ RX2 49 yX2_walk cX2_walk 7 none 5 := ⟨Or.inl (om_tbl 466 (by decide +kernel) rfl), (om_tbl 467 (by decide +kernel) rfl), (om_tbl 22 (by decide +kernel) rfl), (om_tbl 468 (by decide +kernel) rfl), by decide +kernel, by decide +kernel, by decide +kernel⟩
theorem cv_X2_53 : CS_ RX2 53 yJ6_bitCount_0f7a4 cJ6_bitCount_0f7a4 1 (some .int) 1 := ⟨Or.inl (om_tbl 469 (by decide +kernel) rfl), (om_tbl 470 (by decide +kernel) rfl), (om_tbl 35 (by decide +kernel) rfl), (om_tbl 471 (by decide +kernel) rfl), by decide +kernel, by decide +kernel, by decide +kernel⟩
theorem cv_X2_59 : CS_ RX2 59 yX2_pairOf cX2_pairOf 2 (some .int) 2 := ⟨Or.inl (om_tbl 475 (by decide +kernel) rfl), (om_tbl 476 (by decide +kernel) rfl), (om_tbl 22 (by decide +kernel) rfl), (om_tbl 477 (by decide +kernel) rfl), by decide +kernel, by decide +kernel, by decide +kernel⟩
theorem cv_X2_62 : CV RX2 62 yX2_keepWay cX2_keepWay 3 none 2 := ⟨Or.inl (om_tbl 478 (by decide +kernel) rfl), (om_tbl 480 (by decide +kernel) rfl), (om_tbl 2 (by decide +kernel) rfl), (om_tbl 22 (by decide +kernel) rfl), (om_tbl 481 (by decide +kernel) rfl), by decide +kernel, by decide +kernel, by decide +kernel⟩
theorem cv_X2_66 : CV RX2 66 yX2_countOfWays cX2_countOfWays 2 (some .int) 1 := ⟨Or.inl (om_tbl 580 (by decide +kernel) rfl), (om_tbl 581 (by decide +kernel) rfl), (om_tbl 582 (by decide +kernel) rfl), (om_tbl 22 (by decide +kernel) rfl), (om_tbl 583 (by decide +kernel) rfl), by decide +kernel, by decide +kernel, by decide +kernel⟩
theorem cv_X2_69 : CV RX2 69 yX2_wayOf cX2_wayOf 4 (some .int) 2 := ⟨Or.inl (om_tbl 584 (by decide +kernel) rfl), (om_tbl 585 (by decide +kernel) rfl), (om_tbl 586 (by decide +kernel) rfl), (om_tbl 22 (by decide +kernel) rfl), (om_tbl 587 (by decide +kernel) rfl), by decide +kernel, by decide +kernel, by decide +kernel⟩
theorem cv_X3_28 : CV RX3 28 yX5_isAt cX5_isAt 3 (some .boolean) 1 := ⟨Or.inl (om_tbl 707 (by decide +kernel) rfl), (om_tbl 708 (by decide +kernel) rfl), (om_tbl 709 (by decide +kernel) rfl), (om_tbl 28 (by decide +kernel) rfl), (om_tbl 710 (by decide +kernel) rfl), by decide +kernel, by decide +kernel, by decide +kernel⟩
theorem cv_X3_32 : CV RX3 32 yX0_leftAtNode cX0_leftAtNode 2 (some .int) 1 := ⟨Or.inl (om_tbl 711 (by decide +kernel) rfl), (om_tbl 548 (by decide +kernel) rfl), (om_tbl 549 (by decide +kernel) rfl), (om_tbl 23 (by decide +kernel) rfl), (om_tbl 550 (by decide +kernel) rfl), by decide +kernel, by decide +kernel, by decide +kernel⟩
theorem cv_X3_48 : CV RX3 48 yX3_putAt cX3_putAt 4 none 3 := ⟨Or.inl (om_tbl 712 (by decide +kernel) rfl), (om_tbl 714 (by decide +kernel) rfl), (om_tbl 14 (by decide +kernel) rfl), (om_tbl 27 (by decide +kernel) rfl), (om_tbl 715 (by decide +kernel) rfl), by decide +kernel, by decide +kernel, by decide +kernel⟩
theorem cv_X3_55 : CV RX3 55 yX5_isLineOf cX5_isLineOf 3 (some .boolean) 2 := ⟨Or.inl (om_tbl 717 (by decide +kernel) rfl), (om_tbl 521 (by decide +kernel) rfl), (om_tbl 522 (by decide +kernel) rfl), (om_tbl 28 (by decide +kernel) rfl), (om_tbl 523 (by decide +kernel) rfl), by decide +kernel, by decide +kernel, by decide +kernel⟩
theorem cv_X3_62 : CV RX3 62 yX3_giveWay cX3_giveWay 4 none 3 := ⟨Or.inl (om_tbl 718 (by decide +kernel) rfl), (om_tbl 720 (by decide +kernel) rfl), (om_tbl 15 (by decide +kernel) rfl), (om_tbl 27 (by decide +kernel) rfl), (om_tbl 721 (by decide +kernel) rfl), by decide +kernel, by decide +kernel, by decide +kernel⟩
theorem cv_X3_65 : CV RX3 65 yX3_findWay cX3_findWay 4 (some .boolean) 2 := ⟨Or.inl (om_tbl 723 (by decide +kernel) rfl), (om_tbl 725 (by decide +kernel) rfl), (om_tbl 16 (by decide +kernel) rfl), (om_tbl 27 (by decide +kernel) rfl), (om_tbl 726 (by decide +kernel) rfl), by decide +kernel, by decide +kernel, by decide +kernel⟩
theorem cv_X3_69 : CV RX3 69 yX3_takeBack cX3_takeBack 4 none 2 := ⟨Or.inl (om_tbl 730 (by decide +kernel) rfl), (om_tbl 731 (by decide +kernel) rfl), (om_tbl 732 (by decide +kernel) rfl), (om_tbl 27 (by decide +kernel) rfl), (om_tbl 733 (by decide +kernel) rfl), by decide +kernel, by decide +kernel, by decide +kernel⟩
theorem cv_X3_73 : CV RX3 73 yX5_pairOf cX5_pairOf 2 (some .int) 1 := ⟨Or.inl (om_tbl 727 (by decide +kernel) rfl), (om_tbl 560 (by decide +kernel) rfl), (om_tbl 561 (by decide +kernel) rfl), (om_tbl 28 (by decide +kernel) rfl), (om_tbl 562 (by decide +kernel) rfl), by decide +kernel, by decide +kernel, by decide +kernel⟩
theorem cv_X3_79 : CV RX3 79 yX0_openFor cX0_openFor 4 (some .int) 1 := ⟨Or.inl (om_tbl 728 (by decide +kernel) rfl), (om_tbl 569 (by decide +kernel) rfl), (om_tbl 570 (by decide +kernel) rfl), (om_tbl 23 (by decide +kernel) rfl), (om_tbl 571 (by decide +kernel) rfl), by decide +kernel, by decide +kernel, by decide +kernel⟩
theorem cv_X3_82 : CV RX3 82 yX2_shortest cX2_shortest 8 (some .int) 2 := ⟨Or.inl (om_tbl 729 (by decide +kernel) rfl), (om_tbl 577 (by decide +kernel) rfl), (om_tbl 578 (by decide +kernel) rfl), (om_tbl 22 (by decide +kernel) rfl), (om_tbl 579 (by decide +kernel) rfl), by decide +kernel, by decide +kernel, by decide +kernel⟩
theorem cv_X3_88 : CV RX3 88 yX0_enterPart cX0_enterPart 4 none 3 := ⟨Or.inl (om_tbl 716 (by decide +kernel) rfl), (om_tbl 648 (by decide +kernel) rfl), (om_tbl 649 (by decide +kernel) rfl), (om_tbl 23 (by decide +kernel) rfl), (om_tbl 650 (by decide +kernel) rfl), by decide +kernel, by decide +kernel, by decide +kernel⟩
theorem cv_X3_92 : CV RX3 92 yX0_carry cX0_carry 4 none 2 := ⟨Or.inl (om_tbl 722 (by decide +kernel) rfl), (om_tbl 603 (by decide +kernel) rfl), (om_tbl 604 (by decide +kernel) rfl), (om_tbl 23 (by decide +kernel) rfl), (om_tbl 605 (by decide +kernel) rfl), by decide +kernel, by decide +kernel, by decide +kernel⟩
theorem cv_X4_34 : CV RX4 34 yX6_run cX6_run 5 (some .int) 2 := ⟨Or.inl (om_tbl 539 (by decide +kernel) rfl), (om_tbl 540 (by decide +kernel) rfl), (om_tbl 541 (by decide +kernel) rfl), (om_tbl 24 (by decide +kernel) rfl), (om_tbl 542 (by decide +kernel) rfl), by decide +kernel, by decide +kernel, by decide +kernel⟩
theorem cv_X4_38 : CV RX4 38 yX6_handOver cX6_handOver 3 none 1 := ⟨Or.inl (om_tbl 606 (by decide +kernel) rfl), (om_tbl 607 (by decide +kernel) rfl), (om_tbl 608 (by decide +kernel) rfl), (om_tbl 24 (by decide +kernel) rfl), (om_tbl 609 (by decide +kernel) rfl), by decide +kernel, by decide +kernel, by decide +kernel⟩
theorem cv_X4_42 : CV RX4 42 yX4_mapSplit cX4_mapSplit 4 (some .boolean) 1 := ⟨Or.inl (om_tbl 614 (by decide +kernel) rfl), (om_tbl 616 (by decide +kernel) rfl), (om_tbl 7 (by decide +kernel) rfl), (om_tbl 26 (by decide +kernel) rfl), (om_tbl 617 (by decide +kernel) rfl), by decide +kernel, by decide +kernel, by decide +kernel⟩
theorem cv_X4_46 : CV RX4 46 yX0_enter cX0_enter 4 none 2 := ⟨Or.inl (om_tbl 643 (by decide +kernel) rfl), (om_tbl 644 (by decide +kernel) rfl), (om_tbl 645 (by decide +kernel) rfl), (om_tbl 23 (by decide +kernel) rfl), (om_tbl 646 (by decide +kernel) rfl), by decide +kernel, by decide +kernel, by decide +kernel⟩
theorem cv_X4_52 : CV RX4 52 yX4_secure cX4_secure 4 (some .boolean) 1 := ⟨Or.inl (om_tbl 664 (by decide +kernel) rfl), (om_tbl 666 (by decide +kernel) rfl), (om_tbl 11 (by decide +kernel) rfl), (om_tbl 26 (by decide +kernel) rfl), (om_tbl 667 (by decide +kernel) rfl), by decide +kernel, by decide +kernel, by decide +kernel⟩
theorem cv_X4_55 : CV RX4 55 yX1_prepare cX1_prepare 6 (some .int) 1 := ⟨Or.inl (om_tbl 618 (by decide +kernel) rfl), (om_tbl 544 (by decide +kernel) rfl), (om_tbl 545 (by decide +kernel) rfl), (om_tbl 25 (by decide +kernel) rfl), (om_tbl 546 (by decide +kernel) rfl), by decide +kernel, by decide +kernel, by decide +kernel⟩
theorem cv_X4_59 : CV RX4 59 yX1_take cX1_take 7 (some .boolean) 2 := ⟨Or.inl (om_tbl 619 (by decide +kernel) rfl), (om_tbl 552 (by decide +kernel) rfl), (om_tbl 553 (by decide +kernel) rfl), (om_tbl 25 (by decide +kernel) rfl), (om_tbl 554 (by decide +kernel) rfl), by decide +kernel, by decide +kernel, by decide +kernel⟩
theorem cv_X4_63 : CV RX4 63 yX4_splitLines cX4_splitLines 4 (some .boolean) 1 := ⟨Or.inl (om_tbl 620 (by decide +kernel) rfl), (om_tbl 622 (by decide +kernel) rfl), (om_tbl 8 (by decide +kernel) rfl), (om_tbl 26 (by decide +kernel) rfl), (om_tbl 623 (by decide +kernel) rfl), by decide +kernel, by decide +kernel, by decide +kernel⟩
theorem cv_X4_72 : CV RX4 72 yX4_splitLine cX4_splitLine 7 (some .boolean) 2 := ⟨Or.inl (om_tbl 624 (by decide +kernel) rfl), (om_tbl 626 (by decide +kernel) rfl), (om_tbl 9 (by decide +kernel) rfl), (om_tbl 26 (by decide +kernel) rfl), (om_tbl 627 (by decide +kernel) rfl), by decide +kernel, by decide +kernel, by decide +kernel⟩
theorem cv_X4_75 : CV RX4 75 yX0_enterWays cX0_enterWays 4 none 3 := ⟨Or.inl (om_tbl 637 (by decide +kernel) rfl), (om_tbl 638 (by decide +kernel) rfl), (om_tbl 639 (by decide +kernel) rfl), (om_tbl 23 (by decide +kernel) rfl), (om_tbl 640 (by decide +kernel) rfl), by decide +kernel, by decide +kernel, by decide +kernel⟩
theorem cv_X4_79 : CV RX4 79 yX5_pairOf cX5_pairOf 2 (some .int) 1 := ⟨Or.inl (om_tbl 628 (by decide +kernel) rfl), (om_tbl 560 (by decide +kernel) rfl), (om_tbl 561 (by decide +kernel) rfl), (om_tbl 28 (by decide +kernel) rfl), (om_tbl 562 (by decide +kernel) rfl), by decide +kernel, by decide +kernel, by decide +kernel⟩
theorem cv_X4_87 : CV RX4 87 yX0_openFor cX0_openFor 4 (some .int) 1 := ⟨Or.inl (om_tbl 629 (by decide +kernel) rfl), (om_tbl 569 (by decide +kernel) rfl), (om_tbl 570 (by decide +kernel) rfl), (om_tbl 23 (by decide +kernel) rfl), (om_tbl 571 (by decide +kernel) rfl), by decide +kernel, by decide +kernel, by decide +kernel⟩
theorem cv_X4_90 : CV RX4 90 yX2_shortest cX2_shortest 8 (some .int) 2 := ⟨Or.inl (om_tbl 630 (by decide +kernel) rfl), (om_tbl 577 (by decide +kernel) rfl), (om_tbl 578 (by decide +kernel) rfl), (om_tbl 22 (by decide +kernel) rfl), (om_tbl 579 (by decide +kernel) rfl), by decide +kernel, by decide +kernel, by decide +kernel⟩
theorem cv_X4_96 : CV RX4 96 yX5_setWay cX5_setWay 3 none 2 := ⟨Or.inl (om_tbl 631 (by decide +kernel) rfl), (om_tbl 611 (by decide +kernel) rfl), (om_tbl 612 (by decide +kernel) rfl), (om_tbl 28 (by decide +kernel) rfl), (om_tbl 613 (by decide +kernel) rfl), by decide +kernel, by decide +kernel, by decide +kernel⟩
theorem cv_X4_103 : CV RX4 103 yX5_restOf cX5_restOf 2 (some .int) 1 := ⟨Or.inl (om_tbl 632 (by decide +kernel) rfl), (om_tbl 633 (by decide +kernel) rfl), (om_tbl 634 (by decide +kernel) rfl), (om_tbl 28 (by decide +kernel) rfl), (om_tbl 635 (by decide +kernel) rfl), by decide +kernel, by decide +kernel, by decide +kernel⟩
theorem cv_X4_106 : CV RX4 106 yX0_carry cX0_carry 4 none 2 := ⟨Or.inl (om_tbl 636 (by decide +kernel) rfl), (om_tbl 603 (by decide +kernel) rfl), (om_tbl 604 (by decide +kernel) rfl), (om_tbl 23 (by decide +kernel) rfl), (om_tbl 605 (by decide +kernel) rfl), by decide +kernel, by decide +kernel, by decide +kernel⟩
theorem cv_X4_115 : CV RX4 115 yX0_openBehind cX0_openBehind 8 (some .int) 2 := ⟨Or.inl (om_tbl 668 (by decide +kernel) rfl), (om_tbl 669 (by decide +kernel) rfl), (om_tbl 670 (by decide +kernel) rfl), (om_tbl 23 (by decide +kernel) rfl), (om_tbl 671 (by decide +kernel) rfl), by decide +kernel, by decide +kernel, by decide +kernel⟩
theorem cv_X4_121 : CV RX4 121 yX0_enterSecondWay cX0_enterSecondWay 5 none 3 := ⟨Or.inl (om_tbl 672 (by decide +kernel) rfl), (om_tbl 654 (by decide +kernel) rfl), (om_tbl 655 (by decide +kernel) rfl), (om_tbl 23 (by decide +kernel) rfl), (om_tbl 656 (by decide +kernel) rfl), by decide +kernel, by decide +kernel, by decide +kernel⟩
theorem cv_X5_49 : CV RX5 49 yX5_isLineOf cX5_isLineOf 3 (some .boolean) 2 := ⟨Or.inl (om_tbl 520 (by decide +kernel) rfl), (om_tbl 521 (by decide +kernel) rfl), (om_tbl 522 (by decide +kernel) rfl), (om_tbl 28 (by decide +kernel) rfl), (om_tbl 523 (by decide +kernel) rfl), by decide +kernel, by decide +kernel, by decide +kernel⟩
theorem cv_X5_53 : CV RX5 53 yX5_nodeOf cX5_nodeOf 2 (some .int) 1 := ⟨Or.inl (om_tbl 563 (by decide +kernel) rfl), (om_tbl 564 (by decide +kernel) rfl), (om_tbl 565 (by decide +kernel) rfl), (om_tbl 28 (by decide +kernel) rfl), (om_tbl 566 (by decide +kernel) rfl), by decide +kernel, by decide +kernel, by decide +kernel⟩
theorem cv_X5_57 : CS_ RX5 57 yX2_pairOf cX2_pairOf 2 (some .int) 2 := ⟨Or.inl (om_tbl 567 (by decide +kernel) rfl), (om_tbl 476 (by decide +kernel) rfl), (om_tbl 22 (by decide +kernel) rfl), (om_tbl 477 (by decide +kernel) rfl), by decide +kernel, by decide +kernel, by decide +kernel⟩
theorem cv_X5_70 : CV RX5 70 yX5_isHit cX5_isHit 3 (some .boolean) 2 := ⟨Or.inl (om_tbl 748 (by decide +kernel) rfl), (om_tbl 750 (by decide +kernel) rfl), (om_tbl 17 (by decide +kernel) rfl), (om_tbl 28 (by decide +kernel) rfl), (om_tbl 751 (by decide +kernel) rfl), by decide +kernel, by decide +kernel, by decide +kernel⟩
theorem cv_X5_73 : CV RX5 73 yX5_runsOnSecondWay cX5_runsOnSecondWay 3 (some .boolean) 2 := ⟨Or.inl (om_tbl 752 (by decide +kernel) rfl), (om_tbl 754 (by decide +kernel) rfl), (om_tbl 18 (by decide +kernel) rfl), (om_tbl 28 (by decide +kernel) rfl), (om_tbl 755 (by decide +kernel) rfl), by decide +kernel, by decide +kernel, by decide +kernel⟩
theorem cv_X5_76 : CV RX5 76 yX5_restOf cX5_restOf 2 (some .int) 1 := ⟨Or.inl (om_tbl 764 (by decide +kernel) rfl), (om_tbl 633 (by decide +kernel) rfl), (om_tbl 634 (by decide +kernel) rfl), (om_tbl 28 (by decide +kernel) rfl), (om_tbl 635 (by decide +kernel) rfl), by decide +kernel, by decide +kernel, by decide +kernel⟩
theorem cv_X5_79 : CS_ RX5 79 yJ6_bitCount_0f7a4 cJ6_bitCount_0f7a4 1 (some .int) 1 := ⟨Or.inl (om_tbl 738 (by decide +kernel) rfl), (om_tbl 470 (by decide +kernel) rfl), (om_tbl 35 (by decide +kernel) rfl), (om_tbl 471 (by decide +kernel) rfl), by decide +kernel, by decide +kernel, by decide +kernel⟩
theorem cv_X6_48 : CV RX6 48 yX1_prepare cX1_prepare 6 (some .int) 1 := ⟨Or.inl (om_tbl 543 (by decide +kernel) rfl), (om_tbl 544 (by decide +kernel) rfl), (om_tbl 545 (by decide +kernel) rfl), (om_tbl 25 (by decide +kernel) rfl), (om_tbl 546 (by decide +kernel) rfl), by decide +kernel, by decide +kernel, by decide +kernel⟩
theorem cv_X6_52 : CV RX6 52 yX1_take cX1_take 7 (some .boolean) 2 := ⟨Or.inl (om_tbl 551 (by decide +kernel) rfl), (om_tbl 552 (by decide +kernel) rfl), (om_tbl 553 (by decide +kernel) rfl), (om_tbl 25 (by decide +kernel) rfl), (om_tbl 554 (by decide +kernel) rfl), by decide +kernel, by decide +kernel, by decide +kernel⟩
theorem cv_X6_56 : CV RX6 56 yX6_findFloors cX6_findFloors 5 (some .boolean) 1 := ⟨Or.inl (om_tbl 555 (by decide +kernel) rfl), (om_tbl 557 (by decide +kernel) rfl), (om_tbl 4 (by decide +kernel) rfl), (om_tbl 24 (by decide +kernel) rfl), (om_tbl 558 (by decide +kernel) rfl), by decide +kernel, by decide +kernel, by decide +kernel⟩
theorem cv_X6_60 : CV RX6 60 yX6_isCut cX6_isCut 3 (some .boolean) 1 := ⟨Or.inl (om_tbl 589 (by decide +kernel) rfl), (om_tbl 591 (by decide +kernel) rfl), (om_tbl 5 (by decide +kernel) rfl), (om_tbl 24 (by decide +kernel) rfl), (om_tbl 592 (by decide +kernel) rfl), by decide +kernel, by decide +kernel, by decide +kernel⟩
theorem cv_X6_64 : CS_ RX6 64 yX6_chooseWays cX6_chooseWays 11 none 4 := ⟨Or.inl (om_tbl 593 (by decide +kernel) rfl), (om_tbl 594 (by decide +kernel) rfl), (om_tbl 24 (by decide +kernel) rfl), (om_tbl 595 (by decide +kernel) rfl), by decide +kernel, by decide +kernel, by decide +kernel⟩
theorem cv_X6_79 : CV RX6 79 yX5_setWay cX5_setWay 3 none 2 := ⟨Or.inl (om_tbl 610 (by decide +kernel) rfl), (om_tbl 611 (by decide +kernel) rfl), (om_tbl 612 (by decide +kernel) rfl), (om_tbl 28 (by decide +kernel) rfl), (om_tbl 613 (by decide +kernel) rfl), by decide +kernel, by decide +kernel, by decide +kernel⟩
theorem cv_X6_86 : CV RX6 86 yX5_pairOf cX5_pairOf 2 (some .int) 1 := ⟨Or.inl (om_tbl 559 (by decide +kernel) rfl), (om_tbl 560 (by decide +kernel) rfl), (om_tbl 561 (by decide +kernel) rfl), (om_tbl 28 (by decide +kernel) rfl), (om_tbl 562 (by decide +kernel) rfl), by decide +kernel, by decide +kernel, by decide +kernel⟩
theorem cv_X6_90 : CV RX6 90 yX0_openFor cX0_openFor 4 (some .int) 1 := ⟨Or.inl (om_tbl 568 (by decide +kernel) rfl), (om_tbl 569 (by decide +kernel) rfl), (om_tbl 570 (by decide +kernel) rfl), (om_tbl 23 (by decide +kernel) rfl), (om_tbl 571 (by decide +kernel) rfl), by decide +kernel, by decide +kernel, by decide +kernel⟩
theorem cv_X6_95 : CV RX6 95 yX2_shortest cX2_shortest 8 (some .int) 2 := ⟨Or.inl (om_tbl 576 (by decide +kernel) rfl), (om_tbl 577 (by decide +kernel) rfl), (om_tbl 578 (by decide +kernel) rfl), (om_tbl 22 (by decide +kernel) rfl), (om_tbl 579 (by decide +kernel) rfl), by decide +kernel, by decide +kernel, by decide +kernel⟩
theorem cv_X6_101 : CS_ RX6 101 yJ6_bitCount_0f7a4 cJ6_bitCount_0f7a4 1 (some .int) 1 := ⟨Or.inl (om_tbl 588 (by decide +kernel) rfl), (om_tbl 470 (by decide +kernel) rfl), (om_tbl 35 (by decide +kernel) rfl), (om_tbl 471 (by decide +kernel) rfl), by decide +kernel, by decide +kernel, by decide +kernel⟩
theorem cv_X6_106 : CV RX6 106 yX6_keepLeast cX6_keepLeast 4 none 2 := ⟨Or.inl (om_tbl 596 (by decide +kernel) rfl), (om_tbl 598 (by decide +kernel) rfl), (om_tbl 6 (by decide +kernel) rfl), (om_tbl 24 (by decide +kernel) rfl), (om_tbl 599 (by decide +kernel) rfl), by decide +kernel, by decide +kernel, by decide +kernel⟩
theorem cv_X6_110 : CV RX6 110 yX2_countOfWays cX2_countOfWays 2 (some .int) 1 := ⟨Or.inl (om_tbl 600 (by decide +kernel) rfl), (om_tbl 581 (by decide +kernel) rfl), (om_tbl 582 (by decide +kernel) rfl), (om_tbl 22 (by decide +kernel) rfl), (om_tbl 583 (by decide +kernel) rfl), by decide +kernel, by decide +kernel, by decide +kernel⟩
theorem cv_X6_113 : CV RX6 113 yX2_wayOf cX2_wayOf 4 (some .int) 2 := ⟨Or.inl (om_tbl 601 (by decide +kernel) rfl), (om_tbl 585 (by decide +kernel) rfl), (om_tbl 586 (by decide +kernel) rfl), (om_tbl 22 (by decide +kernel) rfl), (om_tbl 587 (by decide +kernel) rfl), by decide +kernel, by decide +kernel, by decide +kernel⟩
theorem cv_X6_116 : CV RX6 116 yX0_carry cX0_carry 4 none 2 := ⟨Or.inl (om_tbl 602 (by decide +kernel) rfl), (om_tbl 603 (by decide +kernel) rfl), (om_tbl 604 (by decide +kernel) rfl), (om_tbl 23 (by decide +kernel) rfl), (om_tbl 605 (by decide +kernel) rfl), by decide +kernel, by decide +kernel, by decide +kernel⟩
theorem cv_X7_73 : CV RX7 73 yX2_addNode cX2_addNode 2 (some .int) 1 := ⟨Or.inl (om_tbl 420 (by decide +kernel) rfl), (om_tbl 421 (by decide +kernel) rfl), (om_tbl 422 (by decide +kernel) rfl), (om_tbl 22 (by decide +kernel) rfl), (om_tbl 423 (by decide +kernel) rfl), by decide +kernel, by decide +kernel, by decide +kernel⟩
theorem cv_X7_77 : CV RX7 77 yX2_hasNode cX2_hasNode 2 (some .boolean) 1 := ⟨Or.inl (om_tbl 428 (by decide +kernel) rfl), (om_tbl 429 (by decide +kernel) rfl), (om_tbl 430 (by decide +kernel) rfl), (om_tbl 22 (by decide +kernel) rfl), (om_tbl 431 (by decide +kernel) rfl), by decide +kernel, by decide +kernel, by decide +kernel⟩
theorem cv_X7_91 : CV RX7 91 yX2_areLinked cX2_areLinked 4 (some .boolean) 2 := ⟨Or.inl (om_tbl 449 (by decide +kernel) rfl), (om_tbl 450 (by decide +kernel) rfl), (om_tbl 451 (by decide +kernel) rfl), (om_tbl 22 (by decide +kernel) rfl), (om_tbl 452 (by decide +kernel) rfl), by decide +kernel, by decide +kernel, by decide +kernel⟩
theorem cv_X7_97 : CV RX7 97 yX2_addLink cX2_addLink 4 (some .int) 3 := ⟨Or.inl (om_tbl 458 (by decide +kernel) rfl), (om_tbl 459 (by decide +kernel) rfl), (om_tbl 460 (by decide +kernel) rfl), (om_tbl 22 (by decide +kernel) rfl), (om_tbl 461 (by decide +kernel) rfl), by decide +kernel, by decide +kernel, by decide +kernel⟩
theorem cv_X7_101 : CV RX7 101 yX2_hasLink cX2_hasLink 2 (some .boolean) 1 := ⟨Or.inl (om_tbl 812 (by decide +kernel) rfl), (om_tbl 813 (by decide +kernel) rfl), (om_tbl 814 (by decide +kernel) rfl), (om_tbl 22 (by decide +kernel) rfl), (om_tbl 815 (by decide +kernel) rfl), by decide +kernel, by decide +kernel, by decide +kernel⟩
theorem cv_X7_106 : CV RX7 106 yX2_setFailed cX2_setFailed 3 none 2 := ⟨Or.inl (om_tbl 817 (by decide +kernel) rfl), (om_tbl 818 (by decide +kernel) rfl), (om_tbl 819 (by decide +kernel) rfl), (om_tbl 22 (by decide +kernel) rfl), (om_tbl 820 (by decide +kernel) rfl), by decide +kernel, by decide +kernel, by decide +kernel⟩
theorem cv_X7_120 : CV RX7 120 yX5_stoppedLines cX5_stoppedLines 4 (some .int) 1 := ⟨Or.inl (om_tbl 744 (by decide +kernel) rfl), (om_tbl 745 (by decide +kernel) rfl), (om_tbl 746 (by decide +kernel) rfl), (om_tbl 28 (by decide +kernel) rfl), (om_tbl 747 (by decide +kernel) rfl), by decide +kernel, by decide +kernel, by decide +kernel⟩
theorem cv_X7_125 : CV RX7 125 yX7_draft cX7_draft 1 (some (.object "MeshLodger$Request")) 0 := ⟨Or.inl (om_tbl 497 (by decide +kernel) rfl), (om_tbl 499 (by decide +kernel) rfl), (om_tbl 3 (by decide +kernel) rfl), (om_tbl 21 (by decide +kernel) rfl), (om_tbl 500 (by decide +kernel) rfl), by decide +kernel, by decide +kernel, by decide +kernel⟩
theorem cv_X7_134 : CV RX7 134 yX5_addPart cX5_addPart 3 (some .int) 2 := ⟨Or.inl (om_tbl 502 (by decide +kernel) rfl), (om_tbl 503 (by decide +kernel) rfl), (om_tbl 504 (by decide +kernel) rfl), (om_tbl 28 (by decide +kernel) rfl), (om_tbl 505 (by decide +kernel) rfl), by decide +kernel, by decide +kernel, by decide +kernel⟩
theorem cv_X7_138 : CV RX7 138 yX5_hasPart cX5_hasPart 2 (some .boolean) 1 := ⟨Or.inl (om_tbl 510 (by decide +kernel) rfl), (om_tbl 511 (by decide +kernel) rfl), (om_tbl 512 (by decide +kernel) rfl), (om_tbl 28 (by decide +kernel) rfl), (om_tbl 513 (by decide +kernel) rfl), by decide +kernel, by decide +kernel, by decide +kernel⟩
theorem cv_X7_148 : CV RX7 148 yX5_hasLineFor cX5_hasLineFor 4 (some .boolean) 2 := ⟨Or.inl (om_tbl 516 (by decide +kernel) rfl), (om_tbl 517 (by decide +kernel) rfl), (om_tbl 518 (by decide +kernel) rfl), (om_tbl 28 (by decide +kernel) rfl), (om_tbl 519 (by decide +kernel) rfl), by decide +kernel, by decide +kernel, by decide +kernel⟩
theorem cv_X7_153 : CV RX7 153 yX5_addLine cX5_addLine 4 (some .int) 3 := ⟨Or.inl (om_tbl 525 (by decide +kernel) rfl), (om_tbl 526 (by decide +kernel) rfl), (om_tbl 527 (by decide +kernel) rfl), (om_tbl 28 (by decide +kernel) rfl), (om_tbl 528 (by decide +kernel) rfl), by decide +kernel, by decide +kernel, by decide +kernel⟩
theorem cv_X7_156 : CV RX7 156 yX5_empty cX5_empty 2 (some .int) 0 := ⟨Or.inl (om_tbl 775 (by decide +kernel) rfl), (om_tbl 776 (by decide +kernel) rfl), (om_tbl 777 (by decide +kernel) rfl), (om_tbl 28 (by decide +kernel) rfl), (om_tbl 778 (by decide +kernel) rfl), by decide +kernel, by decide +kernel, by decide +kernel⟩
theorem cv_X7_164 : CV RX7 164 yX4_lodge cX4_lodge 4 (some .boolean) 2 := ⟨Or.inl (om_tbl 535 (by decide +kernel) rfl), (om_tbl 536 (by decide +kernel) rfl), (om_tbl 537 (by decide +kernel) rfl), (om_tbl 26 (by decide +kernel) rfl), (om_tbl 538 (by decide +kernel) rfl), by decide +kernel, by decide +kernel, by decide +kernel⟩
theorem cv_X7_177 : CV RX7 177 yX7_isPlaced cX7_isPlaced 2 (some .boolean) 1 := ⟨Or.inl (om_tbl 680 (by decide +kernel) rfl), (om_tbl 682 (by decide +kernel) rfl), (om_tbl 12 (by decide +kernel) rfl), (om_tbl 21 (by decide +kernel) rfl), (om_tbl 683 (by decide +kernel) rfl), by decide +kernel, by decide +kernel, by decide +kernel⟩
theorem cv_X7_184 : CV RX7 184 yX7_dismiss cX7_dismiss 2 none 1 := ⟨Or.inl (om_tbl 686 (by decide +kernel) rfl), (om_tbl 688 (by decide +kernel) rfl), (om_tbl 13 (by decide +kernel) rfl), (om_tbl 21 (by decide +kernel) rfl), (om_tbl 689 (by decide +kernel) rfl), by decide +kernel, by decide +kernel, by decide +kernel⟩
theorem cv_X7_190 : CV RX7 190 yX5_nodeOf cX5_nodeOf 2 (some .int) 1 := ⟨Or.inl (om_tbl 696 (by decide +kernel) rfl), (om_tbl 564 (by decide +kernel) rfl), (om_tbl 565 (by decide +kernel) rfl), (om_tbl 28 (by decide +kernel) rfl), (om_tbl 566 (by decide +kernel) rfl), by decide +kernel, by decide +kernel, by decide +kernel⟩
theorem cv_X7_195 : CV RX7 195 yX5_isMovable cX5_isMovable 3 (some .boolean) 0 := ⟨Or.inl (om_tbl 698 (by decide +kernel) rfl), (om_tbl 699 (by decide +kernel) rfl), (om_tbl 700 (by decide +kernel) rfl), (om_tbl 28 (by decide +kernel) rfl), (om_tbl 701 (by decide +kernel) rfl), by decide +kernel, by decide +kernel, by decide +kernel⟩
theorem cv_X7_201 : CV RX7 201 yX3_shift cX3_shift 6 (some .boolean) 3 := ⟨Or.inl (om_tbl 703 (by decide +kernel) rfl), (om_tbl 704 (by decide +kernel) rfl), (om_tbl 705 (by decide +kernel) rfl), (om_tbl 27 (by decide +kernel) rfl), (om_tbl 706 (by decide +kernel) rfl), by decide +kernel, by decide +kernel, by decide +kernel⟩
theorem cv_X7_205 : CV RX7 205 yX5_linksOfPart cX5_linksOfPart 4 (some .int) 1 := ⟨Or.inl (om_tbl 734 (by decide +kernel) rfl), (om_tbl 735 (by decide +kernel) rfl), (om_tbl 736 (by decide +kernel) rfl), (om_tbl 28 (by decide +kernel) rfl), (om_tbl 737 (by decide +kernel) rfl), by decide +kernel, by decide +kernel, by decide +kernel⟩
theorem cv_X7_212 : CV RX7 212 yX0_leftAtNode cX0_leftAtNode 2 (some .int) 1 := ⟨Or.inl (om_tbl 864 (by decide +kernel) rfl), (om_tbl 548 (by decide +kernel) rfl), (om_tbl 549 (by decide +kernel) rfl), (om_tbl 23 (by decide +kernel) rfl), (om_tbl 550 (by decide +kernel) rfl), by decide +kernel, by decide +kernel, by decide +kernel⟩
theorem cv_X7_225 : CV RX7 225 yX0_leftOnLink cX0_leftOnLink 2 (some .int) 1 := ⟨Or.inl (om_tbl 825 (by decide +kernel) rfl), (om_tbl 573 (by decide +kernel) rfl), (om_tbl 574 (by decide +kernel) rfl), (om_tbl 23 (by decide +kernel) rfl), (om_tbl 575 (by decide +kernel) rfl), by decide +kernel, by decide +kernel, by decide +kernel⟩
theorem cv_X7_230 : CV RX7 230 yX5_loadOn cX5_loadOn 5 (some .int) 2 := ⟨Or.inl (om_tbl 870 (by decide +kernel) rfl), (om_tbl 871 (by decide +kernel) rfl), (om_tbl 872 (by decide +kernel) rfl), (om_tbl 28 (by decide +kernel) rfl), (om_tbl 873 (by decide +kernel) rfl), by decide +kernel, by decide +kernel, by decide +kernel⟩
theorem cv_X7_233 : CV RX7 233 yX5_linesOnSecondWay cX5_linesOnSecondWay 4 (some .int) 1 := ⟨Or.inl (om_tbl 756 (by decide +kernel) rfl), (om_tbl 757 (by decide +kernel) rfl), (om_tbl 758 (by decide +kernel) rfl), (om_tbl 28 (by decide +kernel) rfl), (om_tbl 759 (by decide +kernel) rfl), by decide +kernel, by decide +kernel, by decide +kernel⟩
theorem cv_X7_236 : CV RX7 236 yX5_cost cX5_cost 3 (some .int) 0 := ⟨Or.inl (om_tbl 760 (by decide +kernel) rfl), (om_tbl 761 (by decide +kernel) rfl), (om_tbl 762 (by decide +kernel) rfl), (om_tbl 28 (by decide +kernel) rfl), (om_tbl 763 (by decide +kernel) rfl), by decide +kernel, by decide +kernel, by decide +kernel⟩
theorem cv_X7_241 : CV RX7 241 yX5_hasLine cX5_hasLine 2 (some .boolean) 1 := ⟨Or.inl (om_tbl 835 (by decide +kernel) rfl), (om_tbl 836 (by decide +kernel) rfl), (om_tbl 837 (by decide +kernel) rfl), (om_tbl 28 (by decide +kernel) rfl), (om_tbl 838 (by decide +kernel) rfl), by decide +kernel, by decide +kernel, by decide +kernel⟩
theorem cv_X7_257 : CV RX7 257 yX6_run cX6_run 5 (some .int) 2 := ⟨Or.inl (om_tbl 783 (by decide +kernel) rfl), (om_tbl 540 (by decide +kernel) rfl), (om_tbl 541 (by decide +kernel) rfl), (om_tbl 24 (by decide +kernel) rfl), (om_tbl 542 (by decide +kernel) rfl), by decide +kernel, by decide +kernel, by decide +kernel⟩
theorem cv_X7_261 : CV RX7 261 yX7_freeingNode cX7_freeingNode 7 (some .int) 3 := ⟨Or.inl (om_tbl 788 (by decide +kernel) rfl), (om_tbl 790 (by decide +kernel) rfl), (om_tbl 19 (by decide +kernel) rfl), (om_tbl 21 (by decide +kernel) rfl), (om_tbl 791 (by decide +kernel) rfl), by decide +kernel, by decide +kernel, by decide +kernel⟩
theorem cv_X7_268 : CV RX7 268 yX3_takeBack cX3_takeBack 4 none 2 := ⟨Or.inl (om_tbl 792 (by decide +kernel) rfl), (om_tbl 731 (by decide +kernel) rfl), (om_tbl 732 (by decide +kernel) rfl), (om_tbl 27 (by decide +kernel) rfl), (om_tbl 733 (by decide +kernel) rfl), by decide +kernel, by decide +kernel, by decide +kernel⟩
theorem cv_X7_272 : CV RX7 272 yX0_enter cX0_enter 4 none 2 := ⟨Or.inl (om_tbl 690 (by decide +kernel) rfl), (om_tbl 644 (by decide +kernel) rfl), (om_tbl 645 (by decide +kernel) rfl), (om_tbl 23 (by decide +kernel) rfl), (om_tbl 646 (by decide +kernel) rfl), by decide +kernel, by decide +kernel, by decide +kernel⟩
theorem mm_X0_49 : Cond.methodLink RX0 49 Lib.Math.max.name ∈ Om := (om_tbl 661 (by decide +kernel) rfl)
theorem mm_s : Cond.static Lib.Math.max.name ∈ Om := (om_tbl 662 (by decide +kernel) rfl)
theorem mm_i : Cond.initialized "java/lang/Math" ∈ Om := (om_tbl 36 (by decide +kernel) rfl)
theorem mm_c : Cond.code Lib.Math.max.name Lib.Math.max.code 2 (some .int) ∈ Om := (om_tbl 663 (by decide +kernel) rfl)
theorem ob_ML {g : GE} : LAt g p_ML (.inr (.inr (7, [some 1, some 2, some 3, some 4, some 5, some 59, none, none]))) := at0 rfl
theorem ob_GR {g : GE} : LAt g p_GR (.inr (.inr (2, [some 7, some 8, some 9, some 10, some 57, some 11, none, none, none]))) := at0 rfl
theorem ob_BK {g : GE} : LAt g p_BK (.inr (.inr (0, [some 1, some 12, some 13, some 14, some 15, some 58]))) := at0 rfl
theorem ob_SE {g : GE} : LAt g p_SE (.inr (.inr (6, [some 1, some 2, some 52, some 16, some 17, some 18, some 19, none, none]))) := at0 rfl
theorem ob_PL {g : GE} : LAt g p_PL (.inr (.inr (4, [some 1, some 2, some 3, some 54]))) := at0 rfl
theorem ob_MV {g : GE} : LAt g p_MV (.inr (.inr (3, [some 1, some 2, some 20, none]))) := at0 rfl
theorem ar_GR_nodeRooms {g : GE} : LAt g p_GR_nodeRooms (.inl (0, 6)) := at0 rfl
theorem ar_GR_linkRooms {g : GE} : LAt g p_GR_linkRooms (.inl (0, 9)) := at0 rfl
theorem ar_GR_linkStarts {g : GE} : LAt g p_GR_linkStarts (.inl (0, 9)) := at0 rfl
theorem ar_GR_linkEnds {g : GE} : LAt g p_GR_linkEnds (.inl (0, 9)) := at0 rfl
theorem ar_GR_wayCounts {g : GE} : LAt g p_GR_wayCounts (.inl (0, 36)) := at0 rfl
theorem ar_BK_nodeNeeds {g : GE} : LAt g p_BK_nodeNeeds (.inl (0, 6)) := at0 rfl
theorem ar_BK_nodeParts {g : GE} : LAt g p_BK_nodeParts (.inl (0, 6)) := at0 rfl
theorem ar_BK_linkNeeds {g : GE} : LAt g p_BK_linkNeeds (.inl (0, 9)) := at0 rfl
theorem ar_BK_reserved {g : GE} : LAt g p_BK_reserved (.inl (0, 9)) := at0 rfl
theorem ar_SE_tried {g : GE} : LAt g p_SE_tried (.inl (0, 3)) := at0 rfl
theorem ar_SE_floors {g : GE} : LAt g p_SE_floors (.inl (0, 4)) := at0 rfl
theorem ar_SE_leastPlaces {g : GE} : LAt g p_SE_leastPlaces (.inl (0, 3)) := at0 rfl
theorem ar_SE_leastWays {g : GE} : LAt g p_SE_leastWays (.inl (0, 3)) := at0 rfl
theorem ar_MV_waysBefore {g : GE} : LAt g p_MV_waysBefore (.inl (0, 3)) := at0 rfl
theorem ar_LC {g : GE} : LAt g p_LC (.inl (0, 5)) := at0 rfl
theorem ar_LG {g : GE} : LAt g p_LG (.inl (0, 6)) := at0 rfl
theorem ar_LL {g : GE} : LAt g p_LL (.inl (0, 27)) := at0 rfl
theorem ar_LQ {g : GE} : LAt g p_LQ (.inl (0, 64)) := at0 rfl
theorem ar_LP {g : GE} : LAt g p_LP (.inl (0, 36)) := at0 rfl
theorem ar_LT {g : GE} : LAt g p_LT (.inl (0, 12)) := at0 rfl
theorem ar_CS_fitting {g : GE} : LAt g p_CS_fitting (.inl (0, 3)) := at0 rfl
theorem ar_CP_fitting {g : GE} : LAt g p_CP_fitting (.inl (0, 3)) := at0 rfl
theorem ar_GR_ways {g : GE} : LAt g p_GR_ways (.inr (.inl (3, [some 60, some 61, some 62, some 63, some 64, some 65, some 66, some 67, some 68, some 69, some 70, some 71, some 72, some 73, some 74, some 75, some 76, some 77, some 78, some 79, some 80, some 81, some 82, some 83, some 84, some 85, some 86, some 87, some 88, some 89, some 90, some 91, some 92, some 93, some 94, some 95]))) := at0 rfl
theorem ar_BK_behind {g : GE} : LAt g p_BK_behind (.inr (.inl (3, [some 96, some 97, some 98, some 99, some 100, some 101, some 102, some 103, some 104]))) := at0 rfl
theorem ar_ML_requests {g : GE} : LAt g p_ML_requests (.inr (.inl (4, [some 105, some 116, some 127, some 138, some 149, some 160, some 171, some 182, some 193, some 204, some 215, some 226, some 237]))) := at0 rfl
def isCho (c : Nat) : Prop := c = p_CS ∨ c = p_CP
theorem ch_CS : isCho p_CS := Or.inl rfl
theorem ch_CP : isCho p_CP := Or.inr rfl
theorem ob_CH {g : GE} {c : Nat} (h : isCho c) : LAt g c (.inr (.inr (1, [some p_GR, some p_BK, some (c + 1)]))) := by
  rcases h with rfl | rfl <;> exact at0 rfl
theorem ar_CH {g : GE} {c : Nat} (h : isCho c) : LAt g (c + 1) (.inl (0, 3)) := by
  rcases h with rfl | rfl <;> exact at0 rfl
set_option maxRecDepth 100000 in
theorem ob_RQ_all {g : GE} : ∀ i, i < 13 → LAt g (p_RQ + 11 * i) (.inr (.inr (5, [some (p_RQ + 11 * i + 1), some (p_RQ + 11 * i + 2), some (p_RQ + 11 * i + 3), some (p_RQ + 11 * i + 4), some (p_RQ + 11 * i + 5), some (p_RQ + 11 * i + 6), some (p_RQ + 11 * i + 7), some (p_RQ + 11 * i + 8), some (p_RQ + 11 * i + 9), some (p_RQ + 11 * i + 10), none, none, none, none, none]))) := by
  intro i hi
  rcases (show i = 0 ∨ i = 1 ∨ i = 2 ∨ i = 3 ∨ i = 4 ∨ i = 5 ∨ i = 6 ∨ i = 7 ∨ i = 8 ∨ i = 9 ∨ i = 10 ∨ i = 11 ∨ i = 12 by omega) with rfl | rfl | rfl | rfl | rfl | rfl | rfl | rfl | rfl | rfl | rfl | rfl | rfl <;> exact at0 rfl
theorem ob_RQ {g : GE} {p : Nat} (h : isReq p) : LAt g p (.inr (.inr (5, [some (p + 1), some (p + 2), some (p + 3), some (p + 4), some (p + 5), some (p + 6), some (p + 7), some (p + 8), some (p + 9), some (p + 10), none, none, none, none, none]))) := by
  obtain ⟨i, hi, rfl⟩ := h
  exact ob_RQ_all i hi
set_option maxRecDepth 100000 in
theorem ar_RQ_all {g : GE} : ∀ i, i < 13 → ∀ k, k < 11 → 0 < k → LAt g (p_RQ + 11 * i + k) (.inl (0, 3)) := by
  intro i hi k hk h0
  rcases (show i = 0 ∨ i = 1 ∨ i = 2 ∨ i = 3 ∨ i = 4 ∨ i = 5 ∨ i = 6 ∨ i = 7 ∨ i = 8 ∨ i = 9 ∨ i = 10 ∨ i = 11 ∨ i = 12 by omega) with rfl | rfl | rfl | rfl | rfl | rfl | rfl | rfl | rfl | rfl | rfl | rfl | rfl <;> rcases (show k = 1 ∨ k = 2 ∨ k = 3 ∨ k = 4 ∨ k = 5 ∨ k = 6 ∨ k = 7 ∨ k = 8 ∨ k = 9 ∨ k = 10 by omega) with rfl | rfl | rfl | rfl | rfl | rfl | rfl | rfl | rfl | rfl <;> exact at0 rfl
theorem ar_RQ {g : GE} {p : Nat} (h : isReq p) (k : Nat) (h0 : 0 < k) (hk : k < 11) : LAt g (p + k) (.inl (0, 3)) := by
  obtain ⟨i, hi, rfl⟩ := h
  exact ar_RQ_all i hi k hk h0
theorem vp_lt {i : Int32} {n : Nat} (h : vp_in i n) : i.toNatClampNeg < n := Nat.not_le.mp fun q => h (Or.inr q)
theorem vp_req {i : Int32} (h : vp_in i 13) : isReq (p_RQ + 11 * i.toNatClampNeg) := ⟨_, vp_lt h, rfl⟩
theorem ar_WY_all {g : GE} : ∀ j, j < 36 → LAt g (p_WY + j) (.inl (0, 15)) := by
  intro j hj
  rcases (show j = 0 ∨ j = 1 ∨ j = 2 ∨ j = 3 ∨ j = 4 ∨ j = 5 ∨ j = 6 ∨ j = 7 ∨ j = 8 ∨ j = 9 ∨ j = 10 ∨ j = 11 ∨ j = 12 ∨ j = 13 ∨ j = 14 ∨ j = 15 ∨ j = 16 ∨ j = 17 ∨ j = 18 ∨ j = 19 ∨ j = 20 ∨ j = 21 ∨ j = 22 ∨ j = 23 ∨ j = 24 ∨ j = 25 ∨ j = 26 ∨ j = 27 ∨ j = 28 ∨ j = 29 ∨ j = 30 ∨ j = 31 ∨ j = 32 ∨ j = 33 ∨ j = 34 ∨ j = 35 by omega) with rfl | rfl | rfl | rfl | rfl | rfl | rfl | rfl | rfl | rfl | rfl | rfl | rfl | rfl | rfl | rfl | rfl | rfl | rfl | rfl | rfl | rfl | rfl | rfl | rfl | rfl | rfl | rfl | rfl | rfl | rfl | rfl | rfl | rfl | rfl | rfl <;> exact at0 rfl
theorem ar_WY {g : GE} {i : Int32} (h : vp_in i 36) : LAt g (p_WY + i.toNatClampNeg) (.inl (0, 15)) := ar_WY_all _ (vp_lt h)
theorem ar_BH_all {g : GE} : ∀ j, j < 9 → LAt g (p_BH + j) (.inl (0, 9)) := by
  intro j hj
  rcases (show j = 0 ∨ j = 1 ∨ j = 2 ∨ j = 3 ∨ j = 4 ∨ j = 5 ∨ j = 6 ∨ j = 7 ∨ j = 8 by omega) with rfl | rfl | rfl | rfl | rfl | rfl | rfl | rfl | rfl <;> exact at0 rfl
theorem ar_BH {g : GE} {i : Int32} (h : vp_in i 9) : LAt g (p_BH + i.toNatClampNeg) (.inl (0, 9)) := ar_BH_all _ (vp_lt h)
section K2
variable {g : GE} {f : FE} {cc : ByteArray} {nL : Nat} {own : String} {fr lo kc ks pc : Nat} {ls : List (Option Value)} {st : List Value} {μ : Mm}
theorem rt_GR_ways : ∀ j, j < 36 → ([some 60, some 61, some 62, some 63, some 64, some 65, some 66, some 67, some 68, some 69, some 70, some 71, some 72, some 73, some 74, some 75, some 76, some 77, some 78, some 79, some 80, some 81, some 82, some 83, some 84, some 85, some 86, some 87, some 88, some 89, some 90, some 91, some 92, some 93, some 94, some 95] : List (Option Nat))[j]? = some (some (p_WY + j)) := by decide +kernel
theorem k_aald_GR_ways {i : Int32} (cx : Cx g f cc nL own fr lo kc ks) (hi : vp_in i 36) (d : decode cc pc = .ok (.aaload, 1)) (kk : KW g f nL kc ks (pc + 1) ls (.ref (p_WY + i.toNatClampNeg) :: st) μ) : KW g f nL kc ks pc ls (.int i :: .ref p_GR_ways :: st) μ :=
  k_aald (ty := .array .int) cx ar_GR_ways rfl rfl hi (rt_GR_ways _ (vp_lt hi)) d kk
theorem rt_BK_behind : ∀ j, j < 9 → ([some 96, some 97, some 98, some 99, some 100, some 101, some 102, some 103, some 104] : List (Option Nat))[j]? = some (some (p_BH + j)) := by decide +kernel
theorem k_aald_BK_behind {i : Int32} (cx : Cx g f cc nL own fr lo kc ks) (hi : vp_in i 9) (d : decode cc pc = .ok (.aaload, 1)) (kk : KW g f nL kc ks (pc + 1) ls (.ref (p_BH + i.toNatClampNeg) :: st) μ) : KW g f nL kc ks pc ls (.int i :: .ref p_BK_behind :: st) μ :=
  k_aald (ty := .array .int) cx ar_BK_behind rfl rfl hi (rt_BK_behind _ (vp_lt hi)) d kk
theorem rt_ML_requests : ∀ j, j < 13 → ([some 105, some 116, some 127, some 138, some 149, some 160, some 171, some 182, some 193, some 204, some 215, some 226, some 237] : List (Option Nat))[j]? = some (some (p_RQ + 11 * j)) := by decide +kernel
theorem k_aald_ML_requests {i : Int32} (cx : Cx g f cc nL own fr lo kc ks) (hi : vp_in i 13) (d : decode cc pc = .ok (.aaload, 1)) (kk : KW g f nL kc ks (pc + 1) ls (.ref (p_RQ + 11 * i.toNatClampNeg) :: st) μ) : KW g f nL kc ks pc ls (.int i :: .ref p_ML_requests :: st) μ :=
  k_aald (ty := .object "MeshLodger$Request") cx ar_ML_requests rfl rfl hi (rt_ML_requests _ (vp_lt hi)) d kk
def imax (x y : Int32) : Int32 := if x < y then y else x
theorem k_mmax {index : Nat} {x y : Int32} (cx : Cx g f cc nL own fr lo kc ks) (hw : Cond.methodLink own index Lib.Math.max.name ∈ Om) (h8 : (st.map fun v => v.category).sum ≤ 8) (hf : 1 ≤ fr) (hlo : 21 ≤ lo) (d : decode cc pc = .ok (.invokestatic index, 3)) (kk : KW g f nL kc ks (pc + 3) ls (.int (imax x y) :: st) μ) : KW g f nL kc ks pc ls (.int y :: .int x :: st) μ :=
  fun H locs la hP hS hz => va_mmax cx.1.1 cx.1.2.1 (by rw [cx.1.2.2.1]; exact hz.1.symm) cx.1.2.2.2.1 (cx.1.2.2.2.2 _ hw) (cx.1.2.2.2.2 _ mm_s) (cx.1.2.2.2.2 _ mm_i) (cx.1.2.2.2.2 _ mm_c) (Nat.le_trans hf cx.2.2.2.2.2.1) (Nat.le_trans (by rw [sum_cat]; omega) cx.2.2.2.2.2.2.1) cx.2.2.2.2.2.2.2.1 cx.2.2.2.2.2.2.2.2 d (kk H locs la hP hS hz)
theorem k_dup2 {v w : Value} (cx : Cx g f cc nL own fr lo kc ks) (d : decode cc pc = .ok (.dup2, 1)) (hv : v.category = 1) (hw : w.category = 1) (kk : KW g f nL kc ks (pc + 1) ls (v :: w :: v :: w :: st) μ) : KW g f nL kc ks pc ls (v :: w :: st) μ :=
  fun H locs la hP hS hz => lv_dup2_11 cx.1.1 cx.1.2.1 d (by rw [ren_cat]; exact hv) (by rw [ren_cat]; exact hw) (kk H locs la hP hS hz)
theorem k_ldc_w {index : Nat} {v : Int32} (cx : Cx g f cc nL own fr lo kc ks) (hw : Cond.constant own index v ∈ Om) (d : decode cc pc = .ok (.ldc_w index, 3)) (kk : KW g f nL kc ks (pc + 3) ls (.int v :: st) μ) : KW g f nL kc ks pc ls st μ :=
  fun H locs la hP hS hz => lv_ldcw cx.1.1 cx.1.2.1 cx.1.2.2.2.1 (cx.1.2.2.2.2 _ hw) d (kk H locs la hP hS hz)
theorem k_ldc {index : Nat} {v : Int32} (cx : Cx g f cc nL own fr lo kc ks) (hw : Cond.constant own index v ∈ Om) (d : decode cc pc = .ok (.ldc index, 2)) (kk : KW g f nL kc ks (pc + 2) ls (.int v :: st) μ) : KW g f nL kc ks pc ls st μ :=
  fun H locs la hP hS hz => lv_ldc cx.1.1 cx.1.2.1 cx.1.2.2.2.1 (cx.1.2.2.2.2 _ hw) d (kk H locs la hP hS hz)
theorem k_ret_R {q : Nat → Mm → Prop} {p : Nat} {rt : FieldType} (cx : Cx g f cc nL own fr lo 0 0) (hr : (f_M f).sig.returnType = some rt) (hl : (f_M f).locks = false) (hQ : f_Q f = MQ (f_b f) (QW g (qR q)) (f_a f) (f_s f) 0 0 (fun q => g.2.2.2.1 ≤ q)) (d : decode cc pc = .ok (.areturn, 1)) (hp : isReq p) (hq : q p μ) (hn : ∃ n, rt = .object n := by exact ⟨_, rfl⟩) : KW g f nL 0 0 pc ls [.ref p] μ := by
  intro H locs la hP hS hz
  rw [hQ]
  exact W.aret (hlocks := hl) cx.1.1 cx.1.2.1 hr (Or.inl hn) (Or.inr ⟨_, rfl⟩) (fun t ht hW => ⟨⟨some (.ref p), μ, rfl, ⟨p, rfl, hp, hq⟩, by rw [ht]; exact hP⟩, hS.F ht⟩) hS.2.2 d
end K2
theorem i32_cases (n : Nat) (hn : n < 2 ^ 30) {x : Int32} (h : ¬ (x.toInt < 0 ∨ (n : Int) < x.toInt)) : ∃ j : Nat, j ≤ n ∧ x = nI j := by
  have h0 : ¬ x < 0 := by
    intro q
    rw [Int32.lt_iff_toInt_lt, Int32.toInt_zero] at q
    omega
  obtain ⟨j, hj, rfl⟩ := nI_of h0
  rw [nI_toInt hj] at h
  exact ⟨j, by omega, rfl⟩
theorem sw_2 {x : Int32} (h : ¬ (x.toInt < 0 ∨ 2 < x.toInt)) : x = 0 ∨ x = 1 ∨ x = 2 := by
  obtain ⟨j, hj, rfl⟩ := i32_cases 2 (by decide) h
  have : j = 0 ∨ j = 1 ∨ j = 2 := by omega
  rcases this with rfl | rfl | rfl <;> simp [nI]
theorem sw_6 {x : Int32} (h : ¬ (x.toInt < 0 ∨ 6 < x.toInt)) : x = 0 ∨ x = 1 ∨ x = 2 ∨ x = 3 ∨ x = 4 ∨ x = 5 ∨ x = 6 := by
  obtain ⟨j, hj, rfl⟩ := i32_cases 6 (by decide) h
  have : j = 0 ∨ j = 1 ∨ j = 2 ∨ j = 3 ∨ j = 4 ∨ j = 5 ∨ j = 6 := by omega
  rcases this with rfl | rfl | rfl | rfl | rfl | rfl | rfl <;> simp [nI]
