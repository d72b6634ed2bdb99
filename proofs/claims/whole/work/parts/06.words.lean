/-! what the tables say, by their places -/
theorem om_list {ws : List Cond} (ps : List Nat) (hp : ws = ps.filterMap (fun i => lw_tbl[i]?)) (h : ws.all goodWord = true) : ∀ w ∈ ws, w ∈ Om := by
  intro w hw
  have h1 := List.all_eq_true.mp h w hw
  rw [hp] at hw
  obtain ⟨i, -, hi⟩ := List.mem_filterMap.mp hw
  exact om_tbl i hi h1
theorem nest_mem {w : Cond} (i : Nat) (h : tables_1[i]? = some w) (hn : isNest w = true) : w ∈ nestL := List.mem_filter.mpr ⟨List.mem_of_getElem? h, hn⟩
set_option maxRecDepth 20000 in
theorem in_X0 : ∀ w ∈ u_ws RX0 TX0 6, w ∈ Om := om_list [148, 150, 152, 154, 156, 158] (by decide +kernel) (by decide +kernel)
set_option maxRecDepth 20000 in
theorem in_X1 : ∀ w ∈ u_ws RX1 TX1 3, w ∈ Om := om_list [176, 178, 180] (by decide +kernel) (by decide +kernel)
set_option maxRecDepth 20000 in
theorem in_X2 : ∀ w ∈ u_ws RX2 TX2 9, w ∈ Om := om_list [112, 114, 116, 118, 120, 122, 124, 126, 128] (by decide +kernel) (by decide +kernel)
set_option maxRecDepth 20000 in
theorem in_X3 : ∀ w ∈ u_ws RX3 TX3 4, w ∈ Om := om_list [242, 244, 246, 248] (by decide +kernel) (by decide +kernel)
set_option maxRecDepth 20000 in
theorem in_X4 : ∀ w ∈ u_ws RX4 TX4 4, w ∈ Om := om_list [223, 225, 227, 229] (by decide +kernel) (by decide +kernel)
set_option maxRecDepth 20000 in
theorem in_X5 : ∀ w ∈ u_ws RX5 TX5 15, w ∈ Om := om_list [310, 312, 314, 316, 318, 320, 322, 324, 326, 328, 330, 332, 334, 336, 338] (by decide +kernel) (by decide +kernel)
set_option maxRecDepth 20000 in
theorem in_X6 : ∀ w ∈ u_ws RX6 TX6 9, w ∈ Om := om_list [192, 194, 196, 198, 200, 202, 204, 206, 208] (by decide +kernel) (by decide +kernel)
set_option maxRecDepth 20000 in
theorem in_X7 : ∀ w ∈ u_ws RX7 TX7 8, w ∈ Om := om_list [349, 351, 353, 355, 357, 359, 361, 363] (by decide +kernel) (by decide +kernel)
set_option maxRecDepth 20000 in
theorem in_X8 : ∀ w ∈ u_ws RX8 TX8 36, w ∈ Om := om_list [958, 960, 962, 964, 966, 968, 970, 972, 974, 976, 978, 980, 982, 984, 986, 988, 990, 992, 994, 996, 998, 1000, 1002, 1004, 1006, 1008, 1010, 1012, 1014, 1016, 1018, 1020, 1022, 1024, 1026, 1028] (by decide +kernel) (by decide +kernel)
theorem fl_X0_9 : FL RX0 9 0 1 := ⟨RX0, TX0, 6, rfl, by decide, rfl, in_X0, Or.inl (om_tbl 140 (by decide +kernel) rfl)⟩
theorem fl_X0_15 : FL RX0 15 0 2 := ⟨RX0, TX0, 6, rfl, by decide, rfl, in_X0, Or.inl (om_tbl 141 (by decide +kernel) rfl)⟩
theorem fl_X0_18 : FL RX0 18 0 3 := ⟨RX0, TX0, 6, rfl, by decide, rfl, in_X0, Or.inl (om_tbl 143 (by decide +kernel) rfl)⟩
theorem fl_X0_21 : FL RX0 21 0 4 := ⟨RX0, TX0, 6, rfl, by decide, rfl, in_X0, Or.inl (om_tbl 145 (by decide +kernel) rfl)⟩
theorem fl_X0_26 : FL RX0 26 0 5 := ⟨RX0, TX0, 6, rfl, by decide, rfl, in_X0, Or.inl (om_tbl 147 (by decide +kernel) rfl)⟩
theorem fl_X0_29 : FL RX0 29 0 0 := ⟨RX0, TX0, 6, rfl, by decide, rfl, in_X0, Or.inl (om_tbl 139 (by decide +kernel) rfl)⟩
theorem fl_X0_33 : FL RX0 33 2 0 := ⟨RX2, TX2, 9, rfl, by decide, rfl, in_X2, Or.inr ⟨"MeshLodger", (nest_mem 35 (by decide +kernel) rfl)⟩⟩
theorem fl_X0_38 : FL RX0 38 2 1 := ⟨RX2, TX2, 9, rfl, by decide, rfl, in_X2, Or.inr ⟨"MeshLodger", (nest_mem 37 (by decide +kernel) rfl)⟩⟩
theorem fl_X0_41 : FL RX0 41 2 7 := ⟨RX2, TX2, 9, rfl, by decide, rfl, in_X2, Or.inr ⟨"MeshLodger", (nest_mem 47 (by decide +kernel) rfl)⟩⟩
theorem fl_X0_55 : FL RX0 55 5 10 := ⟨RX5, TX5, 15, rfl, by decide, rfl, in_X5, Or.inr ⟨"MeshLodger", (nest_mem 236 (by decide +kernel) rfl)⟩⟩
theorem fl_X0_60 : FL RX0 60 5 2 := ⟨RX5, TX5, 15, rfl, by decide, rfl, in_X5, Or.inr ⟨"MeshLodger", (nest_mem 208 (by decide +kernel) rfl)⟩⟩
theorem fl_X0_63 : FL RX0 63 5 0 := ⟨RX5, TX5, 15, rfl, by decide, rfl, in_X5, Or.inr ⟨"MeshLodger", (nest_mem 199 (by decide +kernel) rfl)⟩⟩
theorem fl_X0_70 : FL RX0 70 5 11 := ⟨RX5, TX5, 15, rfl, by decide, rfl, in_X5, Or.inr ⟨"MeshLodger", (nest_mem 241 (by decide +kernel) rfl)⟩⟩
theorem fl_X0_84 : FL RX0 84 5 6 := ⟨RX5, TX5, 15, rfl, by decide, rfl, in_X5, Or.inr ⟨"MeshLodger", (nest_mem 219 (by decide +kernel) rfl)⟩⟩
theorem fl_X0_87 : FL RX0 87 5 7 := ⟨RX5, TX5, 15, rfl, by decide, rfl, in_X5, Or.inr ⟨"MeshLodger", (nest_mem 223 (by decide +kernel) rfl)⟩⟩
theorem fl_X0_94 : FL RX0 94 5 8 := ⟨RX5, TX5, 15, rfl, by decide, rfl, in_X5, Or.inr ⟨"MeshLodger", (nest_mem 226 (by decide +kernel) rfl)⟩⟩
theorem fl_X0_100 : FL RX0 100 5 9 := ⟨RX5, TX5, 15, rfl, by decide, rfl, in_X5, Or.inr ⟨"MeshLodger", (nest_mem 230 (by decide +kernel) rfl)⟩⟩
theorem fl_X0_103 : FL RX0 103 5 5 := ⟨RX5, TX5, 15, rfl, by decide, rfl, in_X5, Or.inr ⟨"MeshLodger", (nest_mem 215 (by decide +kernel) rfl)⟩⟩
theorem fl_X1_9 : FL RX1 9 1 2 := ⟨RX1, TX1, 3, rfl, by decide, rfl, in_X1, Or.inl (om_tbl 175 (by decide +kernel) rfl)⟩
theorem fl_X1_15 : FL RX1 15 1 0 := ⟨RX1, TX1, 3, rfl, by decide, rfl, in_X1, Or.inl (om_tbl 173 (by decide +kernel) rfl)⟩
theorem fl_X1_19 : FL RX1 19 1 1 := ⟨RX1, TX1, 3, rfl, by decide, rfl, in_X1, Or.inl (om_tbl 174 (by decide +kernel) rfl)⟩
theorem fl_X1_23 : FL RX1 23 5 10 := ⟨RX5, TX5, 15, rfl, by decide, rfl, in_X5, Or.inr ⟨"MeshLodger", (nest_mem 233 (by decide +kernel) rfl)⟩⟩
theorem fl_X1_29 : FL RX1 29 2 6 := ⟨RX2, TX2, 9, rfl, by decide, rfl, in_X2, Or.inr ⟨"MeshLodger", (nest_mem 44 (by decide +kernel) rfl)⟩⟩
theorem fl_X1_40 : FL RX1 40 5 0 := ⟨RX5, TX5, 15, rfl, by decide, rfl, in_X5, Or.inr ⟨"MeshLodger", (nest_mem 198 (by decide +kernel) rfl)⟩⟩
theorem fl_X1_43 : FL RX1 43 5 1 := ⟨RX5, TX5, 15, rfl, by decide, rfl, in_X5, Or.inr ⟨"MeshLodger", (nest_mem 203 (by decide +kernel) rfl)⟩⟩
theorem fl_X1_46 : FL RX1 46 5 2 := ⟨RX5, TX5, 15, rfl, by decide, rfl, in_X5, Or.inr ⟨"MeshLodger", (nest_mem 207 (by decide +kernel) rfl)⟩⟩
theorem fl_X2_9 : FL RX2 9 2 0 := ⟨RX2, TX2, 9, rfl, by decide, rfl, in_X2, Or.inl (om_tbl 96 (by decide +kernel) rfl)⟩
theorem fl_X2_15 : FL RX2 15 2 1 := ⟨RX2, TX2, 9, rfl, by decide, rfl, in_X2, Or.inl (om_tbl 98 (by decide +kernel) rfl)⟩
theorem fl_X2_18 : FL RX2 18 2 2 := ⟨RX2, TX2, 9, rfl, by decide, rfl, in_X2, Or.inl (om_tbl 100 (by decide +kernel) rfl)⟩
theorem fl_X2_21 : FL RX2 21 2 3 := ⟨RX2, TX2, 9, rfl, by decide, rfl, in_X2, Or.inl (om_tbl 101 (by decide +kernel) rfl)⟩
theorem fl_X2_26 : FL RX2 26 2 4 := ⟨RX2, TX2, 9, rfl, by decide, rfl, in_X2, Or.inl (om_tbl 102 (by decide +kernel) rfl)⟩
theorem fl_X2_29 : FL RX2 29 2 5 := ⟨RX2, TX2, 9, rfl, by decide, rfl, in_X2, Or.inl (om_tbl 103 (by decide +kernel) rfl)⟩
theorem fl_X2_32 : FL RX2 32 2 6 := ⟨RX2, TX2, 9, rfl, by decide, rfl, in_X2, Or.inl (om_tbl 104 (by decide +kernel) rfl)⟩
theorem fl_X2_36 : FL RX2 36 2 7 := ⟨RX2, TX2, 9, rfl, by decide, rfl, in_X2, Or.inl (om_tbl 107 (by decide +kernel) rfl)⟩
theorem fl_X2_46 : FL RX2 46 2 8 := ⟨RX2, TX2, 9, rfl, by decide, rfl, in_X2, Or.inl (om_tbl 111 (by decide +kernel) rfl)⟩
theorem fl_X3_9 : FL RX3 9 3 2 := ⟨RX3, TX3, 4, rfl, by decide, rfl, in_X3, Or.inl (om_tbl 240 (by decide +kernel) rfl)⟩
theorem fl_X3_15 : FL RX3 15 3 0 := ⟨RX3, TX3, 4, rfl, by decide, rfl, in_X3, Or.inl (om_tbl 238 (by decide +kernel) rfl)⟩
theorem fl_X3_19 : FL RX3 19 3 1 := ⟨RX3, TX3, 4, rfl, by decide, rfl, in_X3, Or.inl (om_tbl 239 (by decide +kernel) rfl)⟩
theorem fl_X3_23 : FL RX3 23 5 1 := ⟨RX5, TX5, 15, rfl, by decide, rfl, in_X5, Or.inr ⟨"MeshLodger", (nest_mem 202 (by decide +kernel) rfl)⟩⟩
theorem fl_X3_38 : FL RX3 38 5 0 := ⟨RX5, TX5, 15, rfl, by decide, rfl, in_X5, Or.inr ⟨"MeshLodger", (nest_mem 197 (by decide +kernel) rfl)⟩⟩
theorem fl_X3_41 : FL RX3 41 5 2 := ⟨RX5, TX5, 15, rfl, by decide, rfl, in_X5, Or.inr ⟨"MeshLodger", (nest_mem 205 (by decide +kernel) rfl)⟩⟩
theorem fl_X3_44 : FL RX3 44 3 3 := ⟨RX3, TX3, 4, rfl, by decide, rfl, in_X3, Or.inl (om_tbl 241 (by decide +kernel) rfl)⟩
theorem fl_X3_52 : FL RX3 52 5 11 := ⟨RX5, TX5, 15, rfl, by decide, rfl, in_X5, Or.inr ⟨"MeshLodger", (nest_mem 237 (by decide +kernel) rfl)⟩⟩
theorem fl_X3_59 : FL RX3 59 5 6 := ⟨RX5, TX5, 15, rfl, by decide, rfl, in_X5, Or.inr ⟨"MeshLodger", (nest_mem 217 (by decide +kernel) rfl)⟩⟩
theorem fl_X3_76 : FL RX3 76 5 5 := ⟨RX5, TX5, 15, rfl, by decide, rfl, in_X5, Or.inr ⟨"MeshLodger", (nest_mem 212 (by decide +kernel) rfl)⟩⟩
theorem fl_X4_9 : FL RX4 9 4 0 := ⟨RX4, TX4, 4, rfl, by decide, rfl, in_X4, Or.inl (om_tbl 219 (by decide +kernel) rfl)⟩
theorem fl_X4_15 : FL RX4 15 4 1 := ⟨RX4, TX4, 4, rfl, by decide, rfl, in_X4, Or.inl (om_tbl 220 (by decide +kernel) rfl)⟩
theorem fl_X4_19 : FL RX4 19 4 2 := ⟨RX4, TX4, 4, rfl, by decide, rfl, in_X4, Or.inl (om_tbl 221 (by decide +kernel) rfl)⟩
theorem fl_X4_28 : FL RX4 28 4 3 := ⟨RX4, TX4, 4, rfl, by decide, rfl, in_X4, Or.inl (om_tbl 222 (by decide +kernel) rfl)⟩
theorem fl_X4_66 : FL RX4 66 5 11 := ⟨RX5, TX5, 15, rfl, by decide, rfl, in_X5, Or.inr ⟨"MeshLodger", (nest_mem 240 (by decide +kernel) rfl)⟩⟩
theorem fl_X4_83 : FL RX4 83 5 5 := ⟨RX5, TX5, 15, rfl, by decide, rfl, in_X5, Or.inr ⟨"MeshLodger", (nest_mem 214 (by decide +kernel) rfl)⟩⟩
theorem fl_X4_100 : FL RX4 100 5 7 := ⟨RX5, TX5, 15, rfl, by decide, rfl, in_X5, Or.inr ⟨"MeshLodger", (nest_mem 222 (by decide +kernel) rfl)⟩⟩
theorem fl_X4_109 : FL RX4 109 5 8 := ⟨RX5, TX5, 15, rfl, by decide, rfl, in_X5, Or.inr ⟨"MeshLodger", (nest_mem 225 (by decide +kernel) rfl)⟩⟩
theorem fl_X4_112 : FL RX4 112 5 6 := ⟨RX5, TX5, 15, rfl, by decide, rfl, in_X5, Or.inr ⟨"MeshLodger", (nest_mem 218 (by decide +kernel) rfl)⟩⟩
theorem fl_X4_118 : FL RX4 118 5 9 := ⟨RX5, TX5, 15, rfl, by decide, rfl, in_X5, Or.inr ⟨"MeshLodger", (nest_mem 229 (by decide +kernel) rfl)⟩⟩
theorem fl_X5_9 : FL RX5 9 5 0 := ⟨RX5, TX5, 15, rfl, by decide, rfl, in_X5, Or.inl (om_tbl 258 (by decide +kernel) rfl)⟩
theorem fl_X5_15 : FL RX5 15 5 1 := ⟨RX5, TX5, 15, rfl, by decide, rfl, in_X5, Or.inl (om_tbl 263 (by decide +kernel) rfl)⟩
theorem fl_X5_18 : FL RX5 18 5 2 := ⟨RX5, TX5, 15, rfl, by decide, rfl, in_X5, Or.inl (om_tbl 266 (by decide +kernel) rfl)⟩
theorem fl_X5_21 : FL RX5 21 5 3 := ⟨RX5, TX5, 15, rfl, by decide, rfl, in_X5, Or.inl (om_tbl 271 (by decide +kernel) rfl)⟩
theorem fl_X5_24 : FL RX5 24 5 4 := ⟨RX5, TX5, 15, rfl, by decide, rfl, in_X5, Or.inl (om_tbl 272 (by decide +kernel) rfl)⟩
theorem fl_X5_27 : FL RX5 27 5 5 := ⟨RX5, TX5, 15, rfl, by decide, rfl, in_X5, Or.inl (om_tbl 273 (by decide +kernel) rfl)⟩
theorem fl_X5_30 : FL RX5 30 5 6 := ⟨RX5, TX5, 15, rfl, by decide, rfl, in_X5, Or.inl (om_tbl 278 (by decide +kernel) rfl)⟩
theorem fl_X5_33 : FL RX5 33 5 7 := ⟨RX5, TX5, 15, rfl, by decide, rfl, in_X5, Or.inl (om_tbl 283 (by decide +kernel) rfl)⟩
theorem fl_X5_36 : FL RX5 36 5 8 := ⟨RX5, TX5, 15, rfl, by decide, rfl, in_X5, Or.inl (om_tbl 286 (by decide +kernel) rfl)⟩
theorem fl_X5_39 : FL RX5 39 5 9 := ⟨RX5, TX5, 15, rfl, by decide, rfl, in_X5, Or.inl (om_tbl 290 (by decide +kernel) rfl)⟩
theorem fl_X5_42 : FL RX5 42 5 10 := ⟨RX5, TX5, 15, rfl, by decide, rfl, in_X5, Or.inl (om_tbl 294 (by decide +kernel) rfl)⟩
theorem fl_X5_46 : FL RX5 46 5 11 := ⟨RX5, TX5, 15, rfl, by decide, rfl, in_X5, Or.inl (om_tbl 300 (by decide +kernel) rfl)⟩
theorem fl_X5_63 : FL RX5 63 5 14 := ⟨RX5, TX5, 15, rfl, by decide, rfl, in_X5, Or.inl (om_tbl 309 (by decide +kernel) rfl)⟩
theorem fl_X5_67 : FL RX5 67 5 12 := ⟨RX5, TX5, 15, rfl, by decide, rfl, in_X5, Or.inl (om_tbl 306 (by decide +kernel) rfl)⟩
theorem fl_X6_9 : FL RX6 9 6 3 := ⟨RX6, TX6, 9, rfl, by decide, rfl, in_X6, Or.inl (om_tbl 186 (by decide +kernel) rfl)⟩
theorem fl_X6_15 : FL RX6 15 6 4 := ⟨RX6, TX6, 9, rfl, by decide, rfl, in_X6, Or.inl (om_tbl 187 (by decide +kernel) rfl)⟩
theorem fl_X6_18 : FL RX6 18 6 5 := ⟨RX6, TX6, 9, rfl, by decide, rfl, in_X6, Or.inl (om_tbl 188 (by decide +kernel) rfl)⟩
theorem fl_X6_21 : FL RX6 21 6 6 := ⟨RX6, TX6, 9, rfl, by decide, rfl, in_X6, Or.inl (om_tbl 189 (by decide +kernel) rfl)⟩
theorem fl_X6_24 : FL RX6 24 6 0 := ⟨RX6, TX6, 9, rfl, by decide, rfl, in_X6, Or.inl (om_tbl 183 (by decide +kernel) rfl)⟩
theorem fl_X6_28 : FL RX6 28 6 1 := ⟨RX6, TX6, 9, rfl, by decide, rfl, in_X6, Or.inl (om_tbl 184 (by decide +kernel) rfl)⟩
theorem fl_X6_37 : FL RX6 37 6 2 := ⟨RX6, TX6, 9, rfl, by decide, rfl, in_X6, Or.inl (om_tbl 185 (by decide +kernel) rfl)⟩
theorem fl_X6_41 : FL RX6 41 6 7 := ⟨RX6, TX6, 9, rfl, by decide, rfl, in_X6, Or.inl (om_tbl 190 (by decide +kernel) rfl)⟩
theorem fl_X6_45 : FL RX6 45 6 8 := ⟨RX6, TX6, 9, rfl, by decide, rfl, in_X6, Or.inl (om_tbl 191 (by decide +kernel) rfl)⟩
theorem fl_X6_68 : FL RX6 68 5 10 := ⟨RX5, TX5, 15, rfl, by decide, rfl, in_X5, Or.inr ⟨"MeshLodger", (nest_mem 234 (by decide +kernel) rfl)⟩⟩
theorem fl_X6_73 : FL RX6 73 5 2 := ⟨RX5, TX5, 15, rfl, by decide, rfl, in_X5, Or.inr ⟨"MeshLodger", (nest_mem 206 (by decide +kernel) rfl)⟩⟩
theorem fl_X6_76 : FL RX6 76 5 11 := ⟨RX5, TX5, 15, rfl, by decide, rfl, in_X5, Or.inr ⟨"MeshLodger", (nest_mem 239 (by decide +kernel) rfl)⟩⟩
theorem fl_X6_83 : FL RX6 83 5 5 := ⟨RX5, TX5, 15, rfl, by decide, rfl, in_X5, Or.inr ⟨"MeshLodger", (nest_mem 213 (by decide +kernel) rfl)⟩⟩
theorem fl_X7_12 : FL RX7 12 7 0 := ⟨RX7, TX7, 8, rfl, by decide, rfl, in_X7, Or.inl (om_tbl 341 (by decide +kernel) rfl)⟩
theorem fl_X7_21 : FL RX7 21 7 1 := ⟨RX7, TX7, 8, rfl, by decide, rfl, in_X7, Or.inl (om_tbl 342 (by decide +kernel) rfl)⟩
theorem fl_X7_30 : FL RX7 30 7 2 := ⟨RX7, TX7, 8, rfl, by decide, rfl, in_X7, Or.inl (om_tbl 343 (by decide +kernel) rfl)⟩
theorem fl_X7_39 : FL RX7 39 7 3 := ⟨RX7, TX7, 8, rfl, by decide, rfl, in_X7, Or.inl (om_tbl 344 (by decide +kernel) rfl)⟩
theorem fl_X7_46 : FL RX7 46 7 4 := ⟨RX7, TX7, 8, rfl, by decide, rfl, in_X7, Or.inl (om_tbl 345 (by decide +kernel) rfl)⟩
theorem fl_X7_52 : FL RX7 52 7 5 := ⟨RX7, TX7, 8, rfl, by decide, rfl, in_X7, Or.inl (om_tbl 346 (by decide +kernel) rfl)⟩
theorem fl_X7_64 : FL RX7 64 2 6 := ⟨RX2, TX2, 9, rfl, by decide, rfl, in_X2, Or.inr ⟨"MeshLodger", (nest_mem 43 (by decide +kernel) rfl)⟩⟩
theorem fl_X7_88 : FL RX7 88 2 7 := ⟨RX2, TX2, 9, rfl, by decide, rfl, in_X2, Or.inr ⟨"MeshLodger", (nest_mem 46 (by decide +kernel) rfl)⟩⟩
theorem fl_X7_110 : FL RX7 110 7 6 := ⟨RX7, TX7, 8, rfl, by decide, rfl, in_X7, Or.inl (om_tbl 347 (by decide +kernel) rfl)⟩
theorem fl_X7_113 : FL RX7 113 5 14 := ⟨RX5, TX5, 15, rfl, by decide, rfl, in_X5, Or.inr ⟨"MeshLodger", (nest_mem 246 (by decide +kernel) rfl)⟩⟩
theorem fl_X7_117 : FL RX7 117 2 8 := ⟨RX2, TX2, 9, rfl, by decide, rfl, in_X2, Or.inr ⟨"MeshLodger", (nest_mem 48 (by decide +kernel) rfl)⟩⟩
theorem fl_X7_129 : FL RX7 129 5 10 := ⟨RX5, TX5, 15, rfl, by decide, rfl, in_X5, Or.inr ⟨"MeshLodger", (nest_mem 235 (by decide +kernel) rfl)⟩⟩
theorem fl_X7_145 : FL RX7 145 5 11 := ⟨RX5, TX5, 15, rfl, by decide, rfl, in_X5, Or.inr ⟨"MeshLodger", (nest_mem 242 (by decide +kernel) rfl)⟩⟩
theorem fl_X7_168 : FL RX7 168 5 12 := ⟨RX5, TX5, 15, rfl, by decide, rfl, in_X5, Or.inr ⟨"MeshLodger", (nest_mem 243 (by decide +kernel) rfl)⟩⟩
theorem fl_X7_171 : FL RX7 171 7 7 := ⟨RX7, TX7, 8, rfl, by decide, rfl, in_X7, Or.inl (om_tbl 348 (by decide +kernel) rfl)⟩
theorem fl_X7_174 : FL RX7 174 5 13 := ⟨RX5, TX5, 15, rfl, by decide, rfl, in_X5, Or.inr ⟨"MeshLodger", (nest_mem 245 (by decide +kernel) rfl)⟩⟩
theorem fl_X7_215 : FL RX7 215 0 2 := ⟨RX0, TX0, 6, rfl, by decide, rfl, in_X0, Or.inr ⟨"MeshLodger", (nest_mem 80 (by decide +kernel) rfl)⟩⟩
theorem fl_X7_219 : FL RX7 219 0 3 := ⟨RX0, TX0, 6, rfl, by decide, rfl, in_X0, Or.inr ⟨"MeshLodger", (nest_mem 82 (by decide +kernel) rfl)⟩⟩
theorem fl_X7_222 : FL RX7 222 0 4 := ⟨RX0, TX0, 6, rfl, by decide, rfl, in_X0, Or.inr ⟨"MeshLodger", (nest_mem 84 (by decide +kernel) rfl)⟩⟩
theorem fl_X7_248 : FL RX7 248 5 6 := ⟨RX5, TX5, 15, rfl, by decide, rfl, in_X5, Or.inr ⟨"MeshLodger", (nest_mem 220 (by decide +kernel) rfl)⟩⟩
theorem fl_X7_251 : FL RX7 251 5 8 := ⟨RX5, TX5, 15, rfl, by decide, rfl, in_X5, Or.inr ⟨"MeshLodger", (nest_mem 227 (by decide +kernel) rfl)⟩⟩
theorem fl_X7_254 : FL RX7 254 5 9 := ⟨RX5, TX5, 15, rfl, by decide, rfl, in_X5, Or.inr ⟨"MeshLodger", (nest_mem 231 (by decide +kernel) rfl)⟩⟩
theorem fl_X7_265 : FL RX7 265 5 0 := ⟨RX5, TX5, 15, rfl, by decide, rfl, in_X5, Or.inr ⟨"MeshLodger", (nest_mem 200 (by decide +kernel) rfl)⟩⟩
theorem fl_X8_7 : FL RX8 7 8 2 := ⟨RX8, TX8, 36, rfl, by decide, rfl, in_X8, Or.inl (om_tbl 924 (by decide +kernel) rfl)⟩
theorem fl_X8_13 : FL RX8 13 8 4 := ⟨RX8, TX8, 36, rfl, by decide, rfl, in_X8, Or.inl (om_tbl 926 (by decide +kernel) rfl)⟩
theorem fl_X8_16 : FL RX8 16 8 5 := ⟨RX8, TX8, 36, rfl, by decide, rfl, in_X8, Or.inl (om_tbl 927 (by decide +kernel) rfl)⟩
theorem fl_X8_19 : FL RX8 19 8 6 := ⟨RX8, TX8, 36, rfl, by decide, rfl, in_X8, Or.inl (om_tbl 928 (by decide +kernel) rfl)⟩
theorem fl_X8_22 : FL RX8 22 8 7 := ⟨RX8, TX8, 36, rfl, by decide, rfl, in_X8, Or.inl (om_tbl 929 (by decide +kernel) rfl)⟩
theorem fl_X8_26 : FL RX8 26 8 9 := ⟨RX8, TX8, 36, rfl, by decide, rfl, in_X8, Or.inl (om_tbl 931 (by decide +kernel) rfl)⟩
theorem fl_X8_29 : FL RX8 29 8 10 := ⟨RX8, TX8, 36, rfl, by decide, rfl, in_X8, Or.inl (om_tbl 932 (by decide +kernel) rfl)⟩
theorem fl_X8_32 : FL RX8 32 8 11 := ⟨RX8, TX8, 36, rfl, by decide, rfl, in_X8, Or.inl (om_tbl 933 (by decide +kernel) rfl)⟩
theorem fl_X8_35 : FL RX8 35 8 12 := ⟨RX8, TX8, 36, rfl, by decide, rfl, in_X8, Or.inl (om_tbl 934 (by decide +kernel) rfl)⟩
theorem fl_X8_38 : FL RX8 38 8 13 := ⟨RX8, TX8, 36, rfl, by decide, rfl, in_X8, Or.inl (om_tbl 935 (by decide +kernel) rfl)⟩
theorem fl_X8_41 : FL RX8 41 8 14 := ⟨RX8, TX8, 36, rfl, by decide, rfl, in_X8, Or.inl (om_tbl 936 (by decide +kernel) rfl)⟩
theorem fl_X8_44 : FL RX8 44 8 15 := ⟨RX8, TX8, 36, rfl, by decide, rfl, in_X8, Or.inl (om_tbl 937 (by decide +kernel) rfl)⟩
theorem fl_X8_47 : FL RX8 47 8 16 := ⟨RX8, TX8, 36, rfl, by decide, rfl, in_X8, Or.inl (om_tbl 938 (by decide +kernel) rfl)⟩
theorem fl_X8_50 : FL RX8 50 8 17 := ⟨RX8, TX8, 36, rfl, by decide, rfl, in_X8, Or.inl (om_tbl 939 (by decide +kernel) rfl)⟩
theorem fl_X8_53 : FL RX8 53 8 18 := ⟨RX8, TX8, 36, rfl, by decide, rfl, in_X8, Or.inl (om_tbl 940 (by decide +kernel) rfl)⟩
theorem fl_X8_56 : FL RX8 56 8 19 := ⟨RX8, TX8, 36, rfl, by decide, rfl, in_X8, Or.inl (om_tbl 941 (by decide +kernel) rfl)⟩
theorem fl_X8_59 : FL RX8 59 8 20 := ⟨RX8, TX8, 36, rfl, by decide, rfl, in_X8, Or.inl (om_tbl 942 (by decide +kernel) rfl)⟩
theorem fl_X8_62 : FL RX8 62 8 21 := ⟨RX8, TX8, 36, rfl, by decide, rfl, in_X8, Or.inl (om_tbl 943 (by decide +kernel) rfl)⟩
theorem fl_X8_65 : FL RX8 65 8 22 := ⟨RX8, TX8, 36, rfl, by decide, rfl, in_X8, Or.inl (om_tbl 944 (by decide +kernel) rfl)⟩
theorem fl_X8_68 : FL RX8 68 8 23 := ⟨RX8, TX8, 36, rfl, by decide, rfl, in_X8, Or.inl (om_tbl 945 (by decide +kernel) rfl)⟩
theorem fl_X8_71 : FL RX8 71 8 24 := ⟨RX8, TX8, 36, rfl, by decide, rfl, in_X8, Or.inl (om_tbl 946 (by decide +kernel) rfl)⟩
theorem fl_X8_74 : FL RX8 74 8 25 := ⟨RX8, TX8, 36, rfl, by decide, rfl, in_X8, Or.inl (om_tbl 947 (by decide +kernel) rfl)⟩
theorem fl_X8_77 : FL RX8 77 8 26 := ⟨RX8, TX8, 36, rfl, by decide, rfl, in_X8, Or.inl (om_tbl 948 (by decide +kernel) rfl)⟩
theorem fl_X8_80 : FL RX8 80 8 27 := ⟨RX8, TX8, 36, rfl, by decide, rfl, in_X8, Or.inl (om_tbl 949 (by decide +kernel) rfl)⟩
theorem fl_X8_83 : FL RX8 83 8 28 := ⟨RX8, TX8, 36, rfl, by decide, rfl, in_X8, Or.inl (om_tbl 950 (by decide +kernel) rfl)⟩
theorem fl_X8_86 : FL RX8 86 8 29 := ⟨RX8, TX8, 36, rfl, by decide, rfl, in_X8, Or.inl (om_tbl 951 (by decide +kernel) rfl)⟩
theorem fl_X8_89 : FL RX8 89 8 30 := ⟨RX8, TX8, 36, rfl, by decide, rfl, in_X8, Or.inl (om_tbl 952 (by decide +kernel) rfl)⟩
theorem fl_X8_92 : FL RX8 92 8 31 := ⟨RX8, TX8, 36, rfl, by decide, rfl, in_X8, Or.inl (om_tbl 953 (by decide +kernel) rfl)⟩
theorem fl_X8_95 : FL RX8 95 8 32 := ⟨RX8, TX8, 36, rfl, by decide, rfl, in_X8, Or.inl (om_tbl 954 (by decide +kernel) rfl)⟩
theorem fl_X8_98 : FL RX8 98 8 33 := ⟨RX8, TX8, 36, rfl, by decide, rfl, in_X8, Or.inl (om_tbl 955 (by decide +kernel) rfl)⟩
theorem fl_X8_101 : FL RX8 101 8 34 := ⟨RX8, TX8, 36, rfl, by decide, rfl, in_X8, Or.inl (om_tbl 956 (by decide +kernel) rfl)⟩
theorem fl_X8_104 : FL RX8 104 8 35 := ⟨RX8, TX8, 36, rfl, by decide, rfl, in_X8, Or.inl (om_tbl 957 (by decide +kernel) rfl)⟩
theorem fl_X8_108 : FL RX8 108 8 1 := ⟨RX8, TX8, 36, rfl, by decide, rfl, in_X8, Or.inl (om_tbl 923 (by decide +kernel) rfl)⟩
theorem fl_X8_115 : FL RX8 115 8 3 := ⟨RX8, TX8, 36, rfl, by decide, rfl, in_X8, Or.inl (om_tbl 925 (by decide +kernel) rfl)⟩
theorem fl_X8_118 : FL RX8 118 8 8 := ⟨RX8, TX8, 36, rfl, by decide, rfl, in_X8, Or.inl (om_tbl 930 (by decide +kernel) rfl)⟩
theorem fl_X8_223 : FL RX8 223 8 0 := ⟨RX8, TX8, 36, rfl, by decide, rfl, in_X8, Or.inl (om_tbl 922 (by decide +kernel) rfl)⟩
theorem fp_X2_32 : FP RX2 32 2 6 .int := ⟨fl_X2_32, RX2, TX2, 9, tyX2, rfl, tyX2_ok, nmX2, rfl, by decide +kernel⟩
theorem fp_X2_36 : FP RX2 36 2 7 .int := ⟨fl_X2_36, RX2, TX2, 9, tyX2, rfl, tyX2_ok, nmX2, rfl, by decide +kernel⟩
theorem fp_X2_46 : FP RX2 46 2 8 .int := ⟨fl_X2_46, RX2, TX2, 9, tyX2, rfl, tyX2_ok, nmX2, rfl, by decide +kernel⟩
theorem fp_X3_44 : FP RX3 44 3 3 .int := ⟨fl_X3_44, RX3, TX3, 4, tyX3, rfl, tyX3_ok, nmX3, rfl, by decide +kernel⟩
theorem fp_X5_42 : FP RX5 42 5 10 .int := ⟨fl_X5_42, RX5, TX5, 15, tyX5, rfl, tyX5_ok, nmX5, rfl, by decide +kernel⟩
theorem fp_X5_46 : FP RX5 46 5 11 .int := ⟨fl_X5_46, RX5, TX5, 15, tyX5, rfl, tyX5_ok, nmX5, rfl, by decide +kernel⟩
theorem fp_X6_41 : FP RX6 41 6 7 .int := ⟨fl_X6_41, RX6, TX6, 9, tyX6, rfl, tyX6_ok, nmX6, rfl, by decide +kernel⟩
theorem fp_X6_45 : FP RX6 45 6 8 .int := ⟨fl_X6_45, RX6, TX6, 9, tyX6, rfl, tyX6_ok, nmX6, rfl, by decide +kernel⟩
theorem fp_X7_110 : FP RX7 110 7 6 .int := ⟨fl_X7_110, RX7, TX7, 8, tyX7, rfl, tyX7_ok, nmX7, rfl, by decide +kernel⟩
theorem fp_X7_113 : FP RX7 113 5 14 .boolean := ⟨fl_X7_113, RX5, TX5, 15, tyX5, rfl, tyX5_ok, nmX5, rfl, by decide +kernel⟩
theorem fp_X7_168 : FP RX7 168 5 12 .int := ⟨fl_X7_168, RX5, TX5, 15, tyX5, rfl, tyX5_ok, nmX5, rfl, by decide +kernel⟩
theorem fp_X7_171 : FP RX7 171 7 7 .int := ⟨fl_X7_171, RX7, TX7, 8, tyX7, rfl, tyX7_ok, nmX7, rfl, by decide +kernel⟩
theorem fp_X7_174 : FP RX7 174 5 13 .int := ⟨fl_X7_174, RX5, TX5, 15, tyX5, rfl, tyX5_ok, nmX5, rfl, by decide +kernel⟩
theorem fp_X8_104 : FP RX8 104 8 35 .int := ⟨fl_X8_104, RX8, TX8, 36, tyX8, rfl, tyX8_ok, nmX8, rfl, by decide +kernel⟩
theorem fp_X8_108 : FP RX8 108 8 1 .int := ⟨fl_X8_108, RX8, TX8, 36, tyX8, rfl, tyX8_ok, nmX8, rfl, by decide +kernel⟩
theorem fp_X8_115 : FP RX8 115 8 3 .int := ⟨fl_X8_115, RX8, TX8, 36, tyX8, rfl, tyX8_ok, nmX8, rfl, by decide +kernel⟩
theorem fp_X8_118 : FP RX8 118 8 8 .int := ⟨fl_X8_118, RX8, TX8, 36, tyX8, rfl, tyX8_ok, nmX8, rfl, by decide +kernel⟩
theorem fp_X8_223 : FP RX8 223 8 0 .int := ⟨fl_X8_223, RX8, TX8, 36, tyX8, rfl, tyX8_ok, nmX8, rfl, by decide +kernel⟩
theorem kc_J6_265 : Cond.constant RJ6 265 (1431655765 : Int32) ∈ Om := (om_tbl 440 (by decide +kernel) rfl)
theorem kc_J6_266 : Cond.constant RJ6 266 (858993459 : Int32) ∈ Om := (om_tbl 441 (by decide +kernel) rfl)
theorem kc_J6_267 : Cond.constant RJ6 267 (252645135 : Int32) ∈ Om := (om_tbl 442 (by decide +kernel) rfl)
theorem cv_X0_45 : CV RX0 45 yX0_leftOnLink cX0_leftOnLink 2 (some .int) 1 := ⟨Or.inl (om_tbl 421 (by decide +kernel) rfl), (om_tbl 422 (by decide +kernel) rfl), (om_tbl 423 (by decide +kernel) rfl), (om_tbl 65 (by decide +kernel) rfl), (om_tbl 424 (by decide +kernel) rfl), by decide +kernel, by decide +kernel, by decide +kernel⟩
theorem cv_X0_66 : CV RX0 66 yX0_enterPart cX0_enterPart 4 none 3 := ⟨Or.inl (om_tbl 787 (by decide +kernel) rfl), (om_tbl 492 (by decide +kernel) rfl), (om_tbl 493 (by decide +kernel) rfl), (om_tbl 65 (by decide +kernel) rfl), (om_tbl 494 (by decide +kernel) rfl), by decide +kernel, by decide +kernel, by decide +kernel⟩
theorem cv_X0_73 : CV RX0 73 yX0_enterWays cX0_enterWays 4 none 3 := ⟨Or.inl (om_tbl 788 (by decide +kernel) rfl), (om_tbl 778 (by decide +kernel) rfl), (om_tbl 779 (by decide +kernel) rfl), (om_tbl 65 (by decide +kernel) rfl), (om_tbl 780 (by decide +kernel) rfl), by decide +kernel, by decide +kernel, by decide +kernel⟩
theorem cv_X0_77 : CV RX0 77 yX0_enterSecondWay cX0_enterSecondWay 5 none 3 := ⟨Or.inl (om_tbl 789 (by decide +kernel) rfl), (om_tbl 790 (by decide +kernel) rfl), (om_tbl 791 (by decide +kernel) rfl), (om_tbl 65 (by decide +kernel) rfl), (om_tbl 792 (by decide +kernel) rfl), by decide +kernel, by decide +kernel, by decide +kernel⟩
theorem cv_X0_80 : CV RX0 80 yX2_hasNode cX2_hasNode 2 (some .boolean) 1 := ⟨Or.inl (om_tbl 495 (by decide +kernel) rfl), (om_tbl 496 (by decide +kernel) rfl), (om_tbl 497 (by decide +kernel) rfl), (om_tbl 64 (by decide +kernel) rfl), (om_tbl 498 (by decide +kernel) rfl), by decide +kernel, by decide +kernel, by decide +kernel⟩
theorem cv_X0_90 : CV RX0 90 yX0_carry cX0_carry 4 none 2 := ⟨Or.inl (om_tbl 781 (by decide +kernel) rfl), (om_tbl 458 (by decide +kernel) rfl), (om_tbl 459 (by decide +kernel) rfl), (om_tbl 65 (by decide +kernel) rfl), (om_tbl 460 (by decide +kernel) rfl), by decide +kernel, by decide +kernel, by decide +kernel⟩
theorem cv_X0_97 : CV RX0 97 yX5_restOf cX5_restOf 2 (some .int) 1 := ⟨Or.inl (om_tbl 782 (by decide +kernel) rfl), (om_tbl 773 (by decide +kernel) rfl), (om_tbl 774 (by decide +kernel) rfl), (om_tbl 70 (by decide +kernel) rfl), (om_tbl 775 (by decide +kernel) rfl), by decide +kernel, by decide +kernel, by decide +kernel⟩
theorem cv_X0_106 : CV RX0 106 yX0_reserve cX0_reserve 6 none 3 := ⟨Or.inl (om_tbl 793 (by decide +kernel) rfl), (om_tbl 795 (by decide +kernel) rfl), (om_tbl 16 (by decide +kernel) rfl), (om_tbl 65 (by decide +kernel) rfl), (om_tbl 796 (by decide +kernel) rfl), by decide +kernel, by decide +kernel, by decide +kernel⟩
theorem cv_X1_34 : CV RX1 34 yX0_leftAtNode cX0_leftAtNode 2 (some .int) 1 := ⟨Or.inl (om_tbl 394 (by decide +kernel) rfl), (om_tbl 395 (by decide +kernel) rfl), (om_tbl 396 (by decide +kernel) rfl), (om_tbl 65 (by decide +kernel) rfl), (om_tbl 397 (by decide +kernel) rfl), by decide +kernel, by decide +kernel, by decide +kernel⟩
theorem cv_X2_39 : CV RX2 39 yX2_findWays cX2_findWays 2 none 0 := ⟨Or.inl (om_tbl 656 (by decide +kernel) rfl), (om_tbl 658 (by decide +kernel) rfl), (om_tbl 9 (by decide +kernel) rfl), (om_tbl 64 (by decide +kernel) rfl), (om_tbl 659 (by decide +kernel) rfl), by decide +kernel, by decide +kernel, by decide +kernel⟩
theorem cv_X2_42 : CV RX2 42 yX2_beyond cX2_beyond 3 (some .int) 2 := ⟨Or.inl (om_tbl 647 (by decide +kernel) rfl), (om_tbl 648 (by decide +kernel) rfl), (om_tbl 649 (by decide +kernel) rfl), (om_tbl 64 (by decide +kernel) rfl), (om_tbl 650 (by decide +kernel) rfl), by decide +kernel, by decide +kernel, by decide +kernel⟩
theorem cv_X2_49 : CS_ RX2 49 yX2_walk cX2_walk 7 none 5 := ⟨Or.inl (om_tbl 660 (by decide +kernel) rfl), (om_tbl 661 (by decide +kernel) rfl), (om_tbl 64 (by decide +kernel) rfl), (om_tbl 662 (by decide +kernel) rfl), by decide +kernel, by decide +kernel, by decide +kernel⟩
theorem cv_X2_53 : CS_ RX2 53 yJ6_bitCount_0f7a4 cJ6_bitCount_0f7a4 1 (some .int) 1 := ⟨Or.inl (om_tbl 437 (by decide +kernel) rfl), (om_tbl 438 (by decide +kernel) rfl), (om_tbl 78 (by decide +kernel) rfl), (om_tbl 439 (by decide +kernel) rfl), by decide +kernel, by decide +kernel, by decide +kernel⟩
theorem cv_X2_59 : CS_ RX2 59 yX2_pairOf cX2_pairOf 2 (some .int) 2 := ⟨Or.inl (om_tbl 663 (by decide +kernel) rfl), (om_tbl 415 (by decide +kernel) rfl), (om_tbl 64 (by decide +kernel) rfl), (om_tbl 416 (by decide +kernel) rfl), by decide +kernel, by decide +kernel, by decide +kernel⟩
theorem cv_X2_62 : CV RX2 62 yX2_keepWay cX2_keepWay 3 none 2 := ⟨Or.inl (om_tbl 664 (by decide +kernel) rfl), (om_tbl 666 (by decide +kernel) rfl), (om_tbl 10 (by decide +kernel) rfl), (om_tbl 64 (by decide +kernel) rfl), (om_tbl 667 (by decide +kernel) rfl), by decide +kernel, by decide +kernel, by decide +kernel⟩
theorem cv_X2_66 : CV RX2 66 yX2_countOfWays cX2_countOfWays 2 (some .int) 1 := ⟨Or.inl (om_tbl 429 (by decide +kernel) rfl), (om_tbl 430 (by decide +kernel) rfl), (om_tbl 431 (by decide +kernel) rfl), (om_tbl 64 (by decide +kernel) rfl), (om_tbl 432 (by decide +kernel) rfl), by decide +kernel, by decide +kernel, by decide +kernel⟩
theorem cv_X2_69 : CV RX2 69 yX2_wayOf cX2_wayOf 4 (some .int) 2 := ⟨Or.inl (om_tbl 433 (by decide +kernel) rfl), (om_tbl 434 (by decide +kernel) rfl), (om_tbl 435 (by decide +kernel) rfl), (om_tbl 64 (by decide +kernel) rfl), (om_tbl 436 (by decide +kernel) rfl), by decide +kernel, by decide +kernel, by decide +kernel⟩
theorem cv_X3_28 : CV RX3 28 yX5_isAt cX5_isAt 3 (some .boolean) 1 := ⟨Or.inl (om_tbl 482 (by decide +kernel) rfl), (om_tbl 483 (by decide +kernel) rfl), (om_tbl 484 (by decide +kernel) rfl), (om_tbl 70 (by decide +kernel) rfl), (om_tbl 485 (by decide +kernel) rfl), by decide +kernel, by decide +kernel, by decide +kernel⟩
theorem cv_X3_32 : CV RX3 32 yX0_leftAtNode cX0_leftAtNode 2 (some .int) 1 := ⟨Or.inl (om_tbl 486 (by decide +kernel) rfl), (om_tbl 395 (by decide +kernel) rfl), (om_tbl 396 (by decide +kernel) rfl), (om_tbl 65 (by decide +kernel) rfl), (om_tbl 397 (by decide +kernel) rfl), by decide +kernel, by decide +kernel, by decide +kernel⟩
theorem cv_X3_48 : CV RX3 48 yX3_putAt cX3_putAt 4 none 3 := ⟨Or.inl (om_tbl 487 (by decide +kernel) rfl), (om_tbl 489 (by decide +kernel) rfl), (om_tbl 5 (by decide +kernel) rfl), (om_tbl 69 (by decide +kernel) rfl), (om_tbl 490 (by decide +kernel) rfl), by decide +kernel, by decide +kernel, by decide +kernel⟩
theorem cv_X3_55 : CV RX3 55 yX5_isLineOf cX5_isLineOf 3 (some .boolean) 2 := ⟨Or.inl (om_tbl 499 (by decide +kernel) rfl), (om_tbl 500 (by decide +kernel) rfl), (om_tbl 501 (by decide +kernel) rfl), (om_tbl 70 (by decide +kernel) rfl), (om_tbl 502 (by decide +kernel) rfl), by decide +kernel, by decide +kernel, by decide +kernel⟩
theorem cv_X3_62 : CV RX3 62 yX3_giveWay cX3_giveWay 4 none 3 := ⟨Or.inl (om_tbl 503 (by decide +kernel) rfl), (om_tbl 505 (by decide +kernel) rfl), (om_tbl 6 (by decide +kernel) rfl), (om_tbl 69 (by decide +kernel) rfl), (om_tbl 506 (by decide +kernel) rfl), by decide +kernel, by decide +kernel, by decide +kernel⟩
theorem cv_X3_65 : CV RX3 65 yX3_findWay cX3_findWay 4 (some .boolean) 2 := ⟨Or.inl (om_tbl 508 (by decide +kernel) rfl), (om_tbl 510 (by decide +kernel) rfl), (om_tbl 7 (by decide +kernel) rfl), (om_tbl 69 (by decide +kernel) rfl), (om_tbl 511 (by decide +kernel) rfl), by decide +kernel, by decide +kernel, by decide +kernel⟩
theorem cv_X3_69 : CV RX3 69 yX3_takeBack cX3_takeBack 4 none 2 := ⟨Or.inl (om_tbl 515 (by decide +kernel) rfl), (om_tbl 516 (by decide +kernel) rfl), (om_tbl 517 (by decide +kernel) rfl), (om_tbl 69 (by decide +kernel) rfl), (om_tbl 518 (by decide +kernel) rfl), by decide +kernel, by decide +kernel, by decide +kernel⟩
theorem cv_X3_73 : CV RX3 73 yX5_pairOf cX5_pairOf 2 (some .int) 1 := ⟨Or.inl (om_tbl 512 (by decide +kernel) rfl), (om_tbl 407 (by decide +kernel) rfl), (om_tbl 408 (by decide +kernel) rfl), (om_tbl 70 (by decide +kernel) rfl), (om_tbl 409 (by decide +kernel) rfl), by decide +kernel, by decide +kernel, by decide +kernel⟩
theorem cv_X3_79 : CV RX3 79 yX0_openFor cX0_openFor 4 (some .int) 1 := ⟨Or.inl (om_tbl 513 (by decide +kernel) rfl), (om_tbl 418 (by decide +kernel) rfl), (om_tbl 419 (by decide +kernel) rfl), (om_tbl 65 (by decide +kernel) rfl), (om_tbl 420 (by decide +kernel) rfl), by decide +kernel, by decide +kernel, by decide +kernel⟩
theorem cv_X3_82 : CV RX3 82 yX2_shortest cX2_shortest 8 (some .int) 2 := ⟨Or.inl (om_tbl 514 (by decide +kernel) rfl), (om_tbl 426 (by decide +kernel) rfl), (om_tbl 427 (by decide +kernel) rfl), (om_tbl 64 (by decide +kernel) rfl), (om_tbl 428 (by decide +kernel) rfl), by decide +kernel, by decide +kernel, by decide +kernel⟩
theorem cv_X3_88 : CV RX3 88 yX0_enterPart cX0_enterPart 4 none 3 := ⟨Or.inl (om_tbl 491 (by decide +kernel) rfl), (om_tbl 492 (by decide +kernel) rfl), (om_tbl 493 (by decide +kernel) rfl), (om_tbl 65 (by decide +kernel) rfl), (om_tbl 494 (by decide +kernel) rfl), by decide +kernel, by decide +kernel, by decide +kernel⟩
theorem cv_X3_92 : CV RX3 92 yX0_carry cX0_carry 4 none 2 := ⟨Or.inl (om_tbl 507 (by decide +kernel) rfl), (om_tbl 458 (by decide +kernel) rfl), (om_tbl 459 (by decide +kernel) rfl), (om_tbl 65 (by decide +kernel) rfl), (om_tbl 460 (by decide +kernel) rfl), by decide +kernel, by decide +kernel, by decide +kernel⟩
theorem cv_X4_34 : CV RX4 34 yX6_run cX6_run 5 (some .int) 2 := ⟨Or.inl (om_tbl 745 (by decide +kernel) rfl), (om_tbl 387 (by decide +kernel) rfl), (om_tbl 388 (by decide +kernel) rfl), (om_tbl 66 (by decide +kernel) rfl), (om_tbl 389 (by decide +kernel) rfl), by decide +kernel, by decide +kernel, by decide +kernel⟩
theorem cv_X4_38 : CV RX4 38 yX6_handOver cX6_handOver 3 none 1 := ⟨Or.inl (om_tbl 746 (by decide +kernel) rfl), (om_tbl 747 (by decide +kernel) rfl), (om_tbl 748 (by decide +kernel) rfl), (om_tbl 66 (by decide +kernel) rfl), (om_tbl 749 (by decide +kernel) rfl), by decide +kernel, by decide +kernel, by decide +kernel⟩
theorem cv_X4_42 : CV RX4 42 yX4_mapSplit cX4_mapSplit 4 (some .boolean) 1 := ⟨Or.inl (om_tbl 754 (by decide +kernel) rfl), (om_tbl 756 (by decide +kernel) rfl), (om_tbl 13 (by decide +kernel) rfl), (om_tbl 68 (by decide +kernel) rfl), (om_tbl 757 (by decide +kernel) rfl), by decide +kernel, by decide +kernel, by decide +kernel⟩
theorem cv_X4_46 : CV RX4 46 yX0_enter cX0_enter 4 none 2 := ⟨Or.inl (om_tbl 783 (by decide +kernel) rfl), (om_tbl 784 (by decide +kernel) rfl), (om_tbl 785 (by decide +kernel) rfl), (om_tbl 65 (by decide +kernel) rfl), (om_tbl 786 (by decide +kernel) rfl), by decide +kernel, by decide +kernel, by decide +kernel⟩
theorem cv_X4_52 : CV RX4 52 yX4_secure cX4_secure 4 (some .boolean) 1 := ⟨Or.inl (om_tbl 800 (by decide +kernel) rfl), (om_tbl 802 (by decide +kernel) rfl), (om_tbl 17 (by decide +kernel) rfl), (om_tbl 68 (by decide +kernel) rfl), (om_tbl 803 (by decide +kernel) rfl), by decide +kernel, by decide +kernel, by decide +kernel⟩
theorem cv_X4_55 : CV RX4 55 yX1_prepare cX1_prepare 6 (some .int) 1 := ⟨Or.inl (om_tbl 758 (by decide +kernel) rfl), (om_tbl 391 (by decide +kernel) rfl), (om_tbl 392 (by decide +kernel) rfl), (om_tbl 67 (by decide +kernel) rfl), (om_tbl 393 (by decide +kernel) rfl), by decide +kernel, by decide +kernel, by decide +kernel⟩
theorem cv_X4_59 : CV RX4 59 yX1_take cX1_take 7 (some .boolean) 2 := ⟨Or.inl (om_tbl 759 (by decide +kernel) rfl), (om_tbl 399 (by decide +kernel) rfl), (om_tbl 400 (by decide +kernel) rfl), (om_tbl 67 (by decide +kernel) rfl), (om_tbl 401 (by decide +kernel) rfl), by decide +kernel, by decide +kernel, by decide +kernel⟩
theorem cv_X4_63 : CV RX4 63 yX4_splitLines cX4_splitLines 4 (some .boolean) 1 := ⟨Or.inl (om_tbl 760 (by decide +kernel) rfl), (om_tbl 762 (by decide +kernel) rfl), (om_tbl 14 (by decide +kernel) rfl), (om_tbl 68 (by decide +kernel) rfl), (om_tbl 763 (by decide +kernel) rfl), by decide +kernel, by decide +kernel, by decide +kernel⟩
theorem cv_X4_72 : CV RX4 72 yX4_splitLine cX4_splitLine 7 (some .boolean) 2 := ⟨Or.inl (om_tbl 764 (by decide +kernel) rfl), (om_tbl 766 (by decide +kernel) rfl), (om_tbl 15 (by decide +kernel) rfl), (om_tbl 68 (by decide +kernel) rfl), (om_tbl 767 (by decide +kernel) rfl), by decide +kernel, by decide +kernel, by decide +kernel⟩
theorem cv_X4_75 : CV RX4 75 yX0_enterWays cX0_enterWays 4 none 3 := ⟨Or.inl (om_tbl 777 (by decide +kernel) rfl), (om_tbl 778 (by decide +kernel) rfl), (om_tbl 779 (by decide +kernel) rfl), (om_tbl 65 (by decide +kernel) rfl), (om_tbl 780 (by decide +kernel) rfl), by decide +kernel, by decide +kernel, by decide +kernel⟩
theorem cv_X4_79 : CV RX4 79 yX5_pairOf cX5_pairOf 2 (some .int) 1 := ⟨Or.inl (om_tbl 768 (by decide +kernel) rfl), (om_tbl 407 (by decide +kernel) rfl), (om_tbl 408 (by decide +kernel) rfl), (om_tbl 70 (by decide +kernel) rfl), (om_tbl 409 (by decide +kernel) rfl), by decide +kernel, by decide +kernel, by decide +kernel⟩
theorem cv_X4_87 : CV RX4 87 yX0_openFor cX0_openFor 4 (some .int) 1 := ⟨Or.inl (om_tbl 769 (by decide +kernel) rfl), (om_tbl 418 (by decide +kernel) rfl), (om_tbl 419 (by decide +kernel) rfl), (om_tbl 65 (by decide +kernel) rfl), (om_tbl 420 (by decide +kernel) rfl), by decide +kernel, by decide +kernel, by decide +kernel⟩
theorem cv_X4_90 : CV RX4 90 yX2_shortest cX2_shortest 8 (some .int) 2 := ⟨Or.inl (om_tbl 770 (by decide +kernel) rfl), (om_tbl 426 (by decide +kernel) rfl), (om_tbl 427 (by decide +kernel) rfl), (om_tbl 64 (by decide +kernel) rfl), (om_tbl 428 (by decide +kernel) rfl), by decide +kernel, by decide +kernel, by decide +kernel⟩
theorem cv_X4_96 : CV RX4 96 yX5_setWay cX5_setWay 3 none 2 := ⟨Or.inl (om_tbl 771 (by decide +kernel) rfl), (om_tbl 751 (by decide +kernel) rfl), (om_tbl 752 (by decide +kernel) rfl), (om_tbl 70 (by decide +kernel) rfl), (om_tbl 753 (by decide +kernel) rfl), by decide +kernel, by decide +kernel, by decide +kernel⟩
theorem cv_X4_103 : CV RX4 103 yX5_restOf cX5_restOf 2 (some .int) 1 := ⟨Or.inl (om_tbl 772 (by decide +kernel) rfl), (om_tbl 773 (by decide +kernel) rfl), (om_tbl 774 (by decide +kernel) rfl), (om_tbl 70 (by decide +kernel) rfl), (om_tbl 775 (by decide +kernel) rfl), by decide +kernel, by decide +kernel, by decide +kernel⟩
theorem cv_X4_106 : CV RX4 106 yX0_carry cX0_carry 4 none 2 := ⟨Or.inl (om_tbl 776 (by decide +kernel) rfl), (om_tbl 458 (by decide +kernel) rfl), (om_tbl 459 (by decide +kernel) rfl), (om_tbl 65 (by decide +kernel) rfl), (om_tbl 460 (by decide +kernel) rfl), by decide +kernel, by decide +kernel, by decide +kernel⟩
theorem cv_X4_115 : CV RX4 115 yX0_openBehind cX0_openBehind 8 (some .int) 2 := ⟨Or.inl (om_tbl 804 (by decide +kernel) rfl), (om_tbl 805 (by decide +kernel) rfl), (om_tbl 806 (by decide +kernel) rfl), (om_tbl 65 (by decide +kernel) rfl), (om_tbl 807 (by decide +kernel) rfl), by decide +kernel, by decide +kernel, by decide +kernel⟩
theorem cv_X4_121 : CV RX4 121 yX0_enterSecondWay cX0_enterSecondWay 5 none 3 := ⟨Or.inl (om_tbl 808 (by decide +kernel) rfl), (om_tbl 790 (by decide +kernel) rfl), (om_tbl 791 (by decide +kernel) rfl), (om_tbl 65 (by decide +kernel) rfl), (om_tbl 792 (by decide +kernel) rfl), by decide +kernel, by decide +kernel, by decide +kernel⟩
theorem cv_X5_49 : CV RX5 49 yX5_isLineOf cX5_isLineOf 3 (some .boolean) 2 := ⟨Or.inl (om_tbl 726 (by decide +kernel) rfl), (om_tbl 500 (by decide +kernel) rfl), (om_tbl 501 (by decide +kernel) rfl), (om_tbl 70 (by decide +kernel) rfl), (om_tbl 502 (by decide +kernel) rfl), by decide +kernel, by decide +kernel, by decide +kernel⟩
theorem cv_X5_53 : CV RX5 53 yX5_nodeOf cX5_nodeOf 2 (some .int) 1 := ⟨Or.inl (om_tbl 410 (by decide +kernel) rfl), (om_tbl 411 (by decide +kernel) rfl), (om_tbl 412 (by decide +kernel) rfl), (om_tbl 70 (by decide +kernel) rfl), (om_tbl 413 (by decide +kernel) rfl), by decide +kernel, by decide +kernel, by decide +kernel⟩
theorem cv_X5_57 : CS_ RX5 57 yX2_pairOf cX2_pairOf 2 (some .int) 2 := ⟨Or.inl (om_tbl 414 (by decide +kernel) rfl), (om_tbl 415 (by decide +kernel) rfl), (om_tbl 64 (by decide +kernel) rfl), (om_tbl 416 (by decide +kernel) rfl), by decide +kernel, by decide +kernel, by decide +kernel⟩
theorem cv_X5_70 : CV RX5 70 yX5_isHit cX5_isHit 3 (some .boolean) 2 := ⟨Or.inl (om_tbl 688 (by decide +kernel) rfl), (om_tbl 690 (by decide +kernel) rfl), (om_tbl 11 (by decide +kernel) rfl), (om_tbl 70 (by decide +kernel) rfl), (om_tbl 691 (by decide +kernel) rfl), by decide +kernel, by decide +kernel, by decide +kernel⟩
theorem cv_X5_73 : CV RX5 73 yX5_runsOnSecondWay cX5_runsOnSecondWay 3 (some .boolean) 2 := ⟨Or.inl (om_tbl 692 (by decide +kernel) rfl), (om_tbl 694 (by decide +kernel) rfl), (om_tbl 12 (by decide +kernel) rfl), (om_tbl 70 (by decide +kernel) rfl), (om_tbl 695 (by decide +kernel) rfl), by decide +kernel, by decide +kernel, by decide +kernel⟩
theorem cv_X5_76 : CV RX5 76 yX5_restOf cX5_restOf 2 (some .int) 1 := ⟨Or.inl (om_tbl 879 (by decide +kernel) rfl), (om_tbl 773 (by decide +kernel) rfl), (om_tbl 774 (by decide +kernel) rfl), (om_tbl 70 (by decide +kernel) rfl), (om_tbl 775 (by decide +kernel) rfl), by decide +kernel, by decide +kernel, by decide +kernel⟩
theorem cv_X5_79 : CS_ RX5 79 yJ6_bitCount_0f7a4 cJ6_bitCount_0f7a4 1 (some .int) 1 := ⟨Or.inl (om_tbl 841 (by decide +kernel) rfl), (om_tbl 438 (by decide +kernel) rfl), (om_tbl 78 (by decide +kernel) rfl), (om_tbl 439 (by decide +kernel) rfl), by decide +kernel, by decide +kernel, by decide +kernel⟩
theorem cv_X6_48 : CV RX6 48 yX1_prepare cX1_prepare 6 (some .int) 1 := ⟨Or.inl (om_tbl 390 (by decide +kernel) rfl), (om_tbl 391 (by decide +kernel) rfl), (om_tbl 392 (by decide +kernel) rfl), (om_tbl 67 (by decide +kernel) rfl), (om_tbl 393 (by decide +kernel) rfl), by decide +kernel, by decide +kernel, by decide +kernel⟩
theorem cv_X6_52 : CV RX6 52 yX1_take cX1_take 7 (some .boolean) 2 := ⟨Or.inl (om_tbl 398 (by decide +kernel) rfl), (om_tbl 399 (by decide +kernel) rfl), (om_tbl 400 (by decide +kernel) rfl), (om_tbl 67 (by decide +kernel) rfl), (om_tbl 401 (by decide +kernel) rfl), by decide +kernel, by decide +kernel, by decide +kernel⟩
theorem cv_X6_56 : CV RX6 56 yX6_findFloors cX6_findFloors 5 (some .boolean) 1 := ⟨Or.inl (om_tbl 402 (by decide +kernel) rfl), (om_tbl 404 (by decide +kernel) rfl), (om_tbl 1 (by decide +kernel) rfl), (om_tbl 66 (by decide +kernel) rfl), (om_tbl 405 (by decide +kernel) rfl), by decide +kernel, by decide +kernel, by decide +kernel⟩
theorem cv_X6_60 : CV RX6 60 yX6_isCut cX6_isCut 3 (some .boolean) 1 := ⟨Or.inl (om_tbl 444 (by decide +kernel) rfl), (om_tbl 446 (by decide +kernel) rfl), (om_tbl 2 (by decide +kernel) rfl), (om_tbl 66 (by decide +kernel) rfl), (om_tbl 447 (by decide +kernel) rfl), by decide +kernel, by decide +kernel, by decide +kernel⟩
theorem cv_X6_64 : CS_ RX6 64 yX6_chooseWays cX6_chooseWays 11 none 4 := ⟨Or.inl (om_tbl 448 (by decide +kernel) rfl), (om_tbl 449 (by decide +kernel) rfl), (om_tbl 66 (by decide +kernel) rfl), (om_tbl 450 (by decide +kernel) rfl), by decide +kernel, by decide +kernel, by decide +kernel⟩
theorem cv_X6_79 : CV RX6 79 yX5_setWay cX5_setWay 3 none 2 := ⟨Or.inl (om_tbl 750 (by decide +kernel) rfl), (om_tbl 751 (by decide +kernel) rfl), (om_tbl 752 (by decide +kernel) rfl), (om_tbl 70 (by decide +kernel) rfl), (om_tbl 753 (by decide +kernel) rfl), by decide +kernel, by decide +kernel, by decide +kernel⟩
theorem cv_X6_86 : CV RX6 86 yX5_pairOf cX5_pairOf 2 (some .int) 1 := ⟨Or.inl (om_tbl 406 (by decide +kernel) rfl), (om_tbl 407 (by decide +kernel) rfl), (om_tbl 408 (by decide +kernel) rfl), (om_tbl 70 (by decide +kernel) rfl), (om_tbl 409 (by decide +kernel) rfl), by decide +kernel, by decide +kernel, by decide +kernel⟩
theorem cv_X6_90 : CV RX6 90 yX0_openFor cX0_openFor 4 (some .int) 1 := ⟨Or.inl (om_tbl 417 (by decide +kernel) rfl), (om_tbl 418 (by decide +kernel) rfl), (om_tbl 419 (by decide +kernel) rfl), (om_tbl 65 (by decide +kernel) rfl), (om_tbl 420 (by decide +kernel) rfl), by decide +kernel, by decide +kernel, by decide +kernel⟩
theorem cv_X6_95 : CV RX6 95 yX2_shortest cX2_shortest 8 (some .int) 2 := ⟨Or.inl (om_tbl 425 (by decide +kernel) rfl), (om_tbl 426 (by decide +kernel) rfl), (om_tbl 427 (by decide +kernel) rfl), (om_tbl 64 (by decide +kernel) rfl), (om_tbl 428 (by decide +kernel) rfl), by decide +kernel, by decide +kernel, by decide +kernel⟩
theorem cv_X6_101 : CS_ RX6 101 yJ6_bitCount_0f7a4 cJ6_bitCount_0f7a4 1 (some .int) 1 := ⟨Or.inl (om_tbl 443 (by decide +kernel) rfl), (om_tbl 438 (by decide +kernel) rfl), (om_tbl 78 (by decide +kernel) rfl), (om_tbl 439 (by decide +kernel) rfl), by decide +kernel, by decide +kernel, by decide +kernel⟩
theorem cv_X6_106 : CV RX6 106 yX6_keepLeast cX6_keepLeast 4 none 2 := ⟨Or.inl (om_tbl 451 (by decide +kernel) rfl), (om_tbl 453 (by decide +kernel) rfl), (om_tbl 3 (by decide +kernel) rfl), (om_tbl 66 (by decide +kernel) rfl), (om_tbl 454 (by decide +kernel) rfl), by decide +kernel, by decide +kernel, by decide +kernel⟩
theorem cv_X6_110 : CV RX6 110 yX2_countOfWays cX2_countOfWays 2 (some .int) 1 := ⟨Or.inl (om_tbl 455 (by decide +kernel) rfl), (om_tbl 430 (by decide +kernel) rfl), (om_tbl 431 (by decide +kernel) rfl), (om_tbl 64 (by decide +kernel) rfl), (om_tbl 432 (by decide +kernel) rfl), by decide +kernel, by decide +kernel, by decide +kernel⟩
theorem cv_X6_113 : CV RX6 113 yX2_wayOf cX2_wayOf 4 (some .int) 2 := ⟨Or.inl (om_tbl 456 (by decide +kernel) rfl), (om_tbl 434 (by decide +kernel) rfl), (om_tbl 435 (by decide +kernel) rfl), (om_tbl 64 (by decide +kernel) rfl), (om_tbl 436 (by decide +kernel) rfl), by decide +kernel, by decide +kernel, by decide +kernel⟩
theorem cv_X6_116 : CV RX6 116 yX0_carry cX0_carry 4 none 2 := ⟨Or.inl (om_tbl 457 (by decide +kernel) rfl), (om_tbl 458 (by decide +kernel) rfl), (om_tbl 459 (by decide +kernel) rfl), (om_tbl 65 (by decide +kernel) rfl), (om_tbl 460 (by decide +kernel) rfl), by decide +kernel, by decide +kernel, by decide +kernel⟩
theorem cv_X7_73 : CV RX7 73 yX2_addNode cX2_addNode 2 (some .int) 1 := ⟨Or.inl (om_tbl 613 (by decide +kernel) rfl), (om_tbl 614 (by decide +kernel) rfl), (om_tbl 615 (by decide +kernel) rfl), (om_tbl 64 (by decide +kernel) rfl), (om_tbl 616 (by decide +kernel) rfl), by decide +kernel, by decide +kernel, by decide +kernel⟩
theorem cv_X7_77 : CV RX7 77 yX2_hasNode cX2_hasNode 2 (some .boolean) 1 := ⟨Or.inl (om_tbl 625 (by decide +kernel) rfl), (om_tbl 496 (by decide +kernel) rfl), (om_tbl 497 (by decide +kernel) rfl), (om_tbl 64 (by decide +kernel) rfl), (om_tbl 498 (by decide +kernel) rfl), by decide +kernel, by decide +kernel, by decide +kernel⟩
theorem cv_X7_91 : CV RX7 91 yX2_areLinked cX2_areLinked 4 (some .boolean) 2 := ⟨Or.inl (om_tbl 643 (by decide +kernel) rfl), (om_tbl 644 (by decide +kernel) rfl), (om_tbl 645 (by decide +kernel) rfl), (om_tbl 64 (by decide +kernel) rfl), (om_tbl 646 (by decide +kernel) rfl), by decide +kernel, by decide +kernel, by decide +kernel⟩
theorem cv_X7_97 : CV RX7 97 yX2_addLink cX2_addLink 4 (some .int) 3 := ⟨Or.inl (om_tbl 652 (by decide +kernel) rfl), (om_tbl 653 (by decide +kernel) rfl), (om_tbl 654 (by decide +kernel) rfl), (om_tbl 64 (by decide +kernel) rfl), (om_tbl 655 (by decide +kernel) rfl), by decide +kernel, by decide +kernel, by decide +kernel⟩
theorem cv_X7_101 : CV RX7 101 yX2_hasLink cX2_hasLink 2 (some .boolean) 1 := ⟨Or.inl (om_tbl 675 (by decide +kernel) rfl), (om_tbl 676 (by decide +kernel) rfl), (om_tbl 677 (by decide +kernel) rfl), (om_tbl 64 (by decide +kernel) rfl), (om_tbl 678 (by decide +kernel) rfl), by decide +kernel, by decide +kernel, by decide +kernel⟩
theorem cv_X7_106 : CV RX7 106 yX2_setFailed cX2_setFailed 3 none 2 := ⟨Or.inl (om_tbl 680 (by decide +kernel) rfl), (om_tbl 681 (by decide +kernel) rfl), (om_tbl 682 (by decide +kernel) rfl), (om_tbl 64 (by decide +kernel) rfl), (om_tbl 683 (by decide +kernel) rfl), by decide +kernel, by decide +kernel, by decide +kernel⟩
theorem cv_X7_120 : CV RX7 120 yX5_stoppedLines cX5_stoppedLines 4 (some .int) 1 := ⟨Or.inl (om_tbl 684 (by decide +kernel) rfl), (om_tbl 685 (by decide +kernel) rfl), (om_tbl 686 (by decide +kernel) rfl), (om_tbl 70 (by decide +kernel) rfl), (om_tbl 687 (by decide +kernel) rfl), by decide +kernel, by decide +kernel, by decide +kernel⟩
theorem cv_X7_125 : CV RX7 125 yX7_draft cX7_draft 1 (some (.object "MeshLodger$Request")) 0 := ⟨Or.inl (om_tbl 370 (by decide +kernel) rfl), (om_tbl 372 (by decide +kernel) rfl), (om_tbl 0 (by decide +kernel) rfl), (om_tbl 63 (by decide +kernel) rfl), (om_tbl 373 (by decide +kernel) rfl), by decide +kernel, by decide +kernel, by decide +kernel⟩
theorem cv_X7_134 : CV RX7 134 yX5_addPart cX5_addPart 3 (some .int) 2 := ⟨Or.inl (om_tbl 705 (by decide +kernel) rfl), (om_tbl 706 (by decide +kernel) rfl), (om_tbl 707 (by decide +kernel) rfl), (om_tbl 70 (by decide +kernel) rfl), (om_tbl 708 (by decide +kernel) rfl), by decide +kernel, by decide +kernel, by decide +kernel⟩
theorem cv_X7_138 : CV RX7 138 yX5_hasPart cX5_hasPart 2 (some .boolean) 1 := ⟨Or.inl (om_tbl 716 (by decide +kernel) rfl), (om_tbl 717 (by decide +kernel) rfl), (om_tbl 718 (by decide +kernel) rfl), (om_tbl 70 (by decide +kernel) rfl), (om_tbl 719 (by decide +kernel) rfl), by decide +kernel, by decide +kernel, by decide +kernel⟩
theorem cv_X7_148 : CV RX7 148 yX5_hasLineFor cX5_hasLineFor 4 (some .boolean) 2 := ⟨Or.inl (om_tbl 722 (by decide +kernel) rfl), (om_tbl 723 (by decide +kernel) rfl), (om_tbl 724 (by decide +kernel) rfl), (om_tbl 70 (by decide +kernel) rfl), (om_tbl 725 (by decide +kernel) rfl), by decide +kernel, by decide +kernel, by decide +kernel⟩
theorem cv_X7_153 : CV RX7 153 yX5_addLine cX5_addLine 4 (some .int) 3 := ⟨Or.inl (om_tbl 728 (by decide +kernel) rfl), (om_tbl 729 (by decide +kernel) rfl), (om_tbl 730 (by decide +kernel) rfl), (om_tbl 70 (by decide +kernel) rfl), (om_tbl 731 (by decide +kernel) rfl), by decide +kernel, by decide +kernel, by decide +kernel⟩
theorem cv_X7_156 : CV RX7 156 yX5_empty cX5_empty 2 (some .int) 0 := ⟨Or.inl (om_tbl 374 (by decide +kernel) rfl), (om_tbl 375 (by decide +kernel) rfl), (om_tbl 376 (by decide +kernel) rfl), (om_tbl 70 (by decide +kernel) rfl), (om_tbl 377 (by decide +kernel) rfl), by decide +kernel, by decide +kernel, by decide +kernel⟩
theorem cv_X7_164 : CV RX7 164 yX4_lodge cX4_lodge 4 (some .boolean) 2 := ⟨Or.inl (om_tbl 741 (by decide +kernel) rfl), (om_tbl 742 (by decide +kernel) rfl), (om_tbl 743 (by decide +kernel) rfl), (om_tbl 68 (by decide +kernel) rfl), (om_tbl 744 (by decide +kernel) rfl), by decide +kernel, by decide +kernel, by decide +kernel⟩
theorem cv_X7_177 : CV RX7 177 yX7_isPlaced cX7_isPlaced 2 (some .boolean) 1 := ⟨Or.inl (om_tbl 816 (by decide +kernel) rfl), (om_tbl 818 (by decide +kernel) rfl), (om_tbl 18 (by decide +kernel) rfl), (om_tbl 63 (by decide +kernel) rfl), (om_tbl 819 (by decide +kernel) rfl), by decide +kernel, by decide +kernel, by decide +kernel⟩
theorem cv_X7_184 : CV RX7 184 yX7_dismiss cX7_dismiss 2 none 1 := ⟨Or.inl (om_tbl 822 (by decide +kernel) rfl), (om_tbl 824 (by decide +kernel) rfl), (om_tbl 19 (by decide +kernel) rfl), (om_tbl 63 (by decide +kernel) rfl), (om_tbl 825 (by decide +kernel) rfl), by decide +kernel, by decide +kernel, by decide +kernel⟩
theorem cv_X7_190 : CV RX7 190 yX5_nodeOf cX5_nodeOf 2 (some .int) 1 := ⟨Or.inl (om_tbl 477 (by decide +kernel) rfl), (om_tbl 411 (by decide +kernel) rfl), (om_tbl 412 (by decide +kernel) rfl), (om_tbl 70 (by decide +kernel) rfl), (om_tbl 413 (by decide +kernel) rfl), by decide +kernel, by decide +kernel, by decide +kernel⟩
theorem cv_X7_195 : CV RX7 195 yX5_isMovable cX5_isMovable 3 (some .boolean) 0 := ⟨Or.inl (om_tbl 473 (by decide +kernel) rfl), (om_tbl 474 (by decide +kernel) rfl), (om_tbl 475 (by decide +kernel) rfl), (om_tbl 70 (by decide +kernel) rfl), (om_tbl 476 (by decide +kernel) rfl), by decide +kernel, by decide +kernel, by decide +kernel⟩
theorem cv_X7_201 : CV RX7 201 yX3_shift cX3_shift 6 (some .boolean) 3 := ⟨Or.inl (om_tbl 478 (by decide +kernel) rfl), (om_tbl 479 (by decide +kernel) rfl), (om_tbl 480 (by decide +kernel) rfl), (om_tbl 69 (by decide +kernel) rfl), (om_tbl 481 (by decide +kernel) rfl), by decide +kernel, by decide +kernel, by decide +kernel⟩
theorem cv_X7_205 : CV RX7 205 yX5_linksOfPart cX5_linksOfPart 4 (some .int) 1 := ⟨Or.inl (om_tbl 837 (by decide +kernel) rfl), (om_tbl 838 (by decide +kernel) rfl), (om_tbl 839 (by decide +kernel) rfl), (om_tbl 70 (by decide +kernel) rfl), (om_tbl 840 (by decide +kernel) rfl), by decide +kernel, by decide +kernel, by decide +kernel⟩
theorem cv_X7_212 : CV RX7 212 yX0_leftAtNode cX0_leftAtNode 2 (some .int) 1 := ⟨Or.inl (om_tbl 858 (by decide +kernel) rfl), (om_tbl 395 (by decide +kernel) rfl), (om_tbl 396 (by decide +kernel) rfl), (om_tbl 65 (by decide +kernel) rfl), (om_tbl 397 (by decide +kernel) rfl), by decide +kernel, by decide +kernel, by decide +kernel⟩
theorem cv_X7_225 : CV RX7 225 yX0_leftOnLink cX0_leftOnLink 2 (some .int) 1 := ⟨Or.inl (om_tbl 866 (by decide +kernel) rfl), (om_tbl 422 (by decide +kernel) rfl), (om_tbl 423 (by decide +kernel) rfl), (om_tbl 65 (by decide +kernel) rfl), (om_tbl 424 (by decide +kernel) rfl), by decide +kernel, by decide +kernel, by decide +kernel⟩
theorem cv_X7_230 : CV RX7 230 yX5_loadOn cX5_loadOn 5 (some .int) 2 := ⟨Or.inl (om_tbl 875 (by decide +kernel) rfl), (om_tbl 876 (by decide +kernel) rfl), (om_tbl 877 (by decide +kernel) rfl), (om_tbl 70 (by decide +kernel) rfl), (om_tbl 878 (by decide +kernel) rfl), by decide +kernel, by decide +kernel, by decide +kernel⟩
theorem cv_X7_233 : CV RX7 233 yX5_linesOnSecondWay cX5_linesOnSecondWay 4 (some .int) 1 := ⟨Or.inl (om_tbl 887 (by decide +kernel) rfl), (om_tbl 888 (by decide +kernel) rfl), (om_tbl 889 (by decide +kernel) rfl), (om_tbl 70 (by decide +kernel) rfl), (om_tbl 890 (by decide +kernel) rfl), by decide +kernel, by decide +kernel, by decide +kernel⟩
theorem cv_X7_236 : CV RX7 236 yX5_cost cX5_cost 3 (some .int) 0 := ⟨Or.inl (om_tbl 891 (by decide +kernel) rfl), (om_tbl 892 (by decide +kernel) rfl), (om_tbl 893 (by decide +kernel) rfl), (om_tbl 70 (by decide +kernel) rfl), (om_tbl 894 (by decide +kernel) rfl), by decide +kernel, by decide +kernel, by decide +kernel⟩
theorem cv_X7_241 : CV RX7 241 yX5_hasLine cX5_hasLine 2 (some .boolean) 1 := ⟨Or.inl (om_tbl 910 (by decide +kernel) rfl), (om_tbl 911 (by decide +kernel) rfl), (om_tbl 912 (by decide +kernel) rfl), (om_tbl 70 (by decide +kernel) rfl), (om_tbl 913 (by decide +kernel) rfl), by decide +kernel, by decide +kernel, by decide +kernel⟩
theorem cv_X7_257 : CV RX7 257 yX6_run cX6_run 5 (some .int) 2 := ⟨Or.inl (om_tbl 386 (by decide +kernel) rfl), (om_tbl 387 (by decide +kernel) rfl), (om_tbl 388 (by decide +kernel) rfl), (om_tbl 66 (by decide +kernel) rfl), (om_tbl 389 (by decide +kernel) rfl), by decide +kernel, by decide +kernel, by decide +kernel⟩
theorem cv_X7_261 : CV RX7 261 yX7_freeingNode cX7_freeingNode 7 (some .int) 3 := ⟨Or.inl (om_tbl 469 (by decide +kernel) rfl), (om_tbl 471 (by decide +kernel) rfl), (om_tbl 4 (by decide +kernel) rfl), (om_tbl 63 (by decide +kernel) rfl), (om_tbl 472 (by decide +kernel) rfl), by decide +kernel, by decide +kernel, by decide +kernel⟩
theorem cv_X7_268 : CV RX7 268 yX3_takeBack cX3_takeBack 4 none 2 := ⟨Or.inl (om_tbl 519 (by decide +kernel) rfl), (om_tbl 516 (by decide +kernel) rfl), (om_tbl 517 (by decide +kernel) rfl), (om_tbl 69 (by decide +kernel) rfl), (om_tbl 518 (by decide +kernel) rfl), by decide +kernel, by decide +kernel, by decide +kernel⟩
theorem cv_X7_272 : CV RX7 272 yX0_enter cX0_enter 4 none 2 := ⟨Or.inl (om_tbl 826 (by decide +kernel) rfl), (om_tbl 784 (by decide +kernel) rfl), (om_tbl 785 (by decide +kernel) rfl), (om_tbl 65 (by decide +kernel) rfl), (om_tbl 786 (by decide +kernel) rfl), by decide +kernel, by decide +kernel, by decide +kernel⟩
theorem cv_X8_111 : CS_ RX8 111 yX8_isIn cX8_isIn 3 (some .boolean) 3 := ⟨Or.inl (om_tbl 1040 (by decide +kernel) rfl), (om_tbl 1041 (by decide +kernel) rfl), (om_tbl 71 (by decide +kernel) rfl), (om_tbl 1042 (by decide +kernel) rfl), by decide +kernel, by decide +kernel, by decide +kernel⟩
theorem cv_X8_121 : CV RX8 121 yX8_can cX8_can 2 (some .boolean) 1 := ⟨Or.inl (om_tbl 1043 (by decide +kernel) rfl), (om_tbl 1045 (by decide +kernel) rfl), (om_tbl 20 (by decide +kernel) rfl), (om_tbl 71 (by decide +kernel) rfl), (om_tbl 1046 (by decide +kernel) rfl), by decide +kernel, by decide +kernel, by decide +kernel⟩
theorem cv_X8_125 : CV RX8 125 yX8_isNode cX8_isNode 2 (some .boolean) 1 := ⟨Or.inl (om_tbl 1051 (by decide +kernel) rfl), (om_tbl 1053 (by decide +kernel) rfl), (om_tbl 21 (by decide +kernel) rfl), (om_tbl 71 (by decide +kernel) rfl), (om_tbl 1054 (by decide +kernel) rfl), by decide +kernel, by decide +kernel, by decide +kernel⟩
theorem cv_X8_128 : CV RX8 128 yX8_areLinked cX8_areLinked 5 (some .boolean) 2 := ⟨Or.inl (om_tbl 1055 (by decide +kernel) rfl), (om_tbl 1057 (by decide +kernel) rfl), (om_tbl 22 (by decide +kernel) rfl), (om_tbl 71 (by decide +kernel) rfl), (om_tbl 1058 (by decide +kernel) rfl), by decide +kernel, by decide +kernel, by decide +kernel⟩
theorem cv_X8_132 : CV RX8 132 yX8_end cX8_end 3 (some .int) 2 := ⟨Or.inl (om_tbl 1122 (by decide +kernel) rfl), (om_tbl 1124 (by decide +kernel) rfl), (om_tbl 34 (by decide +kernel) rfl), (om_tbl 71 (by decide +kernel) rfl), (om_tbl 1125 (by decide +kernel) rfl), by decide +kernel, by decide +kernel, by decide +kernel⟩
theorem cv_X8_136 : CS_ RX8 136 yX8_has cX8_has 2 (some .boolean) 2 := ⟨Or.inl (om_tbl 1091 (by decide +kernel) rfl), (om_tbl 1092 (by decide +kernel) rfl), (om_tbl 71 (by decide +kernel) rfl), (om_tbl 1093 (by decide +kernel) rfl), by decide +kernel, by decide +kernel, by decide +kernel⟩
theorem cv_X8_139 : CV RX8 139 yX8_shared cX8_shared 7 (some .int) 3 := ⟨Or.inl (om_tbl 1098 (by decide +kernel) rfl), (om_tbl 1100 (by decide +kernel) rfl), (om_tbl 28 (by decide +kernel) rfl), (om_tbl 71 (by decide +kernel) rfl), (om_tbl 1101 (by decide +kernel) rfl), by decide +kernel, by decide +kernel, by decide +kernel⟩
theorem cv_X8_143 : CV RX8 143 yX8_needsAt cX8_needsAt 5 (some .int) 1 := ⟨Or.inl (om_tbl 1083 (by decide +kernel) rfl), (om_tbl 1085 (by decide +kernel) rfl), (om_tbl 25 (by decide +kernel) rfl), (om_tbl 71 (by decide +kernel) rfl), (om_tbl 1086 (by decide +kernel) rfl), by decide +kernel, by decide +kernel, by decide +kernel⟩
theorem cv_X8_147 : CV RX8 147 yX8_needs cX8_needs 4 (some .int) 1 := ⟨Or.inl (om_tbl 1087 (by decide +kernel) rfl), (om_tbl 1089 (by decide +kernel) rfl), (om_tbl 26 (by decide +kernel) rfl), (om_tbl 71 (by decide +kernel) rfl), (om_tbl 1090 (by decide +kernel) rfl), by decide +kernel, by decide +kernel, by decide +kernel⟩
theorem cv_X8_150 : CV RX8 150 yX8_reserved cX8_reserved 6 (some .int) 2 := ⟨Or.inl (om_tbl 1094 (by decide +kernel) rfl), (om_tbl 1096 (by decide +kernel) rfl), (om_tbl 27 (by decide +kernel) rfl), (om_tbl 71 (by decide +kernel) rfl), (om_tbl 1097 (by decide +kernel) rfl), by decide +kernel, by decide +kernel, by decide +kernel⟩
theorem cv_X8_153 : CV RX8 153 yX8_areLined cX8_areLined 5 (some .boolean) 2 := ⟨Or.inl (om_tbl 1067 (by decide +kernel) rfl), (om_tbl 1069 (by decide +kernel) rfl), (om_tbl 23 (by decide +kernel) rfl), (om_tbl 71 (by decide +kernel) rfl), (om_tbl 1070 (by decide +kernel) rfl), by decide +kernel, by decide +kernel, by decide +kernel⟩
theorem cv_X8_156 : CV RX8 156 yX8_isChoice cX8_isChoice 5 (some .boolean) 0 := ⟨Or.inl (om_tbl 1110 (by decide +kernel) rfl), (om_tbl 1112 (by decide +kernel) rfl), (om_tbl 31 (by decide +kernel) rfl), (om_tbl 71 (by decide +kernel) rfl), (om_tbl 1113 (by decide +kernel) rfl), by decide +kernel, by decide +kernel, by decide +kernel⟩
theorem cv_X8_160 : CV RX8 160 yX8_finds cX8_finds 8 none 3 := ⟨Or.inl (om_tbl 1118 (by decide +kernel) rfl), (om_tbl 1120 (by decide +kernel) rfl), (om_tbl 33 (by decide +kernel) rfl), (om_tbl 71 (by decide +kernel) rfl), (om_tbl 1121 (by decide +kernel) rfl), by decide +kernel, by decide +kernel, by decide +kernel⟩
theorem cv_X8_164 : CV RX8 164 yX8_needOf cX8_needOf 2 (some .int) 1 := ⟨Or.inl (om_tbl 1134 (by decide +kernel) rfl), (om_tbl 1136 (by decide +kernel) rfl), (om_tbl 37 (by decide +kernel) rfl), (om_tbl 71 (by decide +kernel) rfl), (om_tbl 1137 (by decide +kernel) rfl), by decide +kernel, by decide +kernel, by decide +kernel⟩
theorem cv_X8_167 : CS_ RX8 167 yX8_bits cX8_bits 3 (some .int) 1 := ⟨Or.inl (om_tbl 1138 (by decide +kernel) rfl), (om_tbl 1139 (by decide +kernel) rfl), (om_tbl 71 (by decide +kernel) rfl), (om_tbl 1140 (by decide +kernel) rfl), by decide +kernel, by decide +kernel, by decide +kernel⟩
theorem cv_X8_170 : CV RX8 170 yX8_cost cX8_cost 3 (some .int) 2 := ⟨Or.inl (om_tbl 1130 (by decide +kernel) rfl), (om_tbl 1132 (by decide +kernel) rfl), (om_tbl 36 (by decide +kernel) rfl), (om_tbl 71 (by decide +kernel) rfl), (om_tbl 1133 (by decide +kernel) rfl), by decide +kernel, by decide +kernel, by decide +kernel⟩
theorem cv_X8_173 : CV RX8 173 yX8_fits cX8_fits 5 (some .boolean) 2 := ⟨Or.inl (om_tbl 1141 (by decide +kernel) rfl), (om_tbl 1143 (by decide +kernel) rfl), (om_tbl 38 (by decide +kernel) rfl), (om_tbl 71 (by decide +kernel) rfl), (om_tbl 1144 (by decide +kernel) rfl), by decide +kernel, by decide +kernel, by decide +kernel⟩
theorem cv_X8_176 : CV RX8 176 yX8_takes cX8_takes 4 none 2 := ⟨Or.inl (om_tbl 1145 (by decide +kernel) rfl), (om_tbl 1147 (by decide +kernel) rfl), (om_tbl 39 (by decide +kernel) rfl), (om_tbl 71 (by decide +kernel) rfl), (om_tbl 1148 (by decide +kernel) rfl), by decide +kernel, by decide +kernel, by decide +kernel⟩
theorem cv_X8_180 : CV RX8 180 yX8_keeps cX8_keeps 5 none 3 := ⟨Or.inl (om_tbl 1149 (by decide +kernel) rfl), (om_tbl 1151 (by decide +kernel) rfl), (om_tbl 40 (by decide +kernel) rfl), (om_tbl 71 (by decide +kernel) rfl), (om_tbl 1152 (by decide +kernel) rfl), by decide +kernel, by decide +kernel, by decide +kernel⟩
theorem cv_X8_183 : CV RX8 183 yX8_chooses cX8_chooses 4 (some .boolean) 1 := ⟨Or.inl (om_tbl 1106 (by decide +kernel) rfl), (om_tbl 1108 (by decide +kernel) rfl), (om_tbl 30 (by decide +kernel) rfl), (om_tbl 71 (by decide +kernel) rfl), (om_tbl 1109 (by decide +kernel) rfl), by decide +kernel, by decide +kernel, by decide +kernel⟩
theorem cv_X8_186 : CV RX8 186 yX8_findsAll cX8_findsAll 3 none 0 := ⟨Or.inl (om_tbl 1114 (by decide +kernel) rfl), (om_tbl 1116 (by decide +kernel) rfl), (om_tbl 32 (by decide +kernel) rfl), (om_tbl 71 (by decide +kernel) rfl), (om_tbl 1117 (by decide +kernel) rfl), by decide +kernel, by decide +kernel, by decide +kernel⟩
theorem cv_X8_189 : CV RX8 189 yX8_leastBy cX8_leastBy 9 (some .int) 1 := ⟨Or.inl (om_tbl 1126 (by decide +kernel) rfl), (om_tbl 1128 (by decide +kernel) rfl), (om_tbl 35 (by decide +kernel) rfl), (om_tbl 71 (by decide +kernel) rfl), (om_tbl 1129 (by decide +kernel) rfl), by decide +kernel, by decide +kernel, by decide +kernel⟩
theorem cv_X8_192 : CV RX8 192 yX8_roomOf cX8_roomOf 4 (some .int) 1 := ⟨Or.inl (om_tbl 1181 (by decide +kernel) rfl), (om_tbl 1183 (by decide +kernel) rfl), (om_tbl 48 (by decide +kernel) rfl), (om_tbl 71 (by decide +kernel) rfl), (om_tbl 1184 (by decide +kernel) rfl), by decide +kernel, by decide +kernel, by decide +kernel⟩
theorem cv_X8_195 : CV RX8 195 yX8_fewest cX8_fewest 6 (some .int) 2 := ⟨Or.inl (om_tbl 1173 (by decide +kernel) rfl), (om_tbl 1175 (by decide +kernel) rfl), (om_tbl 46 (by decide +kernel) rfl), (om_tbl 71 (by decide +kernel) rfl), (om_tbl 1176 (by decide +kernel) rfl), by decide +kernel, by decide +kernel, by decide +kernel⟩
theorem cv_X8_198 : CV RX8 198 yX8_widest cX8_widest 7 (some .int) 1 := ⟨Or.inl (om_tbl 1177 (by decide +kernel) rfl), (om_tbl 1179 (by decide +kernel) rfl), (om_tbl 47 (by decide +kernel) rfl), (om_tbl 71 (by decide +kernel) rfl), (om_tbl 1180 (by decide +kernel) rfl), by decide +kernel, by decide +kernel, by decide +kernel⟩
theorem cv_X8_201 : CV RX8 201 yX8_splits cX8_splits 4 (some .boolean) 0 := ⟨Or.inl (om_tbl 1169 (by decide +kernel) rfl), (om_tbl 1171 (by decide +kernel) rfl), (om_tbl 45 (by decide +kernel) rfl), (om_tbl 71 (by decide +kernel) rfl), (om_tbl 1172 (by decide +kernel) rfl), by decide +kernel, by decide +kernel, by decide +kernel⟩
theorem cv_X8_204 : CV RX8 204 yX8_sumsRooms cX8_sumsRooms 2 none 0 := ⟨Or.inl (om_tbl 1079 (by decide +kernel) rfl), (om_tbl 1081 (by decide +kernel) rfl), (om_tbl 24 (by decide +kernel) rfl), (om_tbl 71 (by decide +kernel) rfl), (om_tbl 1082 (by decide +kernel) rfl), by decide +kernel, by decide +kernel, by decide +kernel⟩
theorem cv_X8_207 : CV RX8 207 yX8_isWithin cX8_isWithin 6 (some .boolean) 1 := ⟨Or.inl (om_tbl 1161 (by decide +kernel) rfl), (om_tbl 1163 (by decide +kernel) rfl), (om_tbl 43 (by decide +kernel) rfl), (om_tbl 71 (by decide +kernel) rfl), (om_tbl 1164 (by decide +kernel) rfl), by decide +kernel, by decide +kernel, by decide +kernel⟩
theorem cv_X8_210 : CV RX8 210 yX8_leastOf cX8_leastOf 4 (some .int) 1 := ⟨Or.inl (om_tbl 1102 (by decide +kernel) rfl), (om_tbl 1104 (by decide +kernel) rfl), (om_tbl 29 (by decide +kernel) rfl), (om_tbl 71 (by decide +kernel) rfl), (om_tbl 1105 (by decide +kernel) rfl), by decide +kernel, by decide +kernel, by decide +kernel⟩
theorem cv_X8_214 : CV RX8 214 yX8_placesLeast cX8_placesLeast 3 none 0 := ⟨Or.inl (om_tbl 1153 (by decide +kernel) rfl), (om_tbl 1155 (by decide +kernel) rfl), (om_tbl 41 (by decide +kernel) rfl), (om_tbl 71 (by decide +kernel) rfl), (om_tbl 1156 (by decide +kernel) rfl), by decide +kernel, by decide +kernel, by decide +kernel⟩
theorem cv_X8_217 : CV RX8 217 yX8_secures cX8_secures 8 (some .boolean) 0 := ⟨Or.inl (om_tbl 1157 (by decide +kernel) rfl), (om_tbl 1159 (by decide +kernel) rfl), (om_tbl 42 (by decide +kernel) rfl), (om_tbl 71 (by decide +kernel) rfl), (om_tbl 1160 (by decide +kernel) rfl), by decide +kernel, by decide +kernel, by decide +kernel⟩
theorem cv_X8_220 : CV RX8 220 yX8_placesSplit cX8_placesSplit 3 (some .boolean) 0 := ⟨Or.inl (om_tbl 1165 (by decide +kernel) rfl), (om_tbl 1167 (by decide +kernel) rfl), (om_tbl 44 (by decide +kernel) rfl), (om_tbl 71 (by decide +kernel) rfl), (om_tbl 1168 (by decide +kernel) rfl), by decide +kernel, by decide +kernel, by decide +kernel⟩
theorem cv_X8_226 : CV RX8 226 yX8_isRequest cX8_isRequest 2 (some .boolean) 1 := ⟨Or.inl (om_tbl 1189 (by decide +kernel) rfl), (om_tbl 1191 (by decide +kernel) rfl), (om_tbl 49 (by decide +kernel) rfl), (om_tbl 71 (by decide +kernel) rfl), (om_tbl 1192 (by decide +kernel) rfl), by decide +kernel, by decide +kernel, by decide +kernel⟩
theorem cv_X8_229 : CV RX8 229 yX8_isOf cX8_isOf 3 (some .boolean) 2 := ⟨Or.inl (om_tbl 1213 (by decide +kernel) rfl), (om_tbl 1215 (by decide +kernel) rfl), (om_tbl 53 (by decide +kernel) rfl), (om_tbl 71 (by decide +kernel) rfl), (om_tbl 1216 (by decide +kernel) rfl), by decide +kernel, by decide +kernel, by decide +kernel⟩
theorem cv_X8_232 : CV RX8 232 yX8_back cX8_back 5 none 3 := ⟨Or.inl (om_tbl 1217 (by decide +kernel) rfl), (om_tbl 1219 (by decide +kernel) rfl), (om_tbl 54 (by decide +kernel) rfl), (om_tbl 71 (by decide +kernel) rfl), (om_tbl 1220 (by decide +kernel) rfl), by decide +kernel, by decide +kernel, by decide +kernel⟩
theorem cv_X8_235 : CV RX8 235 yX8_isSplit cX8_isSplit 4 (some .boolean) 1 := ⟨Or.inl (om_tbl 1205 (by decide +kernel) rfl), (om_tbl 1207 (by decide +kernel) rfl), (om_tbl 51 (by decide +kernel) rfl), (om_tbl 71 (by decide +kernel) rfl), (om_tbl 1208 (by decide +kernel) rfl), by decide +kernel, by decide +kernel, by decide +kernel⟩
theorem cv_X8_238 : CV RX8 238 yX8_canMove cX8_canMove 2 (some .boolean) 1 := ⟨Or.inl (om_tbl 1201 (by decide +kernel) rfl), (om_tbl 1203 (by decide +kernel) rfl), (om_tbl 50 (by decide +kernel) rfl), (om_tbl 71 (by decide +kernel) rfl), (om_tbl 1204 (by decide +kernel) rfl), by decide +kernel, by decide +kernel, by decide +kernel⟩
theorem cv_X8_241 : CV RX8 241 yX8_moves cX8_moves 9 (some .int) 3 := ⟨Or.inl (om_tbl 1209 (by decide +kernel) rfl), (om_tbl 1211 (by decide +kernel) rfl), (om_tbl 52 (by decide +kernel) rfl), (om_tbl 71 (by decide +kernel) rfl), (om_tbl 1212 (by decide +kernel) rfl), by decide +kernel, by decide +kernel, by decide +kernel⟩
theorem cv_X8_244 : CV RX8 244 yX8_letsIn cX8_letsIn 6 (some .boolean) 3 := ⟨Or.inl (om_tbl 1225 (by decide +kernel) rfl), (om_tbl 1227 (by decide +kernel) rfl), (om_tbl 55 (by decide +kernel) rfl), (om_tbl 71 (by decide +kernel) rfl), (om_tbl 1228 (by decide +kernel) rfl), by decide +kernel, by decide +kernel, by decide +kernel⟩
theorem cv_X8_247 : CV RX8 247 yX8_failed cX8_failed 4 (some .boolean) 1 := ⟨Or.inl (om_tbl 1245 (by decide +kernel) rfl), (om_tbl 1247 (by decide +kernel) rfl), (om_tbl 59 (by decide +kernel) rfl), (om_tbl 71 (by decide +kernel) rfl), (om_tbl 1248 (by decide +kernel) rfl), by decide +kernel, by decide +kernel, by decide +kernel⟩
theorem cv_X8_250 : CV RX8 250 yX8_runs cX8_runs 2 (some .int) 1 := ⟨Or.inl (om_tbl 1241 (by decide +kernel) rfl), (om_tbl 1243 (by decide +kernel) rfl), (om_tbl 58 (by decide +kernel) rfl), (om_tbl 71 (by decide +kernel) rfl), (om_tbl 1244 (by decide +kernel) rfl), by decide +kernel, by decide +kernel, by decide +kernel⟩
theorem cv_X8_253 : CV RX8 253 yX8_isLink cX8_isLink 2 (some .boolean) 1 := ⟨Or.inl (om_tbl 1233 (by decide +kernel) rfl), (om_tbl 1235 (by decide +kernel) rfl), (om_tbl 56 (by decide +kernel) rfl), (om_tbl 71 (by decide +kernel) rfl), (om_tbl 1236 (by decide +kernel) rfl), by decide +kernel, by decide +kernel, by decide +kernel⟩
theorem cv_X8_256 : CV RX8 256 yX8_running cX8_running 5 (some .int) 2 := ⟨Or.inl (om_tbl 1237 (by decide +kernel) rfl), (om_tbl 1239 (by decide +kernel) rfl), (om_tbl 57 (by decide +kernel) rfl), (om_tbl 71 (by decide +kernel) rfl), (om_tbl 1240 (by decide +kernel) rfl), by decide +kernel, by decide +kernel, by decide +kernel⟩
theorem cv_X8_259 : CV RX8 259 yX8_costOf cX8_costOf 4 (some .int) 1 := ⟨Or.inl (om_tbl 1269 (by decide +kernel) rfl), (om_tbl 1271 (by decide +kernel) rfl), (om_tbl 60 (by decide +kernel) rfl), (om_tbl 71 (by decide +kernel) rfl), (om_tbl 1272 (by decide +kernel) rfl), by decide +kernel, by decide +kernel, by decide +kernel⟩
theorem cv_X8_262 : CV RX8 262 yX8_leastNow cX8_leastNow 1 (some .int) 0 := ⟨Or.inl (om_tbl 1285 (by decide +kernel) rfl), (om_tbl 1287 (by decide +kernel) rfl), (om_tbl 61 (by decide +kernel) rfl), (om_tbl 71 (by decide +kernel) rfl), (om_tbl 1288 (by decide +kernel) rfl), by decide +kernel, by decide +kernel, by decide +kernel⟩
theorem mm_X0_49 : Cond.methodLink RX0 49 Lib.Math.max.name ∈ Om := (om_tbl 797 (by decide +kernel) rfl)
theorem mm_s : Cond.static Lib.Math.max.name ∈ Om := (om_tbl 798 (by decide +kernel) rfl)
theorem mm_i : Cond.initialized "java/lang/Math" ∈ Om := (om_tbl 79 (by decide +kernel) rfl)
theorem mm_c : Cond.code Lib.Math.max.name Lib.Math.max.code 2 (some .int) ∈ Om := (om_tbl 799 (by decide +kernel) rfl)
theorem ob_ML : lays[p_ML]? = some (.inr (.inr (7, [some 1, some 2, some 3, some 4, some 5, some 59, none, none]))) := rfl
theorem ob_GR : lays[p_GR]? = some (.inr (.inr (2, [some 7, some 8, some 9, some 10, some 57, some 11, none, none, none]))) := rfl
theorem ob_BK : lays[p_BK]? = some (.inr (.inr (0, [some 1, some 12, some 13, some 14, some 15, some 58]))) := rfl
theorem ob_SE : lays[p_SE]? = some (.inr (.inr (6, [some 1, some 2, some 52, some 16, some 17, some 18, some 19, none, none]))) := rfl
theorem ob_PL : lays[p_PL]? = some (.inr (.inr (4, [some 1, some 2, some 3, some 54]))) := rfl
theorem ob_MV : lays[p_MV]? = some (.inr (.inr (3, [some 1, some 2, some 20, none]))) := rfl
theorem ob_MO : lays[p_MO]? = some (.inr (.inr (8, [none, none, some 21, none, some 22, some 23, some 24, some 25, none, some 26, some 27, some 28, some 29, some 30, some 31, some 32, some 33, some 34, some 35, some 36, some 37, some 38, some 39, some 40, some 41, some 42, some 43, some 44, some 45, some 46, some 47, some 48, some 49, some 50, some 51, none]))) := rfl
theorem ar_GR_nodeRooms : lays[p_GR_nodeRooms]? = some (.inl (0, 6)) := rfl
theorem ar_GR_linkRooms : lays[p_GR_linkRooms]? = some (.inl (0, 9)) := rfl
theorem ar_GR_linkStarts : lays[p_GR_linkStarts]? = some (.inl (0, 9)) := rfl
theorem ar_GR_linkEnds : lays[p_GR_linkEnds]? = some (.inl (0, 9)) := rfl
theorem ar_GR_wayCounts : lays[p_GR_wayCounts]? = some (.inl (0, 36)) := rfl
theorem ar_BK_nodeNeeds : lays[p_BK_nodeNeeds]? = some (.inl (0, 6)) := rfl
theorem ar_BK_nodeParts : lays[p_BK_nodeParts]? = some (.inl (0, 6)) := rfl
theorem ar_BK_linkNeeds : lays[p_BK_linkNeeds]? = some (.inl (0, 9)) := rfl
theorem ar_BK_reserved : lays[p_BK_reserved]? = some (.inl (0, 9)) := rfl
theorem ar_SE_tried : lays[p_SE_tried]? = some (.inl (0, 3)) := rfl
theorem ar_SE_floors : lays[p_SE_floors]? = some (.inl (0, 4)) := rfl
theorem ar_SE_leastPlaces : lays[p_SE_leastPlaces]? = some (.inl (0, 3)) := rfl
theorem ar_SE_leastWays : lays[p_SE_leastWays]? = some (.inl (0, 3)) := rfl
theorem ar_MV_waysBefore : lays[p_MV_waysBefore]? = some (.inl (0, 3)) := rfl
theorem ar_MO_nodeRoom : lays[p_MO_nodeRoom]? = some (.inl (0, 6)) := rfl
theorem ar_MO_one : lays[p_MO_one]? = some (.inl (0, 9)) := rfl
theorem ar_MO_other : lays[p_MO_other]? = some (.inl (0, 9)) := rfl
theorem ar_MO_linkRoom : lays[p_MO_linkRoom]? = some (.inl (0, 9)) := rfl
theorem ar_MO_hasFailed : lays[p_MO_hasFailed]? = some (.inl (1, 9)) := rfl
theorem ar_MO_parts : lays[p_MO_parts]? = some (.inl (0, 13)) := rfl
theorem ar_MO_lines : lays[p_MO_lines]? = some (.inl (0, 13)) := rfl
theorem ar_MO_partNeed : lays[p_MO_partNeed]? = some (.inl (0, 39)) := rfl
theorem ar_MO_partSet : lays[p_MO_partSet]? = some (.inl (0, 39)) := rfl
theorem ar_MO_at : lays[p_MO_at]? = some (.inl (0, 39)) := rfl
theorem ar_MO_lineFrom : lays[p_MO_lineFrom]? = some (.inl (0, 39)) := rfl
theorem ar_MO_lineTo : lays[p_MO_lineTo]? = some (.inl (0, 39)) := rfl
theorem ar_MO_lineNeed : lays[p_MO_lineNeed]? = some (.inl (0, 39)) := rfl
theorem ar_MO_amount : lays[p_MO_amount]? = some (.inl (0, 39)) := rfl
theorem ar_MO_way : lays[p_MO_way]? = some (.inl (0, 39)) := rfl
theorem ar_MO_rest : lays[p_MO_rest]? = some (.inl (0, 39)) := rfl
theorem ar_MO_second : lays[p_MO_second]? = some (.inl (0, 39)) := rfl
theorem ar_MO_hasEnded : lays[p_MO_hasEnded]? = some (.inl (1, 13)) := rfl
theorem ar_MO_manner : lays[p_MO_manner]? = some (.inl (0, 13)) := rfl
theorem ar_MO_time : lays[p_MO_time]? = some (.inl (0, 13)) := rfl
theorem ar_MO_left : lays[p_MO_left]? = some (.inl (0, 6)) := rfl
theorem ar_MO_free : lays[p_MO_free]? = some (.inl (0, 9)) := rfl
theorem ar_MO_found : lays[p_MO_found]? = some (.inl (0, 192)) := rfl
theorem ar_MO_many : lays[p_MO_many]? = some (.inl (0, 3)) := rfl
theorem ar_MO_spot : lays[p_MO_spot]? = some (.inl (0, 7)) := rfl
theorem ar_MO_next : lays[p_MO_next]? = some (.inl (0, 7)) := rfl
theorem ar_MO_gone : lays[p_MO_gone]? = some (.inl (0, 7)) := rfl
theorem ar_MO_tries : lays[p_MO_tries]? = some (.inl (0, 3)) := rfl
theorem ar_MO_bestAt : lays[p_MO_bestAt]? = some (.inl (0, 3)) := rfl
theorem ar_MO_bestWay : lays[p_MO_bestWay]? = some (.inl (0, 3)) := rfl
theorem ar_MO_oldWay : lays[p_MO_oldWay]? = some (.inl (0, 3)) := rfl
theorem ar_CS_fitting : lays[p_CS_fitting]? = some (.inl (0, 3)) := rfl
theorem ar_CP_fitting : lays[p_CP_fitting]? = some (.inl (0, 3)) := rfl
theorem ar_OUT : lays[p_OUT]? = some (.inl (2, 1)) := rfl
theorem ar_GR_ways : lays[p_GR_ways]? = some (.inr (.inl (3, [some 60, some 61, some 62, some 63, some 64, some 65, some 66, some 67, some 68, some 69, some 70, some 71, some 72, some 73, some 74, some 75, some 76, some 77, some 78, some 79, some 80, some 81, some 82, some 83, some 84, some 85, some 86, some 87, some 88, some 89, some 90, some 91, some 92, some 93, some 94, some 95]))) := rfl
theorem ar_BK_behind : lays[p_BK_behind]? = some (.inr (.inl (3, [some 96, some 97, some 98, some 99, some 100, some 101, some 102, some 103, some 104]))) := rfl
theorem ar_ML_requests : lays[p_ML_requests]? = some (.inr (.inl (4, [some 105, some 116, some 127, some 138, some 149, some 160, some 171, some 182, some 193, some 204, some 215, some 226, some 237]))) := rfl
def isCho (c : Nat) : Prop := c = p_CS ∨ c = p_CP
theorem ch_CS : isCho p_CS := Or.inl rfl
theorem ch_CP : isCho p_CP := Or.inr rfl
theorem ob_CH {c : Nat} (h : isCho c) : lays[c]? = some (.inr (.inr (1, [some p_GR, some p_BK, some (c + 1)]))) := by
  rcases h with rfl | rfl <;> rfl
theorem ar_CH {c : Nat} (h : isCho c) : lays[c + 1]? = some (.inl (0, 3)) := by
  rcases h with rfl | rfl <;> rfl
theorem ob_RQ_all : ∀ i, i < 13 → lays[p_RQ + 11 * i]? = some (.inr (.inr (5, [some (p_RQ + 11 * i + 1), some (p_RQ + 11 * i + 2), some (p_RQ + 11 * i + 3), some (p_RQ + 11 * i + 4), some (p_RQ + 11 * i + 5), some (p_RQ + 11 * i + 6), some (p_RQ + 11 * i + 7), some (p_RQ + 11 * i + 8), some (p_RQ + 11 * i + 9), some (p_RQ + 11 * i + 10), none, none, none, none, none]))) := by
  intro i hi
  rcases (show i = 0 ∨ i = 1 ∨ i = 2 ∨ i = 3 ∨ i = 4 ∨ i = 5 ∨ i = 6 ∨ i = 7 ∨ i = 8 ∨ i = 9 ∨ i = 10 ∨ i = 11 ∨ i = 12 by omega) with rfl | rfl | rfl | rfl | rfl | rfl | rfl | rfl | rfl | rfl | rfl | rfl | rfl <;> rfl
theorem ob_RQ {p : Nat} (h : isReq p) : lays[p]? = some (.inr (.inr (5, [some (p + 1), some (p + 2), some (p + 3), some (p + 4), some (p + 5), some (p + 6), some (p + 7), some (p + 8), some (p + 9), some (p + 10), none, none, none, none, none]))) := by
  obtain ⟨i, hi, rfl⟩ := h
  exact ob_RQ_all i hi
theorem ar_RQ_all : ∀ i, i < 13 → ∀ k, k < 11 → 0 < k → lays[p_RQ + 11 * i + k]? = some (.inl (0, 3)) := by
  intro i hi k hk h0
  rcases (show i = 0 ∨ i = 1 ∨ i = 2 ∨ i = 3 ∨ i = 4 ∨ i = 5 ∨ i = 6 ∨ i = 7 ∨ i = 8 ∨ i = 9 ∨ i = 10 ∨ i = 11 ∨ i = 12 by omega) with rfl | rfl | rfl | rfl | rfl | rfl | rfl | rfl | rfl | rfl | rfl | rfl | rfl <;> rcases (show k = 1 ∨ k = 2 ∨ k = 3 ∨ k = 4 ∨ k = 5 ∨ k = 6 ∨ k = 7 ∨ k = 8 ∨ k = 9 ∨ k = 10 by omega) with rfl | rfl | rfl | rfl | rfl | rfl | rfl | rfl | rfl | rfl <;> rfl
theorem ar_RQ {p : Nat} (h : isReq p) (k : Nat) (h0 : 0 < k) (hk : k < 11) : lays[p + k]? = some (.inl (0, 3)) := by
  obtain ⟨i, hi, rfl⟩ := h
  exact ar_RQ_all i hi k hk h0
theorem vp_lt {i : Int32} {n : Nat} (h : vp_in i n) : i.toNatClampNeg < n := Nat.not_le.mp fun q => h (Or.inr q)
theorem vp_req {i : Int32} (h : vp_in i 13) : isReq (p_RQ + 11 * i.toNatClampNeg) := ⟨_, vp_lt h, rfl⟩
theorem ar_WY_all : ∀ j, j < 36 → lays[p_WY + j]? = some (.inl (0, 15)) := by
  intro j hj
  rcases (show j = 0 ∨ j = 1 ∨ j = 2 ∨ j = 3 ∨ j = 4 ∨ j = 5 ∨ j = 6 ∨ j = 7 ∨ j = 8 ∨ j = 9 ∨ j = 10 ∨ j = 11 ∨ j = 12 ∨ j = 13 ∨ j = 14 ∨ j = 15 ∨ j = 16 ∨ j = 17 ∨ j = 18 ∨ j = 19 ∨ j = 20 ∨ j = 21 ∨ j = 22 ∨ j = 23 ∨ j = 24 ∨ j = 25 ∨ j = 26 ∨ j = 27 ∨ j = 28 ∨ j = 29 ∨ j = 30 ∨ j = 31 ∨ j = 32 ∨ j = 33 ∨ j = 34 ∨ j = 35 by omega) with rfl | rfl | rfl | rfl | rfl | rfl | rfl | rfl | rfl | rfl | rfl | rfl | rfl | rfl | rfl | rfl | rfl | rfl | rfl | rfl | rfl | rfl | rfl | rfl | rfl | rfl | rfl | rfl | rfl | rfl | rfl | rfl | rfl | rfl | rfl | rfl <;> rfl
theorem ar_WY {i : Int32} (h : vp_in i 36) : lays[p_WY + i.toNatClampNeg]? = some (.inl (0, 15)) := ar_WY_all _ (vp_lt h)
theorem ar_BH_all : ∀ j, j < 9 → lays[p_BH + j]? = some (.inl (0, 9)) := by
  intro j hj
  rcases (show j = 0 ∨ j = 1 ∨ j = 2 ∨ j = 3 ∨ j = 4 ∨ j = 5 ∨ j = 6 ∨ j = 7 ∨ j = 8 by omega) with rfl | rfl | rfl | rfl | rfl | rfl | rfl | rfl | rfl <;> rfl
theorem ar_BH {i : Int32} (h : vp_in i 9) : lays[p_BH + i.toNatClampNeg]? = some (.inl (0, 9)) := ar_BH_all _ (vp_lt h)
section K2
variable {g : GE} {f : FE} {cc : ByteArray} {nL : Nat} {own : String} {fr lo kc ks pc : Nat} {ls : List (Option Value)} {st : List Value} {μ : Mm}
theorem rt_GR_ways : ∀ j, j < 36 → ([some 60, some 61, some 62, some 63, some 64, some 65, some 66, some 67, some 68, some 69, some 70, some 71, some 72, some 73, some 74, some 75, some 76, some 77, some 78, some 79, some 80, some 81, some 82, some 83, some 84, some 85, some 86, some 87, some 88, some 89, some 90, some 91, some 92, some 93, some 94, some 95] : List (Option Nat))[j]? = some (some (p_WY + j)) := by decide +kernel
theorem k_aald_GR_ways {i : Int32} (cx : Cx g f cc nL own fr lo kc ks) (hi : vp_in i 36) (d : decode cc pc = .ok (.aaload, 1)) (kk : KW g f nL kc ks (pc + 1) ls (.ref (p_WY + i.toNatClampNeg) :: st) μ) : KW g f nL kc ks pc ls (.int i :: .ref p_GR_ways :: st) μ :=
  k_aald (ty := .array .int) cx ar_GR_ways rfl rfl hi (rt_GR_ways _ (vp_lt hi)) d kk
theorem rt_BK_behind : ∀ j, j < 9 → ([some 96, some 97, some 98, some 99, some 100, some 101, some 102, some 103, some 104] : List (Option Nat))[j]? = some (some (p_BH + j)) := by decide +kernel
theorem k_aald_BK_behind {i : Int32} (cx : Cx g f cc nL own fr lo kc ks) (hi : vp_in i 9) (d : decode cc pc = .ok (.aaload, 1)) (kk : KW g f nL kc ks (pc + 1) ls (.ref (p_BH + i.toNatClampNeg) :: st) μ) : KW g f nL kc ks pc ls (.int i :: .ref p_BK_behind :: st) μ :=
  k_aald (ty := .array .int) cx ar_BK_behind rfl rfl hi (rt_BK_behind _ (vp_lt hi)) d kk
theorem rt_ML_requests : ∀ j, j < 13 → ([some 105, some 116, some 127, some 138, some 149, some 160, some 171, some 182, some 193, some 204, some 215, some 226, some 237] : List (Option Nat))[j]? = some (some (p_RQ + 11 * j)) := by decide +kernel
theorem k_aald_ML_requests {i : Int32} (cx : Cx g f cc nL own fr lo kc ks) (hi : vp_in i 13) (d : decode cc pc = .ok (.aaload, 1)) (kk : KW g f nL kc ks (pc + 1) ls (.ref (p_RQ + 11 * i.toNatClampNeg) :: st) μ) : KW g f nL kc ks pc ls (.int i :: .ref p_ML_requests :: st) μ :=
  k_aald (ty := .object "MeshLodger$Request") cx ar_ML_requests rfl rfl hi (rt_ML_requests _ (vp_lt hi)) d kk
def imax (x y : Int32) : Int32 := if x < y then y else x
theorem k_mmax {index : Nat} {x y : Int32} (cx : Cx g f cc nL own fr lo kc ks) (hw : Cond.methodLink own index Lib.Math.max.name ∈ Om) (h8 : (st.map fun v => v.category).sum ≤ 8) (hf : 1 ≤ fr) (hlo : 21 ≤ lo) (d : decode cc pc = .ok (.invokestatic index, 3)) (kk : KW g f nL kc ks (pc + 3) ls (.int (imax x y) :: st) μ) : KW g f nL kc ks pc ls (.int y :: .int x :: st) μ :=
  fun H locs la hP hS hz => va_mmax cx.1.1 cx.1.2.1 (by rw [cx.1.2.2.1]; exact hz.1.symm) cx.1.2.2.2.1 (cx.1.2.2.2.2 _ hw) (cx.1.2.2.2.2 _ mm_s) (cx.1.2.2.2.2 _ mm_i) (cx.1.2.2.2.2 _ mm_c) (Nat.le_trans hf cx.2.2.2.2.2.1) (Nat.le_trans (by rw [sum_cat]; omega) cx.2.2.2.2.2.2.1) cx.2.2.2.2.2.2.2.1 cx.2.2.2.2.2.2.2.2 d (kk H locs la hP hS hz)
theorem k_dup2 {v w : Value} (cx : Cx g f cc nL own fr lo kc ks) (d : decode cc pc = .ok (.dup2, 1)) (hv : v.category = 1) (hw : w.category = 1) (kk : KW g f nL kc ks (pc + 1) ls (v :: w :: v :: w :: st) μ) : KW g f nL kc ks pc ls (v :: w :: st) μ :=
  fun H locs la hP hS hz => lv_dup2_11 cx.1.1 cx.1.2.1 d (by rw [ren_cat]; exact hv) (by rw [ren_cat]; exact hw) (kk H locs la hP hS hz)
theorem k_ldc_w {index : Nat} {v : Int32} (cx : Cx g f cc nL own fr lo kc ks) (hw : Cond.constant own index v ∈ Om) (d : decode cc pc = .ok (.ldc_w index, 3)) (kk : KW g f nL kc ks (pc + 3) ls (.int v :: st) μ) : KW g f nL kc ks pc ls st μ :=
  fun H locs la hP hS hz => lv_ldcw cx.1.1 cx.1.2.1 cx.1.2.2.2.1 (cx.1.2.2.2.2 _ hw) d (kk H locs la hP hS hz)
theorem k_ldc {index : Nat} {v : Int32} (cx : Cx g f cc nL own fr lo kc ks) (hw : Cond.constant own index v ∈ Om) (d : decode cc pc = .ok (.ldc index, 2)) (kk : KW g f nL kc ks (pc + 2) ls (.int v :: st) μ) : KW g f nL kc ks pc ls st μ :=
  fun H locs la hP hS hz => lv_ldc cx.1.1 cx.1.2.1 cx.1.2.2.2.1 (cx.1.2.2.2.2 _ hw) d (kk H locs la hP hS hz)
theorem k_ret_R {q : Nat → Mm → Prop} {p : Nat} {rt : FieldType} (cx : Cx g f cc nL own fr lo 0 0) (hr : (f_M f).sig.returnType = some rt) (hl : (f_M f).locks = false) (hQ : f_Q f = MQ (f_b f) (QW g (qR q)) (f_a f) (f_s f) 0 0 (fun q => g.2.2.2 ≤ q)) (d : decode cc pc = .ok (.areturn, 1)) (hp : isReq p) (hq : q p μ) (hn : ∃ n, rt = .object n := by exact ⟨_, rfl⟩) : KW g f nL 0 0 pc ls [.ref p] μ := by
  intro H locs la hP hS hz
  rw [hQ]
  exact W.aret (hlocks := hl) cx.1.1 cx.1.2.1 hr (Or.inl hn) (Or.inr ⟨_, rfl⟩) (fun t ht hW => ⟨⟨some (.ref p), μ, rfl, ⟨p, rfl, hp, hq⟩, by rw [ht]; exact hP⟩, hS.F ht⟩) hS.2.2 d
end K2
theorem i32_cases (n : Nat) (hn : n < 2 ^ 30) {x : Int32} (h : ¬ (x.toInt < 0 ∨ (n : Int) < x.toInt)) : ∃ j : Nat, j ≤ n ∧ x = nI j := by
  have h0 : ¬ x < 0 := by
    intro q
    rw [Int32.lt_iff_toInt_lt, Int32.toInt_zero] at q
    omega
  obtain ⟨j, hj, rfl⟩ := nI_of h0
  rw [nI_toInt hj] at h
  exact ⟨j, by omega, rfl⟩
theorem sw_2 {x : Int32} (h : ¬ (x.toInt < 0 ∨ 2 < x.toInt)) : x = 0 ∨ x = 1 ∨ x = 2 := by
  obtain ⟨j, hj, rfl⟩ := i32_cases 2 (by decide) h
  have : j = 0 ∨ j = 1 ∨ j = 2 := by omega
  rcases this with rfl | rfl | rfl <;> simp [nI]
theorem sw_6 {x : Int32} (h : ¬ (x.toInt < 0 ∨ 6 < x.toInt)) : x = 0 ∨ x = 1 ∨ x = 2 ∨ x = 3 ∨ x = 4 ∨ x = 5 ∨ x = 6 := by
  obtain ⟨j, hj, rfl⟩ := i32_cases 6 (by decide) h
  have : j = 0 ∨ j = 1 ∨ j = 2 ∨ j = 3 ∨ j = 4 ∨ j = 5 ∨ j = 6 := by omega
  rcases this with rfl | rfl | rfl | rfl | rfl | rfl | rfl <;> simp [nI]
