theorem fn_GR_ways : ((fun i => if i < 36 then some (7 + i) else none) : Nat → Option Nat) = (fun j => (([some 60, some 61, some 62, some 63, some 64, some 65, some 66, some 67, some 68, some 69, some 70, some 71, some 72, some 73, some 74, some 75, some 76, some 77, some 78, some 79, some 80, some 81, some 82, some 83, some 84, some 85, some 86, some 87, some 88, some 89, some 90, some 91, some 92, some 93, some 94, some 95] : List (Option Nat)).getD j none).map pm) := by
  funext j
  by_cases hj : j < 36
  · rcases (show j = 0 ∨ j = 1 ∨ j = 2 ∨ j = 3 ∨ j = 4 ∨ j = 5 ∨ j = 6 ∨ j = 7 ∨ j = 8 ∨ j = 9 ∨ j = 10 ∨ j = 11 ∨ j = 12 ∨ j = 13 ∨ j = 14 ∨ j = 15 ∨ j = 16 ∨ j = 17 ∨ j = 18 ∨ j = 19 ∨ j = 20 ∨ j = 21 ∨ j = 22 ∨ j = 23 ∨ j = 24 ∨ j = 25 ∨ j = 26 ∨ j = 27 ∨ j = 28 ∨ j = 29 ∨ j = 30 ∨ j = 31 ∨ j = 32 ∨ j = 33 ∨ j = 34 ∨ j = 35 by omega) with rfl | rfl | rfl | rfl | rfl | rfl | rfl | rfl | rfl | rfl | rfl | rfl | rfl | rfl | rfl | rfl | rfl | rfl | rfl | rfl | rfl | rfl | rfl | rfl | rfl | rfl | rfl | rfl | rfl | rfl | rfl | rfl | rfl | rfl | rfl | rfl <;> rfl
  · rw [List.getD_eq_getElem?_getD, List.getElem?_eq_none (by simp; omega)]
    simp [rq_f, hj]
theorem fn_BK_behind : ((fun i => if i < 9 then some (50 + i) else none) : Nat → Option Nat) = (fun j => (([some 96, some 97, some 98, some 99, some 100, some 101, some 102, some 103, some 104] : List (Option Nat)).getD j none).map pm) := by
  funext j
  by_cases hj : j < 9
  · rcases (show j = 0 ∨ j = 1 ∨ j = 2 ∨ j = 3 ∨ j = 4 ∨ j = 5 ∨ j = 6 ∨ j = 7 ∨ j = 8 by omega) with rfl | rfl | rfl | rfl | rfl | rfl | rfl | rfl | rfl <;> rfl
  · rw [List.getD_eq_getElem?_getD, List.getElem?_eq_none (by simp; omega)]
    simp [rq_f, hj]
theorem fn_ML_requests : ((rq_f (fun i => 1 + (71 + 11 * i)) 13) : Nat → Option Nat) = (fun j => (([some 105, some 116, some 127, some 138, some 149, some 160, some 171, some 182, some 193, some 204, some 215, some 226, some 237] : List (Option Nat)).getD j none).map pm) := by
  funext j
  by_cases hj : j < 13
  · rcases (show j = 0 ∨ j = 1 ∨ j = 2 ∨ j = 3 ∨ j = 4 ∨ j = 5 ∨ j = 6 ∨ j = 7 ∨ j = 8 ∨ j = 9 ∨ j = 10 ∨ j = 11 ∨ j = 12 by omega) with rfl | rfl | rfl | rfl | rfl | rfl | rfl | rfl | rfl | rfl | rfl | rfl | rfl <;> rfl
  · rw [List.getD_eq_getElem?_getD, List.getElem?_eq_none (by simp; omega)]
    simp [rq_f, hj]
set_option maxRecDepth 100000 in
set_option maxHeartbeats 400000 in
theorem PL_lays : PL = lays0.map (fun c => enA c.2) := by
  unfold PL
  rw [fn_GR_ways, fn_BK_behind, fn_ML_requests]
  rfl
