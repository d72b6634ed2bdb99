/-! what a call of the class does -/
theorem cInv.ofM {S : St} {μ μ2 : Mm} (h : cInv S μ) (hm : Sm mCell μ μ2) : cInv S μ2 := h.fr (fun c hc => hm c (by unfold cCell at hc; unfold mCell; omega))
def Fr (μ μ2 : Mm) : Prop := ∀ c, mCell c → μ2 c = μ c
theorem Fr.rf {μ : Mm} : Fr μ μ := fun _ _ => rfl
theorem Fr.tr {a b c : Mm} (h1 : Fr a b) (h2 : Fr b c) : Fr a c := fun x hx => (h2 x hx).trans (h1 x hx)
def aOk (o : Ans) (μ : Mm) (q : Int32 → Mm → Prop) (qx : Nat → Mm → Prop) : Prop := ∀ μ2, cInv o.2.2 μ2 → Fr μ μ2 → (o.1 = 0 → q o.2.1 μ2) ∧ (o.1 ≠ 0 → qx o.1 μ2)
def QA (o : Ans) (μ : Mm) : Int32 → Mm → Prop := fun c μ2 => cInv o.2.2 μ2 ∧ Fr μ μ2 ∧ c = nI o.1 ∧ (o.1 = 0 → μ2 p_OUT 0 = o.2.1)
theorem QA.of (o : Ans) (μ : Mm) : tE o μ (QA o μ) := fun _ a b c => ⟨a, b, rfl, c⟩
theorem QA.ret {o : Ans} {z : Int32} {μ μ2 : Mm} (h : QA o μ 0 (up2 μ2 p_OUT 0 z)) (ho : o.1 ≤ 3) : o.1 = 0 ∧ z = o.2.1 ∧ cInv o.2.2 μ2 ∧ Fr μ μ2 := by
  obtain ⟨h1, h2, h3, h4⟩ := h
  have h5 : o.1 = 0 := (nI_eq0 (by omega)).1 h3.symm
  have h6 := h4 h5
  rw [u_eq, d_eq] at h6
  refine ⟨h5, h6, h1.fr (fun c hc => ?_), fun c hc => ?_⟩
  · exact (u_ne (show c ≠ p_OUT by unfold cCell at hc; show c ≠ 56; omega)).symm
  · rw [← h2 c hc]
    exact (u_ne (show c ≠ p_OUT by unfold mCell at hc; show c ≠ 56; omega)).symm
theorem QA.thr {o : Ans} {k : Nat} {μ μ2 : Mm} (h : QA o μ (nI k) μ2) (hk : k ≤ 3) (ho : o.1 ≤ 3) : o.1 = k ∧ cInv o.2.2 μ2 ∧ Fr μ μ2 := by
  obtain ⟨h1, h2, h3, h4⟩ := h
  exact ⟨((nI_eq (by omega) (by omega)).1 h3).symm, h1, h2⟩
theorem ob_node (S : St) (x : Int32) : (o_node S x).1 ≤ 3 := by
  unfold o_node
  split
  · split <;> exact Nat.le_of_ble_eq_true rfl
  · exact Nat.le_of_ble_eq_true rfl
theorem ob_link (S : St) (x y z : Int32) : (o_link S x y z).1 ≤ 3 := by
  unfold o_link
  split
  · split
    · exact Nat.le_of_ble_eq_true rfl
    · split <;> exact Nat.le_of_ble_eq_true rfl
  · exact Nat.le_of_ble_eq_true rfl
theorem ob_fail (S : St) (x : Int32) (b : Bool) : (o_fail S x b).1 ≤ 3 := by
  unfold o_fail
  split <;> exact Nat.le_of_ble_eq_true rfl
theorem ob_part (S : St) (x y : Int32) : (o_part S x y).1 ≤ 3 := by
  unfold o_part
  split
  · split <;> exact Nat.le_of_ble_eq_true rfl
  · exact Nat.le_of_ble_eq_true rfl
theorem ob_line (S : St) (x y z : Int32) : (o_line S x y z).1 ≤ 3 := by
  unfold o_line
  split
  · split
    · exact Nat.le_of_ble_eq_true rfl
    · split <;> exact Nat.le_of_ble_eq_true rfl
  · exact Nat.le_of_ble_eq_true rfl
theorem ob_place (S : St) (x y : Int32) : (o_place S x y).1 ≤ 3 := by
  unfold o_place
  split
  · split
    · exact Nat.le_of_ble_eq_true rfl
    · split <;> exact Nat.le_of_ble_eq_true rfl
  · exact Nat.le_of_ble_eq_true rfl
theorem ob_end (S : St) (x : Int32) : (o_end S x).1 ≤ 3 := by
  unfold o_end
  split
  · split <;> exact Nat.le_of_ble_eq_true rfl
  · exact Nat.le_of_ble_eq_true rfl
theorem ob_move (S : St) (x y z : Int32) : (o_move S x y z).1 ≤ 3 := by
  unfold o_move
  split
  · split
    · exact Nat.le_of_ble_eq_true rfl
    · split
      · exact Nat.le_of_ble_eq_true rfl
      · split <;> exact Nat.le_of_ble_eq_true rfl
  · exact Nat.le_of_ble_eq_true rfl
theorem ob_pass (S : St) (x : Int32) : (o_pass S x).1 ≤ 3 := by
  unfold o_pass
  split <;> exact Nat.le_of_ble_eq_true rfl
theorem ob_ofNode (S : St) (x y : Int32) : (o_ofNode S x y).1 ≤ 3 ∧ (o_ofNode S x y).2.2 = S := by
  unfold o_ofNode
  split
  · split <;> exact ⟨Nat.le_of_ble_eq_true rfl, rfl⟩
  · exact ⟨Nat.le_of_ble_eq_true rfl, rfl⟩
theorem ob_ofLink (S : St) (x y : Int32) : (o_ofLink S x y).1 ≤ 3 ∧ (o_ofLink S x y).2.2 = S := by
  unfold o_ofLink
  split
  · split <;> exact ⟨Nat.le_of_ble_eq_true rfl, rfl⟩
  · exact ⟨Nat.le_of_ble_eq_true rfl, rfl⟩
theorem ob_load (S : St) (x y : Int32) : (o_load S x y).1 ≤ 3 ∧ (o_load S x y).2.2 = S := by
  unfold o_load
  split
  · split <;> exact ⟨Nat.le_of_ble_eq_true rfl, rfl⟩
  · exact ⟨Nat.le_of_ble_eq_true rfl, rfl⟩
theorem ob_told (S : St) (x y : Int32) : (o_told S x y).1 ≤ 3 ∧ (o_told S x y).2.2 = S := by
  unfold o_told
  split
  · split <;> exact ⟨Nat.le_of_ble_eq_true rfl, rfl⟩
  · exact ⟨Nat.le_of_ble_eq_true rfl, rfl⟩
theorem ob_at (S : St) (x y : Int32) : (o_at S x y).1 ≤ 3 ∧ (o_at S x y).2.2 = S := by
  unfold o_at
  split
  · split <;> exact ⟨Nat.le_of_ble_eq_true rfl, rfl⟩
  · exact ⟨Nat.le_of_ble_eq_true rfl, rfl⟩
theorem ob_way (S : St) (x y z : Int32) : (o_way S x y z).1 ≤ 3 ∧ (o_way S x y z).2.2 = S := by
  unfold o_way
  split
  · split
    · split <;> exact ⟨Nat.le_of_ble_eq_true rfl, rfl⟩
    · exact ⟨Nat.le_of_ble_eq_true rfl, rfl⟩
  · exact ⟨Nat.le_of_ble_eq_true rfl, rfl⟩

theorem T_node {S : St} {x1 : Int32} {μ : Mm} {q : Int32 → Mm → Prop} {qx : String → Mm → Prop} (hG : Good S) (hI : cInv S μ) (h : aOk (o_node S x1) μ q (fun k μ2 => (k = 1 → qx "java/lang/IllegalArgumentException" μ2) ∧ (k = 2 → qx "java/lang/IllegalStateException" μ2))) : T_X7_node x1 μ q qx := by
  have h0 := tt_node hG hI (QA.of (o_node S x1) μ)
  unfold Wp_L_node at h0
  refine ⟨_, _, h0, fun z μ2 hq => ?_, fun E μ2 hx => ?_⟩
  · obtain ⟨a, b, c, d⟩ := QA.ret hq (ob_node S x1)
    rw [b]
    exact (h μ2 c d).1 a
  · rcases hx with ⟨rfl, hx⟩ | ⟨rfl, hx⟩
    · obtain ⟨a, c, d⟩ := QA.thr (k := 1) hx (by decide) (ob_node S x1)
      exact ((h μ2 c d).2 (by omega)).1 a
    · obtain ⟨a, c, d⟩ := QA.thr (k := 2) hx (by decide) (ob_node S x1)
      exact ((h μ2 c d).2 (by omega)).2 a
theorem T_link {S : St} {x1 : Int32} {x2 : Int32} {x3 : Int32} {μ : Mm} {q : Int32 → Mm → Prop} {qx : String → Mm → Prop} (hG : Good S) (hI : cInv S μ) (h : aOk (o_link S x1 x2 x3) μ q (fun k μ2 => (k = 1 → qx "java/lang/IndexOutOfBoundsException" μ2) ∧ (k = 2 → qx "java/lang/IllegalArgumentException" μ2) ∧ (k = 3 → qx "java/lang/IllegalStateException" μ2))) : T_X7_link x1 x2 x3 μ q qx := by
  have h0 := tt_link hG hI (QA.of (o_link S x1 x2 x3) μ)
  unfold Wp_L_link at h0
  refine ⟨_, _, h0, fun z μ2 hq => ?_, fun E μ2 hx => ?_⟩
  · obtain ⟨a, b, c, d⟩ := QA.ret hq (ob_link S x1 x2 x3)
    rw [b]
    exact (h μ2 c d).1 a
  · rcases hx with ⟨rfl, hx⟩ | ⟨rfl, hx⟩ | ⟨rfl, hx⟩
    · obtain ⟨a, c, d⟩ := QA.thr (k := 1) hx (by decide) (ob_link S x1 x2 x3)
      exact ((h μ2 c d).2 (by omega)).1 a
    · obtain ⟨a, c, d⟩ := QA.thr (k := 2) hx (by decide) (ob_link S x1 x2 x3)
      exact ((h μ2 c d).2 (by omega)).2.1 a
    · obtain ⟨a, c, d⟩ := QA.thr (k := 3) hx (by decide) (ob_link S x1 x2 x3)
      exact ((h μ2 c d).2 (by omega)).2.2 a
theorem T_fail {S : St} {x1 : Int32} {b : Bool} {μ : Mm} {q : Int32 → Mm → Prop} {qx : String → Mm → Prop} (hG : Good S) (hI : cInv S μ) (h : aOk (o_fail S x1 b) μ q (fun k μ2 => (k = 1 → qx "java/lang/IndexOutOfBoundsException" μ2))) : T_X7_fail x1 (bI b) μ q qx := by
  have h0 := tt_fail hG hI (QA.of (o_fail S x1 b) μ)
  unfold Wp_L_fail at h0
  refine ⟨_, _, h0, fun z μ2 hq => ?_, fun E μ2 hx => ?_⟩
  · obtain ⟨a, b, c, d⟩ := QA.ret hq (ob_fail S x1 b)
    rw [b]
    exact (h μ2 c d).1 a
  · obtain ⟨rfl, hx⟩ := hx
    obtain ⟨a, c, d⟩ := QA.thr (k := 1) hx (by decide) (ob_fail S x1 b)
    exact ((h μ2 c d).2 (by omega)) a
theorem T_part {S : St} {x1 : Int32} {x2 : Int32} {μ : Mm} {q : Int32 → Mm → Prop} {qx : String → Mm → Prop} (hG : Good S) (hI : cInv S μ) (h : aOk (o_part S x1 x2) μ q (fun k μ2 => (k = 1 → qx "java/lang/IllegalArgumentException" μ2) ∧ (k = 2 → qx "java/lang/IllegalStateException" μ2))) : T_X7_part x1 x2 μ q qx := by
  have h0 := tt_part hG hI (QA.of (o_part S x1 x2) μ)
  unfold Wp_L_part at h0
  refine ⟨_, _, h0, fun z μ2 hq => ?_, fun E μ2 hx => ?_⟩
  · obtain ⟨a, b, c, d⟩ := QA.ret hq (ob_part S x1 x2)
    rw [b]
    exact (h μ2 c d).1 a
  · rcases hx with ⟨rfl, hx⟩ | ⟨rfl, hx⟩
    · obtain ⟨a, c, d⟩ := QA.thr (k := 1) hx (by decide) (ob_part S x1 x2)
      exact ((h μ2 c d).2 (by omega)).1 a
    · obtain ⟨a, c, d⟩ := QA.thr (k := 2) hx (by decide) (ob_part S x1 x2)
      exact ((h μ2 c d).2 (by omega)).2 a
theorem T_line {S : St} {x1 : Int32} {x2 : Int32} {x3 : Int32} {μ : Mm} {q : Int32 → Mm → Prop} {qx : String → Mm → Prop} (hG : Good S) (hI : cInv S μ) (h : aOk (o_line S x1 x2 x3) μ q (fun k μ2 => (k = 1 → qx "java/lang/IndexOutOfBoundsException" μ2) ∧ (k = 2 → qx "java/lang/IllegalArgumentException" μ2) ∧ (k = 3 → qx "java/lang/IllegalStateException" μ2))) : T_X7_line x1 x2 x3 μ q qx := by
  have h0 := tt_line hG hI (QA.of (o_line S x1 x2 x3) μ)
  unfold Wp_L_line at h0
  refine ⟨_, _, h0, fun z μ2 hq => ?_, fun E μ2 hx => ?_⟩
  · obtain ⟨a, b, c, d⟩ := QA.ret hq (ob_line S x1 x2 x3)
    rw [b]
    exact (h μ2 c d).1 a
  · rcases hx with ⟨rfl, hx⟩ | ⟨rfl, hx⟩ | ⟨rfl, hx⟩
    · obtain ⟨a, c, d⟩ := QA.thr (k := 1) hx (by decide) (ob_line S x1 x2 x3)
      exact ((h μ2 c d).2 (by omega)).1 a
    · obtain ⟨a, c, d⟩ := QA.thr (k := 2) hx (by decide) (ob_line S x1 x2 x3)
      exact ((h μ2 c d).2 (by omega)).2.1 a
    · obtain ⟨a, c, d⟩ := QA.thr (k := 3) hx (by decide) (ob_line S x1 x2 x3)
      exact ((h μ2 c d).2 (by omega)).2.2 a
theorem T_place {S : St} {x1 : Int32} {x2 : Int32} {μ : Mm} {q : Int32 → Mm → Prop} {qx : String → Mm → Prop} (hG : Good S) (hI : cInv S μ) (h : aOk (o_place S x1 x2) μ q (fun k μ2 => (k = 1 → qx "java/lang/IllegalArgumentException" μ2) ∧ (k = 2 → qx "java/lang/IllegalStateException" μ2))) : T_X7_place x1 x2 μ q qx := by
  have h0 := tt_place hG hI (QA.of (o_place S x1 x2) μ)
  unfold Wp_L_place at h0
  refine ⟨_, _, h0, fun z μ2 hq => ?_, fun E μ2 hx => ?_⟩
  · obtain ⟨a, b, c, d⟩ := QA.ret hq (ob_place S x1 x2)
    rw [b]
    exact (h μ2 c d).1 a
  · rcases hx with ⟨rfl, hx⟩ | ⟨rfl, hx⟩
    · obtain ⟨a, c, d⟩ := QA.thr (k := 1) hx (by decide) (ob_place S x1 x2)
      exact ((h μ2 c d).2 (by omega)).1 a
    · obtain ⟨a, c, d⟩ := QA.thr (k := 2) hx (by decide) (ob_place S x1 x2)
      exact ((h μ2 c d).2 (by omega)).2 a
theorem T_move {S : St} {x1 : Int32} {x2 : Int32} {x3 : Int32} {μ : Mm} {q : Int32 → Mm → Prop} {qx : String → Mm → Prop} (hG : Good S) (hI : cInv S μ) (h : aOk (o_move S x1 x2 x3) μ q (fun k μ2 => (k = 1 → qx "java/lang/IndexOutOfBoundsException" μ2) ∧ (k = 2 → qx "java/lang/IllegalArgumentException" μ2) ∧ (k = 3 → qx "java/lang/IllegalStateException" μ2))) : T_X7_move x1 x2 x3 μ q qx := by
  have h0 := tt_move hG hI (QA.of (o_move S x1 x2 x3) μ)
  unfold Wp_L_move at h0
  refine ⟨_, _, h0, fun z μ2 hq => ?_, fun E μ2 hx => ?_⟩
  · obtain ⟨a, b, c, d⟩ := QA.ret hq (ob_move S x1 x2 x3)
    rw [b]
    exact (h μ2 c d).1 a
  · rcases hx with ⟨rfl, hx⟩ | ⟨rfl, hx⟩ | ⟨rfl, hx⟩
    · obtain ⟨a, c, d⟩ := QA.thr (k := 1) hx (by decide) (ob_move S x1 x2 x3)
      exact ((h μ2 c d).2 (by omega)).1 a
    · obtain ⟨a, c, d⟩ := QA.thr (k := 2) hx (by decide) (ob_move S x1 x2 x3)
      exact ((h μ2 c d).2 (by omega)).2.1 a
    · obtain ⟨a, c, d⟩ := QA.thr (k := 3) hx (by decide) (ob_move S x1 x2 x3)
      exact ((h μ2 c d).2 (by omega)).2.2 a
theorem T_pass {S : St} {x1 : Int32} {μ : Mm} {q : Int32 → Mm → Prop} {qx : String → Mm → Prop} (hG : Good S) (hI : cInv S μ) (h : aOk (o_pass S x1) μ q (fun k μ2 => (k = 1 → qx "java/lang/IllegalArgumentException" μ2))) : T_X7_pass x1 μ q qx := by
  have h0 := tt_pass hG hI (QA.of (o_pass S x1) μ)
  unfold Wp_L_pass at h0
  refine ⟨_, _, h0, fun z μ2 hq => ?_, fun E μ2 hx => ?_⟩
  · obtain ⟨a, b, c, d⟩ := QA.ret hq (ob_pass S x1)
    rw [b]
    exact (h μ2 c d).1 a
  · obtain ⟨rfl, hx⟩ := hx
    obtain ⟨a, c, d⟩ := QA.thr (k := 1) hx (by decide) (ob_pass S x1)
    exact ((h μ2 c d).2 (by omega)) a
theorem T_ofNode {S : St} {x1 : Int32} {x2 : Int32} {μ : Mm} {q : Int32 → Mm → Prop} {qx : String → Mm → Prop} (hG : Good S) (hI : cInv S μ) (h : aOk (o_ofNode S x1 x2) μ q (fun k μ2 => (k = 1 → qx "java/lang/IndexOutOfBoundsException" μ2) ∧ (k = 2 → qx "java/lang/IllegalArgumentException" μ2))) : T_X7_ofNode x1 x2 μ q qx := by
  have h0 := tt_ofNode hG hI (QA.of (o_ofNode S x1 x2) μ)
  unfold Wp_L_ofNode at h0
  refine ⟨_, _, h0, fun z μ2 hq => ?_, fun E μ2 hx => ?_⟩
  · obtain ⟨a, b, c, d⟩ := QA.ret hq (ob_ofNode S x1 x2).1
    rw [b]
    exact (h μ2 c d).1 a
  · rcases hx with ⟨rfl, hx⟩ | ⟨rfl, hx⟩
    · obtain ⟨a, c, d⟩ := QA.thr (k := 1) hx (by decide) (ob_ofNode S x1 x2).1
      exact ((h μ2 c d).2 (by omega)).1 a
    · obtain ⟨a, c, d⟩ := QA.thr (k := 2) hx (by decide) (ob_ofNode S x1 x2).1
      exact ((h μ2 c d).2 (by omega)).2 a
theorem T_ofLink {S : St} {x1 : Int32} {x2 : Int32} {μ : Mm} {q : Int32 → Mm → Prop} {qx : String → Mm → Prop} (hG : Good S) (hI : cInv S μ) (h : aOk (o_ofLink S x1 x2) μ q (fun k μ2 => (k = 1 → qx "java/lang/IndexOutOfBoundsException" μ2) ∧ (k = 2 → qx "java/lang/IllegalArgumentException" μ2))) : T_X7_ofLink x1 x2 μ q qx := by
  have h0 := tt_ofLink hG hI (QA.of (o_ofLink S x1 x2) μ)
  unfold Wp_L_ofLink at h0
  refine ⟨_, _, h0, fun z μ2 hq => ?_, fun E μ2 hx => ?_⟩
  · obtain ⟨a, b, c, d⟩ := QA.ret hq (ob_ofLink S x1 x2).1
    rw [b]
    exact (h μ2 c d).1 a
  · rcases hx with ⟨rfl, hx⟩ | ⟨rfl, hx⟩
    · obtain ⟨a, c, d⟩ := QA.thr (k := 1) hx (by decide) (ob_ofLink S x1 x2).1
      exact ((h μ2 c d).2 (by omega)).1 a
    · obtain ⟨a, c, d⟩ := QA.thr (k := 2) hx (by decide) (ob_ofLink S x1 x2).1
      exact ((h μ2 c d).2 (by omega)).2 a
theorem T_load {S : St} {x1 : Int32} {x2 : Int32} {μ : Mm} {q : Int32 → Mm → Prop} {qx : String → Mm → Prop} (hG : Good S) (hI : cInv S μ) (h : aOk (o_load S x1 x2) μ q (fun k μ2 => (k = 1 → qx "java/lang/IndexOutOfBoundsException" μ2) ∧ (k = 2 → qx "java/lang/IllegalArgumentException" μ2))) : T_X7_load x1 x2 μ q qx := by
  have h0 := tt_load hG hI (QA.of (o_load S x1 x2) μ)
  unfold Wp_L_load at h0
  refine ⟨_, _, h0, fun z μ2 hq => ?_, fun E μ2 hx => ?_⟩
  · obtain ⟨a, b, c, d⟩ := QA.ret hq (ob_load S x1 x2).1
    rw [b]
    exact (h μ2 c d).1 a
  · rcases hx with ⟨rfl, hx⟩ | ⟨rfl, hx⟩
    · obtain ⟨a, c, d⟩ := QA.thr (k := 1) hx (by decide) (ob_load S x1 x2).1
      exact ((h μ2 c d).2 (by omega)).1 a
    · obtain ⟨a, c, d⟩ := QA.thr (k := 2) hx (by decide) (ob_load S x1 x2).1
      exact ((h μ2 c d).2 (by omega)).2 a
theorem T_told {S : St} {x1 : Int32} {x2 : Int32} {μ : Mm} {q : Int32 → Mm → Prop} {qx : String → Mm → Prop} (hG : Good S) (hI : cInv S μ) (h : aOk (o_told S x1 x2) μ q (fun k μ2 => (k = 1 → qx "java/lang/IndexOutOfBoundsException" μ2) ∧ (k = 2 → qx "java/lang/IllegalArgumentException" μ2))) : T_X7_told x1 x2 μ q qx := by
  have h0 := tt_told hG hI (QA.of (o_told S x1 x2) μ)
  unfold Wp_L_told at h0
  refine ⟨_, _, h0, fun z μ2 hq => ?_, fun E μ2 hx => ?_⟩
  · obtain ⟨a, b, c, d⟩ := QA.ret hq (ob_told S x1 x2).1
    rw [b]
    exact (h μ2 c d).1 a
  · rcases hx with ⟨rfl, hx⟩ | ⟨rfl, hx⟩
    · obtain ⟨a, c, d⟩ := QA.thr (k := 1) hx (by decide) (ob_told S x1 x2).1
      exact ((h μ2 c d).2 (by omega)).1 a
    · obtain ⟨a, c, d⟩ := QA.thr (k := 2) hx (by decide) (ob_told S x1 x2).1
      exact ((h μ2 c d).2 (by omega)).2 a
theorem T_at {S : St} {x1 : Int32} {x2 : Int32} {μ : Mm} {q : Int32 → Mm → Prop} {qx : String → Mm → Prop} (hG : Good S) (hI : cInv S μ) (h : aOk (o_at S x1 x2) μ q (fun k μ2 => (k = 1 → qx "java/lang/IndexOutOfBoundsException" μ2))) : T_X7_at x1 x2 μ q qx := by
  have h0 := tt_at hG hI (QA.of (o_at S x1 x2) μ)
  unfold Wp_L_at at h0
  refine ⟨_, _, h0, fun z μ2 hq => ?_, fun E μ2 hx => ?_⟩
  · obtain ⟨a, b, c, d⟩ := QA.ret hq (ob_at S x1 x2).1
    rw [b]
    exact (h μ2 c d).1 a
  · obtain ⟨rfl, hx⟩ := hx
    obtain ⟨a, c, d⟩ := QA.thr (k := 1) hx (by decide) (ob_at S x1 x2).1
    exact ((h μ2 c d).2 (by omega)) a
theorem T_way {S : St} {x1 : Int32} {x2 : Int32} {x3 : Int32} {μ : Mm} {q : Int32 → Mm → Prop} {qx : String → Mm → Prop} (hG : Good S) (hI : cInv S μ) (h : aOk (o_way S x1 x2 x3) μ q (fun k μ2 => (k = 1 → qx "java/lang/IndexOutOfBoundsException" μ2) ∧ (k = 2 → qx "java/lang/IllegalArgumentException" μ2))) : T_X7_way x1 x2 x3 μ q qx := by
  have h0 := tt_way hG hI (QA.of (o_way S x1 x2 x3) μ)
  unfold Wp_L_way at h0
  refine ⟨_, _, h0, fun z μ2 hq => ?_, fun E μ2 hx => ?_⟩
  · obtain ⟨a, b, c, d⟩ := QA.ret hq (ob_way S x1 x2 x3).1
    rw [b]
    exact (h μ2 c d).1 a
  · rcases hx with ⟨rfl, hx⟩ | ⟨rfl, hx⟩
    · obtain ⟨a, c, d⟩ := QA.thr (k := 1) hx (by decide) (ob_way S x1 x2 x3).1
      exact ((h μ2 c d).2 (by omega)).1 a
    · obtain ⟨a, c, d⟩ := QA.thr (k := 2) hx (by decide) (ob_way S x1 x2 x3).1
      exact ((h μ2 c d).2 (by omega)).2 a
theorem T_end {S : St} {x1 : Int32} {μ : Mm} {q : Mm → Prop} {qx : String → Mm → Prop} (hG : Good S) (hI : cInv S μ) (h : aOk (o_end S x1) μ (fun _ μ2 => q μ2) (fun k μ2 => (k = 1 → qx "java/lang/IndexOutOfBoundsException" μ2) ∧ (k = 2 → qx "java/lang/IllegalStateException" μ2))) : T_X7_end x1 μ q qx := by
  have h0 := tt_end (q := fun c μ2 => cInv (o_end S x1).2.2 μ2 ∧ Fr μ μ2 ∧ c = nI (o_end S x1).1) hG hI (fun μ2 a b => ⟨a, b, rfl⟩)
  unfold Wp_L_end at h0
  refine ⟨_, _, h0, fun μ2 hq => ?_, fun E μ2 hx => ?_⟩
  · obtain ⟨a, b, c⟩ := hq
    have h5 : (o_end S x1).1 = 0 := (nI_eq0 (by have := ob_end S x1; omega)).1 c.symm
    exact (h μ2 a b).1 h5
  · have ho := ob_end S x1
    rcases hx with ⟨rfl, a, b, c⟩ | ⟨rfl, a, b, c⟩
    · have h5 : (o_end S x1).1 = 1 := ((nI_eq (a := 1) (by omega) (by omega)).1 c).symm
      exact ((h μ2 a b).2 (by omega)).1 h5
    · have h5 : (o_end S x1).1 = 2 := ((nI_eq (a := 2) (by omega) (by omega)).1 c).symm
      exact ((h μ2 a b).2 (by omega)).2 h5
theorem toN_nI {k : Nat} (h : k < 2147483648) : toN (nI k) = k := clT h
theorem inR_t {n k : Nat} (hn : n < 2147483648) (hk : k < n) : inR n (nI k) = true := by rw [inR_nI hn (by omega)]; exact decide_eq_true hk
theorem rg_t {a b n : Nat} (ha : a ≤ n) (hb : n ≤ b) (h : b < 2147483648) : rg (nI a) (nI b) (nI n) = true := decide_eq_true ⟨le_nI ha (by omega), le_nI hb (by omega)⟩
theorem T_told_ok {S : St} {i y : Nat} {μ : Mm} {q : Int32 → Mm → Prop} {qx : String → Mm → Prop} (hG : Good S) (hI : cInv S μ) (hi : i < nRq S) (hy : y ≤ 7) (h : ∀ μ2, cInv S μ2 → Fr μ μ2 → q (vTl S i (nI y)) μ2) : T_X7_told (nI i) (nI y) μ q qx := by
  have hn := hG.2.1
  have e : o_told S (nI i) (nI y) = (0, vTl S i (nI y), S) := by
    unfold o_told
    rw [if_pos (inR_t (by omega) hi), if_pos (show rg 0 7 (nI y) = true from rg_t (a := 0) (b := 7) (by omega) hy (by decide)), toN_nI (by omega)]
  refine T_told hG hI ?_
  rw [e]
  exact fun μ2 a b => ⟨fun _ => h μ2 a b, fun hc => absurd rfl hc⟩
theorem T_at_ok {S : St} {i k : Nat} {μ : Mm} {q : Int32 → Mm → Prop} {qx : String → Mm → Prop} (hG : Good S) (hI : cInv S μ) (hi : i < nRq S) (hk : k < S.2.2 i 0 10) (h : ∀ μ2, cInv S μ2 → Fr μ μ2 → q (nI (S.2.2 i 3 k)) μ2) : T_X7_at (nI i) (nI k) μ q qx := by
  have hn := hG.2.1
  have h3 := (hG.d (hG.i hi)).1
  have e : o_at S (nI i) (nI k) = (0, nI (S.2.2 i 3 k), S) := by
    unfold o_at
    rw [if_pos (inR_t (by omega) hi), toN_nI (by omega), if_pos (inR_t (by omega) hk), toN_nI (by omega)]
  refine T_at hG hI ?_
  rw [e]
  exact fun μ2 a b => ⟨fun _ => h μ2 a b, fun hc => absurd rfl hc⟩
theorem T_way_ok {S : St} {i l y : Nat} {μ : Mm} {q : Int32 → Mm → Prop} {qx : String → Mm → Prop} (hG : Good S) (hI : cInv S μ) (hi : i < nRq S) (hl : l < S.2.2 i 0 11) (hy : y ≤ 2) (h : ∀ μ2, cInv S μ2 → Fr μ μ2 → q (vWy (S.2.2 i) l (nI y)) μ2) : T_X7_way (nI i) (nI l) (nI y) μ q qx := by
  have hn := hG.2.1
  have h3 := (hG.d (hG.i hi)).2.1
  have e : o_way S (nI i) (nI l) (nI y) = (0, vWy (S.2.2 i) l (nI y), S) := by
    unfold o_way
    rw [if_pos (inR_t (by omega) hi), toN_nI (by omega), if_pos (inR_t (by omega) hl), if_pos (show rg 0 2 (nI y) = true from rg_t (a := 0) (b := 2) (by omega) hy (by decide)), toN_nI (by omega)]
  refine T_way hG hI ?_
  rw [e]
  exact fun μ2 a b => ⟨fun _ => h μ2 a b, fun hc => absurd rfl hc⟩
theorem T_ofNode_ok {S : St} {v y : Nat} {μ : Mm} {q : Int32 → Mm → Prop} {qx : String → Mm → Prop} (hG : Good S) (hI : cInv S μ) (hv : v < nNd S) (hy : y ≤ 1) (h : ∀ μ2, cInv S μ2 → Fr μ μ2 → q (if nI y = 0 then lfN S v else nI (cnS S v)) μ2) : T_X7_ofNode (nI v) (nI y) μ q qx := by
  have hn := hG.1
  have e : o_ofNode S (nI v) (nI y) = (0, (if nI y = 0 then lfN S v else nI (cnS S v)), S) := by
    unfold o_ofNode
    rw [if_pos (inR_t (by omega) hv), if_pos (show rg 0 1 (nI y) = true from rg_t (a := 0) (b := 1) (by omega) hy (by decide)), toN_nI (by omega)]
  refine T_ofNode hG hI ?_
  rw [e]
  exact fun μ2 a b => ⟨fun _ => h μ2 a b, fun hc => absurd rfl hc⟩
theorem T_ofLink_ok {S : St} {k y : Nat} {μ : Mm} {q : Int32 → Mm → Prop} {qx : String → Mm → Prop} (hG : Good S) (hI : cInv S μ) (hk : k < nLk S) (hy : y ≤ 3) (h : ∀ μ2, cInv S μ2 → Fr μ μ2 → q (vLk S k (nI y)) μ2) : T_X7_ofLink (nI k) (nI y) μ q qx := by
  have hn := hG.L
  have e : o_ofLink S (nI k) (nI y) = (0, vLk S k (nI y), S) := by
    unfold o_ofLink
    rw [if_pos (inR_t (by omega) hk), if_pos (show rg 0 3 (nI y) = true from rg_t (a := 0) (b := 3) (by omega) hy (by decide)), toN_nI (by omega)]
  refine T_ofLink hG hI ?_
  rw [e]
  exact fun μ2 a b => ⟨fun _ => h μ2 a b, fun hc => absurd rfl hc⟩
theorem T_load0 {S : St} {k : Nat} {μ : Mm} {q : Int32 → Mm → Prop} {qx : String → Mm → Prop} (hG : Good S) (hI : cInv S μ) (hk : k < nLk S) (h : ∀ μ2, cInv S μ2 → Fr μ μ2 → q (nI (ldS S k 0)) μ2) : T_X7_load (nI k) (-1 : Int32) μ q qx := by
  have hn := hG.L
  have e : o_load S (nI k) (-1 : Int32) = (0, nI (ldS S k 0), S) := by
    unfold o_load
    rw [inR_t (by omega) hk, decide_eq_true (rfl : (-1 : Int32) = -1), Bool.true_or, Bool.and_self, if_pos rfl, if_neg (nm1 (by omega)), toN_nI (by omega)]
    rfl
  refine T_load hG hI ?_
  rw [e]
  exact fun μ2 a b => ⟨fun _ => h μ2 a b, fun hc => absurd rfl hc⟩
theorem T_load_ok {S : St} {k f : Nat} {μ : Mm} {q : Int32 → Mm → Prop} {qx : String → Mm → Prop} (hG : Good S) (hI : cInv S μ) (hk : k < nLk S) (hf : f < nLk S) (hkf : k ≠ f) (h : ∀ μ2, cInv S μ2 → Fr μ μ2 → q (nI (ldS S k (2 ^ f))) μ2) : T_X7_load (nI k) (nI f) μ q qx := by
  have hn := hG.L
  have e : o_load S (nI k) (nI f) = (0, nI (ldS S k (2 ^ f)), S) := by
    unfold o_load
    have e2 : gon (nI f) = 2 ^ f := by unfold gon; rw [if_neg (nm1 (by omega)), toN_nI (by omega)]
    rw [inR_t (by omega) hk, inR_t (by omega) hf, Bool.or_true, Bool.and_self, if_pos rfl, if_neg (fun e => hkf ((nI_eq (by omega) (by omega)).1 e)), toN_nI (by omega), e2]
  refine T_load hG hI ?_
  rw [e]
  exact fun μ2 a b => ⟨fun _ => h μ2 a b, fun hc => absurd rfl hc⟩
theorem A_node {S : St} {x2 x3 x4 : Int32} {μ : Mm} {q : Int32 → Mm → Prop} (hG : Good S) (hI : cInv S μ) (h : aOk (o_node S x2) μ (fun z μ2 => q z μ2) (fun k μ2 => (k = 1 → q (-70009 : Int32) μ2) ∧ (k = 2 → q (-70008 : Int32) μ2))) : Wp_L_asks (0 : Int32) x2 x3 x4 μ q := by
  unfold Wp_L_asks
  refine ⟨fun hc => absurd rfl hc, fun _ => ?_⟩
  exact T_node hG hI (fun μ2 a b => ⟨(h μ2 a b).1, fun hne => ⟨fun hk => Or.inr (Or.inl ⟨rfl, ((h μ2 a b).2 hne).1 hk⟩), fun hk => Or.inr (Or.inr ⟨rfl, ((h μ2 a b).2 hne).2 hk⟩)⟩⟩)
theorem A_link {S : St} {x2 x3 x4 : Int32} {μ : Mm} {q : Int32 → Mm → Prop} (hG : Good S) (hI : cInv S μ) (h : aOk (o_link S x2 x3 x4) μ (fun z μ2 => q z μ2) (fun k μ2 => (k = 1 → q (-70007 : Int32) μ2) ∧ (k = 2 → q (-70009 : Int32) μ2) ∧ (k = 3 → q (-70008 : Int32) μ2))) : Wp_L_asks (1 : Int32) x2 x3 x4 μ q := by
  unfold Wp_L_asks
  refine ⟨fun _ => ?_, fun hc => absurd hc (by decide)⟩
  refine ⟨fun hc => absurd rfl hc, fun _ => ?_⟩
  exact T_link hG hI (fun μ2 a b => ⟨(h μ2 a b).1, fun hne => ⟨fun hk => Or.inl ⟨rfl, ((h μ2 a b).2 hne).1 hk⟩, fun hk => Or.inr (Or.inl ⟨rfl, ((h μ2 a b).2 hne).2.1 hk⟩), fun hk => Or.inr (Or.inr ⟨rfl, ((h μ2 a b).2 hne).2.2 hk⟩)⟩⟩)
theorem A_part {S : St} {x2 x3 x4 : Int32} {μ : Mm} {q : Int32 → Mm → Prop} (hG : Good S) (hI : cInv S μ) (h : aOk (o_part S x2 x3) μ (fun z μ2 => q z μ2) (fun k μ2 => (k = 1 → q (-70009 : Int32) μ2) ∧ (k = 2 → q (-70008 : Int32) μ2))) : Wp_L_asks (2 : Int32) x2 x3 x4 μ q := by
  unfold Wp_L_asks
  refine ⟨fun _ => ?_, fun hc => absurd hc (by decide)⟩
  refine ⟨fun _ => ?_, fun hc => absurd hc (by decide)⟩
  refine ⟨fun hc => absurd rfl hc, fun _ => ?_⟩
  exact T_part hG hI (fun μ2 a b => ⟨(h μ2 a b).1, fun hne => ⟨fun hk => Or.inr (Or.inl ⟨rfl, ((h μ2 a b).2 hne).1 hk⟩), fun hk => Or.inr (Or.inr ⟨rfl, ((h μ2 a b).2 hne).2 hk⟩)⟩⟩)
theorem A_line {S : St} {x2 x3 x4 : Int32} {μ : Mm} {q : Int32 → Mm → Prop} (hG : Good S) (hI : cInv S μ) (h : aOk (o_line S x2 x3 x4) μ (fun z μ2 => q z μ2) (fun k μ2 => (k = 1 → q (-70007 : Int32) μ2) ∧ (k = 2 → q (-70009 : Int32) μ2) ∧ (k = 3 → q (-70008 : Int32) μ2))) : Wp_L_asks (3 : Int32) x2 x3 x4 μ q := by
  unfold Wp_L_asks
  refine ⟨fun _ => ?_, fun hc => absurd hc (by decide)⟩
  refine ⟨fun _ => ?_, fun hc => absurd hc (by decide)⟩
  refine ⟨fun _ => ?_, fun hc => absurd hc (by decide)⟩
  refine ⟨fun hc => absurd rfl hc, fun _ => ?_⟩
  exact T_line hG hI (fun μ2 a b => ⟨(h μ2 a b).1, fun hne => ⟨fun hk => Or.inl ⟨rfl, ((h μ2 a b).2 hne).1 hk⟩, fun hk => Or.inr (Or.inl ⟨rfl, ((h μ2 a b).2 hne).2.1 hk⟩), fun hk => Or.inr (Or.inr ⟨rfl, ((h μ2 a b).2 hne).2.2 hk⟩)⟩⟩)
theorem A_place {S : St} {x2 x3 x4 : Int32} {μ : Mm} {q : Int32 → Mm → Prop} (hG : Good S) (hI : cInv S μ) (h : aOk (o_place S x2 x3) μ (fun z μ2 => q z μ2) (fun k μ2 => (k = 1 → q (-70009 : Int32) μ2) ∧ (k = 2 → q (-70008 : Int32) μ2))) : Wp_L_asks (4 : Int32) x2 x3 x4 μ q := by
  unfold Wp_L_asks
  refine ⟨fun _ => ?_, fun hc => absurd hc (by decide)⟩
  refine ⟨fun _ => ?_, fun hc => absurd hc (by decide)⟩
  refine ⟨fun _ => ?_, fun hc => absurd hc (by decide)⟩
  refine ⟨fun _ => ?_, fun hc => absurd hc (by decide)⟩
  refine ⟨fun hc => absurd rfl hc, fun _ => ?_⟩
  exact T_place hG hI (fun μ2 a b => ⟨(h μ2 a b).1, fun hne => ⟨fun hk => Or.inr (Or.inl ⟨rfl, ((h μ2 a b).2 hne).1 hk⟩), fun hk => Or.inr (Or.inr ⟨rfl, ((h μ2 a b).2 hne).2 hk⟩)⟩⟩)
theorem A_end {S : St} {x2 x3 x4 : Int32} {μ : Mm} {q : Int32 → Mm → Prop} (hG : Good S) (hI : cInv S μ) (h : aOk (o_end S x2) μ (fun _ μ2 => q (0 : Int32) μ2) (fun k μ2 => (k = 1 → q (-70007 : Int32) μ2) ∧ (k = 2 → q (-70008 : Int32) μ2))) : Wp_L_asks (5 : Int32) x2 x3 x4 μ q := by
  unfold Wp_L_asks
  refine ⟨fun _ => ?_, fun hc => absurd hc (by decide)⟩
  refine ⟨fun _ => ?_, fun hc => absurd hc (by decide)⟩
  refine ⟨fun _ => ?_, fun hc => absurd hc (by decide)⟩
  refine ⟨fun _ => ?_, fun hc => absurd hc (by decide)⟩
  refine ⟨fun _ => ?_, fun hc => absurd hc (by decide)⟩
  refine ⟨fun hc => absurd rfl hc, fun _ => ?_⟩
  unfold Wp_L_closes
  exact T_end hG hI (fun μ2 a b => ⟨(h μ2 a b).1, fun hne => ⟨fun hk => Or.inl ⟨rfl, ((h μ2 a b).2 hne).1 hk⟩, fun hk => Or.inr (Or.inr ⟨rfl, ((h μ2 a b).2 hne).2 hk⟩)⟩⟩)
theorem A_move {S : St} {x2 x3 x4 : Int32} {μ : Mm} {q : Int32 → Mm → Prop} (hG : Good S) (hI : cInv S μ) (h : aOk (o_move S x2 x3 x4) μ (fun z μ2 => q z μ2) (fun k μ2 => (k = 1 → q (-70007 : Int32) μ2) ∧ (k = 2 → q (-70009 : Int32) μ2) ∧ (k = 3 → q (-70008 : Int32) μ2))) : Wp_L_asks (6 : Int32) x2 x3 x4 μ q := by
  unfold Wp_L_asks
  refine ⟨fun _ => ?_, fun hc => absurd hc (by decide)⟩
  refine ⟨fun _ => ?_, fun hc => absurd hc (by decide)⟩
  refine ⟨fun _ => ?_, fun hc => absurd hc (by decide)⟩
  refine ⟨fun _ => ?_, fun hc => absurd hc (by decide)⟩
  refine ⟨fun _ => ?_, fun hc => absurd hc (by decide)⟩
  refine ⟨fun _ => ?_, fun hc => absurd hc (by decide)⟩
  refine ⟨fun hc => absurd rfl hc, fun _ => ?_⟩
  exact T_move hG hI (fun μ2 a b => ⟨(h μ2 a b).1, fun hne => ⟨fun hk => Or.inl ⟨rfl, ((h μ2 a b).2 hne).1 hk⟩, fun hk => Or.inr (Or.inl ⟨rfl, ((h μ2 a b).2 hne).2.1 hk⟩), fun hk => Or.inr (Or.inr ⟨rfl, ((h μ2 a b).2 hne).2.2 hk⟩)⟩⟩)
theorem A_told {S : St} {x2 x3 x4 : Int32} {μ : Mm} {q : Int32 → Mm → Prop} (hG : Good S) (hI : cInv S μ) (h : aOk (o_told S x2 x3) μ (fun z μ2 => q z μ2) (fun k μ2 => (k = 1 → q (-70007 : Int32) μ2) ∧ (k = 2 → q (-70009 : Int32) μ2))) : Wp_L_asks (7 : Int32) x2 x3 x4 μ q := by
  unfold Wp_L_asks
  refine ⟨fun _ => ?_, fun hc => absurd hc (by decide)⟩
  refine ⟨fun _ => ?_, fun hc => absurd hc (by decide)⟩
  refine ⟨fun _ => ?_, fun hc => absurd hc (by decide)⟩
  refine ⟨fun _ => ?_, fun hc => absurd hc (by decide)⟩
  refine ⟨fun _ => ?_, fun hc => absurd hc (by decide)⟩
  refine ⟨fun _ => ?_, fun hc => absurd hc (by decide)⟩
  refine ⟨fun _ => ?_, fun hc => absurd hc (by decide)⟩
  exact T_told hG hI (fun μ2 a b => ⟨(h μ2 a b).1, fun hne => ⟨fun hk => Or.inl ⟨rfl, ((h μ2 a b).2 hne).1 hk⟩, fun hk => Or.inr (Or.inl ⟨rfl, ((h μ2 a b).2 hne).2 hk⟩)⟩⟩)
