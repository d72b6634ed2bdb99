/-! the law: words -/
def T_X7_at (x1 : Int32) (x2 : Int32) (μ : Mm) (q : Int32 → Mm → Prop) (qx : String → Mm → Prop) : Prop := ∃ (q0 : Int32 → Mm → Prop) (qx0 : String → Mm → Prop), Wp_X7_at x1 x2 μ q0 qx0 ∧ (∀ z μ2, q0 z μ2 → q z μ2) ∧ ∀ E μ2, qx0 E μ2 → qx E μ2
def T_X7_end (x1 : Int32) (μ : Mm) (q : Mm → Prop) (qx : String → Mm → Prop) : Prop := ∃ (q0 : Mm → Prop) (qx0 : String → Mm → Prop), Wp_X7_end x1 μ q0 qx0 ∧ (∀ μ2, q0 μ2 → q μ2) ∧ ∀ E μ2, qx0 E μ2 → qx E μ2
def T_X7_fail (x1 : Int32) (x2 : Int32) (μ : Mm) (q : Int32 → Mm → Prop) (qx : String → Mm → Prop) : Prop := ∃ (q0 : Int32 → Mm → Prop) (qx0 : String → Mm → Prop), Wp_X7_fail x1 x2 μ q0 qx0 ∧ (∀ z μ2, q0 z μ2 → q z μ2) ∧ ∀ E μ2, qx0 E μ2 → qx E μ2
def T_X7_line (x1 : Int32) (x2 : Int32) (x3 : Int32) (μ : Mm) (q : Int32 → Mm → Prop) (qx : String → Mm → Prop) : Prop := ∃ (q0 : Int32 → Mm → Prop) (qx0 : String → Mm → Prop), Wp_X7_line x1 x2 x3 μ q0 qx0 ∧ (∀ z μ2, q0 z μ2 → q z μ2) ∧ ∀ E μ2, qx0 E μ2 → qx E μ2
def T_X7_link (x1 : Int32) (x2 : Int32) (x3 : Int32) (μ : Mm) (q : Int32 → Mm → Prop) (qx : String → Mm → Prop) : Prop := ∃ (q0 : Int32 → Mm → Prop) (qx0 : String → Mm → Prop), Wp_X7_link x1 x2 x3 μ q0 qx0 ∧ (∀ z μ2, q0 z μ2 → q z μ2) ∧ ∀ E μ2, qx0 E μ2 → qx E μ2
def T_X7_load (x1 : Int32) (x2 : Int32) (μ : Mm) (q : Int32 → Mm → Prop) (qx : String → Mm → Prop) : Prop := ∃ (q0 : Int32 → Mm → Prop) (qx0 : String → Mm → Prop), Wp_X7_load x1 x2 μ q0 qx0 ∧ (∀ z μ2, q0 z μ2 → q z μ2) ∧ ∀ E μ2, qx0 E μ2 → qx E μ2
def T_X7_move (x1 : Int32) (x2 : Int32) (x3 : Int32) (μ : Mm) (q : Int32 → Mm → Prop) (qx : String → Mm → Prop) : Prop := ∃ (q0 : Int32 → Mm → Prop) (qx0 : String → Mm → Prop), Wp_X7_move x1 x2 x3 μ q0 qx0 ∧ (∀ z μ2, q0 z μ2 → q z μ2) ∧ ∀ E μ2, qx0 E μ2 → qx E μ2
def T_X7_node (x1 : Int32) (μ : Mm) (q : Int32 → Mm → Prop) (qx : String → Mm → Prop) : Prop := ∃ (q0 : Int32 → Mm → Prop) (qx0 : String → Mm → Prop), Wp_X7_node x1 μ q0 qx0 ∧ (∀ z μ2, q0 z μ2 → q z μ2) ∧ ∀ E μ2, qx0 E μ2 → qx E μ2
def T_X7_ofLink (x1 : Int32) (x2 : Int32) (μ : Mm) (q : Int32 → Mm → Prop) (qx : String → Mm → Prop) : Prop := ∃ (q0 : Int32 → Mm → Prop) (qx0 : String → Mm → Prop), Wp_X7_ofLink x1 x2 μ q0 qx0 ∧ (∀ z μ2, q0 z μ2 → q z μ2) ∧ ∀ E μ2, qx0 E μ2 → qx E μ2
def T_X7_ofNode (x1 : Int32) (x2 : Int32) (μ : Mm) (q : Int32 → Mm → Prop) (qx : String → Mm → Prop) : Prop := ∃ (q0 : Int32 → Mm → Prop) (qx0 : String → Mm → Prop), Wp_X7_ofNode x1 x2 μ q0 qx0 ∧ (∀ z μ2, q0 z μ2 → q z μ2) ∧ ∀ E μ2, qx0 E μ2 → qx E μ2
def T_X7_part (x1 : Int32) (x2 : Int32) (μ : Mm) (q : Int32 → Mm → Prop) (qx : String → Mm → Prop) : Prop := ∃ (q0 : Int32 → Mm → Prop) (qx0 : String → Mm → Prop), Wp_X7_part x1 x2 μ q0 qx0 ∧ (∀ z μ2, q0 z μ2 → q z μ2) ∧ ∀ E μ2, qx0 E μ2 → qx E μ2
def T_X7_pass (x1 : Int32) (μ : Mm) (q : Int32 → Mm → Prop) (qx : String → Mm → Prop) : Prop := ∃ (q0 : Int32 → Mm → Prop) (qx0 : String → Mm → Prop), Wp_X7_pass x1 μ q0 qx0 ∧ (∀ z μ2, q0 z μ2 → q z μ2) ∧ ∀ E μ2, qx0 E μ2 → qx E μ2
def T_X7_place (x1 : Int32) (x2 : Int32) (μ : Mm) (q : Int32 → Mm → Prop) (qx : String → Mm → Prop) : Prop := ∃ (q0 : Int32 → Mm → Prop) (qx0 : String → Mm → Prop), Wp_X7_place x1 x2 μ q0 qx0 ∧ (∀ z μ2, q0 z μ2 → q z μ2) ∧ ∀ E μ2, qx0 E μ2 → qx E μ2
def T_X7_told (x1 : Int32) (x2 : Int32) (μ : Mm) (q : Int32 → Mm → Prop) (qx : String → Mm → Prop) : Prop := ∃ (q0 : Int32 → Mm → Prop) (qx0 : String → Mm → Prop), Wp_X7_told x1 x2 μ q0 qx0 ∧ (∀ z μ2, q0 z μ2 → q z μ2) ∧ ∀ E μ2, qx0 E μ2 → qx E μ2
def T_X7_way (x1 : Int32) (x2 : Int32) (x3 : Int32) (μ : Mm) (q : Int32 → Mm → Prop) (qx : String → Mm → Prop) : Prop := ∃ (q0 : Int32 → Mm → Prop) (qx0 : String → Mm → Prop), Wp_X7_way x1 x2 x3 μ q0 qx0 ∧ (∀ z μ2, q0 z μ2 → q z μ2) ∧ ∀ E μ2, qx0 E μ2 → qx E μ2
theorem ac_I : Cond.arrayClass .int ∈ Om := (om_tbl 91 (by decide +kernel) rfl)
def nrb (p : Nat) (v : Value) : Bool := match v with
  | .ref q => !Nat.beq q p
  | _ => true
theorem nrb_ne {p : Nat} {v : Value} (h : nrb p v = true) : v ≠ .ref p := fun e => by
  subst e
  simp [nrb, Nat.beq_refl] at h
theorem nr_loc {p : Nat} {ls : List (Option Value)} (_ : p = 27 ∨ p = 28) (h : (ls.all fun o => match o with | none => true | some v => nrb p v) = true) : ∀ v, some v ∈ ls → v ≠ .ref p := fun v hv => nrb_ne (List.all_eq_true.mp h _ hv)
theorem nr_stk {p : Nat} {st : List Value} (_ : p = 27 ∨ p = 28) (h : (st.all (nrb p)) = true) : ∀ v ∈ st, v ≠ .ref p := fun v hv => nrb_ne (List.all_eq_true.mp h _ hv)
theorem kc_L_7 : Cond.constant RL 7 (936110033 : Int32) ∈ Om := (om_tbl 329 (by decide +kernel) rfl)
theorem kc_L_8 : Cond.constant RL 8 (799912399 : Int32) ∈ Om := (om_tbl 330 (by decide +kernel) rfl)
theorem kc_L_9 : Cond.constant RL 9 (2147483647 : Int32) ∈ Om := (om_tbl 331 (by decide +kernel) rfl)
theorem kc_L_48 : Cond.constant RL 48 (-70007 : Int32) ∈ Om := (om_tbl 765 (by decide +kernel) rfl)
theorem kc_L_51 : Cond.constant RL 51 (-70009 : Int32) ∈ Om := (om_tbl 766 (by decide +kernel) rfl)
theorem kc_L_54 : Cond.constant RL 54 (-70008 : Int32) ∈ Om := (om_tbl 767 (by decide +kernel) rfl)
theorem kc_L_121 : Cond.constant RL 121 (1073741824 : Int32) ∈ Om := (om_tbl 482 (by decide +kernel) rfl)
theorem lk_L_10 : Cond.methodLink RL 10 yX7_end ∈ Om := (om_tbl 676 (by decide +kernel) rfl)
theorem cv_L_10 : CV RL 10 yX7_end cX7_end 2 none 1 := ⟨Or.inl lk_L_10, (om_tbl 677 (by decide +kernel) rfl), (om_tbl 678 (by decide +kernel) rfl), (om_tbl 21 (by decide +kernel) rfl), (om_tbl 679 (by decide +kernel) rfl), by decide +kernel, by decide +kernel, by decide +kernel⟩
theorem lk_L_16 : Cond.methodLink RL 16 yX7_node ∈ Om := (om_tbl 332 (by decide +kernel) rfl)
theorem cv_L_16 : CV RL 16 yX7_node cX7_node 2 (some .int) 1 := ⟨Or.inl lk_L_16, (om_tbl 333 (by decide +kernel) rfl), (om_tbl 334 (by decide +kernel) rfl), (om_tbl 21 (by decide +kernel) rfl), (om_tbl 335 (by decide +kernel) rfl), by decide +kernel, by decide +kernel, by decide +kernel⟩
theorem lk_L_20 : Cond.methodLink RL 20 yX7_link ∈ Om := (om_tbl 424 (by decide +kernel) rfl)
theorem cv_L_20 : CV RL 20 yX7_link cX7_link 4 (some .int) 3 := ⟨Or.inl lk_L_20, (om_tbl 425 (by decide +kernel) rfl), (om_tbl 426 (by decide +kernel) rfl), (om_tbl 21 (by decide +kernel) rfl), (om_tbl 427 (by decide +kernel) rfl), by decide +kernel, by decide +kernel, by decide +kernel⟩
theorem lk_L_24 : Cond.methodLink RL 24 yX7_part ∈ Om := (om_tbl 492 (by decide +kernel) rfl)
