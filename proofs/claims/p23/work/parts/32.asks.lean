/-! the law: words -/
def T_X7_at (x1 : Int32) (x2 : Int32) (μ : Mm) (q : Int32 → Mm → Prop) (qx : String → Mm → Prop) : Prop := ∃ (q0 : Int32 → Mm → Prop) (qx0 : String → Mm → Prop), Wp_X7_at x1 x2 μ q0 qx0 ∧ (∀ z μ2, q0 z μ2 → q z μ2) ∧ ∀ E μ2, qx0 E μ2 → qx E μ2
def T_X7_end (x1 : Int32) (μ : Mm) (q : Mm → Prop) (qx : String → Mm → Prop) : Prop := ∃ (q0 : Mm → Prop) (qx0 : String → Mm → Prop), Wp_X7_end x1 μ q0 qx0 ∧ (∀ μ2, q0 μ2 → q μ2) ∧ ∀ E μ2, qx0 E μ2 → qx E μ2
def T_X7_fail (x1 : Int32) (x2 : Int32) (μ : Mm) (q : Int32 → Mm → Prop) (qx : String → Mm → Prop) : Prop := ∃ (q0 : Int32 → Mm → Prop) (qx0 : String → Mm → Prop), Wp_X7_fail x1 x2 μ q0 qx0 ∧ (∀ z μ2, q0 z μ2 → q z μ2) ∧ ∀ E μ2, qx0 E μ2 → qx E μ2
def T_X7_line (x1 : Int32) (x2 : Int32) (x3 : Int32) (μ : Mm) (q : Int32 → Mm → Prop) (qx : String → Mm → Prop) : Prop := ∃ (q0 : Int32 → Mm → Prop) (qx0 : String → Mm → Prop), Wp_X7_line x1 x2 x3 μ q0 qx0 ∧ (∀ z μ2, q0 z μ2 → q z μ2) ∧ ∀ E μ2, qx0 E μ2 → qx E μ2
def T_X7_link (x1 : Int32) (x2 : Int32) (x3 : Int32) (μ : Mm) (q : Int32 → Mm → Prop) (qx : String → Mm → Prop) : Prop := ∃ (q0 : Int32 → Mm → Prop) (qx0 : String → Mm → Prop), Wp_X7_link x1 x2 x3 μ q0 qx0 ∧ (∀ z μ2, q0 z μ2 → q z μ2) ∧ ∀ E μ2, qx0 E μ2 → qx E μ2
def T_X7_load (x1 : Int32) (x2 : Int32) (μ : Mm) (q : Int32 → Mm → Prop) (qx : String → Mm → Prop) : Prop := ∃ (q0 : Int32 → Mm → Prop) (qx0 : String → Mm → Prop), Wp_X7_load x1 x2 μ q0 qx0 ∧ (∀ z μ2, q0 z μ2 → q z μ2) ∧ ∀ E μ2, qx0 E μ2 → qx E μ2
def T_X7_move (x1 : Int32) (x2 : Int32) (x3 : Int32) (μ : Mm) (q : Int32 → Mm → Prop) (qx : String → Mm → Prop) : Prop := ∃ (q0 : Int32 → Mm → Prop) (qx0 : String → Mm → Prop), Wp_X7_move x1 x2 x3 μ q0 qx0 ∧ (∀ z μ2, q0 z μ2 → q z μ2) ∧ ∀ E μ2, qx0 E μ2 → qx E μ2
def T_X7_node (x1 : Int32) (μ : Mm) (q : Int32 → Mm → Prop) (qx : String → Mm → Prop) : Prop := ∃ (q0 : Int32 → Mm → Prop) (qx0 : String → Mm → Prop), Wp_X7_node x1 μ q0 qx0 ∧ (∀ z μ2, q0 z μ2 → q z μ2) ∧ ∀ E μ2, qx0 E μ2 → qx E μ2
def T_X7_ofLink (x1 : Int32) (x2 : Int32) (μ : Mm) (q : Int32 → Mm → Prop) (qx : String → Mm → Prop) : Prop := ∃ (q0 : Int32 → Mm → Prop) (qx0 : String → Mm → Prop), Wp_X7_ofLink x1 x2 μ q0 qx0 ∧ (∀ z μ2, q0 z μ2 → q z μ2) ∧ ∀ E μ2, qx0 E μ2 → qx E μ2
def T_X7_ofNode (x1 : Int32) (x2 : Int32) (μ : Mm) (q : Int32 → Mm → Prop) (qx : String → Mm → Prop) : Prop := ∃ (q0 : Int32 → Mm → Prop) (qx0 : String → Mm → Prop), Wp_X7_ofNode x1 x2 μ q0 qx0 ∧ (∀ z μ2, q0 z μ2 → q z μ2) ∧ ∀ E μ2, qx0 E μ2 → qx E μ2
def T_X7_part (x1 : Int32) (x2 : Int32) (μ : Mm) (q : Int32 → Mm → Prop) (qx : String → Mm → Prop) : Prop := ∃ (q0 : Int32 → Mm → Prop) (qx0 : String → Mm → Prop), Wp_X7_part x1 x2 μ q0 qx0 ∧ (∀ z μ2, q0 z μ2 → q z μ2) ∧ ∀ E μ2, qx0 E μ2 → qx E μ2
def T_X7_pass (x1 : Int32) (μ : Mm) (q : Int32 → Mm → Prop) (qx : String → Mm → Prop) : Prop := ∃ (q0 : Int32 → Mm → Prop) (qx0 : String → Mm → Prop), Wp_X7_pass x1 μ q0 qx0 ∧ (∀ z μ2, q0 z μ2 → q z μ2) ∧ ∀ E μ2, qx0 E μ2 → qx E μ2
def T_X7_place (x1 : Int32) (x2 : Int32) (μ : Mm) (q : Int32 → Mm → Prop) (qx : String → Mm → Prop) : Prop := ∃ (q0 : Int32 → Mm → Prop) (qx0 : String → Mm → Prop), Wp_X7_place x1 x2 μ q0 qx0 ∧ (∀ z μ2, q0 z μ2 → q z μ2) ∧ ∀ E μ2, qx0 E μ2 → qx E μ2
def T_X7_told (x1 : Int32) (x2 : Int32) (μ : Mm) (q : Int32 → Mm → Prop) (qx : String → Mm → Prop) : Prop := ∃ (q0 : Int32 → Mm → Prop) (qx0 : String → Mm → Prop), Wp_X7_told x1 x2 μ q0 qx0 ∧ (∀ z μ2, q0 z μ2 → q z μ2) ∧ ∀ E μ2, qx0 E μ2 → qx E μ2
def T_X7_way (x1 : Int32) (x2 : Int32) (x3 : Int32) (μ : Mm) (q : Int32 → Mm → Prop) (qx : String → Mm → Prop) : Prop := ∃ (q0 : Int32 → Mm → Prop) (qx0 : String → Mm → Prop), Wp_X7_way x1 x2 x3 μ q0 qx0 ∧ (∀ z μ2, q0 z μ2 → q z μ2) ∧ ∀ E μ2, qx0 E μ2 → qx E μ2
theorem ac_I : Cond.arrayClass .int ∈ Om := (om_tbl 91 (by decide +kernel) rfl)
def nrb (p : Nat) (v : Value) : Bool := match v with
  | .ref q => !Nat.beq q p
  | _ => true
theorem nrb_ne {p : Nat} {v : Value} (h : nrb p v = true) : v ≠ .ref p := fun e => by
  subst e
  simp [nrb, Nat.beq_refl] at h
theorem nr_loc {p : Nat} {ls : List (Option Value)} (_ : p = 27 ∨ p = 28) (h : (ls.all fun o => match o with | none => true | some v => nrb p v) = true) : ∀ v, some v ∈ ls → v ≠ .ref p := fun v hv => nrb_ne (List.all_eq_true.mp h _ hv)
theorem nr_stk {p : Nat} {st : List Value} (_ : p = 27 ∨ p = 28) (h : (st.all (nrb p)) = true) : ∀ v ∈ st, v ≠ .ref p := fun v hv => nrb_ne (List.all_eq_true.mp h _ hv)
theorem kc_L_7 : Cond.constant RL 7 (936110033 : Int32) ∈ Om := (om_tbl 329 (by decide +kernel) rfl)
theorem kc_L_8 : Cond.constant RL 8 (799912399 : Int32) ∈ Om := (om_tbl 330 (by decide +kernel) rfl)
theorem kc_L_9 : Cond.constant RL 9 (2147483647 : Int32) ∈ Om := (om_tbl 331 (by decide +kernel) rfl)
theorem kc_L_48 : Cond.constant RL 48 (-70007 : Int32) ∈ Om := (om_tbl 765 (by decide +kernel) rfl)
theorem kc_L_51 : Cond.constant RL 51 (-70009 : Int32) ∈ Om := (om_tbl 766 (by decide +kernel) rfl)
theorem kc_L_54 : Cond.constant RL 54 (-70008 : Int32) ∈ Om := (om_tbl 767 (by decide +kernel) rfl)
theorem lk_L_10 : Cond.methodLink RL 10 yX7_end ∈ Om := (om_tbl 676 (by decide +kernel) rfl)
theorem cv_L_10 : CV RL 10 yX7_end cX7_end 2 none 1 := ⟨Or.inl lk_L_10, (om_tbl 677 (by decide +kernel) rfl), (om_tbl 678 (by decide +kernel) rfl), (om_tbl 21 (by decide +kernel) rfl), (om_tbl 679 (by decide +kernel) rfl), by decide +kernel, by decide +kernel, by decide +kernel⟩
theorem lk_L_16 : Cond.methodLink RL 16 yX7_node ∈ Om := (om_tbl 332 (by decide +kernel) rfl)
theorem cv_L_16 : CV RL 16 yX7_node cX7_node 2 (some .int) 1 := ⟨Or.inl lk_L_16, (om_tbl 333 (by decide +kernel) rfl), (om_tbl 334 (by decide +kernel) rfl), (om_tbl 21 (by decide +kernel) rfl), (om_tbl 335 (by decide +kernel) rfl), by decide +kernel, by decide +kernel, by decide +kernel⟩
theorem lk_L_20 : Cond.methodLink RL 20 yX7_link ∈ Om := (om_tbl 424 (by decide +kernel) rfl)
theorem cv_L_20 : CV RL 20 yX7_link cX7_link 4 (some .int) 3 := ⟨Or.inl lk_L_20, (om_tbl 425 (by decide +kernel) rfl), (om_tbl 426 (by decide +kernel) rfl), (om_tbl 21 (by decide +kernel) rfl), (om_tbl 427 (by decide +kernel) rfl), by decide +kernel, by decide +kernel, by decide +kernel⟩
theorem lk_L_24 : Cond.methodLink RL 24 yX7_part ∈ Om := (om_tbl 492 (by decide +kernel) rfl)
theorem cv_L_24 : CV RL 24 yX7_part cX7_part 3 (some .int) 2 := ⟨Or.inl lk_L_24, (om_tbl 493 (by decide +kernel) rfl), (om_tbl 494 (by decide +kernel) rfl), (om_tbl 21 (by decide +kernel) rfl), (om_tbl 495 (by decide +kernel) rfl), by decide +kernel, by decide +kernel, by decide +kernel⟩
theorem lk_L_28 : Cond.methodLink RL 28 yX7_line ∈ Om := (om_tbl 506 (by decide +kernel) rfl)
theorem cv_L_28 : CV RL 28 yX7_line cX7_line 4 (some .int) 3 := ⟨Or.inl lk_L_28, (om_tbl 507 (by decide +kernel) rfl), (om_tbl 508 (by decide +kernel) rfl), (om_tbl 21 (by decide +kernel) rfl), (om_tbl 509 (by decide +kernel) rfl), by decide +kernel, by decide +kernel, by decide +kernel⟩
theorem lk_L_31 : Cond.methodLink RL 31 yX7_place ∈ Om := (om_tbl 529 (by decide +kernel) rfl)
theorem cv_L_31 : CV RL 31 yX7_place cX7_place 3 (some .int) 2 := ⟨Or.inl lk_L_31, (om_tbl 530 (by decide +kernel) rfl), (om_tbl 531 (by decide +kernel) rfl), (om_tbl 21 (by decide +kernel) rfl), (om_tbl 532 (by decide +kernel) rfl), by decide +kernel, by decide +kernel, by decide +kernel⟩
theorem lk_L_40 : Cond.methodLink RL 40 yX7_move ∈ Om := (om_tbl 691 (by decide +kernel) rfl)
theorem cv_L_40 : CV RL 40 yX7_move cX7_move 5 (some .int) 3 := ⟨Or.inl lk_L_40, (om_tbl 692 (by decide +kernel) rfl), (om_tbl 693 (by decide +kernel) rfl), (om_tbl 21 (by decide +kernel) rfl), (om_tbl 694 (by decide +kernel) rfl), by decide +kernel, by decide +kernel, by decide +kernel⟩
theorem lk_L_43 : Cond.methodLink RL 43 yX7_told ∈ Om := (om_tbl 739 (by decide +kernel) rfl)
theorem cv_L_43 : CV RL 43 yX7_told cX7_told 4 (some .int) 2 := ⟨Or.inl lk_L_43, (om_tbl 740 (by decide +kernel) rfl), (om_tbl 741 (by decide +kernel) rfl), (om_tbl 21 (by decide +kernel) rfl), (om_tbl 742 (by decide +kernel) rfl), by decide +kernel, by decide +kernel, by decide +kernel⟩
theorem lk_L_58 : Cond.methodLink RL 58 yX7_at ∈ Om := (om_tbl 800 (by decide +kernel) rfl)
theorem cv_L_58 : CV RL 58 yX7_at cX7_at 3 (some .int) 2 := ⟨Or.inl lk_L_58, (om_tbl 801 (by decide +kernel) rfl), (om_tbl 802 (by decide +kernel) rfl), (om_tbl 21 (by decide +kernel) rfl), (om_tbl 803 (by decide +kernel) rfl), by decide +kernel, by decide +kernel, by decide +kernel⟩
theorem lk_L_61 : Cond.methodLink RL 61 yX7_way ∈ Om := (om_tbl 831 (by decide +kernel) rfl)
theorem cv_L_61 : CV RL 61 yX7_way cX7_way 5 (some .int) 3 := ⟨Or.inl lk_L_61, (om_tbl 832 (by decide +kernel) rfl), (om_tbl 833 (by decide +kernel) rfl), (om_tbl 21 (by decide +kernel) rfl), (om_tbl 834 (by decide +kernel) rfl), by decide +kernel, by decide +kernel, by decide +kernel⟩
theorem lk_L_68 : Cond.methodLink RL 68 yX7_ofNode ∈ Om := (om_tbl 860 (by decide +kernel) rfl)
theorem cv_L_68 : CV RL 68 yX7_ofNode cX7_ofNode 3 (some .int) 2 := ⟨Or.inl lk_L_68, (om_tbl 861 (by decide +kernel) rfl), (om_tbl 862 (by decide +kernel) rfl), (om_tbl 21 (by decide +kernel) rfl), (om_tbl 863 (by decide +kernel) rfl), by decide +kernel, by decide +kernel, by decide +kernel⟩
theorem lk_L_71 : Cond.methodLink RL 71 yX7_ofLink ∈ Om := (om_tbl 821 (by decide +kernel) rfl)
theorem cv_L_71 : CV RL 71 yX7_ofLink cX7_ofLink 3 (some .int) 2 := ⟨Or.inl lk_L_71, (om_tbl 822 (by decide +kernel) rfl), (om_tbl 823 (by decide +kernel) rfl), (om_tbl 21 (by decide +kernel) rfl), (om_tbl 824 (by decide +kernel) rfl), by decide +kernel, by decide +kernel, by decide +kernel⟩
theorem lk_L_74 : Cond.methodLink RL 74 yX7_load ∈ Om := (om_tbl 865 (by decide +kernel) rfl)
theorem cv_L_74 : CV RL 74 yX7_load cX7_load 6 (some .int) 2 := ⟨Or.inl lk_L_74, (om_tbl 866 (by decide +kernel) rfl), (om_tbl 867 (by decide +kernel) rfl), (om_tbl 21 (by decide +kernel) rfl), (om_tbl 868 (by decide +kernel) rfl), by decide +kernel, by decide +kernel, by decide +kernel⟩
theorem lk_L_77 : Cond.methodLink RL 77 yX7_now ∈ Om := (om_tbl 844 (by decide +kernel) rfl)
theorem cv_L_77 : CV RL 77 yX7_now cX7_now 1 (some .int) 0 := ⟨Or.inl lk_L_77, (om_tbl 845 (by decide +kernel) rfl), (om_tbl 846 (by decide +kernel) rfl), (om_tbl 21 (by decide +kernel) rfl), (om_tbl 847 (by decide +kernel) rfl), by decide +kernel, by decide +kernel, by decide +kernel⟩
theorem lk_L_89 : Cond.methodLink RL 89 yX7_least ∈ Om := (om_tbl 779 (by decide +kernel) rfl)
theorem cv_L_89 : CV RL 89 yX7_least cX7_least 1 (some .int) 0 := ⟨Or.inl lk_L_89, (om_tbl 780 (by decide +kernel) rfl), (om_tbl 781 (by decide +kernel) rfl), (om_tbl 21 (by decide +kernel) rfl), (om_tbl 782 (by decide +kernel) rfl), by decide +kernel, by decide +kernel, by decide +kernel⟩
theorem lk_L_96 : Cond.methodLink RL 96 yX7_leastAnew ∈ Om := (om_tbl 793 (by decide +kernel) rfl)
theorem cv_L_96 : CV RL 96 yX7_leastAnew cX7_leastAnew 1 (some .int) 0 := ⟨Or.inl lk_L_96, (om_tbl 794 (by decide +kernel) rfl), (om_tbl 795 (by decide +kernel) rfl), (om_tbl 21 (by decide +kernel) rfl), (om_tbl 796 (by decide +kernel) rfl), by decide +kernel, by decide +kernel, by decide +kernel⟩
theorem lk_L_99 : Cond.methodLink RL 99 yX7_freeing ∈ Om := (om_tbl 784 (by decide +kernel) rfl)
theorem cv_L_99 : CV RL 99 yX7_freeing cX7_freeing 5 (some .int) 0 := ⟨Or.inl lk_L_99, (om_tbl 785 (by decide +kernel) rfl), (om_tbl 786 (by decide +kernel) rfl), (om_tbl 21 (by decide +kernel) rfl), (om_tbl 787 (by decide +kernel) rfl), by decide +kernel, by decide +kernel, by decide +kernel⟩
theorem lk_L_102 : Cond.methodLink RL 102 yX7_clear ∈ Om := (om_tbl 771 (by decide +kernel) rfl)
theorem cv_L_102 : CV RL 102 yX7_clear cX7_clear 1 (some .int) 0 := ⟨Or.inl lk_L_102, (om_tbl 772 (by decide +kernel) rfl), (om_tbl 773 (by decide +kernel) rfl), (om_tbl 21 (by decide +kernel) rfl), (om_tbl 774 (by decide +kernel) rfl), by decide +kernel, by decide +kernel, by decide +kernel⟩
theorem lk_L_109 : Cond.methodLink RL 109 yX7_fail ∈ Om := (om_tbl 808 (by decide +kernel) rfl)
theorem cv_L_109 : CV RL 109 yX7_fail cX7_fail 6 (some .int) 2 := ⟨Or.inl lk_L_109, (om_tbl 809 (by decide +kernel) rfl), (om_tbl 810 (by decide +kernel) rfl), (om_tbl 21 (by decide +kernel) rfl), (om_tbl 811 (by decide +kernel) rfl), by decide +kernel, by decide +kernel, by decide +kernel⟩
theorem lk_L_113 : Cond.methodLink RL 113 yX7_pass ∈ Om := (om_tbl 826 (by decide +kernel) rfl)
theorem cv_L_113 : CV RL 113 yX7_pass cX7_pass 4 (some .int) 1 := ⟨Or.inl lk_L_113, (om_tbl 827 (by decide +kernel) rfl), (om_tbl 828 (by decide +kernel) rfl), (om_tbl 21 (by decide +kernel) rfl), (om_tbl 829 (by decide +kernel) rfl), by decide +kernel, by decide +kernel, by decide +kernel⟩
theorem cv_L_55 : CS_ RL 55 yL_bits cL_bits 3 (some .int) 1 := ⟨Or.inl (om_tbl 851 (by decide +kernel) rfl), (om_tbl 852 (by decide +kernel) rfl), (om_tbl 20 (by decide +kernel) rfl), (om_tbl 853 (by decide +kernel) rfl), by decide +kernel, by decide +kernel, by decide +kernel⟩
theorem cv_L_64 : CS_ RL 64 yL_isWay cL_isWay 9 (some .boolean) 5 := ⟨Or.inl (om_tbl 854 (by decide +kernel) rfl), (om_tbl 855 (by decide +kernel) rfl), (om_tbl 20 (by decide +kernel) rfl), (om_tbl 856 (by decide +kernel) rfl), by decide +kernel, by decide +kernel, by decide +kernel⟩
theorem cv_L_85 : CS_ RL 85 yL_isRequest cL_isRequest 17 (some .boolean) 6 := ⟨Or.inl (om_tbl 848 (by decide +kernel) rfl), (om_tbl 849 (by decide +kernel) rfl), (om_tbl 20 (by decide +kernel) rfl), (om_tbl 850 (by decide +kernel) rfl), by decide +kernel, by decide +kernel, by decide +kernel⟩
theorem cv_L_92 : CS_ RL 92 yL_areRooms cL_areRooms 13 (some .boolean) 5 := ⟨Or.inl (om_tbl 857 (by decide +kernel) rfl), (om_tbl 858 (by decide +kernel) rfl), (om_tbl 20 (by decide +kernel) rfl), (om_tbl 859 (by decide +kernel) rfl), by decide +kernel, by decide +kernel, by decide +kernel⟩
theorem cv_L_105 : CS_ RL 105 yL_frees cL_frees 8 (some .boolean) 4 := ⟨Or.inl (om_tbl 797 (by decide +kernel) rfl), (om_tbl 798 (by decide +kernel) rfl), (om_tbl 20 (by decide +kernel) rfl), (om_tbl 799 (by decide +kernel) rfl), by decide +kernel, by decide +kernel, by decide +kernel⟩
theorem cs_L_closes : CSx RL 34 yL_closes cL_closes 2 (some .int) 2 := ⟨(om_tbl 673 (by decide +kernel) rfl), (om_tbl 674 (by decide +kernel) rfl), (om_tbl 20 (by decide +kernel) rfl), (om_tbl 675 (by decide +kernel) rfl), by decide +kernel, by decide +kernel, by decide +kernel⟩
theorem ch_L_asks : CH RL 81 yL_asks cL_asks 6 (some .int) [(0, 108, 109, 46), (0, 108, 114, 49), (0, 108, 119, 52)] 5 := ⟨(om_tbl 486 (by decide +kernel) rfl), (om_tbl 487 (by decide +kernel) rfl), (om_tbl 20 (by decide +kernel) rfl), (om_tbl 488 (by decide +kernel) rfl), by decide +kernel, by decide +kernel, by decide +kernel⟩
theorem dL_closes_0 : decode cL_closes 0 = .ok (.aload_n 0, 1) := by decide +kernel
theorem dL_closes_1 : decode cL_closes 1 = .ok (.iload_n 1, 1) := by decide +kernel
theorem dL_closes_2 : decode cL_closes 2 = .ok (.invokevirtual 10, 3) := by decide +kernel
theorem dL_closes_5 : decode cL_closes 5 = .ok (.iconst 0, 1) := by decide +kernel
theorem dL_closes_6 : decode cL_closes 6 = .ok (.ireturn, 1) := by decide +kernel
def Wp_L_closes (x1 : Int32) (μ : Mm) (q : Int32 → Mm → Prop) (qx : String → Mm → Prop) : Prop := T_X7_end x1 μ (fun μ2 => q (0 : Int32) μ2) qx
theorem m_L_closes {g : GE} {l : Launch} (hst : l.stackTraces = false) {μ : Mm} {q : Int32 → Mm → Prop} {qx : String → Mm → Prop} {x1 : Int32} (h : Wp_L_closes x1 μ q qx) : MX g l yL_closes cL_closes 2 (some .int) 7 135 [.ref p_ML, .int x1] μ (qI q) qx := by
  refine xmet_of hst (by decide) (Nat.le_of_ble_eq_true rfl) (by intro v hv; simp only [List.mem_cons, List.not_mem_nil, or_false] at hv; rcases hv with rfl | rfl <;> rfl) ?_
  intro f hfl cx hr fx
  obtain ⟨q0, qx0, h0, hq0, hx0⟩ := h
  refine k_aload_n cx dL_closes_0 rfl rfl ?_
  refine k_iload_n cx dL_closes_1 rfl rfl ?_
  refine k_callXO (As := [.int x1]) (rest := []) cx fx (m_X7_end fx.2.2.2.1 h0) hx0 lk_L_10 cv_L_10 ob_ML rfl rfl rfl rfl (Nat.le_of_ble_eq_true rfl) ⟨Nat.le_of_ble_eq_true rfl, Nat.le_of_ble_eq_true rfl⟩ dL_closes_2 (fun v μ2 hq => ?_)
  obtain ⟨rfl, h⟩ := hq
  have cx6 : Cx g f cL_closes 2 RL 7 135 1 6 := ⟨cx.1, cx.2.1, cx.2.2.1, cx.2.2.2.1, cx.2.2.2.2.1, cx.2.2.2.2.2.1, cx.2.2.2.2.2.2.1, fx.2.1, fx.2.2.1⟩
  refine k_iconst (v := (0 : Int32)) cx6 dL_closes_5 (by decide +kernel) ?_
  exact k_xret6_I cx hr fx dL_closes_6 (hq0 _ h)

theorem dL_asks_0 : decode cL_asks 0 = .ok (.iload_n 1, 1) := by decide +kernel
theorem dL_asks_1 : decode cL_asks 1 = .ok (.ifCond .ne 11, 3) := by decide +kernel
theorem dL_asks_4 : decode cL_asks 4 = .ok (.aload_n 0, 1) := by decide +kernel
theorem dL_asks_5 : decode cL_asks 5 = .ok (.iload_n 2, 1) := by decide +kernel
theorem dL_asks_6 : decode cL_asks 6 = .ok (.invokevirtual 16, 3) := by decide +kernel
theorem dL_asks_9 : decode cL_asks 9 = .ok (.goto 99, 3) := by decide +kernel
theorem dL_asks_12 : decode cL_asks 12 = .ok (.iload_n 1, 1) := by decide +kernel
theorem dL_asks_13 : decode cL_asks 13 = .ok (.iconst 1, 1) := by decide +kernel
theorem dL_asks_14 : decode cL_asks 14 = .ok (.if_icmp .ne 14, 3) := by decide +kernel
theorem dL_asks_17 : decode cL_asks 17 = .ok (.aload_n 0, 1) := by decide +kernel
theorem dL_asks_18 : decode cL_asks 18 = .ok (.iload_n 2, 1) := by decide +kernel
theorem dL_asks_19 : decode cL_asks 19 = .ok (.iload_n 3, 1) := by decide +kernel
theorem dL_asks_20 : decode cL_asks 20 = .ok (.iload 4, 2) := by decide +kernel
theorem dL_asks_22 : decode cL_asks 22 = .ok (.invokevirtual 20, 3) := by decide +kernel
theorem dL_asks_25 : decode cL_asks 25 = .ok (.goto 83, 3) := by decide +kernel
theorem dL_asks_28 : decode cL_asks 28 = .ok (.iload_n 1, 1) := by decide +kernel
theorem dL_asks_29 : decode cL_asks 29 = .ok (.iconst 2, 1) := by decide +kernel
theorem dL_asks_30 : decode cL_asks 30 = .ok (.if_icmp .ne 12, 3) := by decide +kernel
theorem dL_asks_33 : decode cL_asks 33 = .ok (.aload_n 0, 1) := by decide +kernel
theorem dL_asks_34 : decode cL_asks 34 = .ok (.iload_n 2, 1) := by decide +kernel
theorem dL_asks_35 : decode cL_asks 35 = .ok (.iload_n 3, 1) := by decide +kernel
theorem dL_asks_36 : decode cL_asks 36 = .ok (.invokevirtual 24, 3) := by decide +kernel
theorem dL_asks_39 : decode cL_asks 39 = .ok (.goto 69, 3) := by decide +kernel
theorem dL_asks_42 : decode cL_asks 42 = .ok (.iload_n 1, 1) := by decide +kernel
theorem dL_asks_43 : decode cL_asks 43 = .ok (.iconst 3, 1) := by decide +kernel
theorem dL_asks_44 : decode cL_asks 44 = .ok (.if_icmp .ne 14, 3) := by decide +kernel
theorem dL_asks_47 : decode cL_asks 47 = .ok (.aload_n 0, 1) := by decide +kernel
theorem dL_asks_48 : decode cL_asks 48 = .ok (.iload_n 2, 1) := by decide +kernel
theorem dL_asks_49 : decode cL_asks 49 = .ok (.iload_n 3, 1) := by decide +kernel
theorem dL_asks_50 : decode cL_asks 50 = .ok (.iload 4, 2) := by decide +kernel
theorem dL_asks_52 : decode cL_asks 52 = .ok (.invokevirtual 28, 3) := by decide +kernel
theorem dL_asks_55 : decode cL_asks 55 = .ok (.goto 53, 3) := by decide +kernel
theorem dL_asks_58 : decode cL_asks 58 = .ok (.iload_n 1, 1) := by decide +kernel
theorem dL_asks_59 : decode cL_asks 59 = .ok (.iconst 4, 1) := by decide +kernel
theorem dL_asks_60 : decode cL_asks 60 = .ok (.if_icmp .ne 12, 3) := by decide +kernel
theorem dL_asks_63 : decode cL_asks 63 = .ok (.aload_n 0, 1) := by decide +kernel
theorem dL_asks_64 : decode cL_asks 64 = .ok (.iload_n 2, 1) := by decide +kernel
theorem dL_asks_65 : decode cL_asks 65 = .ok (.iload_n 3, 1) := by decide +kernel
theorem dL_asks_66 : decode cL_asks 66 = .ok (.invokevirtual 31, 3) := by decide +kernel
theorem dL_asks_69 : decode cL_asks 69 = .ok (.goto 39, 3) := by decide +kernel
theorem dL_asks_72 : decode cL_asks 72 = .ok (.iload_n 1, 1) := by decide +kernel
theorem dL_asks_73 : decode cL_asks 73 = .ok (.iconst 5, 1) := by decide +kernel
theorem dL_asks_74 : decode cL_asks 74 = .ok (.if_icmp .ne 11, 3) := by decide +kernel
theorem dL_asks_77 : decode cL_asks 77 = .ok (.aload_n 0, 1) := by decide +kernel
theorem dL_asks_78 : decode cL_asks 78 = .ok (.iload_n 2, 1) := by decide +kernel
theorem dL_asks_79 : decode cL_asks 79 = .ok (.invokestatic 34, 3) := by decide +kernel
theorem dL_asks_82 : decode cL_asks 82 = .ok (.goto 26, 3) := by decide +kernel
theorem dL_asks_85 : decode cL_asks 85 = .ok (.iload_n 1, 1) := by decide +kernel
theorem dL_asks_86 : decode cL_asks 86 = .ok (.bipush 6, 2) := by decide +kernel
theorem dL_asks_88 : decode cL_asks 88 = .ok (.if_icmp .ne 14, 3) := by decide +kernel
theorem dL_asks_91 : decode cL_asks 91 = .ok (.aload_n 0, 1) := by decide +kernel
theorem dL_asks_92 : decode cL_asks 92 = .ok (.iload_n 2, 1) := by decide +kernel
theorem dL_asks_93 : decode cL_asks 93 = .ok (.iload_n 3, 1) := by decide +kernel
theorem dL_asks_94 : decode cL_asks 94 = .ok (.iload 4, 2) := by decide +kernel
theorem dL_asks_96 : decode cL_asks 96 = .ok (.invokevirtual 40, 3) := by decide +kernel
theorem dL_asks_99 : decode cL_asks 99 = .ok (.goto 9, 3) := by decide +kernel
theorem dL_asks_102 : decode cL_asks 102 = .ok (.aload_n 0, 1) := by decide +kernel
theorem dL_asks_103 : decode cL_asks 103 = .ok (.iload_n 2, 1) := by decide +kernel
theorem dL_asks_104 : decode cL_asks 104 = .ok (.iload_n 3, 1) := by decide +kernel
theorem dL_asks_105 : decode cL_asks 105 = .ok (.invokevirtual 43, 3) := by decide +kernel
theorem dL_asks_108 : decode cL_asks 108 = .ok (.ireturn, 1) := by decide +kernel
theorem dL_asks_109 : decode cL_asks 109 = .ok (.astore 5, 2) := by decide +kernel
theorem dL_asks_111 : decode cL_asks 111 = .ok (.ldc 48, 2) := by decide +kernel
theorem dL_asks_113 : decode cL_asks 113 = .ok (.ireturn, 1) := by decide +kernel
theorem dL_asks_114 : decode cL_asks 114 = .ok (.astore 5, 2) := by decide +kernel
theorem dL_asks_116 : decode cL_asks 116 = .ok (.ldc 51, 2) := by decide +kernel
theorem dL_asks_118 : decode cL_asks 118 = .ok (.ireturn, 1) := by decide +kernel
theorem dL_asks_119 : decode cL_asks 119 = .ok (.astore 5, 2) := by decide +kernel
theorem dL_asks_121 : decode cL_asks 121 = .ok (.ldc 54, 2) := by decide +kernel
theorem dL_asks_123 : decode cL_asks 123 = .ok (.ireturn, 1) := by decide +kernel
theorem hd_105_eB : HD RL [(0, 108, 109, 46), (0, 108, 114, 49), (0, 108, 119, 52)] 105 "java/lang/IndexOutOfBoundsException" 109 := ⟨[], [⟨0, 108, 114, 49⟩, ⟨0, 108, 119, 52⟩], ⟨0, 108, 109, 46⟩, "java/lang/IndexOutOfBoundsException", rfl, (fun z hz => by cases hz), by decide +kernel, by decide, (om_tbl 489 (by decide +kernel) rfl), ext_mem 414 (by decide +kernel) rfl, rfl⟩
theorem hd_105_eA : HD RL [(0, 108, 109, 46), (0, 108, 114, 49), (0, 108, 119, 52)] 105 "java/lang/IllegalArgumentException" 114 := ⟨[⟨0, 108, 109, 46⟩], [⟨0, 108, 119, 52⟩], ⟨0, 108, 114, 49⟩, "java/lang/IllegalArgumentException", rfl, (by
    intro z hz; simp only [List.mem_cons, List.not_mem_nil, or_false] at hz; subst hz
    · exact Or.inr ⟨by decide, "java/lang/IndexOutOfBoundsException", (om_tbl 489 (by decide +kernel) rfl), by decide +kernel⟩), by decide +kernel, by decide, (om_tbl 490 (by decide +kernel) rfl), ext_mem 318 (by decide +kernel) rfl, rfl⟩
theorem hd_105_eS : HD RL [(0, 108, 109, 46), (0, 108, 114, 49), (0, 108, 119, 52)] 105 "java/lang/IllegalStateException" 119 := ⟨[⟨0, 108, 109, 46⟩, ⟨0, 108, 114, 49⟩], [], ⟨0, 108, 119, 52⟩, "java/lang/IllegalStateException", rfl, (by
    intro z hz; simp only [List.mem_cons, List.not_mem_nil, or_false] at hz; rcases hz with rfl | rfl
    · exact Or.inr ⟨by decide, "java/lang/IndexOutOfBoundsException", (om_tbl 489 (by decide +kernel) rfl), by decide +kernel⟩
    · exact Or.inr ⟨by decide, "java/lang/IllegalArgumentException", (om_tbl 490 (by decide +kernel) rfl), by decide +kernel⟩), by decide +kernel, by decide, (om_tbl 491 (by decide +kernel) rfl), ext_mem 386 (by decide +kernel) rfl, rfl⟩
theorem hd_96_eB : HD RL [(0, 108, 109, 46), (0, 108, 114, 49), (0, 108, 119, 52)] 96 "java/lang/IndexOutOfBoundsException" 109 := ⟨[], [⟨0, 108, 114, 49⟩, ⟨0, 108, 119, 52⟩], ⟨0, 108, 109, 46⟩, "java/lang/IndexOutOfBoundsException", rfl, (fun z hz => by cases hz), by decide +kernel, by decide, (om_tbl 489 (by decide +kernel) rfl), ext_mem 414 (by decide +kernel) rfl, rfl⟩
theorem hd_96_eA : HD RL [(0, 108, 109, 46), (0, 108, 114, 49), (0, 108, 119, 52)] 96 "java/lang/IllegalArgumentException" 114 := ⟨[⟨0, 108, 109, 46⟩], [⟨0, 108, 119, 52⟩], ⟨0, 108, 114, 49⟩, "java/lang/IllegalArgumentException", rfl, (by
    intro z hz; simp only [List.mem_cons, List.not_mem_nil, or_false] at hz; subst hz
    · exact Or.inr ⟨by decide, "java/lang/IndexOutOfBoundsException", (om_tbl 489 (by decide +kernel) rfl), by decide +kernel⟩), by decide +kernel, by decide, (om_tbl 490 (by decide +kernel) rfl), ext_mem 318 (by decide +kernel) rfl, rfl⟩
theorem hd_96_eS : HD RL [(0, 108, 109, 46), (0, 108, 114, 49), (0, 108, 119, 52)] 96 "java/lang/IllegalStateException" 119 := ⟨[⟨0, 108, 109, 46⟩, ⟨0, 108, 114, 49⟩], [], ⟨0, 108, 119, 52⟩, "java/lang/IllegalStateException", rfl, (by
    intro z hz; simp only [List.mem_cons, List.not_mem_nil, or_false] at hz; rcases hz with rfl | rfl
    · exact Or.inr ⟨by decide, "java/lang/IndexOutOfBoundsException", (om_tbl 489 (by decide +kernel) rfl), by decide +kernel⟩
    · exact Or.inr ⟨by decide, "java/lang/IllegalArgumentException", (om_tbl 490 (by decide +kernel) rfl), by decide +kernel⟩), by decide +kernel, by decide, (om_tbl 491 (by decide +kernel) rfl), ext_mem 386 (by decide +kernel) rfl, rfl⟩
theorem hd_79_eB : HD RL [(0, 108, 109, 46), (0, 108, 114, 49), (0, 108, 119, 52)] 79 "java/lang/IndexOutOfBoundsException" 109 := ⟨[], [⟨0, 108, 114, 49⟩, ⟨0, 108, 119, 52⟩], ⟨0, 108, 109, 46⟩, "java/lang/IndexOutOfBoundsException", rfl, (fun z hz => by cases hz), by decide +kernel, by decide, (om_tbl 489 (by decide +kernel) rfl), ext_mem 414 (by decide +kernel) rfl, rfl⟩
theorem hd_79_eA : HD RL [(0, 108, 109, 46), (0, 108, 114, 49), (0, 108, 119, 52)] 79 "java/lang/IllegalArgumentException" 114 := ⟨[⟨0, 108, 109, 46⟩], [⟨0, 108, 119, 52⟩], ⟨0, 108, 114, 49⟩, "java/lang/IllegalArgumentException", rfl, (by
    intro z hz; simp only [List.mem_cons, List.not_mem_nil, or_false] at hz; subst hz
    · exact Or.inr ⟨by decide, "java/lang/IndexOutOfBoundsException", (om_tbl 489 (by decide +kernel) rfl), by decide +kernel⟩), by decide +kernel, by decide, (om_tbl 490 (by decide +kernel) rfl), ext_mem 318 (by decide +kernel) rfl, rfl⟩
theorem hd_79_eS : HD RL [(0, 108, 109, 46), (0, 108, 114, 49), (0, 108, 119, 52)] 79 "java/lang/IllegalStateException" 119 := ⟨[⟨0, 108, 109, 46⟩, ⟨0, 108, 114, 49⟩], [], ⟨0, 108, 119, 52⟩, "java/lang/IllegalStateException", rfl, (by
    intro z hz; simp only [List.mem_cons, List.not_mem_nil, or_false] at hz; rcases hz with rfl | rfl
    · exact Or.inr ⟨by decide, "java/lang/IndexOutOfBoundsException", (om_tbl 489 (by decide +kernel) rfl), by decide +kernel⟩
    · exact Or.inr ⟨by decide, "java/lang/IllegalArgumentException", (om_tbl 490 (by decide +kernel) rfl), by decide +kernel⟩), by decide +kernel, by decide, (om_tbl 491 (by decide +kernel) rfl), ext_mem 386 (by decide +kernel) rfl, rfl⟩
theorem hd_66_eB : HD RL [(0, 108, 109, 46), (0, 108, 114, 49), (0, 108, 119, 52)] 66 "java/lang/IndexOutOfBoundsException" 109 := ⟨[], [⟨0, 108, 114, 49⟩, ⟨0, 108, 119, 52⟩], ⟨0, 108, 109, 46⟩, "java/lang/IndexOutOfBoundsException", rfl, (fun z hz => by cases hz), by decide +kernel, by decide, (om_tbl 489 (by decide +kernel) rfl), ext_mem 414 (by decide +kernel) rfl, rfl⟩
theorem hd_66_eA : HD RL [(0, 108, 109, 46), (0, 108, 114, 49), (0, 108, 119, 52)] 66 "java/lang/IllegalArgumentException" 114 := ⟨[⟨0, 108, 109, 46⟩], [⟨0, 108, 119, 52⟩], ⟨0, 108, 114, 49⟩, "java/lang/IllegalArgumentException", rfl, (by
    intro z hz; simp only [List.mem_cons, List.not_mem_nil, or_false] at hz; subst hz
    · exact Or.inr ⟨by decide, "java/lang/IndexOutOfBoundsException", (om_tbl 489 (by decide +kernel) rfl), by decide +kernel⟩), by decide +kernel, by decide, (om_tbl 490 (by decide +kernel) rfl), ext_mem 318 (by decide +kernel) rfl, rfl⟩
theorem hd_66_eS : HD RL [(0, 108, 109, 46), (0, 108, 114, 49), (0, 108, 119, 52)] 66 "java/lang/IllegalStateException" 119 := ⟨[⟨0, 108, 109, 46⟩, ⟨0, 108, 114, 49⟩], [], ⟨0, 108, 119, 52⟩, "java/lang/IllegalStateException", rfl, (by
    intro z hz; simp only [List.mem_cons, List.not_mem_nil, or_false] at hz; rcases hz with rfl | rfl
    · exact Or.inr ⟨by decide, "java/lang/IndexOutOfBoundsException", (om_tbl 489 (by decide +kernel) rfl), by decide +kernel⟩
    · exact Or.inr ⟨by decide, "java/lang/IllegalArgumentException", (om_tbl 490 (by decide +kernel) rfl), by decide +kernel⟩), by decide +kernel, by decide, (om_tbl 491 (by decide +kernel) rfl), ext_mem 386 (by decide +kernel) rfl, rfl⟩
theorem hd_52_eB : HD RL [(0, 108, 109, 46), (0, 108, 114, 49), (0, 108, 119, 52)] 52 "java/lang/IndexOutOfBoundsException" 109 := ⟨[], [⟨0, 108, 114, 49⟩, ⟨0, 108, 119, 52⟩], ⟨0, 108, 109, 46⟩, "java/lang/IndexOutOfBoundsException", rfl, (fun z hz => by cases hz), by decide +kernel, by decide, (om_tbl 489 (by decide +kernel) rfl), ext_mem 414 (by decide +kernel) rfl, rfl⟩
theorem hd_52_eA : HD RL [(0, 108, 109, 46), (0, 108, 114, 49), (0, 108, 119, 52)] 52 "java/lang/IllegalArgumentException" 114 := ⟨[⟨0, 108, 109, 46⟩], [⟨0, 108, 119, 52⟩], ⟨0, 108, 114, 49⟩, "java/lang/IllegalArgumentException", rfl, (by
    intro z hz; simp only [List.mem_cons, List.not_mem_nil, or_false] at hz; subst hz
    · exact Or.inr ⟨by decide, "java/lang/IndexOutOfBoundsException", (om_tbl 489 (by decide +kernel) rfl), by decide +kernel⟩), by decide +kernel, by decide, (om_tbl 490 (by decide +kernel) rfl), ext_mem 318 (by decide +kernel) rfl, rfl⟩
theorem hd_52_eS : HD RL [(0, 108, 109, 46), (0, 108, 114, 49), (0, 108, 119, 52)] 52 "java/lang/IllegalStateException" 119 := ⟨[⟨0, 108, 109, 46⟩, ⟨0, 108, 114, 49⟩], [], ⟨0, 108, 119, 52⟩, "java/lang/IllegalStateException", rfl, (by
    intro z hz; simp only [List.mem_cons, List.not_mem_nil, or_false] at hz; rcases hz with rfl | rfl
    · exact Or.inr ⟨by decide, "java/lang/IndexOutOfBoundsException", (om_tbl 489 (by decide +kernel) rfl), by decide +kernel⟩
    · exact Or.inr ⟨by decide, "java/lang/IllegalArgumentException", (om_tbl 490 (by decide +kernel) rfl), by decide +kernel⟩), by decide +kernel, by decide, (om_tbl 491 (by decide +kernel) rfl), ext_mem 386 (by decide +kernel) rfl, rfl⟩
theorem hd_36_eB : HD RL [(0, 108, 109, 46), (0, 108, 114, 49), (0, 108, 119, 52)] 36 "java/lang/IndexOutOfBoundsException" 109 := ⟨[], [⟨0, 108, 114, 49⟩, ⟨0, 108, 119, 52⟩], ⟨0, 108, 109, 46⟩, "java/lang/IndexOutOfBoundsException", rfl, (fun z hz => by cases hz), by decide +kernel, by decide, (om_tbl 489 (by decide +kernel) rfl), ext_mem 414 (by decide +kernel) rfl, rfl⟩
theorem hd_36_eA : HD RL [(0, 108, 109, 46), (0, 108, 114, 49), (0, 108, 119, 52)] 36 "java/lang/IllegalArgumentException" 114 := ⟨[⟨0, 108, 109, 46⟩], [⟨0, 108, 119, 52⟩], ⟨0, 108, 114, 49⟩, "java/lang/IllegalArgumentException", rfl, (by
    intro z hz; simp only [List.mem_cons, List.not_mem_nil, or_false] at hz; subst hz
    · exact Or.inr ⟨by decide, "java/lang/IndexOutOfBoundsException", (om_tbl 489 (by decide +kernel) rfl), by decide +kernel⟩), by decide +kernel, by decide, (om_tbl 490 (by decide +kernel) rfl), ext_mem 318 (by decide +kernel) rfl, rfl⟩
theorem hd_36_eS : HD RL [(0, 108, 109, 46), (0, 108, 114, 49), (0, 108, 119, 52)] 36 "java/lang/IllegalStateException" 119 := ⟨[⟨0, 108, 109, 46⟩, ⟨0, 108, 114, 49⟩], [], ⟨0, 108, 119, 52⟩, "java/lang/IllegalStateException", rfl, (by
    intro z hz; simp only [List.mem_cons, List.not_mem_nil, or_false] at hz; rcases hz with rfl | rfl
    · exact Or.inr ⟨by decide, "java/lang/IndexOutOfBoundsException", (om_tbl 489 (by decide +kernel) rfl), by decide +kernel⟩
    · exact Or.inr ⟨by decide, "java/lang/IllegalArgumentException", (om_tbl 490 (by decide +kernel) rfl), by decide +kernel⟩), by decide +kernel, by decide, (om_tbl 491 (by decide +kernel) rfl), ext_mem 386 (by decide +kernel) rfl, rfl⟩
theorem hd_22_eB : HD RL [(0, 108, 109, 46), (0, 108, 114, 49), (0, 108, 119, 52)] 22 "java/lang/IndexOutOfBoundsException" 109 := ⟨[], [⟨0, 108, 114, 49⟩, ⟨0, 108, 119, 52⟩], ⟨0, 108, 109, 46⟩, "java/lang/IndexOutOfBoundsException", rfl, (fun z hz => by cases hz), by decide +kernel, by decide, (om_tbl 489 (by decide +kernel) rfl), ext_mem 414 (by decide +kernel) rfl, rfl⟩
theorem hd_22_eA : HD RL [(0, 108, 109, 46), (0, 108, 114, 49), (0, 108, 119, 52)] 22 "java/lang/IllegalArgumentException" 114 := ⟨[⟨0, 108, 109, 46⟩], [⟨0, 108, 119, 52⟩], ⟨0, 108, 114, 49⟩, "java/lang/IllegalArgumentException", rfl, (by
    intro z hz; simp only [List.mem_cons, List.not_mem_nil, or_false] at hz; subst hz
    · exact Or.inr ⟨by decide, "java/lang/IndexOutOfBoundsException", (om_tbl 489 (by decide +kernel) rfl), by decide +kernel⟩), by decide +kernel, by decide, (om_tbl 490 (by decide +kernel) rfl), ext_mem 318 (by decide +kernel) rfl, rfl⟩
theorem hd_22_eS : HD RL [(0, 108, 109, 46), (0, 108, 114, 49), (0, 108, 119, 52)] 22 "java/lang/IllegalStateException" 119 := ⟨[⟨0, 108, 109, 46⟩, ⟨0, 108, 114, 49⟩], [], ⟨0, 108, 119, 52⟩, "java/lang/IllegalStateException", rfl, (by
    intro z hz; simp only [List.mem_cons, List.not_mem_nil, or_false] at hz; rcases hz with rfl | rfl
    · exact Or.inr ⟨by decide, "java/lang/IndexOutOfBoundsException", (om_tbl 489 (by decide +kernel) rfl), by decide +kernel⟩
    · exact Or.inr ⟨by decide, "java/lang/IllegalArgumentException", (om_tbl 490 (by decide +kernel) rfl), by decide +kernel⟩), by decide +kernel, by decide, (om_tbl 491 (by decide +kernel) rfl), ext_mem 386 (by decide +kernel) rfl, rfl⟩
theorem hd_6_eB : HD RL [(0, 108, 109, 46), (0, 108, 114, 49), (0, 108, 119, 52)] 6 "java/lang/IndexOutOfBoundsException" 109 := ⟨[], [⟨0, 108, 114, 49⟩, ⟨0, 108, 119, 52⟩], ⟨0, 108, 109, 46⟩, "java/lang/IndexOutOfBoundsException", rfl, (fun z hz => by cases hz), by decide +kernel, by decide, (om_tbl 489 (by decide +kernel) rfl), ext_mem 414 (by decide +kernel) rfl, rfl⟩
theorem hd_6_eA : HD RL [(0, 108, 109, 46), (0, 108, 114, 49), (0, 108, 119, 52)] 6 "java/lang/IllegalArgumentException" 114 := ⟨[⟨0, 108, 109, 46⟩], [⟨0, 108, 119, 52⟩], ⟨0, 108, 114, 49⟩, "java/lang/IllegalArgumentException", rfl, (by
    intro z hz; simp only [List.mem_cons, List.not_mem_nil, or_false] at hz; subst hz
    · exact Or.inr ⟨by decide, "java/lang/IndexOutOfBoundsException", (om_tbl 489 (by decide +kernel) rfl), by decide +kernel⟩), by decide +kernel, by decide, (om_tbl 490 (by decide +kernel) rfl), ext_mem 318 (by decide +kernel) rfl, rfl⟩
theorem hd_6_eS : HD RL [(0, 108, 109, 46), (0, 108, 114, 49), (0, 108, 119, 52)] 6 "java/lang/IllegalStateException" 119 := ⟨[⟨0, 108, 109, 46⟩, ⟨0, 108, 114, 49⟩], [], ⟨0, 108, 119, 52⟩, "java/lang/IllegalStateException", rfl, (by
    intro z hz; simp only [List.mem_cons, List.not_mem_nil, or_false] at hz; rcases hz with rfl | rfl
    · exact Or.inr ⟨by decide, "java/lang/IndexOutOfBoundsException", (om_tbl 489 (by decide +kernel) rfl), by decide +kernel⟩
    · exact Or.inr ⟨by decide, "java/lang/IllegalArgumentException", (om_tbl 490 (by decide +kernel) rfl), by decide +kernel⟩), by decide +kernel, by decide, (om_tbl 491 (by decide +kernel) rfl), ext_mem 386 (by decide +kernel) rfl, rfl⟩
def Wp_L_asks (x1 x2 x3 x4 : Int32) (μ : Mm) (q : Int32 → Mm → Prop) : Prop :=
  ((¬ (x1 = 0) → ((¬ (x1 = (1 : Int32)) → ((¬ (x1 = (2 : Int32)) → ((¬ (x1 = (3 : Int32)) → ((¬ (x1 = (4 : Int32)) → ((¬ (x1 = (5 : Int32)) → ((¬ (x1 = (6 : Int32)) → T_X7_told x2 x3 μ (fun z μ2 => q z μ2) (fun E μx => (E = "java/lang/IndexOutOfBoundsException" ∧ q (-70007 : Int32) μx) ∨ (E = "java/lang/IllegalArgumentException" ∧ q (-70009 : Int32) μx) ∨ (E = "java/lang/IllegalStateException" ∧ q (-70008 : Int32) μx))) ∧ (x1 = (6 : Int32) → T_X7_move x2 x3 x4 μ (fun z μ2 => q z μ2) (fun E μx => (E = "java/lang/IndexOutOfBoundsException" ∧ q (-70007 : Int32) μx) ∨ (E = "java/lang/IllegalArgumentException" ∧ q (-70009 : Int32) μx) ∨ (E = "java/lang/IllegalStateException" ∧ q (-70008 : Int32) μx))))) ∧ (x1 = (5 : Int32) → Wp_L_closes x2 μ (fun z μ2 => q z μ2) (fun E μx => (E = "java/lang/IndexOutOfBoundsException" ∧ q (-70007 : Int32) μx) ∨ (E = "java/lang/IllegalArgumentException" ∧ q (-70009 : Int32) μx) ∨ (E = "java/lang/IllegalStateException" ∧ q (-70008 : Int32) μx))))) ∧ (x1 = (4 : Int32) → T_X7_place x2 x3 μ (fun z μ2 => q z μ2) (fun E μx => (E = "java/lang/IndexOutOfBoundsException" ∧ q (-70007 : Int32) μx) ∨ (E = "java/lang/IllegalArgumentException" ∧ q (-70009 : Int32) μx) ∨ (E = "java/lang/IllegalStateException" ∧ q (-70008 : Int32) μx))))) ∧ (x1 = (3 : Int32) → T_X7_line x2 x3 x4 μ (fun z μ2 => q z μ2) (fun E μx => (E = "java/lang/IndexOutOfBoundsException" ∧ q (-70007 : Int32) μx) ∨ (E = "java/lang/IllegalArgumentException" ∧ q (-70009 : Int32) μx) ∨ (E = "java/lang/IllegalStateException" ∧ q (-70008 : Int32) μx))))) ∧ (x1 = (2 : Int32) → T_X7_part x2 x3 μ (fun z μ2 => q z μ2) (fun E μx => (E = "java/lang/IndexOutOfBoundsException" ∧ q (-70007 : Int32) μx) ∨ (E = "java/lang/IllegalArgumentException" ∧ q (-70009 : Int32) μx) ∨ (E = "java/lang/IllegalStateException" ∧ q (-70008 : Int32) μx))))) ∧ (x1 = (1 : Int32) → T_X7_link x2 x3 x4 μ (fun z μ2 => q z μ2) (fun E μx => (E = "java/lang/IndexOutOfBoundsException" ∧ q (-70007 : Int32) μx) ∨ (E = "java/lang/IllegalArgumentException" ∧ q (-70009 : Int32) μx) ∨ (E = "java/lang/IllegalStateException" ∧ q (-70008 : Int32) μx))))) ∧ (x1 = 0 → T_X7_node x2 μ (fun z μ2 => q z μ2) (fun E μx => (E = "java/lang/IndexOutOfBoundsException" ∧ q (-70007 : Int32) μx) ∨ (E = "java/lang/IllegalArgumentException" ∧ q (-70009 : Int32) μx) ∨ (E = "java/lang/IllegalStateException" ∧ q (-70008 : Int32) μx))))
set_option maxHeartbeats 2000000 in
theorem m_L_asks {g : GE} {l : Launch} (hst : l.stackTraces = false) {μ : Mm} {q : Int32 → Mm → Prop} {x1 x2 x3 x4 : Int32} (h : Wp_L_asks x1 x2 x3 x4 μ q) : MH g l yL_asks cL_asks 6 (some .int) [(0, 108, 109, 46), (0, 108, 114, 49), (0, 108, 119, 52)] 11 271 [.ref p_ML, .int x1, .int x2, .int x3, .int x4] μ (qI q) := by
  refine hmet_of hst (by decide) (Nat.le_of_ble_eq_true rfl) (by intro v hv; simp only [List.mem_cons, List.not_mem_nil, or_false] at hv; rcases hv with rfl | rfl | rfl | rfl | rfl <;> rfl) ?_
  intro f hfl cx cx6 hr hx
  unfold Wp_L_asks at h
  show KW g f 6 0 0 0 [some (.ref p_ML), some (.int x1), some (.int x2), some (.int x3), some (.int x4), none] [] μ
  refine k_iload_n cx dL_asks_0 rfl rfl ?_
  refine k_if_ne (tgt := 12) cx dL_asks_1 (by decide) (fun hc => ?_) (fun hc => ?_)
  · replace h := h.1 hc
    refine k_iload_n cx dL_asks_12 rfl rfl ?_
    refine k_iconst (v := (1 : Int32)) cx dL_asks_13 (by decide +kernel) ?_
    refine k_icmp_ne (tgt := 28) cx dL_asks_14 (by decide) (fun hc => ?_) (fun hc => ?_)
    · replace h := h.1 hc
      refine k_iload_n cx dL_asks_28 rfl rfl ?_
      refine k_iconst (v := (2 : Int32)) cx dL_asks_29 (by decide +kernel) ?_
      refine k_icmp_ne (tgt := 42) cx dL_asks_30 (by decide) (fun hc => ?_) (fun hc => ?_)
      · replace h := h.1 hc
        refine k_iload_n cx dL_asks_42 rfl rfl ?_
        refine k_iconst (v := (3 : Int32)) cx dL_asks_43 (by decide +kernel) ?_
        refine k_icmp_ne (tgt := 58) cx dL_asks_44 (by decide) (fun hc => ?_) (fun hc => ?_)
        · replace h := h.1 hc
          refine k_iload_n cx dL_asks_58 rfl rfl ?_
          refine k_iconst (v := (4 : Int32)) cx dL_asks_59 (by decide +kernel) ?_
          refine k_icmp_ne (tgt := 72) cx dL_asks_60 (by decide) (fun hc => ?_) (fun hc => ?_)
          · replace h := h.1 hc
            refine k_iload_n cx dL_asks_72 rfl rfl ?_
            refine k_iconst (v := (5 : Int32)) cx dL_asks_73 (by decide +kernel) ?_
            refine k_icmp_ne (tgt := 85) cx dL_asks_74 (by decide) (fun hc => ?_) (fun hc => ?_)
            · replace h := h.1 hc
              refine k_iload_n cx dL_asks_85 rfl rfl ?_
              refine k_bipush (v := (6 : Int32)) cx dL_asks_86 (by decide +kernel) ?_
              refine k_icmp_ne (tgt := 102) cx dL_asks_88 (by decide) (fun hc => ?_) (fun hc => ?_)
              · replace h := h.1 hc
                refine k_aload_n cx dL_asks_102 rfl rfl ?_
                refine k_iload_n cx dL_asks_103 rfl rfl ?_
                refine k_iload_n cx dL_asks_104 rfl rfl ?_
                obtain ⟨q0, qx0, h0, hq0, hx0⟩ := h
                refine k_callX (As := [.int x2, .int x3]) (rest := []) cx hx (m_X7_told hx.2.2.2.2.1 h0) lk_L_43 cv_L_43 ob_ML rfl rfl rfl rfl (Nat.le_of_ble_eq_true rfl) ⟨Nat.le_of_ble_eq_true rfl, Nat.le_of_ble_eq_true rfl⟩ dL_asks_105 (fun E μx hq => ?_) (fun v μ2 hq => ?_)
                · rcases hx0 _ _ hq with ⟨rfl, h⟩ | ⟨rfl, h⟩ | ⟨rfl, h⟩
                  · refine ⟨109, hd_105_eB, 5, by decide, Or.inr ⟨dL_asks_109, ?_⟩⟩
                    refine k_ldc (v := (-70007 : Int32)) cx6 kc_L_48 dL_asks_111 ?_
                    exact k_hret_I cx6 hr hx dL_asks_113 h
                  · refine ⟨114, hd_105_eA, 5, by decide, Or.inr ⟨dL_asks_114, ?_⟩⟩
                    refine k_ldc (v := (-70009 : Int32)) cx6 kc_L_51 dL_asks_116 ?_
                    exact k_hret_I cx6 hr hx dL_asks_118 h
                  · refine ⟨119, hd_105_eS, 5, by decide, Or.inr ⟨dL_asks_119, ?_⟩⟩
                    refine k_ldc (v := (-70008 : Int32)) cx6 kc_L_54 dL_asks_121 ?_
                    exact k_hret_I cx6 hr hx dL_asks_123 h
                · obtain ⟨z, rfl, h⟩ := hq
                  replace h := hq0 _ _ h
                  exact k_hret_I cx6 hr hx dL_asks_108 h
              · replace h := h.2 hc
                refine k_aload_n cx dL_asks_91 rfl rfl ?_
                refine k_iload_n cx dL_asks_92 rfl rfl ?_
                refine k_iload_n cx dL_asks_93 rfl rfl ?_
                refine k_iload cx dL_asks_94 rfl ?_
                obtain ⟨q0, qx0, h0, hq0, hx0⟩ := h
                refine k_callX (As := [.int x2, .int x3, .int x4]) (rest := []) cx hx (m_X7_move hx.2.2.2.2.1 h0) lk_L_40 cv_L_40 ob_ML rfl rfl rfl rfl (Nat.le_of_ble_eq_true rfl) ⟨Nat.le_of_ble_eq_true rfl, Nat.le_of_ble_eq_true rfl⟩ dL_asks_96 (fun E μx hq => ?_) (fun v μ2 hq => ?_)
                · rcases hx0 _ _ hq with ⟨rfl, h⟩ | ⟨rfl, h⟩ | ⟨rfl, h⟩
                  · refine ⟨109, hd_96_eB, 5, by decide, Or.inr ⟨dL_asks_109, ?_⟩⟩
                    refine k_ldc (v := (-70007 : Int32)) cx6 kc_L_48 dL_asks_111 ?_
                    exact k_hret_I cx6 hr hx dL_asks_113 h
                  · refine ⟨114, hd_96_eA, 5, by decide, Or.inr ⟨dL_asks_114, ?_⟩⟩
                    refine k_ldc (v := (-70009 : Int32)) cx6 kc_L_51 dL_asks_116 ?_
                    exact k_hret_I cx6 hr hx dL_asks_118 h
                  · refine ⟨119, hd_96_eS, 5, by decide, Or.inr ⟨dL_asks_119, ?_⟩⟩
                    refine k_ldc (v := (-70008 : Int32)) cx6 kc_L_54 dL_asks_121 ?_
                    exact k_hret_I cx6 hr hx dL_asks_123 h
                · obtain ⟨z, rfl, h⟩ := hq
                  replace h := hq0 _ _ h
                  refine k_goto (tgt := 108) cx6 dL_asks_99 (by decide) ?_
                  exact k_hret_I cx6 hr hx dL_asks_108 h
            · replace h := h.2 hc
              refine k_aload_n cx dL_asks_77 rfl rfl ?_
              refine k_iload_n cx dL_asks_78 rfl rfl ?_
              refine k_callXs (As := [.ref p_ML, .int x2]) (rest := []) cx hx (m_L_closes hx.2.2.2.2.1 h) cs_L_closes rfl rfl (Nat.le_of_ble_eq_true rfl) ⟨Nat.le_of_ble_eq_true rfl, Nat.le_of_ble_eq_true rfl⟩ dL_asks_79 (fun E μx hq => ?_) (fun v μ2 hq => ?_)
              · rcases hq with ⟨rfl, h⟩ | ⟨rfl, h⟩ | ⟨rfl, h⟩
                · refine ⟨109, hd_79_eB, 5, by decide, Or.inr ⟨dL_asks_109, ?_⟩⟩
                  refine k_ldc (v := (-70007 : Int32)) cx6 kc_L_48 dL_asks_111 ?_
                  exact k_hret_I cx6 hr hx dL_asks_113 h
                · refine ⟨114, hd_79_eA, 5, by decide, Or.inr ⟨dL_asks_114, ?_⟩⟩
                  refine k_ldc (v := (-70009 : Int32)) cx6 kc_L_51 dL_asks_116 ?_
                  exact k_hret_I cx6 hr hx dL_asks_118 h
                · refine ⟨119, hd_79_eS, 5, by decide, Or.inr ⟨dL_asks_119, ?_⟩⟩
                  refine k_ldc (v := (-70008 : Int32)) cx6 kc_L_54 dL_asks_121 ?_
                  exact k_hret_I cx6 hr hx dL_asks_123 h
              · obtain ⟨z, rfl, h⟩ := hq
                refine k_goto (tgt := 108) cx6 dL_asks_82 (by decide) ?_
                exact k_hret_I cx6 hr hx dL_asks_108 h
          · replace h := h.2 hc
            refine k_aload_n cx dL_asks_63 rfl rfl ?_
            refine k_iload_n cx dL_asks_64 rfl rfl ?_
            refine k_iload_n cx dL_asks_65 rfl rfl ?_
            obtain ⟨q0, qx0, h0, hq0, hx0⟩ := h
            refine k_callX (As := [.int x2, .int x3]) (rest := []) cx hx (m_X7_place hx.2.2.2.2.1 h0) lk_L_31 cv_L_31 ob_ML rfl rfl rfl rfl (Nat.le_of_ble_eq_true rfl) ⟨Nat.le_of_ble_eq_true rfl, Nat.le_of_ble_eq_true rfl⟩ dL_asks_66 (fun E μx hq => ?_) (fun v μ2 hq => ?_)
            · rcases hx0 _ _ hq with ⟨rfl, h⟩ | ⟨rfl, h⟩ | ⟨rfl, h⟩
              · refine ⟨109, hd_66_eB, 5, by decide, Or.inr ⟨dL_asks_109, ?_⟩⟩
                refine k_ldc (v := (-70007 : Int32)) cx6 kc_L_48 dL_asks_111 ?_
                exact k_hret_I cx6 hr hx dL_asks_113 h
              · refine ⟨114, hd_66_eA, 5, by decide, Or.inr ⟨dL_asks_114, ?_⟩⟩
                refine k_ldc (v := (-70009 : Int32)) cx6 kc_L_51 dL_asks_116 ?_
                exact k_hret_I cx6 hr hx dL_asks_118 h
              · refine ⟨119, hd_66_eS, 5, by decide, Or.inr ⟨dL_asks_119, ?_⟩⟩
                refine k_ldc (v := (-70008 : Int32)) cx6 kc_L_54 dL_asks_121 ?_
                exact k_hret_I cx6 hr hx dL_asks_123 h
            · obtain ⟨z, rfl, h⟩ := hq
              replace h := hq0 _ _ h
              refine k_goto (tgt := 108) cx6 dL_asks_69 (by decide) ?_
              exact k_hret_I cx6 hr hx dL_asks_108 h
        · replace h := h.2 hc
          refine k_aload_n cx dL_asks_47 rfl rfl ?_
          refine k_iload_n cx dL_asks_48 rfl rfl ?_
          refine k_iload_n cx dL_asks_49 rfl rfl ?_
          refine k_iload cx dL_asks_50 rfl ?_
          obtain ⟨q0, qx0, h0, hq0, hx0⟩ := h
          refine k_callX (As := [.int x2, .int x3, .int x4]) (rest := []) cx hx (m_X7_line hx.2.2.2.2.1 h0) lk_L_28 cv_L_28 ob_ML rfl rfl rfl rfl (Nat.le_of_ble_eq_true rfl) ⟨Nat.le_of_ble_eq_true rfl, Nat.le_of_ble_eq_true rfl⟩ dL_asks_52 (fun E μx hq => ?_) (fun v μ2 hq => ?_)
          · rcases hx0 _ _ hq with ⟨rfl, h⟩ | ⟨rfl, h⟩ | ⟨rfl, h⟩
            · refine ⟨109, hd_52_eB, 5, by decide, Or.inr ⟨dL_asks_109, ?_⟩⟩
              refine k_ldc (v := (-70007 : Int32)) cx6 kc_L_48 dL_asks_111 ?_
              exact k_hret_I cx6 hr hx dL_asks_113 h
            · refine ⟨114, hd_52_eA, 5, by decide, Or.inr ⟨dL_asks_114, ?_⟩⟩
              refine k_ldc (v := (-70009 : Int32)) cx6 kc_L_51 dL_asks_116 ?_
              exact k_hret_I cx6 hr hx dL_asks_118 h
            · refine ⟨119, hd_52_eS, 5, by decide, Or.inr ⟨dL_asks_119, ?_⟩⟩
              refine k_ldc (v := (-70008 : Int32)) cx6 kc_L_54 dL_asks_121 ?_
              exact k_hret_I cx6 hr hx dL_asks_123 h
          · obtain ⟨z, rfl, h⟩ := hq
            replace h := hq0 _ _ h
            refine k_goto (tgt := 108) cx6 dL_asks_55 (by decide) ?_
            exact k_hret_I cx6 hr hx dL_asks_108 h
      · replace h := h.2 hc
        refine k_aload_n cx dL_asks_33 rfl rfl ?_
        refine k_iload_n cx dL_asks_34 rfl rfl ?_
        refine k_iload_n cx dL_asks_35 rfl rfl ?_
        obtain ⟨q0, qx0, h0, hq0, hx0⟩ := h
        refine k_callX (As := [.int x2, .int x3]) (rest := []) cx hx (m_X7_part hx.2.2.2.2.1 h0) lk_L_24 cv_L_24 ob_ML rfl rfl rfl rfl (Nat.le_of_ble_eq_true rfl) ⟨Nat.le_of_ble_eq_true rfl, Nat.le_of_ble_eq_true rfl⟩ dL_asks_36 (fun E μx hq => ?_) (fun v μ2 hq => ?_)
        · rcases hx0 _ _ hq with ⟨rfl, h⟩ | ⟨rfl, h⟩ | ⟨rfl, h⟩
          · refine ⟨109, hd_36_eB, 5, by decide, Or.inr ⟨dL_asks_109, ?_⟩⟩
            refine k_ldc (v := (-70007 : Int32)) cx6 kc_L_48 dL_asks_111 ?_
            exact k_hret_I cx6 hr hx dL_asks_113 h
          · refine ⟨114, hd_36_eA, 5, by decide, Or.inr ⟨dL_asks_114, ?_⟩⟩
            refine k_ldc (v := (-70009 : Int32)) cx6 kc_L_51 dL_asks_116 ?_
            exact k_hret_I cx6 hr hx dL_asks_118 h
          · refine ⟨119, hd_36_eS, 5, by decide, Or.inr ⟨dL_asks_119, ?_⟩⟩
            refine k_ldc (v := (-70008 : Int32)) cx6 kc_L_54 dL_asks_121 ?_
            exact k_hret_I cx6 hr hx dL_asks_123 h
        · obtain ⟨z, rfl, h⟩ := hq
          replace h := hq0 _ _ h
          refine k_goto (tgt := 108) cx6 dL_asks_39 (by decide) ?_
          exact k_hret_I cx6 hr hx dL_asks_108 h
    · replace h := h.2 hc
      refine k_aload_n cx dL_asks_17 rfl rfl ?_
      refine k_iload_n cx dL_asks_18 rfl rfl ?_
      refine k_iload_n cx dL_asks_19 rfl rfl ?_
      refine k_iload cx dL_asks_20 rfl ?_
      obtain ⟨q0, qx0, h0, hq0, hx0⟩ := h
      refine k_callX (As := [.int x2, .int x3, .int x4]) (rest := []) cx hx (m_X7_link hx.2.2.2.2.1 h0) lk_L_20 cv_L_20 ob_ML rfl rfl rfl rfl (Nat.le_of_ble_eq_true rfl) ⟨Nat.le_of_ble_eq_true rfl, Nat.le_of_ble_eq_true rfl⟩ dL_asks_22 (fun E μx hq => ?_) (fun v μ2 hq => ?_)
      · rcases hx0 _ _ hq with ⟨rfl, h⟩ | ⟨rfl, h⟩ | ⟨rfl, h⟩
        · refine ⟨109, hd_22_eB, 5, by decide, Or.inr ⟨dL_asks_109, ?_⟩⟩
          refine k_ldc (v := (-70007 : Int32)) cx6 kc_L_48 dL_asks_111 ?_
          exact k_hret_I cx6 hr hx dL_asks_113 h
        · refine ⟨114, hd_22_eA, 5, by decide, Or.inr ⟨dL_asks_114, ?_⟩⟩
          refine k_ldc (v := (-70009 : Int32)) cx6 kc_L_51 dL_asks_116 ?_
          exact k_hret_I cx6 hr hx dL_asks_118 h
        · refine ⟨119, hd_22_eS, 5, by decide, Or.inr ⟨dL_asks_119, ?_⟩⟩
          refine k_ldc (v := (-70008 : Int32)) cx6 kc_L_54 dL_asks_121 ?_
          exact k_hret_I cx6 hr hx dL_asks_123 h
      · obtain ⟨z, rfl, h⟩ := hq
        replace h := hq0 _ _ h
        refine k_goto (tgt := 108) cx6 dL_asks_25 (by decide) ?_
        exact k_hret_I cx6 hr hx dL_asks_108 h
  · replace h := h.2 hc
    refine k_aload_n cx dL_asks_4 rfl rfl ?_
    refine k_iload_n cx dL_asks_5 rfl rfl ?_
    obtain ⟨q0, qx0, h0, hq0, hx0⟩ := h
    refine k_callX (As := [.int x2]) (rest := []) cx hx (m_X7_node hx.2.2.2.2.1 h0) lk_L_16 cv_L_16 ob_ML rfl rfl rfl rfl (Nat.le_of_ble_eq_true rfl) ⟨Nat.le_of_ble_eq_true rfl, Nat.le_of_ble_eq_true rfl⟩ dL_asks_6 (fun E μx hq => ?_) (fun v μ2 hq => ?_)
    · rcases hx0 _ _ hq with ⟨rfl, h⟩ | ⟨rfl, h⟩ | ⟨rfl, h⟩
      · refine ⟨109, hd_6_eB, 5, by decide, Or.inr ⟨dL_asks_109, ?_⟩⟩
        refine k_ldc (v := (-70007 : Int32)) cx6 kc_L_48 dL_asks_111 ?_
        exact k_hret_I cx6 hr hx dL_asks_113 h
      · refine ⟨114, hd_6_eA, 5, by decide, Or.inr ⟨dL_asks_114, ?_⟩⟩
        refine k_ldc (v := (-70009 : Int32)) cx6 kc_L_51 dL_asks_116 ?_
        exact k_hret_I cx6 hr hx dL_asks_118 h
      · refine ⟨119, hd_6_eS, 5, by decide, Or.inr ⟨dL_asks_119, ?_⟩⟩
        refine k_ldc (v := (-70008 : Int32)) cx6 kc_L_54 dL_asks_121 ?_
        exact k_hret_I cx6 hr hx dL_asks_123 h
    · obtain ⟨z, rfl, h⟩ := hq
      replace h := hq0 _ _ h
      refine k_goto (tgt := 108) cx6 dL_asks_9 (by decide) ?_
      exact k_hret_I cx6 hr hx dL_asks_108 h
