/-! the helpers of the law -/
theorem lk_L_7 : Cond.methodLink RL 7 yX7_node ∈ Om := (om_tbl 525 (by decide +kernel) rfl)
theorem cv_L_7 : CV RL 7 yX7_node cX7_node 2 (some .int) 1 := ⟨Or.inl lk_L_7, (om_tbl 526 (by decide +kernel) rfl), (om_tbl 527 (by decide +kernel) rfl), (om_tbl 63 (by decide +kernel) rfl), (om_tbl 528 (by decide +kernel) rfl), by decide +kernel, by decide +kernel, by decide +kernel⟩
theorem lk_L_17 : Cond.methodLink RL 17 yX7_link ∈ Om := (om_tbl 621 (by decide +kernel) rfl)
theorem cv_L_17 : CV RL 17 yX7_link cX7_link 4 (some .int) 3 := ⟨Or.inl lk_L_17, (om_tbl 622 (by decide +kernel) rfl), (om_tbl 623 (by decide +kernel) rfl), (om_tbl 63 (by decide +kernel) rfl), (om_tbl 624 (by decide +kernel) rfl), by decide +kernel, by decide +kernel, by decide +kernel⟩
theorem lk_L_23 : Cond.methodLink RL 23 yX7_fail ∈ Om := (om_tbl 671 (by decide +kernel) rfl)
theorem cv_L_23 : CV RL 23 yX7_fail cX7_fail 6 (some .int) 2 := ⟨Or.inl lk_L_23, (om_tbl 672 (by decide +kernel) rfl), (om_tbl 673 (by decide +kernel) rfl), (om_tbl 63 (by decide +kernel) rfl), (om_tbl 674 (by decide +kernel) rfl), by decide +kernel, by decide +kernel, by decide +kernel⟩
theorem lk_L_27 : Cond.methodLink RL 27 yX7_part ∈ Om := (om_tbl 699 (by decide +kernel) rfl)
theorem cv_L_27 : CV RL 27 yX7_part cX7_part 3 (some .int) 2 := ⟨Or.inl lk_L_27, (om_tbl 700 (by decide +kernel) rfl), (om_tbl 701 (by decide +kernel) rfl), (om_tbl 63 (by decide +kernel) rfl), (om_tbl 702 (by decide +kernel) rfl), by decide +kernel, by decide +kernel, by decide +kernel⟩
theorem lk_L_31 : Cond.methodLink RL 31 yX7_line ∈ Om := (om_tbl 712 (by decide +kernel) rfl)
theorem cv_L_31 : CV RL 31 yX7_line cX7_line 4 (some .int) 3 := ⟨Or.inl lk_L_31, (om_tbl 713 (by decide +kernel) rfl), (om_tbl 714 (by decide +kernel) rfl), (om_tbl 63 (by decide +kernel) rfl), (om_tbl 715 (by decide +kernel) rfl), by decide +kernel, by decide +kernel, by decide +kernel⟩
theorem lk_L_34 : Cond.methodLink RL 34 yX7_place ∈ Om := (om_tbl 735 (by decide +kernel) rfl)
theorem cv_L_34 : CV RL 34 yX7_place cX7_place 3 (some .int) 2 := ⟨Or.inl lk_L_34, (om_tbl 736 (by decide +kernel) rfl), (om_tbl 737 (by decide +kernel) rfl), (om_tbl 63 (by decide +kernel) rfl), (om_tbl 738 (by decide +kernel) rfl), by decide +kernel, by decide +kernel, by decide +kernel⟩
theorem lk_L_37 : Cond.methodLink RL 37 yX7_end ∈ Om := (om_tbl 812 (by decide +kernel) rfl)
theorem cv_L_37 : CV RL 37 yX7_end cX7_end 2 none 1 := ⟨Or.inl lk_L_37, (om_tbl 813 (by decide +kernel) rfl), (om_tbl 814 (by decide +kernel) rfl), (om_tbl 63 (by decide +kernel) rfl), (om_tbl 815 (by decide +kernel) rfl), by decide +kernel, by decide +kernel, by decide +kernel⟩
theorem lk_L_41 : Cond.methodLink RL 41 yX7_move ∈ Om := (om_tbl 830 (by decide +kernel) rfl)
theorem cv_L_41 : CV RL 41 yX7_move cX7_move 5 (some .int) 3 := ⟨Or.inl lk_L_41, (om_tbl 831 (by decide +kernel) rfl), (om_tbl 832 (by decide +kernel) rfl), (om_tbl 63 (by decide +kernel) rfl), (om_tbl 833 (by decide +kernel) rfl), by decide +kernel, by decide +kernel, by decide +kernel⟩
theorem lk_L_44 : Cond.methodLink RL 44 yX7_pass ∈ Om := (om_tbl 845 (by decide +kernel) rfl)
theorem cv_L_44 : CV RL 44 yX7_pass cX7_pass 4 (some .int) 1 := ⟨Or.inl lk_L_44, (om_tbl 846 (by decide +kernel) rfl), (om_tbl 847 (by decide +kernel) rfl), (om_tbl 63 (by decide +kernel) rfl), (om_tbl 848 (by decide +kernel) rfl), by decide +kernel, by decide +kernel, by decide +kernel⟩
theorem lk_L_47 : Cond.methodLink RL 47 yX7_ofNode ∈ Om := (om_tbl 853 (by decide +kernel) rfl)
theorem cv_L_47 : CV RL 47 yX7_ofNode cX7_ofNode 3 (some .int) 2 := ⟨Or.inl lk_L_47, (om_tbl 854 (by decide +kernel) rfl), (om_tbl 855 (by decide +kernel) rfl), (om_tbl 63 (by decide +kernel) rfl), (om_tbl 856 (by decide +kernel) rfl), by decide +kernel, by decide +kernel, by decide +kernel⟩
theorem lk_L_50 : Cond.methodLink RL 50 yX7_ofLink ∈ Om := (om_tbl 862 (by decide +kernel) rfl)
theorem cv_L_50 : CV RL 50 yX7_ofLink cX7_ofLink 3 (some .int) 2 := ⟨Or.inl lk_L_50, (om_tbl 863 (by decide +kernel) rfl), (om_tbl 864 (by decide +kernel) rfl), (om_tbl 63 (by decide +kernel) rfl), (om_tbl 865 (by decide +kernel) rfl), by decide +kernel, by decide +kernel, by decide +kernel⟩
theorem lk_L_53 : Cond.methodLink RL 53 yX7_load ∈ Om := (om_tbl 870 (by decide +kernel) rfl)
theorem cv_L_53 : CV RL 53 yX7_load cX7_load 6 (some .int) 2 := ⟨Or.inl lk_L_53, (om_tbl 871 (by decide +kernel) rfl), (om_tbl 872 (by decide +kernel) rfl), (om_tbl 63 (by decide +kernel) rfl), (om_tbl 873 (by decide +kernel) rfl), by decide +kernel, by decide +kernel, by decide +kernel⟩
theorem lk_L_56 : Cond.methodLink RL 56 yX7_told ∈ Om := (om_tbl 883 (by decide +kernel) rfl)
theorem cv_L_56 : CV RL 56 yX7_told cX7_told 4 (some .int) 2 := ⟨Or.inl lk_L_56, (om_tbl 884 (by decide +kernel) rfl), (om_tbl 885 (by decide +kernel) rfl), (om_tbl 63 (by decide +kernel) rfl), (om_tbl 886 (by decide +kernel) rfl), by decide +kernel, by decide +kernel, by decide +kernel⟩
theorem lk_L_59 : Cond.methodLink RL 59 yX7_at ∈ Om := (om_tbl 898 (by decide +kernel) rfl)
theorem cv_L_59 : CV RL 59 yX7_at cX7_at 3 (some .int) 2 := ⟨Or.inl lk_L_59, (om_tbl 899 (by decide +kernel) rfl), (om_tbl 900 (by decide +kernel) rfl), (om_tbl 63 (by decide +kernel) rfl), (om_tbl 901 (by decide +kernel) rfl), by decide +kernel, by decide +kernel, by decide +kernel⟩
theorem lk_L_62 : Cond.methodLink RL 62 yX7_way ∈ Om := (om_tbl 906 (by decide +kernel) rfl)
theorem cv_L_62 : CV RL 62 yX7_way cX7_way 5 (some .int) 3 := ⟨Or.inl lk_L_62, (om_tbl 907 (by decide +kernel) rfl), (om_tbl 908 (by decide +kernel) rfl), (om_tbl 63 (by decide +kernel) rfl), (om_tbl 909 (by decide +kernel) rfl), by decide +kernel, by decide +kernel, by decide +kernel⟩
theorem hd_L_node_eA : HD RL [(0, 9, 12, 13), (0, 9, 15, 15)] 4 "java/lang/IllegalArgumentException" 12 := ⟨[], [⟨0, 9, 15, 15⟩], ⟨0, 9, 12, 13⟩, "java/lang/IllegalArgumentException", rfl, (fun z hz => by cases hz), by decide +kernel, by decide, (om_tbl 523 (by decide +kernel) rfl), ext_mem 469 (by decide +kernel) rfl, rfl⟩
theorem hd_L_node_eS : HD RL [(0, 9, 12, 13), (0, 9, 15, 15)] 4 "java/lang/IllegalStateException" 15 := ⟨[⟨0, 9, 12, 13⟩], [], ⟨0, 9, 15, 15⟩, "java/lang/IllegalStateException", rfl, (by
    intro z hz; simp only [List.mem_cons, List.not_mem_nil, or_false] at hz; subst hz
    · exact Or.inr ⟨by decide, "java/lang/IllegalArgumentException", (om_tbl 523 (by decide +kernel) rfl), by decide +kernel⟩), by decide +kernel, by decide, (om_tbl 524 (by decide +kernel) rfl), ext_mem 537 (by decide +kernel) rfl, rfl⟩
theorem hd_L_link_eB : HD RL [(0, 12, 15, 21), (0, 12, 19, 13), (0, 12, 23, 15)] 7 "java/lang/IndexOutOfBoundsException" 15 := ⟨[], [⟨0, 12, 19, 13⟩, ⟨0, 12, 23, 15⟩], ⟨0, 12, 15, 21⟩, "java/lang/IndexOutOfBoundsException", rfl, (fun z hz => by cases hz), by decide +kernel, by decide, (om_tbl 620 (by decide +kernel) rfl), ext_mem 566 (by decide +kernel) rfl, rfl⟩
theorem hd_L_link_eA : HD RL [(0, 12, 15, 21), (0, 12, 19, 13), (0, 12, 23, 15)] 7 "java/lang/IllegalArgumentException" 19 := ⟨[⟨0, 12, 15, 21⟩], [⟨0, 12, 23, 15⟩], ⟨0, 12, 19, 13⟩, "java/lang/IllegalArgumentException", rfl, (by
    intro z hz; simp only [List.mem_cons, List.not_mem_nil, or_false] at hz; subst hz
    · exact Or.inr ⟨by decide, "java/lang/IndexOutOfBoundsException", (om_tbl 620 (by decide +kernel) rfl), by decide +kernel⟩), by decide +kernel, by decide, (om_tbl 523 (by decide +kernel) rfl), ext_mem 469 (by decide +kernel) rfl, rfl⟩
theorem hd_L_link_eS : HD RL [(0, 12, 15, 21), (0, 12, 19, 13), (0, 12, 23, 15)] 7 "java/lang/IllegalStateException" 23 := ⟨[⟨0, 12, 15, 21⟩, ⟨0, 12, 19, 13⟩], [], ⟨0, 12, 23, 15⟩, "java/lang/IllegalStateException", rfl, (by
    intro z hz; simp only [List.mem_cons, List.not_mem_nil, or_false] at hz; rcases hz with rfl | rfl
    · exact Or.inr ⟨by decide, "java/lang/IndexOutOfBoundsException", (om_tbl 620 (by decide +kernel) rfl), by decide +kernel⟩
    · exact Or.inr ⟨by decide, "java/lang/IllegalArgumentException", (om_tbl 523 (by decide +kernel) rfl), by decide +kernel⟩), by decide +kernel, by decide, (om_tbl 524 (by decide +kernel) rfl), ext_mem 537 (by decide +kernel) rfl, rfl⟩
theorem hd_L_fail_eB : HD RL [(0, 10, 13, 21)] 5 "java/lang/IndexOutOfBoundsException" 13 := ⟨[], [], ⟨0, 10, 13, 21⟩, "java/lang/IndexOutOfBoundsException", rfl, (fun z hz => by cases hz), by decide +kernel, by decide, (om_tbl 620 (by decide +kernel) rfl), ext_mem 566 (by decide +kernel) rfl, rfl⟩
theorem hd_L_part_eA : HD RL [(0, 10, 13, 13), (0, 10, 17, 15)] 5 "java/lang/IllegalArgumentException" 13 := ⟨[], [⟨0, 10, 17, 15⟩], ⟨0, 10, 13, 13⟩, "java/lang/IllegalArgumentException", rfl, (fun z hz => by cases hz), by decide +kernel, by decide, (om_tbl 523 (by decide +kernel) rfl), ext_mem 469 (by decide +kernel) rfl, rfl⟩
theorem hd_L_part_eS : HD RL [(0, 10, 13, 13), (0, 10, 17, 15)] 5 "java/lang/IllegalStateException" 17 := ⟨[⟨0, 10, 13, 13⟩], [], ⟨0, 10, 17, 15⟩, "java/lang/IllegalStateException", rfl, (by
    intro z hz; simp only [List.mem_cons, List.not_mem_nil, or_false] at hz; subst hz
    · exact Or.inr ⟨by decide, "java/lang/IllegalArgumentException", (om_tbl 523 (by decide +kernel) rfl), by decide +kernel⟩), by decide +kernel, by decide, (om_tbl 524 (by decide +kernel) rfl), ext_mem 537 (by decide +kernel) rfl, rfl⟩
theorem hd_L_line_eB : HD RL [(0, 12, 15, 21), (0, 12, 19, 13), (0, 12, 23, 15)] 7 "java/lang/IndexOutOfBoundsException" 15 := ⟨[], [⟨0, 12, 19, 13⟩, ⟨0, 12, 23, 15⟩], ⟨0, 12, 15, 21⟩, "java/lang/IndexOutOfBoundsException", rfl, (fun z hz => by cases hz), by decide +kernel, by decide, (om_tbl 620 (by decide +kernel) rfl), ext_mem 566 (by decide +kernel) rfl, rfl⟩
theorem hd_L_line_eA : HD RL [(0, 12, 15, 21), (0, 12, 19, 13), (0, 12, 23, 15)] 7 "java/lang/IllegalArgumentException" 19 := ⟨[⟨0, 12, 15, 21⟩], [⟨0, 12, 23, 15⟩], ⟨0, 12, 19, 13⟩, "java/lang/IllegalArgumentException", rfl, (by
    intro z hz; simp only [List.mem_cons, List.not_mem_nil, or_false] at hz; subst hz
    · exact Or.inr ⟨by decide, "java/lang/IndexOutOfBoundsException", (om_tbl 620 (by decide +kernel) rfl), by decide +kernel⟩), by decide +kernel, by decide, (om_tbl 523 (by decide +kernel) rfl), ext_mem 469 (by decide +kernel) rfl, rfl⟩
theorem hd_L_line_eS : HD RL [(0, 12, 15, 21), (0, 12, 19, 13), (0, 12, 23, 15)] 7 "java/lang/IllegalStateException" 23 := ⟨[⟨0, 12, 15, 21⟩, ⟨0, 12, 19, 13⟩], [], ⟨0, 12, 23, 15⟩, "java/lang/IllegalStateException", rfl, (by
    intro z hz; simp only [List.mem_cons, List.not_mem_nil, or_false] at hz; rcases hz with rfl | rfl
    · exact Or.inr ⟨by decide, "java/lang/IndexOutOfBoundsException", (om_tbl 620 (by decide +kernel) rfl), by decide +kernel⟩
    · exact Or.inr ⟨by decide, "java/lang/IllegalArgumentException", (om_tbl 523 (by decide +kernel) rfl), by decide +kernel⟩), by decide +kernel, by decide, (om_tbl 524 (by decide +kernel) rfl), ext_mem 537 (by decide +kernel) rfl, rfl⟩
theorem hd_L_place_eA : HD RL [(0, 10, 13, 13), (0, 10, 17, 15)] 5 "java/lang/IllegalArgumentException" 13 := ⟨[], [⟨0, 10, 17, 15⟩], ⟨0, 10, 13, 13⟩, "java/lang/IllegalArgumentException", rfl, (fun z hz => by cases hz), by decide +kernel, by decide, (om_tbl 523 (by decide +kernel) rfl), ext_mem 469 (by decide +kernel) rfl, rfl⟩
theorem hd_L_place_eS : HD RL [(0, 10, 13, 13), (0, 10, 17, 15)] 5 "java/lang/IllegalStateException" 17 := ⟨[⟨0, 10, 13, 13⟩], [], ⟨0, 10, 17, 15⟩, "java/lang/IllegalStateException", rfl, (by
    intro z hz; simp only [List.mem_cons, List.not_mem_nil, or_false] at hz; subst hz
    · exact Or.inr ⟨by decide, "java/lang/IllegalArgumentException", (om_tbl 523 (by decide +kernel) rfl), by decide +kernel⟩), by decide +kernel, by decide, (om_tbl 524 (by decide +kernel) rfl), ext_mem 537 (by decide +kernel) rfl, rfl⟩
theorem hd_L_end_eB : HD RL [(0, 5, 8, 21), (0, 5, 11, 15)] 2 "java/lang/IndexOutOfBoundsException" 8 := ⟨[], [⟨0, 5, 11, 15⟩], ⟨0, 5, 8, 21⟩, "java/lang/IndexOutOfBoundsException", rfl, (fun z hz => by cases hz), by decide +kernel, by decide, (om_tbl 620 (by decide +kernel) rfl), ext_mem 566 (by decide +kernel) rfl, rfl⟩
theorem hd_L_end_eS : HD RL [(0, 5, 8, 21), (0, 5, 11, 15)] 2 "java/lang/IllegalStateException" 11 := ⟨[⟨0, 5, 8, 21⟩], [], ⟨0, 5, 11, 15⟩, "java/lang/IllegalStateException", rfl, (by
    intro z hz; simp only [List.mem_cons, List.not_mem_nil, or_false] at hz; subst hz
    · exact Or.inr ⟨by decide, "java/lang/IndexOutOfBoundsException", (om_tbl 620 (by decide +kernel) rfl), by decide +kernel⟩), by decide +kernel, by decide, (om_tbl 524 (by decide +kernel) rfl), ext_mem 537 (by decide +kernel) rfl, rfl⟩
theorem hd_L_move_eB : HD RL [(0, 12, 15, 21), (0, 12, 19, 13), (0, 12, 23, 15)] 7 "java/lang/IndexOutOfBoundsException" 15 := ⟨[], [⟨0, 12, 19, 13⟩, ⟨0, 12, 23, 15⟩], ⟨0, 12, 15, 21⟩, "java/lang/IndexOutOfBoundsException", rfl, (fun z hz => by cases hz), by decide +kernel, by decide, (om_tbl 620 (by decide +kernel) rfl), ext_mem 566 (by decide +kernel) rfl, rfl⟩
theorem hd_L_move_eA : HD RL [(0, 12, 15, 21), (0, 12, 19, 13), (0, 12, 23, 15)] 7 "java/lang/IllegalArgumentException" 19 := ⟨[⟨0, 12, 15, 21⟩], [⟨0, 12, 23, 15⟩], ⟨0, 12, 19, 13⟩, "java/lang/IllegalArgumentException", rfl, (by
    intro z hz; simp only [List.mem_cons, List.not_mem_nil, or_false] at hz; subst hz
    · exact Or.inr ⟨by decide, "java/lang/IndexOutOfBoundsException", (om_tbl 620 (by decide +kernel) rfl), by decide +kernel⟩), by decide +kernel, by decide, (om_tbl 523 (by decide +kernel) rfl), ext_mem 469 (by decide +kernel) rfl, rfl⟩
theorem hd_L_move_eS : HD RL [(0, 12, 15, 21), (0, 12, 19, 13), (0, 12, 23, 15)] 7 "java/lang/IllegalStateException" 23 := ⟨[⟨0, 12, 15, 21⟩, ⟨0, 12, 19, 13⟩], [], ⟨0, 12, 23, 15⟩, "java/lang/IllegalStateException", rfl, (by
    intro z hz; simp only [List.mem_cons, List.not_mem_nil, or_false] at hz; rcases hz with rfl | rfl
    · exact Or.inr ⟨by decide, "java/lang/IndexOutOfBoundsException", (om_tbl 620 (by decide +kernel) rfl), by decide +kernel⟩
    · exact Or.inr ⟨by decide, "java/lang/IllegalArgumentException", (om_tbl 523 (by decide +kernel) rfl), by decide +kernel⟩), by decide +kernel, by decide, (om_tbl 524 (by decide +kernel) rfl), ext_mem 537 (by decide +kernel) rfl, rfl⟩
theorem hd_L_pass_eA : HD RL [(0, 9, 12, 13)] 4 "java/lang/IllegalArgumentException" 12 := ⟨[], [], ⟨0, 9, 12, 13⟩, "java/lang/IllegalArgumentException", rfl, (fun z hz => by cases hz), by decide +kernel, by decide, (om_tbl 523 (by decide +kernel) rfl), ext_mem 469 (by decide +kernel) rfl, rfl⟩
theorem hd_L_ofNode_eB : HD RL [(0, 10, 13, 21), (0, 10, 17, 13)] 5 "java/lang/IndexOutOfBoundsException" 13 := ⟨[], [⟨0, 10, 17, 13⟩], ⟨0, 10, 13, 21⟩, "java/lang/IndexOutOfBoundsException", rfl, (fun z hz => by cases hz), by decide +kernel, by decide, (om_tbl 620 (by decide +kernel) rfl), ext_mem 566 (by decide +kernel) rfl, rfl⟩
theorem hd_L_ofNode_eA : HD RL [(0, 10, 13, 21), (0, 10, 17, 13)] 5 "java/lang/IllegalArgumentException" 17 := ⟨[⟨0, 10, 13, 21⟩], [], ⟨0, 10, 17, 13⟩, "java/lang/IllegalArgumentException", rfl, (by
    intro z hz; simp only [List.mem_cons, List.not_mem_nil, or_false] at hz; subst hz
    · exact Or.inr ⟨by decide, "java/lang/IndexOutOfBoundsException", (om_tbl 620 (by decide +kernel) rfl), by decide +kernel⟩), by decide +kernel, by decide, (om_tbl 523 (by decide +kernel) rfl), ext_mem 469 (by decide +kernel) rfl, rfl⟩
theorem hd_L_ofLink_eB : HD RL [(0, 10, 13, 21), (0, 10, 17, 13)] 5 "java/lang/IndexOutOfBoundsException" 13 := ⟨[], [⟨0, 10, 17, 13⟩], ⟨0, 10, 13, 21⟩, "java/lang/IndexOutOfBoundsException", rfl, (fun z hz => by cases hz), by decide +kernel, by decide, (om_tbl 620 (by decide +kernel) rfl), ext_mem 566 (by decide +kernel) rfl, rfl⟩
theorem hd_L_ofLink_eA : HD RL [(0, 10, 13, 21), (0, 10, 17, 13)] 5 "java/lang/IllegalArgumentException" 17 := ⟨[⟨0, 10, 13, 21⟩], [], ⟨0, 10, 17, 13⟩, "java/lang/IllegalArgumentException", rfl, (by
    intro z hz; simp only [List.mem_cons, List.not_mem_nil, or_false] at hz; subst hz
    · exact Or.inr ⟨by decide, "java/lang/IndexOutOfBoundsException", (om_tbl 620 (by decide +kernel) rfl), by decide +kernel⟩), by decide +kernel, by decide, (om_tbl 523 (by decide +kernel) rfl), ext_mem 469 (by decide +kernel) rfl, rfl⟩
theorem hd_L_load_eB : HD RL [(0, 10, 13, 21), (0, 10, 17, 13)] 5 "java/lang/IndexOutOfBoundsException" 13 := ⟨[], [⟨0, 10, 17, 13⟩], ⟨0, 10, 13, 21⟩, "java/lang/IndexOutOfBoundsException", rfl, (fun z hz => by cases hz), by decide +kernel, by decide, (om_tbl 620 (by decide +kernel) rfl), ext_mem 566 (by decide +kernel) rfl, rfl⟩
theorem hd_L_load_eA : HD RL [(0, 10, 13, 21), (0, 10, 17, 13)] 5 "java/lang/IllegalArgumentException" 17 := ⟨[⟨0, 10, 13, 21⟩], [], ⟨0, 10, 17, 13⟩, "java/lang/IllegalArgumentException", rfl, (by
    intro z hz; simp only [List.mem_cons, List.not_mem_nil, or_false] at hz; subst hz
    · exact Or.inr ⟨by decide, "java/lang/IndexOutOfBoundsException", (om_tbl 620 (by decide +kernel) rfl), by decide +kernel⟩), by decide +kernel, by decide, (om_tbl 523 (by decide +kernel) rfl), ext_mem 469 (by decide +kernel) rfl, rfl⟩
theorem hd_L_told_eB : HD RL [(0, 10, 13, 21), (0, 10, 17, 13)] 5 "java/lang/IndexOutOfBoundsException" 13 := ⟨[], [⟨0, 10, 17, 13⟩], ⟨0, 10, 13, 21⟩, "java/lang/IndexOutOfBoundsException", rfl, (fun z hz => by cases hz), by decide +kernel, by decide, (om_tbl 620 (by decide +kernel) rfl), ext_mem 566 (by decide +kernel) rfl, rfl⟩
theorem hd_L_told_eA : HD RL [(0, 10, 13, 21), (0, 10, 17, 13)] 5 "java/lang/IllegalArgumentException" 17 := ⟨[⟨0, 10, 13, 21⟩], [], ⟨0, 10, 17, 13⟩, "java/lang/IllegalArgumentException", rfl, (by
    intro z hz; simp only [List.mem_cons, List.not_mem_nil, or_false] at hz; subst hz
    · exact Or.inr ⟨by decide, "java/lang/IndexOutOfBoundsException", (om_tbl 620 (by decide +kernel) rfl), by decide +kernel⟩), by decide +kernel, by decide, (om_tbl 523 (by decide +kernel) rfl), ext_mem 469 (by decide +kernel) rfl, rfl⟩
theorem hd_L_at_eB : HD RL [(0, 10, 13, 21)] 5 "java/lang/IndexOutOfBoundsException" 13 := ⟨[], [], ⟨0, 10, 13, 21⟩, "java/lang/IndexOutOfBoundsException", rfl, (fun z hz => by cases hz), by decide +kernel, by decide, (om_tbl 620 (by decide +kernel) rfl), ext_mem 566 (by decide +kernel) rfl, rfl⟩
theorem hd_L_way_eB : HD RL [(0, 12, 15, 21), (0, 12, 19, 13)] 7 "java/lang/IndexOutOfBoundsException" 15 := ⟨[], [⟨0, 12, 19, 13⟩], ⟨0, 12, 15, 21⟩, "java/lang/IndexOutOfBoundsException", rfl, (fun z hz => by cases hz), by decide +kernel, by decide, (om_tbl 620 (by decide +kernel) rfl), ext_mem 566 (by decide +kernel) rfl, rfl⟩
theorem hd_L_way_eA : HD RL [(0, 12, 15, 21), (0, 12, 19, 13)] 7 "java/lang/IllegalArgumentException" 19 := ⟨[⟨0, 12, 15, 21⟩], [], ⟨0, 12, 19, 13⟩, "java/lang/IllegalArgumentException", rfl, (by
    intro z hz; simp only [List.mem_cons, List.not_mem_nil, or_false] at hz; subst hz
    · exact Or.inr ⟨by decide, "java/lang/IndexOutOfBoundsException", (om_tbl 620 (by decide +kernel) rfl), by decide +kernel⟩), by decide +kernel, by decide, (om_tbl 523 (by decide +kernel) rfl), ext_mem 469 (by decide +kernel) rfl, rfl⟩
theorem vp_00 : vp_in 0 1 := by unfold vp_in; decide
theorem dL_node_0 : decode cL_node 0 = .ok (.aload_n 2, 1) := by decide +kernel
theorem dL_node_1 : decode cL_node 1 = .ok (.iconst 0, 1) := by decide +kernel
theorem dL_node_2 : decode cL_node 2 = .ok (.aload_n 0, 1) := by decide +kernel
theorem dL_node_3 : decode cL_node 3 = .ok (.iload_n 1, 1) := by decide +kernel
theorem dL_node_4 : decode cL_node 4 = .ok (.invokevirtual 7, 3) := by decide +kernel
theorem dL_node_7 : decode cL_node 7 = .ok (.i2l, 1) := by decide +kernel
theorem dL_node_8 : decode cL_node 8 = .ok (.lastore, 1) := by decide +kernel
theorem dL_node_9 : decode cL_node 9 = .ok (.goto 9, 3) := by decide +kernel
theorem dL_node_12 : decode cL_node 12 = .ok (.astore_n 3, 1) := by decide +kernel
theorem dL_node_13 : decode cL_node 13 = .ok (.iconst 1, 1) := by decide +kernel
theorem dL_node_14 : decode cL_node 14 = .ok (.ireturn, 1) := by decide +kernel
theorem dL_node_15 : decode cL_node 15 = .ok (.astore_n 3, 1) := by decide +kernel
theorem dL_node_16 : decode cL_node 16 = .ok (.iconst 2, 1) := by decide +kernel
theorem dL_node_17 : decode cL_node 17 = .ok (.ireturn, 1) := by decide +kernel
theorem dL_node_18 : decode cL_node 18 = .ok (.iconst 0, 1) := by decide +kernel
theorem dL_node_19 : decode cL_node 19 = .ok (.ireturn, 1) := by decide +kernel
def Wp_L_node (x1 : Int32) (μ : Mm) (q : Int32 → Mm → Prop) : Prop :=
  Wp_X7_node x1 μ (fun z μ2 => q (0 : Int32) (up2 μ2 p_OUT 0 z)) (fun E μx => (E = "java/lang/IllegalArgumentException" ∧ q (1 : Int32) μx) ∨ (E = "java/lang/IllegalStateException" ∧ q (2 : Int32) μx))
set_option maxHeartbeats 2000000 in
theorem m_L_node {g : GE} {l : Launch} (hst : l.stackTraces = false) {μ : Mm} {q : Int32 → Mm → Prop} {x1 : Int32} (h : Wp_L_node x1 μ q) : MH g l yL_node cL_node 4 (some .int) [(0, 9, 12, 13), (0, 9, 15, 15)] 7 111 [.ref p_ML, .int x1, .ref p_OUT] μ (qI q) := by
  refine hmet_of hst (by decide) (Nat.le_of_ble_eq_true rfl) (by intro v hv; simp only [List.mem_cons, List.not_mem_nil, or_false] at hv; rcases hv with rfl | rfl | rfl <;> rfl) ?_
  intro f hfl cx cx6 hr hx
  unfold Wp_L_node at h
  show KW g f 4 0 0 0 [some (.ref p_ML), some (.int x1), some (.ref p_OUT), none] [] μ
  refine k_aload_n cx dL_node_0 rfl rfl ?_
  refine k_iconst (v := (0 : Int32)) cx dL_node_1 (by decide +kernel) ?_
  refine k_aload_n cx dL_node_2 rfl rfl ?_
  refine k_iload_n cx dL_node_3 rfl rfl ?_
  refine k_callX (As := [.int x1]) (rest := [.int (0 : Int32), .ref p_OUT]) cx hx (m_X7_node hx.2.2.2.2.1 h) lk_L_7 cv_L_7 ob_ML rfl rfl rfl rfl (Nat.le_of_ble_eq_true rfl) ⟨Nat.le_of_ble_eq_true rfl, Nat.le_of_ble_eq_true rfl⟩ dL_node_4 (fun E μx hq => ?_) (fun v μ2 hq => ?_)
  · rcases hq with ⟨rfl, h⟩ | ⟨rfl, h⟩
    · refine ⟨12, hd_L_node_eA, 3, by decide, Or.inl ⟨_, dL_node_12, rfl, ?_⟩⟩
      refine k_iconst (v := (1 : Int32)) cx6 dL_node_13 (by decide +kernel) ?_
      exact k_hret_I cx6 hr hx dL_node_14 h
    · refine ⟨15, hd_L_node_eS, 3, by decide, Or.inl ⟨_, dL_node_15, rfl, ?_⟩⟩
      refine k_iconst (v := (2 : Int32)) cx6 dL_node_16 (by decide +kernel) ?_
      exact k_hret_I cx6 hr hx dL_node_17 h
  · obtain ⟨z, rfl, h⟩ := hq
    refine k_i2l cx6 dL_node_7 ?_
    refine k_last cx6 ar_OUT vp_00 dL_node_8 ?_
    refine k_goto (tgt := 18) cx6 dL_node_9 (by decide) ?_
    refine k_iconst (v := (0 : Int32)) cx6 dL_node_18 (by decide +kernel) ?_
    exact k_hret_I cx6 hr hx dL_node_19 h

theorem dL_link_0 : decode cL_link 0 = .ok (.aload 4, 2) := by decide +kernel
theorem dL_link_2 : decode cL_link 2 = .ok (.iconst 0, 1) := by decide +kernel
theorem dL_link_3 : decode cL_link 3 = .ok (.aload_n 0, 1) := by decide +kernel
theorem dL_link_4 : decode cL_link 4 = .ok (.iload_n 1, 1) := by decide +kernel
theorem dL_link_5 : decode cL_link 5 = .ok (.iload_n 2, 1) := by decide +kernel
theorem dL_link_6 : decode cL_link 6 = .ok (.iload_n 3, 1) := by decide +kernel
theorem dL_link_7 : decode cL_link 7 = .ok (.invokevirtual 17, 3) := by decide +kernel
theorem dL_link_10 : decode cL_link 10 = .ok (.i2l, 1) := by decide +kernel
theorem dL_link_11 : decode cL_link 11 = .ok (.lastore, 1) := by decide +kernel
theorem dL_link_12 : decode cL_link 12 = .ok (.goto 15, 3) := by decide +kernel
theorem dL_link_15 : decode cL_link 15 = .ok (.astore 5, 2) := by decide +kernel
theorem dL_link_17 : decode cL_link 17 = .ok (.iconst 1, 1) := by decide +kernel
theorem dL_link_18 : decode cL_link 18 = .ok (.ireturn, 1) := by decide +kernel
theorem dL_link_19 : decode cL_link 19 = .ok (.astore 5, 2) := by decide +kernel
theorem dL_link_21 : decode cL_link 21 = .ok (.iconst 2, 1) := by decide +kernel
theorem dL_link_22 : decode cL_link 22 = .ok (.ireturn, 1) := by decide +kernel
theorem dL_link_23 : decode cL_link 23 = .ok (.astore 5, 2) := by decide +kernel
theorem dL_link_25 : decode cL_link 25 = .ok (.iconst 3, 1) := by decide +kernel
theorem dL_link_26 : decode cL_link 26 = .ok (.ireturn, 1) := by decide +kernel
theorem dL_link_27 : decode cL_link 27 = .ok (.iconst 0, 1) := by decide +kernel
theorem dL_link_28 : decode cL_link 28 = .ok (.ireturn, 1) := by decide +kernel
def Wp_L_link (x1 : Int32) (x2 : Int32) (x3 : Int32) (μ : Mm) (q : Int32 → Mm → Prop) : Prop :=
  Wp_X7_link x1 x2 x3 μ (fun z μ2 => q (0 : Int32) (up2 μ2 p_OUT 0 z)) (fun E μx => (E = "java/lang/IndexOutOfBoundsException" ∧ q (1 : Int32) μx) ∨ (E = "java/lang/IllegalArgumentException" ∧ q (2 : Int32) μx) ∨ (E = "java/lang/IllegalStateException" ∧ q (3 : Int32) μx))
set_option maxHeartbeats 2000000 in
theorem m_L_link {g : GE} {l : Launch} (hst : l.stackTraces = false) {μ : Mm} {q : Int32 → Mm → Prop} {x1 : Int32} {x2 : Int32} {x3 : Int32} (h : Wp_L_link x1 x2 x3 μ q) : MH g l yL_link cL_link 6 (some .int) [(0, 12, 15, 21), (0, 12, 19, 13), (0, 12, 23, 15)] 11 271 [.ref p_ML, .int x1, .int x2, .int x3, .ref p_OUT] μ (qI q) := by
  refine hmet_of hst (by decide) (Nat.le_of_ble_eq_true rfl) (by intro v hv; simp only [List.mem_cons, List.not_mem_nil, or_false] at hv; rcases hv with rfl | rfl | rfl | rfl | rfl <;> rfl) ?_
  intro f hfl cx cx6 hr hx
  unfold Wp_L_link at h
  show KW g f 6 0 0 0 [some (.ref p_ML), some (.int x1), some (.int x2), some (.int x3), some (.ref p_OUT), none] [] μ
  refine k_aload cx dL_link_0 rfl ?_
  refine k_iconst (v := (0 : Int32)) cx dL_link_2 (by decide +kernel) ?_
  refine k_aload_n cx dL_link_3 rfl rfl ?_
  refine k_iload_n cx dL_link_4 rfl rfl ?_
  refine k_iload_n cx dL_link_5 rfl rfl ?_
  refine k_iload_n cx dL_link_6 rfl rfl ?_
  refine k_callX (As := [.int x1, .int x2, .int x3]) (rest := [.int (0 : Int32), .ref p_OUT]) cx hx (m_X7_link hx.2.2.2.2.1 h) lk_L_17 cv_L_17 ob_ML rfl rfl rfl rfl (Nat.le_of_ble_eq_true rfl) ⟨Nat.le_of_ble_eq_true rfl, Nat.le_of_ble_eq_true rfl⟩ dL_link_7 (fun E μx hq => ?_) (fun v μ2 hq => ?_)
  · rcases hq with ⟨rfl, h⟩ | ⟨rfl, h⟩ | ⟨rfl, h⟩
    · refine ⟨15, hd_L_link_eB, 5, by decide, Or.inr ⟨dL_link_15, ?_⟩⟩
      refine k_iconst (v := (1 : Int32)) cx6 dL_link_17 (by decide +kernel) ?_
      exact k_hret_I cx6 hr hx dL_link_18 h
    · refine ⟨19, hd_L_link_eA, 5, by decide, Or.inr ⟨dL_link_19, ?_⟩⟩
      refine k_iconst (v := (2 : Int32)) cx6 dL_link_21 (by decide +kernel) ?_
      exact k_hret_I cx6 hr hx dL_link_22 h
    · refine ⟨23, hd_L_link_eS, 5, by decide, Or.inr ⟨dL_link_23, ?_⟩⟩
      refine k_iconst (v := (3 : Int32)) cx6 dL_link_25 (by decide +kernel) ?_
      exact k_hret_I cx6 hr hx dL_link_26 h
  · obtain ⟨z, rfl, h⟩ := hq
    refine k_i2l cx6 dL_link_10 ?_
    refine k_last cx6 ar_OUT vp_00 dL_link_11 ?_
    refine k_goto (tgt := 27) cx6 dL_link_12 (by decide) ?_
    refine k_iconst (v := (0 : Int32)) cx6 dL_link_27 (by decide +kernel) ?_
    exact k_hret_I cx6 hr hx dL_link_28 h

theorem dL_fail_0 : decode cL_fail 0 = .ok (.aload_n 3, 1) := by decide +kernel
theorem dL_fail_1 : decode cL_fail 1 = .ok (.iconst 0, 1) := by decide +kernel
theorem dL_fail_2 : decode cL_fail 2 = .ok (.aload_n 0, 1) := by decide +kernel
theorem dL_fail_3 : decode cL_fail 3 = .ok (.iload_n 1, 1) := by decide +kernel
theorem dL_fail_4 : decode cL_fail 4 = .ok (.iload_n 2, 1) := by decide +kernel
theorem dL_fail_5 : decode cL_fail 5 = .ok (.invokevirtual 23, 3) := by decide +kernel
theorem dL_fail_8 : decode cL_fail 8 = .ok (.i2l, 1) := by decide +kernel
theorem dL_fail_9 : decode cL_fail 9 = .ok (.lastore, 1) := by decide +kernel
theorem dL_fail_10 : decode cL_fail 10 = .ok (.goto 7, 3) := by decide +kernel
theorem dL_fail_13 : decode cL_fail 13 = .ok (.astore 4, 2) := by decide +kernel
theorem dL_fail_15 : decode cL_fail 15 = .ok (.iconst 1, 1) := by decide +kernel
theorem dL_fail_16 : decode cL_fail 16 = .ok (.ireturn, 1) := by decide +kernel
theorem dL_fail_17 : decode cL_fail 17 = .ok (.iconst 0, 1) := by decide +kernel
theorem dL_fail_18 : decode cL_fail 18 = .ok (.ireturn, 1) := by decide +kernel
def Wp_L_fail (x1 : Int32) (x2 : Int32) (μ : Mm) (q : Int32 → Mm → Prop) : Prop :=
  Wp_X7_fail x1 x2 μ (fun z μ2 => q (0 : Int32) (up2 μ2 p_OUT 0 z)) (fun E μx => (E = "java/lang/IndexOutOfBoundsException" ∧ q (1 : Int32) μx))
set_option maxHeartbeats 2000000 in
theorem m_L_fail {g : GE} {l : Launch} (hst : l.stackTraces = false) {μ : Mm} {q : Int32 → Mm → Prop} {x1 : Int32} {x2 : Int32} (h : Wp_L_fail x1 x2 μ q) : MH g l yL_fail cL_fail 5 (some .int) [(0, 10, 13, 21)] 11 272 [.ref p_ML, .int x1, .int x2, .ref p_OUT] μ (qI q) := by
  refine hmet_of hst (by decide) (Nat.le_of_ble_eq_true rfl) (by intro v hv; simp only [List.mem_cons, List.not_mem_nil, or_false] at hv; rcases hv with rfl | rfl | rfl | rfl <;> rfl) ?_
  intro f hfl cx cx6 hr hx
  unfold Wp_L_fail at h
  show KW g f 5 0 0 0 [some (.ref p_ML), some (.int x1), some (.int x2), some (.ref p_OUT), none] [] μ
  refine k_aload_n cx dL_fail_0 rfl rfl ?_
  refine k_iconst (v := (0 : Int32)) cx dL_fail_1 (by decide +kernel) ?_
  refine k_aload_n cx dL_fail_2 rfl rfl ?_
  refine k_iload_n cx dL_fail_3 rfl rfl ?_
  refine k_iload_n cx dL_fail_4 rfl rfl ?_
  refine k_callX (As := [.int x1, .int x2]) (rest := [.int (0 : Int32), .ref p_OUT]) cx hx (m_X7_fail hx.2.2.2.2.1 h) lk_L_23 cv_L_23 ob_ML rfl rfl rfl rfl (Nat.le_of_ble_eq_true rfl) ⟨Nat.le_of_ble_eq_true rfl, Nat.le_of_ble_eq_true rfl⟩ dL_fail_5 (fun E μx hq => ?_) (fun v μ2 hq => ?_)
  · obtain ⟨rfl, h⟩ := hq
    · refine ⟨13, hd_L_fail_eB, 4, by decide, Or.inr ⟨dL_fail_13, ?_⟩⟩
      refine k_iconst (v := (1 : Int32)) cx6 dL_fail_15 (by decide +kernel) ?_
      exact k_hret_I cx6 hr hx dL_fail_16 h
  · obtain ⟨z, rfl, h⟩ := hq
    refine k_i2l cx6 dL_fail_8 ?_
    refine k_last cx6 ar_OUT vp_00 dL_fail_9 ?_
    refine k_goto (tgt := 17) cx6 dL_fail_10 (by decide) ?_
    refine k_iconst (v := (0 : Int32)) cx6 dL_fail_17 (by decide +kernel) ?_
    exact k_hret_I cx6 hr hx dL_fail_18 h

theorem dL_part_0 : decode cL_part 0 = .ok (.aload_n 3, 1) := by decide +kernel
theorem dL_part_1 : decode cL_part 1 = .ok (.iconst 0, 1) := by decide +kernel
theorem dL_part_2 : decode cL_part 2 = .ok (.aload_n 0, 1) := by decide +kernel
theorem dL_part_3 : decode cL_part 3 = .ok (.iload_n 1, 1) := by decide +kernel
theorem dL_part_4 : decode cL_part 4 = .ok (.iload_n 2, 1) := by decide +kernel
theorem dL_part_5 : decode cL_part 5 = .ok (.invokevirtual 27, 3) := by decide +kernel
theorem dL_part_8 : decode cL_part 8 = .ok (.i2l, 1) := by decide +kernel
theorem dL_part_9 : decode cL_part 9 = .ok (.lastore, 1) := by decide +kernel
theorem dL_part_10 : decode cL_part 10 = .ok (.goto 11, 3) := by decide +kernel
theorem dL_part_13 : decode cL_part 13 = .ok (.astore 4, 2) := by decide +kernel
theorem dL_part_15 : decode cL_part 15 = .ok (.iconst 1, 1) := by decide +kernel
theorem dL_part_16 : decode cL_part 16 = .ok (.ireturn, 1) := by decide +kernel
theorem dL_part_17 : decode cL_part 17 = .ok (.astore 4, 2) := by decide +kernel
theorem dL_part_19 : decode cL_part 19 = .ok (.iconst 2, 1) := by decide +kernel
theorem dL_part_20 : decode cL_part 20 = .ok (.ireturn, 1) := by decide +kernel
theorem dL_part_21 : decode cL_part 21 = .ok (.iconst 0, 1) := by decide +kernel
theorem dL_part_22 : decode cL_part 22 = .ok (.ireturn, 1) := by decide +kernel
def Wp_L_part (x1 : Int32) (x2 : Int32) (μ : Mm) (q : Int32 → Mm → Prop) : Prop :=
  Wp_X7_part x1 x2 μ (fun z μ2 => q (0 : Int32) (up2 μ2 p_OUT 0 z)) (fun E μx => (E = "java/lang/IllegalArgumentException" ∧ q (1 : Int32) μx) ∨ (E = "java/lang/IllegalStateException" ∧ q (2 : Int32) μx))
set_option maxHeartbeats 2000000 in
theorem m_L_part {g : GE} {l : Launch} (hst : l.stackTraces = false) {μ : Mm} {q : Int32 → Mm → Prop} {x1 : Int32} {x2 : Int32} (h : Wp_L_part x1 x2 μ q) : MH g l yL_part cL_part 5 (some .int) [(0, 10, 13, 13), (0, 10, 17, 15)] 7 112 [.ref p_ML, .int x1, .int x2, .ref p_OUT] μ (qI q) := by
  refine hmet_of hst (by decide) (Nat.le_of_ble_eq_true rfl) (by intro v hv; simp only [List.mem_cons, List.not_mem_nil, or_false] at hv; rcases hv with rfl | rfl | rfl | rfl <;> rfl) ?_
  intro f hfl cx cx6 hr hx
  unfold Wp_L_part at h
  show KW g f 5 0 0 0 [some (.ref p_ML), some (.int x1), some (.int x2), some (.ref p_OUT), none] [] μ
  refine k_aload_n cx dL_part_0 rfl rfl ?_
  refine k_iconst (v := (0 : Int32)) cx dL_part_1 (by decide +kernel) ?_
  refine k_aload_n cx dL_part_2 rfl rfl ?_
  refine k_iload_n cx dL_part_3 rfl rfl ?_
  refine k_iload_n cx dL_part_4 rfl rfl ?_
  refine k_callX (As := [.int x1, .int x2]) (rest := [.int (0 : Int32), .ref p_OUT]) cx hx (m_X7_part hx.2.2.2.2.1 h) lk_L_27 cv_L_27 ob_ML rfl rfl rfl rfl (Nat.le_of_ble_eq_true rfl) ⟨Nat.le_of_ble_eq_true rfl, Nat.le_of_ble_eq_true rfl⟩ dL_part_5 (fun E μx hq => ?_) (fun v μ2 hq => ?_)
  · rcases hq with ⟨rfl, h⟩ | ⟨rfl, h⟩
    · refine ⟨13, hd_L_part_eA, 4, by decide, Or.inr ⟨dL_part_13, ?_⟩⟩
      refine k_iconst (v := (1 : Int32)) cx6 dL_part_15 (by decide +kernel) ?_
      exact k_hret_I cx6 hr hx dL_part_16 h
    · refine ⟨17, hd_L_part_eS, 4, by decide, Or.inr ⟨dL_part_17, ?_⟩⟩
      refine k_iconst (v := (2 : Int32)) cx6 dL_part_19 (by decide +kernel) ?_
      exact k_hret_I cx6 hr hx dL_part_20 h
  · obtain ⟨z, rfl, h⟩ := hq
    refine k_i2l cx6 dL_part_8 ?_
    refine k_last cx6 ar_OUT vp_00 dL_part_9 ?_
    refine k_goto (tgt := 21) cx6 dL_part_10 (by decide) ?_
    refine k_iconst (v := (0 : Int32)) cx6 dL_part_21 (by decide +kernel) ?_
    exact k_hret_I cx6 hr hx dL_part_22 h

theorem dL_line_0 : decode cL_line 0 = .ok (.aload 4, 2) := by decide +kernel
theorem dL_line_2 : decode cL_line 2 = .ok (.iconst 0, 1) := by decide +kernel
theorem dL_line_3 : decode cL_line 3 = .ok (.aload_n 0, 1) := by decide +kernel
theorem dL_line_4 : decode cL_line 4 = .ok (.iload_n 1, 1) := by decide +kernel
theorem dL_line_5 : decode cL_line 5 = .ok (.iload_n 2, 1) := by decide +kernel
theorem dL_line_6 : decode cL_line 6 = .ok (.iload_n 3, 1) := by decide +kernel
theorem dL_line_7 : decode cL_line 7 = .ok (.invokevirtual 31, 3) := by decide +kernel
theorem dL_line_10 : decode cL_line 10 = .ok (.i2l, 1) := by decide +kernel
theorem dL_line_11 : decode cL_line 11 = .ok (.lastore, 1) := by decide +kernel
theorem dL_line_12 : decode cL_line 12 = .ok (.goto 15, 3) := by decide +kernel
theorem dL_line_15 : decode cL_line 15 = .ok (.astore 5, 2) := by decide +kernel
theorem dL_line_17 : decode cL_line 17 = .ok (.iconst 1, 1) := by decide +kernel
theorem dL_line_18 : decode cL_line 18 = .ok (.ireturn, 1) := by decide +kernel
theorem dL_line_19 : decode cL_line 19 = .ok (.astore 5, 2) := by decide +kernel
theorem dL_line_21 : decode cL_line 21 = .ok (.iconst 2, 1) := by decide +kernel
theorem dL_line_22 : decode cL_line 22 = .ok (.ireturn, 1) := by decide +kernel
theorem dL_line_23 : decode cL_line 23 = .ok (.astore 5, 2) := by decide +kernel
theorem dL_line_25 : decode cL_line 25 = .ok (.iconst 3, 1) := by decide +kernel
theorem dL_line_26 : decode cL_line 26 = .ok (.ireturn, 1) := by decide +kernel
theorem dL_line_27 : decode cL_line 27 = .ok (.iconst 0, 1) := by decide +kernel
theorem dL_line_28 : decode cL_line 28 = .ok (.ireturn, 1) := by decide +kernel
def Wp_L_line (x1 : Int32) (x2 : Int32) (x3 : Int32) (μ : Mm) (q : Int32 → Mm → Prop) : Prop :=
  Wp_X7_line x1 x2 x3 μ (fun z μ2 => q (0 : Int32) (up2 μ2 p_OUT 0 z)) (fun E μx => (E = "java/lang/IndexOutOfBoundsException" ∧ q (1 : Int32) μx) ∨ (E = "java/lang/IllegalArgumentException" ∧ q (2 : Int32) μx) ∨ (E = "java/lang/IllegalStateException" ∧ q (3 : Int32) μx))
set_option maxHeartbeats 2000000 in
theorem m_L_line {g : GE} {l : Launch} (hst : l.stackTraces = false) {μ : Mm} {q : Int32 → Mm → Prop} {x1 : Int32} {x2 : Int32} {x3 : Int32} (h : Wp_L_line x1 x2 x3 μ q) : MH g l yL_line cL_line 6 (some .int) [(0, 12, 15, 21), (0, 12, 19, 13), (0, 12, 23, 15)] 7 113 [.ref p_ML, .int x1, .int x2, .int x3, .ref p_OUT] μ (qI q) := by
  refine hmet_of hst (by decide) (Nat.le_of_ble_eq_true rfl) (by intro v hv; simp only [List.mem_cons, List.not_mem_nil, or_false] at hv; rcases hv with rfl | rfl | rfl | rfl | rfl <;> rfl) ?_
  intro f hfl cx cx6 hr hx
  unfold Wp_L_line at h
  show KW g f 6 0 0 0 [some (.ref p_ML), some (.int x1), some (.int x2), some (.int x3), some (.ref p_OUT), none] [] μ
  refine k_aload cx dL_line_0 rfl ?_
  refine k_iconst (v := (0 : Int32)) cx dL_line_2 (by decide +kernel) ?_
  refine k_aload_n cx dL_line_3 rfl rfl ?_
  refine k_iload_n cx dL_line_4 rfl rfl ?_
  refine k_iload_n cx dL_line_5 rfl rfl ?_
  refine k_iload_n cx dL_line_6 rfl rfl ?_
  refine k_callX (As := [.int x1, .int x2, .int x3]) (rest := [.int (0 : Int32), .ref p_OUT]) cx hx (m_X7_line hx.2.2.2.2.1 h) lk_L_31 cv_L_31 ob_ML rfl rfl rfl rfl (Nat.le_of_ble_eq_true rfl) ⟨Nat.le_of_ble_eq_true rfl, Nat.le_of_ble_eq_true rfl⟩ dL_line_7 (fun E μx hq => ?_) (fun v μ2 hq => ?_)
  · rcases hq with ⟨rfl, h⟩ | ⟨rfl, h⟩ | ⟨rfl, h⟩
    · refine ⟨15, hd_L_line_eB, 5, by decide, Or.inr ⟨dL_line_15, ?_⟩⟩
      refine k_iconst (v := (1 : Int32)) cx6 dL_line_17 (by decide +kernel) ?_
      exact k_hret_I cx6 hr hx dL_line_18 h
    · refine ⟨19, hd_L_line_eA, 5, by decide, Or.inr ⟨dL_line_19, ?_⟩⟩
      refine k_iconst (v := (2 : Int32)) cx6 dL_line_21 (by decide +kernel) ?_
      exact k_hret_I cx6 hr hx dL_line_22 h
    · refine ⟨23, hd_L_line_eS, 5, by decide, Or.inr ⟨dL_line_23, ?_⟩⟩
      refine k_iconst (v := (3 : Int32)) cx6 dL_line_25 (by decide +kernel) ?_
      exact k_hret_I cx6 hr hx dL_line_26 h
  · obtain ⟨z, rfl, h⟩ := hq
    refine k_i2l cx6 dL_line_10 ?_
    refine k_last cx6 ar_OUT vp_00 dL_line_11 ?_
    refine k_goto (tgt := 27) cx6 dL_line_12 (by decide) ?_
    refine k_iconst (v := (0 : Int32)) cx6 dL_line_27 (by decide +kernel) ?_
    exact k_hret_I cx6 hr hx dL_line_28 h

theorem dL_place_0 : decode cL_place 0 = .ok (.aload_n 3, 1) := by decide +kernel
theorem dL_place_1 : decode cL_place 1 = .ok (.iconst 0, 1) := by decide +kernel
theorem dL_place_2 : decode cL_place 2 = .ok (.aload_n 0, 1) := by decide +kernel
theorem dL_place_3 : decode cL_place 3 = .ok (.iload_n 1, 1) := by decide +kernel
theorem dL_place_4 : decode cL_place 4 = .ok (.iload_n 2, 1) := by decide +kernel
theorem dL_place_5 : decode cL_place 5 = .ok (.invokevirtual 34, 3) := by decide +kernel
theorem dL_place_8 : decode cL_place 8 = .ok (.i2l, 1) := by decide +kernel
theorem dL_place_9 : decode cL_place 9 = .ok (.lastore, 1) := by decide +kernel
theorem dL_place_10 : decode cL_place 10 = .ok (.goto 11, 3) := by decide +kernel
theorem dL_place_13 : decode cL_place 13 = .ok (.astore 4, 2) := by decide +kernel
theorem dL_place_15 : decode cL_place 15 = .ok (.iconst 1, 1) := by decide +kernel
theorem dL_place_16 : decode cL_place 16 = .ok (.ireturn, 1) := by decide +kernel
theorem dL_place_17 : decode cL_place 17 = .ok (.astore 4, 2) := by decide +kernel
theorem dL_place_19 : decode cL_place 19 = .ok (.iconst 2, 1) := by decide +kernel
theorem dL_place_20 : decode cL_place 20 = .ok (.ireturn, 1) := by decide +kernel
theorem dL_place_21 : decode cL_place 21 = .ok (.iconst 0, 1) := by decide +kernel
theorem dL_place_22 : decode cL_place 22 = .ok (.ireturn, 1) := by decide +kernel
def Wp_L_place (x1 : Int32) (x2 : Int32) (μ : Mm) (q : Int32 → Mm → Prop) : Prop :=
  Wp_X7_place x1 x2 μ (fun z μ2 => q (0 : Int32) (up2 μ2 p_OUT 0 z)) (fun E μx => (E = "java/lang/IllegalArgumentException" ∧ q (1 : Int32) μx) ∨ (E = "java/lang/IllegalStateException" ∧ q (2 : Int32) μx))
set_option maxHeartbeats 2000000 in
theorem m_L_place {g : GE} {l : Launch} (hst : l.stackTraces = false) {μ : Mm} {q : Int32 → Mm → Prop} {x1 : Int32} {x2 : Int32} (h : Wp_L_place x1 x2 μ q) : MH g l yL_place cL_place 5 (some .int) [(0, 10, 13, 13), (0, 10, 17, 15)] 10 263 [.ref p_ML, .int x1, .int x2, .ref p_OUT] μ (qI q) := by
  refine hmet_of hst (by decide) (Nat.le_of_ble_eq_true rfl) (by intro v hv; simp only [List.mem_cons, List.not_mem_nil, or_false] at hv; rcases hv with rfl | rfl | rfl | rfl <;> rfl) ?_
  intro f hfl cx cx6 hr hx
  unfold Wp_L_place at h
  show KW g f 5 0 0 0 [some (.ref p_ML), some (.int x1), some (.int x2), some (.ref p_OUT), none] [] μ
  refine k_aload_n cx dL_place_0 rfl rfl ?_
  refine k_iconst (v := (0 : Int32)) cx dL_place_1 (by decide +kernel) ?_
  refine k_aload_n cx dL_place_2 rfl rfl ?_
  refine k_iload_n cx dL_place_3 rfl rfl ?_
  refine k_iload_n cx dL_place_4 rfl rfl ?_
  refine k_callX (As := [.int x1, .int x2]) (rest := [.int (0 : Int32), .ref p_OUT]) cx hx (m_X7_place hx.2.2.2.2.1 h) lk_L_34 cv_L_34 ob_ML rfl rfl rfl rfl (Nat.le_of_ble_eq_true rfl) ⟨Nat.le_of_ble_eq_true rfl, Nat.le_of_ble_eq_true rfl⟩ dL_place_5 (fun E μx hq => ?_) (fun v μ2 hq => ?_)
  · rcases hq with ⟨rfl, h⟩ | ⟨rfl, h⟩
    · refine ⟨13, hd_L_place_eA, 4, by decide, Or.inr ⟨dL_place_13, ?_⟩⟩
      refine k_iconst (v := (1 : Int32)) cx6 dL_place_15 (by decide +kernel) ?_
      exact k_hret_I cx6 hr hx dL_place_16 h
    · refine ⟨17, hd_L_place_eS, 4, by decide, Or.inr ⟨dL_place_17, ?_⟩⟩
      refine k_iconst (v := (2 : Int32)) cx6 dL_place_19 (by decide +kernel) ?_
      exact k_hret_I cx6 hr hx dL_place_20 h
  · obtain ⟨z, rfl, h⟩ := hq
    refine k_i2l cx6 dL_place_8 ?_
    refine k_last cx6 ar_OUT vp_00 dL_place_9 ?_
    refine k_goto (tgt := 21) cx6 dL_place_10 (by decide) ?_
    refine k_iconst (v := (0 : Int32)) cx6 dL_place_21 (by decide +kernel) ?_
    exact k_hret_I cx6 hr hx dL_place_22 h

theorem dL_end_0 : decode cL_end 0 = .ok (.aload_n 0, 1) := by decide +kernel
theorem dL_end_1 : decode cL_end 1 = .ok (.iload_n 1, 1) := by decide +kernel
theorem dL_end_2 : decode cL_end 2 = .ok (.invokevirtual 37, 3) := by decide +kernel
theorem dL_end_5 : decode cL_end 5 = .ok (.goto 9, 3) := by decide +kernel
theorem dL_end_8 : decode cL_end 8 = .ok (.astore_n 2, 1) := by decide +kernel
theorem dL_end_9 : decode cL_end 9 = .ok (.iconst 1, 1) := by decide +kernel
theorem dL_end_10 : decode cL_end 10 = .ok (.ireturn, 1) := by decide +kernel
theorem dL_end_11 : decode cL_end 11 = .ok (.astore_n 2, 1) := by decide +kernel
theorem dL_end_12 : decode cL_end 12 = .ok (.iconst 2, 1) := by decide +kernel
theorem dL_end_13 : decode cL_end 13 = .ok (.ireturn, 1) := by decide +kernel
theorem dL_end_14 : decode cL_end 14 = .ok (.iconst 0, 1) := by decide +kernel
theorem dL_end_15 : decode cL_end 15 = .ok (.ireturn, 1) := by decide +kernel
def Wp_L_end (x1 : Int32) (μ : Mm) (q : Int32 → Mm → Prop) : Prop :=
  Wp_X7_end x1 μ (fun μ2 => q (0 : Int32) μ2) (fun E μx => (E = "java/lang/IndexOutOfBoundsException" ∧ q (1 : Int32) μx) ∨ (E = "java/lang/IllegalStateException" ∧ q (2 : Int32) μx))
set_option maxHeartbeats 2000000 in
theorem m_L_end {g : GE} {l : Launch} (hst : l.stackTraces = false) {μ : Mm} {q : Int32 → Mm → Prop} {x1 : Int32} (h : Wp_L_end x1 μ q) : MH g l yL_end cL_end 3 (some .int) [(0, 5, 8, 21), (0, 5, 11, 15)] 7 135 [.ref p_ML, .int x1] μ (qI q) := by
  refine hmet_of hst (by decide) (Nat.le_of_ble_eq_true rfl) (by intro v hv; simp only [List.mem_cons, List.not_mem_nil, or_false] at hv; rcases hv with rfl | rfl <;> rfl) ?_
  intro f hfl cx cx6 hr hx
  unfold Wp_L_end at h
  show KW g f 3 0 0 0 [some (.ref p_ML), some (.int x1), none] [] μ
  refine k_aload_n cx dL_end_0 rfl rfl ?_
  refine k_iload_n cx dL_end_1 rfl rfl ?_
  refine k_callX (As := [.int x1]) (rest := []) cx hx (m_X7_end hx.2.2.2.2.1 h) lk_L_37 cv_L_37 ob_ML rfl rfl rfl rfl (Nat.le_of_ble_eq_true rfl) ⟨Nat.le_of_ble_eq_true rfl, Nat.le_of_ble_eq_true rfl⟩ dL_end_2 (fun E μx hq => ?_) (fun v μ2 hq => ?_)
  · rcases hq with ⟨rfl, h⟩ | ⟨rfl, h⟩
    · refine ⟨8, hd_L_end_eB, 2, by decide, Or.inl ⟨_, dL_end_8, rfl, ?_⟩⟩
      refine k_iconst (v := (1 : Int32)) cx6 dL_end_9 (by decide +kernel) ?_
      exact k_hret_I cx6 hr hx dL_end_10 h
    · refine ⟨11, hd_L_end_eS, 2, by decide, Or.inl ⟨_, dL_end_11, rfl, ?_⟩⟩
      refine k_iconst (v := (2 : Int32)) cx6 dL_end_12 (by decide +kernel) ?_
      exact k_hret_I cx6 hr hx dL_end_13 h
  · obtain ⟨rfl, h⟩ := hq
    refine k_goto (tgt := 14) cx6 dL_end_5 (by decide) ?_
    refine k_iconst (v := (0 : Int32)) cx6 dL_end_14 (by decide +kernel) ?_
    exact k_hret_I cx6 hr hx dL_end_15 h

theorem dL_move_0 : decode cL_move 0 = .ok (.aload 4, 2) := by decide +kernel
theorem dL_move_2 : decode cL_move 2 = .ok (.iconst 0, 1) := by decide +kernel
theorem dL_move_3 : decode cL_move 3 = .ok (.aload_n 0, 1) := by decide +kernel
theorem dL_move_4 : decode cL_move 4 = .ok (.iload_n 1, 1) := by decide +kernel
theorem dL_move_5 : decode cL_move 5 = .ok (.iload_n 2, 1) := by decide +kernel
theorem dL_move_6 : decode cL_move 6 = .ok (.iload_n 3, 1) := by decide +kernel
theorem dL_move_7 : decode cL_move 7 = .ok (.invokevirtual 41, 3) := by decide +kernel
theorem dL_move_10 : decode cL_move 10 = .ok (.i2l, 1) := by decide +kernel
theorem dL_move_11 : decode cL_move 11 = .ok (.lastore, 1) := by decide +kernel
theorem dL_move_12 : decode cL_move 12 = .ok (.goto 15, 3) := by decide +kernel
theorem dL_move_15 : decode cL_move 15 = .ok (.astore 5, 2) := by decide +kernel
theorem dL_move_17 : decode cL_move 17 = .ok (.iconst 1, 1) := by decide +kernel
theorem dL_move_18 : decode cL_move 18 = .ok (.ireturn, 1) := by decide +kernel
theorem dL_move_19 : decode cL_move 19 = .ok (.astore 5, 2) := by decide +kernel
theorem dL_move_21 : decode cL_move 21 = .ok (.iconst 2, 1) := by decide +kernel
theorem dL_move_22 : decode cL_move 22 = .ok (.ireturn, 1) := by decide +kernel
theorem dL_move_23 : decode cL_move 23 = .ok (.astore 5, 2) := by decide +kernel
theorem dL_move_25 : decode cL_move 25 = .ok (.iconst 3, 1) := by decide +kernel
theorem dL_move_26 : decode cL_move 26 = .ok (.ireturn, 1) := by decide +kernel
theorem dL_move_27 : decode cL_move 27 = .ok (.iconst 0, 1) := by decide +kernel
theorem dL_move_28 : decode cL_move 28 = .ok (.ireturn, 1) := by decide +kernel
def Wp_L_move (x1 : Int32) (x2 : Int32) (x3 : Int32) (μ : Mm) (q : Int32 → Mm → Prop) : Prop :=
  Wp_X7_move x1 x2 x3 μ (fun z μ2 => q (0 : Int32) (up2 μ2 p_OUT 0 z)) (fun E μx => (E = "java/lang/IndexOutOfBoundsException" ∧ q (1 : Int32) μx) ∨ (E = "java/lang/IllegalArgumentException" ∧ q (2 : Int32) μx) ∨ (E = "java/lang/IllegalStateException" ∧ q (3 : Int32) μx))
set_option maxHeartbeats 2000000 in
theorem m_L_move {g : GE} {l : Launch} (hst : l.stackTraces = false) {μ : Mm} {q : Int32 → Mm → Prop} {x1 : Int32} {x2 : Int32} {x3 : Int32} (h : Wp_L_move x1 x2 x3 μ q) : MH g l yL_move cL_move 6 (some .int) [(0, 12, 15, 21), (0, 12, 19, 13), (0, 12, 23, 15)] 7 139 [.ref p_ML, .int x1, .int x2, .int x3, .ref p_OUT] μ (qI q) := by
  refine hmet_of hst (by decide) (Nat.le_of_ble_eq_true rfl) (by intro v hv; simp only [List.mem_cons, List.not_mem_nil, or_false] at hv; rcases hv with rfl | rfl | rfl | rfl | rfl <;> rfl) ?_
  intro f hfl cx cx6 hr hx
  unfold Wp_L_move at h
  show KW g f 6 0 0 0 [some (.ref p_ML), some (.int x1), some (.int x2), some (.int x3), some (.ref p_OUT), none] [] μ
  refine k_aload cx dL_move_0 rfl ?_
  refine k_iconst (v := (0 : Int32)) cx dL_move_2 (by decide +kernel) ?_
  refine k_aload_n cx dL_move_3 rfl rfl ?_
  refine k_iload_n cx dL_move_4 rfl rfl ?_
  refine k_iload_n cx dL_move_5 rfl rfl ?_
  refine k_iload_n cx dL_move_6 rfl rfl ?_
  refine k_callX (As := [.int x1, .int x2, .int x3]) (rest := [.int (0 : Int32), .ref p_OUT]) cx hx (m_X7_move hx.2.2.2.2.1 h) lk_L_41 cv_L_41 ob_ML rfl rfl rfl rfl (Nat.le_of_ble_eq_true rfl) ⟨Nat.le_of_ble_eq_true rfl, Nat.le_of_ble_eq_true rfl⟩ dL_move_7 (fun E μx hq => ?_) (fun v μ2 hq => ?_)
  · rcases hq with ⟨rfl, h⟩ | ⟨rfl, h⟩ | ⟨rfl, h⟩
    · refine ⟨15, hd_L_move_eB, 5, by decide, Or.inr ⟨dL_move_15, ?_⟩⟩
      refine k_iconst (v := (1 : Int32)) cx6 dL_move_17 (by decide +kernel) ?_
      exact k_hret_I cx6 hr hx dL_move_18 h
    · refine ⟨19, hd_L_move_eA, 5, by decide, Or.inr ⟨dL_move_19, ?_⟩⟩
      refine k_iconst (v := (2 : Int32)) cx6 dL_move_21 (by decide +kernel) ?_
      exact k_hret_I cx6 hr hx dL_move_22 h
    · refine ⟨23, hd_L_move_eS, 5, by decide, Or.inr ⟨dL_move_23, ?_⟩⟩
      refine k_iconst (v := (3 : Int32)) cx6 dL_move_25 (by decide +kernel) ?_
      exact k_hret_I cx6 hr hx dL_move_26 h
  · obtain ⟨z, rfl, h⟩ := hq
    refine k_i2l cx6 dL_move_10 ?_
    refine k_last cx6 ar_OUT vp_00 dL_move_11 ?_
    refine k_goto (tgt := 27) cx6 dL_move_12 (by decide) ?_
    refine k_iconst (v := (0 : Int32)) cx6 dL_move_27 (by decide +kernel) ?_
    exact k_hret_I cx6 hr hx dL_move_28 h

theorem dL_pass_0 : decode cL_pass 0 = .ok (.aload_n 2, 1) := by decide +kernel
theorem dL_pass_1 : decode cL_pass 1 = .ok (.iconst 0, 1) := by decide +kernel
theorem dL_pass_2 : decode cL_pass 2 = .ok (.aload_n 0, 1) := by decide +kernel
theorem dL_pass_3 : decode cL_pass 3 = .ok (.iload_n 1, 1) := by decide +kernel
theorem dL_pass_4 : decode cL_pass 4 = .ok (.invokevirtual 44, 3) := by decide +kernel
theorem dL_pass_7 : decode cL_pass 7 = .ok (.i2l, 1) := by decide +kernel
theorem dL_pass_8 : decode cL_pass 8 = .ok (.lastore, 1) := by decide +kernel
theorem dL_pass_9 : decode cL_pass 9 = .ok (.goto 6, 3) := by decide +kernel
theorem dL_pass_12 : decode cL_pass 12 = .ok (.astore_n 3, 1) := by decide +kernel
theorem dL_pass_13 : decode cL_pass 13 = .ok (.iconst 1, 1) := by decide +kernel
theorem dL_pass_14 : decode cL_pass 14 = .ok (.ireturn, 1) := by decide +kernel
theorem dL_pass_15 : decode cL_pass 15 = .ok (.iconst 0, 1) := by decide +kernel
theorem dL_pass_16 : decode cL_pass 16 = .ok (.ireturn, 1) := by decide +kernel
def Wp_L_pass (x1 : Int32) (μ : Mm) (q : Int32 → Mm → Prop) : Prop :=
  Wp_X7_pass x1 μ (fun z μ2 => q (0 : Int32) (up2 μ2 p_OUT 0 z)) (fun E μx => (E = "java/lang/IllegalArgumentException" ∧ q (1 : Int32) μx))
set_option maxHeartbeats 2000000 in
theorem m_L_pass {g : GE} {l : Launch} (hst : l.stackTraces = false) {μ : Mm} {q : Int32 → Mm → Prop} {x1 : Int32} (h : Wp_L_pass x1 μ q) : MH g l yL_pass cL_pass 4 (some .int) [(0, 9, 12, 13)] 7 137 [.ref p_ML, .int x1, .ref p_OUT] μ (qI q) := by
  refine hmet_of hst (by decide) (Nat.le_of_ble_eq_true rfl) (by intro v hv; simp only [List.mem_cons, List.not_mem_nil, or_false] at hv; rcases hv with rfl | rfl | rfl <;> rfl) ?_
  intro f hfl cx cx6 hr hx
  unfold Wp_L_pass at h
  show KW g f 4 0 0 0 [some (.ref p_ML), some (.int x1), some (.ref p_OUT), none] [] μ
  refine k_aload_n cx dL_pass_0 rfl rfl ?_
  refine k_iconst (v := (0 : Int32)) cx dL_pass_1 (by decide +kernel) ?_
  refine k_aload_n cx dL_pass_2 rfl rfl ?_
  refine k_iload_n cx dL_pass_3 rfl rfl ?_
  refine k_callX (As := [.int x1]) (rest := [.int (0 : Int32), .ref p_OUT]) cx hx (m_X7_pass hx.2.2.2.2.1 h) lk_L_44 cv_L_44 ob_ML rfl rfl rfl rfl (Nat.le_of_ble_eq_true rfl) ⟨Nat.le_of_ble_eq_true rfl, Nat.le_of_ble_eq_true rfl⟩ dL_pass_4 (fun E μx hq => ?_) (fun v μ2 hq => ?_)
  · obtain ⟨rfl, h⟩ := hq
    · refine ⟨12, hd_L_pass_eA, 3, by decide, Or.inl ⟨_, dL_pass_12, rfl, ?_⟩⟩
      refine k_iconst (v := (1 : Int32)) cx6 dL_pass_13 (by decide +kernel) ?_
      exact k_hret_I cx6 hr hx dL_pass_14 h
  · obtain ⟨z, rfl, h⟩ := hq
    refine k_i2l cx6 dL_pass_7 ?_
    refine k_last cx6 ar_OUT vp_00 dL_pass_8 ?_
    refine k_goto (tgt := 15) cx6 dL_pass_9 (by decide) ?_
    refine k_iconst (v := (0 : Int32)) cx6 dL_pass_15 (by decide +kernel) ?_
    exact k_hret_I cx6 hr hx dL_pass_16 h

theorem dL_ofNode_0 : decode cL_ofNode 0 = .ok (.aload_n 3, 1) := by decide +kernel
theorem dL_ofNode_1 : decode cL_ofNode 1 = .ok (.iconst 0, 1) := by decide +kernel
theorem dL_ofNode_2 : decode cL_ofNode 2 = .ok (.aload_n 0, 1) := by decide +kernel
theorem dL_ofNode_3 : decode cL_ofNode 3 = .ok (.iload_n 1, 1) := by decide +kernel
theorem dL_ofNode_4 : decode cL_ofNode 4 = .ok (.iload_n 2, 1) := by decide +kernel
theorem dL_ofNode_5 : decode cL_ofNode 5 = .ok (.invokevirtual 47, 3) := by decide +kernel
theorem dL_ofNode_8 : decode cL_ofNode 8 = .ok (.i2l, 1) := by decide +kernel
theorem dL_ofNode_9 : decode cL_ofNode 9 = .ok (.lastore, 1) := by decide +kernel
theorem dL_ofNode_10 : decode cL_ofNode 10 = .ok (.goto 11, 3) := by decide +kernel
theorem dL_ofNode_13 : decode cL_ofNode 13 = .ok (.astore 4, 2) := by decide +kernel
theorem dL_ofNode_15 : decode cL_ofNode 15 = .ok (.iconst 1, 1) := by decide +kernel
theorem dL_ofNode_16 : decode cL_ofNode 16 = .ok (.ireturn, 1) := by decide +kernel
theorem dL_ofNode_17 : decode cL_ofNode 17 = .ok (.astore 4, 2) := by decide +kernel
theorem dL_ofNode_19 : decode cL_ofNode 19 = .ok (.iconst 2, 1) := by decide +kernel
theorem dL_ofNode_20 : decode cL_ofNode 20 = .ok (.ireturn, 1) := by decide +kernel
theorem dL_ofNode_21 : decode cL_ofNode 21 = .ok (.iconst 0, 1) := by decide +kernel
theorem dL_ofNode_22 : decode cL_ofNode 22 = .ok (.ireturn, 1) := by decide +kernel
def Wp_L_ofNode (x1 : Int32) (x2 : Int32) (μ : Mm) (q : Int32 → Mm → Prop) : Prop :=
  Wp_X7_ofNode x1 x2 μ (fun z μ2 => q (0 : Int32) (up2 μ2 p_OUT 0 z)) (fun E μx => (E = "java/lang/IndexOutOfBoundsException" ∧ q (1 : Int32) μx) ∨ (E = "java/lang/IllegalArgumentException" ∧ q (2 : Int32) μx))
set_option maxHeartbeats 2000000 in
theorem m_L_ofNode {g : GE} {l : Launch} (hst : l.stackTraces = false) {μ : Mm} {q : Int32 → Mm → Prop} {x1 : Int32} {x2 : Int32} (h : Wp_L_ofNode x1 x2 μ q) : MH g l yL_ofNode cL_ofNode 5 (some .int) [(0, 10, 13, 21), (0, 10, 17, 13)] 7 112 [.ref p_ML, .int x1, .int x2, .ref p_OUT] μ (qI q) := by
  refine hmet_of hst (by decide) (Nat.le_of_ble_eq_true rfl) (by intro v hv; simp only [List.mem_cons, List.not_mem_nil, or_false] at hv; rcases hv with rfl | rfl | rfl | rfl <;> rfl) ?_
  intro f hfl cx cx6 hr hx
  unfold Wp_L_ofNode at h
  show KW g f 5 0 0 0 [some (.ref p_ML), some (.int x1), some (.int x2), some (.ref p_OUT), none] [] μ
  refine k_aload_n cx dL_ofNode_0 rfl rfl ?_
  refine k_iconst (v := (0 : Int32)) cx dL_ofNode_1 (by decide +kernel) ?_
  refine k_aload_n cx dL_ofNode_2 rfl rfl ?_
  refine k_iload_n cx dL_ofNode_3 rfl rfl ?_
  refine k_iload_n cx dL_ofNode_4 rfl rfl ?_
  refine k_callX (As := [.int x1, .int x2]) (rest := [.int (0 : Int32), .ref p_OUT]) cx hx (m_X7_ofNode hx.2.2.2.2.1 h) lk_L_47 cv_L_47 ob_ML rfl rfl rfl rfl (Nat.le_of_ble_eq_true rfl) ⟨Nat.le_of_ble_eq_true rfl, Nat.le_of_ble_eq_true rfl⟩ dL_ofNode_5 (fun E μx hq => ?_) (fun v μ2 hq => ?_)
  · rcases hq with ⟨rfl, h⟩ | ⟨rfl, h⟩
    · refine ⟨13, hd_L_ofNode_eB, 4, by decide, Or.inr ⟨dL_ofNode_13, ?_⟩⟩
      refine k_iconst (v := (1 : Int32)) cx6 dL_ofNode_15 (by decide +kernel) ?_
      exact k_hret_I cx6 hr hx dL_ofNode_16 h
    · refine ⟨17, hd_L_ofNode_eA, 4, by decide, Or.inr ⟨dL_ofNode_17, ?_⟩⟩
      refine k_iconst (v := (2 : Int32)) cx6 dL_ofNode_19 (by decide +kernel) ?_
      exact k_hret_I cx6 hr hx dL_ofNode_20 h
  · obtain ⟨z, rfl, h⟩ := hq
    refine k_i2l cx6 dL_ofNode_8 ?_
    refine k_last cx6 ar_OUT vp_00 dL_ofNode_9 ?_
    refine k_goto (tgt := 21) cx6 dL_ofNode_10 (by decide) ?_
    refine k_iconst (v := (0 : Int32)) cx6 dL_ofNode_21 (by decide +kernel) ?_
    exact k_hret_I cx6 hr hx dL_ofNode_22 h

theorem dL_ofLink_0 : decode cL_ofLink 0 = .ok (.aload_n 3, 1) := by decide +kernel
theorem dL_ofLink_1 : decode cL_ofLink 1 = .ok (.iconst 0, 1) := by decide +kernel
theorem dL_ofLink_2 : decode cL_ofLink 2 = .ok (.aload_n 0, 1) := by decide +kernel
theorem dL_ofLink_3 : decode cL_ofLink 3 = .ok (.iload_n 1, 1) := by decide +kernel
theorem dL_ofLink_4 : decode cL_ofLink 4 = .ok (.iload_n 2, 1) := by decide +kernel
theorem dL_ofLink_5 : decode cL_ofLink 5 = .ok (.invokevirtual 50, 3) := by decide +kernel
theorem dL_ofLink_8 : decode cL_ofLink 8 = .ok (.i2l, 1) := by decide +kernel
theorem dL_ofLink_9 : decode cL_ofLink 9 = .ok (.lastore, 1) := by decide +kernel
theorem dL_ofLink_10 : decode cL_ofLink 10 = .ok (.goto 11, 3) := by decide +kernel
theorem dL_ofLink_13 : decode cL_ofLink 13 = .ok (.astore 4, 2) := by decide +kernel
theorem dL_ofLink_15 : decode cL_ofLink 15 = .ok (.iconst 1, 1) := by decide +kernel
theorem dL_ofLink_16 : decode cL_ofLink 16 = .ok (.ireturn, 1) := by decide +kernel
theorem dL_ofLink_17 : decode cL_ofLink 17 = .ok (.astore 4, 2) := by decide +kernel
theorem dL_ofLink_19 : decode cL_ofLink 19 = .ok (.iconst 2, 1) := by decide +kernel
theorem dL_ofLink_20 : decode cL_ofLink 20 = .ok (.ireturn, 1) := by decide +kernel
theorem dL_ofLink_21 : decode cL_ofLink 21 = .ok (.iconst 0, 1) := by decide +kernel
theorem dL_ofLink_22 : decode cL_ofLink 22 = .ok (.ireturn, 1) := by decide +kernel
def Wp_L_ofLink (x1 : Int32) (x2 : Int32) (μ : Mm) (q : Int32 → Mm → Prop) : Prop :=
  Wp_X7_ofLink x1 x2 μ (fun z μ2 => q (0 : Int32) (up2 μ2 p_OUT 0 z)) (fun E μx => (E = "java/lang/IndexOutOfBoundsException" ∧ q (1 : Int32) μx) ∨ (E = "java/lang/IllegalArgumentException" ∧ q (2 : Int32) μx))
set_option maxHeartbeats 2000000 in
theorem m_L_ofLink {g : GE} {l : Launch} (hst : l.stackTraces = false) {μ : Mm} {q : Int32 → Mm → Prop} {x1 : Int32} {x2 : Int32} (h : Wp_L_ofLink x1 x2 μ q) : MH g l yL_ofLink cL_ofLink 5 (some .int) [(0, 10, 13, 21), (0, 10, 17, 13)] 7 112 [.ref p_ML, .int x1, .int x2, .ref p_OUT] μ (qI q) := by
  refine hmet_of hst (by decide) (Nat.le_of_ble_eq_true rfl) (by intro v hv; simp only [List.mem_cons, List.not_mem_nil, or_false] at hv; rcases hv with rfl | rfl | rfl | rfl <;> rfl) ?_
  intro f hfl cx cx6 hr hx
  unfold Wp_L_ofLink at h
  show KW g f 5 0 0 0 [some (.ref p_ML), some (.int x1), some (.int x2), some (.ref p_OUT), none] [] μ
  refine k_aload_n cx dL_ofLink_0 rfl rfl ?_
  refine k_iconst (v := (0 : Int32)) cx dL_ofLink_1 (by decide +kernel) ?_
  refine k_aload_n cx dL_ofLink_2 rfl rfl ?_
  refine k_iload_n cx dL_ofLink_3 rfl rfl ?_
  refine k_iload_n cx dL_ofLink_4 rfl rfl ?_
  refine k_callX (As := [.int x1, .int x2]) (rest := [.int (0 : Int32), .ref p_OUT]) cx hx (m_X7_ofLink hx.2.2.2.2.1 h) lk_L_50 cv_L_50 ob_ML rfl rfl rfl rfl (Nat.le_of_ble_eq_true rfl) ⟨Nat.le_of_ble_eq_true rfl, Nat.le_of_ble_eq_true rfl⟩ dL_ofLink_5 (fun E μx hq => ?_) (fun v μ2 hq => ?_)
  · rcases hq with ⟨rfl, h⟩ | ⟨rfl, h⟩
    · refine ⟨13, hd_L_ofLink_eB, 4, by decide, Or.inr ⟨dL_ofLink_13, ?_⟩⟩
      refine k_iconst (v := (1 : Int32)) cx6 dL_ofLink_15 (by decide +kernel) ?_
      exact k_hret_I cx6 hr hx dL_ofLink_16 h
    · refine ⟨17, hd_L_ofLink_eA, 4, by decide, Or.inr ⟨dL_ofLink_17, ?_⟩⟩
      refine k_iconst (v := (2 : Int32)) cx6 dL_ofLink_19 (by decide +kernel) ?_
      exact k_hret_I cx6 hr hx dL_ofLink_20 h
  · obtain ⟨z, rfl, h⟩ := hq
    refine k_i2l cx6 dL_ofLink_8 ?_
    refine k_last cx6 ar_OUT vp_00 dL_ofLink_9 ?_
    refine k_goto (tgt := 21) cx6 dL_ofLink_10 (by decide) ?_
    refine k_iconst (v := (0 : Int32)) cx6 dL_ofLink_21 (by decide +kernel) ?_
    exact k_hret_I cx6 hr hx dL_ofLink_22 h

theorem dL_load_0 : decode cL_load 0 = .ok (.aload_n 3, 1) := by decide +kernel
theorem dL_load_1 : decode cL_load 1 = .ok (.iconst 0, 1) := by decide +kernel
theorem dL_load_2 : decode cL_load 2 = .ok (.aload_n 0, 1) := by decide +kernel
theorem dL_load_3 : decode cL_load 3 = .ok (.iload_n 1, 1) := by decide +kernel
theorem dL_load_4 : decode cL_load 4 = .ok (.iload_n 2, 1) := by decide +kernel
theorem dL_load_5 : decode cL_load 5 = .ok (.invokevirtual 53, 3) := by decide +kernel
theorem dL_load_8 : decode cL_load 8 = .ok (.i2l, 1) := by decide +kernel
theorem dL_load_9 : decode cL_load 9 = .ok (.lastore, 1) := by decide +kernel
theorem dL_load_10 : decode cL_load 10 = .ok (.goto 11, 3) := by decide +kernel
theorem dL_load_13 : decode cL_load 13 = .ok (.astore 4, 2) := by decide +kernel
theorem dL_load_15 : decode cL_load 15 = .ok (.iconst 1, 1) := by decide +kernel
theorem dL_load_16 : decode cL_load 16 = .ok (.ireturn, 1) := by decide +kernel
theorem dL_load_17 : decode cL_load 17 = .ok (.astore 4, 2) := by decide +kernel
theorem dL_load_19 : decode cL_load 19 = .ok (.iconst 2, 1) := by decide +kernel
theorem dL_load_20 : decode cL_load 20 = .ok (.ireturn, 1) := by decide +kernel
theorem dL_load_21 : decode cL_load 21 = .ok (.iconst 0, 1) := by decide +kernel
theorem dL_load_22 : decode cL_load 22 = .ok (.ireturn, 1) := by decide +kernel
def Wp_L_load (x1 : Int32) (x2 : Int32) (μ : Mm) (q : Int32 → Mm → Prop) : Prop :=
  Wp_X7_load x1 x2 μ (fun z μ2 => q (0 : Int32) (up2 μ2 p_OUT 0 z)) (fun E μx => (E = "java/lang/IndexOutOfBoundsException" ∧ q (1 : Int32) μx) ∨ (E = "java/lang/IllegalArgumentException" ∧ q (2 : Int32) μx))
set_option maxHeartbeats 2000000 in
theorem m_L_load {g : GE} {l : Launch} (hst : l.stackTraces = false) {μ : Mm} {q : Int32 → Mm → Prop} {x1 : Int32} {x2 : Int32} (h : Wp_L_load x1 x2 μ q) : MH g l yL_load cL_load 5 (some .int) [(0, 10, 13, 21), (0, 10, 17, 13)] 7 115 [.ref p_ML, .int x1, .int x2, .ref p_OUT] μ (qI q) := by
  refine hmet_of hst (by decide) (Nat.le_of_ble_eq_true rfl) (by intro v hv; simp only [List.mem_cons, List.not_mem_nil, or_false] at hv; rcases hv with rfl | rfl | rfl | rfl <;> rfl) ?_
  intro f hfl cx cx6 hr hx
  unfold Wp_L_load at h
  show KW g f 5 0 0 0 [some (.ref p_ML), some (.int x1), some (.int x2), some (.ref p_OUT), none] [] μ
  refine k_aload_n cx dL_load_0 rfl rfl ?_
  refine k_iconst (v := (0 : Int32)) cx dL_load_1 (by decide +kernel) ?_
  refine k_aload_n cx dL_load_2 rfl rfl ?_
  refine k_iload_n cx dL_load_3 rfl rfl ?_
  refine k_iload_n cx dL_load_4 rfl rfl ?_
  refine k_callX (As := [.int x1, .int x2]) (rest := [.int (0 : Int32), .ref p_OUT]) cx hx (m_X7_load hx.2.2.2.2.1 h) lk_L_53 cv_L_53 ob_ML rfl rfl rfl rfl (Nat.le_of_ble_eq_true rfl) ⟨Nat.le_of_ble_eq_true rfl, Nat.le_of_ble_eq_true rfl⟩ dL_load_5 (fun E μx hq => ?_) (fun v μ2 hq => ?_)
  · rcases hq with ⟨rfl, h⟩ | ⟨rfl, h⟩
    · refine ⟨13, hd_L_load_eB, 4, by decide, Or.inr ⟨dL_load_13, ?_⟩⟩
      refine k_iconst (v := (1 : Int32)) cx6 dL_load_15 (by decide +kernel) ?_
      exact k_hret_I cx6 hr hx dL_load_16 h
    · refine ⟨17, hd_L_load_eA, 4, by decide, Or.inr ⟨dL_load_17, ?_⟩⟩
      refine k_iconst (v := (2 : Int32)) cx6 dL_load_19 (by decide +kernel) ?_
      exact k_hret_I cx6 hr hx dL_load_20 h
  · obtain ⟨z, rfl, h⟩ := hq
    refine k_i2l cx6 dL_load_8 ?_
    refine k_last cx6 ar_OUT vp_00 dL_load_9 ?_
    refine k_goto (tgt := 21) cx6 dL_load_10 (by decide) ?_
    refine k_iconst (v := (0 : Int32)) cx6 dL_load_21 (by decide +kernel) ?_
    exact k_hret_I cx6 hr hx dL_load_22 h

theorem dL_told_0 : decode cL_told 0 = .ok (.aload_n 3, 1) := by decide +kernel
theorem dL_told_1 : decode cL_told 1 = .ok (.iconst 0, 1) := by decide +kernel
theorem dL_told_2 : decode cL_told 2 = .ok (.aload_n 0, 1) := by decide +kernel
theorem dL_told_3 : decode cL_told 3 = .ok (.iload_n 1, 1) := by decide +kernel
theorem dL_told_4 : decode cL_told 4 = .ok (.iload_n 2, 1) := by decide +kernel
theorem dL_told_5 : decode cL_told 5 = .ok (.invokevirtual 56, 3) := by decide +kernel
theorem dL_told_8 : decode cL_told 8 = .ok (.i2l, 1) := by decide +kernel
theorem dL_told_9 : decode cL_told 9 = .ok (.lastore, 1) := by decide +kernel
theorem dL_told_10 : decode cL_told 10 = .ok (.goto 11, 3) := by decide +kernel
theorem dL_told_13 : decode cL_told 13 = .ok (.astore 4, 2) := by decide +kernel
theorem dL_told_15 : decode cL_told 15 = .ok (.iconst 1, 1) := by decide +kernel
theorem dL_told_16 : decode cL_told 16 = .ok (.ireturn, 1) := by decide +kernel
theorem dL_told_17 : decode cL_told 17 = .ok (.astore 4, 2) := by decide +kernel
theorem dL_told_19 : decode cL_told 19 = .ok (.iconst 2, 1) := by decide +kernel
theorem dL_told_20 : decode cL_told 20 = .ok (.ireturn, 1) := by decide +kernel
theorem dL_told_21 : decode cL_told 21 = .ok (.iconst 0, 1) := by decide +kernel
theorem dL_told_22 : decode cL_told 22 = .ok (.ireturn, 1) := by decide +kernel
def Wp_L_told (x1 : Int32) (x2 : Int32) (μ : Mm) (q : Int32 → Mm → Prop) : Prop :=
  Wp_X7_told x1 x2 μ (fun z μ2 => q (0 : Int32) (up2 μ2 p_OUT 0 z)) (fun E μx => (E = "java/lang/IndexOutOfBoundsException" ∧ q (1 : Int32) μx) ∨ (E = "java/lang/IllegalArgumentException" ∧ q (2 : Int32) μx))
set_option maxHeartbeats 2000000 in
theorem m_L_told {g : GE} {l : Launch} (hst : l.stackTraces = false) {μ : Mm} {q : Int32 → Mm → Prop} {x1 : Int32} {x2 : Int32} (h : Wp_L_told x1 x2 μ q) : MH g l yL_told cL_told 5 (some .int) [(0, 10, 13, 21), (0, 10, 17, 13)] 7 113 [.ref p_ML, .int x1, .int x2, .ref p_OUT] μ (qI q) := by
  refine hmet_of hst (by decide) (Nat.le_of_ble_eq_true rfl) (by intro v hv; simp only [List.mem_cons, List.not_mem_nil, or_false] at hv; rcases hv with rfl | rfl | rfl | rfl <;> rfl) ?_
  intro f hfl cx cx6 hr hx
  unfold Wp_L_told at h
  show KW g f 5 0 0 0 [some (.ref p_ML), some (.int x1), some (.int x2), some (.ref p_OUT), none] [] μ
  refine k_aload_n cx dL_told_0 rfl rfl ?_
  refine k_iconst (v := (0 : Int32)) cx dL_told_1 (by decide +kernel) ?_
  refine k_aload_n cx dL_told_2 rfl rfl ?_
  refine k_iload_n cx dL_told_3 rfl rfl ?_
  refine k_iload_n cx dL_told_4 rfl rfl ?_
  refine k_callX (As := [.int x1, .int x2]) (rest := [.int (0 : Int32), .ref p_OUT]) cx hx (m_X7_told hx.2.2.2.2.1 h) lk_L_56 cv_L_56 ob_ML rfl rfl rfl rfl (Nat.le_of_ble_eq_true rfl) ⟨Nat.le_of_ble_eq_true rfl, Nat.le_of_ble_eq_true rfl⟩ dL_told_5 (fun E μx hq => ?_) (fun v μ2 hq => ?_)
  · rcases hq with ⟨rfl, h⟩ | ⟨rfl, h⟩
    · refine ⟨13, hd_L_told_eB, 4, by decide, Or.inr ⟨dL_told_13, ?_⟩⟩
      refine k_iconst (v := (1 : Int32)) cx6 dL_told_15 (by decide +kernel) ?_
      exact k_hret_I cx6 hr hx dL_told_16 h
    · refine ⟨17, hd_L_told_eA, 4, by decide, Or.inr ⟨dL_told_17, ?_⟩⟩
      refine k_iconst (v := (2 : Int32)) cx6 dL_told_19 (by decide +kernel) ?_
      exact k_hret_I cx6 hr hx dL_told_20 h
  · obtain ⟨z, rfl, h⟩ := hq
    refine k_i2l cx6 dL_told_8 ?_
    refine k_last cx6 ar_OUT vp_00 dL_told_9 ?_
    refine k_goto (tgt := 21) cx6 dL_told_10 (by decide) ?_
    refine k_iconst (v := (0 : Int32)) cx6 dL_told_21 (by decide +kernel) ?_
    exact k_hret_I cx6 hr hx dL_told_22 h

theorem dL_at_0 : decode cL_at 0 = .ok (.aload_n 3, 1) := by decide +kernel
theorem dL_at_1 : decode cL_at 1 = .ok (.iconst 0, 1) := by decide +kernel
theorem dL_at_2 : decode cL_at 2 = .ok (.aload_n 0, 1) := by decide +kernel
theorem dL_at_3 : decode cL_at 3 = .ok (.iload_n 1, 1) := by decide +kernel
theorem dL_at_4 : decode cL_at 4 = .ok (.iload_n 2, 1) := by decide +kernel
theorem dL_at_5 : decode cL_at 5 = .ok (.invokevirtual 59, 3) := by decide +kernel
theorem dL_at_8 : decode cL_at 8 = .ok (.i2l, 1) := by decide +kernel
theorem dL_at_9 : decode cL_at 9 = .ok (.lastore, 1) := by decide +kernel
theorem dL_at_10 : decode cL_at 10 = .ok (.goto 7, 3) := by decide +kernel
theorem dL_at_13 : decode cL_at 13 = .ok (.astore 4, 2) := by decide +kernel
theorem dL_at_15 : decode cL_at 15 = .ok (.iconst 1, 1) := by decide +kernel
theorem dL_at_16 : decode cL_at 16 = .ok (.ireturn, 1) := by decide +kernel
theorem dL_at_17 : decode cL_at 17 = .ok (.iconst 0, 1) := by decide +kernel
theorem dL_at_18 : decode cL_at 18 = .ok (.ireturn, 1) := by decide +kernel
def Wp_L_at (x1 : Int32) (x2 : Int32) (μ : Mm) (q : Int32 → Mm → Prop) : Prop :=
  Wp_X7_at x1 x2 μ (fun z μ2 => q (0 : Int32) (up2 μ2 p_OUT 0 z)) (fun E μx => (E = "java/lang/IndexOutOfBoundsException" ∧ q (1 : Int32) μx))
set_option maxHeartbeats 2000000 in
theorem m_L_at {g : GE} {l : Launch} (hst : l.stackTraces = false) {μ : Mm} {q : Int32 → Mm → Prop} {x1 : Int32} {x2 : Int32} (h : Wp_L_at x1 x2 μ q) : MH g l yL_at cL_at 5 (some .int) [(0, 10, 13, 21)] 7 112 [.ref p_ML, .int x1, .int x2, .ref p_OUT] μ (qI q) := by
  refine hmet_of hst (by decide) (Nat.le_of_ble_eq_true rfl) (by intro v hv; simp only [List.mem_cons, List.not_mem_nil, or_false] at hv; rcases hv with rfl | rfl | rfl | rfl <;> rfl) ?_
  intro f hfl cx cx6 hr hx
  unfold Wp_L_at at h
  show KW g f 5 0 0 0 [some (.ref p_ML), some (.int x1), some (.int x2), some (.ref p_OUT), none] [] μ
  refine k_aload_n cx dL_at_0 rfl rfl ?_
  refine k_iconst (v := (0 : Int32)) cx dL_at_1 (by decide +kernel) ?_
  refine k_aload_n cx dL_at_2 rfl rfl ?_
  refine k_iload_n cx dL_at_3 rfl rfl ?_
  refine k_iload_n cx dL_at_4 rfl rfl ?_
  refine k_callX (As := [.int x1, .int x2]) (rest := [.int (0 : Int32), .ref p_OUT]) cx hx (m_X7_at hx.2.2.2.2.1 h) lk_L_59 cv_L_59 ob_ML rfl rfl rfl rfl (Nat.le_of_ble_eq_true rfl) ⟨Nat.le_of_ble_eq_true rfl, Nat.le_of_ble_eq_true rfl⟩ dL_at_5 (fun E μx hq => ?_) (fun v μ2 hq => ?_)
  · obtain ⟨rfl, h⟩ := hq
    · refine ⟨13, hd_L_at_eB, 4, by decide, Or.inr ⟨dL_at_13, ?_⟩⟩
      refine k_iconst (v := (1 : Int32)) cx6 dL_at_15 (by decide +kernel) ?_
      exact k_hret_I cx6 hr hx dL_at_16 h
  · obtain ⟨z, rfl, h⟩ := hq
    refine k_i2l cx6 dL_at_8 ?_
    refine k_last cx6 ar_OUT vp_00 dL_at_9 ?_
    refine k_goto (tgt := 17) cx6 dL_at_10 (by decide) ?_
    refine k_iconst (v := (0 : Int32)) cx6 dL_at_17 (by decide +kernel) ?_
    exact k_hret_I cx6 hr hx dL_at_18 h

theorem dL_way_0 : decode cL_way 0 = .ok (.aload 4, 2) := by decide +kernel
theorem dL_way_2 : decode cL_way 2 = .ok (.iconst 0, 1) := by decide +kernel
theorem dL_way_3 : decode cL_way 3 = .ok (.aload_n 0, 1) := by decide +kernel
theorem dL_way_4 : decode cL_way 4 = .ok (.iload_n 1, 1) := by decide +kernel
theorem dL_way_5 : decode cL_way 5 = .ok (.iload_n 2, 1) := by decide +kernel
theorem dL_way_6 : decode cL_way 6 = .ok (.iload_n 3, 1) := by decide +kernel
theorem dL_way_7 : decode cL_way 7 = .ok (.invokevirtual 62, 3) := by decide +kernel
theorem dL_way_10 : decode cL_way 10 = .ok (.i2l, 1) := by decide +kernel
theorem dL_way_11 : decode cL_way 11 = .ok (.lastore, 1) := by decide +kernel
theorem dL_way_12 : decode cL_way 12 = .ok (.goto 11, 3) := by decide +kernel
theorem dL_way_15 : decode cL_way 15 = .ok (.astore 5, 2) := by decide +kernel
theorem dL_way_17 : decode cL_way 17 = .ok (.iconst 1, 1) := by decide +kernel
theorem dL_way_18 : decode cL_way 18 = .ok (.ireturn, 1) := by decide +kernel
theorem dL_way_19 : decode cL_way 19 = .ok (.astore 5, 2) := by decide +kernel
theorem dL_way_21 : decode cL_way 21 = .ok (.iconst 2, 1) := by decide +kernel
theorem dL_way_22 : decode cL_way 22 = .ok (.ireturn, 1) := by decide +kernel
theorem dL_way_23 : decode cL_way 23 = .ok (.iconst 0, 1) := by decide +kernel
theorem dL_way_24 : decode cL_way 24 = .ok (.ireturn, 1) := by decide +kernel
def Wp_L_way (x1 : Int32) (x2 : Int32) (x3 : Int32) (μ : Mm) (q : Int32 → Mm → Prop) : Prop :=
  Wp_X7_way x1 x2 x3 μ (fun z μ2 => q (0 : Int32) (up2 μ2 p_OUT 0 z)) (fun E μx => (E = "java/lang/IndexOutOfBoundsException" ∧ q (1 : Int32) μx) ∨ (E = "java/lang/IllegalArgumentException" ∧ q (2 : Int32) μx))
set_option maxHeartbeats 2000000 in
theorem m_L_way {g : GE} {l : Launch} (hst : l.stackTraces = false) {μ : Mm} {q : Int32 → Mm → Prop} {x1 : Int32} {x2 : Int32} {x3 : Int32} (h : Wp_L_way x1 x2 x3 μ q) : MH g l yL_way cL_way 6 (some .int) [(0, 12, 15, 21), (0, 12, 19, 13)] 7 114 [.ref p_ML, .int x1, .int x2, .int x3, .ref p_OUT] μ (qI q) := by
  refine hmet_of hst (by decide) (Nat.le_of_ble_eq_true rfl) (by intro v hv; simp only [List.mem_cons, List.not_mem_nil, or_false] at hv; rcases hv with rfl | rfl | rfl | rfl | rfl <;> rfl) ?_
  intro f hfl cx cx6 hr hx
  unfold Wp_L_way at h
  show KW g f 6 0 0 0 [some (.ref p_ML), some (.int x1), some (.int x2), some (.int x3), some (.ref p_OUT), none] [] μ
  refine k_aload cx dL_way_0 rfl ?_
  refine k_iconst (v := (0 : Int32)) cx dL_way_2 (by decide +kernel) ?_
  refine k_aload_n cx dL_way_3 rfl rfl ?_
  refine k_iload_n cx dL_way_4 rfl rfl ?_
  refine k_iload_n cx dL_way_5 rfl rfl ?_
  refine k_iload_n cx dL_way_6 rfl rfl ?_
  refine k_callX (As := [.int x1, .int x2, .int x3]) (rest := [.int (0 : Int32), .ref p_OUT]) cx hx (m_X7_way hx.2.2.2.2.1 h) lk_L_62 cv_L_62 ob_ML rfl rfl rfl rfl (Nat.le_of_ble_eq_true rfl) ⟨Nat.le_of_ble_eq_true rfl, Nat.le_of_ble_eq_true rfl⟩ dL_way_7 (fun E μx hq => ?_) (fun v μ2 hq => ?_)
  · rcases hq with ⟨rfl, h⟩ | ⟨rfl, h⟩
    · refine ⟨15, hd_L_way_eB, 5, by decide, Or.inr ⟨dL_way_15, ?_⟩⟩
      refine k_iconst (v := (1 : Int32)) cx6 dL_way_17 (by decide +kernel) ?_
      exact k_hret_I cx6 hr hx dL_way_18 h
    · refine ⟨19, hd_L_way_eA, 5, by decide, Or.inr ⟨dL_way_19, ?_⟩⟩
      refine k_iconst (v := (2 : Int32)) cx6 dL_way_21 (by decide +kernel) ?_
      exact k_hret_I cx6 hr hx dL_way_22 h
  · obtain ⟨z, rfl, h⟩ := hq
    refine k_i2l cx6 dL_way_10 ?_
    refine k_last cx6 ar_OUT vp_00 dL_way_11 ?_
    refine k_goto (tgt := 23) cx6 dL_way_12 (by decide) ?_
    refine k_iconst (v := (0 : Int32)) cx6 dL_way_23 (by decide +kernel) ?_
    exact k_hret_I cx6 hr hx dL_way_24 h

