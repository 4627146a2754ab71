/-! pure programs and their proofs: throwers (written by gen.py) -/
def y_Bench_graphAt : MethodName := ⟨R_Bench, "graphAt", "(I)LHomBench$Graph;"⟩
abbrev b_Bench_graphAt : ByteArray := prog_1_method_38_code
theorem v_Bench_graphAt : HVirt y_Bench_graphAt b_Bench_graphAt 2 (some (.object "HomBench$Graph")) 1 := ⟨List.forall_mem_cons.mpr ⟨h_inI 503 (by decide +kernel) rfl, List.forall_mem_cons.mpr ⟨h_inI 9 (by decide +kernel) rfl, List.forall_mem_cons.mpr ⟨h_inI 100 (by decide +kernel) rfl, List.forall_mem_cons.mpr ⟨h_inI 504 (by decide +kernel) rfl, fun _ h => absurd h List.not_mem_nil⟩⟩⟩⟩, by decide, by decide, by decide +kernel⟩
def y_Bench_requireRange : MethodName := ⟨R_Bench, "requireRange", "(III)V"⟩
abbrev b_Bench_requireRange : ByteArray := prog_1_method_40_code
theorem v_Bench_requireRange : HStat y_Bench_requireRange b_Bench_requireRange 3 none 3 := ⟨List.forall_mem_cons.mpr ⟨h_inI 573 (by decide +kernel) rfl, List.forall_mem_cons.mpr ⟨h_inI 100 (by decide +kernel) rfl, List.forall_mem_cons.mpr ⟨h_inI 574 (by decide +kernel) rfl, fun _ h => absurd h List.not_mem_nil⟩⟩⟩, by decide, by decide, by decide +kernel⟩
def y_Bench_setSize : MethodName := ⟨R_Bench, "setSize", "(II)I"⟩
abbrev b_Bench_setSize : ByteArray := prog_1_method_2_code
theorem v_Bench_setSize : HVirt y_Bench_setSize b_Bench_setSize 5 (some .int) 2 := ⟨List.forall_mem_cons.mpr ⟨h_inI 498 (by decide +kernel) rfl, List.forall_mem_cons.mpr ⟨h_inI 499 (by decide +kernel) rfl, List.forall_mem_cons.mpr ⟨h_inI 100 (by decide +kernel) rfl, List.forall_mem_cons.mpr ⟨h_inI 500 (by decide +kernel) rfl, fun _ h => absurd h List.not_mem_nil⟩⟩⟩⟩, by decide, by decide, by decide +kernel⟩
def y_Bench_requireVertex : MethodName := ⟨R_Bench, "requireVertex", "(LHomBench$Graph;I)V"⟩
abbrev b_Bench_requireVertex : ByteArray := prog_1_method_39_code
theorem v_Bench_requireVertex : HStat y_Bench_requireVertex b_Bench_requireVertex 2 none 2 := ⟨List.forall_mem_cons.mpr ⟨h_inI 615 (by decide +kernel) rfl, List.forall_mem_cons.mpr ⟨h_inI 100 (by decide +kernel) rfl, List.forall_mem_cons.mpr ⟨h_inI 616 (by decide +kernel) rfl, fun _ h => absurd h List.not_mem_nil⟩⟩⟩, by decide, by decide, by decide +kernel⟩
def y_Bench_setVertex : MethodName := ⟨R_Bench, "setVertex", "(III)I"⟩
abbrev b_Bench_setVertex : ByteArray := prog_1_method_3_code
theorem v_Bench_setVertex : HVirt y_Bench_setVertex b_Bench_setVertex 6 (some .int) 3 := ⟨List.forall_mem_cons.mpr ⟨h_inI 611 (by decide +kernel) rfl, List.forall_mem_cons.mpr ⟨h_inI 612 (by decide +kernel) rfl, List.forall_mem_cons.mpr ⟨h_inI 100 (by decide +kernel) rfl, List.forall_mem_cons.mpr ⟨h_inI 613 (by decide +kernel) rfl, fun _ h => absurd h List.not_mem_nil⟩⟩⟩⟩, by decide, by decide, by decide +kernel⟩
def y_Bench_setEdge : MethodName := ⟨R_Bench, "setEdge", "(IIII)I"⟩
abbrev b_Bench_setEdge : ByteArray := prog_1_method_4_code
theorem v_Bench_setEdge : HVirt y_Bench_setEdge b_Bench_setEdge 7 (some .int) 4 := ⟨List.forall_mem_cons.mpr ⟨h_inI 622 (by decide +kernel) rfl, List.forall_mem_cons.mpr ⟨h_inI 623 (by decide +kernel) rfl, List.forall_mem_cons.mpr ⟨h_inI 100 (by decide +kernel) rfl, List.forall_mem_cons.mpr ⟨h_inI 624 (by decide +kernel) rfl, fun _ h => absurd h List.not_mem_nil⟩⟩⟩⟩, by decide, by decide, by decide +kernel⟩
def y_Bench_make : MethodName := ⟨R_Bench, "make", "(III)I"⟩
abbrev b_Bench_make : ByteArray := prog_1_method_5_code
theorem v_Bench_make : HVirt y_Bench_make b_Bench_make 5 (some .int) 3 := ⟨List.forall_mem_cons.mpr ⟨h_inI 633 (by decide +kernel) rfl, List.forall_mem_cons.mpr ⟨h_inI 634 (by decide +kernel) rfl, List.forall_mem_cons.mpr ⟨h_inI 100 (by decide +kernel) rfl, List.forall_mem_cons.mpr ⟨h_inI 635 (by decide +kernel) rfl, fun _ h => absurd h List.not_mem_nil⟩⟩⟩⟩, by decide, by decide, by decide +kernel⟩
def y_Bench_random : MethodName := ⟨R_Bench, "random", "(IIII)I"⟩
abbrev b_Bench_random : ByteArray := prog_1_method_6_code
theorem v_Bench_random : HVirt y_Bench_random b_Bench_random 6 (some .int) 4 := ⟨List.forall_mem_cons.mpr ⟨h_inI 659 (by decide +kernel) rfl, List.forall_mem_cons.mpr ⟨h_inI 660 (by decide +kernel) rfl, List.forall_mem_cons.mpr ⟨h_inI 100 (by decide +kernel) rfl, List.forall_mem_cons.mpr ⟨h_inI 661 (by decide +kernel) rfl, fun _ h => absurd h List.not_mem_nil⟩⟩⟩⟩, by decide, by decide, by decide +kernel⟩
def y_Bench_combine : MethodName := ⟨R_Bench, "combine", "(IIII)I"⟩
abbrev b_Bench_combine : ByteArray := prog_1_method_7_code
theorem v_Bench_combine : HVirt y_Bench_combine b_Bench_combine 9 (some .int) 4 := ⟨List.forall_mem_cons.mpr ⟨h_inI 677 (by decide +kernel) rfl, List.forall_mem_cons.mpr ⟨h_inI 678 (by decide +kernel) rfl, List.forall_mem_cons.mpr ⟨h_inI 100 (by decide +kernel) rfl, List.forall_mem_cons.mpr ⟨h_inI 679 (by decide +kernel) rfl, fun _ h => absurd h List.not_mem_nil⟩⟩⟩⟩, by decide, by decide, by decide +kernel⟩
def y_Bench_derive : MethodName := ⟨R_Bench, "derive", "(IIII)I"⟩
abbrev b_Bench_derive : ByteArray := prog_1_method_8_code
theorem v_Bench_derive : HVirt y_Bench_derive b_Bench_derive 7 (some .int) 4 := ⟨List.forall_mem_cons.mpr ⟨h_inI 728 (by decide +kernel) rfl, List.forall_mem_cons.mpr ⟨h_inI 729 (by decide +kernel) rfl, List.forall_mem_cons.mpr ⟨h_inI 100 (by decide +kernel) rfl, List.forall_mem_cons.mpr ⟨h_inI 730 (by decide +kernel) rfl, fun _ h => absurd h List.not_mem_nil⟩⟩⟩⟩, by decide, by decide, by decide +kernel⟩
def y_Bench_graph : MethodName := ⟨R_Bench, "graph", "(II)I"⟩
abbrev b_Bench_graph : ByteArray := prog_1_method_9_code
theorem v_Bench_graph : HVirt y_Bench_graph b_Bench_graph 4 (some .int) 2 := ⟨List.forall_mem_cons.mpr ⟨h_inI 745 (by decide +kernel) rfl, List.forall_mem_cons.mpr ⟨h_inI 746 (by decide +kernel) rfl, List.forall_mem_cons.mpr ⟨h_inI 100 (by decide +kernel) rfl, List.forall_mem_cons.mpr ⟨h_inI 747 (by decide +kernel) rfl, fun _ h => absurd h List.not_mem_nil⟩⟩⟩⟩, by decide, by decide, by decide +kernel⟩
def y_Bench_vertex : MethodName := ⟨R_Bench, "vertex", "(III)I"⟩
abbrev b_Bench_vertex : ByteArray := prog_1_method_10_code
theorem v_Bench_vertex : HVirt y_Bench_vertex b_Bench_vertex 5 (some .int) 3 := ⟨List.forall_mem_cons.mpr ⟨h_inI 758 (by decide +kernel) rfl, List.forall_mem_cons.mpr ⟨h_inI 759 (by decide +kernel) rfl, List.forall_mem_cons.mpr ⟨h_inI 100 (by decide +kernel) rfl, List.forall_mem_cons.mpr ⟨h_inI 760 (by decide +kernel) rfl, fun _ h => absurd h List.not_mem_nil⟩⟩⟩⟩, by decide, by decide, by decide +kernel⟩
def y_Bench_edge : MethodName := ⟨R_Bench, "edge", "(III)I"⟩
abbrev b_Bench_edge : ByteArray := prog_1_method_11_code
theorem v_Bench_edge : HVirt y_Bench_edge b_Bench_edge 5 (some .int) 3 := ⟨List.forall_mem_cons.mpr ⟨h_inI 765 (by decide +kernel) rfl, List.forall_mem_cons.mpr ⟨h_inI 766 (by decide +kernel) rfl, List.forall_mem_cons.mpr ⟨h_inI 100 (by decide +kernel) rfl, List.forall_mem_cons.mpr ⟨h_inI 767 (by decide +kernel) rfl, fun _ h => absurd h List.not_mem_nil⟩⟩⟩⟩, by decide, by decide, by decide +kernel⟩
def y_Bench_greedy : MethodName := ⟨R_Bench, "greedy", "(II)I"⟩
abbrev b_Bench_greedy : ByteArray := prog_1_method_12_code
theorem v_Bench_greedy : HVirt y_Bench_greedy b_Bench_greedy 4 (some .int) 2 := ⟨List.forall_mem_cons.mpr ⟨h_inI 772 (by decide +kernel) rfl, List.forall_mem_cons.mpr ⟨h_inI 773 (by decide +kernel) rfl, List.forall_mem_cons.mpr ⟨h_inI 100 (by decide +kernel) rfl, List.forall_mem_cons.mpr ⟨h_inI 774 (by decide +kernel) rfl, fun _ h => absurd h List.not_mem_nil⟩⟩⟩⟩, by decide, by decide, by decide +kernel⟩
def y_Bench_width : MethodName := ⟨R_Bench, "width", "(IIZ)I"⟩
abbrev b_Bench_width : ByteArray := prog_1_method_13_code
theorem v_Bench_width : HVirt y_Bench_width b_Bench_width 5 (some .int) 3 := ⟨List.forall_mem_cons.mpr ⟨h_inI 796 (by decide +kernel) rfl, List.forall_mem_cons.mpr ⟨h_inI 797 (by decide +kernel) rfl, List.forall_mem_cons.mpr ⟨h_inI 100 (by decide +kernel) rfl, List.forall_mem_cons.mpr ⟨h_inI 798 (by decide +kernel) rfl, fun _ h => absurd h List.not_mem_nil⟩⟩⟩⟩, by decide, by decide, by decide +kernel⟩
def y_Bench_treewidth : MethodName := ⟨R_Bench, "treewidth", "(I)I"⟩
abbrev b_Bench_treewidth : ByteArray := prog_1_method_14_code
theorem v_Bench_treewidth : HVirt y_Bench_treewidth b_Bench_treewidth 2 (some .int) 1 := ⟨List.forall_mem_cons.mpr ⟨h_inI 812 (by decide +kernel) rfl, List.forall_mem_cons.mpr ⟨h_inI 813 (by decide +kernel) rfl, List.forall_mem_cons.mpr ⟨h_inI 100 (by decide +kernel) rfl, List.forall_mem_cons.mpr ⟨h_inI 814 (by decide +kernel) rfl, fun _ h => absurd h List.not_mem_nil⟩⟩⟩⟩, by decide, by decide, by decide +kernel⟩
def y_Bench_bag : MethodName := ⟨R_Bench, "bag", "(II)I"⟩
abbrev b_Bench_bag : ByteArray := prog_1_method_15_code
theorem v_Bench_bag : HVirt y_Bench_bag b_Bench_bag 4 (some .int) 2 := ⟨List.forall_mem_cons.mpr ⟨h_inI 819 (by decide +kernel) rfl, List.forall_mem_cons.mpr ⟨h_inI 820 (by decide +kernel) rfl, List.forall_mem_cons.mpr ⟨h_inI 100 (by decide +kernel) rfl, List.forall_mem_cons.mpr ⟨h_inI 821 (by decide +kernel) rfl, fun _ h => absurd h List.not_mem_nil⟩⟩⟩⟩, by decide, by decide, by decide +kernel⟩
def y_Bench_requireSmall : MethodName := ⟨R_Bench, "requireSmall", "(LHomBench$Graph;)V"⟩
abbrev b_Bench_requireSmall : ByteArray := prog_1_method_41_code
theorem v_Bench_requireSmall : HStat y_Bench_requireSmall b_Bench_requireSmall 1 none 1 := ⟨List.forall_mem_cons.mpr ⟨h_inI 830 (by decide +kernel) rfl, List.forall_mem_cons.mpr ⟨h_inI 100 (by decide +kernel) rfl, List.forall_mem_cons.mpr ⟨h_inI 831 (by decide +kernel) rfl, fun _ h => absurd h List.not_mem_nil⟩⟩⟩, by decide, by decide, by decide +kernel⟩
def y_Bench_count : MethodName := ⟨R_Bench, "count", "(III)J"⟩
abbrev b_Bench_count : ByteArray := prog_1_method_16_code
theorem v_Bench_count : HVirt y_Bench_count b_Bench_count 7 (some .long) 3 := ⟨List.forall_mem_cons.mpr ⟨h_inI 826 (by decide +kernel) rfl, List.forall_mem_cons.mpr ⟨h_inI 827 (by decide +kernel) rfl, List.forall_mem_cons.mpr ⟨h_inI 100 (by decide +kernel) rfl, List.forall_mem_cons.mpr ⟨h_inI 828 (by decide +kernel) rfl, fun _ h => absurd h List.not_mem_nil⟩⟩⟩⟩, by decide, by decide, by decide +kernel⟩
def y_Bench_density : MethodName := ⟨R_Bench, "density", "(III)J"⟩
abbrev b_Bench_density : ByteArray := prog_1_method_17_code
theorem v_Bench_density : HVirt y_Bench_density b_Bench_density 12 (some .long) 3 := ⟨List.forall_mem_cons.mpr ⟨h_inI 899 (by decide +kernel) rfl, List.forall_mem_cons.mpr ⟨h_inI 900 (by decide +kernel) rfl, List.forall_mem_cons.mpr ⟨h_inI 100 (by decide +kernel) rfl, List.forall_mem_cons.mpr ⟨h_inI 901 (by decide +kernel) rfl, fun _ h => absurd h List.not_mem_nil⟩⟩⟩⟩, by decide, by decide, by decide +kernel⟩
def y_Bench_automorphisms : MethodName := ⟨R_Bench, "automorphisms", "(I)I"⟩
abbrev b_Bench_automorphisms : ByteArray := prog_1_method_18_code
theorem v_Bench_automorphisms : HVirt y_Bench_automorphisms b_Bench_automorphisms 2 (some .int) 1 := ⟨List.forall_mem_cons.mpr ⟨h_inI 910 (by decide +kernel) rfl, List.forall_mem_cons.mpr ⟨h_inI 911 (by decide +kernel) rfl, List.forall_mem_cons.mpr ⟨h_inI 100 (by decide +kernel) rfl, List.forall_mem_cons.mpr ⟨h_inI 912 (by decide +kernel) rfl, fun _ h => absurd h List.not_mem_nil⟩⟩⟩⟩, by decide, by decide, by decide +kernel⟩
def y_Bench_isomorphic : MethodName := ⟨R_Bench, "isomorphic", "(II)Z"⟩
abbrev b_Bench_isomorphic : ByteArray := prog_1_method_19_code
theorem v_Bench_isomorphic : HVirt y_Bench_isomorphic b_Bench_isomorphic 3 (some .boolean) 2 := ⟨List.forall_mem_cons.mpr ⟨h_inI 917 (by decide +kernel) rfl, List.forall_mem_cons.mpr ⟨h_inI 918 (by decide +kernel) rfl, List.forall_mem_cons.mpr ⟨h_inI 100 (by decide +kernel) rfl, List.forall_mem_cons.mpr ⟨h_inI 919 (by decide +kernel) rfl, fun _ h => absurd h List.not_mem_nil⟩⟩⟩⟩, by decide, by decide, by decide +kernel⟩
def y_Bench_image : MethodName := ⟨R_Bench, "image", "(III)I"⟩
abbrev b_Bench_image : ByteArray := prog_1_method_20_code
theorem v_Bench_image : HVirt y_Bench_image b_Bench_image 6 (some .int) 3 := ⟨List.forall_mem_cons.mpr ⟨h_inI 932 (by decide +kernel) rfl, List.forall_mem_cons.mpr ⟨h_inI 933 (by decide +kernel) rfl, List.forall_mem_cons.mpr ⟨h_inI 100 (by decide +kernel) rfl, List.forall_mem_cons.mpr ⟨h_inI 934 (by decide +kernel) rfl, fun _ h => absurd h List.not_mem_nil⟩⟩⟩⟩, by decide, by decide, by decide +kernel⟩
def y_Bench_compare : MethodName := ⟨R_Bench, "compare", "(II)I"⟩
abbrev b_Bench_compare : ByteArray := prog_1_method_21_code
theorem v_Bench_compare : HVirt y_Bench_compare b_Bench_compare 5 (some .int) 2 := ⟨List.forall_mem_cons.mpr ⟨h_inI 947 (by decide +kernel) rfl, List.forall_mem_cons.mpr ⟨h_inI 948 (by decide +kernel) rfl, List.forall_mem_cons.mpr ⟨h_inI 100 (by decide +kernel) rfl, List.forall_mem_cons.mpr ⟨h_inI 949 (by decide +kernel) rfl, fun _ h => absurd h List.not_mem_nil⟩⟩⟩⟩, by decide, by decide, by decide +kernel⟩
def y_Bench_colorings : MethodName := ⟨R_Bench, "colorings", "(II)J"⟩
abbrev b_Bench_colorings : ByteArray := prog_1_method_22_code
theorem v_Bench_colorings : HVirt y_Bench_colorings b_Bench_colorings 4 (some .long) 2 := ⟨List.forall_mem_cons.mpr ⟨h_inI 954 (by decide +kernel) rfl, List.forall_mem_cons.mpr ⟨h_inI 955 (by decide +kernel) rfl, List.forall_mem_cons.mpr ⟨h_inI 100 (by decide +kernel) rfl, List.forall_mem_cons.mpr ⟨h_inI 956 (by decide +kernel) rfl, fun _ h => absurd h List.not_mem_nil⟩⟩⟩⟩, by decide, by decide, by decide +kernel⟩
def y_Bench_chromatic : MethodName := ⟨R_Bench, "chromatic", "(I)I"⟩
abbrev b_Bench_chromatic : ByteArray := prog_1_method_23_code
theorem v_Bench_chromatic : HVirt y_Bench_chromatic b_Bench_chromatic 4 (some .int) 1 := ⟨List.forall_mem_cons.mpr ⟨h_inI 968 (by decide +kernel) rfl, List.forall_mem_cons.mpr ⟨h_inI 969 (by decide +kernel) rfl, List.forall_mem_cons.mpr ⟨h_inI 100 (by decide +kernel) rfl, List.forall_mem_cons.mpr ⟨h_inI 970 (by decide +kernel) rfl, fun _ h => absurd h List.not_mem_nil⟩⟩⟩⟩, by decide, by decide, by decide +kernel⟩
def y_Bench_independent : MethodName := ⟨R_Bench, "independent", "(II)I"⟩
abbrev b_Bench_independent : ByteArray := prog_1_method_24_code
theorem v_Bench_independent : HVirt y_Bench_independent b_Bench_independent 6 (some .int) 2 := ⟨List.forall_mem_cons.mpr ⟨h_inI 975 (by decide +kernel) rfl, List.forall_mem_cons.mpr ⟨h_inI 976 (by decide +kernel) rfl, List.forall_mem_cons.mpr ⟨h_inI 100 (by decide +kernel) rfl, List.forall_mem_cons.mpr ⟨h_inI 977 (by decide +kernel) rfl, fun _ h => absurd h List.not_mem_nil⟩⟩⟩⟩, by decide, by decide, by decide +kernel⟩
def y_Bench_walks : MethodName := ⟨R_Bench, "walks", "(IIZ)J"⟩
abbrev b_Bench_walks : ByteArray := prog_1_method_25_code
theorem v_Bench_walks : HVirt y_Bench_walks b_Bench_walks 8 (some .long) 3 := ⟨List.forall_mem_cons.mpr ⟨h_inI 983 (by decide +kernel) rfl, List.forall_mem_cons.mpr ⟨h_inI 984 (by decide +kernel) rfl, List.forall_mem_cons.mpr ⟨h_inI 100 (by decide +kernel) rfl, List.forall_mem_cons.mpr ⟨h_inI 985 (by decide +kernel) rfl, fun _ h => absurd h List.not_mem_nil⟩⟩⟩⟩, by decide, by decide, by decide +kernel⟩
def y_Bench_folds : MethodName := ⟨R_Bench, "folds", "(II)I"⟩
abbrev b_Bench_folds : ByteArray := prog_1_method_26_code
theorem v_Bench_folds : HVirt y_Bench_folds b_Bench_folds 4 (some .int) 2 := ⟨List.forall_mem_cons.mpr ⟨h_inI 1003 (by decide +kernel) rfl, List.forall_mem_cons.mpr ⟨h_inI 1004 (by decide +kernel) rfl, List.forall_mem_cons.mpr ⟨h_inI 100 (by decide +kernel) rfl, List.forall_mem_cons.mpr ⟨h_inI 1005 (by decide +kernel) rfl, fun _ h => absurd h List.not_mem_nil⟩⟩⟩⟩, by decide, by decide, by decide +kernel⟩
def y_Bench_dismantle : MethodName := ⟨R_Bench, "dismantle", "(I)I"⟩
abbrev b_Bench_dismantle : ByteArray := prog_1_method_27_code
theorem v_Bench_dismantle : HVirt y_Bench_dismantle b_Bench_dismantle 4 (some .int) 1 := ⟨List.forall_mem_cons.mpr ⟨h_inI 1014 (by decide +kernel) rfl, List.forall_mem_cons.mpr ⟨h_inI 1015 (by decide +kernel) rfl, List.forall_mem_cons.mpr ⟨h_inI 100 (by decide +kernel) rfl, List.forall_mem_cons.mpr ⟨h_inI 1016 (by decide +kernel) rfl, fun _ h => absurd h List.not_mem_nil⟩⟩⟩⟩, by decide, by decide, by decide +kernel⟩
def y_Bench_isCore : MethodName := ⟨R_Bench, "isCore", "(I)Z"⟩
abbrev b_Bench_isCore : ByteArray := prog_1_method_28_code
theorem v_Bench_isCore : HVirt y_Bench_isCore b_Bench_isCore 3 (some .boolean) 1 := ⟨List.forall_mem_cons.mpr ⟨h_inI 1030 (by decide +kernel) rfl, List.forall_mem_cons.mpr ⟨h_inI 1031 (by decide +kernel) rfl, List.forall_mem_cons.mpr ⟨h_inI 100 (by decide +kernel) rfl, List.forall_mem_cons.mpr ⟨h_inI 1032 (by decide +kernel) rfl, fun _ h => absurd h List.not_mem_nil⟩⟩⟩⟩, by decide, by decide, by decide +kernel⟩
def y_Bench_coreSize : MethodName := ⟨R_Bench, "coreSize", "(I)I"⟩
abbrev b_Bench_coreSize : ByteArray := prog_1_method_29_code
theorem v_Bench_coreSize : HVirt y_Bench_coreSize b_Bench_coreSize 2 (some .int) 1 := ⟨List.forall_mem_cons.mpr ⟨h_inI 1037 (by decide +kernel) rfl, List.forall_mem_cons.mpr ⟨h_inI 1038 (by decide +kernel) rfl, List.forall_mem_cons.mpr ⟨h_inI 100 (by decide +kernel) rfl, List.forall_mem_cons.mpr ⟨h_inI 1039 (by decide +kernel) rfl, fun _ h => absurd h List.not_mem_nil⟩⟩⟩⟩, by decide, by decide, by decide +kernel⟩
def y_Bench_append : MethodName := ⟨R_Bench, "append", "(I)I"⟩
abbrev b_Bench_append : ByteArray := prog_1_method_30_code
theorem v_Bench_append : HVirt y_Bench_append b_Bench_append 2 (some .int) 1 := ⟨List.forall_mem_cons.mpr ⟨h_inI 1044 (by decide +kernel) rfl, List.forall_mem_cons.mpr ⟨h_inI 1045 (by decide +kernel) rfl, List.forall_mem_cons.mpr ⟨h_inI 100 (by decide +kernel) rfl, List.forall_mem_cons.mpr ⟨h_inI 1046 (by decide +kernel) rfl, fun _ h => absurd h List.not_mem_nil⟩⟩⟩⟩, by decide, by decide, by decide +kernel⟩
def y_Bench_parse : MethodName := ⟨R_Bench, "parse", "(I)I"⟩
abbrev b_Bench_parse : ByteArray := prog_1_method_32_code
theorem v_Bench_parse : HVirt y_Bench_parse b_Bench_parse 4 (some .int) 1 := ⟨List.forall_mem_cons.mpr ⟨h_inI 1052 (by decide +kernel) rfl, List.forall_mem_cons.mpr ⟨h_inI 1053 (by decide +kernel) rfl, List.forall_mem_cons.mpr ⟨h_inI 100 (by decide +kernel) rfl, List.forall_mem_cons.mpr ⟨h_inI 1054 (by decide +kernel) rfl, fun _ h => absurd h List.not_mem_nil⟩⟩⟩⟩, by decide, by decide, by decide +kernel⟩
def y_Bench_written : MethodName := ⟨R_Bench, "written", "(II)I"⟩
abbrev b_Bench_written : ByteArray := prog_1_method_33_code
theorem v_Bench_written : HVirt y_Bench_written b_Bench_written 4 (some .int) 2 := ⟨List.forall_mem_cons.mpr ⟨h_inI 1089 (by decide +kernel) rfl, List.forall_mem_cons.mpr ⟨h_inI 1090 (by decide +kernel) rfl, List.forall_mem_cons.mpr ⟨h_inI 100 (by decide +kernel) rfl, List.forall_mem_cons.mpr ⟨h_inI 1091 (by decide +kernel) rfl, fun _ h => absurd h List.not_mem_nil⟩⟩⟩⟩, by decide, by decide, by decide +kernel⟩
def y_Bench_undo : MethodName := ⟨R_Bench, "undo", "()I"⟩
abbrev b_Bench_undo : ByteArray := prog_1_method_34_code
theorem v_Bench_undo : HVirt y_Bench_undo b_Bench_undo 1 (some .int) 0 := ⟨List.forall_mem_cons.mpr ⟨h_inI 1113 (by decide +kernel) rfl, List.forall_mem_cons.mpr ⟨h_inI 1114 (by decide +kernel) rfl, List.forall_mem_cons.mpr ⟨h_inI 100 (by decide +kernel) rfl, List.forall_mem_cons.mpr ⟨h_inI 1115 (by decide +kernel) rfl, fun _ h => absurd h List.not_mem_nil⟩⟩⟩⟩, by decide, by decide, by decide +kernel⟩
theorem wm_Bench_80 : Cond.methodLink R_Bench 80 y_Bench_graphAt ∈ h_tb := h_inI 501 (by decide +kernel) rfl
theorem wm_Bench_84 : Cond.methodLink R_Bench 84 y_Bench_requireRange ∈ h_tb := h_inI 572 (by decide +kernel) rfl
theorem wm_Bench_88 : Cond.methodLink R_Bench 88 y_History_save ∈ h_tb := h_inI 591 (by decide +kernel) rfl
theorem wm_Bench_96 : Cond.methodLink R_Bench 96 y_Graph_reset ∈ h_tb := h_inI 600 (by decide +kernel) rfl
theorem wm_Bench_100 : Cond.methodLink R_Bench 100 y_Bench_requireVertex ∈ h_tb := h_inI 614 (by decide +kernel) rfl
theorem wm_Bench_111 : Cond.methodLink R_Bench 111 y_Graph_join ∈ h_tb := h_inI 625 (by decide +kernel) rfl
theorem wm_Bench_114 : Cond.methodLink R_Bench 114 y_Graph_joinFamily ∈ h_tb := h_inI 636 (by decide +kernel) rfl
theorem wm_Bench_117 : Cond.methodLink R_Bench 117 y_Graph_edgeCount ∈ h_tb := h_inI 645 (by decide +kernel) rfl
theorem wc_Bench_124 : Cond.constant R_Bench 124 999999 ∈ h_tb := h_inI 662 (by decide +kernel) rfl
theorem wm_Bench_125 : Cond.methodLink R_Bench 125 y_Graph_joinRandomly ∈ h_tb := h_inI 663 (by decide +kernel) rfl
theorem wf_Bench_16 : Cond.fieldLink R_Bench 16 (F_Bench 1).1 (F_Bench 1).2.1 (F_Bench 1).2.2.1 ∈ h_tb := h_inI 334 (by decide +kernel) rfl
theorem wm_Bench_136 : Cond.methodLink R_Bench 136 y_Graph_all ∈ h_tb := h_inI 696 (by decide +kernel) rfl
theorem wm_Bench_139 : Cond.methodLink R_Bench 139 y_Graph_place ∈ h_tb := h_inI 697 (by decide +kernel) rfl
theorem wm_Bench_143 : Cond.methodLink R_Bench 143 y_Graph_multiply ∈ h_tb := h_inI 706 (by decide +kernel) rfl
theorem wm_Bench_147 : Cond.methodLink R_Bench 147 y_Graph_copyFrom ∈ h_tb := h_inI 723 (by decide +kernel) rfl
theorem wm_Bench_151 : Cond.methodLink R_Bench 151 y_Graph_complement ∈ h_tb := h_inI 731 (by decide +kernel) rfl
theorem wm_Bench_154 : Cond.methodLink R_Bench 154 y_Graph_induce ∈ h_tb := h_inI 736 (by decide +kernel) rfl
theorem wm_Bench_161 : Cond.methodLink R_Bench 161 y_Graph_partCount ∈ h_tb := h_inI 748 (by decide +kernel) rfl
theorem wf_Bench_176 : Cond.fieldLink R_Bench 176 (F_Elimination 0).1 (F_Elimination 0).2.1 (F_Elimination 0).2.2.1 ∈ h_tb := h_inI 229 (by decide +kernel) rfl
theorem wm_Bench_173 : Cond.methodLink R_Bench 173 y_Elimination_runGreedily ∈ h_tb := h_inI 775 (by decide +kernel) rfl
theorem wf_Bench_191 : Cond.fieldLink R_Bench 191 (F_Elimination 3).1 (F_Elimination 3).2.1 (F_Elimination 3).2.2.1 ∈ h_tb := h_inI 235 (by decide +kernel) rfl
theorem wf_Bench_194 : Cond.fieldLink R_Bench 194 (F_Elimination 2).1 (F_Elimination 2).2.1 (F_Elimination 2).2.2.1 ∈ h_tb := h_inI 233 (by decide +kernel) rfl
theorem wm_Bench_179 : Cond.methodLink R_Bench 179 y_Elimination_readOrder ∈ h_tb := h_inI 799 (by decide +kernel) rfl
theorem wm_Bench_183 : Cond.methodLink R_Bench 183 y_Elimination_runInOrder ∈ h_tb := h_inI 803 (by decide +kernel) rfl
theorem wf_Bench_200 : Cond.fieldLink R_Bench 200 (F_Elimination 1).1 (F_Elimination 1).2.1 (F_Elimination 1).2.2.1 ∈ h_tb := h_inI 231 (by decide +kernel) rfl
theorem wf_Bench_51 : Cond.fieldLink R_Bench 51 (F_Bench 6).1 (F_Bench 6).2.1 (F_Bench 6).2.2.1 ∈ h_tb := h_inI 339 (by decide +kernel) rfl
theorem wm_Bench_203 : Cond.methodLink R_Bench 203 y_Bench_requireSmall ∈ h_tb := h_inI 829 (by decide +kernel) rfl
theorem wm_Bench_206 : Cond.methodLink R_Bench 206 y_MapSums_load ∈ h_tb := h_inI 833 (by decide +kernel) rfl
theorem wm_Bench_209 : Cond.methodLink R_Bench 209 y_MapSums_overAllMaps ∈ h_tb := h_inI 838 (by decide +kernel) rfl
theorem wm_Bench_213 : Cond.methodLink R_Bench 213 y_MapSums_overInjectiveMaps ∈ h_tb := h_inI 863 (by decide +kernel) rfl
theorem wm_Bench_217 : Cond.methodLink R_Bench 217 y_MapSums_overOntoMaps ∈ h_tb := h_inI 870 (by decide +kernel) rfl
theorem wm_Bench_220 : Cond.methodLink R_Bench 220 y_MapSums_overEdgeInjectiveMaps ∈ h_tb := h_inI 877 (by decide +kernel) rfl
theorem wm_Bench_225 : Cond.methodLink R_Bench 225 y_Bench_greatestDivisor ∈ h_tb := h_inI 903 (by decide +kernel) rfl
theorem wm_Bench_232 : Cond.methodLink R_Bench 232 y_Bijections_exist ∈ h_tb := h_inI 920 (by decide +kernel) rfl
theorem wm_Bench_236 : Cond.methodLink R_Bench 236 y_HomSearch_firstImage ∈ h_tb := h_inI 935 (by decide +kernel) rfl
theorem wm_Bench_243 : Cond.methodLink R_Bench 243 y_Bench_properColorings ∈ h_tb := h_inI 957 (by decide +kernel) rfl
theorem wm_Bench_247 : Cond.methodLink R_Bench 247 y_Graph_nearOf ∈ h_tb := h_inI 978 (by decide +kernel) rfl
theorem wf_Bench_76 : Cond.fieldLink R_Bench 76 (F_Bench 10).1 (F_Bench 10).2.1 (F_Bench 10).2.2.1 ∈ h_tb := h_inI 343 (by decide +kernel) rfl
theorem wm_Bench_250 : Cond.methodLink R_Bench 250 y_Walks_sumFrom ∈ h_tb := h_inI 986 (by decide +kernel) rfl
theorem wm_Bench_254 : Cond.methodLink R_Bench 254 y_Graph_foldTargets ∈ h_tb := h_inI 1006 (by decide +kernel) rfl
theorem wm_Bench_257 : Cond.methodLink R_Bench 257 y_Graph_stiffPart ∈ h_tb := h_inI 1017 (by decide +kernel) rfl
theorem wf_Bench_265 : Cond.fieldLink R_Bench 265 (F_Text 0).1 (F_Text 0).2.1 (F_Text 0).2.2.1 ∈ h_tb := h_inI 194 (by decide +kernel) rfl
theorem wf_Bench_272 : Cond.fieldLink R_Bench 272 (F_Text 2).1 (F_Text 2).2.1 (F_Text 2).2.2.1 ∈ h_tb := h_inI 198 (by decide +kernel) rfl
theorem wm_Bench_269 : Cond.methodLink R_Bench 269 y_Text_readGraph ∈ h_tb := h_inI 1055 (by decide +kernel) rfl
theorem wf_Bench_280 : Cond.fieldLink R_Bench 280 (F_Script 1).1 (F_Script 1).2.1 (F_Script 1).2.2.1 ∈ h_tb := h_inI 216 (by decide +kernel) rfl
theorem wf_Bench_281 : Cond.fieldLink R_Bench 281 (F_Script 0).1 (F_Script 0).2.1 (F_Script 0).2.2.1 ∈ h_tb := h_inI 214 (by decide +kernel) rfl
theorem wf_Bench_37 : Cond.fieldLink R_Bench 37 (F_Bench 4).1 (F_Bench 4).2.1 (F_Bench 4).2.2.1 ∈ h_tb := h_inI 337 (by decide +kernel) rfl
theorem wm_Bench_277 : Cond.methodLink R_Bench 277 y_Script_write ∈ h_tb := h_inI 1093 (by decide +kernel) rfl
theorem wm_Bench_285 : Cond.methodLink R_Bench 285 y_History_restore ∈ h_tb := h_inI 1117 (by decide +kernel) rfl
theorem d_Bench_graphAt_0 : decode b_Bench_graphAt 0 = .ok (.iload_n 1, 1) := by decide +kernel
theorem d_Bench_graphAt_1 : decode b_Bench_graphAt 1 = .ok (.ifCond .lt 8, 3) := by decide +kernel
theorem d_Bench_graphAt_4 : decode b_Bench_graphAt 4 = .ok (.iload_n 1, 1) := by decide +kernel
theorem d_Bench_graphAt_5 : decode b_Bench_graphAt 5 = .ok (.iconst 4, 1) := by decide +kernel
theorem d_Bench_graphAt_6 : decode b_Bench_graphAt 6 = .ok (.if_icmp .lt 14, 3) := by decide +kernel
theorem d_Bench_graphAt_9 : decode b_Bench_graphAt 9 = .ok (.new 303, 3) := by decide +kernel
theorem d_Bench_graphAt_12 : decode b_Bench_graphAt 12 = .ok (.dup, 1) := by decide +kernel
theorem d_Bench_graphAt_13 : decode b_Bench_graphAt 13 = .ok (.ldc_w 305, 3) := by decide +kernel
theorem d_Bench_graphAt_16 : decode b_Bench_graphAt 16 = .ok (.invokespecial 307, 3) := by decide +kernel
theorem d_Bench_graphAt_19 : decode b_Bench_graphAt 19 = .ok (.athrow, 1) := by decide +kernel
theorem d_Bench_graphAt_20 : decode b_Bench_graphAt 20 = .ok (.aload_n 0, 1) := by decide +kernel
theorem d_Bench_graphAt_21 : decode b_Bench_graphAt 21 = .ok (.getfield 11, 3) := by decide +kernel
theorem d_Bench_graphAt_24 : decode b_Bench_graphAt 24 = .ok (.iload_n 1, 1) := by decide +kernel
theorem d_Bench_graphAt_25 : decode b_Bench_graphAt 25 = .ok (.aaload, 1) := by decide +kernel
theorem d_Bench_graphAt_26 : decode b_Bench_graphAt 26 = .ok (.areturn, 1) := by decide +kernel
theorem d_Bench_requireRange_0 : decode b_Bench_requireRange 0 = .ok (.iload_n 0, 1) := by decide +kernel
theorem d_Bench_requireRange_1 : decode b_Bench_requireRange 1 = .ok (.iload_n 1, 1) := by decide +kernel
theorem d_Bench_requireRange_2 : decode b_Bench_requireRange 2 = .ok (.if_icmp .lt 8, 3) := by decide +kernel
theorem d_Bench_requireRange_5 : decode b_Bench_requireRange 5 = .ok (.iload_n 0, 1) := by decide +kernel
theorem d_Bench_requireRange_6 : decode b_Bench_requireRange 6 = .ok (.iload_n 2, 1) := by decide +kernel
theorem d_Bench_requireRange_7 : decode b_Bench_requireRange 7 = .ok (.if_icmp .le 14, 3) := by decide +kernel
theorem d_Bench_requireRange_10 : decode b_Bench_requireRange 10 = .ok (.new 186, 3) := by decide +kernel
theorem d_Bench_requireRange_13 : decode b_Bench_requireRange 13 = .ok (.dup, 1) := by decide +kernel
theorem d_Bench_requireRange_14 : decode b_Bench_requireRange 14 = .ok (.ldc_w 310, 3) := by decide +kernel
theorem d_Bench_requireRange_17 : decode b_Bench_requireRange 17 = .ok (.invokespecial 190, 3) := by decide +kernel
theorem d_Bench_requireRange_20 : decode b_Bench_requireRange 20 = .ok (.athrow, 1) := by decide +kernel
theorem d_Bench_requireRange_21 : decode b_Bench_requireRange 21 = .ok (.return_, 1) := by decide +kernel
theorem d_Bench_setSize_0 : decode b_Bench_setSize 0 = .ok (.aload_n 0, 1) := by decide +kernel
theorem d_Bench_setSize_1 : decode b_Bench_setSize 1 = .ok (.iload_n 1, 1) := by decide +kernel
theorem d_Bench_setSize_2 : decode b_Bench_setSize 2 = .ok (.invokevirtual 80, 3) := by decide +kernel
theorem d_Bench_setSize_5 : decode b_Bench_setSize 5 = .ok (.astore_n 3, 1) := by decide +kernel
theorem d_Bench_setSize_6 : decode b_Bench_setSize 6 = .ok (.iload_n 2, 1) := by decide +kernel
theorem d_Bench_setSize_7 : decode b_Bench_setSize 7 = .ok (.iconst 0, 1) := by decide +kernel
theorem d_Bench_setSize_8 : decode b_Bench_setSize 8 = .ok (.bipush 8, 2) := by decide +kernel
theorem d_Bench_setSize_10 : decode b_Bench_setSize 10 = .ok (.invokestatic 84, 3) := by decide +kernel
theorem d_Bench_setSize_13 : decode b_Bench_setSize 13 = .ok (.aload_n 0, 1) := by decide +kernel
theorem d_Bench_setSize_14 : decode b_Bench_setSize 14 = .ok (.getfield 23, 3) := by decide +kernel
theorem d_Bench_setSize_17 : decode b_Bench_setSize 17 = .ok (.aload_n 0, 1) := by decide +kernel
theorem d_Bench_setSize_18 : decode b_Bench_setSize 18 = .ok (.getfield 11, 3) := by decide +kernel
theorem d_Bench_setSize_21 : decode b_Bench_setSize 21 = .ok (.invokevirtual 88, 3) := by decide +kernel
theorem d_Bench_setSize_24 : decode b_Bench_setSize 24 = .ok (.aload_n 3, 1) := by decide +kernel
theorem d_Bench_setSize_25 : decode b_Bench_setSize 25 = .ok (.getfield 92, 3) := by decide +kernel
theorem d_Bench_setSize_28 : decode b_Bench_setSize 28 = .ok (.istore 4, 2) := by decide +kernel
theorem d_Bench_setSize_30 : decode b_Bench_setSize 30 = .ok (.aload_n 3, 1) := by decide +kernel
theorem d_Bench_setSize_31 : decode b_Bench_setSize 31 = .ok (.iload_n 2, 1) := by decide +kernel
theorem d_Bench_setSize_32 : decode b_Bench_setSize 32 = .ok (.invokevirtual 96, 3) := by decide +kernel
theorem d_Bench_setSize_35 : decode b_Bench_setSize 35 = .ok (.iload 4, 2) := by decide +kernel
theorem d_Bench_setSize_37 : decode b_Bench_setSize 37 = .ok (.ireturn, 1) := by decide +kernel
theorem d_Bench_requireVertex_0 : decode b_Bench_requireVertex 0 = .ok (.iload_n 1, 1) := by decide +kernel
theorem d_Bench_requireVertex_1 : decode b_Bench_requireVertex 1 = .ok (.ifCond .lt 11, 3) := by decide +kernel
theorem d_Bench_requireVertex_4 : decode b_Bench_requireVertex 4 = .ok (.iload_n 1, 1) := by decide +kernel
theorem d_Bench_requireVertex_5 : decode b_Bench_requireVertex 5 = .ok (.aload_n 0, 1) := by decide +kernel
theorem d_Bench_requireVertex_6 : decode b_Bench_requireVertex 6 = .ok (.getfield 92, 3) := by decide +kernel
theorem d_Bench_requireVertex_9 : decode b_Bench_requireVertex 9 = .ok (.if_icmp .lt 14, 3) := by decide +kernel
theorem d_Bench_requireVertex_12 : decode b_Bench_requireVertex 12 = .ok (.new 303, 3) := by decide +kernel
theorem d_Bench_requireVertex_15 : decode b_Bench_requireVertex 15 = .ok (.dup, 1) := by decide +kernel
theorem d_Bench_requireVertex_16 : decode b_Bench_requireVertex 16 = .ok (.ldc_w 308, 3) := by decide +kernel
theorem d_Bench_requireVertex_19 : decode b_Bench_requireVertex 19 = .ok (.invokespecial 307, 3) := by decide +kernel
theorem d_Bench_requireVertex_22 : decode b_Bench_requireVertex 22 = .ok (.athrow, 1) := by decide +kernel
theorem d_Bench_requireVertex_23 : decode b_Bench_requireVertex 23 = .ok (.return_, 1) := by decide +kernel
theorem d_Bench_setVertex_0 : decode b_Bench_setVertex 0 = .ok (.aload_n 0, 1) := by decide +kernel
theorem d_Bench_setVertex_1 : decode b_Bench_setVertex 1 = .ok (.iload_n 1, 1) := by decide +kernel
theorem d_Bench_setVertex_2 : decode b_Bench_setVertex 2 = .ok (.invokevirtual 80, 3) := by decide +kernel
theorem d_Bench_setVertex_5 : decode b_Bench_setVertex 5 = .ok (.astore 4, 2) := by decide +kernel
theorem d_Bench_setVertex_7 : decode b_Bench_setVertex 7 = .ok (.aload 4, 2) := by decide +kernel
theorem d_Bench_setVertex_9 : decode b_Bench_setVertex 9 = .ok (.iload_n 2, 1) := by decide +kernel
theorem d_Bench_setVertex_10 : decode b_Bench_setVertex 10 = .ok (.invokestatic 100, 3) := by decide +kernel
theorem d_Bench_setVertex_13 : decode b_Bench_setVertex 13 = .ok (.iload_n 3, 1) := by decide +kernel
theorem d_Bench_setVertex_14 : decode b_Bench_setVertex 14 = .ok (.bipush (-3), 2) := by decide +kernel
theorem d_Bench_setVertex_16 : decode b_Bench_setVertex 16 = .ok (.iconst 3, 1) := by decide +kernel
theorem d_Bench_setVertex_17 : decode b_Bench_setVertex 17 = .ok (.invokestatic 84, 3) := by decide +kernel
theorem d_Bench_setVertex_20 : decode b_Bench_setVertex 20 = .ok (.aload_n 0, 1) := by decide +kernel
theorem d_Bench_setVertex_21 : decode b_Bench_setVertex 21 = .ok (.getfield 23, 3) := by decide +kernel
theorem d_Bench_setVertex_24 : decode b_Bench_setVertex 24 = .ok (.aload_n 0, 1) := by decide +kernel
theorem d_Bench_setVertex_25 : decode b_Bench_setVertex 25 = .ok (.getfield 11, 3) := by decide +kernel
theorem d_Bench_setVertex_28 : decode b_Bench_setVertex 28 = .ok (.invokevirtual 88, 3) := by decide +kernel
theorem d_Bench_setVertex_31 : decode b_Bench_setVertex 31 = .ok (.aload 4, 2) := by decide +kernel
theorem d_Bench_setVertex_33 : decode b_Bench_setVertex 33 = .ok (.getfield 104, 3) := by decide +kernel
theorem d_Bench_setVertex_36 : decode b_Bench_setVertex 36 = .ok (.iload_n 2, 1) := by decide +kernel
theorem d_Bench_setVertex_37 : decode b_Bench_setVertex 37 = .ok (.iaload, 1) := by decide +kernel
theorem d_Bench_setVertex_38 : decode b_Bench_setVertex 38 = .ok (.istore 5, 2) := by decide +kernel
theorem d_Bench_setVertex_40 : decode b_Bench_setVertex 40 = .ok (.aload 4, 2) := by decide +kernel
theorem d_Bench_setVertex_42 : decode b_Bench_setVertex 42 = .ok (.getfield 104, 3) := by decide +kernel
theorem d_Bench_setVertex_45 : decode b_Bench_setVertex 45 = .ok (.iload_n 2, 1) := by decide +kernel
theorem d_Bench_setVertex_46 : decode b_Bench_setVertex 46 = .ok (.iload_n 3, 1) := by decide +kernel
theorem d_Bench_setVertex_47 : decode b_Bench_setVertex 47 = .ok (.iastore, 1) := by decide +kernel
theorem d_Bench_setVertex_48 : decode b_Bench_setVertex 48 = .ok (.iload 5, 2) := by decide +kernel
theorem d_Bench_setVertex_50 : decode b_Bench_setVertex 50 = .ok (.ireturn, 1) := by decide +kernel
theorem d_Bench_setEdge_0 : decode b_Bench_setEdge 0 = .ok (.aload_n 0, 1) := by decide +kernel
theorem d_Bench_setEdge_1 : decode b_Bench_setEdge 1 = .ok (.iload_n 1, 1) := by decide +kernel
theorem d_Bench_setEdge_2 : decode b_Bench_setEdge 2 = .ok (.invokevirtual 80, 3) := by decide +kernel
theorem d_Bench_setEdge_5 : decode b_Bench_setEdge 5 = .ok (.astore 5, 2) := by decide +kernel
theorem d_Bench_setEdge_7 : decode b_Bench_setEdge 7 = .ok (.aload 5, 2) := by decide +kernel
theorem d_Bench_setEdge_9 : decode b_Bench_setEdge 9 = .ok (.iload_n 2, 1) := by decide +kernel
theorem d_Bench_setEdge_10 : decode b_Bench_setEdge 10 = .ok (.invokestatic 100, 3) := by decide +kernel
theorem d_Bench_setEdge_13 : decode b_Bench_setEdge 13 = .ok (.aload 5, 2) := by decide +kernel
theorem d_Bench_setEdge_15 : decode b_Bench_setEdge 15 = .ok (.iload_n 3, 1) := by decide +kernel
theorem d_Bench_setEdge_16 : decode b_Bench_setEdge 16 = .ok (.invokestatic 100, 3) := by decide +kernel
theorem d_Bench_setEdge_19 : decode b_Bench_setEdge 19 = .ok (.iload 4, 2) := by decide +kernel
theorem d_Bench_setEdge_21 : decode b_Bench_setEdge 21 = .ok (.bipush (-2), 2) := by decide +kernel
theorem d_Bench_setEdge_23 : decode b_Bench_setEdge 23 = .ok (.iconst 2, 1) := by decide +kernel
theorem d_Bench_setEdge_24 : decode b_Bench_setEdge 24 = .ok (.invokestatic 84, 3) := by decide +kernel
theorem d_Bench_setEdge_27 : decode b_Bench_setEdge 27 = .ok (.aload_n 0, 1) := by decide +kernel
theorem d_Bench_setEdge_28 : decode b_Bench_setEdge 28 = .ok (.getfield 23, 3) := by decide +kernel
theorem d_Bench_setEdge_31 : decode b_Bench_setEdge 31 = .ok (.aload_n 0, 1) := by decide +kernel
theorem d_Bench_setEdge_32 : decode b_Bench_setEdge 32 = .ok (.getfield 11, 3) := by decide +kernel
theorem d_Bench_setEdge_35 : decode b_Bench_setEdge 35 = .ok (.invokevirtual 88, 3) := by decide +kernel
theorem d_Bench_setEdge_38 : decode b_Bench_setEdge 38 = .ok (.aload 5, 2) := by decide +kernel
theorem d_Bench_setEdge_40 : decode b_Bench_setEdge 40 = .ok (.iload_n 2, 1) := by decide +kernel
theorem d_Bench_setEdge_41 : decode b_Bench_setEdge 41 = .ok (.iload_n 3, 1) := by decide +kernel
theorem d_Bench_setEdge_42 : decode b_Bench_setEdge 42 = .ok (.invokevirtual 107, 3) := by decide +kernel
theorem d_Bench_setEdge_45 : decode b_Bench_setEdge 45 = .ok (.istore 6, 2) := by decide +kernel
theorem d_Bench_setEdge_47 : decode b_Bench_setEdge 47 = .ok (.aload 5, 2) := by decide +kernel
theorem d_Bench_setEdge_49 : decode b_Bench_setEdge 49 = .ok (.iload_n 2, 1) := by decide +kernel
theorem d_Bench_setEdge_50 : decode b_Bench_setEdge 50 = .ok (.iload_n 3, 1) := by decide +kernel
theorem d_Bench_setEdge_51 : decode b_Bench_setEdge 51 = .ok (.iload 4, 2) := by decide +kernel
theorem d_Bench_setEdge_53 : decode b_Bench_setEdge 53 = .ok (.invokevirtual 111, 3) := by decide +kernel
theorem d_Bench_setEdge_56 : decode b_Bench_setEdge 56 = .ok (.iload 6, 2) := by decide +kernel
theorem d_Bench_setEdge_58 : decode b_Bench_setEdge 58 = .ok (.ireturn, 1) := by decide +kernel
theorem d_Bench_make_0 : decode b_Bench_make 0 = .ok (.aload_n 0, 1) := by decide +kernel
theorem d_Bench_make_1 : decode b_Bench_make 1 = .ok (.iload_n 1, 1) := by decide +kernel
theorem d_Bench_make_2 : decode b_Bench_make 2 = .ok (.invokevirtual 80, 3) := by decide +kernel
theorem d_Bench_make_5 : decode b_Bench_make 5 = .ok (.astore 4, 2) := by decide +kernel
theorem d_Bench_make_7 : decode b_Bench_make 7 = .ok (.iload_n 2, 1) := by decide +kernel
theorem d_Bench_make_8 : decode b_Bench_make 8 = .ok (.iconst 0, 1) := by decide +kernel
theorem d_Bench_make_9 : decode b_Bench_make 9 = .ok (.iconst 4, 1) := by decide +kernel
theorem d_Bench_make_10 : decode b_Bench_make 10 = .ok (.invokestatic 84, 3) := by decide +kernel
theorem d_Bench_make_13 : decode b_Bench_make 13 = .ok (.iload_n 3, 1) := by decide +kernel
theorem d_Bench_make_14 : decode b_Bench_make 14 = .ok (.iconst 0, 1) := by decide +kernel
theorem d_Bench_make_15 : decode b_Bench_make 15 = .ok (.bipush 8, 2) := by decide +kernel
theorem d_Bench_make_17 : decode b_Bench_make 17 = .ok (.invokestatic 84, 3) := by decide +kernel
theorem d_Bench_make_20 : decode b_Bench_make 20 = .ok (.aload_n 0, 1) := by decide +kernel
theorem d_Bench_make_21 : decode b_Bench_make 21 = .ok (.getfield 23, 3) := by decide +kernel
theorem d_Bench_make_24 : decode b_Bench_make 24 = .ok (.aload_n 0, 1) := by decide +kernel
theorem d_Bench_make_25 : decode b_Bench_make 25 = .ok (.getfield 11, 3) := by decide +kernel
theorem d_Bench_make_28 : decode b_Bench_make 28 = .ok (.invokevirtual 88, 3) := by decide +kernel
theorem d_Bench_make_31 : decode b_Bench_make 31 = .ok (.aload 4, 2) := by decide +kernel
theorem d_Bench_make_33 : decode b_Bench_make 33 = .ok (.iload_n 3, 1) := by decide +kernel
theorem d_Bench_make_34 : decode b_Bench_make 34 = .ok (.invokevirtual 96, 3) := by decide +kernel
theorem d_Bench_make_37 : decode b_Bench_make 37 = .ok (.aload 4, 2) := by decide +kernel
theorem d_Bench_make_39 : decode b_Bench_make 39 = .ok (.iload_n 2, 1) := by decide +kernel
theorem d_Bench_make_40 : decode b_Bench_make 40 = .ok (.invokevirtual 114, 3) := by decide +kernel
theorem d_Bench_make_43 : decode b_Bench_make 43 = .ok (.aload 4, 2) := by decide +kernel
theorem d_Bench_make_45 : decode b_Bench_make 45 = .ok (.invokevirtual 117, 3) := by decide +kernel
theorem d_Bench_make_48 : decode b_Bench_make 48 = .ok (.aload 4, 2) := by decide +kernel
theorem d_Bench_make_50 : decode b_Bench_make 50 = .ok (.invokevirtual 121, 3) := by decide +kernel
theorem d_Bench_make_53 : decode b_Bench_make 53 = .ok (.iadd, 1) := by decide +kernel
theorem d_Bench_make_54 : decode b_Bench_make 54 = .ok (.ireturn, 1) := by decide +kernel
theorem d_Bench_random_0 : decode b_Bench_random 0 = .ok (.aload_n 0, 1) := by decide +kernel
theorem d_Bench_random_1 : decode b_Bench_random 1 = .ok (.iload_n 1, 1) := by decide +kernel
theorem d_Bench_random_2 : decode b_Bench_random 2 = .ok (.invokevirtual 80, 3) := by decide +kernel
theorem d_Bench_random_5 : decode b_Bench_random 5 = .ok (.astore 5, 2) := by decide +kernel
theorem d_Bench_random_7 : decode b_Bench_random 7 = .ok (.iload_n 2, 1) := by decide +kernel
theorem d_Bench_random_8 : decode b_Bench_random 8 = .ok (.iconst 0, 1) := by decide +kernel
theorem d_Bench_random_9 : decode b_Bench_random 9 = .ok (.bipush 8, 2) := by decide +kernel
theorem d_Bench_random_11 : decode b_Bench_random 11 = .ok (.invokestatic 84, 3) := by decide +kernel
theorem d_Bench_random_14 : decode b_Bench_random 14 = .ok (.iload_n 3, 1) := by decide +kernel
theorem d_Bench_random_15 : decode b_Bench_random 15 = .ok (.iconst 0, 1) := by decide +kernel
theorem d_Bench_random_16 : decode b_Bench_random 16 = .ok (.ldc 124, 2) := by decide +kernel
theorem d_Bench_random_18 : decode b_Bench_random 18 = .ok (.invokestatic 84, 3) := by decide +kernel
theorem d_Bench_random_21 : decode b_Bench_random 21 = .ok (.iload 4, 2) := by decide +kernel
theorem d_Bench_random_23 : decode b_Bench_random 23 = .ok (.iconst 0, 1) := by decide +kernel
theorem d_Bench_random_24 : decode b_Bench_random 24 = .ok (.bipush 100, 2) := by decide +kernel
theorem d_Bench_random_26 : decode b_Bench_random 26 = .ok (.invokestatic 84, 3) := by decide +kernel
theorem d_Bench_random_29 : decode b_Bench_random 29 = .ok (.aload_n 0, 1) := by decide +kernel
theorem d_Bench_random_30 : decode b_Bench_random 30 = .ok (.getfield 23, 3) := by decide +kernel
theorem d_Bench_random_33 : decode b_Bench_random 33 = .ok (.aload_n 0, 1) := by decide +kernel
theorem d_Bench_random_34 : decode b_Bench_random 34 = .ok (.getfield 11, 3) := by decide +kernel
theorem d_Bench_random_37 : decode b_Bench_random 37 = .ok (.invokevirtual 88, 3) := by decide +kernel
theorem d_Bench_random_40 : decode b_Bench_random 40 = .ok (.aload 5, 2) := by decide +kernel
theorem d_Bench_random_42 : decode b_Bench_random 42 = .ok (.iload_n 2, 1) := by decide +kernel
theorem d_Bench_random_43 : decode b_Bench_random 43 = .ok (.invokevirtual 96, 3) := by decide +kernel
theorem d_Bench_random_46 : decode b_Bench_random 46 = .ok (.aload 5, 2) := by decide +kernel
theorem d_Bench_random_48 : decode b_Bench_random 48 = .ok (.iload_n 3, 1) := by decide +kernel
theorem d_Bench_random_49 : decode b_Bench_random 49 = .ok (.iload 4, 2) := by decide +kernel
theorem d_Bench_random_51 : decode b_Bench_random 51 = .ok (.invokevirtual 125, 3) := by decide +kernel
theorem d_Bench_random_54 : decode b_Bench_random 54 = .ok (.aload 5, 2) := by decide +kernel
theorem d_Bench_random_56 : decode b_Bench_random 56 = .ok (.invokevirtual 117, 3) := by decide +kernel
theorem d_Bench_random_59 : decode b_Bench_random 59 = .ok (.ireturn, 1) := by decide +kernel
theorem d_Bench_combine_0 : decode b_Bench_combine 0 = .ok (.aload_n 0, 1) := by decide +kernel
theorem d_Bench_combine_1 : decode b_Bench_combine 1 = .ok (.iload_n 1, 1) := by decide +kernel
theorem d_Bench_combine_2 : decode b_Bench_combine 2 = .ok (.invokevirtual 80, 3) := by decide +kernel
theorem d_Bench_combine_5 : decode b_Bench_combine 5 = .ok (.astore 5, 2) := by decide +kernel
theorem d_Bench_combine_7 : decode b_Bench_combine 7 = .ok (.aload_n 0, 1) := by decide +kernel
theorem d_Bench_combine_8 : decode b_Bench_combine 8 = .ok (.iload_n 2, 1) := by decide +kernel
theorem d_Bench_combine_9 : decode b_Bench_combine 9 = .ok (.invokevirtual 80, 3) := by decide +kernel
theorem d_Bench_combine_12 : decode b_Bench_combine 12 = .ok (.astore 6, 2) := by decide +kernel
theorem d_Bench_combine_14 : decode b_Bench_combine 14 = .ok (.aload_n 0, 1) := by decide +kernel
theorem d_Bench_combine_15 : decode b_Bench_combine 15 = .ok (.iload_n 3, 1) := by decide +kernel
theorem d_Bench_combine_16 : decode b_Bench_combine 16 = .ok (.invokevirtual 80, 3) := by decide +kernel
theorem d_Bench_combine_19 : decode b_Bench_combine 19 = .ok (.astore 7, 2) := by decide +kernel
theorem d_Bench_combine_21 : decode b_Bench_combine 21 = .ok (.iload 4, 2) := by decide +kernel
theorem d_Bench_combine_23 : decode b_Bench_combine 23 = .ok (.iconst 0, 1) := by decide +kernel
theorem d_Bench_combine_24 : decode b_Bench_combine 24 = .ok (.iconst 2, 1) := by decide +kernel
theorem d_Bench_combine_25 : decode b_Bench_combine 25 = .ok (.invokestatic 84, 3) := by decide +kernel
theorem d_Bench_combine_28 : decode b_Bench_combine 28 = .ok (.iload 4, 2) := by decide +kernel
theorem d_Bench_combine_30 : decode b_Bench_combine 30 = .ok (.ifCond .ne 17, 3) := by decide +kernel
theorem d_Bench_combine_33 : decode b_Bench_combine 33 = .ok (.aload 6, 2) := by decide +kernel
theorem d_Bench_combine_35 : decode b_Bench_combine 35 = .ok (.getfield 92, 3) := by decide +kernel
theorem d_Bench_combine_38 : decode b_Bench_combine 38 = .ok (.aload 7, 2) := by decide +kernel
theorem d_Bench_combine_40 : decode b_Bench_combine 40 = .ok (.getfield 92, 3) := by decide +kernel
theorem d_Bench_combine_43 : decode b_Bench_combine 43 = .ok (.iadd, 1) := by decide +kernel
theorem d_Bench_combine_44 : decode b_Bench_combine 44 = .ok (.goto 14, 3) := by decide +kernel
theorem d_Bench_combine_47 : decode b_Bench_combine 47 = .ok (.aload 6, 2) := by decide +kernel
theorem d_Bench_combine_49 : decode b_Bench_combine 49 = .ok (.getfield 92, 3) := by decide +kernel
theorem d_Bench_combine_52 : decode b_Bench_combine 52 = .ok (.aload 7, 2) := by decide +kernel
theorem d_Bench_combine_54 : decode b_Bench_combine 54 = .ok (.getfield 92, 3) := by decide +kernel
theorem d_Bench_combine_57 : decode b_Bench_combine 57 = .ok (.imul, 1) := by decide +kernel
theorem d_Bench_combine_58 : decode b_Bench_combine 58 = .ok (.istore 8, 2) := by decide +kernel
theorem d_Bench_combine_60 : decode b_Bench_combine 60 = .ok (.iload 8, 2) := by decide +kernel
theorem d_Bench_combine_62 : decode b_Bench_combine 62 = .ok (.bipush 8, 2) := by decide +kernel
theorem d_Bench_combine_64 : decode b_Bench_combine 64 = .ok (.if_icmp .le 13, 3) := by decide +kernel
theorem d_Bench_combine_67 : decode b_Bench_combine 67 = .ok (.new 129, 3) := by decide +kernel
theorem d_Bench_combine_70 : decode b_Bench_combine 70 = .ok (.dup, 1) := by decide +kernel
theorem d_Bench_combine_71 : decode b_Bench_combine 71 = .ok (.ldc 131, 2) := by decide +kernel
theorem d_Bench_combine_73 : decode b_Bench_combine 73 = .ok (.invokespecial 133, 3) := by decide +kernel
theorem d_Bench_combine_76 : decode b_Bench_combine 76 = .ok (.athrow, 1) := by decide +kernel
theorem d_Bench_combine_77 : decode b_Bench_combine 77 = .ok (.aload_n 0, 1) := by decide +kernel
theorem d_Bench_combine_78 : decode b_Bench_combine 78 = .ok (.getfield 23, 3) := by decide +kernel
theorem d_Bench_combine_81 : decode b_Bench_combine 81 = .ok (.aload_n 0, 1) := by decide +kernel
theorem d_Bench_combine_82 : decode b_Bench_combine 82 = .ok (.getfield 11, 3) := by decide +kernel
theorem d_Bench_combine_85 : decode b_Bench_combine 85 = .ok (.invokevirtual 88, 3) := by decide +kernel
theorem d_Bench_combine_88 : decode b_Bench_combine 88 = .ok (.aload_n 0, 1) := by decide +kernel
theorem d_Bench_combine_89 : decode b_Bench_combine 89 = .ok (.getfield 16, 3) := by decide +kernel
theorem d_Bench_combine_92 : decode b_Bench_combine 92 = .ok (.iload 8, 2) := by decide +kernel
theorem d_Bench_combine_94 : decode b_Bench_combine 94 = .ok (.invokevirtual 96, 3) := by decide +kernel
theorem d_Bench_combine_97 : decode b_Bench_combine 97 = .ok (.iload 4, 2) := by decide +kernel
theorem d_Bench_combine_99 : decode b_Bench_combine 99 = .ok (.ifCond .ne 40, 3) := by decide +kernel
theorem d_Bench_combine_102 : decode b_Bench_combine 102 = .ok (.aload_n 0, 1) := by decide +kernel
theorem d_Bench_combine_103 : decode b_Bench_combine 103 = .ok (.getfield 16, 3) := by decide +kernel
theorem d_Bench_combine_106 : decode b_Bench_combine 106 = .ok (.aload 6, 2) := by decide +kernel
theorem d_Bench_combine_108 : decode b_Bench_combine 108 = .ok (.aload 6, 2) := by decide +kernel
theorem d_Bench_combine_110 : decode b_Bench_combine 110 = .ok (.invokevirtual 136, 3) := by decide +kernel
theorem d_Bench_combine_113 : decode b_Bench_combine 113 = .ok (.iconst 0, 1) := by decide +kernel
theorem d_Bench_combine_114 : decode b_Bench_combine 114 = .ok (.invokevirtual 139, 3) := by decide +kernel
theorem d_Bench_combine_117 : decode b_Bench_combine 117 = .ok (.aload_n 0, 1) := by decide +kernel
theorem d_Bench_combine_118 : decode b_Bench_combine 118 = .ok (.getfield 16, 3) := by decide +kernel
theorem d_Bench_combine_121 : decode b_Bench_combine 121 = .ok (.aload 7, 2) := by decide +kernel
theorem d_Bench_combine_123 : decode b_Bench_combine 123 = .ok (.aload 7, 2) := by decide +kernel
theorem d_Bench_combine_125 : decode b_Bench_combine 125 = .ok (.invokevirtual 136, 3) := by decide +kernel
theorem d_Bench_combine_128 : decode b_Bench_combine 128 = .ok (.aload 6, 2) := by decide +kernel
theorem d_Bench_combine_130 : decode b_Bench_combine 130 = .ok (.getfield 92, 3) := by decide +kernel
theorem d_Bench_combine_133 : decode b_Bench_combine 133 = .ok (.invokevirtual 139, 3) := by decide +kernel
theorem d_Bench_combine_136 : decode b_Bench_combine 136 = .ok (.goto 25, 3) := by decide +kernel
theorem d_Bench_combine_139 : decode b_Bench_combine 139 = .ok (.aload_n 0, 1) := by decide +kernel
theorem d_Bench_combine_140 : decode b_Bench_combine 140 = .ok (.getfield 16, 3) := by decide +kernel
theorem d_Bench_combine_143 : decode b_Bench_combine 143 = .ok (.aload 6, 2) := by decide +kernel
theorem d_Bench_combine_145 : decode b_Bench_combine 145 = .ok (.aload 7, 2) := by decide +kernel
theorem d_Bench_combine_147 : decode b_Bench_combine 147 = .ok (.iload 4, 2) := by decide +kernel
theorem d_Bench_combine_149 : decode b_Bench_combine 149 = .ok (.iconst 2, 1) := by decide +kernel
theorem d_Bench_combine_150 : decode b_Bench_combine 150 = .ok (.if_icmp .ne 7, 3) := by decide +kernel
theorem d_Bench_combine_153 : decode b_Bench_combine 153 = .ok (.iconst 1, 1) := by decide +kernel
theorem d_Bench_combine_154 : decode b_Bench_combine 154 = .ok (.goto 4, 3) := by decide +kernel
theorem d_Bench_combine_157 : decode b_Bench_combine 157 = .ok (.iconst 0, 1) := by decide +kernel
theorem d_Bench_combine_158 : decode b_Bench_combine 158 = .ok (.invokevirtual 143, 3) := by decide +kernel
theorem d_Bench_combine_161 : decode b_Bench_combine 161 = .ok (.aload 5, 2) := by decide +kernel
theorem d_Bench_combine_163 : decode b_Bench_combine 163 = .ok (.aload_n 0, 1) := by decide +kernel
theorem d_Bench_combine_164 : decode b_Bench_combine 164 = .ok (.getfield 16, 3) := by decide +kernel
theorem d_Bench_combine_167 : decode b_Bench_combine 167 = .ok (.invokevirtual 147, 3) := by decide +kernel
theorem d_Bench_combine_170 : decode b_Bench_combine 170 = .ok (.aload 5, 2) := by decide +kernel
theorem d_Bench_combine_172 : decode b_Bench_combine 172 = .ok (.getfield 92, 3) := by decide +kernel
theorem d_Bench_combine_175 : decode b_Bench_combine 175 = .ok (.ireturn, 1) := by decide +kernel
theorem d_Bench_derive_0 : decode b_Bench_derive 0 = .ok (.aload_n 0, 1) := by decide +kernel
theorem d_Bench_derive_1 : decode b_Bench_derive 1 = .ok (.iload_n 1, 1) := by decide +kernel
theorem d_Bench_derive_2 : decode b_Bench_derive 2 = .ok (.invokevirtual 80, 3) := by decide +kernel
theorem d_Bench_derive_5 : decode b_Bench_derive 5 = .ok (.astore 5, 2) := by decide +kernel
theorem d_Bench_derive_7 : decode b_Bench_derive 7 = .ok (.aload_n 0, 1) := by decide +kernel
theorem d_Bench_derive_8 : decode b_Bench_derive 8 = .ok (.iload_n 2, 1) := by decide +kernel
theorem d_Bench_derive_9 : decode b_Bench_derive 9 = .ok (.invokevirtual 80, 3) := by decide +kernel
theorem d_Bench_derive_12 : decode b_Bench_derive 12 = .ok (.astore 6, 2) := by decide +kernel
theorem d_Bench_derive_14 : decode b_Bench_derive 14 = .ok (.iload_n 3, 1) := by decide +kernel
theorem d_Bench_derive_15 : decode b_Bench_derive 15 = .ok (.iconst 0, 1) := by decide +kernel
theorem d_Bench_derive_16 : decode b_Bench_derive 16 = .ok (.iconst 3, 1) := by decide +kernel
theorem d_Bench_derive_17 : decode b_Bench_derive 17 = .ok (.invokestatic 84, 3) := by decide +kernel
theorem d_Bench_derive_20 : decode b_Bench_derive 20 = .ok (.iload 4, 2) := by decide +kernel
theorem d_Bench_derive_22 : decode b_Bench_derive 22 = .ok (.iconst 0, 1) := by decide +kernel
theorem d_Bench_derive_23 : decode b_Bench_derive 23 = .ok (.iload_n 3, 1) := by decide +kernel
theorem d_Bench_derive_24 : decode b_Bench_derive 24 = .ok (.iconst 2, 1) := by decide +kernel
theorem d_Bench_derive_25 : decode b_Bench_derive 25 = .ok (.if_icmp .ne 11, 3) := by decide +kernel
theorem d_Bench_derive_28 : decode b_Bench_derive 28 = .ok (.aload 6, 2) := by decide +kernel
theorem d_Bench_derive_30 : decode b_Bench_derive 30 = .ok (.invokevirtual 136, 3) := by decide +kernel
theorem d_Bench_derive_33 : decode b_Bench_derive 33 = .ok (.goto 4, 3) := by decide +kernel
theorem d_Bench_derive_36 : decode b_Bench_derive 36 = .ok (.iconst 0, 1) := by decide +kernel
theorem d_Bench_derive_37 : decode b_Bench_derive 37 = .ok (.invokestatic 84, 3) := by decide +kernel
theorem d_Bench_derive_40 : decode b_Bench_derive 40 = .ok (.aload_n 0, 1) := by decide +kernel
theorem d_Bench_derive_41 : decode b_Bench_derive 41 = .ok (.getfield 23, 3) := by decide +kernel
theorem d_Bench_derive_44 : decode b_Bench_derive 44 = .ok (.aload_n 0, 1) := by decide +kernel
theorem d_Bench_derive_45 : decode b_Bench_derive 45 = .ok (.getfield 11, 3) := by decide +kernel
theorem d_Bench_derive_48 : decode b_Bench_derive 48 = .ok (.invokevirtual 88, 3) := by decide +kernel
theorem d_Bench_derive_51 : decode b_Bench_derive 51 = .ok (.iload_n 3, 1) := by decide +kernel
theorem d_Bench_derive_52 : decode b_Bench_derive 52 = .ok (.iconst 1, 1) := by decide +kernel
theorem d_Bench_derive_53 : decode b_Bench_derive 53 = .ok (.if_icmp .ne 15, 3) := by decide +kernel
theorem d_Bench_derive_56 : decode b_Bench_derive 56 = .ok (.aload_n 0, 1) := by decide +kernel
theorem d_Bench_derive_57 : decode b_Bench_derive 57 = .ok (.getfield 16, 3) := by decide +kernel
theorem d_Bench_derive_60 : decode b_Bench_derive 60 = .ok (.aload 6, 2) := by decide +kernel
theorem d_Bench_derive_62 : decode b_Bench_derive 62 = .ok (.invokevirtual 151, 3) := by decide +kernel
theorem d_Bench_derive_65 : decode b_Bench_derive 65 = .ok (.goto 57, 3) := by decide +kernel
theorem d_Bench_derive_68 : decode b_Bench_derive 68 = .ok (.iload_n 3, 1) := by decide +kernel
theorem d_Bench_derive_69 : decode b_Bench_derive 69 = .ok (.iconst 2, 1) := by decide +kernel
theorem d_Bench_derive_70 : decode b_Bench_derive 70 = .ok (.if_icmp .ne 17, 3) := by decide +kernel
theorem d_Bench_derive_73 : decode b_Bench_derive 73 = .ok (.aload_n 0, 1) := by decide +kernel
theorem d_Bench_derive_74 : decode b_Bench_derive 74 = .ok (.getfield 16, 3) := by decide +kernel
theorem d_Bench_derive_77 : decode b_Bench_derive 77 = .ok (.aload 6, 2) := by decide +kernel
theorem d_Bench_derive_79 : decode b_Bench_derive 79 = .ok (.iload 4, 2) := by decide +kernel
theorem d_Bench_derive_81 : decode b_Bench_derive 81 = .ok (.invokevirtual 154, 3) := by decide +kernel
theorem d_Bench_derive_84 : decode b_Bench_derive 84 = .ok (.goto 38, 3) := by decide +kernel
theorem d_Bench_derive_87 : decode b_Bench_derive 87 = .ok (.iload_n 3, 1) := by decide +kernel
theorem d_Bench_derive_88 : decode b_Bench_derive 88 = .ok (.iconst 3, 1) := by decide +kernel
theorem d_Bench_derive_89 : decode b_Bench_derive 89 = .ok (.if_icmp .ne 24, 3) := by decide +kernel
theorem d_Bench_derive_92 : decode b_Bench_derive 92 = .ok (.aload_n 0, 1) := by decide +kernel
theorem d_Bench_derive_93 : decode b_Bench_derive 93 = .ok (.getfield 16, 3) := by decide +kernel
theorem d_Bench_derive_96 : decode b_Bench_derive 96 = .ok (.aload 6, 2) := by decide +kernel
theorem d_Bench_derive_98 : decode b_Bench_derive 98 = .ok (.aload_n 0, 1) := by decide +kernel
theorem d_Bench_derive_99 : decode b_Bench_derive 99 = .ok (.getfield 58, 3) := by decide +kernel
theorem d_Bench_derive_102 : decode b_Bench_derive 102 = .ok (.aload 6, 2) := by decide +kernel
theorem d_Bench_derive_104 : decode b_Bench_derive 104 = .ok (.invokevirtual 157, 3) := by decide +kernel
theorem d_Bench_derive_107 : decode b_Bench_derive 107 = .ok (.invokevirtual 154, 3) := by decide +kernel
theorem d_Bench_derive_110 : decode b_Bench_derive 110 = .ok (.goto 12, 3) := by decide +kernel
theorem d_Bench_derive_113 : decode b_Bench_derive 113 = .ok (.aload_n 0, 1) := by decide +kernel
theorem d_Bench_derive_114 : decode b_Bench_derive 114 = .ok (.getfield 16, 3) := by decide +kernel
theorem d_Bench_derive_117 : decode b_Bench_derive 117 = .ok (.aload 6, 2) := by decide +kernel
theorem d_Bench_derive_119 : decode b_Bench_derive 119 = .ok (.invokevirtual 147, 3) := by decide +kernel
theorem d_Bench_derive_122 : decode b_Bench_derive 122 = .ok (.aload 5, 2) := by decide +kernel
theorem d_Bench_derive_124 : decode b_Bench_derive 124 = .ok (.aload_n 0, 1) := by decide +kernel
theorem d_Bench_derive_125 : decode b_Bench_derive 125 = .ok (.getfield 16, 3) := by decide +kernel
theorem d_Bench_derive_128 : decode b_Bench_derive 128 = .ok (.invokevirtual 147, 3) := by decide +kernel
theorem d_Bench_derive_131 : decode b_Bench_derive 131 = .ok (.aload 5, 2) := by decide +kernel
theorem d_Bench_derive_133 : decode b_Bench_derive 133 = .ok (.getfield 92, 3) := by decide +kernel
theorem d_Bench_derive_136 : decode b_Bench_derive 136 = .ok (.ireturn, 1) := by decide +kernel
theorem d_Bench_graph_0 : decode b_Bench_graph 0 = .ok (.aload_n 0, 1) := by decide +kernel
theorem d_Bench_graph_1 : decode b_Bench_graph 1 = .ok (.iload_n 1, 1) := by decide +kernel
theorem d_Bench_graph_2 : decode b_Bench_graph 2 = .ok (.invokevirtual 80, 3) := by decide +kernel
theorem d_Bench_graph_5 : decode b_Bench_graph 5 = .ok (.astore_n 3, 1) := by decide +kernel
theorem d_Bench_graph_6 : decode b_Bench_graph 6 = .ok (.iload_n 2, 1) := by decide +kernel
theorem d_Bench_graph_7 : decode b_Bench_graph 7 = .ok (.iconst 0, 1) := by decide +kernel
theorem d_Bench_graph_8 : decode b_Bench_graph 8 = .ok (.iconst 3, 1) := by decide +kernel
theorem d_Bench_graph_9 : decode b_Bench_graph 9 = .ok (.invokestatic 84, 3) := by decide +kernel
theorem d_Bench_graph_12 : decode b_Bench_graph 12 = .ok (.iload_n 2, 1) := by decide +kernel
theorem d_Bench_graph_13 : decode b_Bench_graph 13 = .ok (.tableswitch 42 0 2 #[27, 32, 37], 27) := by decide +kernel
theorem d_Bench_graph_40 : decode b_Bench_graph 40 = .ok (.aload_n 3, 1) := by decide +kernel
theorem d_Bench_graph_41 : decode b_Bench_graph 41 = .ok (.getfield 92, 3) := by decide +kernel
theorem d_Bench_graph_44 : decode b_Bench_graph 44 = .ok (.ireturn, 1) := by decide +kernel
theorem d_Bench_graph_45 : decode b_Bench_graph 45 = .ok (.aload_n 3, 1) := by decide +kernel
theorem d_Bench_graph_46 : decode b_Bench_graph 46 = .ok (.invokevirtual 117, 3) := by decide +kernel
theorem d_Bench_graph_49 : decode b_Bench_graph 49 = .ok (.ireturn, 1) := by decide +kernel
theorem d_Bench_graph_50 : decode b_Bench_graph 50 = .ok (.aload_n 3, 1) := by decide +kernel
theorem d_Bench_graph_51 : decode b_Bench_graph 51 = .ok (.invokevirtual 121, 3) := by decide +kernel
theorem d_Bench_graph_54 : decode b_Bench_graph 54 = .ok (.ireturn, 1) := by decide +kernel
theorem d_Bench_graph_55 : decode b_Bench_graph 55 = .ok (.aload_n 3, 1) := by decide +kernel
theorem d_Bench_graph_56 : decode b_Bench_graph 56 = .ok (.invokevirtual 161, 3) := by decide +kernel
theorem d_Bench_graph_59 : decode b_Bench_graph 59 = .ok (.ireturn, 1) := by decide +kernel
theorem d_Bench_vertex_0 : decode b_Bench_vertex 0 = .ok (.aload_n 0, 1) := by decide +kernel
theorem d_Bench_vertex_1 : decode b_Bench_vertex 1 = .ok (.iload_n 1, 1) := by decide +kernel
theorem d_Bench_vertex_2 : decode b_Bench_vertex 2 = .ok (.invokevirtual 80, 3) := by decide +kernel
theorem d_Bench_vertex_5 : decode b_Bench_vertex 5 = .ok (.astore 4, 2) := by decide +kernel
theorem d_Bench_vertex_7 : decode b_Bench_vertex 7 = .ok (.aload 4, 2) := by decide +kernel
theorem d_Bench_vertex_9 : decode b_Bench_vertex 9 = .ok (.iload_n 2, 1) := by decide +kernel
theorem d_Bench_vertex_10 : decode b_Bench_vertex 10 = .ok (.invokestatic 100, 3) := by decide +kernel
theorem d_Bench_vertex_13 : decode b_Bench_vertex 13 = .ok (.iload_n 3, 1) := by decide +kernel
theorem d_Bench_vertex_14 : decode b_Bench_vertex 14 = .ok (.iconst 0, 1) := by decide +kernel
theorem d_Bench_vertex_15 : decode b_Bench_vertex 15 = .ok (.iconst 2, 1) := by decide +kernel
theorem d_Bench_vertex_16 : decode b_Bench_vertex 16 = .ok (.invokestatic 84, 3) := by decide +kernel
theorem d_Bench_vertex_19 : decode b_Bench_vertex 19 = .ok (.iload_n 3, 1) := by decide +kernel
theorem d_Bench_vertex_20 : decode b_Bench_vertex 20 = .ok (.lookupswitch 47 #[(0, 28), (1, 36)], 28) := by decide +kernel
theorem d_Bench_vertex_48 : decode b_Bench_vertex 48 = .ok (.aload 4, 2) := by decide +kernel
theorem d_Bench_vertex_50 : decode b_Bench_vertex 50 = .ok (.getfield 104, 3) := by decide +kernel
theorem d_Bench_vertex_53 : decode b_Bench_vertex 53 = .ok (.iload_n 2, 1) := by decide +kernel
theorem d_Bench_vertex_54 : decode b_Bench_vertex 54 = .ok (.iaload, 1) := by decide +kernel
theorem d_Bench_vertex_55 : decode b_Bench_vertex 55 = .ok (.ireturn, 1) := by decide +kernel
theorem d_Bench_vertex_56 : decode b_Bench_vertex 56 = .ok (.aload 4, 2) := by decide +kernel
theorem d_Bench_vertex_58 : decode b_Bench_vertex 58 = .ok (.getfield 164, 3) := by decide +kernel
theorem d_Bench_vertex_61 : decode b_Bench_vertex 61 = .ok (.iload_n 2, 1) := by decide +kernel
theorem d_Bench_vertex_62 : decode b_Bench_vertex 62 = .ok (.iaload, 1) := by decide +kernel
theorem d_Bench_vertex_63 : decode b_Bench_vertex 63 = .ok (.invokestatic 167, 3) := by decide +kernel
theorem d_Bench_vertex_66 : decode b_Bench_vertex 66 = .ok (.ireturn, 1) := by decide +kernel
theorem d_Bench_vertex_67 : decode b_Bench_vertex 67 = .ok (.aload 4, 2) := by decide +kernel
theorem d_Bench_vertex_69 : decode b_Bench_vertex 69 = .ok (.getfield 164, 3) := by decide +kernel
theorem d_Bench_vertex_72 : decode b_Bench_vertex 72 = .ok (.iload_n 2, 1) := by decide +kernel
theorem d_Bench_vertex_73 : decode b_Bench_vertex 73 = .ok (.iaload, 1) := by decide +kernel
theorem d_Bench_vertex_74 : decode b_Bench_vertex 74 = .ok (.ireturn, 1) := by decide +kernel
theorem d_Bench_edge_0 : decode b_Bench_edge 0 = .ok (.aload_n 0, 1) := by decide +kernel
theorem d_Bench_edge_1 : decode b_Bench_edge 1 = .ok (.iload_n 1, 1) := by decide +kernel
theorem d_Bench_edge_2 : decode b_Bench_edge 2 = .ok (.invokevirtual 80, 3) := by decide +kernel
theorem d_Bench_edge_5 : decode b_Bench_edge 5 = .ok (.astore 4, 2) := by decide +kernel
theorem d_Bench_edge_7 : decode b_Bench_edge 7 = .ok (.aload 4, 2) := by decide +kernel
theorem d_Bench_edge_9 : decode b_Bench_edge 9 = .ok (.iload_n 2, 1) := by decide +kernel
theorem d_Bench_edge_10 : decode b_Bench_edge 10 = .ok (.invokestatic 100, 3) := by decide +kernel
theorem d_Bench_edge_13 : decode b_Bench_edge 13 = .ok (.aload 4, 2) := by decide +kernel
theorem d_Bench_edge_15 : decode b_Bench_edge 15 = .ok (.iload_n 3, 1) := by decide +kernel
theorem d_Bench_edge_16 : decode b_Bench_edge 16 = .ok (.invokestatic 100, 3) := by decide +kernel
theorem d_Bench_edge_19 : decode b_Bench_edge 19 = .ok (.aload 4, 2) := by decide +kernel
theorem d_Bench_edge_21 : decode b_Bench_edge 21 = .ok (.iload_n 2, 1) := by decide +kernel
theorem d_Bench_edge_22 : decode b_Bench_edge 22 = .ok (.iload_n 3, 1) := by decide +kernel
theorem d_Bench_edge_23 : decode b_Bench_edge 23 = .ok (.invokevirtual 107, 3) := by decide +kernel
theorem d_Bench_edge_26 : decode b_Bench_edge 26 = .ok (.ireturn, 1) := by decide +kernel
theorem d_Bench_greedy_0 : decode b_Bench_greedy 0 = .ok (.aload_n 0, 1) := by decide +kernel
theorem d_Bench_greedy_1 : decode b_Bench_greedy 1 = .ok (.iload_n 1, 1) := by decide +kernel
theorem d_Bench_greedy_2 : decode b_Bench_greedy 2 = .ok (.invokevirtual 80, 3) := by decide +kernel
theorem d_Bench_greedy_5 : decode b_Bench_greedy 5 = .ok (.astore_n 3, 1) := by decide +kernel
theorem d_Bench_greedy_6 : decode b_Bench_greedy 6 = .ok (.aload_n 3, 1) := by decide +kernel
theorem d_Bench_greedy_7 : decode b_Bench_greedy 7 = .ok (.iload_n 2, 1) := by decide +kernel
theorem d_Bench_greedy_8 : decode b_Bench_greedy 8 = .ok (.invokestatic 100, 3) := by decide +kernel
theorem d_Bench_greedy_11 : decode b_Bench_greedy 11 = .ok (.aload_n 0, 1) := by decide +kernel
theorem d_Bench_greedy_12 : decode b_Bench_greedy 12 = .ok (.getfield 44, 3) := by decide +kernel
theorem d_Bench_greedy_15 : decode b_Bench_greedy 15 = .ok (.aload_n 3, 1) := by decide +kernel
theorem d_Bench_greedy_16 : decode b_Bench_greedy 16 = .ok (.invokevirtual 173, 3) := by decide +kernel
theorem d_Bench_greedy_19 : decode b_Bench_greedy 19 = .ok (.aload_n 0, 1) := by decide +kernel
theorem d_Bench_greedy_20 : decode b_Bench_greedy 20 = .ok (.getfield 44, 3) := by decide +kernel
theorem d_Bench_greedy_23 : decode b_Bench_greedy 23 = .ok (.getfield 176, 3) := by decide +kernel
theorem d_Bench_greedy_26 : decode b_Bench_greedy 26 = .ok (.iload_n 2, 1) := by decide +kernel
theorem d_Bench_greedy_27 : decode b_Bench_greedy 27 = .ok (.iaload, 1) := by decide +kernel
theorem d_Bench_greedy_28 : decode b_Bench_greedy 28 = .ok (.ireturn, 1) := by decide +kernel
theorem d_Bench_width_0 : decode b_Bench_width 0 = .ok (.aload_n 0, 1) := by decide +kernel
theorem d_Bench_width_1 : decode b_Bench_width 1 = .ok (.iload_n 1, 1) := by decide +kernel
theorem d_Bench_width_2 : decode b_Bench_width 2 = .ok (.invokevirtual 80, 3) := by decide +kernel
theorem d_Bench_width_5 : decode b_Bench_width 5 = .ok (.astore 4, 2) := by decide +kernel
theorem d_Bench_width_7 : decode b_Bench_width 7 = .ok (.iload_n 2, 1) := by decide +kernel
theorem d_Bench_width_8 : decode b_Bench_width 8 = .ok (.ifCond .ne 15, 3) := by decide +kernel
theorem d_Bench_width_11 : decode b_Bench_width 11 = .ok (.aload_n 0, 1) := by decide +kernel
theorem d_Bench_width_12 : decode b_Bench_width 12 = .ok (.getfield 44, 3) := by decide +kernel
theorem d_Bench_width_15 : decode b_Bench_width 15 = .ok (.aload 4, 2) := by decide +kernel
theorem d_Bench_width_17 : decode b_Bench_width 17 = .ok (.invokevirtual 173, 3) := by decide +kernel
theorem d_Bench_width_20 : decode b_Bench_width 20 = .ok (.goto 41, 3) := by decide +kernel
theorem d_Bench_width_23 : decode b_Bench_width 23 = .ok (.aload_n 0, 1) := by decide +kernel
theorem d_Bench_width_24 : decode b_Bench_width 24 = .ok (.getfield 44, 3) := by decide +kernel
theorem d_Bench_width_27 : decode b_Bench_width 27 = .ok (.iload_n 2, 1) := by decide +kernel
theorem d_Bench_width_28 : decode b_Bench_width 28 = .ok (.aload 4, 2) := by decide +kernel
theorem d_Bench_width_30 : decode b_Bench_width 30 = .ok (.getfield 92, 3) := by decide +kernel
theorem d_Bench_width_33 : decode b_Bench_width 33 = .ok (.invokevirtual 179, 3) := by decide +kernel
theorem d_Bench_width_36 : decode b_Bench_width 36 = .ok (.ifCond .eq 15, 3) := by decide +kernel
theorem d_Bench_width_39 : decode b_Bench_width 39 = .ok (.aload_n 0, 1) := by decide +kernel
theorem d_Bench_width_40 : decode b_Bench_width 40 = .ok (.getfield 44, 3) := by decide +kernel
theorem d_Bench_width_43 : decode b_Bench_width 43 = .ok (.aload 4, 2) := by decide +kernel
theorem d_Bench_width_45 : decode b_Bench_width 45 = .ok (.invokevirtual 183, 3) := by decide +kernel
theorem d_Bench_width_48 : decode b_Bench_width 48 = .ok (.goto 13, 3) := by decide +kernel
theorem d_Bench_width_51 : decode b_Bench_width 51 = .ok (.new 186, 3) := by decide +kernel
theorem d_Bench_width_54 : decode b_Bench_width 54 = .ok (.dup, 1) := by decide +kernel
theorem d_Bench_width_55 : decode b_Bench_width 55 = .ok (.ldc 188, 2) := by decide +kernel
theorem d_Bench_width_57 : decode b_Bench_width 57 = .ok (.invokespecial 190, 3) := by decide +kernel
theorem d_Bench_width_60 : decode b_Bench_width 60 = .ok (.athrow, 1) := by decide +kernel
theorem d_Bench_width_61 : decode b_Bench_width 61 = .ok (.iload_n 3, 1) := by decide +kernel
theorem d_Bench_width_62 : decode b_Bench_width 62 = .ok (.ifCond .eq 13, 3) := by decide +kernel
theorem d_Bench_width_65 : decode b_Bench_width 65 = .ok (.aload_n 0, 1) := by decide +kernel
theorem d_Bench_width_66 : decode b_Bench_width 66 = .ok (.getfield 44, 3) := by decide +kernel
theorem d_Bench_width_69 : decode b_Bench_width 69 = .ok (.getfield 191, 3) := by decide +kernel
theorem d_Bench_width_72 : decode b_Bench_width 72 = .ok (.goto 10, 3) := by decide +kernel
theorem d_Bench_width_75 : decode b_Bench_width 75 = .ok (.aload_n 0, 1) := by decide +kernel
theorem d_Bench_width_76 : decode b_Bench_width 76 = .ok (.getfield 44, 3) := by decide +kernel
theorem d_Bench_width_79 : decode b_Bench_width 79 = .ok (.getfield 194, 3) := by decide +kernel
theorem d_Bench_width_82 : decode b_Bench_width 82 = .ok (.ireturn, 1) := by decide +kernel
theorem d_Bench_treewidth_0 : decode b_Bench_treewidth 0 = .ok (.aload_n 0, 1) := by decide +kernel
theorem d_Bench_treewidth_1 : decode b_Bench_treewidth 1 = .ok (.getfield 44, 3) := by decide +kernel
theorem d_Bench_treewidth_4 : decode b_Bench_treewidth 4 = .ok (.aload_n 0, 1) := by decide +kernel
theorem d_Bench_treewidth_5 : decode b_Bench_treewidth 5 = .ok (.iload_n 1, 1) := by decide +kernel
theorem d_Bench_treewidth_6 : decode b_Bench_treewidth 6 = .ok (.invokevirtual 80, 3) := by decide +kernel
theorem d_Bench_treewidth_9 : decode b_Bench_treewidth 9 = .ok (.invokevirtual 197, 3) := by decide +kernel
theorem d_Bench_treewidth_12 : decode b_Bench_treewidth 12 = .ok (.ireturn, 1) := by decide +kernel
theorem d_Bench_bag_0 : decode b_Bench_bag 0 = .ok (.aload_n 0, 1) := by decide +kernel
theorem d_Bench_bag_1 : decode b_Bench_bag 1 = .ok (.iload_n 1, 1) := by decide +kernel
theorem d_Bench_bag_2 : decode b_Bench_bag 2 = .ok (.invokevirtual 80, 3) := by decide +kernel
theorem d_Bench_bag_5 : decode b_Bench_bag 5 = .ok (.astore_n 3, 1) := by decide +kernel
theorem d_Bench_bag_6 : decode b_Bench_bag 6 = .ok (.aload_n 3, 1) := by decide +kernel
theorem d_Bench_bag_7 : decode b_Bench_bag 7 = .ok (.iload_n 2, 1) := by decide +kernel
theorem d_Bench_bag_8 : decode b_Bench_bag 8 = .ok (.invokestatic 100, 3) := by decide +kernel
theorem d_Bench_bag_11 : decode b_Bench_bag 11 = .ok (.aload_n 0, 1) := by decide +kernel
theorem d_Bench_bag_12 : decode b_Bench_bag 12 = .ok (.getfield 44, 3) := by decide +kernel
theorem d_Bench_bag_15 : decode b_Bench_bag 15 = .ok (.aload_n 3, 1) := by decide +kernel
theorem d_Bench_bag_16 : decode b_Bench_bag 16 = .ok (.invokevirtual 173, 3) := by decide +kernel
theorem d_Bench_bag_19 : decode b_Bench_bag 19 = .ok (.aload_n 0, 1) := by decide +kernel
theorem d_Bench_bag_20 : decode b_Bench_bag 20 = .ok (.getfield 44, 3) := by decide +kernel
theorem d_Bench_bag_23 : decode b_Bench_bag 23 = .ok (.getfield 200, 3) := by decide +kernel
theorem d_Bench_bag_26 : decode b_Bench_bag 26 = .ok (.iload_n 2, 1) := by decide +kernel
theorem d_Bench_bag_27 : decode b_Bench_bag 27 = .ok (.iaload, 1) := by decide +kernel
theorem d_Bench_bag_28 : decode b_Bench_bag 28 = .ok (.ireturn, 1) := by decide +kernel
theorem d_Bench_requireSmall_0 : decode b_Bench_requireSmall 0 = .ok (.aload_n 0, 1) := by decide +kernel
theorem d_Bench_requireSmall_1 : decode b_Bench_requireSmall 1 = .ok (.getfield 92, 3) := by decide +kernel
theorem d_Bench_requireSmall_4 : decode b_Bench_requireSmall 4 = .ok (.bipush 6, 2) := by decide +kernel
theorem d_Bench_requireSmall_6 : decode b_Bench_requireSmall 6 = .ok (.if_icmp .le 14, 3) := by decide +kernel
theorem d_Bench_requireSmall_9 : decode b_Bench_requireSmall 9 = .ok (.new 129, 3) := by decide +kernel
theorem d_Bench_requireSmall_12 : decode b_Bench_requireSmall 12 = .ok (.dup, 1) := by decide +kernel
theorem d_Bench_requireSmall_13 : decode b_Bench_requireSmall 13 = .ok (.ldc_w 312, 3) := by decide +kernel
theorem d_Bench_requireSmall_16 : decode b_Bench_requireSmall 16 = .ok (.invokespecial 133, 3) := by decide +kernel
theorem d_Bench_requireSmall_19 : decode b_Bench_requireSmall 19 = .ok (.athrow, 1) := by decide +kernel
theorem d_Bench_requireSmall_20 : decode b_Bench_requireSmall 20 = .ok (.return_, 1) := by decide +kernel
theorem d_Bench_count_0 : decode b_Bench_count 0 = .ok (.aload_n 0, 1) := by decide +kernel
theorem d_Bench_count_1 : decode b_Bench_count 1 = .ok (.iload_n 1, 1) := by decide +kernel
theorem d_Bench_count_2 : decode b_Bench_count 2 = .ok (.invokevirtual 80, 3) := by decide +kernel
theorem d_Bench_count_5 : decode b_Bench_count 5 = .ok (.astore 4, 2) := by decide +kernel
theorem d_Bench_count_7 : decode b_Bench_count 7 = .ok (.aload_n 0, 1) := by decide +kernel
theorem d_Bench_count_8 : decode b_Bench_count 8 = .ok (.iload_n 2, 1) := by decide +kernel
theorem d_Bench_count_9 : decode b_Bench_count 9 = .ok (.invokevirtual 80, 3) := by decide +kernel
theorem d_Bench_count_12 : decode b_Bench_count 12 = .ok (.astore 5, 2) := by decide +kernel
theorem d_Bench_count_14 : decode b_Bench_count 14 = .ok (.iload_n 3, 1) := by decide +kernel
theorem d_Bench_count_15 : decode b_Bench_count 15 = .ok (.iconst 0, 1) := by decide +kernel
theorem d_Bench_count_16 : decode b_Bench_count 16 = .ok (.bipush 6, 2) := by decide +kernel
theorem d_Bench_count_18 : decode b_Bench_count 18 = .ok (.invokestatic 84, 3) := by decide +kernel
theorem d_Bench_count_21 : decode b_Bench_count 21 = .ok (.aload 4, 2) := by decide +kernel
theorem d_Bench_count_23 : decode b_Bench_count 23 = .ok (.invokestatic 203, 3) := by decide +kernel
theorem d_Bench_count_26 : decode b_Bench_count 26 = .ok (.iload_n 3, 1) := by decide +kernel
theorem d_Bench_count_27 : decode b_Bench_count 27 = .ok (.iconst 5, 1) := by decide +kernel
theorem d_Bench_count_28 : decode b_Bench_count 28 = .ok (.if_icmp .gt 13, 3) := by decide +kernel
theorem d_Bench_count_31 : decode b_Bench_count 31 = .ok (.iload_n 3, 1) := by decide +kernel
theorem d_Bench_count_32 : decode b_Bench_count 32 = .ok (.iconst 2, 1) := by decide +kernel
theorem d_Bench_count_33 : decode b_Bench_count 33 = .ok (.irem, 1) := by decide +kernel
theorem d_Bench_count_34 : decode b_Bench_count 34 = .ok (.ifCond .eq 7, 3) := by decide +kernel
theorem d_Bench_count_37 : decode b_Bench_count 37 = .ok (.iconst 1, 1) := by decide +kernel
theorem d_Bench_count_38 : decode b_Bench_count 38 = .ok (.goto 4, 3) := by decide +kernel
theorem d_Bench_count_41 : decode b_Bench_count 41 = .ok (.iconst 0, 1) := by decide +kernel
theorem d_Bench_count_42 : decode b_Bench_count 42 = .ok (.istore 6, 2) := by decide +kernel
theorem d_Bench_count_44 : decode b_Bench_count 44 = .ok (.aload_n 0, 1) := by decide +kernel
theorem d_Bench_count_45 : decode b_Bench_count 45 = .ok (.getfield 51, 3) := by decide +kernel
theorem d_Bench_count_48 : decode b_Bench_count 48 = .ok (.aload 4, 2) := by decide +kernel
theorem d_Bench_count_50 : decode b_Bench_count 50 = .ok (.aload 5, 2) := by decide +kernel
theorem d_Bench_count_52 : decode b_Bench_count 52 = .ok (.iload 6, 2) := by decide +kernel
theorem d_Bench_count_54 : decode b_Bench_count 54 = .ok (.invokevirtual 206, 3) := by decide +kernel
theorem d_Bench_count_57 : decode b_Bench_count 57 = .ok (.iload_n 3, 1) := by decide +kernel
theorem d_Bench_count_58 : decode b_Bench_count 58 = .ok (.tableswitch 64 0 5 #[38, 38, 48, 48, 56, 56], 38) := by decide +kernel
theorem d_Bench_count_96 : decode b_Bench_count 96 = .ok (.aload_n 0, 1) := by decide +kernel
theorem d_Bench_count_97 : decode b_Bench_count 97 = .ok (.getfield 51, 3) := by decide +kernel
theorem d_Bench_count_100 : decode b_Bench_count 100 = .ok (.aload 4, 2) := by decide +kernel
theorem d_Bench_count_102 : decode b_Bench_count 102 = .ok (.invokevirtual 209, 3) := by decide +kernel
theorem d_Bench_count_105 : decode b_Bench_count 105 = .ok (.lreturn, 1) := by decide +kernel
theorem d_Bench_count_106 : decode b_Bench_count 106 = .ok (.aload_n 0, 1) := by decide +kernel
theorem d_Bench_count_107 : decode b_Bench_count 107 = .ok (.getfield 51, 3) := by decide +kernel
theorem d_Bench_count_110 : decode b_Bench_count 110 = .ok (.invokevirtual 213, 3) := by decide +kernel
theorem d_Bench_count_113 : decode b_Bench_count 113 = .ok (.lreturn, 1) := by decide +kernel
theorem d_Bench_count_114 : decode b_Bench_count 114 = .ok (.aload_n 0, 1) := by decide +kernel
theorem d_Bench_count_115 : decode b_Bench_count 115 = .ok (.getfield 51, 3) := by decide +kernel
theorem d_Bench_count_118 : decode b_Bench_count 118 = .ok (.invokevirtual 217, 3) := by decide +kernel
theorem d_Bench_count_121 : decode b_Bench_count 121 = .ok (.lreturn, 1) := by decide +kernel
theorem d_Bench_count_122 : decode b_Bench_count 122 = .ok (.aload_n 0, 1) := by decide +kernel
theorem d_Bench_count_123 : decode b_Bench_count 123 = .ok (.getfield 51, 3) := by decide +kernel
theorem d_Bench_count_126 : decode b_Bench_count 126 = .ok (.invokevirtual 220, 3) := by decide +kernel
theorem d_Bench_count_129 : decode b_Bench_count 129 = .ok (.lreturn, 1) := by decide +kernel
theorem d_Bench_density_0 : decode b_Bench_density 0 = .ok (.aload_n 0, 1) := by decide +kernel
theorem d_Bench_density_1 : decode b_Bench_density 1 = .ok (.iload_n 1, 1) := by decide +kernel
theorem d_Bench_density_2 : decode b_Bench_density 2 = .ok (.invokevirtual 80, 3) := by decide +kernel
theorem d_Bench_density_5 : decode b_Bench_density 5 = .ok (.astore 4, 2) := by decide +kernel
theorem d_Bench_density_7 : decode b_Bench_density 7 = .ok (.aload_n 0, 1) := by decide +kernel
theorem d_Bench_density_8 : decode b_Bench_density 8 = .ok (.iload_n 2, 1) := by decide +kernel
theorem d_Bench_density_9 : decode b_Bench_density 9 = .ok (.invokevirtual 80, 3) := by decide +kernel
theorem d_Bench_density_12 : decode b_Bench_density 12 = .ok (.astore 5, 2) := by decide +kernel
theorem d_Bench_density_14 : decode b_Bench_density 14 = .ok (.iload_n 3, 1) := by decide +kernel
theorem d_Bench_density_15 : decode b_Bench_density 15 = .ok (.iconst 0, 1) := by decide +kernel
theorem d_Bench_density_16 : decode b_Bench_density 16 = .ok (.iconst 1, 1) := by decide +kernel
theorem d_Bench_density_17 : decode b_Bench_density 17 = .ok (.invokestatic 84, 3) := by decide +kernel
theorem d_Bench_density_20 : decode b_Bench_density 20 = .ok (.aload 4, 2) := by decide +kernel
theorem d_Bench_density_22 : decode b_Bench_density 22 = .ok (.invokestatic 203, 3) := by decide +kernel
theorem d_Bench_density_25 : decode b_Bench_density 25 = .ok (.aload 5, 2) := by decide +kernel
theorem d_Bench_density_27 : decode b_Bench_density 27 = .ok (.getfield 92, 3) := by decide +kernel
theorem d_Bench_density_30 : decode b_Bench_density 30 = .ok (.ifCond .ne 13, 3) := by decide +kernel
theorem d_Bench_density_33 : decode b_Bench_density 33 = .ok (.new 129, 3) := by decide +kernel
theorem d_Bench_density_36 : decode b_Bench_density 36 = .ok (.dup, 1) := by decide +kernel
theorem d_Bench_density_37 : decode b_Bench_density 37 = .ok (.ldc 223, 2) := by decide +kernel
theorem d_Bench_density_39 : decode b_Bench_density 39 = .ok (.invokespecial 133, 3) := by decide +kernel
theorem d_Bench_density_42 : decode b_Bench_density 42 = .ok (.athrow, 1) := by decide +kernel
theorem d_Bench_density_43 : decode b_Bench_density 43 = .ok (.aload_n 0, 1) := by decide +kernel
theorem d_Bench_density_44 : decode b_Bench_density 44 = .ok (.getfield 51, 3) := by decide +kernel
theorem d_Bench_density_47 : decode b_Bench_density 47 = .ok (.aload 4, 2) := by decide +kernel
theorem d_Bench_density_49 : decode b_Bench_density 49 = .ok (.aload 5, 2) := by decide +kernel
theorem d_Bench_density_51 : decode b_Bench_density 51 = .ok (.iconst 0, 1) := by decide +kernel
theorem d_Bench_density_52 : decode b_Bench_density 52 = .ok (.invokevirtual 206, 3) := by decide +kernel
theorem d_Bench_density_55 : decode b_Bench_density 55 = .ok (.aload_n 0, 1) := by decide +kernel
theorem d_Bench_density_56 : decode b_Bench_density 56 = .ok (.getfield 51, 3) := by decide +kernel
theorem d_Bench_density_59 : decode b_Bench_density 59 = .ok (.aload 4, 2) := by decide +kernel
theorem d_Bench_density_61 : decode b_Bench_density 61 = .ok (.invokevirtual 209, 3) := by decide +kernel
theorem d_Bench_density_64 : decode b_Bench_density 64 = .ok (.lstore 6, 2) := by decide +kernel
theorem d_Bench_density_66 : decode b_Bench_density 66 = .ok (.lconst 1, 1) := by decide +kernel
theorem d_Bench_density_67 : decode b_Bench_density 67 = .ok (.lstore 8, 2) := by decide +kernel
theorem d_Bench_density_69 : decode b_Bench_density 69 = .ok (.iconst 0, 1) := by decide +kernel
theorem d_Bench_density_70 : decode b_Bench_density 70 = .ok (.istore 10, 2) := by decide +kernel
theorem d_Bench_density_72 : decode b_Bench_density 72 = .ok (.iload 10, 2) := by decide +kernel
theorem d_Bench_density_74 : decode b_Bench_density 74 = .ok (.aload 4, 2) := by decide +kernel
theorem d_Bench_density_76 : decode b_Bench_density 76 = .ok (.getfield 92, 3) := by decide +kernel
theorem d_Bench_density_79 : decode b_Bench_density 79 = .ok (.if_icmp .ge 20, 3) := by decide +kernel
theorem d_Bench_density_82 : decode b_Bench_density 82 = .ok (.lload 8, 2) := by decide +kernel
theorem d_Bench_density_84 : decode b_Bench_density 84 = .ok (.aload 5, 2) := by decide +kernel
theorem d_Bench_density_86 : decode b_Bench_density 86 = .ok (.getfield 92, 3) := by decide +kernel
theorem d_Bench_density_89 : decode b_Bench_density 89 = .ok (.i2l, 1) := by decide +kernel
theorem d_Bench_density_90 : decode b_Bench_density 90 = .ok (.lmul, 1) := by decide +kernel
theorem d_Bench_density_91 : decode b_Bench_density 91 = .ok (.lstore 8, 2) := by decide +kernel
theorem d_Bench_density_93 : decode b_Bench_density 93 = .ok (.iinc 10 1, 3) := by decide +kernel
theorem d_Bench_density_96 : decode b_Bench_density 96 = .ok (.goto (-24), 3) := by decide +kernel
theorem d_Bench_density_99 : decode b_Bench_density 99 = .ok (.lload 8, 2) := by decide +kernel
theorem d_Bench_density_101 : decode b_Bench_density 101 = .ok (.lload 6, 2) := by decide +kernel
theorem d_Bench_density_103 : decode b_Bench_density 103 = .ok (.invokestatic 225, 3) := by decide +kernel
theorem d_Bench_density_106 : decode b_Bench_density 106 = .ok (.lstore 10, 2) := by decide +kernel
theorem d_Bench_density_108 : decode b_Bench_density 108 = .ok (.lload 10, 2) := by decide +kernel
theorem d_Bench_density_110 : decode b_Bench_density 110 = .ok (.lconst 0, 1) := by decide +kernel
theorem d_Bench_density_111 : decode b_Bench_density 111 = .ok (.lcmp, 1) := by decide +kernel
theorem d_Bench_density_112 : decode b_Bench_density 112 = .ok (.ifCond .ne 5, 3) := by decide +kernel
theorem d_Bench_density_115 : decode b_Bench_density 115 = .ok (.lconst 0, 1) := by decide +kernel
theorem d_Bench_density_116 : decode b_Bench_density 116 = .ok (.lreturn, 1) := by decide +kernel
theorem d_Bench_density_117 : decode b_Bench_density 117 = .ok (.iload_n 3, 1) := by decide +kernel
theorem d_Bench_density_118 : decode b_Bench_density 118 = .ok (.ifCond .ne 11, 3) := by decide +kernel
theorem d_Bench_density_121 : decode b_Bench_density 121 = .ok (.lload 6, 2) := by decide +kernel
theorem d_Bench_density_123 : decode b_Bench_density 123 = .ok (.lload 10, 2) := by decide +kernel
theorem d_Bench_density_125 : decode b_Bench_density 125 = .ok (.ldiv, 1) := by decide +kernel
theorem d_Bench_density_126 : decode b_Bench_density 126 = .ok (.goto 8, 3) := by decide +kernel
theorem d_Bench_density_129 : decode b_Bench_density 129 = .ok (.lload 8, 2) := by decide +kernel
theorem d_Bench_density_131 : decode b_Bench_density 131 = .ok (.lload 10, 2) := by decide +kernel
theorem d_Bench_density_133 : decode b_Bench_density 133 = .ok (.ldiv, 1) := by decide +kernel
theorem d_Bench_density_134 : decode b_Bench_density 134 = .ok (.lreturn, 1) := by decide +kernel
theorem d_Bench_automorphisms_0 : decode b_Bench_automorphisms 0 = .ok (.aload_n 0, 1) := by decide +kernel
theorem d_Bench_automorphisms_1 : decode b_Bench_automorphisms 1 = .ok (.getfield 65, 3) := by decide +kernel
theorem d_Bench_automorphisms_4 : decode b_Bench_automorphisms 4 = .ok (.aload_n 0, 1) := by decide +kernel
theorem d_Bench_automorphisms_5 : decode b_Bench_automorphisms 5 = .ok (.iload_n 1, 1) := by decide +kernel
theorem d_Bench_automorphisms_6 : decode b_Bench_automorphisms 6 = .ok (.invokevirtual 80, 3) := by decide +kernel
theorem d_Bench_automorphisms_9 : decode b_Bench_automorphisms 9 = .ok (.invokevirtual 229, 3) := by decide +kernel
theorem d_Bench_automorphisms_12 : decode b_Bench_automorphisms 12 = .ok (.ireturn, 1) := by decide +kernel
theorem d_Bench_isomorphic_0 : decode b_Bench_isomorphic 0 = .ok (.aload_n 0, 1) := by decide +kernel
theorem d_Bench_isomorphic_1 : decode b_Bench_isomorphic 1 = .ok (.getfield 65, 3) := by decide +kernel
theorem d_Bench_isomorphic_4 : decode b_Bench_isomorphic 4 = .ok (.aload_n 0, 1) := by decide +kernel
theorem d_Bench_isomorphic_5 : decode b_Bench_isomorphic 5 = .ok (.iload_n 1, 1) := by decide +kernel
theorem d_Bench_isomorphic_6 : decode b_Bench_isomorphic 6 = .ok (.invokevirtual 80, 3) := by decide +kernel
theorem d_Bench_isomorphic_9 : decode b_Bench_isomorphic 9 = .ok (.aload_n 0, 1) := by decide +kernel
theorem d_Bench_isomorphic_10 : decode b_Bench_isomorphic 10 = .ok (.iload_n 2, 1) := by decide +kernel
theorem d_Bench_isomorphic_11 : decode b_Bench_isomorphic 11 = .ok (.invokevirtual 80, 3) := by decide +kernel
theorem d_Bench_isomorphic_14 : decode b_Bench_isomorphic 14 = .ok (.invokevirtual 232, 3) := by decide +kernel
theorem d_Bench_isomorphic_17 : decode b_Bench_isomorphic 17 = .ok (.ireturn, 1) := by decide +kernel
theorem d_Bench_image_0 : decode b_Bench_image 0 = .ok (.aload_n 0, 1) := by decide +kernel
theorem d_Bench_image_1 : decode b_Bench_image 1 = .ok (.iload_n 1, 1) := by decide +kernel
theorem d_Bench_image_2 : decode b_Bench_image 2 = .ok (.invokevirtual 80, 3) := by decide +kernel
theorem d_Bench_image_5 : decode b_Bench_image 5 = .ok (.astore 4, 2) := by decide +kernel
theorem d_Bench_image_7 : decode b_Bench_image 7 = .ok (.aload_n 0, 1) := by decide +kernel
theorem d_Bench_image_8 : decode b_Bench_image 8 = .ok (.iload_n 2, 1) := by decide +kernel
theorem d_Bench_image_9 : decode b_Bench_image 9 = .ok (.invokevirtual 80, 3) := by decide +kernel
theorem d_Bench_image_12 : decode b_Bench_image 12 = .ok (.astore 5, 2) := by decide +kernel
theorem d_Bench_image_14 : decode b_Bench_image 14 = .ok (.aload 4, 2) := by decide +kernel
theorem d_Bench_image_16 : decode b_Bench_image 16 = .ok (.iload_n 3, 1) := by decide +kernel
theorem d_Bench_image_17 : decode b_Bench_image 17 = .ok (.invokestatic 100, 3) := by decide +kernel
theorem d_Bench_image_20 : decode b_Bench_image 20 = .ok (.aload_n 0, 1) := by decide +kernel
theorem d_Bench_image_21 : decode b_Bench_image 21 = .ok (.getfield 58, 3) := by decide +kernel
theorem d_Bench_image_24 : decode b_Bench_image 24 = .ok (.aload 4, 2) := by decide +kernel
theorem d_Bench_image_26 : decode b_Bench_image 26 = .ok (.aload 5, 2) := by decide +kernel
theorem d_Bench_image_28 : decode b_Bench_image 28 = .ok (.iload_n 3, 1) := by decide +kernel
theorem d_Bench_image_29 : decode b_Bench_image 29 = .ok (.invokevirtual 236, 3) := by decide +kernel
theorem d_Bench_image_32 : decode b_Bench_image 32 = .ok (.ireturn, 1) := by decide +kernel
theorem d_Bench_compare_0 : decode b_Bench_compare 0 = .ok (.aload_n 0, 1) := by decide +kernel
theorem d_Bench_compare_1 : decode b_Bench_compare 1 = .ok (.iload_n 1, 1) := by decide +kernel
theorem d_Bench_compare_2 : decode b_Bench_compare 2 = .ok (.invokevirtual 80, 3) := by decide +kernel
theorem d_Bench_compare_5 : decode b_Bench_compare 5 = .ok (.astore_n 3, 1) := by decide +kernel
theorem d_Bench_compare_6 : decode b_Bench_compare 6 = .ok (.aload_n 0, 1) := by decide +kernel
theorem d_Bench_compare_7 : decode b_Bench_compare 7 = .ok (.iload_n 2, 1) := by decide +kernel
theorem d_Bench_compare_8 : decode b_Bench_compare 8 = .ok (.invokevirtual 80, 3) := by decide +kernel
theorem d_Bench_compare_11 : decode b_Bench_compare 11 = .ok (.astore 4, 2) := by decide +kernel
theorem d_Bench_compare_13 : decode b_Bench_compare 13 = .ok (.aload_n 0, 1) := by decide +kernel
theorem d_Bench_compare_14 : decode b_Bench_compare 14 = .ok (.getfield 58, 3) := by decide +kernel
theorem d_Bench_compare_17 : decode b_Bench_compare 17 = .ok (.aload_n 3, 1) := by decide +kernel
theorem d_Bench_compare_18 : decode b_Bench_compare 18 = .ok (.aload 4, 2) := by decide +kernel
theorem d_Bench_compare_20 : decode b_Bench_compare 20 = .ok (.invokevirtual 240, 3) := by decide +kernel
theorem d_Bench_compare_23 : decode b_Bench_compare 23 = .ok (.ifCond .eq 7, 3) := by decide +kernel
theorem d_Bench_compare_26 : decode b_Bench_compare 26 = .ok (.iconst 1, 1) := by decide +kernel
theorem d_Bench_compare_27 : decode b_Bench_compare 27 = .ok (.goto 4, 3) := by decide +kernel
theorem d_Bench_compare_30 : decode b_Bench_compare 30 = .ok (.iconst 0, 1) := by decide +kernel
theorem d_Bench_compare_31 : decode b_Bench_compare 31 = .ok (.aload_n 0, 1) := by decide +kernel
theorem d_Bench_compare_32 : decode b_Bench_compare 32 = .ok (.getfield 58, 3) := by decide +kernel
theorem d_Bench_compare_35 : decode b_Bench_compare 35 = .ok (.aload 4, 2) := by decide +kernel
theorem d_Bench_compare_37 : decode b_Bench_compare 37 = .ok (.aload_n 3, 1) := by decide +kernel
theorem d_Bench_compare_38 : decode b_Bench_compare 38 = .ok (.invokevirtual 240, 3) := by decide +kernel
theorem d_Bench_compare_41 : decode b_Bench_compare 41 = .ok (.ifCond .eq 7, 3) := by decide +kernel
theorem d_Bench_compare_44 : decode b_Bench_compare 44 = .ok (.iconst 2, 1) := by decide +kernel
theorem d_Bench_compare_45 : decode b_Bench_compare 45 = .ok (.goto 4, 3) := by decide +kernel
theorem d_Bench_compare_48 : decode b_Bench_compare 48 = .ok (.iconst 0, 1) := by decide +kernel
theorem d_Bench_compare_49 : decode b_Bench_compare 49 = .ok (.iadd, 1) := by decide +kernel
theorem d_Bench_compare_50 : decode b_Bench_compare 50 = .ok (.ireturn, 1) := by decide +kernel
theorem d_Bench_colorings_0 : decode b_Bench_colorings 0 = .ok (.aload_n 0, 1) := by decide +kernel
theorem d_Bench_colorings_1 : decode b_Bench_colorings 1 = .ok (.iload_n 1, 1) := by decide +kernel
theorem d_Bench_colorings_2 : decode b_Bench_colorings 2 = .ok (.invokevirtual 80, 3) := by decide +kernel
theorem d_Bench_colorings_5 : decode b_Bench_colorings 5 = .ok (.astore_n 3, 1) := by decide +kernel
theorem d_Bench_colorings_6 : decode b_Bench_colorings 6 = .ok (.iload_n 2, 1) := by decide +kernel
theorem d_Bench_colorings_7 : decode b_Bench_colorings 7 = .ok (.iconst 0, 1) := by decide +kernel
theorem d_Bench_colorings_8 : decode b_Bench_colorings 8 = .ok (.bipush 20, 2) := by decide +kernel
theorem d_Bench_colorings_10 : decode b_Bench_colorings 10 = .ok (.invokestatic 84, 3) := by decide +kernel
theorem d_Bench_colorings_13 : decode b_Bench_colorings 13 = .ok (.aload_n 0, 1) := by decide +kernel
theorem d_Bench_colorings_14 : decode b_Bench_colorings 14 = .ok (.aload_n 3, 1) := by decide +kernel
theorem d_Bench_colorings_15 : decode b_Bench_colorings 15 = .ok (.iload_n 2, 1) := by decide +kernel
theorem d_Bench_colorings_16 : decode b_Bench_colorings 16 = .ok (.invokevirtual 243, 3) := by decide +kernel
theorem d_Bench_colorings_19 : decode b_Bench_colorings 19 = .ok (.lreturn, 1) := by decide +kernel
theorem d_Bench_chromatic_0 : decode b_Bench_chromatic 0 = .ok (.aload_n 0, 1) := by decide +kernel
theorem d_Bench_chromatic_1 : decode b_Bench_chromatic 1 = .ok (.iload_n 1, 1) := by decide +kernel
theorem d_Bench_chromatic_2 : decode b_Bench_chromatic 2 = .ok (.invokevirtual 80, 3) := by decide +kernel
theorem d_Bench_chromatic_5 : decode b_Bench_chromatic 5 = .ok (.astore_n 2, 1) := by decide +kernel
theorem d_Bench_chromatic_6 : decode b_Bench_chromatic 6 = .ok (.iconst 0, 1) := by decide +kernel
theorem d_Bench_chromatic_7 : decode b_Bench_chromatic 7 = .ok (.istore_n 3, 1) := by decide +kernel
theorem d_Bench_chromatic_8 : decode b_Bench_chromatic 8 = .ok (.iload_n 3, 1) := by decide +kernel
theorem d_Bench_chromatic_9 : decode b_Bench_chromatic 9 = .ok (.aload_n 2, 1) := by decide +kernel
theorem d_Bench_chromatic_10 : decode b_Bench_chromatic 10 = .ok (.getfield 92, 3) := by decide +kernel
theorem d_Bench_chromatic_13 : decode b_Bench_chromatic 13 = .ok (.if_icmp .gt 22, 3) := by decide +kernel
theorem d_Bench_chromatic_16 : decode b_Bench_chromatic 16 = .ok (.aload_n 0, 1) := by decide +kernel
theorem d_Bench_chromatic_17 : decode b_Bench_chromatic 17 = .ok (.aload_n 2, 1) := by decide +kernel
theorem d_Bench_chromatic_18 : decode b_Bench_chromatic 18 = .ok (.iload_n 3, 1) := by decide +kernel
theorem d_Bench_chromatic_19 : decode b_Bench_chromatic 19 = .ok (.invokevirtual 243, 3) := by decide +kernel
theorem d_Bench_chromatic_22 : decode b_Bench_chromatic 22 = .ok (.lconst 0, 1) := by decide +kernel
theorem d_Bench_chromatic_23 : decode b_Bench_chromatic 23 = .ok (.lcmp, 1) := by decide +kernel
theorem d_Bench_chromatic_24 : decode b_Bench_chromatic 24 = .ok (.ifCond .le 5, 3) := by decide +kernel
theorem d_Bench_chromatic_27 : decode b_Bench_chromatic 27 = .ok (.iload_n 3, 1) := by decide +kernel
theorem d_Bench_chromatic_28 : decode b_Bench_chromatic 28 = .ok (.ireturn, 1) := by decide +kernel
theorem d_Bench_chromatic_29 : decode b_Bench_chromatic 29 = .ok (.iinc 3 1, 3) := by decide +kernel
theorem d_Bench_chromatic_32 : decode b_Bench_chromatic 32 = .ok (.goto (-24), 3) := by decide +kernel
theorem d_Bench_chromatic_35 : decode b_Bench_chromatic 35 = .ok (.iconst (-1), 1) := by decide +kernel
theorem d_Bench_chromatic_36 : decode b_Bench_chromatic 36 = .ok (.ireturn, 1) := by decide +kernel
theorem d_Bench_independent_0 : decode b_Bench_independent 0 = .ok (.aload_n 0, 1) := by decide +kernel
theorem d_Bench_independent_1 : decode b_Bench_independent 1 = .ok (.iload_n 1, 1) := by decide +kernel
theorem d_Bench_independent_2 : decode b_Bench_independent 2 = .ok (.invokevirtual 80, 3) := by decide +kernel
theorem d_Bench_independent_5 : decode b_Bench_independent 5 = .ok (.astore_n 3, 1) := by decide +kernel
theorem d_Bench_independent_6 : decode b_Bench_independent 6 = .ok (.iload_n 2, 1) := by decide +kernel
theorem d_Bench_independent_7 : decode b_Bench_independent 7 = .ok (.iconst (-1), 1) := by decide +kernel
theorem d_Bench_independent_8 : decode b_Bench_independent 8 = .ok (.bipush 8, 2) := by decide +kernel
theorem d_Bench_independent_10 : decode b_Bench_independent 10 = .ok (.invokestatic 84, 3) := by decide +kernel
theorem d_Bench_independent_13 : decode b_Bench_independent 13 = .ok (.iconst 0, 1) := by decide +kernel
theorem d_Bench_independent_14 : decode b_Bench_independent 14 = .ok (.istore 4, 2) := by decide +kernel
theorem d_Bench_independent_16 : decode b_Bench_independent 16 = .ok (.iconst 0, 1) := by decide +kernel
theorem d_Bench_independent_17 : decode b_Bench_independent 17 = .ok (.istore 5, 2) := by decide +kernel
theorem d_Bench_independent_19 : decode b_Bench_independent 19 = .ok (.iload 5, 2) := by decide +kernel
theorem d_Bench_independent_21 : decode b_Bench_independent 21 = .ok (.aload_n 3, 1) := by decide +kernel
theorem d_Bench_independent_22 : decode b_Bench_independent 22 = .ok (.invokevirtual 136, 3) := by decide +kernel
theorem d_Bench_independent_25 : decode b_Bench_independent 25 = .ok (.if_icmp .gt 38, 3) := by decide +kernel
theorem d_Bench_independent_28 : decode b_Bench_independent 28 = .ok (.iload_n 2, 1) := by decide +kernel
theorem d_Bench_independent_29 : decode b_Bench_independent 29 = .ok (.iconst (-1), 1) := by decide +kernel
theorem d_Bench_independent_30 : decode b_Bench_independent 30 = .ok (.if_icmp .eq 12, 3) := by decide +kernel
theorem d_Bench_independent_33 : decode b_Bench_independent 33 = .ok (.iload 5, 2) := by decide +kernel
theorem d_Bench_independent_35 : decode b_Bench_independent 35 = .ok (.invokestatic 167, 3) := by decide +kernel
theorem d_Bench_independent_38 : decode b_Bench_independent 38 = .ok (.iload_n 2, 1) := by decide +kernel
theorem d_Bench_independent_39 : decode b_Bench_independent 39 = .ok (.if_icmp .ne 18, 3) := by decide +kernel
theorem d_Bench_independent_42 : decode b_Bench_independent 42 = .ok (.aload_n 3, 1) := by decide +kernel
theorem d_Bench_independent_43 : decode b_Bench_independent 43 = .ok (.iload 5, 2) := by decide +kernel
theorem d_Bench_independent_45 : decode b_Bench_independent 45 = .ok (.invokevirtual 247, 3) := by decide +kernel
theorem d_Bench_independent_48 : decode b_Bench_independent 48 = .ok (.iload 5, 2) := by decide +kernel
theorem d_Bench_independent_50 : decode b_Bench_independent 50 = .ok (.iand, 1) := by decide +kernel
theorem d_Bench_independent_51 : decode b_Bench_independent 51 = .ok (.ifCond .ne 6, 3) := by decide +kernel
theorem d_Bench_independent_54 : decode b_Bench_independent 54 = .ok (.iinc 4 1, 3) := by decide +kernel
theorem d_Bench_independent_57 : decode b_Bench_independent 57 = .ok (.iinc 5 1, 3) := by decide +kernel
theorem d_Bench_independent_60 : decode b_Bench_independent 60 = .ok (.goto (-41), 3) := by decide +kernel
theorem d_Bench_independent_63 : decode b_Bench_independent 63 = .ok (.iload 4, 2) := by decide +kernel
theorem d_Bench_independent_65 : decode b_Bench_independent 65 = .ok (.ireturn, 1) := by decide +kernel
theorem d_Bench_walks_0 : decode b_Bench_walks 0 = .ok (.aload_n 0, 1) := by decide +kernel
theorem d_Bench_walks_1 : decode b_Bench_walks 1 = .ok (.iload_n 1, 1) := by decide +kernel
theorem d_Bench_walks_2 : decode b_Bench_walks 2 = .ok (.invokevirtual 80, 3) := by decide +kernel
theorem d_Bench_walks_5 : decode b_Bench_walks 5 = .ok (.astore 4, 2) := by decide +kernel
theorem d_Bench_walks_7 : decode b_Bench_walks 7 = .ok (.iload_n 2, 1) := by decide +kernel
theorem d_Bench_walks_8 : decode b_Bench_walks 8 = .ok (.iconst 0, 1) := by decide +kernel
theorem d_Bench_walks_9 : decode b_Bench_walks 9 = .ok (.bipush 12, 2) := by decide +kernel
theorem d_Bench_walks_11 : decode b_Bench_walks 11 = .ok (.invokestatic 84, 3) := by decide +kernel
theorem d_Bench_walks_14 : decode b_Bench_walks 14 = .ok (.lconst 0, 1) := by decide +kernel
theorem d_Bench_walks_15 : decode b_Bench_walks 15 = .ok (.lstore 5, 2) := by decide +kernel
theorem d_Bench_walks_17 : decode b_Bench_walks 17 = .ok (.iconst 0, 1) := by decide +kernel
theorem d_Bench_walks_18 : decode b_Bench_walks 18 = .ok (.istore 7, 2) := by decide +kernel
theorem d_Bench_walks_20 : decode b_Bench_walks 20 = .ok (.iload 7, 2) := by decide +kernel
theorem d_Bench_walks_22 : decode b_Bench_walks 22 = .ok (.aload 4, 2) := by decide +kernel
theorem d_Bench_walks_24 : decode b_Bench_walks 24 = .ok (.getfield 92, 3) := by decide +kernel
theorem d_Bench_walks_27 : decode b_Bench_walks 27 = .ok (.if_icmp .ge 27, 3) := by decide +kernel
theorem d_Bench_walks_30 : decode b_Bench_walks 30 = .ok (.lload 5, 2) := by decide +kernel
theorem d_Bench_walks_32 : decode b_Bench_walks 32 = .ok (.aload_n 0, 1) := by decide +kernel
theorem d_Bench_walks_33 : decode b_Bench_walks 33 = .ok (.getfield 76, 3) := by decide +kernel
theorem d_Bench_walks_36 : decode b_Bench_walks 36 = .ok (.aload 4, 2) := by decide +kernel
theorem d_Bench_walks_38 : decode b_Bench_walks 38 = .ok (.iload 7, 2) := by decide +kernel
theorem d_Bench_walks_40 : decode b_Bench_walks 40 = .ok (.iload_n 2, 1) := by decide +kernel
theorem d_Bench_walks_41 : decode b_Bench_walks 41 = .ok (.iload_n 3, 1) := by decide +kernel
theorem d_Bench_walks_42 : decode b_Bench_walks 42 = .ok (.invokevirtual 250, 3) := by decide +kernel
theorem d_Bench_walks_45 : decode b_Bench_walks 45 = .ok (.ladd, 1) := by decide +kernel
theorem d_Bench_walks_46 : decode b_Bench_walks 46 = .ok (.lstore 5, 2) := by decide +kernel
theorem d_Bench_walks_48 : decode b_Bench_walks 48 = .ok (.iinc 7 1, 3) := by decide +kernel
theorem d_Bench_walks_51 : decode b_Bench_walks 51 = .ok (.goto (-31), 3) := by decide +kernel
theorem d_Bench_walks_54 : decode b_Bench_walks 54 = .ok (.lload 5, 2) := by decide +kernel
theorem d_Bench_walks_56 : decode b_Bench_walks 56 = .ok (.lreturn, 1) := by decide +kernel
theorem d_Bench_folds_0 : decode b_Bench_folds 0 = .ok (.aload_n 0, 1) := by decide +kernel
theorem d_Bench_folds_1 : decode b_Bench_folds 1 = .ok (.iload_n 1, 1) := by decide +kernel
theorem d_Bench_folds_2 : decode b_Bench_folds 2 = .ok (.invokevirtual 80, 3) := by decide +kernel
theorem d_Bench_folds_5 : decode b_Bench_folds 5 = .ok (.astore_n 3, 1) := by decide +kernel
theorem d_Bench_folds_6 : decode b_Bench_folds 6 = .ok (.aload_n 3, 1) := by decide +kernel
theorem d_Bench_folds_7 : decode b_Bench_folds 7 = .ok (.iload_n 2, 1) := by decide +kernel
theorem d_Bench_folds_8 : decode b_Bench_folds 8 = .ok (.invokestatic 100, 3) := by decide +kernel
theorem d_Bench_folds_11 : decode b_Bench_folds 11 = .ok (.aload_n 3, 1) := by decide +kernel
theorem d_Bench_folds_12 : decode b_Bench_folds 12 = .ok (.iload_n 2, 1) := by decide +kernel
theorem d_Bench_folds_13 : decode b_Bench_folds 13 = .ok (.aload_n 3, 1) := by decide +kernel
theorem d_Bench_folds_14 : decode b_Bench_folds 14 = .ok (.invokevirtual 136, 3) := by decide +kernel
theorem d_Bench_folds_17 : decode b_Bench_folds 17 = .ok (.invokevirtual 254, 3) := by decide +kernel
theorem d_Bench_folds_20 : decode b_Bench_folds 20 = .ok (.ireturn, 1) := by decide +kernel
theorem d_Bench_dismantle_0 : decode b_Bench_dismantle 0 = .ok (.aload_n 0, 1) := by decide +kernel
theorem d_Bench_dismantle_1 : decode b_Bench_dismantle 1 = .ok (.iload_n 1, 1) := by decide +kernel
theorem d_Bench_dismantle_2 : decode b_Bench_dismantle 2 = .ok (.invokevirtual 80, 3) := by decide +kernel
theorem d_Bench_dismantle_5 : decode b_Bench_dismantle 5 = .ok (.astore_n 2, 1) := by decide +kernel
theorem d_Bench_dismantle_6 : decode b_Bench_dismantle 6 = .ok (.aload_n 0, 1) := by decide +kernel
theorem d_Bench_dismantle_7 : decode b_Bench_dismantle 7 = .ok (.getfield 23, 3) := by decide +kernel
theorem d_Bench_dismantle_10 : decode b_Bench_dismantle 10 = .ok (.aload_n 0, 1) := by decide +kernel
theorem d_Bench_dismantle_11 : decode b_Bench_dismantle 11 = .ok (.getfield 11, 3) := by decide +kernel
theorem d_Bench_dismantle_14 : decode b_Bench_dismantle 14 = .ok (.invokevirtual 88, 3) := by decide +kernel
theorem d_Bench_dismantle_17 : decode b_Bench_dismantle 17 = .ok (.aload_n 2, 1) := by decide +kernel
theorem d_Bench_dismantle_18 : decode b_Bench_dismantle 18 = .ok (.getfield 92, 3) := by decide +kernel
theorem d_Bench_dismantle_21 : decode b_Bench_dismantle 21 = .ok (.istore_n 3, 1) := by decide +kernel
theorem d_Bench_dismantle_22 : decode b_Bench_dismantle 22 = .ok (.aload_n 0, 1) := by decide +kernel
theorem d_Bench_dismantle_23 : decode b_Bench_dismantle 23 = .ok (.getfield 16, 3) := by decide +kernel
theorem d_Bench_dismantle_26 : decode b_Bench_dismantle 26 = .ok (.aload_n 2, 1) := by decide +kernel
theorem d_Bench_dismantle_27 : decode b_Bench_dismantle 27 = .ok (.aload_n 2, 1) := by decide +kernel
theorem d_Bench_dismantle_28 : decode b_Bench_dismantle 28 = .ok (.invokevirtual 257, 3) := by decide +kernel
theorem d_Bench_dismantle_31 : decode b_Bench_dismantle 31 = .ok (.invokevirtual 154, 3) := by decide +kernel
theorem d_Bench_dismantle_34 : decode b_Bench_dismantle 34 = .ok (.aload_n 2, 1) := by decide +kernel
theorem d_Bench_dismantle_35 : decode b_Bench_dismantle 35 = .ok (.aload_n 0, 1) := by decide +kernel
theorem d_Bench_dismantle_36 : decode b_Bench_dismantle 36 = .ok (.getfield 16, 3) := by decide +kernel
theorem d_Bench_dismantle_39 : decode b_Bench_dismantle 39 = .ok (.invokevirtual 147, 3) := by decide +kernel
theorem d_Bench_dismantle_42 : decode b_Bench_dismantle 42 = .ok (.iload_n 3, 1) := by decide +kernel
theorem d_Bench_dismantle_43 : decode b_Bench_dismantle 43 = .ok (.aload_n 2, 1) := by decide +kernel
theorem d_Bench_dismantle_44 : decode b_Bench_dismantle 44 = .ok (.getfield 92, 3) := by decide +kernel
theorem d_Bench_dismantle_47 : decode b_Bench_dismantle 47 = .ok (.isub, 1) := by decide +kernel
theorem d_Bench_dismantle_48 : decode b_Bench_dismantle 48 = .ok (.ireturn, 1) := by decide +kernel
theorem d_Bench_isCore_0 : decode b_Bench_isCore 0 = .ok (.aload_n 0, 1) := by decide +kernel
theorem d_Bench_isCore_1 : decode b_Bench_isCore 1 = .ok (.iload_n 1, 1) := by decide +kernel
theorem d_Bench_isCore_2 : decode b_Bench_isCore 2 = .ok (.invokevirtual 80, 3) := by decide +kernel
theorem d_Bench_isCore_5 : decode b_Bench_isCore 5 = .ok (.astore_n 2, 1) := by decide +kernel
theorem d_Bench_isCore_6 : decode b_Bench_isCore 6 = .ok (.aload_n 0, 1) := by decide +kernel
theorem d_Bench_isCore_7 : decode b_Bench_isCore 7 = .ok (.getfield 58, 3) := by decide +kernel
theorem d_Bench_isCore_10 : decode b_Bench_isCore 10 = .ok (.aload_n 2, 1) := by decide +kernel
theorem d_Bench_isCore_11 : decode b_Bench_isCore 11 = .ok (.invokevirtual 157, 3) := by decide +kernel
theorem d_Bench_isCore_14 : decode b_Bench_isCore 14 = .ok (.aload_n 2, 1) := by decide +kernel
theorem d_Bench_isCore_15 : decode b_Bench_isCore 15 = .ok (.invokevirtual 136, 3) := by decide +kernel
theorem d_Bench_isCore_18 : decode b_Bench_isCore 18 = .ok (.if_icmp .ne 7, 3) := by decide +kernel
theorem d_Bench_isCore_21 : decode b_Bench_isCore 21 = .ok (.iconst 1, 1) := by decide +kernel
theorem d_Bench_isCore_22 : decode b_Bench_isCore 22 = .ok (.goto 4, 3) := by decide +kernel
theorem d_Bench_isCore_25 : decode b_Bench_isCore 25 = .ok (.iconst 0, 1) := by decide +kernel
theorem d_Bench_isCore_26 : decode b_Bench_isCore 26 = .ok (.ireturn, 1) := by decide +kernel
theorem d_Bench_coreSize_0 : decode b_Bench_coreSize 0 = .ok (.aload_n 0, 1) := by decide +kernel
theorem d_Bench_coreSize_1 : decode b_Bench_coreSize 1 = .ok (.getfield 58, 3) := by decide +kernel
theorem d_Bench_coreSize_4 : decode b_Bench_coreSize 4 = .ok (.aload_n 0, 1) := by decide +kernel
theorem d_Bench_coreSize_5 : decode b_Bench_coreSize 5 = .ok (.iload_n 1, 1) := by decide +kernel
theorem d_Bench_coreSize_6 : decode b_Bench_coreSize 6 = .ok (.invokevirtual 80, 3) := by decide +kernel
theorem d_Bench_coreSize_9 : decode b_Bench_coreSize 9 = .ok (.invokevirtual 157, 3) := by decide +kernel
theorem d_Bench_coreSize_12 : decode b_Bench_coreSize 12 = .ok (.invokestatic 167, 3) := by decide +kernel
theorem d_Bench_coreSize_15 : decode b_Bench_coreSize 15 = .ok (.ireturn, 1) := by decide +kernel
theorem d_Bench_append_0 : decode b_Bench_append 0 = .ok (.iload_n 1, 1) := by decide +kernel
theorem d_Bench_append_1 : decode b_Bench_append 1 = .ok (.iconst 0, 1) := by decide +kernel
theorem d_Bench_append_2 : decode b_Bench_append 2 = .ok (.bipush 127, 2) := by decide +kernel
theorem d_Bench_append_4 : decode b_Bench_append 4 = .ok (.invokestatic 84, 3) := by decide +kernel
theorem d_Bench_append_7 : decode b_Bench_append 7 = .ok (.aload_n 0, 1) := by decide +kernel
theorem d_Bench_append_8 : decode b_Bench_append 8 = .ok (.getfield 30, 3) := by decide +kernel
theorem d_Bench_append_11 : decode b_Bench_append 11 = .ok (.getfield 260, 3) := by decide +kernel
theorem d_Bench_append_14 : decode b_Bench_append 14 = .ok (.bipush 120, 2) := by decide +kernel
theorem d_Bench_append_16 : decode b_Bench_append 16 = .ok (.if_icmp .lt 14, 3) := by decide +kernel
theorem d_Bench_append_19 : decode b_Bench_append 19 = .ok (.new 129, 3) := by decide +kernel
theorem d_Bench_append_22 : decode b_Bench_append 22 = .ok (.dup, 1) := by decide +kernel
theorem d_Bench_append_23 : decode b_Bench_append 23 = .ok (.ldc_w 263, 3) := by decide +kernel
theorem d_Bench_append_26 : decode b_Bench_append 26 = .ok (.invokespecial 133, 3) := by decide +kernel
theorem d_Bench_append_29 : decode b_Bench_append 29 = .ok (.athrow, 1) := by decide +kernel
theorem d_Bench_append_30 : decode b_Bench_append 30 = .ok (.aload_n 0, 1) := by decide +kernel
theorem d_Bench_append_31 : decode b_Bench_append 31 = .ok (.getfield 30, 3) := by decide +kernel
theorem d_Bench_append_34 : decode b_Bench_append 34 = .ok (.getfield 265, 3) := by decide +kernel
theorem d_Bench_append_37 : decode b_Bench_append 37 = .ok (.aload_n 0, 1) := by decide +kernel
theorem d_Bench_append_38 : decode b_Bench_append 38 = .ok (.getfield 30, 3) := by decide +kernel
theorem d_Bench_append_41 : decode b_Bench_append 41 = .ok (.getfield 260, 3) := by decide +kernel
theorem d_Bench_append_44 : decode b_Bench_append 44 = .ok (.iload_n 1, 1) := by decide +kernel
theorem d_Bench_append_45 : decode b_Bench_append 45 = .ok (.i2b, 1) := by decide +kernel
theorem d_Bench_append_46 : decode b_Bench_append 46 = .ok (.bastore, 1) := by decide +kernel
theorem d_Bench_append_47 : decode b_Bench_append 47 = .ok (.aload_n 0, 1) := by decide +kernel
theorem d_Bench_append_48 : decode b_Bench_append 48 = .ok (.getfield 30, 3) := by decide +kernel
theorem d_Bench_append_51 : decode b_Bench_append 51 = .ok (.dup, 1) := by decide +kernel
theorem d_Bench_append_52 : decode b_Bench_append 52 = .ok (.getfield 260, 3) := by decide +kernel
theorem d_Bench_append_55 : decode b_Bench_append 55 = .ok (.iconst 1, 1) := by decide +kernel
theorem d_Bench_append_56 : decode b_Bench_append 56 = .ok (.iadd, 1) := by decide +kernel
theorem d_Bench_append_57 : decode b_Bench_append 57 = .ok (.putfield 260, 3) := by decide +kernel
theorem d_Bench_append_60 : decode b_Bench_append 60 = .ok (.aload_n 0, 1) := by decide +kernel
theorem d_Bench_append_61 : decode b_Bench_append 61 = .ok (.getfield 30, 3) := by decide +kernel
theorem d_Bench_append_64 : decode b_Bench_append 64 = .ok (.getfield 260, 3) := by decide +kernel
theorem d_Bench_append_67 : decode b_Bench_append 67 = .ok (.ireturn, 1) := by decide +kernel
theorem d_Bench_parse_0 : decode b_Bench_parse 0 = .ok (.aload_n 0, 1) := by decide +kernel
theorem d_Bench_parse_1 : decode b_Bench_parse 1 = .ok (.iload_n 1, 1) := by decide +kernel
theorem d_Bench_parse_2 : decode b_Bench_parse 2 = .ok (.invokevirtual 80, 3) := by decide +kernel
theorem d_Bench_parse_5 : decode b_Bench_parse 5 = .ok (.astore_n 2, 1) := by decide +kernel
theorem d_Bench_parse_6 : decode b_Bench_parse 6 = .ok (.aload_n 0, 1) := by decide +kernel
theorem d_Bench_parse_7 : decode b_Bench_parse 7 = .ok (.getfield 30, 3) := by decide +kernel
theorem d_Bench_parse_10 : decode b_Bench_parse 10 = .ok (.aload_n 0, 1) := by decide +kernel
theorem d_Bench_parse_11 : decode b_Bench_parse 11 = .ok (.getfield 16, 3) := by decide +kernel
theorem d_Bench_parse_14 : decode b_Bench_parse 14 = .ok (.invokevirtual 269, 3) := by decide +kernel
theorem d_Bench_parse_17 : decode b_Bench_parse 17 = .ok (.istore_n 3, 1) := by decide +kernel
theorem d_Bench_parse_18 : decode b_Bench_parse 18 = .ok (.iload_n 3, 1) := by decide +kernel
theorem d_Bench_parse_19 : decode b_Bench_parse 19 = .ok (.iconst (-1), 1) := by decide +kernel
theorem d_Bench_parse_20 : decode b_Bench_parse 20 = .ok (.if_icmp .ne 14, 3) := by decide +kernel
theorem d_Bench_parse_23 : decode b_Bench_parse 23 = .ok (.bipush (-10), 2) := by decide +kernel
theorem d_Bench_parse_25 : decode b_Bench_parse 25 = .ok (.aload_n 0, 1) := by decide +kernel
theorem d_Bench_parse_26 : decode b_Bench_parse 26 = .ok (.getfield 30, 3) := by decide +kernel
theorem d_Bench_parse_29 : decode b_Bench_parse 29 = .ok (.getfield 272, 3) := by decide +kernel
theorem d_Bench_parse_32 : decode b_Bench_parse 32 = .ok (.isub, 1) := by decide +kernel
theorem d_Bench_parse_33 : decode b_Bench_parse 33 = .ok (.ireturn, 1) := by decide +kernel
theorem d_Bench_parse_34 : decode b_Bench_parse 34 = .ok (.aload_n 0, 1) := by decide +kernel
theorem d_Bench_parse_35 : decode b_Bench_parse 35 = .ok (.getfield 23, 3) := by decide +kernel
theorem d_Bench_parse_38 : decode b_Bench_parse 38 = .ok (.aload_n 0, 1) := by decide +kernel
theorem d_Bench_parse_39 : decode b_Bench_parse 39 = .ok (.getfield 11, 3) := by decide +kernel
theorem d_Bench_parse_42 : decode b_Bench_parse 42 = .ok (.invokevirtual 88, 3) := by decide +kernel
theorem d_Bench_parse_45 : decode b_Bench_parse 45 = .ok (.aload_n 2, 1) := by decide +kernel
theorem d_Bench_parse_46 : decode b_Bench_parse 46 = .ok (.aload_n 0, 1) := by decide +kernel
theorem d_Bench_parse_47 : decode b_Bench_parse 47 = .ok (.getfield 16, 3) := by decide +kernel
theorem d_Bench_parse_50 : decode b_Bench_parse 50 = .ok (.invokevirtual 147, 3) := by decide +kernel
theorem d_Bench_parse_53 : decode b_Bench_parse 53 = .ok (.iload_n 3, 1) := by decide +kernel
theorem d_Bench_parse_54 : decode b_Bench_parse 54 = .ok (.ireturn, 1) := by decide +kernel
theorem d_Bench_written_0 : decode b_Bench_written 0 = .ok (.aload_n 0, 1) := by decide +kernel
theorem d_Bench_written_1 : decode b_Bench_written 1 = .ok (.iload_n 1, 1) := by decide +kernel
theorem d_Bench_written_2 : decode b_Bench_written 2 = .ok (.invokevirtual 80, 3) := by decide +kernel
theorem d_Bench_written_5 : decode b_Bench_written 5 = .ok (.astore_n 3, 1) := by decide +kernel
theorem d_Bench_written_6 : decode b_Bench_written 6 = .ok (.iload_n 2, 1) := by decide +kernel
theorem d_Bench_written_7 : decode b_Bench_written 7 = .ok (.ifCond .ge 14, 3) := by decide +kernel
theorem d_Bench_written_10 : decode b_Bench_written 10 = .ok (.new 186, 3) := by decide +kernel
theorem d_Bench_written_13 : decode b_Bench_written 13 = .ok (.dup, 1) := by decide +kernel
theorem d_Bench_written_14 : decode b_Bench_written 14 = .ok (.ldc_w 275, 3) := by decide +kernel
theorem d_Bench_written_17 : decode b_Bench_written 17 = .ok (.invokespecial 190, 3) := by decide +kernel
theorem d_Bench_written_20 : decode b_Bench_written 20 = .ok (.athrow, 1) := by decide +kernel
theorem d_Bench_written_21 : decode b_Bench_written 21 = .ok (.aload_n 0, 1) := by decide +kernel
theorem d_Bench_written_22 : decode b_Bench_written 22 = .ok (.getfield 37, 3) := by decide +kernel
theorem d_Bench_written_25 : decode b_Bench_written 25 = .ok (.aload_n 3, 1) := by decide +kernel
theorem d_Bench_written_26 : decode b_Bench_written 26 = .ok (.invokevirtual 277, 3) := by decide +kernel
theorem d_Bench_written_29 : decode b_Bench_written 29 = .ok (.iload_n 2, 1) := by decide +kernel
theorem d_Bench_written_30 : decode b_Bench_written 30 = .ok (.aload_n 0, 1) := by decide +kernel
theorem d_Bench_written_31 : decode b_Bench_written 31 = .ok (.getfield 37, 3) := by decide +kernel
theorem d_Bench_written_34 : decode b_Bench_written 34 = .ok (.getfield 280, 3) := by decide +kernel
theorem d_Bench_written_37 : decode b_Bench_written 37 = .ok (.if_icmp .ge 15, 3) := by decide +kernel
theorem d_Bench_written_40 : decode b_Bench_written 40 = .ok (.aload_n 0, 1) := by decide +kernel
theorem d_Bench_written_41 : decode b_Bench_written 41 = .ok (.getfield 37, 3) := by decide +kernel
theorem d_Bench_written_44 : decode b_Bench_written 44 = .ok (.getfield 281, 3) := by decide +kernel
theorem d_Bench_written_47 : decode b_Bench_written 47 = .ok (.iload_n 2, 1) := by decide +kernel
theorem d_Bench_written_48 : decode b_Bench_written 48 = .ok (.baload, 1) := by decide +kernel
theorem d_Bench_written_49 : decode b_Bench_written 49 = .ok (.goto 4, 3) := by decide +kernel
theorem d_Bench_written_52 : decode b_Bench_written 52 = .ok (.iconst (-1), 1) := by decide +kernel
theorem d_Bench_written_53 : decode b_Bench_written 53 = .ok (.ireturn, 1) := by decide +kernel
theorem d_Bench_undo_0 : decode b_Bench_undo 0 = .ok (.aload_n 0, 1) := by decide +kernel
theorem d_Bench_undo_1 : decode b_Bench_undo 1 = .ok (.getfield 23, 3) := by decide +kernel
theorem d_Bench_undo_4 : decode b_Bench_undo 4 = .ok (.getfield 282, 3) := by decide +kernel
theorem d_Bench_undo_7 : decode b_Bench_undo 7 = .ok (.ifCond .ne 14, 3) := by decide +kernel
theorem d_Bench_undo_10 : decode b_Bench_undo 10 = .ok (.new 129, 3) := by decide +kernel
theorem d_Bench_undo_13 : decode b_Bench_undo 13 = .ok (.dup, 1) := by decide +kernel
theorem d_Bench_undo_14 : decode b_Bench_undo 14 = .ok (.ldc_w 283, 3) := by decide +kernel
theorem d_Bench_undo_17 : decode b_Bench_undo 17 = .ok (.invokespecial 133, 3) := by decide +kernel
theorem d_Bench_undo_20 : decode b_Bench_undo 20 = .ok (.athrow, 1) := by decide +kernel
theorem d_Bench_undo_21 : decode b_Bench_undo 21 = .ok (.aload_n 0, 1) := by decide +kernel
theorem d_Bench_undo_22 : decode b_Bench_undo 22 = .ok (.getfield 23, 3) := by decide +kernel
theorem d_Bench_undo_25 : decode b_Bench_undo 25 = .ok (.aload_n 0, 1) := by decide +kernel
theorem d_Bench_undo_26 : decode b_Bench_undo 26 = .ok (.getfield 11, 3) := by decide +kernel
theorem d_Bench_undo_29 : decode b_Bench_undo 29 = .ok (.invokevirtual 285, 3) := by decide +kernel
theorem d_Bench_undo_32 : decode b_Bench_undo 32 = .ok (.aload_n 0, 1) := by decide +kernel
theorem d_Bench_undo_33 : decode b_Bench_undo 33 = .ok (.getfield 23, 3) := by decide +kernel
theorem d_Bench_undo_36 : decode b_Bench_undo 36 = .ok (.getfield 282, 3) := by decide +kernel
theorem d_Bench_undo_39 : decode b_Bench_undo 39 = .ok (.ireturn, 1) := by decide +kernel
def f_Bench_graphAt_J9    (μ : HMem) : Option ((Nat ⊕ Nat) × HMem) :=
some (.inr 1, μ)
def f_Bench_graphAt (v1 : Int32) (μ : HMem) : Option ((Nat ⊕ Nat) × HMem) :=
  if v1 < 0 then
    f_Bench_graphAt_J9 μ
  else
    if v1 < (4 : Int32) then
      h_chk v1 (h_len 85) (
      some (.inl (h_el 85 (Int32.toNatClampNeg (v1))), μ))
    else
      f_Bench_graphAt_J9 μ
def f_Bench_requireRange_J10    (μ : HMem) : Option ((Unit ⊕ Nat) × HMem) :=
some (.inr 2, μ)
def f_Bench_requireRange (v0 : Int32) (v1 : Int32) (v2 : Int32) (μ : HMem) : Option ((Unit ⊕ Nat) × HMem) :=
  if v0 < v1 then
    f_Bench_requireRange_J10 μ
  else
    if v0 ≤ v2 then
      some (.inl (), μ)
    else
      f_Bench_requireRange_J10 μ
def f_Bench_setSize (v1 : Int32) (v2 : Int32) (μ : HMem) : Option ((Int32 ⊕ Nat) × HMem) :=
  h_bdx (f_Bench_graphAt v1 μ) (fun r2 μ_2 =>
  h_bdx (f_Bench_requireRange v2 0 8 μ_2) (fun _ μ_10 =>
  h_bd (f_History_save  μ_10) (fun _ μ_21 =>
  h_let (μ_21.1 r2 0) (fun v4_28 =>
  h_bd (f_Graph_reset r2 v2 μ_21) (fun _ μ_32 =>
  some (.inl v4_28, μ_32))))))
def f_Bench_requireVertex_J12    (μ : HMem) : Option ((Unit ⊕ Nat) × HMem) :=
some (.inr 1, μ)
def f_Bench_requireVertex (a0 : Nat) (v1 : Int32) (μ : HMem) : Option ((Unit ⊕ Nat) × HMem) :=
  if v1 < 0 then
    f_Bench_requireVertex_J12 μ
  else
    if v1 < (μ.1 a0 0) then
      some (.inl (), μ)
    else
      f_Bench_requireVertex_J12 μ
def f_Bench_setVertex (v1 : Int32) (v2 : Int32) (v3 : Int32) (μ : HMem) : Option ((Int32 ⊕ Nat) × HMem) :=
  h_bdx (f_Bench_graphAt v1 μ) (fun r2 μ_2 =>
  h_bdx (f_Bench_requireVertex r2 v2 μ_2) (fun _ μ_10 =>
  h_bdx (f_Bench_requireRange v3 (-3) 3 μ_10) (fun _ μ_17 =>
  h_bd (f_History_save  μ_17) (fun _ μ_28 =>
  h_chk v2 (h_len (r2 + 1)) (
  h_let (μ_28.1 (r2 + 1) (Int32.toNatClampNeg (v2))) (fun v5_38 =>
  h_chk v2 (h_len (r2 + 1)) (h_let (h_wi μ_28 (r2 + 1) (Int32.toNatClampNeg (v2)) v3) (fun μ_47 =>
  some (.inl v5_38, μ_47)))))))))
def f_Bench_setEdge (v1 : Int32) (v2 : Int32) (v3 : Int32) (v4 : Int32) (μ : HMem) : Option ((Int32 ⊕ Nat) × HMem) :=
  h_bdx (f_Bench_graphAt v1 μ) (fun r2 μ_2 =>
  h_bdx (f_Bench_requireVertex r2 v2 μ_2) (fun _ μ_10 =>
  h_bdx (f_Bench_requireVertex r2 v3 μ_10) (fun _ μ_16 =>
  h_bdx (f_Bench_requireRange v4 (-2) 2 μ_16) (fun _ μ_24 =>
  h_bd (f_History_save  μ_24) (fun _ μ_35 =>
  h_bd (f_Graph_between r2 v2 v3 μ_35) (fun r42 μ_42 =>
  h_bd (f_Graph_join r2 v2 v3 v4 μ_42) (fun _ μ_53 =>
  some (.inl r42, μ_53))))))))
def f_Bench_make (v1 : Int32) (v2 : Int32) (v3 : Int32) (μ : HMem) : Option ((Int32 ⊕ Nat) × HMem) :=
  h_bdx (f_Bench_graphAt v1 μ) (fun r2 μ_2 =>
  h_bdx (f_Bench_requireRange v2 0 4 μ_2) (fun _ μ_10 =>
  h_bdx (f_Bench_requireRange v3 0 8 μ_10) (fun _ μ_17 =>
  h_bd (f_History_save  μ_17) (fun _ μ_28 =>
  h_bd (f_Graph_reset r2 v3 μ_28) (fun _ μ_34 =>
  h_bd (f_Graph_joinFamily r2 v2 μ_34) (fun _ μ_40 =>
  h_bd (f_Graph_edgeCount r2 μ_40) (fun r45 μ_45 =>
  h_bd (f_Graph_loopCount r2 μ_45) (fun r50 μ_50 =>
  some (.inl (r45 + r50), μ_50)))))))))
def f_Bench_random (v1 : Int32) (v2 : Int32) (v3 : Int32) (v4 : Int32) (μ : HMem) : Option ((Int32 ⊕ Nat) × HMem) :=
  h_bdx (f_Bench_graphAt v1 μ) (fun r2 μ_2 =>
  h_bdx (f_Bench_requireRange v2 0 8 μ_2) (fun _ μ_11 =>
  h_bdx (f_Bench_requireRange v3 0 999999 μ_11) (fun _ μ_18 =>
  h_bdx (f_Bench_requireRange v4 0 100 μ_18) (fun _ μ_26 =>
  h_bd (f_History_save  μ_26) (fun _ μ_37 =>
  h_bd (f_Graph_reset r2 v2 μ_37) (fun _ μ_43 =>
  h_bd (f_Graph_joinRandomly r2 v3 v4 μ_43) (fun _ μ_51 =>
  h_bd (f_Graph_edgeCount r2 μ_51) (fun r56 μ_56 =>
  some (.inl r56, μ_56)))))))))
def f_Bench_combine_J161   (a5 : Nat) (μ : HMem) : Option ((Int32 ⊕ Nat) × HMem) :=
h_bd (f_Graph_copyFrom a5 16 μ) (fun _ μ_167 =>
some (.inl (μ_167.1 a5 0), μ_167))
def f_Bench_combine_J158   (a5 : Nat) (s0 : Int32) (b1 : Nat) (b2 : Nat) (μ : HMem) : Option ((Int32 ⊕ Nat) × HMem) :=
h_bd (f_Graph_multiply 16 b2 b1 s0 μ) (fun _ μ_158 =>
f_Bench_combine_J161 a5 μ_158)
def f_Bench_combine_J58   (v4 : Int32) (a5 : Nat) (a6 : Nat) (a7 : Nat) (s0 : Int32) (μ : HMem) : Option ((Int32 ⊕ Nat) × HMem) :=
if s0 ≤ (8 : Int32) then
  h_bd (f_History_save  μ) (fun _ μ_85 =>
  h_bd (f_Graph_reset 16 s0 μ_85) (fun _ μ_94 =>
  if ¬ v4 = 0 then
    if ¬ v4 = (2 : Int32) then
      f_Bench_combine_J158 a5 0 a7 a6 μ_94
    else
      f_Bench_combine_J158 a5 1 a7 a6 μ_94
  else
    h_bd (f_Graph_all a6 μ_94) (fun r110 μ_110 =>
    h_bd (f_Graph_place 16 a6 r110 0 μ_110) (fun _ μ_114 =>
    h_bd (f_Graph_all a7 μ_114) (fun r125 μ_125 =>
    h_bd (f_Graph_place 16 a7 r125 (μ_125.1 a6 0) μ_125) (fun _ μ_133 =>
    f_Bench_combine_J161 a5 μ_133))))))
else
  some (.inr 3, μ)
def f_Bench_combine (v1 : Int32) (v2 : Int32) (v3 : Int32) (v4 : Int32) (μ : HMem) : Option ((Int32 ⊕ Nat) × HMem) :=
  h_bdx (f_Bench_graphAt v1 μ) (fun r2 μ_2 =>
  h_bdx (f_Bench_graphAt v2 μ_2) (fun r9 μ_9 =>
  h_bdx (f_Bench_graphAt v3 μ_9) (fun r16 μ_16 =>
  h_bdx (f_Bench_requireRange v4 0 2 μ_16) (fun _ μ_25 =>
  if ¬ v4 = 0 then
    f_Bench_combine_J58 v4 r2 r9 r16 ((μ_25.1 r9 0) * (μ_25.1 r16 0)) μ_25
  else
    f_Bench_combine_J58 v4 r2 r9 r16 ((μ_25.1 r9 0) + (μ_25.1 r16 0)) μ_25))))
def f_Bench_derive_J122   (a5 : Nat) (μ : HMem) : Option ((Int32 ⊕ Nat) × HMem) :=
h_bd (f_Graph_copyFrom a5 16 μ) (fun _ μ_128 =>
some (.inl (μ_128.1 a5 0), μ_128))
def f_Bench_derive_J37   (v3 : Int32) (v4 : Int32) (a5 : Nat) (a6 : Nat) (s0 : Int32) (s1 : Int32) (s2 : Int32) (μ : HMem) : Option ((Int32 ⊕ Nat) × HMem) :=
h_bdx (f_Bench_requireRange s2 s1 s0 μ) (fun _ μ_37 =>
h_bd (f_History_save  μ_37) (fun _ μ_48 =>
if ¬ v3 = (1 : Int32) then
  if ¬ v3 = (2 : Int32) then
    if ¬ v3 = (3 : Int32) then
      h_bd (f_Graph_copyFrom 16 a6 μ_48) (fun _ μ_119 =>
      f_Bench_derive_J122 a5 μ_119)
    else
      h_bd (f_HomSearch_coreOf a6 μ_48) (fun r104 μ_104 =>
      h_bd (f_Graph_induce 16 a6 r104 μ_104) (fun _ μ_107 =>
      f_Bench_derive_J122 a5 μ_107))
  else
    h_bd (f_Graph_induce 16 a6 v4 μ_48) (fun _ μ_81 =>
    f_Bench_derive_J122 a5 μ_81)
else
  h_bd (f_Graph_complement 16 a6 μ_48) (fun _ μ_62 =>
  f_Bench_derive_J122 a5 μ_62)))
def f_Bench_derive (v1 : Int32) (v2 : Int32) (v3 : Int32) (v4 : Int32) (μ : HMem) : Option ((Int32 ⊕ Nat) × HMem) :=
  h_bdx (f_Bench_graphAt v1 μ) (fun r2 μ_2 =>
  h_bdx (f_Bench_graphAt v2 μ_2) (fun r9 μ_9 =>
  h_bdx (f_Bench_requireRange v3 0 3 μ_9) (fun _ μ_17 =>
  if ¬ v3 = (2 : Int32) then
    f_Bench_derive_J37 v3 v4 r2 r9 0 0 v4 μ_17
  else
    h_bd (f_Graph_all r9 μ_17) (fun r30 μ_30 =>
    f_Bench_derive_J37 v3 v4 r2 r9 r30 0 v4 μ_30))))
def f_Bench_graph (v1 : Int32) (v2 : Int32) (μ : HMem) : Option ((Int32 ⊕ Nat) × HMem) :=
  h_bdx (f_Bench_graphAt v1 μ) (fun r2 μ_2 =>
  h_bdx (f_Bench_requireRange v2 0 3 μ_2) (fun _ μ_9 =>
  if (v2).toInt < 0 ∨ 2 < (v2).toInt then
    h_bd (f_Graph_partCount r2 μ_9) (fun r56 μ_56 =>
    some (.inl r56, μ_56))
  else if v2 = 0 then
    some (.inl (μ_9.1 r2 0), μ_9)
  else if v2 = 1 then
    h_bd (f_Graph_edgeCount r2 μ_9) (fun r46 μ_46 =>
    some (.inl r46, μ_46))
  else if v2 = 2 then
    h_bd (f_Graph_loopCount r2 μ_9) (fun r51 μ_51 =>
    some (.inl r51, μ_51))
  else none))
def f_Bench_vertex (v1 : Int32) (v2 : Int32) (v3 : Int32) (μ : HMem) : Option ((Int32 ⊕ Nat) × HMem) :=
  h_bdx (f_Bench_graphAt v1 μ) (fun r2 μ_2 =>
  h_bdx (f_Bench_requireVertex r2 v2 μ_2) (fun _ μ_10 =>
  h_bdx (f_Bench_requireRange v3 0 2 μ_10) (fun _ μ_16 =>
  if v3 = 0 then
    h_chk v2 (h_len (r2 + 1)) (
    some (.inl (μ_16.1 (r2 + 1) (Int32.toNatClampNeg (v2))), μ_16))
  else if v3 = 1 then
    h_chk v2 (h_len (r2 + 3)) (
    h_bd (f_Integer_bitCount (μ_16.1 (r2 + 3) (Int32.toNatClampNeg (v2))) μ_16) (fun r63 μ_63 =>
    some (.inl r63, μ_63)))
  else 
  h_chk v2 (h_len (r2 + 3)) (
  some (.inl (μ_16.1 (r2 + 3) (Int32.toNatClampNeg (v2))), μ_16)))))
def f_Bench_edge (v1 : Int32) (v2 : Int32) (v3 : Int32) (μ : HMem) : Option ((Int32 ⊕ Nat) × HMem) :=
  h_bdx (f_Bench_graphAt v1 μ) (fun r2 μ_2 =>
  h_bdx (f_Bench_requireVertex r2 v2 μ_2) (fun _ μ_10 =>
  h_bdx (f_Bench_requireVertex r2 v3 μ_10) (fun _ μ_16 =>
  h_bd (f_Graph_between r2 v2 v3 μ_16) (fun r23 μ_23 =>
  some (.inl r23, μ_23)))))
def f_Bench_greedy (v1 : Int32) (v2 : Int32) (μ : HMem) : Option ((Int32 ⊕ Nat) × HMem) :=
  h_bdx (f_Bench_graphAt v1 μ) (fun r2 μ_2 =>
  h_bdx (f_Bench_requireVertex r2 v2 μ_2) (fun _ μ_8 =>
  h_bd (f_Elimination_runGreedily r2 μ_8) (fun _ μ_16 =>
  h_chk v2 (h_len 93) (
  some (.inl (μ_16.1 93 (Int32.toNatClampNeg (v2))), μ_16)))))
def f_Bench_width_J82   (s0 : Int32) (μ : HMem) : Option ((Int32 ⊕ Nat) × HMem) :=
some (.inl s0, μ)
def f_Bench_width_J61   (v3 : Int32) (μ : HMem) : Option ((Int32 ⊕ Nat) × HMem) :=
if v3 = 0 then
  f_Bench_width_J82 (μ.1 92 2) μ
else
  f_Bench_width_J82 (μ.1 92 3) μ
def f_Bench_width (v1 : Int32) (v2 : Int32) (v3 : Int32) (μ : HMem) : Option ((Int32 ⊕ Nat) × HMem) :=
  h_bdx (f_Bench_graphAt v1 μ) (fun r2 μ_2 =>
  if ¬ v2 = 0 then
    h_bd (f_Elimination_readOrder v2 (μ_2.1 r2 0) μ_2) (fun r33 μ_33 =>
    if r33 = 0 then
      some (.inr 2, μ_33)
    else
      h_bd (f_Elimination_runInOrder r2 μ_33) (fun _ μ_45 =>
      f_Bench_width_J61 v3 μ_45))
  else
    h_bd (f_Elimination_runGreedily r2 μ_2) (fun _ μ_17 =>
    f_Bench_width_J61 v3 μ_17))
def f_Bench_treewidth (v1 : Int32) (μ : HMem) : Option ((Int32 ⊕ Nat) × HMem) :=
  h_bdx (f_Bench_graphAt v1 μ) (fun r6 μ_6 =>
  h_bd (f_Elimination_smallestWidth r6 μ_6) (fun r9 μ_9 =>
  some (.inl r9, μ_9)))
def f_Bench_bag (v1 : Int32) (v2 : Int32) (μ : HMem) : Option ((Int32 ⊕ Nat) × HMem) :=
  h_bdx (f_Bench_graphAt v1 μ) (fun r2 μ_2 =>
  h_bdx (f_Bench_requireVertex r2 v2 μ_2) (fun _ μ_8 =>
  h_bd (f_Elimination_runGreedily r2 μ_8) (fun _ μ_16 =>
  h_chk v2 (h_len 94) (
  some (.inl (μ_16.1 94 (Int32.toNatClampNeg (v2))), μ_16)))))
def f_Bench_requireSmall (a0 : Nat) (μ : HMem) : Option ((Unit ⊕ Nat) × HMem) :=
  if (μ.1 a0 0) ≤ (6 : Int32) then
    some (.inl (), μ)
  else
    some (.inr 3, μ)
def f_Bench_count_J42   (v3 : Int32) (a4 : Nat) (a5 : Nat) (s0 : Int32) (μ : HMem) : Option ((Int64 ⊕ Nat) × HMem) :=
h_bd (f_MapSums_load a4 a5 s0 μ) (fun _ μ_54 =>
if (v3).toInt < 0 ∨ 5 < (v3).toInt then
  h_bd (f_MapSums_overEdgeInjectiveMaps  μ_54) (fun r126 μ_126 =>
  some (.inl r126, μ_126))
else if v3 = 0 then
  h_bd (f_MapSums_overAllMaps a4 μ_54) (fun r102 μ_102 =>
  some (.inl r102, μ_102))
else if v3 = 1 then
  h_bd (f_MapSums_overAllMaps a4 μ_54) (fun r102 μ_102 =>
  some (.inl r102, μ_102))
else if v3 = 2 then
  h_bd (f_MapSums_overInjectiveMaps  μ_54) (fun r110 μ_110 =>
  some (.inl r110, μ_110))
else if v3 = 3 then
  h_bd (f_MapSums_overInjectiveMaps  μ_54) (fun r110 μ_110 =>
  some (.inl r110, μ_110))
else if v3 = 4 then
  h_bd (f_MapSums_overOntoMaps  μ_54) (fun r118 μ_118 =>
  some (.inl r118, μ_118))
else if v3 = 5 then
  h_bd (f_MapSums_overOntoMaps  μ_54) (fun r118 μ_118 =>
  some (.inl r118, μ_118))
else none)
def f_Bench_count_J41   (v3 : Int32) (a4 : Nat) (a5 : Nat) (μ : HMem) : Option ((Int64 ⊕ Nat) × HMem) :=
f_Bench_count_J42 v3 a4 a5 0 μ
def f_Bench_count (v1 : Int32) (v2 : Int32) (v3 : Int32) (μ : HMem) : Option ((Int64 ⊕ Nat) × HMem) :=
  h_bdx (f_Bench_graphAt v1 μ) (fun r2 μ_2 =>
  h_bdx (f_Bench_graphAt v2 μ_2) (fun r9 μ_9 =>
  h_bdx (f_Bench_requireRange v3 0 6 μ_9) (fun _ μ_18 =>
  h_bdx (f_Bench_requireSmall r2 μ_18) (fun _ μ_23 =>
  if (5 : Int32) < v3 then
    f_Bench_count_J41 v3 r2 r9 μ_23
  else
    if (2 : Int32) = 0 then none else
    if (h_irem v3 2) = 0 then
      f_Bench_count_J41 v3 r2 r9 μ_23
    else
      f_Bench_count_J42 v3 r2 r9 1 μ_23))))
def f_Bench_density_L72_b (K99 : Int32 → Int64 → Int64 → HMem → Option ((Int64 ⊕ Nat) × HMem)) (rec_ : Int32 → Nat → Nat → Int64 → Int64 → Int32 → HMem → Option ((Int64 ⊕ Nat) × HMem)) (v3 : Int32) (a4 : Nat) (a5 : Nat) (v6 : Int64) (v8 : Int64) (v10 : Int32) (μ : HMem) : Option ((Int64 ⊕ Nat) × HMem) :=
if (μ.1 a4 0) ≤ v10 then
  K99 v3 v6 v8 μ
else
  h_let (v8 * (Int32.toInt64 (μ.1 a5 0))) (fun v8_91 =>
  h_let (v10 + 1) (fun v10_93 =>
  rec_ v3 a4 a5 v6 v8_91 v10_93 μ))
def f_Bench_density_L72 (K99 : Int32 → Int64 → Int64 → HMem → Option ((Int64 ⊕ Nat) × HMem)) : Nat → Int32 → Nat → Nat → Int64 → Int64 → Int32 → HMem → Option ((Int64 ⊕ Nat) × HMem)
  | 0, _, _, _, _, _, _, _ => none
  | fuel + 1, v3, a4, a5, v6, v8, v10, μ => f_Bench_density_L72_b K99 (f_Bench_density_L72 K99 fuel) v3 a4 a5 v6 v8 v10 μ
def f_Bench_density_J134   (s0 : Int64) (μ : HMem) : Option ((Int64 ⊕ Nat) × HMem) :=
some (.inl s0, μ)
def f_Bench_density_J99   (v3 : Int32) (v6 : Int64) (v8 : Int64) (μ : HMem) : Option ((Int64 ⊕ Nat) × HMem) :=
h_bd (f_Bench_greatestDivisor v8 v6 μ) (fun r103 μ_103 =>
if ¬ (lg_cmp r103 0) = 0 then
  if ¬ v3 = 0 then
    if r103 = 0 then none else
    f_Bench_density_J134 (v8 / r103) μ_103
  else
    if r103 = 0 then none else
    f_Bench_density_J134 (v6 / r103) μ_103
else
  some (.inl 0, μ_103))
def f_Bench_density (v1 : Int32) (v2 : Int32) (v3 : Int32) (μ : HMem) : Option ((Int64 ⊕ Nat) × HMem) :=
  h_bdx (f_Bench_graphAt v1 μ) (fun r2 μ_2 =>
  h_bdx (f_Bench_graphAt v2 μ_2) (fun r9 μ_9 =>
  h_bdx (f_Bench_requireRange v3 0 1 μ_9) (fun _ μ_17 =>
  h_bdx (f_Bench_requireSmall r2 μ_17) (fun _ μ_22 =>
  if ¬ (μ_22.1 r9 0) = 0 then
    h_bd (f_MapSums_load r2 r9 0 μ_22) (fun _ μ_52 =>
    h_bd (f_MapSums_overAllMaps r2 μ_52) (fun r61 μ_61 =>
    f_Bench_density_L72 f_Bench_density_J99 h_fuel v3 r2 r9 r61 1 0 μ_61))
  else
    some (.inr 3, μ_22)))))
def f_Bench_automorphisms (v1 : Int32) (μ : HMem) : Option ((Int32 ⊕ Nat) × HMem) :=
  h_bdx (f_Bench_graphAt v1 μ) (fun r6 μ_6 =>
  h_bd (f_Bijections_countOnto r6 μ_6) (fun r9 μ_9 =>
  some (.inl r9, μ_9)))
def f_Bench_isomorphic (v1 : Int32) (v2 : Int32) (μ : HMem) : Option ((Int32 ⊕ Nat) × HMem) :=
  h_bdx (f_Bench_graphAt v1 μ) (fun r6 μ_6 =>
  h_bdx (f_Bench_graphAt v2 μ_6) (fun r11 μ_11 =>
  h_bd (f_Bijections_exist r6 r11 μ_11) (fun r14 μ_14 =>
  if r14 &&& 1 = r14 then some (.inl r14, μ_14) else none)))
def f_Bench_image (v1 : Int32) (v2 : Int32) (v3 : Int32) (μ : HMem) : Option ((Int32 ⊕ Nat) × HMem) :=
  h_bdx (f_Bench_graphAt v1 μ) (fun r2 μ_2 =>
  h_bdx (f_Bench_graphAt v2 μ_2) (fun r9 μ_9 =>
  h_bdx (f_Bench_requireVertex r2 v3 μ_9) (fun _ μ_17 =>
  h_bd (f_HomSearch_firstImage r2 r9 v3 μ_17) (fun r29 μ_29 =>
  some (.inl r29, μ_29)))))
def f_Bench_compare_J49   (s0 : Int32) (s1 : Int32) (μ : HMem) : Option ((Int32 ⊕ Nat) × HMem) :=
some (.inl (s1 + s0), μ)
def f_Bench_compare_J31   (a3 : Nat) (a4 : Nat) (s0 : Int32) (μ : HMem) : Option ((Int32 ⊕ Nat) × HMem) :=
h_bd (f_HomSearch_maps a4 a3 μ) (fun r38 μ_38 =>
if r38 = 0 then
  f_Bench_compare_J49 0 s0 μ_38
else
  f_Bench_compare_J49 2 s0 μ_38)
def f_Bench_compare (v1 : Int32) (v2 : Int32) (μ : HMem) : Option ((Int32 ⊕ Nat) × HMem) :=
  h_bdx (f_Bench_graphAt v1 μ) (fun r2 μ_2 =>
  h_bdx (f_Bench_graphAt v2 μ_2) (fun r8 μ_8 =>
  h_bd (f_HomSearch_maps r2 r8 μ_8) (fun r20 μ_20 =>
  if r20 = 0 then
    f_Bench_compare_J31 r2 r8 0 μ_20
  else
    f_Bench_compare_J31 r2 r8 1 μ_20)))
def f_Bench_colorings (v1 : Int32) (v2 : Int32) (μ : HMem) : Option ((Int64 ⊕ Nat) × HMem) :=
  h_bdx (f_Bench_graphAt v1 μ) (fun r2 μ_2 =>
  h_bdx (f_Bench_requireRange v2 0 20 μ_2) (fun _ μ_10 =>
  h_bd (f_Bench_properColorings r2 v2 μ_10) (fun r16 μ_16 =>
  some (.inl r16, μ_16))))
def f_Bench_chromatic_L8_b  (rec_ : Nat → Int32 → HMem → Option ((Int32 ⊕ Nat) × HMem)) (a2 : Nat) (v3 : Int32) (μ : HMem) : Option ((Int32 ⊕ Nat) × HMem) :=
if (μ.1 a2 0) < v3 then
  some (.inl (-1), μ)
else
  h_bd (f_Bench_properColorings a2 v3 μ) (fun r19 μ_19 =>
  if (lg_cmp r19 0) ≤ 0 then
    h_let (v3 + 1) (fun v3_29 =>
    rec_ a2 v3_29 μ_19)
  else
    some (.inl v3, μ_19))
def f_Bench_chromatic_L8  : Nat → Nat → Int32 → HMem → Option ((Int32 ⊕ Nat) × HMem)
  | 0, _, _, _ => none
  | fuel + 1, a2, v3, μ => f_Bench_chromatic_L8_b  (f_Bench_chromatic_L8  fuel) a2 v3 μ
def f_Bench_chromatic (v1 : Int32) (μ : HMem) : Option ((Int32 ⊕ Nat) × HMem) :=
  h_bdx (f_Bench_graphAt v1 μ) (fun r2 μ_2 =>
  f_Bench_chromatic_L8 h_fuel r2 0 μ_2)
def f_Bench_independent_J57  (rec_ : Int32 → Nat → Int32 → Int32 → HMem → Option ((Int32 ⊕ Nat) × HMem)) (v2 : Int32) (a3 : Nat) (v4 : Int32) (v5 : Int32) (μ : HMem) : Option ((Int32 ⊕ Nat) × HMem) :=
h_let (v5 + 1) (fun v5_57 =>
rec_ v2 a3 v4 v5_57 μ)
def f_Bench_independent_J42  (rec_ : Int32 → Nat → Int32 → Int32 → HMem → Option ((Int32 ⊕ Nat) × HMem)) (v2 : Int32) (a3 : Nat) (v4 : Int32) (v5 : Int32) (μ : HMem) : Option ((Int32 ⊕ Nat) × HMem) :=
h_bd (f_Graph_nearOf a3 v5 μ) (fun r45 μ_45 =>
if ¬ (r45 &&& v5) = 0 then
  f_Bench_independent_J57 rec_ v2 a3 v4 v5 μ_45
else
  h_let (v4 + 1) (fun v4_54 =>
  f_Bench_independent_J57 rec_ v2 a3 v4_54 v5 μ_45))
def f_Bench_independent_L19_b  (rec_ : Int32 → Nat → Int32 → Int32 → HMem → Option ((Int32 ⊕ Nat) × HMem)) (v2 : Int32) (a3 : Nat) (v4 : Int32) (v5 : Int32) (μ : HMem) : Option ((Int32 ⊕ Nat) × HMem) :=
h_bd (f_Graph_all a3 μ) (fun r22 μ_22 =>
if r22 < v5 then
  some (.inl v4, μ_22)
else
  if v2 = (-1 : Int32) then
    f_Bench_independent_J42 rec_ v2 a3 v4 v5 μ_22
  else
    h_bd (f_Integer_bitCount v5 μ_22) (fun r35 μ_35 =>
    if ¬ r35 = v2 then
      f_Bench_independent_J57 rec_ v2 a3 v4 v5 μ_35
    else
      f_Bench_independent_J42 rec_ v2 a3 v4 v5 μ_35))
def f_Bench_independent_L19  : Nat → Int32 → Nat → Int32 → Int32 → HMem → Option ((Int32 ⊕ Nat) × HMem)
  | 0, _, _, _, _, _ => none
  | fuel + 1, v2, a3, v4, v5, μ => f_Bench_independent_L19_b  (f_Bench_independent_L19  fuel) v2 a3 v4 v5 μ
def f_Bench_independent (v1 : Int32) (v2 : Int32) (μ : HMem) : Option ((Int32 ⊕ Nat) × HMem) :=
  h_bdx (f_Bench_graphAt v1 μ) (fun r2 μ_2 =>
  h_bdx (f_Bench_requireRange v2 (-1) 8 μ_2) (fun _ μ_10 =>
  f_Bench_independent_L19 h_fuel v2 r2 0 0 μ_10))
def f_Bench_walks_L20_b  (rec_ : Int32 → Int32 → Nat → Int64 → Int32 → HMem → Option ((Int64 ⊕ Nat) × HMem)) (v2 : Int32) (v3 : Int32) (a4 : Nat) (v5 : Int64) (v7 : Int32) (μ : HMem) : Option ((Int64 ⊕ Nat) × HMem) :=
if (μ.1 a4 0) ≤ v7 then
  some (.inl v5, μ)
else
  h_bd (f_Walks_sumFrom a4 v7 v2 v3 μ) (fun r42 μ_42 =>
  h_let (v5 + r42) (fun v5_46 =>
  h_let (v7 + 1) (fun v7_48 =>
  rec_ v2 v3 a4 v5_46 v7_48 μ_42)))
def f_Bench_walks_L20  : Nat → Int32 → Int32 → Nat → Int64 → Int32 → HMem → Option ((Int64 ⊕ Nat) × HMem)
  | 0, _, _, _, _, _, _ => none
  | fuel + 1, v2, v3, a4, v5, v7, μ => f_Bench_walks_L20_b  (f_Bench_walks_L20  fuel) v2 v3 a4 v5 v7 μ
def f_Bench_walks (v1 : Int32) (v2 : Int32) (v3 : Int32) (μ : HMem) : Option ((Int64 ⊕ Nat) × HMem) :=
  h_bdx (f_Bench_graphAt v1 μ) (fun r2 μ_2 =>
  h_bdx (f_Bench_requireRange v2 0 12 μ_2) (fun _ μ_11 =>
  f_Bench_walks_L20 h_fuel v2 v3 r2 0 0 μ_11))
def f_Bench_folds (v1 : Int32) (v2 : Int32) (μ : HMem) : Option ((Int32 ⊕ Nat) × HMem) :=
  h_bdx (f_Bench_graphAt v1 μ) (fun r2 μ_2 =>
  h_bdx (f_Bench_requireVertex r2 v2 μ_2) (fun _ μ_8 =>
  h_bd (f_Graph_all r2 μ_8) (fun r14 μ_14 =>
  h_bd (f_Graph_foldTargets r2 v2 r14 μ_14) (fun r17 μ_17 =>
  some (.inl r17, μ_17)))))
def f_Bench_dismantle (v1 : Int32) (μ : HMem) : Option ((Int32 ⊕ Nat) × HMem) :=
  h_bdx (f_Bench_graphAt v1 μ) (fun r2 μ_2 =>
  h_bd (f_History_save  μ_2) (fun _ μ_14 =>
  h_let (μ_14.1 r2 0) (fun v3_21 =>
  h_bd (f_Graph_stiffPart r2 μ_14) (fun r28 μ_28 =>
  h_bd (f_Graph_induce 16 r2 r28 μ_28) (fun _ μ_31 =>
  h_bd (f_Graph_copyFrom r2 16 μ_31) (fun _ μ_39 =>
  some (.inl (v3_21 - (μ_39.1 r2 0)), μ_39)))))))
def f_Bench_isCore_J26   (s0 : Int32) (μ : HMem) : Option ((Int32 ⊕ Nat) × HMem) :=
if s0 &&& 1 = s0 then some (.inl s0, μ) else none
def f_Bench_isCore (v1 : Int32) (μ : HMem) : Option ((Int32 ⊕ Nat) × HMem) :=
  h_bdx (f_Bench_graphAt v1 μ) (fun r2 μ_2 =>
  h_bd (f_HomSearch_coreOf r2 μ_2) (fun r11 μ_11 =>
  h_bd (f_Graph_all r2 μ_11) (fun r15 μ_15 =>
  if ¬ r11 = r15 then
    f_Bench_isCore_J26 0 μ_15
  else
    f_Bench_isCore_J26 1 μ_15)))
def f_Bench_coreSize (v1 : Int32) (μ : HMem) : Option ((Int32 ⊕ Nat) × HMem) :=
  h_bdx (f_Bench_graphAt v1 μ) (fun r6 μ_6 =>
  h_bd (f_HomSearch_coreOf r6 μ_6) (fun r9 μ_9 =>
  h_bd (f_Integer_bitCount r9 μ_9) (fun r12 μ_12 =>
  some (.inl r12, μ_12))))
def f_Bench_append (v1 : Int32) (μ : HMem) : Option ((Int32 ⊕ Nat) × HMem) :=
  h_bdx (f_Bench_requireRange v1 0 127 μ) (fun _ μ_4 =>
  if (μ_4.1 88 1) < (120 : Int32) then
    h_chk (μ_4.1 88 1) (h_len 89) (h_let (h_wi μ_4 89 (Int32.toNatClampNeg (μ_4.1 88 1)) (h_i2b (h_i2b v1))) (fun μ_46 =>
    h_let (h_wi μ_46 88 1 ((μ_46.1 88 1) + 1)) (fun μ_57 =>
    some (.inl (μ_57.1 88 1), μ_57))))
  else
    some (.inr 3, μ_4))
def f_Bench_parse (v1 : Int32) (μ : HMem) : Option ((Int32 ⊕ Nat) × HMem) :=
  h_bdx (f_Bench_graphAt v1 μ) (fun r2 μ_2 =>
  h_bd (f_Text_readGraph 16 μ_2) (fun r14 μ_14 =>
  if ¬ r14 = (-1 : Int32) then
    h_bd (f_History_save  μ_14) (fun _ μ_42 =>
    h_bd (f_Graph_copyFrom r2 16 μ_42) (fun _ μ_50 =>
    some (.inl r14, μ_50)))
  else
    some (.inl ((-10) - (μ_14.1 88 2)), μ_14)))
def f_Bench_written_J53   (s0 : Int32) (μ : HMem) : Option ((Int32 ⊕ Nat) × HMem) :=
some (.inl s0, μ)
def f_Bench_written (v1 : Int32) (v2 : Int32) (μ : HMem) : Option ((Int32 ⊕ Nat) × HMem) :=
  h_bdx (f_Bench_graphAt v1 μ) (fun r2 μ_2 =>
  if 0 ≤ v2 then
    h_bd (f_Script_write r2 μ_2) (fun _ μ_26 =>
    if (μ_26.1 90 1) ≤ v2 then
      f_Bench_written_J53 (-1) μ_26
    else
      h_chk v2 (h_len 91) (
      f_Bench_written_J53 (μ_26.1 91 (Int32.toNatClampNeg (v2))) μ_26))
  else
    some (.inr 2, μ_2))
def f_Bench_undo  (μ : HMem) : Option ((Int32 ⊕ Nat) × HMem) :=
  if ¬ (μ.1 86 2) = 0 then
    h_bd (f_History_restore  μ) (fun _ μ_29 =>
    some (.inl (μ_29.1 86 2), μ_29))
  else
    some (.inr 3, μ)
theorem f_Bench_graphAt_G {v : Int32} {μ μ1 : HMem} {r : Nat} (h : f_Bench_graphAt v μ = some (.inl r, μ1)) : HIsG r := by
  unfold f_Bench_graphAt f_Bench_graphAt_J9 at h
  split at h
  · cases h
  · split at h
    · obtain ⟨h1, h2⟩ := h_chk_some h
      cases h2
      exact h_el_G85 (Nat.not_le.mp fun q => h1 (Or.inr q))
    · cases h
def p_Bench_density_99 (cx : HCx) (F_ : Int32 → Int64 → Int64 → HMem → Option ((Int64 ⊕ Nat) × HMem)) : Prop := ∀ (v3 : Int32) (v6 : Int64) (v8 : Int64) (μ : HMem), HX cx (HQx cx 5 h_eJ) (F_ v3 v6 v8 μ) 4 24 99 [(3, .int v3), (6, .long v6), (8, .long v8)] [] μ
def p_Bench_density_72 (cx : HCx) (F_ : Int32 → Nat → Nat → Int64 → Int64 → Int32 → HMem → Option ((Int64 ⊕ Nat) × HMem)) : Prop := ∀ (v3 : Int32) (a4 : Nat) (h_a4 : HIsG a4) (a5 : Nat) (h_a5 : HIsG a5) (v6 : Int64) (v8 : Int64) (v10 : Int32) (μ : HMem), HX cx (HQx cx 5 h_eJ) (F_ v3 a4 a5 v6 v8 v10 μ) 4 24 72 [(3, .int v3), (4, .ref a4), (5, .ref a5), (6, .long v6), (8, .long v8), (10, .int v10)] [] μ
def p_Bench_chromatic_8 (cx : HCx) (F_ : Nat → Int32 → HMem → Option ((Int32 ⊕ Nat) × HMem)) : Prop := ∀ (a2 : Nat) (h_a2 : HIsG a2) (v3 : Int32) (μ : HMem), HX cx (HQx cx 1 h_eI) (F_ a2 v3 μ) 1 6 8 [(0, .ref 84), (2, .ref a2), (3, .int v3)] [] μ
def p_Bench_independent_19 (cx : HCx) (F_ : Int32 → Nat → Int32 → Int32 → HMem → Option ((Int32 ⊕ Nat) × HMem)) : Prop := ∀ (v2 : Int32) (a3 : Nat) (h_a3 : HIsG a3) (v4 : Int32) (v5 : Int32) (μ : HMem), HX cx (HQx cx 2 h_eI) (F_ v2 a3 v4 v5 μ) 2 12 19 [(2, .int v2), (3, .ref a3), (4, .int v4), (5, .int v5)] [] μ
def p_Bench_walks_20 (cx : HCx) (F_ : Int32 → Int32 → Nat → Int64 → Int32 → HMem → Option ((Int64 ⊕ Nat) × HMem)) : Prop := ∀ (v2 : Int32) (v3 : Int32) (a4 : Nat) (h_a4 : HIsG a4) (v5 : Int64) (v7 : Int32) (μ : HMem), HX cx (HQx cx 2 h_eJ) (F_ v2 v3 a4 v5 v7 μ) 2 12 20 [(0, .ref 84), (2, .int v2), (3, .int v3), (4, .ref a4), (5, .long v5), (7, .int v7)] [] μ
theorem t_Bench_graphAt_J9 {cx : HCx} (hg : HGood cx R_Bench b_Bench_graphAt 2 6 (some (.object "HomBench$Graph"))) (hA : h_own cx) (hT : HThr cx 1)    (μ : HMem) : HX cx (HQx cx 1 h_eR) (f_Bench_graphAt_J9   μ) 0 0 9 [] [] μ := by
  unfold f_Bench_graphAt_J9
  exact r_throwW (text := "no such graph") hg hA hT h_site1 (by decide) d_Bench_graphAt_9 d_Bench_graphAt_12 d_Bench_graphAt_13 d_Bench_graphAt_16 d_Bench_graphAt_19 (by decide) (Nat.le_of_ble_eq_true rfl) ⟨by decide, by decide⟩
theorem t_Bench_graphAt_0 {cx : HCx} (hg : HGood cx R_Bench b_Bench_graphAt 2 6 (some (.object "HomBench$Graph"))) (hA : h_own cx) (hT : HThr cx 1) (v1 : Int32) (μ : HMem) : HX cx (HQx cx 1 h_eR) (f_Bench_graphAt v1 μ) 0 0 0 [(0, .ref 84), (1, .int v1)] [] μ := by
  unfold f_Bench_graphAt
  refine r_iload_n hg 1 d_Bench_graphAt_0 rfl rfl ?_
  refine r_if_lt (tgt := 9) hg d_Bench_graphAt_1 (by decide) ?_ ?_
  · refine r_sub [] rfl ?_
    exact t_Bench_graphAt_J9 hg hA hT μ
  · refine r_iload_n hg 1 d_Bench_graphAt_4 rfl rfl ?_
    refine r_iconst (v := 4) hg d_Bench_graphAt_5 (by decide) ?_
    refine r_icmp_lt (tgt := 20) hg d_Bench_graphAt_6 (by decide) ?_ ?_
    · refine r_aload_n hg 0 d_Bench_graphAt_20 rfl rfl ?_
      refine r_get (v := .ref 85) hg c_Bench (by decide) rfl (Nat.le_of_ble_eq_true rfl) rfl wf_Bench_11 d_Bench_graphAt_21 rfl ?_
      refine r_iload_n hg 1 d_Bench_graphAt_24 rfl rfl ?_
      refine r_gald hg (by decide) rfl d_Bench_graphAt_25 (fun hb_25 => ?_)
      exact r_xaret hg hA ⟨by decide, by decide⟩ rfl d_Bench_graphAt_26 rfl
    · refine r_sub [] rfl ?_
      exact t_Bench_graphAt_J9 hg hA hT μ
theorem t_Bench_graphAt (v1 : Int32) (μ : HMem) : HSpecX y_Bench_graphAt b_Bench_graphAt 2 (some (.object "HomBench$Graph")) 6 1 h_eR [.ref 84, .int v1] μ (f_Bench_graphAt v1 μ) :=
  HSpecX.of (by decide +kernel) (v_Bench_graphAt.1 _ (by simp)) (Nat.le_of_ble_eq_true rfl) (fun cx hA hg hT => t_Bench_graphAt_0 hg hA hT v1 μ)
theorem t_Bench_requireRange_J10 {cx : HCx} (hg : HGood cx R_Bench b_Bench_requireRange 3 6 none) (hA : h_own cx) (hT : HThr cx 1)    (μ : HMem) : HX cx (HQx cx 1 h_eV) (f_Bench_requireRange_J10   μ) 0 0 10 [] [] μ := by
  unfold f_Bench_requireRange_J10
  exact r_throwW (text := "an argument is out of range") hg hA hT h_site2 (by decide) d_Bench_requireRange_10 d_Bench_requireRange_13 d_Bench_requireRange_14 d_Bench_requireRange_17 d_Bench_requireRange_20 (by decide) (Nat.le_of_ble_eq_true rfl) ⟨by decide, by decide⟩
theorem t_Bench_requireRange_0 {cx : HCx} (hg : HGood cx R_Bench b_Bench_requireRange 3 6 none) (hA : h_own cx) (hT : HThr cx 1) (v0 : Int32) (v1 : Int32) (v2 : Int32) (μ : HMem) : HX cx (HQx cx 1 h_eV) (f_Bench_requireRange v0 v1 v2 μ) 0 0 0 [(0, .int v0), (1, .int v1), (2, .int v2)] [] μ := by
  unfold f_Bench_requireRange
  refine r_iload_n hg 0 d_Bench_requireRange_0 rfl rfl ?_
  refine r_iload_n hg 1 d_Bench_requireRange_1 rfl rfl ?_
  refine r_icmp_lt (tgt := 10) hg d_Bench_requireRange_2 (by decide) ?_ ?_
  · refine r_sub [] rfl ?_
    exact t_Bench_requireRange_J10 hg hA hT μ
  · refine r_iload_n hg 0 d_Bench_requireRange_5 rfl rfl ?_
    refine r_iload_n hg 2 d_Bench_requireRange_6 rfl rfl ?_
    refine r_icmp_le (tgt := 21) hg d_Bench_requireRange_7 (by decide) ?_ ?_
    · exact r_xvret hg hA ⟨by decide, by decide⟩ rfl d_Bench_requireRange_21 rfl
    · refine r_sub [] rfl ?_
      exact t_Bench_requireRange_J10 hg hA hT μ
theorem t_Bench_requireRange (v0 : Int32) (v1 : Int32) (v2 : Int32) (μ : HMem) : HSpecX y_Bench_requireRange b_Bench_requireRange 3 none 6 1 h_eV [.int v0, .int v1, .int v2] μ (f_Bench_requireRange v0 v1 v2 μ) :=
  HSpecX.of (by decide +kernel) (v_Bench_requireRange.1 _ (by simp)) (Nat.le_of_ble_eq_true rfl) (fun cx hA hg hT => t_Bench_requireRange_0 hg hA hT v0 v1 v2 μ)
theorem t_Bench_setSize_0 {cx : HCx} (hg : HGood cx R_Bench b_Bench_setSize 5 7 (some .int)) (hA : h_own cx) (hT : HThr cx 2) (v1 : Int32) (v2 : Int32) (μ : HMem) : HX cx (HQx cx 2 h_eI) (f_Bench_setSize v1 v2 μ) 0 0 0 [(0, .ref 84), (1, .int v1), (2, .int v2)] [] μ := by
  unfold f_Bench_setSize
  refine r_aload_n hg 0 d_Bench_setSize_0 rfl rfl ?_
  refine r_iload_n hg 1 d_Bench_setSize_1 rfl rfl ?_
  refine r_xcallV (As := [.int v1]) hg hA hT (t_Bench_graphAt v1 μ) v_Bench_graphAt c_Bench rfl (by decide) rfl wm_Bench_80 d_Bench_setSize_2 rfl ⟨by decide, by decide⟩ ⟨by decide, by decide⟩ (Nat.le_of_ble_eq_true rfl) rfl (fun r2 μ_2 e_2 => ?_)
  refine r_astore_n (l' := [(3, .ref r2), (0, .ref 84), (1, .int v1), (2, .int v2)]) hg d_Bench_setSize_5 rfl (Nat.le_of_ble_eq_true rfl) rfl ?_
  refine r_iload_n hg 3 d_Bench_setSize_6 rfl rfl ?_
  refine r_iconst (v := 0) hg d_Bench_setSize_7 (by decide) ?_
  refine r_bipush (v := 8) hg d_Bench_setSize_8 (by decide) ?_
  refine r_xcallS (As := [.int v2, .int 0, .int 8]) hg hA hT (t_Bench_requireRange v2 0 8 μ_2) v_Bench_requireRange wm_Bench_84 d_Bench_setSize_10 rfl ⟨by decide, by decide⟩ ⟨by decide, by decide⟩ (Nat.le_of_ble_eq_true rfl) rfl (fun r10 μ_10 e_10 => ?_)
  refine r_aload_n hg 1 d_Bench_setSize_13 rfl rfl ?_
  refine r_get (v := .ref 86) hg c_Bench (by decide) rfl (Nat.le_of_ble_eq_true rfl) rfl wf_Bench_23 d_Bench_setSize_14 rfl ?_
  refine r_aload_n hg 1 d_Bench_setSize_17 rfl rfl ?_
  refine r_get (v := .ref 85) hg c_Bench (by decide) rfl (Nat.le_of_ble_eq_true rfl) rfl wf_Bench_11 d_Bench_setSize_18 rfl ?_
  refine r_callV (As := [.ref 85]) hg (t_History_save  μ_10) v_History_save c_History rfl (by decide) rfl wm_Bench_88 d_Bench_setSize_21 rfl ⟨by decide, by decide⟩ (Nat.le_of_ble_eq_true rfl) rfl (fun r21 μ_21 _ => ?_)
  refine r_aload_n hg 0 d_Bench_setSize_24 rfl rfl ?_
  refine r_get (v := .int (μ_21.1 r2 0)) hg c_Graph (h_G_lt (f_Bench_graphAt_G e_2)) (h_G_kd (f_Bench_graphAt_G e_2)) (Nat.le_of_ble_eq_true rfl) (h_G_fl0 (f_Bench_graphAt_G e_2)) wf_Bench_92 d_Bench_setSize_25 rfl ?_
  refine r_letI (fun v4_28 => ?_)
  refine r_istore (l' := [(4, .int v4_28), (3, .ref r2), (0, .ref 84), (1, .int v1), (2, .int v2)]) hg d_Bench_setSize_28 (Nat.le_of_ble_eq_true rfl) rfl ?_
  refine r_aload_n hg 1 d_Bench_setSize_30 rfl rfl ?_
  refine r_iload_n hg 4 d_Bench_setSize_31 rfl rfl ?_
  refine r_callV (As := [.int v2]) hg (t_Graph_reset r2 (f_Bench_graphAt_G e_2) v2 μ_21) v_Graph_reset c_Graph rfl (h_G_lt (f_Bench_graphAt_G e_2)) (h_G_kd (f_Bench_graphAt_G e_2)) wm_Bench_96 d_Bench_setSize_32 rfl ⟨by decide, by decide⟩ (Nat.le_of_ble_eq_true rfl) rfl (fun r32 μ_32 _ => ?_)
  refine r_iload hg 0 d_Bench_setSize_35 rfl ?_
  exact r_xiret hg hA ⟨by decide, by decide⟩ rfl d_Bench_setSize_37 rfl
theorem t_Bench_setSize (v1 : Int32) (v2 : Int32) (μ : HMem) : HSpecX y_Bench_setSize b_Bench_setSize 5 (some .int) 7 2 h_eI [.ref 84, .int v1, .int v2] μ (f_Bench_setSize v1 v2 μ) :=
  HSpecX.of (by decide +kernel) (v_Bench_setSize.1 _ (by simp)) (Nat.le_of_ble_eq_true rfl) (fun cx hA hg hT => t_Bench_setSize_0 hg hA hT v1 v2 μ)
theorem t_Bench_requireVertex_J12 {cx : HCx} (hg : HGood cx R_Bench b_Bench_requireVertex 2 6 none) (hA : h_own cx) (hT : HThr cx 1)    (μ : HMem) : HX cx (HQx cx 1 h_eV) (f_Bench_requireVertex_J12   μ) 0 0 12 [] [] μ := by
  unfold f_Bench_requireVertex_J12
  exact r_throwW (text := "no such vertex") hg hA hT h_site1 (by decide) d_Bench_requireVertex_12 d_Bench_requireVertex_15 d_Bench_requireVertex_16 d_Bench_requireVertex_19 d_Bench_requireVertex_22 (by decide) (Nat.le_of_ble_eq_true rfl) ⟨by decide, by decide⟩
theorem t_Bench_requireVertex_0 {cx : HCx} (hg : HGood cx R_Bench b_Bench_requireVertex 2 6 none) (hA : h_own cx) (hT : HThr cx 1) (a0 : Nat) (h_a0 : HIsG a0) (v1 : Int32) (μ : HMem) : HX cx (HQx cx 1 h_eV) (f_Bench_requireVertex a0 v1 μ) 0 0 0 [(0, .ref a0), (1, .int v1)] [] μ := by
  unfold f_Bench_requireVertex
  refine r_iload_n hg 1 d_Bench_requireVertex_0 rfl rfl ?_
  refine r_if_lt (tgt := 12) hg d_Bench_requireVertex_1 (by decide) ?_ ?_
  · refine r_sub [] rfl ?_
    exact t_Bench_requireVertex_J12 hg hA hT μ
  · refine r_iload_n hg 1 d_Bench_requireVertex_4 rfl rfl ?_
    refine r_aload_n hg 0 d_Bench_requireVertex_5 rfl rfl ?_
    refine r_get (v := .int (μ.1 a0 0)) hg c_Graph (h_G_lt h_a0) (h_G_kd h_a0) (Nat.le_of_ble_eq_true rfl) (h_G_fl0 h_a0) wf_Bench_92 d_Bench_requireVertex_6 rfl ?_
    refine r_icmp_lt (tgt := 23) hg d_Bench_requireVertex_9 (by decide) ?_ ?_
    · exact r_xvret hg hA ⟨by decide, by decide⟩ rfl d_Bench_requireVertex_23 rfl
    · refine r_sub [] rfl ?_
      exact t_Bench_requireVertex_J12 hg hA hT μ
theorem t_Bench_requireVertex (a0 : Nat) (h_a0 : HIsG a0) (v1 : Int32) (μ : HMem) : HSpecX y_Bench_requireVertex b_Bench_requireVertex 2 none 6 1 h_eV [.ref a0, .int v1] μ (f_Bench_requireVertex a0 v1 μ) :=
  HSpecX.of (by decide +kernel) (v_Bench_requireVertex.1 _ (by simp)) (Nat.le_of_ble_eq_true rfl) (fun cx hA hg hT => t_Bench_requireVertex_0 hg hA hT a0 h_a0 v1 μ)
theorem t_Bench_setVertex_0 {cx : HCx} (hg : HGood cx R_Bench b_Bench_setVertex 6 7 (some .int)) (hA : h_own cx) (hT : HThr cx 3) (v1 : Int32) (v2 : Int32) (v3 : Int32) (μ : HMem) : HX cx (HQx cx 3 h_eI) (f_Bench_setVertex v1 v2 v3 μ) 0 0 0 [(0, .ref 84), (1, .int v1), (2, .int v2), (3, .int v3)] [] μ := by
  unfold f_Bench_setVertex
  refine r_aload_n hg 0 d_Bench_setVertex_0 rfl rfl ?_
  refine r_iload_n hg 1 d_Bench_setVertex_1 rfl rfl ?_
  refine r_xcallV (As := [.int v1]) hg hA hT (t_Bench_graphAt v1 μ) v_Bench_graphAt c_Bench rfl (by decide) rfl wm_Bench_80 d_Bench_setVertex_2 rfl ⟨by decide, by decide⟩ ⟨by decide, by decide⟩ (Nat.le_of_ble_eq_true rfl) rfl (fun r2 μ_2 e_2 => ?_)
  refine r_astore (l' := [(4, .ref r2), (0, .ref 84), (1, .int v1), (2, .int v2), (3, .int v3)]) hg d_Bench_setVertex_5 (Nat.le_of_ble_eq_true rfl) rfl ?_
  refine r_aload hg 0 d_Bench_setVertex_7 rfl ?_
  refine r_iload_n hg 3 d_Bench_setVertex_9 rfl rfl ?_
  refine r_xcallS (As := [.ref r2, .int v2]) hg hA hT (t_Bench_requireVertex r2 (f_Bench_graphAt_G e_2) v2 μ_2) v_Bench_requireVertex wm_Bench_100 d_Bench_setVertex_10 rfl ⟨by decide, by decide⟩ ⟨by decide, by decide⟩ (Nat.le_of_ble_eq_true rfl) rfl (fun r10 μ_10 e_10 => ?_)
  refine r_iload_n hg 4 d_Bench_setVertex_13 rfl rfl ?_
  refine r_bipush (v := -3) hg d_Bench_setVertex_14 (by decide) ?_
  refine r_iconst (v := 3) hg d_Bench_setVertex_16 (by decide) ?_
  refine r_xcallS (As := [.int v3, .int (-3), .int 3]) hg hA hT (t_Bench_requireRange v3 (-3) 3 μ_10) v_Bench_requireRange wm_Bench_84 d_Bench_setVertex_17 rfl ⟨by decide, by decide⟩ ⟨by decide, by decide⟩ (Nat.le_of_ble_eq_true rfl) rfl (fun r17 μ_17 e_17 => ?_)
  refine r_aload_n hg 1 d_Bench_setVertex_20 rfl rfl ?_
  refine r_get (v := .ref 86) hg c_Bench (by decide) rfl (Nat.le_of_ble_eq_true rfl) rfl wf_Bench_23 d_Bench_setVertex_21 rfl ?_
  refine r_aload_n hg 1 d_Bench_setVertex_24 rfl rfl ?_
  refine r_get (v := .ref 85) hg c_Bench (by decide) rfl (Nat.le_of_ble_eq_true rfl) rfl wf_Bench_11 d_Bench_setVertex_25 rfl ?_
  refine r_callV (As := [.ref 85]) hg (t_History_save  μ_17) v_History_save c_History rfl (by decide) rfl wm_Bench_88 d_Bench_setVertex_28 rfl ⟨by decide, by decide⟩ (Nat.le_of_ble_eq_true rfl) rfl (fun r28 μ_28 _ => ?_)
  refine r_aload hg 0 d_Bench_setVertex_31 rfl ?_
  refine r_get (v := .ref (r2 + 1)) hg c_Graph (h_G_lt (f_Bench_graphAt_G e_2)) (h_G_kd (f_Bench_graphAt_G e_2)) (Nat.le_of_ble_eq_true rfl) (h_G_fl1 (f_Bench_graphAt_G e_2)) wf_Bench_104 d_Bench_setVertex_33 rfl ?_
  refine r_iload_n hg 3 d_Bench_setVertex_36 rfl rfl ?_
  refine r_iald hg (h_G_lt1 (f_Bench_graphAt_G e_2)) (h_G_kd1 (f_Bench_graphAt_G e_2)) d_Bench_setVertex_37 ?_
  refine r_letI (fun v5_38 => ?_)
  refine r_istore (l' := [(5, .int v5_38), (4, .ref r2), (0, .ref 84), (1, .int v1), (2, .int v2), (3, .int v3)]) hg d_Bench_setVertex_38 (Nat.le_of_ble_eq_true rfl) rfl ?_
  refine r_aload hg 1 d_Bench_setVertex_40 rfl ?_
  refine r_get (v := .ref (r2 + 1)) hg c_Graph (h_G_lt (f_Bench_graphAt_G e_2)) (h_G_kd (f_Bench_graphAt_G e_2)) (Nat.le_of_ble_eq_true rfl) (h_G_fl1 (f_Bench_graphAt_G e_2)) wf_Bench_104 d_Bench_setVertex_42 rfl ?_
  refine r_iload_n hg 4 d_Bench_setVertex_45 rfl rfl ?_
  refine r_iload_n hg 5 d_Bench_setVertex_46 rfl rfl ?_
  refine r_iast hg (h_G_lt1 (f_Bench_graphAt_G e_2)) (h_G_kd1 (f_Bench_graphAt_G e_2)) d_Bench_setVertex_47 ?_
  refine r_letM (fun μ_47 => ?_)
  refine r_iload hg 0 d_Bench_setVertex_48 rfl ?_
  exact r_xiret hg hA ⟨by decide, by decide⟩ rfl d_Bench_setVertex_50 rfl
theorem t_Bench_setVertex (v1 : Int32) (v2 : Int32) (v3 : Int32) (μ : HMem) : HSpecX y_Bench_setVertex b_Bench_setVertex 6 (some .int) 7 3 h_eI [.ref 84, .int v1, .int v2, .int v3] μ (f_Bench_setVertex v1 v2 v3 μ) :=
  HSpecX.of (by decide +kernel) (v_Bench_setVertex.1 _ (by simp)) (Nat.le_of_ble_eq_true rfl) (fun cx hA hg hT => t_Bench_setVertex_0 hg hA hT v1 v2 v3 μ)
theorem t_Bench_setEdge_0 {cx : HCx} (hg : HGood cx R_Bench b_Bench_setEdge 7 7 (some .int)) (hA : h_own cx) (hT : HThr cx 4) (v1 : Int32) (v2 : Int32) (v3 : Int32) (v4 : Int32) (μ : HMem) : HX cx (HQx cx 4 h_eI) (f_Bench_setEdge v1 v2 v3 v4 μ) 0 0 0 [(0, .ref 84), (1, .int v1), (2, .int v2), (3, .int v3), (4, .int v4)] [] μ := by
  unfold f_Bench_setEdge
  refine r_aload_n hg 0 d_Bench_setEdge_0 rfl rfl ?_
  refine r_iload_n hg 1 d_Bench_setEdge_1 rfl rfl ?_
  refine r_xcallV (As := [.int v1]) hg hA hT (t_Bench_graphAt v1 μ) v_Bench_graphAt c_Bench rfl (by decide) rfl wm_Bench_80 d_Bench_setEdge_2 rfl ⟨by decide, by decide⟩ ⟨by decide, by decide⟩ (Nat.le_of_ble_eq_true rfl) rfl (fun r2 μ_2 e_2 => ?_)
  refine r_astore (l' := [(5, .ref r2), (0, .ref 84), (1, .int v1), (2, .int v2), (3, .int v3), (4, .int v4)]) hg d_Bench_setEdge_5 (Nat.le_of_ble_eq_true rfl) rfl ?_
  refine r_aload hg 0 d_Bench_setEdge_7 rfl ?_
  refine r_iload_n hg 3 d_Bench_setEdge_9 rfl rfl ?_
  refine r_xcallS (As := [.ref r2, .int v2]) hg hA hT (t_Bench_requireVertex r2 (f_Bench_graphAt_G e_2) v2 μ_2) v_Bench_requireVertex wm_Bench_100 d_Bench_setEdge_10 rfl ⟨by decide, by decide⟩ ⟨by decide, by decide⟩ (Nat.le_of_ble_eq_true rfl) rfl (fun r10 μ_10 e_10 => ?_)
  refine r_aload hg 0 d_Bench_setEdge_13 rfl ?_
  refine r_iload_n hg 4 d_Bench_setEdge_15 rfl rfl ?_
  refine r_xcallS (As := [.ref r2, .int v3]) hg hA hT (t_Bench_requireVertex r2 (f_Bench_graphAt_G e_2) v3 μ_10) v_Bench_requireVertex wm_Bench_100 d_Bench_setEdge_16 rfl ⟨by decide, by decide⟩ ⟨by decide, by decide⟩ (Nat.le_of_ble_eq_true rfl) rfl (fun r16 μ_16 e_16 => ?_)
  refine r_iload hg 5 d_Bench_setEdge_19 rfl ?_
  refine r_bipush (v := -2) hg d_Bench_setEdge_21 (by decide) ?_
  refine r_iconst (v := 2) hg d_Bench_setEdge_23 (by decide) ?_
  refine r_xcallS (As := [.int v4, .int (-2), .int 2]) hg hA hT (t_Bench_requireRange v4 (-2) 2 μ_16) v_Bench_requireRange wm_Bench_84 d_Bench_setEdge_24 rfl ⟨by decide, by decide⟩ ⟨by decide, by decide⟩ (Nat.le_of_ble_eq_true rfl) rfl (fun r24 μ_24 e_24 => ?_)
  refine r_aload_n hg 1 d_Bench_setEdge_27 rfl rfl ?_
  refine r_get (v := .ref 86) hg c_Bench (by decide) rfl (Nat.le_of_ble_eq_true rfl) rfl wf_Bench_23 d_Bench_setEdge_28 rfl ?_
  refine r_aload_n hg 1 d_Bench_setEdge_31 rfl rfl ?_
  refine r_get (v := .ref 85) hg c_Bench (by decide) rfl (Nat.le_of_ble_eq_true rfl) rfl wf_Bench_11 d_Bench_setEdge_32 rfl ?_
  refine r_callV (As := [.ref 85]) hg (t_History_save  μ_24) v_History_save c_History rfl (by decide) rfl wm_Bench_88 d_Bench_setEdge_35 rfl ⟨by decide, by decide⟩ (Nat.le_of_ble_eq_true rfl) rfl (fun r35 μ_35 _ => ?_)
  refine r_aload hg 0 d_Bench_setEdge_38 rfl ?_
  refine r_iload_n hg 3 d_Bench_setEdge_40 rfl rfl ?_
  refine r_iload_n hg 4 d_Bench_setEdge_41 rfl rfl ?_
  refine r_callV (As := [.int v2, .int v3]) hg (t_Graph_between r2 (f_Bench_graphAt_G e_2) v2 v3 μ_35) v_Graph_between c_Graph rfl (h_G_lt (f_Bench_graphAt_G e_2)) (h_G_kd (f_Bench_graphAt_G e_2)) wm_Bench_107 d_Bench_setEdge_42 rfl ⟨by decide, by decide⟩ (Nat.le_of_ble_eq_true rfl) rfl (fun r42 μ_42 _ => ?_)
  refine r_istore (l' := [(6, .int r42), (5, .ref r2), (0, .ref 84), (1, .int v1), (2, .int v2), (3, .int v3), (4, .int v4)]) hg d_Bench_setEdge_45 (Nat.le_of_ble_eq_true rfl) rfl ?_
  refine r_aload hg 1 d_Bench_setEdge_47 rfl ?_
  refine r_iload_n hg 4 d_Bench_setEdge_49 rfl rfl ?_
  refine r_iload_n hg 5 d_Bench_setEdge_50 rfl rfl ?_
  refine r_iload hg 6 d_Bench_setEdge_51 rfl ?_
  refine r_callV (As := [.int v2, .int v3, .int v4]) hg (t_Graph_join r2 (f_Bench_graphAt_G e_2) v2 v3 v4 μ_42) v_Graph_join c_Graph rfl (h_G_lt (f_Bench_graphAt_G e_2)) (h_G_kd (f_Bench_graphAt_G e_2)) wm_Bench_111 d_Bench_setEdge_53 rfl ⟨by decide, by decide⟩ (Nat.le_of_ble_eq_true rfl) rfl (fun r53 μ_53 _ => ?_)
  refine r_iload hg 0 d_Bench_setEdge_56 rfl ?_
  exact r_xiret hg hA ⟨by decide, by decide⟩ rfl d_Bench_setEdge_58 rfl
theorem t_Bench_setEdge (v1 : Int32) (v2 : Int32) (v3 : Int32) (v4 : Int32) (μ : HMem) : HSpecX y_Bench_setEdge b_Bench_setEdge 7 (some .int) 7 4 h_eI [.ref 84, .int v1, .int v2, .int v3, .int v4] μ (f_Bench_setEdge v1 v2 v3 v4 μ) :=
  HSpecX.of (by decide +kernel) (v_Bench_setEdge.1 _ (by simp)) (Nat.le_of_ble_eq_true rfl) (fun cx hA hg hT => t_Bench_setEdge_0 hg hA hT v1 v2 v3 v4 μ)
theorem t_Bench_make_0 {cx : HCx} (hg : HGood cx R_Bench b_Bench_make 5 7 (some .int)) (hA : h_own cx) (hT : HThr cx 3) (v1 : Int32) (v2 : Int32) (v3 : Int32) (μ : HMem) : HX cx (HQx cx 3 h_eI) (f_Bench_make v1 v2 v3 μ) 0 0 0 [(0, .ref 84), (1, .int v1), (2, .int v2), (3, .int v3)] [] μ := by
  unfold f_Bench_make
  refine r_aload_n hg 0 d_Bench_make_0 rfl rfl ?_
  refine r_iload_n hg 1 d_Bench_make_1 rfl rfl ?_
  refine r_xcallV (As := [.int v1]) hg hA hT (t_Bench_graphAt v1 μ) v_Bench_graphAt c_Bench rfl (by decide) rfl wm_Bench_80 d_Bench_make_2 rfl ⟨by decide, by decide⟩ ⟨by decide, by decide⟩ (Nat.le_of_ble_eq_true rfl) rfl (fun r2 μ_2 e_2 => ?_)
  refine r_astore (l' := [(4, .ref r2), (0, .ref 84), (1, .int v1), (2, .int v2), (3, .int v3)]) hg d_Bench_make_5 (Nat.le_of_ble_eq_true rfl) rfl ?_
  refine r_iload_n hg 3 d_Bench_make_7 rfl rfl ?_
  refine r_iconst (v := 0) hg d_Bench_make_8 (by decide) ?_
  refine r_iconst (v := 4) hg d_Bench_make_9 (by decide) ?_
  refine r_xcallS (As := [.int v2, .int 0, .int 4]) hg hA hT (t_Bench_requireRange v2 0 4 μ_2) v_Bench_requireRange wm_Bench_84 d_Bench_make_10 rfl ⟨by decide, by decide⟩ ⟨by decide, by decide⟩ (Nat.le_of_ble_eq_true rfl) rfl (fun r10 μ_10 e_10 => ?_)
  refine r_iload_n hg 4 d_Bench_make_13 rfl rfl ?_
  refine r_iconst (v := 0) hg d_Bench_make_14 (by decide) ?_
  refine r_bipush (v := 8) hg d_Bench_make_15 (by decide) ?_
  refine r_xcallS (As := [.int v3, .int 0, .int 8]) hg hA hT (t_Bench_requireRange v3 0 8 μ_10) v_Bench_requireRange wm_Bench_84 d_Bench_make_17 rfl ⟨by decide, by decide⟩ ⟨by decide, by decide⟩ (Nat.le_of_ble_eq_true rfl) rfl (fun r17 μ_17 e_17 => ?_)
  refine r_aload_n hg 1 d_Bench_make_20 rfl rfl ?_
  refine r_get (v := .ref 86) hg c_Bench (by decide) rfl (Nat.le_of_ble_eq_true rfl) rfl wf_Bench_23 d_Bench_make_21 rfl ?_
  refine r_aload_n hg 1 d_Bench_make_24 rfl rfl ?_
  refine r_get (v := .ref 85) hg c_Bench (by decide) rfl (Nat.le_of_ble_eq_true rfl) rfl wf_Bench_11 d_Bench_make_25 rfl ?_
  refine r_callV (As := [.ref 85]) hg (t_History_save  μ_17) v_History_save c_History rfl (by decide) rfl wm_Bench_88 d_Bench_make_28 rfl ⟨by decide, by decide⟩ (Nat.le_of_ble_eq_true rfl) rfl (fun r28 μ_28 _ => ?_)
  refine r_aload hg 0 d_Bench_make_31 rfl ?_
  refine r_iload_n hg 4 d_Bench_make_33 rfl rfl ?_
  refine r_callV (As := [.int v3]) hg (t_Graph_reset r2 (f_Bench_graphAt_G e_2) v3 μ_28) v_Graph_reset c_Graph rfl (h_G_lt (f_Bench_graphAt_G e_2)) (h_G_kd (f_Bench_graphAt_G e_2)) wm_Bench_96 d_Bench_make_34 rfl ⟨by decide, by decide⟩ (Nat.le_of_ble_eq_true rfl) rfl (fun r34 μ_34 _ => ?_)
  refine r_aload hg 0 d_Bench_make_37 rfl ?_
  refine r_iload_n hg 3 d_Bench_make_39 rfl rfl ?_
  refine r_callV (As := [.int v2]) hg (t_Graph_joinFamily r2 (f_Bench_graphAt_G e_2) v2 μ_34) v_Graph_joinFamily c_Graph rfl (h_G_lt (f_Bench_graphAt_G e_2)) (h_G_kd (f_Bench_graphAt_G e_2)) wm_Bench_114 d_Bench_make_40 rfl ⟨by decide, by decide⟩ (Nat.le_of_ble_eq_true rfl) rfl (fun r40 μ_40 _ => ?_)
  refine r_aload hg 0 d_Bench_make_43 rfl ?_
  refine r_callV (As := []) hg (t_Graph_edgeCount r2 (f_Bench_graphAt_G e_2) μ_40) v_Graph_edgeCount c_Graph rfl (h_G_lt (f_Bench_graphAt_G e_2)) (h_G_kd (f_Bench_graphAt_G e_2)) wm_Bench_117 d_Bench_make_45 rfl ⟨by decide, by decide⟩ (Nat.le_of_ble_eq_true rfl) rfl (fun r45 μ_45 _ => ?_)
  refine r_aload hg 0 d_Bench_make_48 rfl ?_
  refine r_callV (As := []) hg (t_Graph_loopCount r2 (f_Bench_graphAt_G e_2) μ_45) v_Graph_loopCount c_Graph rfl (h_G_lt (f_Bench_graphAt_G e_2)) (h_G_kd (f_Bench_graphAt_G e_2)) wm_Bench_121 d_Bench_make_50 rfl ⟨by decide, by decide⟩ (Nat.le_of_ble_eq_true rfl) rfl (fun r50 μ_50 _ => ?_)
  refine r_iadd hg d_Bench_make_53 ?_
  exact r_xiret hg hA ⟨by decide, by decide⟩ rfl d_Bench_make_54 rfl
theorem t_Bench_make (v1 : Int32) (v2 : Int32) (v3 : Int32) (μ : HMem) : HSpecX y_Bench_make b_Bench_make 5 (some .int) 7 3 h_eI [.ref 84, .int v1, .int v2, .int v3] μ (f_Bench_make v1 v2 v3 μ) :=
  HSpecX.of (by decide +kernel) (v_Bench_make.1 _ (by simp)) (Nat.le_of_ble_eq_true rfl) (fun cx hA hg hT => t_Bench_make_0 hg hA hT v1 v2 v3 μ)
theorem t_Bench_random_0 {cx : HCx} (hg : HGood cx R_Bench b_Bench_random 6 7 (some .int)) (hA : h_own cx) (hT : HThr cx 4) (v1 : Int32) (v2 : Int32) (v3 : Int32) (v4 : Int32) (μ : HMem) : HX cx (HQx cx 4 h_eI) (f_Bench_random v1 v2 v3 v4 μ) 0 0 0 [(0, .ref 84), (1, .int v1), (2, .int v2), (3, .int v3), (4, .int v4)] [] μ := by
  unfold f_Bench_random
  refine r_aload_n hg 0 d_Bench_random_0 rfl rfl ?_
  refine r_iload_n hg 1 d_Bench_random_1 rfl rfl ?_
  refine r_xcallV (As := [.int v1]) hg hA hT (t_Bench_graphAt v1 μ) v_Bench_graphAt c_Bench rfl (by decide) rfl wm_Bench_80 d_Bench_random_2 rfl ⟨by decide, by decide⟩ ⟨by decide, by decide⟩ (Nat.le_of_ble_eq_true rfl) rfl (fun r2 μ_2 e_2 => ?_)
  refine r_astore (l' := [(5, .ref r2), (0, .ref 84), (1, .int v1), (2, .int v2), (3, .int v3), (4, .int v4)]) hg d_Bench_random_5 (Nat.le_of_ble_eq_true rfl) rfl ?_
  refine r_iload_n hg 3 d_Bench_random_7 rfl rfl ?_
  refine r_iconst (v := 0) hg d_Bench_random_8 (by decide) ?_
  refine r_bipush (v := 8) hg d_Bench_random_9 (by decide) ?_
  refine r_xcallS (As := [.int v2, .int 0, .int 8]) hg hA hT (t_Bench_requireRange v2 0 8 μ_2) v_Bench_requireRange wm_Bench_84 d_Bench_random_11 rfl ⟨by decide, by decide⟩ ⟨by decide, by decide⟩ (Nat.le_of_ble_eq_true rfl) rfl (fun r11 μ_11 e_11 => ?_)
  refine r_iload_n hg 4 d_Bench_random_14 rfl rfl ?_
  refine r_iconst (v := 0) hg d_Bench_random_15 (by decide) ?_
  refine r_ldc hg wc_Bench_124 d_Bench_random_16 ?_
  refine r_xcallS (As := [.int v3, .int 0, .int 999999]) hg hA hT (t_Bench_requireRange v3 0 999999 μ_11) v_Bench_requireRange wm_Bench_84 d_Bench_random_18 rfl ⟨by decide, by decide⟩ ⟨by decide, by decide⟩ (Nat.le_of_ble_eq_true rfl) rfl (fun r18 μ_18 e_18 => ?_)
  refine r_iload hg 5 d_Bench_random_21 rfl ?_
  refine r_iconst (v := 0) hg d_Bench_random_23 (by decide) ?_
  refine r_bipush (v := 100) hg d_Bench_random_24 (by decide) ?_
  refine r_xcallS (As := [.int v4, .int 0, .int 100]) hg hA hT (t_Bench_requireRange v4 0 100 μ_18) v_Bench_requireRange wm_Bench_84 d_Bench_random_26 rfl ⟨by decide, by decide⟩ ⟨by decide, by decide⟩ (Nat.le_of_ble_eq_true rfl) rfl (fun r26 μ_26 e_26 => ?_)
  refine r_aload_n hg 1 d_Bench_random_29 rfl rfl ?_
  refine r_get (v := .ref 86) hg c_Bench (by decide) rfl (Nat.le_of_ble_eq_true rfl) rfl wf_Bench_23 d_Bench_random_30 rfl ?_
  refine r_aload_n hg 1 d_Bench_random_33 rfl rfl ?_
  refine r_get (v := .ref 85) hg c_Bench (by decide) rfl (Nat.le_of_ble_eq_true rfl) rfl wf_Bench_11 d_Bench_random_34 rfl ?_
  refine r_callV (As := [.ref 85]) hg (t_History_save  μ_26) v_History_save c_History rfl (by decide) rfl wm_Bench_88 d_Bench_random_37 rfl ⟨by decide, by decide⟩ (Nat.le_of_ble_eq_true rfl) rfl (fun r37 μ_37 _ => ?_)
  refine r_aload hg 0 d_Bench_random_40 rfl ?_
  refine r_iload_n hg 3 d_Bench_random_42 rfl rfl ?_
  refine r_callV (As := [.int v2]) hg (t_Graph_reset r2 (f_Bench_graphAt_G e_2) v2 μ_37) v_Graph_reset c_Graph rfl (h_G_lt (f_Bench_graphAt_G e_2)) (h_G_kd (f_Bench_graphAt_G e_2)) wm_Bench_96 d_Bench_random_43 rfl ⟨by decide, by decide⟩ (Nat.le_of_ble_eq_true rfl) rfl (fun r43 μ_43 _ => ?_)
  refine r_aload hg 0 d_Bench_random_46 rfl ?_
  refine r_iload_n hg 4 d_Bench_random_48 rfl rfl ?_
  refine r_iload hg 5 d_Bench_random_49 rfl ?_
  refine r_callV (As := [.int v3, .int v4]) hg (t_Graph_joinRandomly r2 (f_Bench_graphAt_G e_2) v3 v4 μ_43) v_Graph_joinRandomly c_Graph rfl (h_G_lt (f_Bench_graphAt_G e_2)) (h_G_kd (f_Bench_graphAt_G e_2)) wm_Bench_125 d_Bench_random_51 rfl ⟨by decide, by decide⟩ (Nat.le_of_ble_eq_true rfl) rfl (fun r51 μ_51 _ => ?_)
  refine r_aload hg 0 d_Bench_random_54 rfl ?_
  refine r_callV (As := []) hg (t_Graph_edgeCount r2 (f_Bench_graphAt_G e_2) μ_51) v_Graph_edgeCount c_Graph rfl (h_G_lt (f_Bench_graphAt_G e_2)) (h_G_kd (f_Bench_graphAt_G e_2)) wm_Bench_117 d_Bench_random_56 rfl ⟨by decide, by decide⟩ (Nat.le_of_ble_eq_true rfl) rfl (fun r56 μ_56 _ => ?_)
  exact r_xiret hg hA ⟨by decide, by decide⟩ rfl d_Bench_random_59 rfl
theorem t_Bench_random (v1 : Int32) (v2 : Int32) (v3 : Int32) (v4 : Int32) (μ : HMem) : HSpecX y_Bench_random b_Bench_random 6 (some .int) 7 4 h_eI [.ref 84, .int v1, .int v2, .int v3, .int v4] μ (f_Bench_random v1 v2 v3 v4 μ) :=
  HSpecX.of (by decide +kernel) (v_Bench_random.1 _ (by simp)) (Nat.le_of_ble_eq_true rfl) (fun cx hA hg hT => t_Bench_random_0 hg hA hT v1 v2 v3 v4 μ)
theorem t_Bench_combine_J161 {cx : HCx} (hg : HGood cx R_Bench b_Bench_combine 9 7 (some .int)) (hA : h_own cx) (hT : HThr cx 5)   (a5 : Nat) (h_a5 : HIsG a5) (μ : HMem) : HX cx (HQx cx 5 h_eI) (f_Bench_combine_J161   a5 μ) 4 24 161 [(0, .ref 84), (5, .ref a5)] [] μ := by
  unfold f_Bench_combine_J161
  refine r_aload hg 1 d_Bench_combine_161 rfl ?_
  refine r_aload_n hg 0 d_Bench_combine_163 rfl rfl ?_
  refine r_get (v := .ref 16) hg c_Bench (by decide) rfl (Nat.le_of_ble_eq_true rfl) rfl wf_Bench_16 d_Bench_combine_164 rfl ?_
  refine r_callV (As := [.ref 16]) hg (t_Graph_copyFrom a5 h_a5 16 (h_G_c 16 (by decide)) μ) v_Graph_copyFrom c_Graph rfl (h_G_lt h_a5) (h_G_kd h_a5) wm_Bench_147 d_Bench_combine_167 rfl ⟨by decide, by decide⟩ (Nat.le_of_ble_eq_true rfl) rfl (fun r167 μ_167 _ => ?_)
  refine r_aload hg 1 d_Bench_combine_170 rfl ?_
  refine r_get (v := .int (μ_167.1 a5 0)) hg c_Graph (h_G_lt h_a5) (h_G_kd h_a5) (Nat.le_of_ble_eq_true rfl) (h_G_fl0 h_a5) wf_Bench_92 d_Bench_combine_172 rfl ?_
  exact r_xiret hg hA ⟨by decide, by decide⟩ rfl d_Bench_combine_175 rfl
theorem t_Bench_combine_J158 {cx : HCx} (hg : HGood cx R_Bench b_Bench_combine 9 7 (some .int)) (hA : h_own cx) (hT : HThr cx 5)   (a5 : Nat) (h_a5 : HIsG a5) (s0 : Int32) (b1 : Nat) (h_b1 : HIsG b1) (b2 : Nat) (h_b2 : HIsG b2) (μ : HMem) : HX cx (HQx cx 5 h_eI) (f_Bench_combine_J158   a5 s0 b1 b2 μ) 4 24 158 [(0, .ref 84), (5, .ref a5)] [.int s0, .ref b1, .ref b2, .ref 16] μ := by
  unfold f_Bench_combine_J158
  refine r_callV (As := [.ref b2, .ref b1, .int s0]) hg (t_Graph_multiply 16 (h_G_c 16 (by decide)) b2 h_b2 b1 h_b1 s0 μ) v_Graph_multiply c_Graph rfl (by decide) rfl wm_Bench_143 d_Bench_combine_158 rfl ⟨by decide, by decide⟩ (Nat.le_of_ble_eq_true rfl) rfl (fun r158 μ_158 _ => ?_)
  exact t_Bench_combine_J161 hg hA hT a5 h_a5 μ_158
theorem t_Bench_combine_J58 {cx : HCx} (hg : HGood cx R_Bench b_Bench_combine 9 7 (some .int)) (hA : h_own cx) (hT : HThr cx 5)   (v4 : Int32) (a5 : Nat) (h_a5 : HIsG a5) (a6 : Nat) (h_a6 : HIsG a6) (a7 : Nat) (h_a7 : HIsG a7) (s0 : Int32) (μ : HMem) : HX cx (HQx cx 5 h_eI) (f_Bench_combine_J58   v4 a5 a6 a7 s0 μ) 4 24 58 [(0, .ref 84), (4, .int v4), (5, .ref a5), (6, .ref a6), (7, .ref a7)] [.int s0] μ := by
  unfold f_Bench_combine_J58
  refine r_istore (l' := [(8, .int s0), (0, .ref 84), (4, .int v4), (5, .ref a5), (6, .ref a6), (7, .ref a7)]) hg d_Bench_combine_58 (Nat.le_of_ble_eq_true rfl) rfl ?_
  refine r_iload hg 0 d_Bench_combine_60 rfl ?_
  refine r_bipush (v := 8) hg d_Bench_combine_62 (by decide) ?_
  refine r_icmp_le (tgt := 77) hg d_Bench_combine_64 (by decide) ?_ ?_
  · refine r_aload_n hg 1 d_Bench_combine_77 rfl rfl ?_
    refine r_get (v := .ref 86) hg c_Bench (by decide) rfl (Nat.le_of_ble_eq_true rfl) rfl wf_Bench_23 d_Bench_combine_78 rfl ?_
    refine r_aload_n hg 1 d_Bench_combine_81 rfl rfl ?_
    refine r_get (v := .ref 85) hg c_Bench (by decide) rfl (Nat.le_of_ble_eq_true rfl) rfl wf_Bench_11 d_Bench_combine_82 rfl ?_
    refine r_callV (As := [.ref 85]) hg (t_History_save  μ) v_History_save c_History rfl (by decide) rfl wm_Bench_88 d_Bench_combine_85 rfl ⟨by decide, by decide⟩ (Nat.le_of_ble_eq_true rfl) rfl (fun r85 μ_85 _ => ?_)
    refine r_aload_n hg 1 d_Bench_combine_88 rfl rfl ?_
    refine r_get (v := .ref 16) hg c_Bench (by decide) rfl (Nat.le_of_ble_eq_true rfl) rfl wf_Bench_16 d_Bench_combine_89 rfl ?_
    refine r_iload hg 0 d_Bench_combine_92 rfl ?_
    refine r_callV (As := [.int s0]) hg (t_Graph_reset 16 (h_G_c 16 (by decide)) s0 μ_85) v_Graph_reset c_Graph rfl (by decide) rfl wm_Bench_96 d_Bench_combine_94 rfl ⟨by decide, by decide⟩ (Nat.le_of_ble_eq_true rfl) rfl (fun r94 μ_94 _ => ?_)
    refine r_iload hg 2 d_Bench_combine_97 rfl ?_
    refine r_if_ne (tgt := 139) hg d_Bench_combine_99 (by decide) ?_ ?_
    · refine r_aload_n hg 1 d_Bench_combine_139 rfl rfl ?_
      refine r_get (v := .ref 16) hg c_Bench (by decide) rfl (Nat.le_of_ble_eq_true rfl) rfl wf_Bench_16 d_Bench_combine_140 rfl ?_
      refine r_aload hg 4 d_Bench_combine_143 rfl ?_
      refine r_aload hg 5 d_Bench_combine_145 rfl ?_
      refine r_iload hg 2 d_Bench_combine_147 rfl ?_
      refine r_iconst (v := 2) hg d_Bench_combine_149 (by decide) ?_
      refine r_icmp_ne (tgt := 157) hg d_Bench_combine_150 (by decide) ?_ ?_
      · refine r_iconst (v := 0) hg d_Bench_combine_157 (by decide) ?_
        refine r_sub [1, 3] rfl ?_
        exact t_Bench_combine_J158 hg hA hT a5 h_a5 0 a7 h_a7 a6 h_a6 μ_94
      · refine r_iconst (v := 1) hg d_Bench_combine_153 (by decide) ?_
        refine r_goto (tgt := 158) hg d_Bench_combine_154 (by decide) ?_
        refine r_sub [1, 3] rfl ?_
        exact t_Bench_combine_J158 hg hA hT a5 h_a5 1 a7 h_a7 a6 h_a6 μ_94
    · refine r_aload_n hg 1 d_Bench_combine_102 rfl rfl ?_
      refine r_get (v := .ref 16) hg c_Bench (by decide) rfl (Nat.le_of_ble_eq_true rfl) rfl wf_Bench_16 d_Bench_combine_103 rfl ?_
      refine r_aload hg 4 d_Bench_combine_106 rfl ?_
      refine r_aload hg 4 d_Bench_combine_108 rfl ?_
      refine r_callV (As := []) hg (t_Graph_all a6 h_a6 μ_94) v_Graph_all c_Graph rfl (h_G_lt h_a6) (h_G_kd h_a6) wm_Bench_136 d_Bench_combine_110 rfl ⟨by decide, by decide⟩ (Nat.le_of_ble_eq_true rfl) rfl (fun r110 μ_110 _ => ?_)
      refine r_iconst (v := 0) hg d_Bench_combine_113 (by decide) ?_
      refine r_callV (As := [.ref a6, .int r110, .int 0]) hg (t_Graph_place 16 (h_G_c 16 (by decide)) a6 h_a6 r110 0 μ_110) v_Graph_place c_Graph rfl (by decide) rfl wm_Bench_139 d_Bench_combine_114 rfl ⟨by decide, by decide⟩ (Nat.le_of_ble_eq_true rfl) rfl (fun r114 μ_114 _ => ?_)
      refine r_aload_n hg 1 d_Bench_combine_117 rfl rfl ?_
      refine r_get (v := .ref 16) hg c_Bench (by decide) rfl (Nat.le_of_ble_eq_true rfl) rfl wf_Bench_16 d_Bench_combine_118 rfl ?_
      refine r_aload hg 5 d_Bench_combine_121 rfl ?_
      refine r_aload hg 5 d_Bench_combine_123 rfl ?_
      refine r_callV (As := []) hg (t_Graph_all a7 h_a7 μ_114) v_Graph_all c_Graph rfl (h_G_lt h_a7) (h_G_kd h_a7) wm_Bench_136 d_Bench_combine_125 rfl ⟨by decide, by decide⟩ (Nat.le_of_ble_eq_true rfl) rfl (fun r125 μ_125 _ => ?_)
      refine r_aload hg 4 d_Bench_combine_128 rfl ?_
      refine r_get (v := .int (μ_125.1 a6 0)) hg c_Graph (h_G_lt h_a6) (h_G_kd h_a6) (Nat.le_of_ble_eq_true rfl) (h_G_fl0 h_a6) wf_Bench_92 d_Bench_combine_130 rfl ?_
      refine r_callV (As := [.ref a7, .int r125, .int (μ_125.1 a6 0)]) hg (t_Graph_place 16 (h_G_c 16 (by decide)) a7 h_a7 r125 (μ_125.1 a6 0) μ_125) v_Graph_place c_Graph rfl (by decide) rfl wm_Bench_139 d_Bench_combine_133 rfl ⟨by decide, by decide⟩ (Nat.le_of_ble_eq_true rfl) rfl (fun r133 μ_133 _ => ?_)
      refine r_goto (tgt := 161) hg d_Bench_combine_136 (by decide) ?_
      refine r_sub [1, 3] rfl ?_
      exact t_Bench_combine_J161 hg hA hT a5 h_a5 μ_133
  · exact r_throw (text := "too many vertices") hg hA hT h_site3 (by decide) d_Bench_combine_67 d_Bench_combine_70 d_Bench_combine_71 d_Bench_combine_73 d_Bench_combine_76 (by decide) (Nat.le_of_ble_eq_true rfl) ⟨by decide, by decide⟩
theorem t_Bench_combine_0 {cx : HCx} (hg : HGood cx R_Bench b_Bench_combine 9 7 (some .int)) (hA : h_own cx) (hT : HThr cx 5) (v1 : Int32) (v2 : Int32) (v3 : Int32) (v4 : Int32) (μ : HMem) : HX cx (HQx cx 5 h_eI) (f_Bench_combine v1 v2 v3 v4 μ) 0 0 0 [(0, .ref 84), (1, .int v1), (2, .int v2), (3, .int v3), (4, .int v4)] [] μ := by
  unfold f_Bench_combine
  refine r_aload_n hg 0 d_Bench_combine_0 rfl rfl ?_
  refine r_iload_n hg 1 d_Bench_combine_1 rfl rfl ?_
  refine r_xcallV (As := [.int v1]) hg hA hT (t_Bench_graphAt v1 μ) v_Bench_graphAt c_Bench rfl (by decide) rfl wm_Bench_80 d_Bench_combine_2 rfl ⟨by decide, by decide⟩ ⟨by decide, by decide⟩ (Nat.le_of_ble_eq_true rfl) rfl (fun r2 μ_2 e_2 => ?_)
  refine r_astore (l' := [(5, .ref r2), (0, .ref 84), (1, .int v1), (2, .int v2), (3, .int v3), (4, .int v4)]) hg d_Bench_combine_5 (Nat.le_of_ble_eq_true rfl) rfl ?_
  refine r_aload_n hg 1 d_Bench_combine_7 rfl rfl ?_
  refine r_iload_n hg 3 d_Bench_combine_8 rfl rfl ?_
  refine r_xcallV (As := [.int v2]) hg hA hT (t_Bench_graphAt v2 μ_2) v_Bench_graphAt c_Bench rfl (by decide) rfl wm_Bench_80 d_Bench_combine_9 rfl ⟨by decide, by decide⟩ ⟨by decide, by decide⟩ (Nat.le_of_ble_eq_true rfl) rfl (fun r9 μ_9 e_9 => ?_)
  refine r_astore (l' := [(6, .ref r9), (5, .ref r2), (0, .ref 84), (1, .int v1), (2, .int v2), (3, .int v3), (4, .int v4)]) hg d_Bench_combine_12 (Nat.le_of_ble_eq_true rfl) rfl ?_
  refine r_aload_n hg 2 d_Bench_combine_14 rfl rfl ?_
  refine r_iload_n hg 5 d_Bench_combine_15 rfl rfl ?_
  refine r_xcallV (As := [.int v3]) hg hA hT (t_Bench_graphAt v3 μ_9) v_Bench_graphAt c_Bench rfl (by decide) rfl wm_Bench_80 d_Bench_combine_16 rfl ⟨by decide, by decide⟩ ⟨by decide, by decide⟩ (Nat.le_of_ble_eq_true rfl) rfl (fun r16 μ_16 e_16 => ?_)
  refine r_astore (l' := [(7, .ref r16), (6, .ref r9), (5, .ref r2), (0, .ref 84), (1, .int v1), (2, .int v2), (3, .int v3), (4, .int v4)]) hg d_Bench_combine_19 (Nat.le_of_ble_eq_true rfl) rfl ?_
  refine r_iload hg 7 d_Bench_combine_21 rfl ?_
  refine r_iconst (v := 0) hg d_Bench_combine_23 (by decide) ?_
  refine r_iconst (v := 2) hg d_Bench_combine_24 (by decide) ?_
  refine r_xcallS (As := [.int v4, .int 0, .int 2]) hg hA hT (t_Bench_requireRange v4 0 2 μ_16) v_Bench_requireRange wm_Bench_84 d_Bench_combine_25 rfl ⟨by decide, by decide⟩ ⟨by decide, by decide⟩ (Nat.le_of_ble_eq_true rfl) rfl (fun r25 μ_25 e_25 => ?_)
  refine r_iload hg 7 d_Bench_combine_28 rfl ?_
  refine r_if_ne (tgt := 47) hg d_Bench_combine_30 (by decide) ?_ ?_
  · refine r_aload hg 1 d_Bench_combine_47 rfl ?_
    refine r_get (v := .int (μ_25.1 r9 0)) hg c_Graph (h_G_lt (f_Bench_graphAt_G e_9)) (h_G_kd (f_Bench_graphAt_G e_9)) (Nat.le_of_ble_eq_true rfl) (h_G_fl0 (f_Bench_graphAt_G e_9)) wf_Bench_92 d_Bench_combine_49 rfl ?_
    refine r_aload hg 0 d_Bench_combine_52 rfl ?_
    refine r_get (v := .int (μ_25.1 r16 0)) hg c_Graph (h_G_lt (f_Bench_graphAt_G e_16)) (h_G_kd (f_Bench_graphAt_G e_16)) (Nat.le_of_ble_eq_true rfl) (h_G_fl0 (f_Bench_graphAt_G e_16)) wf_Bench_92 d_Bench_combine_54 rfl ?_
    refine r_imul hg d_Bench_combine_57 ?_
    refine r_sub [3, 7, 2, 1, 0] rfl ?_
    exact t_Bench_combine_J58 hg hA hT v4 r2 (f_Bench_graphAt_G e_2) r9 (f_Bench_graphAt_G e_9) r16 (f_Bench_graphAt_G e_16) ((μ_25.1 r9 0) * (μ_25.1 r16 0)) μ_25
  · refine r_aload hg 1 d_Bench_combine_33 rfl ?_
    refine r_get (v := .int (μ_25.1 r9 0)) hg c_Graph (h_G_lt (f_Bench_graphAt_G e_9)) (h_G_kd (f_Bench_graphAt_G e_9)) (Nat.le_of_ble_eq_true rfl) (h_G_fl0 (f_Bench_graphAt_G e_9)) wf_Bench_92 d_Bench_combine_35 rfl ?_
    refine r_aload hg 0 d_Bench_combine_38 rfl ?_
    refine r_get (v := .int (μ_25.1 r16 0)) hg c_Graph (h_G_lt (f_Bench_graphAt_G e_16)) (h_G_kd (f_Bench_graphAt_G e_16)) (Nat.le_of_ble_eq_true rfl) (h_G_fl0 (f_Bench_graphAt_G e_16)) wf_Bench_92 d_Bench_combine_40 rfl ?_
    refine r_iadd hg d_Bench_combine_43 ?_
    refine r_goto (tgt := 58) hg d_Bench_combine_44 (by decide) ?_
    refine r_sub [3, 7, 2, 1, 0] rfl ?_
    exact t_Bench_combine_J58 hg hA hT v4 r2 (f_Bench_graphAt_G e_2) r9 (f_Bench_graphAt_G e_9) r16 (f_Bench_graphAt_G e_16) ((μ_25.1 r9 0) + (μ_25.1 r16 0)) μ_25
theorem t_Bench_combine (v1 : Int32) (v2 : Int32) (v3 : Int32) (v4 : Int32) (μ : HMem) : HSpecX y_Bench_combine b_Bench_combine 9 (some .int) 7 5 h_eI [.ref 84, .int v1, .int v2, .int v3, .int v4] μ (f_Bench_combine v1 v2 v3 v4 μ) :=
  HSpecX.of (by decide +kernel) (v_Bench_combine.1 _ (by simp)) (Nat.le_of_ble_eq_true rfl) (fun cx hA hg hT => t_Bench_combine_0 hg hA hT v1 v2 v3 v4 μ)
theorem t_Bench_derive_J122 {cx : HCx} (hg : HGood cx R_Bench b_Bench_derive 7 22 (some .int)) (hA : h_own cx) (hT : HThr cx 4)   (a5 : Nat) (h_a5 : HIsG a5) (μ : HMem) : HX cx (HQx cx 4 h_eI) (f_Bench_derive_J122   a5 μ) 4 24 122 [(0, .ref 84), (5, .ref a5)] [] μ := by
  unfold f_Bench_derive_J122
  refine r_aload hg 1 d_Bench_derive_122 rfl ?_
  refine r_aload_n hg 0 d_Bench_derive_124 rfl rfl ?_
  refine r_get (v := .ref 16) hg c_Bench (by decide) rfl (Nat.le_of_ble_eq_true rfl) rfl wf_Bench_16 d_Bench_derive_125 rfl ?_
  refine r_callV (As := [.ref 16]) hg (t_Graph_copyFrom a5 h_a5 16 (h_G_c 16 (by decide)) μ) v_Graph_copyFrom c_Graph rfl (h_G_lt h_a5) (h_G_kd h_a5) wm_Bench_147 d_Bench_derive_128 rfl ⟨by decide, by decide⟩ (Nat.le_of_ble_eq_true rfl) rfl (fun r128 μ_128 _ => ?_)
  refine r_aload hg 1 d_Bench_derive_131 rfl ?_
  refine r_get (v := .int (μ_128.1 a5 0)) hg c_Graph (h_G_lt h_a5) (h_G_kd h_a5) (Nat.le_of_ble_eq_true rfl) (h_G_fl0 h_a5) wf_Bench_92 d_Bench_derive_133 rfl ?_
  exact r_xiret hg hA ⟨by decide, by decide⟩ rfl d_Bench_derive_136 rfl
theorem t_Bench_derive_J37 {cx : HCx} (hg : HGood cx R_Bench b_Bench_derive 7 22 (some .int)) (hA : h_own cx) (hT : HThr cx 4)   (v3 : Int32) (v4 : Int32) (a5 : Nat) (h_a5 : HIsG a5) (a6 : Nat) (h_a6 : HIsG a6) (s0 : Int32) (s1 : Int32) (s2 : Int32) (μ : HMem) : HX cx (HQx cx 4 h_eI) (f_Bench_derive_J37   v3 v4 a5 a6 s0 s1 s2 μ) 3 18 37 [(0, .ref 84), (3, .int v3), (4, .int v4), (5, .ref a5), (6, .ref a6)] [.int s0, .int s1, .int s2] μ := by
  unfold f_Bench_derive_J37
  refine r_xcallS (As := [.int s2, .int s1, .int s0]) hg hA hT (t_Bench_requireRange s2 s1 s0 μ) v_Bench_requireRange wm_Bench_84 d_Bench_derive_37 rfl ⟨by decide, by decide⟩ ⟨by decide, by decide⟩ (Nat.le_of_ble_eq_true rfl) rfl (fun r37 μ_37 e_37 => ?_)
  refine r_aload_n hg 0 d_Bench_derive_40 rfl rfl ?_
  refine r_get (v := .ref 86) hg c_Bench (by decide) rfl (Nat.le_of_ble_eq_true rfl) rfl wf_Bench_23 d_Bench_derive_41 rfl ?_
  refine r_aload_n hg 0 d_Bench_derive_44 rfl rfl ?_
  refine r_get (v := .ref 85) hg c_Bench (by decide) rfl (Nat.le_of_ble_eq_true rfl) rfl wf_Bench_11 d_Bench_derive_45 rfl ?_
  refine r_callV (As := [.ref 85]) hg (t_History_save  μ_37) v_History_save c_History rfl (by decide) rfl wm_Bench_88 d_Bench_derive_48 rfl ⟨by decide, by decide⟩ (Nat.le_of_ble_eq_true rfl) rfl (fun r48 μ_48 _ => ?_)
  refine r_iload_n hg 1 d_Bench_derive_51 rfl rfl ?_
  refine r_iconst (v := 1) hg d_Bench_derive_52 (by decide) ?_
  refine r_icmp_ne (tgt := 68) hg d_Bench_derive_53 (by decide) ?_ ?_
  · refine r_iload_n hg 1 d_Bench_derive_68 rfl rfl ?_
    refine r_iconst (v := 2) hg d_Bench_derive_69 (by decide) ?_
    refine r_icmp_ne (tgt := 87) hg d_Bench_derive_70 (by decide) ?_ ?_
    · refine r_iload_n hg 1 d_Bench_derive_87 rfl rfl ?_
      refine r_iconst (v := 3) hg d_Bench_derive_88 (by decide) ?_
      refine r_icmp_ne (tgt := 113) hg d_Bench_derive_89 (by decide) ?_ ?_
      · refine r_aload_n hg 0 d_Bench_derive_113 rfl rfl ?_
        refine r_get (v := .ref 16) hg c_Bench (by decide) rfl (Nat.le_of_ble_eq_true rfl) rfl wf_Bench_16 d_Bench_derive_114 rfl ?_
        refine r_aload hg 4 d_Bench_derive_117 rfl ?_
        refine r_callV (As := [.ref a6]) hg (t_Graph_copyFrom 16 (h_G_c 16 (by decide)) a6 h_a6 μ_48) v_Graph_copyFrom c_Graph rfl (by decide) rfl wm_Bench_147 d_Bench_derive_119 rfl ⟨by decide, by decide⟩ (Nat.le_of_ble_eq_true rfl) rfl (fun r119 μ_119 _ => ?_)
        refine r_sub [0, 3] rfl ?_
        exact t_Bench_derive_J122 hg hA hT a5 h_a5 μ_119
      · refine r_aload_n hg 0 d_Bench_derive_92 rfl rfl ?_
        refine r_get (v := .ref 16) hg c_Bench (by decide) rfl (Nat.le_of_ble_eq_true rfl) rfl wf_Bench_16 d_Bench_derive_93 rfl ?_
        refine r_aload hg 4 d_Bench_derive_96 rfl ?_
        refine r_aload_n hg 0 d_Bench_derive_98 rfl rfl ?_
        refine r_get (v := .ref 103) hg c_Bench (by decide) rfl (Nat.le_of_ble_eq_true rfl) rfl wf_Bench_58 d_Bench_derive_99 rfl ?_
        refine r_aload hg 4 d_Bench_derive_102 rfl ?_
        refine r_callV (As := [.ref a6]) hg (t_HomSearch_coreOf a6 h_a6 μ_48) v_HomSearch_coreOf c_HomSearch rfl (by decide) rfl wm_Bench_157 d_Bench_derive_104 rfl ⟨by decide, by decide⟩ (Nat.le_of_ble_eq_true rfl) rfl (fun r104 μ_104 _ => ?_)
        refine r_callV (As := [.ref a6, .int r104]) hg (t_Graph_induce 16 (h_G_c 16 (by decide)) a6 h_a6 r104 μ_104) v_Graph_induce c_Graph rfl (by decide) rfl wm_Bench_154 d_Bench_derive_107 rfl ⟨by decide, by decide⟩ (Nat.le_of_ble_eq_true rfl) rfl (fun r107 μ_107 _ => ?_)
        refine r_goto (tgt := 122) hg d_Bench_derive_110 (by decide) ?_
        refine r_sub [0, 3] rfl ?_
        exact t_Bench_derive_J122 hg hA hT a5 h_a5 μ_107
    · refine r_aload_n hg 0 d_Bench_derive_73 rfl rfl ?_
      refine r_get (v := .ref 16) hg c_Bench (by decide) rfl (Nat.le_of_ble_eq_true rfl) rfl wf_Bench_16 d_Bench_derive_74 rfl ?_
      refine r_aload hg 4 d_Bench_derive_77 rfl ?_
      refine r_iload hg 2 d_Bench_derive_79 rfl ?_
      refine r_callV (As := [.ref a6, .int v4]) hg (t_Graph_induce 16 (h_G_c 16 (by decide)) a6 h_a6 v4 μ_48) v_Graph_induce c_Graph rfl (by decide) rfl wm_Bench_154 d_Bench_derive_81 rfl ⟨by decide, by decide⟩ (Nat.le_of_ble_eq_true rfl) rfl (fun r81 μ_81 _ => ?_)
      refine r_goto (tgt := 122) hg d_Bench_derive_84 (by decide) ?_
      refine r_sub [0, 3] rfl ?_
      exact t_Bench_derive_J122 hg hA hT a5 h_a5 μ_81
  · refine r_aload_n hg 0 d_Bench_derive_56 rfl rfl ?_
    refine r_get (v := .ref 16) hg c_Bench (by decide) rfl (Nat.le_of_ble_eq_true rfl) rfl wf_Bench_16 d_Bench_derive_57 rfl ?_
    refine r_aload hg 4 d_Bench_derive_60 rfl ?_
    refine r_callV (As := [.ref a6]) hg (t_Graph_complement 16 (h_G_c 16 (by decide)) a6 h_a6 μ_48) v_Graph_complement c_Graph rfl (by decide) rfl wm_Bench_151 d_Bench_derive_62 rfl ⟨by decide, by decide⟩ (Nat.le_of_ble_eq_true rfl) rfl (fun r62 μ_62 _ => ?_)
    refine r_goto (tgt := 122) hg d_Bench_derive_65 (by decide) ?_
    refine r_sub [0, 3] rfl ?_
    exact t_Bench_derive_J122 hg hA hT a5 h_a5 μ_62
theorem t_Bench_derive_0 {cx : HCx} (hg : HGood cx R_Bench b_Bench_derive 7 22 (some .int)) (hA : h_own cx) (hT : HThr cx 4) (v1 : Int32) (v2 : Int32) (v3 : Int32) (v4 : Int32) (μ : HMem) : HX cx (HQx cx 4 h_eI) (f_Bench_derive v1 v2 v3 v4 μ) 0 0 0 [(0, .ref 84), (1, .int v1), (2, .int v2), (3, .int v3), (4, .int v4)] [] μ := by
  unfold f_Bench_derive
  refine r_aload_n hg 0 d_Bench_derive_0 rfl rfl ?_
  refine r_iload_n hg 1 d_Bench_derive_1 rfl rfl ?_
  refine r_xcallV (As := [.int v1]) hg hA hT (t_Bench_graphAt v1 μ) v_Bench_graphAt c_Bench rfl (by decide) rfl wm_Bench_80 d_Bench_derive_2 rfl ⟨by decide, by decide⟩ ⟨by decide, by decide⟩ (Nat.le_of_ble_eq_true rfl) rfl (fun r2 μ_2 e_2 => ?_)
  refine r_astore (l' := [(5, .ref r2), (0, .ref 84), (1, .int v1), (2, .int v2), (3, .int v3), (4, .int v4)]) hg d_Bench_derive_5 (Nat.le_of_ble_eq_true rfl) rfl ?_
  refine r_aload_n hg 1 d_Bench_derive_7 rfl rfl ?_
  refine r_iload_n hg 3 d_Bench_derive_8 rfl rfl ?_
  refine r_xcallV (As := [.int v2]) hg hA hT (t_Bench_graphAt v2 μ_2) v_Bench_graphAt c_Bench rfl (by decide) rfl wm_Bench_80 d_Bench_derive_9 rfl ⟨by decide, by decide⟩ ⟨by decide, by decide⟩ (Nat.le_of_ble_eq_true rfl) rfl (fun r9 μ_9 e_9 => ?_)
  refine r_astore (l' := [(6, .ref r9), (5, .ref r2), (0, .ref 84), (1, .int v1), (2, .int v2), (3, .int v3), (4, .int v4)]) hg d_Bench_derive_12 (Nat.le_of_ble_eq_true rfl) rfl ?_
  refine r_iload_n hg 5 d_Bench_derive_14 rfl rfl ?_
  refine r_iconst (v := 0) hg d_Bench_derive_15 (by decide) ?_
  refine r_iconst (v := 3) hg d_Bench_derive_16 (by decide) ?_
  refine r_xcallS (As := [.int v3, .int 0, .int 3]) hg hA hT (t_Bench_requireRange v3 0 3 μ_9) v_Bench_requireRange wm_Bench_84 d_Bench_derive_17 rfl ⟨by decide, by decide⟩ ⟨by decide, by decide⟩ (Nat.le_of_ble_eq_true rfl) rfl (fun r17 μ_17 e_17 => ?_)
  refine r_iload hg 6 d_Bench_derive_20 rfl ?_
  refine r_iconst (v := 0) hg d_Bench_derive_22 (by decide) ?_
  refine r_iload_n hg 5 d_Bench_derive_23 rfl rfl ?_
  refine r_iconst (v := 2) hg d_Bench_derive_24 (by decide) ?_
  refine r_icmp_ne (tgt := 36) hg d_Bench_derive_25 (by decide) ?_ ?_
  · refine r_iconst (v := 0) hg d_Bench_derive_36 (by decide) ?_
    refine r_sub [2, 5, 6, 1, 0] rfl ?_
    exact t_Bench_derive_J37 hg hA hT v3 v4 r2 (f_Bench_graphAt_G e_2) r9 (f_Bench_graphAt_G e_9) 0 0 v4 μ_17
  · refine r_aload hg 0 d_Bench_derive_28 rfl ?_
    refine r_callV (As := []) hg (t_Graph_all r9 (f_Bench_graphAt_G e_9) μ_17) v_Graph_all c_Graph rfl (h_G_lt (f_Bench_graphAt_G e_9)) (h_G_kd (f_Bench_graphAt_G e_9)) wm_Bench_136 d_Bench_derive_30 rfl ⟨by decide, by decide⟩ (Nat.le_of_ble_eq_true rfl) rfl (fun r30 μ_30 _ => ?_)
    refine r_goto (tgt := 37) hg d_Bench_derive_33 (by decide) ?_
    refine r_sub [2, 5, 6, 1, 0] rfl ?_
    exact t_Bench_derive_J37 hg hA hT v3 v4 r2 (f_Bench_graphAt_G e_2) r9 (f_Bench_graphAt_G e_9) r30 0 v4 μ_30
theorem t_Bench_derive (v1 : Int32) (v2 : Int32) (v3 : Int32) (v4 : Int32) (μ : HMem) : HSpecX y_Bench_derive b_Bench_derive 7 (some .int) 22 4 h_eI [.ref 84, .int v1, .int v2, .int v3, .int v4] μ (f_Bench_derive v1 v2 v3 v4 μ) :=
  HSpecX.of (by decide +kernel) (v_Bench_derive.1 _ (by simp)) (Nat.le_of_ble_eq_true rfl) (fun cx hA hg hT => t_Bench_derive_0 hg hA hT v1 v2 v3 v4 μ)
theorem t_Bench_graph_0 {cx : HCx} (hg : HGood cx R_Bench b_Bench_graph 4 7 (some .int)) (hA : h_own cx) (hT : HThr cx 2) (v1 : Int32) (v2 : Int32) (μ : HMem) : HX cx (HQx cx 2 h_eI) (f_Bench_graph v1 v2 μ) 0 0 0 [(0, .ref 84), (1, .int v1), (2, .int v2)] [] μ := by
  unfold f_Bench_graph
  refine r_aload_n hg 0 d_Bench_graph_0 rfl rfl ?_
  refine r_iload_n hg 1 d_Bench_graph_1 rfl rfl ?_
  refine r_xcallV (As := [.int v1]) hg hA hT (t_Bench_graphAt v1 μ) v_Bench_graphAt c_Bench rfl (by decide) rfl wm_Bench_80 d_Bench_graph_2 rfl ⟨by decide, by decide⟩ ⟨by decide, by decide⟩ (Nat.le_of_ble_eq_true rfl) rfl (fun r2 μ_2 e_2 => ?_)
  refine r_astore_n (l' := [(3, .ref r2), (0, .ref 84), (1, .int v1), (2, .int v2)]) hg d_Bench_graph_5 rfl (Nat.le_of_ble_eq_true rfl) rfl ?_
  refine r_iload_n hg 3 d_Bench_graph_6 rfl rfl ?_
  refine r_iconst (v := 0) hg d_Bench_graph_7 (by decide) ?_
  refine r_iconst (v := 3) hg d_Bench_graph_8 (by decide) ?_
  refine r_xcallS (As := [.int v2, .int 0, .int 3]) hg hA hT (t_Bench_requireRange v2 0 3 μ_2) v_Bench_requireRange wm_Bench_84 d_Bench_graph_9 rfl ⟨by decide, by decide⟩ ⟨by decide, by decide⟩ (Nat.le_of_ble_eq_true rfl) rfl (fun r9 μ_9 e_9 => ?_)
  refine r_iload_n hg 3 d_Bench_graph_12 rfl rfl ?_
  refine h_ite (fun hs_ => ?_) (fun hs_ => ?_)
  · refine r_tswOut (tgt := 55) hg d_Bench_graph_13 hs_ (by decide) ?_
    refine r_aload_n hg 0 d_Bench_graph_55 rfl rfl ?_
    refine r_callV (As := []) hg (t_Graph_partCount r2 (f_Bench_graphAt_G e_2) μ_9) v_Graph_partCount c_Graph rfl (h_G_lt (f_Bench_graphAt_G e_2)) (h_G_kd (f_Bench_graphAt_G e_2)) wm_Bench_161 d_Bench_graph_56 rfl ⟨by decide, by decide⟩ (Nat.le_of_ble_eq_true rfl) rfl (fun r56 μ_56 _ => ?_)
    exact r_xiret hg hA ⟨by decide, by decide⟩ rfl d_Bench_graph_59 rfl
  refine h_ite (fun he_ => ?_) (fun _ => ?_)
  · refine r_tswIn (tgt := 40) (y := 0) (off := 27) hg d_Bench_graph_13 he_ (by decide) (by decide) (by decide) (by decide) ?_
    refine r_aload_n hg 0 d_Bench_graph_40 rfl rfl ?_
    refine r_get (v := .int (μ_9.1 r2 0)) hg c_Graph (h_G_lt (f_Bench_graphAt_G e_2)) (h_G_kd (f_Bench_graphAt_G e_2)) (Nat.le_of_ble_eq_true rfl) (h_G_fl0 (f_Bench_graphAt_G e_2)) wf_Bench_92 d_Bench_graph_41 rfl ?_
    exact r_xiret hg hA ⟨by decide, by decide⟩ rfl d_Bench_graph_44 rfl
  refine h_ite (fun he_ => ?_) (fun _ => ?_)
  · refine r_tswIn (tgt := 45) (y := 1) (off := 32) hg d_Bench_graph_13 he_ (by decide) (by decide) (by decide) (by decide) ?_
    refine r_aload_n hg 0 d_Bench_graph_45 rfl rfl ?_
    refine r_callV (As := []) hg (t_Graph_edgeCount r2 (f_Bench_graphAt_G e_2) μ_9) v_Graph_edgeCount c_Graph rfl (h_G_lt (f_Bench_graphAt_G e_2)) (h_G_kd (f_Bench_graphAt_G e_2)) wm_Bench_117 d_Bench_graph_46 rfl ⟨by decide, by decide⟩ (Nat.le_of_ble_eq_true rfl) rfl (fun r46 μ_46 _ => ?_)
    exact r_xiret hg hA ⟨by decide, by decide⟩ rfl d_Bench_graph_49 rfl
  refine h_ite (fun he_ => ?_) (fun _ => ?_)
  · refine r_tswIn (tgt := 50) (y := 2) (off := 37) hg d_Bench_graph_13 he_ (by decide) (by decide) (by decide) (by decide) ?_
    refine r_aload_n hg 0 d_Bench_graph_50 rfl rfl ?_
    refine r_callV (As := []) hg (t_Graph_loopCount r2 (f_Bench_graphAt_G e_2) μ_9) v_Graph_loopCount c_Graph rfl (h_G_lt (f_Bench_graphAt_G e_2)) (h_G_kd (f_Bench_graphAt_G e_2)) wm_Bench_121 d_Bench_graph_51 rfl ⟨by decide, by decide⟩ (Nat.le_of_ble_eq_true rfl) rfl (fun r51 μ_51 _ => ?_)
    exact r_xiret hg hA ⟨by decide, by decide⟩ rfl d_Bench_graph_54 rfl
  exact HX.none
theorem t_Bench_graph (v1 : Int32) (v2 : Int32) (μ : HMem) : HSpecX y_Bench_graph b_Bench_graph 4 (some .int) 7 2 h_eI [.ref 84, .int v1, .int v2] μ (f_Bench_graph v1 v2 μ) :=
  HSpecX.of (by decide +kernel) (v_Bench_graph.1 _ (by simp)) (Nat.le_of_ble_eq_true rfl) (fun cx hA hg hT => t_Bench_graph_0 hg hA hT v1 v2 μ)
theorem t_Bench_vertex_0 {cx : HCx} (hg : HGood cx R_Bench b_Bench_vertex 5 7 (some .int)) (hA : h_own cx) (hT : HThr cx 3) (v1 : Int32) (v2 : Int32) (v3 : Int32) (μ : HMem) : HX cx (HQx cx 3 h_eI) (f_Bench_vertex v1 v2 v3 μ) 0 0 0 [(0, .ref 84), (1, .int v1), (2, .int v2), (3, .int v3)] [] μ := by
  unfold f_Bench_vertex
  refine r_aload_n hg 0 d_Bench_vertex_0 rfl rfl ?_
  refine r_iload_n hg 1 d_Bench_vertex_1 rfl rfl ?_
  refine r_xcallV (As := [.int v1]) hg hA hT (t_Bench_graphAt v1 μ) v_Bench_graphAt c_Bench rfl (by decide) rfl wm_Bench_80 d_Bench_vertex_2 rfl ⟨by decide, by decide⟩ ⟨by decide, by decide⟩ (Nat.le_of_ble_eq_true rfl) rfl (fun r2 μ_2 e_2 => ?_)
  refine r_astore (l' := [(4, .ref r2), (0, .ref 84), (1, .int v1), (2, .int v2), (3, .int v3)]) hg d_Bench_vertex_5 (Nat.le_of_ble_eq_true rfl) rfl ?_
  refine r_aload hg 0 d_Bench_vertex_7 rfl ?_
  refine r_iload_n hg 3 d_Bench_vertex_9 rfl rfl ?_
  refine r_xcallS (As := [.ref r2, .int v2]) hg hA hT (t_Bench_requireVertex r2 (f_Bench_graphAt_G e_2) v2 μ_2) v_Bench_requireVertex wm_Bench_100 d_Bench_vertex_10 rfl ⟨by decide, by decide⟩ ⟨by decide, by decide⟩ (Nat.le_of_ble_eq_true rfl) rfl (fun r10 μ_10 e_10 => ?_)
  refine r_iload_n hg 4 d_Bench_vertex_13 rfl rfl ?_
  refine r_iconst (v := 0) hg d_Bench_vertex_14 (by decide) ?_
  refine r_iconst (v := 2) hg d_Bench_vertex_15 (by decide) ?_
  refine r_xcallS (As := [.int v3, .int 0, .int 2]) hg hA hT (t_Bench_requireRange v3 0 2 μ_10) v_Bench_requireRange wm_Bench_84 d_Bench_vertex_16 rfl ⟨by decide, by decide⟩ ⟨by decide, by decide⟩ (Nat.le_of_ble_eq_true rfl) rfl (fun r16 μ_16 e_16 => ?_)
  refine r_iload_n hg 4 d_Bench_vertex_19 rfl rfl ?_
  refine h_ite (fun he_ => ?_) (fun hn0_ => ?_)
  · refine r_lswIn (tgt := 48) (y := 0) (off := 28) hg d_Bench_vertex_20 he_ (by decide) (by decide) (by decide) ?_
    refine r_aload hg 0 d_Bench_vertex_48 rfl ?_
    refine r_get (v := .ref (r2 + 1)) hg c_Graph (h_G_lt (f_Bench_graphAt_G e_2)) (h_G_kd (f_Bench_graphAt_G e_2)) (Nat.le_of_ble_eq_true rfl) (h_G_fl1 (f_Bench_graphAt_G e_2)) wf_Bench_104 d_Bench_vertex_50 rfl ?_
    refine r_iload_n hg 3 d_Bench_vertex_53 rfl rfl ?_
    refine r_iald hg (h_G_lt1 (f_Bench_graphAt_G e_2)) (h_G_kd1 (f_Bench_graphAt_G e_2)) d_Bench_vertex_54 ?_
    exact r_xiret hg hA ⟨by decide, by decide⟩ rfl d_Bench_vertex_55 rfl
  refine h_ite (fun he_ => ?_) (fun hn1_ => ?_)
  · refine r_lswIn (tgt := 56) (y := 1) (off := 36) hg d_Bench_vertex_20 he_ (by decide) (by decide) (by decide) ?_
    refine r_aload hg 0 d_Bench_vertex_56 rfl ?_
    refine r_get (v := .ref (r2 + 3)) hg c_Graph (h_G_lt (f_Bench_graphAt_G e_2)) (h_G_kd (f_Bench_graphAt_G e_2)) (Nat.le_of_ble_eq_true rfl) (h_G_fl3 (f_Bench_graphAt_G e_2)) wf_Bench_164 d_Bench_vertex_58 rfl ?_
    refine r_iload_n hg 3 d_Bench_vertex_61 rfl rfl ?_
    refine r_iald hg (h_G_lt3 (f_Bench_graphAt_G e_2)) (h_G_kd3 (f_Bench_graphAt_G e_2)) d_Bench_vertex_62 ?_
    refine r_callS (As := [.int (μ_16.1 (r2 + 3) (Int32.toNatClampNeg (v2)))]) hg (t_Integer_bitCount (μ_16.1 (r2 + 3) (Int32.toNatClampNeg (v2))) μ_16) v_Integer_bitCount wm_Bench_167 d_Bench_vertex_63 rfl ⟨by decide, by decide⟩ (Nat.le_of_ble_eq_true rfl) rfl (fun r63 μ_63 _ => ?_)
    exact r_xiret hg hA ⟨by decide, by decide⟩ rfl d_Bench_vertex_66 rfl
  refine r_lswOut (tgt := 67) (off := 47) hg d_Bench_vertex_20 (by decide) ((lv_osw hn0_ (by decide)).trans ((lv_osw hn1_ (by decide)).trans rfl)) (by decide) ?_
  refine r_aload hg 0 d_Bench_vertex_67 rfl ?_
  refine r_get (v := .ref (r2 + 3)) hg c_Graph (h_G_lt (f_Bench_graphAt_G e_2)) (h_G_kd (f_Bench_graphAt_G e_2)) (Nat.le_of_ble_eq_true rfl) (h_G_fl3 (f_Bench_graphAt_G e_2)) wf_Bench_164 d_Bench_vertex_69 rfl ?_
  refine r_iload_n hg 3 d_Bench_vertex_72 rfl rfl ?_
  refine r_iald hg (h_G_lt3 (f_Bench_graphAt_G e_2)) (h_G_kd3 (f_Bench_graphAt_G e_2)) d_Bench_vertex_73 ?_
  exact r_xiret hg hA ⟨by decide, by decide⟩ rfl d_Bench_vertex_74 rfl
theorem t_Bench_vertex (v1 : Int32) (v2 : Int32) (v3 : Int32) (μ : HMem) : HSpecX y_Bench_vertex b_Bench_vertex 5 (some .int) 7 3 h_eI [.ref 84, .int v1, .int v2, .int v3] μ (f_Bench_vertex v1 v2 v3 μ) :=
  HSpecX.of (by decide +kernel) (v_Bench_vertex.1 _ (by simp)) (Nat.le_of_ble_eq_true rfl) (fun cx hA hg hT => t_Bench_vertex_0 hg hA hT v1 v2 v3 μ)
theorem t_Bench_edge_0 {cx : HCx} (hg : HGood cx R_Bench b_Bench_edge 5 7 (some .int)) (hA : h_own cx) (hT : HThr cx 3) (v1 : Int32) (v2 : Int32) (v3 : Int32) (μ : HMem) : HX cx (HQx cx 3 h_eI) (f_Bench_edge v1 v2 v3 μ) 0 0 0 [(0, .ref 84), (1, .int v1), (2, .int v2), (3, .int v3)] [] μ := by
  unfold f_Bench_edge
  refine r_aload_n hg 0 d_Bench_edge_0 rfl rfl ?_
  refine r_iload_n hg 1 d_Bench_edge_1 rfl rfl ?_
  refine r_xcallV (As := [.int v1]) hg hA hT (t_Bench_graphAt v1 μ) v_Bench_graphAt c_Bench rfl (by decide) rfl wm_Bench_80 d_Bench_edge_2 rfl ⟨by decide, by decide⟩ ⟨by decide, by decide⟩ (Nat.le_of_ble_eq_true rfl) rfl (fun r2 μ_2 e_2 => ?_)
  refine r_astore (l' := [(4, .ref r2), (0, .ref 84), (1, .int v1), (2, .int v2), (3, .int v3)]) hg d_Bench_edge_5 (Nat.le_of_ble_eq_true rfl) rfl ?_
  refine r_aload hg 0 d_Bench_edge_7 rfl ?_
  refine r_iload_n hg 3 d_Bench_edge_9 rfl rfl ?_
  refine r_xcallS (As := [.ref r2, .int v2]) hg hA hT (t_Bench_requireVertex r2 (f_Bench_graphAt_G e_2) v2 μ_2) v_Bench_requireVertex wm_Bench_100 d_Bench_edge_10 rfl ⟨by decide, by decide⟩ ⟨by decide, by decide⟩ (Nat.le_of_ble_eq_true rfl) rfl (fun r10 μ_10 e_10 => ?_)
  refine r_aload hg 0 d_Bench_edge_13 rfl ?_
  refine r_iload_n hg 4 d_Bench_edge_15 rfl rfl ?_
  refine r_xcallS (As := [.ref r2, .int v3]) hg hA hT (t_Bench_requireVertex r2 (f_Bench_graphAt_G e_2) v3 μ_10) v_Bench_requireVertex wm_Bench_100 d_Bench_edge_16 rfl ⟨by decide, by decide⟩ ⟨by decide, by decide⟩ (Nat.le_of_ble_eq_true rfl) rfl (fun r16 μ_16 e_16 => ?_)
  refine r_aload hg 0 d_Bench_edge_19 rfl ?_
  refine r_iload_n hg 3 d_Bench_edge_21 rfl rfl ?_
  refine r_iload_n hg 4 d_Bench_edge_22 rfl rfl ?_
  refine r_callV (As := [.int v2, .int v3]) hg (t_Graph_between r2 (f_Bench_graphAt_G e_2) v2 v3 μ_16) v_Graph_between c_Graph rfl (h_G_lt (f_Bench_graphAt_G e_2)) (h_G_kd (f_Bench_graphAt_G e_2)) wm_Bench_107 d_Bench_edge_23 rfl ⟨by decide, by decide⟩ (Nat.le_of_ble_eq_true rfl) rfl (fun r23 μ_23 _ => ?_)
  exact r_xiret hg hA ⟨by decide, by decide⟩ rfl d_Bench_edge_26 rfl
theorem t_Bench_edge (v1 : Int32) (v2 : Int32) (v3 : Int32) (μ : HMem) : HSpecX y_Bench_edge b_Bench_edge 5 (some .int) 7 3 h_eI [.ref 84, .int v1, .int v2, .int v3] μ (f_Bench_edge v1 v2 v3 μ) :=
  HSpecX.of (by decide +kernel) (v_Bench_edge.1 _ (by simp)) (Nat.le_of_ble_eq_true rfl) (fun cx hA hg hT => t_Bench_edge_0 hg hA hT v1 v2 v3 μ)
theorem t_Bench_greedy_0 {cx : HCx} (hg : HGood cx R_Bench b_Bench_greedy 4 7 (some .int)) (hA : h_own cx) (hT : HThr cx 2) (v1 : Int32) (v2 : Int32) (μ : HMem) : HX cx (HQx cx 2 h_eI) (f_Bench_greedy v1 v2 μ) 0 0 0 [(0, .ref 84), (1, .int v1), (2, .int v2)] [] μ := by
  unfold f_Bench_greedy
  refine r_aload_n hg 0 d_Bench_greedy_0 rfl rfl ?_
  refine r_iload_n hg 1 d_Bench_greedy_1 rfl rfl ?_
  refine r_xcallV (As := [.int v1]) hg hA hT (t_Bench_graphAt v1 μ) v_Bench_graphAt c_Bench rfl (by decide) rfl wm_Bench_80 d_Bench_greedy_2 rfl ⟨by decide, by decide⟩ ⟨by decide, by decide⟩ (Nat.le_of_ble_eq_true rfl) rfl (fun r2 μ_2 e_2 => ?_)
  refine r_astore_n (l' := [(3, .ref r2), (0, .ref 84), (1, .int v1), (2, .int v2)]) hg d_Bench_greedy_5 rfl (Nat.le_of_ble_eq_true rfl) rfl ?_
  refine r_aload_n hg 0 d_Bench_greedy_6 rfl rfl ?_
  refine r_iload_n hg 3 d_Bench_greedy_7 rfl rfl ?_
  refine r_xcallS (As := [.ref r2, .int v2]) hg hA hT (t_Bench_requireVertex r2 (f_Bench_graphAt_G e_2) v2 μ_2) v_Bench_requireVertex wm_Bench_100 d_Bench_greedy_8 rfl ⟨by decide, by decide⟩ ⟨by decide, by decide⟩ (Nat.le_of_ble_eq_true rfl) rfl (fun r8 μ_8 e_8 => ?_)
  refine r_aload_n hg 1 d_Bench_greedy_11 rfl rfl ?_
  refine r_get (v := .ref 92) hg c_Bench (by decide) rfl (Nat.le_of_ble_eq_true rfl) rfl wf_Bench_44 d_Bench_greedy_12 rfl ?_
  refine r_aload_n hg 0 d_Bench_greedy_15 rfl rfl ?_
  refine r_callV (As := [.ref r2]) hg (t_Elimination_runGreedily r2 (f_Bench_graphAt_G e_2) μ_8) v_Elimination_runGreedily c_Elimination rfl (by decide) rfl wm_Bench_173 d_Bench_greedy_16 rfl ⟨by decide, by decide⟩ (Nat.le_of_ble_eq_true rfl) rfl (fun r16 μ_16 _ => ?_)
  refine r_aload_n hg 1 d_Bench_greedy_19 rfl rfl ?_
  refine r_get (v := .ref 92) hg c_Bench (by decide) rfl (Nat.le_of_ble_eq_true rfl) rfl wf_Bench_44 d_Bench_greedy_20 rfl ?_
  refine r_get (v := .ref 93) hg c_Elimination (by decide) rfl (Nat.le_of_ble_eq_true rfl) rfl wf_Bench_176 d_Bench_greedy_23 rfl ?_
  refine r_iload_n hg 3 d_Bench_greedy_26 rfl rfl ?_
  refine r_iald hg (by decide) rfl d_Bench_greedy_27 ?_
  exact r_xiret hg hA ⟨by decide, by decide⟩ rfl d_Bench_greedy_28 rfl
theorem t_Bench_greedy (v1 : Int32) (v2 : Int32) (μ : HMem) : HSpecX y_Bench_greedy b_Bench_greedy 4 (some .int) 7 2 h_eI [.ref 84, .int v1, .int v2] μ (f_Bench_greedy v1 v2 μ) :=
  HSpecX.of (by decide +kernel) (v_Bench_greedy.1 _ (by simp)) (Nat.le_of_ble_eq_true rfl) (fun cx hA hg hT => t_Bench_greedy_0 hg hA hT v1 v2 μ)
theorem t_Bench_width_J82 {cx : HCx} (hg : HGood cx R_Bench b_Bench_width 5 7 (some .int)) (hA : h_own cx) (hT : HThr cx 2)   (s0 : Int32) (μ : HMem) : HX cx (HQx cx 2 h_eI) (f_Bench_width_J82   s0 μ) 1 6 82 [] [.int s0] μ := by
  unfold f_Bench_width_J82
  exact r_xiret hg hA ⟨by decide, by decide⟩ rfl d_Bench_width_82 rfl
theorem t_Bench_width_J61 {cx : HCx} (hg : HGood cx R_Bench b_Bench_width 5 7 (some .int)) (hA : h_own cx) (hT : HThr cx 2)   (v3 : Int32) (μ : HMem) : HX cx (HQx cx 2 h_eI) (f_Bench_width_J61   v3 μ) 1 6 61 [(0, .ref 84), (3, .int v3)] [] μ := by
  unfold f_Bench_width_J61
  refine r_iload_n hg 1 d_Bench_width_61 rfl rfl ?_
  refine r_if_eq (tgt := 75) hg d_Bench_width_62 (by decide) ?_ ?_
  · refine r_aload_n hg 0 d_Bench_width_75 rfl rfl ?_
    refine r_get (v := .ref 92) hg c_Bench (by decide) rfl (Nat.le_of_ble_eq_true rfl) rfl wf_Bench_44 d_Bench_width_76 rfl ?_
    refine r_get (v := .int (μ.1 92 2)) hg c_Elimination (by decide) rfl (Nat.le_of_ble_eq_true rfl) rfl wf_Bench_194 d_Bench_width_79 rfl ?_
    refine r_sub [] rfl ?_
    exact t_Bench_width_J82 hg hA hT (μ.1 92 2) μ
  · refine r_aload_n hg 0 d_Bench_width_65 rfl rfl ?_
    refine r_get (v := .ref 92) hg c_Bench (by decide) rfl (Nat.le_of_ble_eq_true rfl) rfl wf_Bench_44 d_Bench_width_66 rfl ?_
    refine r_get (v := .int (μ.1 92 3)) hg c_Elimination (by decide) rfl (Nat.le_of_ble_eq_true rfl) rfl wf_Bench_191 d_Bench_width_69 rfl ?_
    refine r_goto (tgt := 82) hg d_Bench_width_72 (by decide) ?_
    refine r_sub [] rfl ?_
    exact t_Bench_width_J82 hg hA hT (μ.1 92 3) μ
theorem t_Bench_width_0 {cx : HCx} (hg : HGood cx R_Bench b_Bench_width 5 7 (some .int)) (hA : h_own cx) (hT : HThr cx 2) (v1 : Int32) (v2 : Int32) (v3 : Int32) (μ : HMem) : HX cx (HQx cx 2 h_eI) (f_Bench_width v1 v2 v3 μ) 0 0 0 [(0, .ref 84), (1, .int v1), (2, .int v2), (3, .int v3)] [] μ := by
  unfold f_Bench_width
  refine r_aload_n hg 0 d_Bench_width_0 rfl rfl ?_
  refine r_iload_n hg 1 d_Bench_width_1 rfl rfl ?_
  refine r_xcallV (As := [.int v1]) hg hA hT (t_Bench_graphAt v1 μ) v_Bench_graphAt c_Bench rfl (by decide) rfl wm_Bench_80 d_Bench_width_2 rfl ⟨by decide, by decide⟩ ⟨by decide, by decide⟩ (Nat.le_of_ble_eq_true rfl) rfl (fun r2 μ_2 e_2 => ?_)
  refine r_astore (l' := [(4, .ref r2), (0, .ref 84), (1, .int v1), (2, .int v2), (3, .int v3)]) hg d_Bench_width_5 (Nat.le_of_ble_eq_true rfl) rfl ?_
  refine r_iload_n hg 3 d_Bench_width_7 rfl rfl ?_
  refine r_if_ne (tgt := 23) hg d_Bench_width_8 (by decide) ?_ ?_
  · refine r_aload_n hg 1 d_Bench_width_23 rfl rfl ?_
    refine r_get (v := .ref 92) hg c_Bench (by decide) rfl (Nat.le_of_ble_eq_true rfl) rfl wf_Bench_44 d_Bench_width_24 rfl ?_
    refine r_iload_n hg 3 d_Bench_width_27 rfl rfl ?_
    refine r_aload hg 0 d_Bench_width_28 rfl ?_
    refine r_get (v := .int (μ_2.1 r2 0)) hg c_Graph (h_G_lt (f_Bench_graphAt_G e_2)) (h_G_kd (f_Bench_graphAt_G e_2)) (Nat.le_of_ble_eq_true rfl) (h_G_fl0 (f_Bench_graphAt_G e_2)) wf_Bench_92 d_Bench_width_30 rfl ?_
    refine r_callV (As := [.int v2, .int (μ_2.1 r2 0)]) hg (t_Elimination_readOrder v2 (μ_2.1 r2 0) μ_2) v_Elimination_readOrder c_Elimination rfl (by decide) rfl wm_Bench_179 d_Bench_width_33 rfl ⟨by decide, by decide⟩ (Nat.le_of_ble_eq_true rfl) rfl (fun r33 μ_33 _ => ?_)
    refine r_if_eq (tgt := 51) hg d_Bench_width_36 (by decide) ?_ ?_
    · exact r_throw (text := "not an order of all vertices") hg hA hT h_site2 (by decide) d_Bench_width_51 d_Bench_width_54 d_Bench_width_55 d_Bench_width_57 d_Bench_width_60 (by decide) (Nat.le_of_ble_eq_true rfl) ⟨by decide, by decide⟩
    · refine r_aload_n hg 1 d_Bench_width_39 rfl rfl ?_
      refine r_get (v := .ref 92) hg c_Bench (by decide) rfl (Nat.le_of_ble_eq_true rfl) rfl wf_Bench_44 d_Bench_width_40 rfl ?_
      refine r_aload hg 0 d_Bench_width_43 rfl ?_
      refine r_callV (As := [.ref r2]) hg (t_Elimination_runInOrder r2 (f_Bench_graphAt_G e_2) μ_33) v_Elimination_runInOrder c_Elimination rfl (by decide) rfl wm_Bench_183 d_Bench_width_45 rfl ⟨by decide, by decide⟩ (Nat.le_of_ble_eq_true rfl) rfl (fun r45 μ_45 _ => ?_)
      refine r_goto (tgt := 61) hg d_Bench_width_48 (by decide) ?_
      refine r_sub [1, 4] rfl ?_
      exact t_Bench_width_J61 hg hA hT v3 μ_45
  · refine r_aload_n hg 1 d_Bench_width_11 rfl rfl ?_
    refine r_get (v := .ref 92) hg c_Bench (by decide) rfl (Nat.le_of_ble_eq_true rfl) rfl wf_Bench_44 d_Bench_width_12 rfl ?_
    refine r_aload hg 0 d_Bench_width_15 rfl ?_
    refine r_callV (As := [.ref r2]) hg (t_Elimination_runGreedily r2 (f_Bench_graphAt_G e_2) μ_2) v_Elimination_runGreedily c_Elimination rfl (by decide) rfl wm_Bench_173 d_Bench_width_17 rfl ⟨by decide, by decide⟩ (Nat.le_of_ble_eq_true rfl) rfl (fun r17 μ_17 _ => ?_)
    refine r_goto (tgt := 61) hg d_Bench_width_20 (by decide) ?_
    refine r_sub [1, 4] rfl ?_
    exact t_Bench_width_J61 hg hA hT v3 μ_17
theorem t_Bench_width (v1 : Int32) (v2 : Int32) (v3 : Int32) (μ : HMem) : HSpecX y_Bench_width b_Bench_width 5 (some .int) 7 2 h_eI [.ref 84, .int v1, .int v2, .int v3] μ (f_Bench_width v1 v2 v3 μ) :=
  HSpecX.of (by decide +kernel) (v_Bench_width.1 _ (by simp)) (Nat.le_of_ble_eq_true rfl) (fun cx hA hg hT => t_Bench_width_0 hg hA hT v1 v2 v3 μ)
theorem t_Bench_treewidth_0 {cx : HCx} (hg : HGood cx R_Bench b_Bench_treewidth 2 7 (some .int)) (hA : h_own cx) (hT : HThr cx 1) (v1 : Int32) (μ : HMem) : HX cx (HQx cx 1 h_eI) (f_Bench_treewidth v1 μ) 0 0 0 [(0, .ref 84), (1, .int v1)] [] μ := by
  unfold f_Bench_treewidth
  refine r_aload_n hg 0 d_Bench_treewidth_0 rfl rfl ?_
  refine r_get (v := .ref 92) hg c_Bench (by decide) rfl (Nat.le_of_ble_eq_true rfl) rfl wf_Bench_44 d_Bench_treewidth_1 rfl ?_
  refine r_aload_n hg 0 d_Bench_treewidth_4 rfl rfl ?_
  refine r_iload_n hg 1 d_Bench_treewidth_5 rfl rfl ?_
  refine r_xcallV (As := [.int v1]) hg hA hT (t_Bench_graphAt v1 μ) v_Bench_graphAt c_Bench rfl (by decide) rfl wm_Bench_80 d_Bench_treewidth_6 rfl ⟨by decide, by decide⟩ ⟨by decide, by decide⟩ (Nat.le_of_ble_eq_true rfl) rfl (fun r6 μ_6 e_6 => ?_)
  refine r_callV (As := [.ref r6]) hg (t_Elimination_smallestWidth r6 (f_Bench_graphAt_G e_6) μ_6) v_Elimination_smallestWidth c_Elimination rfl (by decide) rfl wm_Bench_197 d_Bench_treewidth_9 rfl ⟨by decide, by decide⟩ (Nat.le_of_ble_eq_true rfl) rfl (fun r9 μ_9 _ => ?_)
  exact r_xiret hg hA ⟨by decide, by decide⟩ rfl d_Bench_treewidth_12 rfl
theorem t_Bench_treewidth (v1 : Int32) (μ : HMem) : HSpecX y_Bench_treewidth b_Bench_treewidth 2 (some .int) 7 1 h_eI [.ref 84, .int v1] μ (f_Bench_treewidth v1 μ) :=
  HSpecX.of (by decide +kernel) (v_Bench_treewidth.1 _ (by simp)) (Nat.le_of_ble_eq_true rfl) (fun cx hA hg hT => t_Bench_treewidth_0 hg hA hT v1 μ)
theorem t_Bench_bag_0 {cx : HCx} (hg : HGood cx R_Bench b_Bench_bag 4 7 (some .int)) (hA : h_own cx) (hT : HThr cx 2) (v1 : Int32) (v2 : Int32) (μ : HMem) : HX cx (HQx cx 2 h_eI) (f_Bench_bag v1 v2 μ) 0 0 0 [(0, .ref 84), (1, .int v1), (2, .int v2)] [] μ := by
  unfold f_Bench_bag
  refine r_aload_n hg 0 d_Bench_bag_0 rfl rfl ?_
  refine r_iload_n hg 1 d_Bench_bag_1 rfl rfl ?_
  refine r_xcallV (As := [.int v1]) hg hA hT (t_Bench_graphAt v1 μ) v_Bench_graphAt c_Bench rfl (by decide) rfl wm_Bench_80 d_Bench_bag_2 rfl ⟨by decide, by decide⟩ ⟨by decide, by decide⟩ (Nat.le_of_ble_eq_true rfl) rfl (fun r2 μ_2 e_2 => ?_)
  refine r_astore_n (l' := [(3, .ref r2), (0, .ref 84), (1, .int v1), (2, .int v2)]) hg d_Bench_bag_5 rfl (Nat.le_of_ble_eq_true rfl) rfl ?_
  refine r_aload_n hg 0 d_Bench_bag_6 rfl rfl ?_
  refine r_iload_n hg 3 d_Bench_bag_7 rfl rfl ?_
  refine r_xcallS (As := [.ref r2, .int v2]) hg hA hT (t_Bench_requireVertex r2 (f_Bench_graphAt_G e_2) v2 μ_2) v_Bench_requireVertex wm_Bench_100 d_Bench_bag_8 rfl ⟨by decide, by decide⟩ ⟨by decide, by decide⟩ (Nat.le_of_ble_eq_true rfl) rfl (fun r8 μ_8 e_8 => ?_)
  refine r_aload_n hg 1 d_Bench_bag_11 rfl rfl ?_
  refine r_get (v := .ref 92) hg c_Bench (by decide) rfl (Nat.le_of_ble_eq_true rfl) rfl wf_Bench_44 d_Bench_bag_12 rfl ?_
  refine r_aload_n hg 0 d_Bench_bag_15 rfl rfl ?_
  refine r_callV (As := [.ref r2]) hg (t_Elimination_runGreedily r2 (f_Bench_graphAt_G e_2) μ_8) v_Elimination_runGreedily c_Elimination rfl (by decide) rfl wm_Bench_173 d_Bench_bag_16 rfl ⟨by decide, by decide⟩ (Nat.le_of_ble_eq_true rfl) rfl (fun r16 μ_16 _ => ?_)
  refine r_aload_n hg 1 d_Bench_bag_19 rfl rfl ?_
  refine r_get (v := .ref 92) hg c_Bench (by decide) rfl (Nat.le_of_ble_eq_true rfl) rfl wf_Bench_44 d_Bench_bag_20 rfl ?_
  refine r_get (v := .ref 94) hg c_Elimination (by decide) rfl (Nat.le_of_ble_eq_true rfl) rfl wf_Bench_200 d_Bench_bag_23 rfl ?_
  refine r_iload_n hg 3 d_Bench_bag_26 rfl rfl ?_
  refine r_iald hg (by decide) rfl d_Bench_bag_27 ?_
  exact r_xiret hg hA ⟨by decide, by decide⟩ rfl d_Bench_bag_28 rfl
theorem t_Bench_bag (v1 : Int32) (v2 : Int32) (μ : HMem) : HSpecX y_Bench_bag b_Bench_bag 4 (some .int) 7 2 h_eI [.ref 84, .int v1, .int v2] μ (f_Bench_bag v1 v2 μ) :=
  HSpecX.of (by decide +kernel) (v_Bench_bag.1 _ (by simp)) (Nat.le_of_ble_eq_true rfl) (fun cx hA hg hT => t_Bench_bag_0 hg hA hT v1 v2 μ)
theorem t_Bench_requireSmall_0 {cx : HCx} (hg : HGood cx R_Bench b_Bench_requireSmall 1 6 none) (hA : h_own cx) (hT : HThr cx 1) (a0 : Nat) (h_a0 : HIsG a0) (μ : HMem) : HX cx (HQx cx 1 h_eV) (f_Bench_requireSmall a0 μ) 0 0 0 [(0, .ref a0)] [] μ := by
  unfold f_Bench_requireSmall
  refine r_aload_n hg 0 d_Bench_requireSmall_0 rfl rfl ?_
  refine r_get (v := .int (μ.1 a0 0)) hg c_Graph (h_G_lt h_a0) (h_G_kd h_a0) (Nat.le_of_ble_eq_true rfl) (h_G_fl0 h_a0) wf_Bench_92 d_Bench_requireSmall_1 rfl ?_
  refine r_bipush (v := 6) hg d_Bench_requireSmall_4 (by decide) ?_
  refine r_icmp_le (tgt := 20) hg d_Bench_requireSmall_6 (by decide) ?_ ?_
  · exact r_xvret hg hA ⟨by decide, by decide⟩ rfl d_Bench_requireSmall_20 rfl
  · exact r_throwW (text := "the first graph is large") hg hA hT h_site3 (by decide) d_Bench_requireSmall_9 d_Bench_requireSmall_12 d_Bench_requireSmall_13 d_Bench_requireSmall_16 d_Bench_requireSmall_19 (by decide) (Nat.le_of_ble_eq_true rfl) ⟨by decide, by decide⟩
theorem t_Bench_requireSmall (a0 : Nat) (h_a0 : HIsG a0) (μ : HMem) : HSpecX y_Bench_requireSmall b_Bench_requireSmall 1 none 6 1 h_eV [.ref a0] μ (f_Bench_requireSmall a0 μ) :=
  HSpecX.of (by decide +kernel) (v_Bench_requireSmall.1 _ (by simp)) (Nat.le_of_ble_eq_true rfl) (fun cx hA hg hT => t_Bench_requireSmall_0 hg hA hT a0 h_a0 μ)
theorem t_Bench_count_J42 {cx : HCx} (hg : HGood cx R_Bench b_Bench_count 7 23 (some .long)) (hA : h_own cx) (hT : HThr cx 4)   (v3 : Int32) (a4 : Nat) (h_a4 : HIsG a4) (a5 : Nat) (h_a5 : HIsG a5) (s0 : Int32) (μ : HMem) : HX cx (HQx cx 4 h_eJ) (f_Bench_count_J42   v3 a4 a5 s0 μ) 4 24 42 [(0, .ref 84), (3, .int v3), (4, .ref a4), (5, .ref a5)] [.int s0] μ := by
  unfold f_Bench_count_J42
  refine r_istore (l' := [(6, .int s0), (0, .ref 84), (3, .int v3), (4, .ref a4), (5, .ref a5)]) hg d_Bench_count_42 (Nat.le_of_ble_eq_true rfl) rfl ?_
  refine r_aload_n hg 1 d_Bench_count_44 rfl rfl ?_
  refine r_get (v := .ref 97) hg c_Bench (by decide) rfl (Nat.le_of_ble_eq_true rfl) rfl wf_Bench_51 d_Bench_count_45 rfl ?_
  refine r_aload hg 3 d_Bench_count_48 rfl ?_
  refine r_aload hg 4 d_Bench_count_50 rfl ?_
  refine r_iload hg 0 d_Bench_count_52 rfl ?_
  refine r_callV (As := [.ref a4, .ref a5, .int s0]) hg (t_MapSums_load a4 h_a4 a5 h_a5 s0 μ) v_MapSums_load c_MapSums rfl (by decide) rfl wm_Bench_206 d_Bench_count_54 rfl ⟨by decide, by decide⟩ (Nat.le_of_ble_eq_true rfl) rfl (fun r54 μ_54 _ => ?_)
  refine r_iload_n hg 2 d_Bench_count_57 rfl rfl ?_
  refine h_ite (fun hs_ => ?_) (fun hs_ => ?_)
  · refine r_tswOut (tgt := 122) hg d_Bench_count_58 hs_ (by decide) ?_
    refine r_aload_n hg 1 d_Bench_count_122 rfl rfl ?_
    refine r_get (v := .ref 97) hg c_Bench (by decide) rfl (Nat.le_of_ble_eq_true rfl) rfl wf_Bench_51 d_Bench_count_123 rfl ?_
    refine r_callV (As := []) hg (t_MapSums_overEdgeInjectiveMaps  μ_54) v_MapSums_overEdgeInjectiveMaps c_MapSums rfl (by decide) rfl wm_Bench_220 d_Bench_count_126 rfl ⟨by decide, by decide⟩ (Nat.le_of_ble_eq_true rfl) rfl (fun r126 μ_126 _ => ?_)
    exact r_xlret hg hA ⟨by decide, by decide⟩ rfl d_Bench_count_129 rfl
  refine h_ite (fun he_ => ?_) (fun _ => ?_)
  · refine r_tswIn (tgt := 96) (y := 0) (off := 38) hg d_Bench_count_58 he_ (by decide) (by decide) (by decide) (by decide) ?_
    refine r_aload_n hg 1 d_Bench_count_96 rfl rfl ?_
    refine r_get (v := .ref 97) hg c_Bench (by decide) rfl (Nat.le_of_ble_eq_true rfl) rfl wf_Bench_51 d_Bench_count_97 rfl ?_
    refine r_aload hg 3 d_Bench_count_100 rfl ?_
    refine r_callV (As := [.ref a4]) hg (t_MapSums_overAllMaps a4 h_a4 μ_54) v_MapSums_overAllMaps c_MapSums rfl (by decide) rfl wm_Bench_209 d_Bench_count_102 rfl ⟨by decide, by decide⟩ (Nat.le_of_ble_eq_true rfl) rfl (fun r102 μ_102 _ => ?_)
    exact r_xlret hg hA ⟨by decide, by decide⟩ rfl d_Bench_count_105 rfl
  refine h_ite (fun he_ => ?_) (fun _ => ?_)
  · refine r_tswIn (tgt := 96) (y := 1) (off := 38) hg d_Bench_count_58 he_ (by decide) (by decide) (by decide) (by decide) ?_
    refine r_aload_n hg 1 d_Bench_count_96 rfl rfl ?_
    refine r_get (v := .ref 97) hg c_Bench (by decide) rfl (Nat.le_of_ble_eq_true rfl) rfl wf_Bench_51 d_Bench_count_97 rfl ?_
    refine r_aload hg 3 d_Bench_count_100 rfl ?_
    refine r_callV (As := [.ref a4]) hg (t_MapSums_overAllMaps a4 h_a4 μ_54) v_MapSums_overAllMaps c_MapSums rfl (by decide) rfl wm_Bench_209 d_Bench_count_102 rfl ⟨by decide, by decide⟩ (Nat.le_of_ble_eq_true rfl) rfl (fun r102 μ_102 _ => ?_)
    exact r_xlret hg hA ⟨by decide, by decide⟩ rfl d_Bench_count_105 rfl
  refine h_ite (fun he_ => ?_) (fun _ => ?_)
  · refine r_tswIn (tgt := 106) (y := 2) (off := 48) hg d_Bench_count_58 he_ (by decide) (by decide) (by decide) (by decide) ?_
    refine r_aload_n hg 1 d_Bench_count_106 rfl rfl ?_
    refine r_get (v := .ref 97) hg c_Bench (by decide) rfl (Nat.le_of_ble_eq_true rfl) rfl wf_Bench_51 d_Bench_count_107 rfl ?_
    refine r_callV (As := []) hg (t_MapSums_overInjectiveMaps  μ_54) v_MapSums_overInjectiveMaps c_MapSums rfl (by decide) rfl wm_Bench_213 d_Bench_count_110 rfl ⟨by decide, by decide⟩ (Nat.le_of_ble_eq_true rfl) rfl (fun r110 μ_110 _ => ?_)
    exact r_xlret hg hA ⟨by decide, by decide⟩ rfl d_Bench_count_113 rfl
  refine h_ite (fun he_ => ?_) (fun _ => ?_)
  · refine r_tswIn (tgt := 106) (y := 3) (off := 48) hg d_Bench_count_58 he_ (by decide) (by decide) (by decide) (by decide) ?_
    refine r_aload_n hg 1 d_Bench_count_106 rfl rfl ?_
    refine r_get (v := .ref 97) hg c_Bench (by decide) rfl (Nat.le_of_ble_eq_true rfl) rfl wf_Bench_51 d_Bench_count_107 rfl ?_
    refine r_callV (As := []) hg (t_MapSums_overInjectiveMaps  μ_54) v_MapSums_overInjectiveMaps c_MapSums rfl (by decide) rfl wm_Bench_213 d_Bench_count_110 rfl ⟨by decide, by decide⟩ (Nat.le_of_ble_eq_true rfl) rfl (fun r110 μ_110 _ => ?_)
    exact r_xlret hg hA ⟨by decide, by decide⟩ rfl d_Bench_count_113 rfl
  refine h_ite (fun he_ => ?_) (fun _ => ?_)
  · refine r_tswIn (tgt := 114) (y := 4) (off := 56) hg d_Bench_count_58 he_ (by decide) (by decide) (by decide) (by decide) ?_
    refine r_aload_n hg 1 d_Bench_count_114 rfl rfl ?_
    refine r_get (v := .ref 97) hg c_Bench (by decide) rfl (Nat.le_of_ble_eq_true rfl) rfl wf_Bench_51 d_Bench_count_115 rfl ?_
    refine r_callV (As := []) hg (t_MapSums_overOntoMaps  μ_54) v_MapSums_overOntoMaps c_MapSums rfl (by decide) rfl wm_Bench_217 d_Bench_count_118 rfl ⟨by decide, by decide⟩ (Nat.le_of_ble_eq_true rfl) rfl (fun r118 μ_118 _ => ?_)
    exact r_xlret hg hA ⟨by decide, by decide⟩ rfl d_Bench_count_121 rfl
  refine h_ite (fun he_ => ?_) (fun _ => ?_)
  · refine r_tswIn (tgt := 114) (y := 5) (off := 56) hg d_Bench_count_58 he_ (by decide) (by decide) (by decide) (by decide) ?_
    refine r_aload_n hg 1 d_Bench_count_114 rfl rfl ?_
    refine r_get (v := .ref 97) hg c_Bench (by decide) rfl (Nat.le_of_ble_eq_true rfl) rfl wf_Bench_51 d_Bench_count_115 rfl ?_
    refine r_callV (As := []) hg (t_MapSums_overOntoMaps  μ_54) v_MapSums_overOntoMaps c_MapSums rfl (by decide) rfl wm_Bench_217 d_Bench_count_118 rfl ⟨by decide, by decide⟩ (Nat.le_of_ble_eq_true rfl) rfl (fun r118 μ_118 _ => ?_)
    exact r_xlret hg hA ⟨by decide, by decide⟩ rfl d_Bench_count_121 rfl
  exact HX.none
theorem t_Bench_count_J41 {cx : HCx} (hg : HGood cx R_Bench b_Bench_count 7 23 (some .long)) (hA : h_own cx) (hT : HThr cx 4)   (v3 : Int32) (a4 : Nat) (h_a4 : HIsG a4) (a5 : Nat) (h_a5 : HIsG a5) (μ : HMem) : HX cx (HQx cx 4 h_eJ) (f_Bench_count_J41   v3 a4 a5 μ) 4 24 41 [(0, .ref 84), (3, .int v3), (4, .ref a4), (5, .ref a5)] [] μ := by
  unfold f_Bench_count_J41
  refine r_iconst (v := 0) hg d_Bench_count_41 (by decide) ?_
  exact t_Bench_count_J42 hg hA hT v3 a4 h_a4 a5 h_a5 0 μ
theorem t_Bench_count_0 {cx : HCx} (hg : HGood cx R_Bench b_Bench_count 7 23 (some .long)) (hA : h_own cx) (hT : HThr cx 4) (v1 : Int32) (v2 : Int32) (v3 : Int32) (μ : HMem) : HX cx (HQx cx 4 h_eJ) (f_Bench_count v1 v2 v3 μ) 0 0 0 [(0, .ref 84), (1, .int v1), (2, .int v2), (3, .int v3)] [] μ := by
  unfold f_Bench_count
  refine r_aload_n hg 0 d_Bench_count_0 rfl rfl ?_
  refine r_iload_n hg 1 d_Bench_count_1 rfl rfl ?_
  refine r_xcallV (As := [.int v1]) hg hA hT (t_Bench_graphAt v1 μ) v_Bench_graphAt c_Bench rfl (by decide) rfl wm_Bench_80 d_Bench_count_2 rfl ⟨by decide, by decide⟩ ⟨by decide, by decide⟩ (Nat.le_of_ble_eq_true rfl) rfl (fun r2 μ_2 e_2 => ?_)
  refine r_astore (l' := [(4, .ref r2), (0, .ref 84), (1, .int v1), (2, .int v2), (3, .int v3)]) hg d_Bench_count_5 (Nat.le_of_ble_eq_true rfl) rfl ?_
  refine r_aload_n hg 1 d_Bench_count_7 rfl rfl ?_
  refine r_iload_n hg 3 d_Bench_count_8 rfl rfl ?_
  refine r_xcallV (As := [.int v2]) hg hA hT (t_Bench_graphAt v2 μ_2) v_Bench_graphAt c_Bench rfl (by decide) rfl wm_Bench_80 d_Bench_count_9 rfl ⟨by decide, by decide⟩ ⟨by decide, by decide⟩ (Nat.le_of_ble_eq_true rfl) rfl (fun r9 μ_9 e_9 => ?_)
  refine r_astore (l' := [(5, .ref r9), (4, .ref r2), (0, .ref 84), (1, .int v1), (2, .int v2), (3, .int v3)]) hg d_Bench_count_12 (Nat.le_of_ble_eq_true rfl) rfl ?_
  refine r_iload_n hg 5 d_Bench_count_14 rfl rfl ?_
  refine r_iconst (v := 0) hg d_Bench_count_15 (by decide) ?_
  refine r_bipush (v := 6) hg d_Bench_count_16 (by decide) ?_
  refine r_xcallS (As := [.int v3, .int 0, .int 6]) hg hA hT (t_Bench_requireRange v3 0 6 μ_9) v_Bench_requireRange wm_Bench_84 d_Bench_count_18 rfl ⟨by decide, by decide⟩ ⟨by decide, by decide⟩ (Nat.le_of_ble_eq_true rfl) rfl (fun r18 μ_18 e_18 => ?_)
  refine r_aload hg 1 d_Bench_count_21 rfl ?_
  refine r_xcallS (As := [.ref r2]) hg hA hT (t_Bench_requireSmall r2 (f_Bench_graphAt_G e_2) μ_18) v_Bench_requireSmall wm_Bench_203 d_Bench_count_23 rfl ⟨by decide, by decide⟩ ⟨by decide, by decide⟩ (Nat.le_of_ble_eq_true rfl) rfl (fun r23 μ_23 e_23 => ?_)
  refine r_iload_n hg 5 d_Bench_count_26 rfl rfl ?_
  refine r_iconst (v := 5) hg d_Bench_count_27 (by decide) ?_
  refine r_icmp_gt (tgt := 41) hg d_Bench_count_28 (by decide) ?_ ?_
  · refine r_sub [2, 5, 1, 0] rfl ?_
    exact t_Bench_count_J41 hg hA hT v3 r2 (f_Bench_graphAt_G e_2) r9 (f_Bench_graphAt_G e_9) μ_23
  · refine r_iload_n hg 5 d_Bench_count_31 rfl rfl ?_
    refine r_iconst (v := 2) hg d_Bench_count_32 (by decide) ?_
    refine r_irem hg d_Bench_count_33 ?_
    refine r_if_eq (tgt := 41) hg d_Bench_count_34 (by decide) ?_ ?_
    · refine r_sub [2, 5, 1, 0] rfl ?_
      exact t_Bench_count_J41 hg hA hT v3 r2 (f_Bench_graphAt_G e_2) r9 (f_Bench_graphAt_G e_9) μ_23
    · refine r_iconst (v := 1) hg d_Bench_count_37 (by decide) ?_
      refine r_goto (tgt := 42) hg d_Bench_count_38 (by decide) ?_
      refine r_sub [2, 5, 1, 0] rfl ?_
      exact t_Bench_count_J42 hg hA hT v3 r2 (f_Bench_graphAt_G e_2) r9 (f_Bench_graphAt_G e_9) 1 μ_23
theorem t_Bench_count (v1 : Int32) (v2 : Int32) (v3 : Int32) (μ : HMem) : HSpecX y_Bench_count b_Bench_count 7 (some .long) 23 4 h_eJ [.ref 84, .int v1, .int v2, .int v3] μ (f_Bench_count v1 v2 v3 μ) :=
  HSpecX.of (by decide +kernel) (v_Bench_count.1 _ (by simp)) (Nat.le_of_ble_eq_true rfl) (fun cx hA hg hT => t_Bench_count_0 hg hA hT v1 v2 v3 μ)
theorem t_Bench_density_L72_b {cx : HCx} (hg : HGood cx R_Bench b_Bench_density 12 23 (some .long)) (hA : h_own cx) (hT : HThr cx 5) (K99 : Int32 → Int64 → Int64 → HMem → Option ((Int64 ⊕ Nat) × HMem)) (hK99 : p_Bench_density_99 cx K99) (rec_ : Int32 → Nat → Nat → Int64 → Int64 → Int32 → HMem → Option ((Int64 ⊕ Nat) × HMem)) (hrec_ : p_Bench_density_72 cx rec_) (v3 : Int32) (a4 : Nat) (h_a4 : HIsG a4) (a5 : Nat) (h_a5 : HIsG a5) (v6 : Int64) (v8 : Int64) (v10 : Int32) (μ : HMem) : HX cx (HQx cx 5 h_eJ) (f_Bench_density_L72_b K99 rec_ v3 a4 a5 v6 v8 v10 μ) 4 24 72 [(3, .int v3), (4, .ref a4), (5, .ref a5), (6, .long v6), (8, .long v8), (10, .int v10)] [] μ := by
  unfold f_Bench_density_L72_b
  refine r_iload hg 5 d_Bench_density_72 rfl ?_
  refine r_aload hg 1 d_Bench_density_74 rfl ?_
  refine r_get (v := .int (μ.1 a4 0)) hg c_Graph (h_G_lt h_a4) (h_G_kd h_a4) (Nat.le_of_ble_eq_true rfl) (h_G_fl0 h_a4) wf_Bench_92 d_Bench_density_76 rfl ?_
  refine r_icmp_ge (tgt := 99) hg d_Bench_density_79 (by decide) ?_ ?_
  · refine r_sub [0, 3, 4] rfl ?_
    exact hK99 v3 v6 v8 μ
  · refine r_lload hg 4 d_Bench_density_82 rfl ?_
    refine r_aload hg 2 d_Bench_density_84 rfl ?_
    refine r_get (v := .int (μ.1 a5 0)) hg c_Graph (h_G_lt h_a5) (h_G_kd h_a5) (Nat.le_of_ble_eq_true rfl) (h_G_fl0 h_a5) wf_Bench_92 d_Bench_density_86 rfl ?_
    refine r_i2l hg d_Bench_density_89 ?_
    refine r_lmul hg d_Bench_density_90 ?_
    refine r_letJ (fun v8_91 => ?_)
    refine r_lstore (l' := [(8, .long v8_91), (3, .int v3), (4, .ref a4), (5, .ref a5), (6, .long v6), (10, .int v10)]) hg d_Bench_density_91 (Nat.le_of_ble_eq_true rfl) rfl ?_
    refine r_letE (fun v10_93 he_93 => ?_)
    refine r_iinc (v := v10_93) (l' := [(10, .int v10_93), (8, .long v8_91), (3, .int v3), (4, .ref a4), (5, .ref a5), (6, .long v6)]) hg 5 d_Bench_density_93 rfl he_93 (Nat.le_of_ble_eq_true rfl) rfl ?_
    refine r_goto (tgt := 72) hg d_Bench_density_96 (by decide) ?_
    refine r_sub [2, 3, 4, 5, 1, 0] rfl ?_
    exact hrec_ v3 a4 h_a4 a5 h_a5 v6 v8_91 v10_93 μ
theorem t_Bench_density_L72 {cx : HCx} (hg : HGood cx R_Bench b_Bench_density 12 23 (some .long)) (hA : h_own cx) (hT : HThr cx 5) (K99 : Int32 → Int64 → Int64 → HMem → Option ((Int64 ⊕ Nat) × HMem)) (hK99 : p_Bench_density_99 cx K99) : ∀ (fuel : Nat) (v3 : Int32) (a4 : Nat) (h_a4 : HIsG a4) (a5 : Nat) (h_a5 : HIsG a5) (v6 : Int64) (v8 : Int64) (v10 : Int32) (μ : HMem), HX cx (HQx cx 5 h_eJ) (f_Bench_density_L72 K99 fuel v3 a4 a5 v6 v8 v10 μ) 4 24 72 [(3, .int v3), (4, .ref a4), (5, .ref a5), (6, .long v6), (8, .long v8), (10, .int v10)] [] μ
  | 0, _, _, _, _, _, _, _, _, _ => by unfold f_Bench_density_L72; exact HX.none
  | fuel + 1, v3, a4, h_a4, a5, h_a5, v6, v8, v10, μ => by
    rw [f_Bench_density_L72]
    exact t_Bench_density_L72_b hg hA hT  K99 hK99 (f_Bench_density_L72 K99 fuel) (t_Bench_density_L72 hg hA hT  K99 hK99 fuel) v3 a4 h_a4 a5 h_a5 v6 v8 v10 μ
theorem t_Bench_density_J134 {cx : HCx} (hg : HGood cx R_Bench b_Bench_density 12 23 (some .long)) (hA : h_own cx) (hT : HThr cx 5)   (s0 : Int64) (μ : HMem) : HX cx (HQx cx 5 h_eJ) (f_Bench_density_J134   s0 μ) 4 24 134 [] [.long s0] μ := by
  unfold f_Bench_density_J134
  exact r_xlret hg hA ⟨by decide, by decide⟩ rfl d_Bench_density_134 rfl
theorem t_Bench_density_J99 {cx : HCx} (hg : HGood cx R_Bench b_Bench_density 12 23 (some .long)) (hA : h_own cx) (hT : HThr cx 5)   (v3 : Int32) (v6 : Int64) (v8 : Int64) (μ : HMem) : HX cx (HQx cx 5 h_eJ) (f_Bench_density_J99   v3 v6 v8 μ) 4 24 99 [(3, .int v3), (6, .long v6), (8, .long v8)] [] μ := by
  unfold f_Bench_density_J99
  refine r_lload hg 2 d_Bench_density_99 rfl ?_
  refine r_lload hg 1 d_Bench_density_101 rfl ?_
  refine r_callS (As := [.long v8, .long v6]) hg (t_Bench_greatestDivisor v8 v6 μ) v_Bench_greatestDivisor wm_Bench_225 d_Bench_density_103 rfl ⟨by decide, by decide⟩ (Nat.le_of_ble_eq_true rfl) rfl (fun r103 μ_103 _ => ?_)
  refine r_lstore (l' := [(10, .long r103), (3, .int v3), (6, .long v6), (8, .long v8)]) hg d_Bench_density_106 (Nat.le_of_ble_eq_true rfl) rfl ?_
  refine r_lload hg 0 d_Bench_density_108 rfl ?_
  refine r_lconst (v := 0) hg d_Bench_density_110 (by decide) ?_
  refine r_lcmp hg d_Bench_density_111 ?_
  refine r_if_ne (tgt := 117) hg d_Bench_density_112 (by decide) ?_ ?_
  · refine r_iload_n hg 1 d_Bench_density_117 rfl rfl ?_
    refine r_if_ne (tgt := 129) hg d_Bench_density_118 (by decide) ?_ ?_
    · refine r_lload hg 3 d_Bench_density_129 rfl ?_
      refine r_lload hg 0 d_Bench_density_131 rfl ?_
      refine r_ldiv hg d_Bench_density_133 ?_
      refine r_sub [] rfl ?_
      exact t_Bench_density_J134 hg hA hT (v8 / r103) μ_103
    · refine r_lload hg 2 d_Bench_density_121 rfl ?_
      refine r_lload hg 0 d_Bench_density_123 rfl ?_
      refine r_ldiv hg d_Bench_density_125 ?_
      refine r_goto (tgt := 134) hg d_Bench_density_126 (by decide) ?_
      refine r_sub [] rfl ?_
      exact t_Bench_density_J134 hg hA hT (v6 / r103) μ_103
  · refine r_lconst (v := 0) hg d_Bench_density_115 (by decide) ?_
    exact r_xlret hg hA ⟨by decide, by decide⟩ rfl d_Bench_density_116 rfl
theorem t_Bench_density_0 {cx : HCx} (hg : HGood cx R_Bench b_Bench_density 12 23 (some .long)) (hA : h_own cx) (hT : HThr cx 5) (v1 : Int32) (v2 : Int32) (v3 : Int32) (μ : HMem) : HX cx (HQx cx 5 h_eJ) (f_Bench_density v1 v2 v3 μ) 0 0 0 [(0, .ref 84), (1, .int v1), (2, .int v2), (3, .int v3)] [] μ := by
  unfold f_Bench_density
  refine r_aload_n hg 0 d_Bench_density_0 rfl rfl ?_
  refine r_iload_n hg 1 d_Bench_density_1 rfl rfl ?_
  refine r_xcallV (As := [.int v1]) hg hA hT (t_Bench_graphAt v1 μ) v_Bench_graphAt c_Bench rfl (by decide) rfl wm_Bench_80 d_Bench_density_2 rfl ⟨by decide, by decide⟩ ⟨by decide, by decide⟩ (Nat.le_of_ble_eq_true rfl) rfl (fun r2 μ_2 e_2 => ?_)
  refine r_astore (l' := [(4, .ref r2), (0, .ref 84), (1, .int v1), (2, .int v2), (3, .int v3)]) hg d_Bench_density_5 (Nat.le_of_ble_eq_true rfl) rfl ?_
  refine r_aload_n hg 1 d_Bench_density_7 rfl rfl ?_
  refine r_iload_n hg 3 d_Bench_density_8 rfl rfl ?_
  refine r_xcallV (As := [.int v2]) hg hA hT (t_Bench_graphAt v2 μ_2) v_Bench_graphAt c_Bench rfl (by decide) rfl wm_Bench_80 d_Bench_density_9 rfl ⟨by decide, by decide⟩ ⟨by decide, by decide⟩ (Nat.le_of_ble_eq_true rfl) rfl (fun r9 μ_9 e_9 => ?_)
  refine r_astore (l' := [(5, .ref r9), (4, .ref r2), (0, .ref 84), (1, .int v1), (2, .int v2), (3, .int v3)]) hg d_Bench_density_12 (Nat.le_of_ble_eq_true rfl) rfl ?_
  refine r_iload_n hg 5 d_Bench_density_14 rfl rfl ?_
  refine r_iconst (v := 0) hg d_Bench_density_15 (by decide) ?_
  refine r_iconst (v := 1) hg d_Bench_density_16 (by decide) ?_
  refine r_xcallS (As := [.int v3, .int 0, .int 1]) hg hA hT (t_Bench_requireRange v3 0 1 μ_9) v_Bench_requireRange wm_Bench_84 d_Bench_density_17 rfl ⟨by decide, by decide⟩ ⟨by decide, by decide⟩ (Nat.le_of_ble_eq_true rfl) rfl (fun r17 μ_17 e_17 => ?_)
  refine r_aload hg 1 d_Bench_density_20 rfl ?_
  refine r_xcallS (As := [.ref r2]) hg hA hT (t_Bench_requireSmall r2 (f_Bench_graphAt_G e_2) μ_17) v_Bench_requireSmall wm_Bench_203 d_Bench_density_22 rfl ⟨by decide, by decide⟩ ⟨by decide, by decide⟩ (Nat.le_of_ble_eq_true rfl) rfl (fun r22 μ_22 e_22 => ?_)
  refine r_aload hg 0 d_Bench_density_25 rfl ?_
  refine r_get (v := .int (μ_22.1 r9 0)) hg c_Graph (h_G_lt (f_Bench_graphAt_G e_9)) (h_G_kd (f_Bench_graphAt_G e_9)) (Nat.le_of_ble_eq_true rfl) (h_G_fl0 (f_Bench_graphAt_G e_9)) wf_Bench_92 d_Bench_density_27 rfl ?_
  refine r_if_ne (tgt := 43) hg d_Bench_density_30 (by decide) ?_ ?_
  · refine r_aload_n hg 2 d_Bench_density_43 rfl rfl ?_
    refine r_get (v := .ref 97) hg c_Bench (by decide) rfl (Nat.le_of_ble_eq_true rfl) rfl wf_Bench_51 d_Bench_density_44 rfl ?_
    refine r_aload hg 1 d_Bench_density_47 rfl ?_
    refine r_aload hg 0 d_Bench_density_49 rfl ?_
    refine r_iconst (v := 0) hg d_Bench_density_51 (by decide) ?_
    refine r_callV (As := [.ref r2, .ref r9, .int 0]) hg (t_MapSums_load r2 (f_Bench_graphAt_G e_2) r9 (f_Bench_graphAt_G e_9) 0 μ_22) v_MapSums_load c_MapSums rfl (by decide) rfl wm_Bench_206 d_Bench_density_52 rfl ⟨by decide, by decide⟩ (Nat.le_of_ble_eq_true rfl) rfl (fun r52 μ_52 _ => ?_)
    refine r_aload_n hg 2 d_Bench_density_55 rfl rfl ?_
    refine r_get (v := .ref 97) hg c_Bench (by decide) rfl (Nat.le_of_ble_eq_true rfl) rfl wf_Bench_51 d_Bench_density_56 rfl ?_
    refine r_aload hg 1 d_Bench_density_59 rfl ?_
    refine r_callV (As := [.ref r2]) hg (t_MapSums_overAllMaps r2 (f_Bench_graphAt_G e_2) μ_52) v_MapSums_overAllMaps c_MapSums rfl (by decide) rfl wm_Bench_209 d_Bench_density_61 rfl ⟨by decide, by decide⟩ (Nat.le_of_ble_eq_true rfl) rfl (fun r61 μ_61 _ => ?_)
    refine r_lstore (l' := [(6, .long r61), (5, .ref r9), (4, .ref r2), (0, .ref 84), (1, .int v1), (2, .int v2), (3, .int v3)]) hg d_Bench_density_64 (Nat.le_of_ble_eq_true rfl) rfl ?_
    refine r_lconst (v := 1) hg d_Bench_density_66 (by decide) ?_
    refine r_lstore (l' := [(8, .long 1), (6, .long r61), (5, .ref r9), (4, .ref r2), (0, .ref 84), (1, .int v1), (2, .int v2), (3, .int v3)]) hg d_Bench_density_67 (Nat.le_of_ble_eq_true rfl) rfl ?_
    refine r_iconst (v := 0) hg d_Bench_density_69 (by decide) ?_
    refine r_istore (l' := [(10, .int 0), (8, .long 1), (6, .long r61), (5, .ref r9), (4, .ref r2), (0, .ref 84), (1, .int v1), (2, .int v2), (3, .int v3)]) hg d_Bench_density_70 (Nat.le_of_ble_eq_true rfl) rfl ?_
    refine r_sub [8, 4, 3, 2, 1, 0] rfl ?_
    exact t_Bench_density_L72 hg hA hT f_Bench_density_J99 (t_Bench_density_J99 hg hA hT) h_fuel v3 r2 (f_Bench_graphAt_G e_2) r9 (f_Bench_graphAt_G e_9) r61 1 0 μ_61
  · exact r_throw (text := "the second graph has no vertices") hg hA hT h_site3 (by decide) d_Bench_density_33 d_Bench_density_36 d_Bench_density_37 d_Bench_density_39 d_Bench_density_42 (by decide) (Nat.le_of_ble_eq_true rfl) ⟨by decide, by decide⟩
theorem t_Bench_density (v1 : Int32) (v2 : Int32) (v3 : Int32) (μ : HMem) : HSpecX y_Bench_density b_Bench_density 12 (some .long) 23 5 h_eJ [.ref 84, .int v1, .int v2, .int v3] μ (f_Bench_density v1 v2 v3 μ) :=
  HSpecX.of (by decide +kernel) (v_Bench_density.1 _ (by simp)) (Nat.le_of_ble_eq_true rfl) (fun cx hA hg hT => t_Bench_density_0 hg hA hT v1 v2 v3 μ)
theorem t_Bench_automorphisms_0 {cx : HCx} (hg : HGood cx R_Bench b_Bench_automorphisms 2 22 (some .int)) (hA : h_own cx) (hT : HThr cx 1) (v1 : Int32) (μ : HMem) : HX cx (HQx cx 1 h_eI) (f_Bench_automorphisms v1 μ) 0 0 0 [(0, .ref 84), (1, .int v1)] [] μ := by
  unfold f_Bench_automorphisms
  refine r_aload_n hg 0 d_Bench_automorphisms_0 rfl rfl ?_
  refine r_get (v := .ref 117) hg c_Bench (by decide) rfl (Nat.le_of_ble_eq_true rfl) rfl wf_Bench_65 d_Bench_automorphisms_1 rfl ?_
  refine r_aload_n hg 0 d_Bench_automorphisms_4 rfl rfl ?_
  refine r_iload_n hg 1 d_Bench_automorphisms_5 rfl rfl ?_
  refine r_xcallV (As := [.int v1]) hg hA hT (t_Bench_graphAt v1 μ) v_Bench_graphAt c_Bench rfl (by decide) rfl wm_Bench_80 d_Bench_automorphisms_6 rfl ⟨by decide, by decide⟩ ⟨by decide, by decide⟩ (Nat.le_of_ble_eq_true rfl) rfl (fun r6 μ_6 e_6 => ?_)
  refine r_callV (As := [.ref r6]) hg (t_Bijections_countOnto r6 (f_Bench_graphAt_G e_6) μ_6) v_Bijections_countOnto c_Bijections rfl (by decide) rfl wm_Bench_229 d_Bench_automorphisms_9 rfl ⟨by decide, by decide⟩ (Nat.le_of_ble_eq_true rfl) rfl (fun r9 μ_9 _ => ?_)
  exact r_xiret hg hA ⟨by decide, by decide⟩ rfl d_Bench_automorphisms_12 rfl
theorem t_Bench_automorphisms (v1 : Int32) (μ : HMem) : HSpecX y_Bench_automorphisms b_Bench_automorphisms 2 (some .int) 22 1 h_eI [.ref 84, .int v1] μ (f_Bench_automorphisms v1 μ) :=
  HSpecX.of (by decide +kernel) (v_Bench_automorphisms.1 _ (by simp)) (Nat.le_of_ble_eq_true rfl) (fun cx hA hg hT => t_Bench_automorphisms_0 hg hA hT v1 μ)
theorem t_Bench_isomorphic_0 {cx : HCx} (hg : HGood cx R_Bench b_Bench_isomorphic 3 21 (some .boolean)) (hA : h_own cx) (hT : HThr cx 2) (v1 : Int32) (v2 : Int32) (μ : HMem) : HX cx (HQx cx 2 h_eI) (f_Bench_isomorphic v1 v2 μ) 0 0 0 [(0, .ref 84), (1, .int v1), (2, .int v2)] [] μ := by
  unfold f_Bench_isomorphic
  refine r_aload_n hg 0 d_Bench_isomorphic_0 rfl rfl ?_
  refine r_get (v := .ref 117) hg c_Bench (by decide) rfl (Nat.le_of_ble_eq_true rfl) rfl wf_Bench_65 d_Bench_isomorphic_1 rfl ?_
  refine r_aload_n hg 0 d_Bench_isomorphic_4 rfl rfl ?_
  refine r_iload_n hg 1 d_Bench_isomorphic_5 rfl rfl ?_
  refine r_xcallV (As := [.int v1]) hg hA hT (t_Bench_graphAt v1 μ) v_Bench_graphAt c_Bench rfl (by decide) rfl wm_Bench_80 d_Bench_isomorphic_6 rfl ⟨by decide, by decide⟩ ⟨by decide, by decide⟩ (Nat.le_of_ble_eq_true rfl) rfl (fun r6 μ_6 e_6 => ?_)
  refine r_aload_n hg 0 d_Bench_isomorphic_9 rfl rfl ?_
  refine r_iload_n hg 2 d_Bench_isomorphic_10 rfl rfl ?_
  refine r_xcallV (As := [.int v2]) hg hA hT (t_Bench_graphAt v2 μ_6) v_Bench_graphAt c_Bench rfl (by decide) rfl wm_Bench_80 d_Bench_isomorphic_11 rfl ⟨by decide, by decide⟩ ⟨by decide, by decide⟩ (Nat.le_of_ble_eq_true rfl) rfl (fun r11 μ_11 e_11 => ?_)
  refine r_callV (As := [.ref r6, .ref r11]) hg (t_Bijections_exist r6 (f_Bench_graphAt_G e_6) r11 (f_Bench_graphAt_G e_11) μ_11) v_Bijections_exist c_Bijections rfl (by decide) rfl wm_Bench_232 d_Bench_isomorphic_14 rfl ⟨by decide, by decide⟩ (Nat.le_of_ble_eq_true rfl) rfl (fun r14 μ_14 _ => ?_)
  exact r_xzretB hg hA ⟨by decide, by decide⟩ rfl d_Bench_isomorphic_17 rfl
theorem t_Bench_isomorphic (v1 : Int32) (v2 : Int32) (μ : HMem) : HSpecX y_Bench_isomorphic b_Bench_isomorphic 3 (some .boolean) 21 2 h_eI [.ref 84, .int v1, .int v2] μ (f_Bench_isomorphic v1 v2 μ) :=
  HSpecX.of (by decide +kernel) (v_Bench_isomorphic.1 _ (by simp)) (Nat.le_of_ble_eq_true rfl) (fun cx hA hg hT => t_Bench_isomorphic_0 hg hA hT v1 v2 μ)
theorem t_Bench_image_0 {cx : HCx} (hg : HGood cx R_Bench b_Bench_image 6 23 (some .int)) (hA : h_own cx) (hT : HThr cx 3) (v1 : Int32) (v2 : Int32) (v3 : Int32) (μ : HMem) : HX cx (HQx cx 3 h_eI) (f_Bench_image v1 v2 v3 μ) 0 0 0 [(0, .ref 84), (1, .int v1), (2, .int v2), (3, .int v3)] [] μ := by
  unfold f_Bench_image
  refine r_aload_n hg 0 d_Bench_image_0 rfl rfl ?_
  refine r_iload_n hg 1 d_Bench_image_1 rfl rfl ?_
  refine r_xcallV (As := [.int v1]) hg hA hT (t_Bench_graphAt v1 μ) v_Bench_graphAt c_Bench rfl (by decide) rfl wm_Bench_80 d_Bench_image_2 rfl ⟨by decide, by decide⟩ ⟨by decide, by decide⟩ (Nat.le_of_ble_eq_true rfl) rfl (fun r2 μ_2 e_2 => ?_)
  refine r_astore (l' := [(4, .ref r2), (0, .ref 84), (1, .int v1), (2, .int v2), (3, .int v3)]) hg d_Bench_image_5 (Nat.le_of_ble_eq_true rfl) rfl ?_
  refine r_aload_n hg 1 d_Bench_image_7 rfl rfl ?_
  refine r_iload_n hg 3 d_Bench_image_8 rfl rfl ?_
  refine r_xcallV (As := [.int v2]) hg hA hT (t_Bench_graphAt v2 μ_2) v_Bench_graphAt c_Bench rfl (by decide) rfl wm_Bench_80 d_Bench_image_9 rfl ⟨by decide, by decide⟩ ⟨by decide, by decide⟩ (Nat.le_of_ble_eq_true rfl) rfl (fun r9 μ_9 e_9 => ?_)
  refine r_astore (l' := [(5, .ref r9), (4, .ref r2), (0, .ref 84), (1, .int v1), (2, .int v2), (3, .int v3)]) hg d_Bench_image_12 (Nat.le_of_ble_eq_true rfl) rfl ?_
  refine r_aload hg 1 d_Bench_image_14 rfl ?_
  refine r_iload_n hg 5 d_Bench_image_16 rfl rfl ?_
  refine r_xcallS (As := [.ref r2, .int v3]) hg hA hT (t_Bench_requireVertex r2 (f_Bench_graphAt_G e_2) v3 μ_9) v_Bench_requireVertex wm_Bench_100 d_Bench_image_17 rfl ⟨by decide, by decide⟩ ⟨by decide, by decide⟩ (Nat.le_of_ble_eq_true rfl) rfl (fun r17 μ_17 e_17 => ?_)
  refine r_aload_n hg 2 d_Bench_image_20 rfl rfl ?_
  refine r_get (v := .ref 103) hg c_Bench (by decide) rfl (Nat.le_of_ble_eq_true rfl) rfl wf_Bench_58 d_Bench_image_21 rfl ?_
  refine r_aload hg 1 d_Bench_image_24 rfl ?_
  refine r_aload hg 0 d_Bench_image_26 rfl ?_
  refine r_iload_n hg 5 d_Bench_image_28 rfl rfl ?_
  refine r_callV (As := [.ref r2, .ref r9, .int v3]) hg (t_HomSearch_firstImage r2 (f_Bench_graphAt_G e_2) r9 (f_Bench_graphAt_G e_9) v3 μ_17) v_HomSearch_firstImage c_HomSearch rfl (by decide) rfl wm_Bench_236 d_Bench_image_29 rfl ⟨by decide, by decide⟩ (Nat.le_of_ble_eq_true rfl) rfl (fun r29 μ_29 _ => ?_)
  exact r_xiret hg hA ⟨by decide, by decide⟩ rfl d_Bench_image_32 rfl
theorem t_Bench_image (v1 : Int32) (v2 : Int32) (v3 : Int32) (μ : HMem) : HSpecX y_Bench_image b_Bench_image 6 (some .int) 23 3 h_eI [.ref 84, .int v1, .int v2, .int v3] μ (f_Bench_image v1 v2 v3 μ) :=
  HSpecX.of (by decide +kernel) (v_Bench_image.1 _ (by simp)) (Nat.le_of_ble_eq_true rfl) (fun cx hA hg hT => t_Bench_image_0 hg hA hT v1 v2 v3 μ)
theorem t_Bench_compare_J49 {cx : HCx} (hg : HGood cx R_Bench b_Bench_compare 5 22 (some .int)) (hA : h_own cx) (hT : HThr cx 2)   (s0 : Int32) (s1 : Int32) (μ : HMem) : HX cx (HQx cx 2 h_eI) (f_Bench_compare_J49   s0 s1 μ) 2 12 49 [] [.int s0, .int s1] μ := by
  unfold f_Bench_compare_J49
  refine r_iadd hg d_Bench_compare_49 ?_
  exact r_xiret hg hA ⟨by decide, by decide⟩ rfl d_Bench_compare_50 rfl
theorem t_Bench_compare_J31 {cx : HCx} (hg : HGood cx R_Bench b_Bench_compare 5 22 (some .int)) (hA : h_own cx) (hT : HThr cx 2)   (a3 : Nat) (h_a3 : HIsG a3) (a4 : Nat) (h_a4 : HIsG a4) (s0 : Int32) (μ : HMem) : HX cx (HQx cx 2 h_eI) (f_Bench_compare_J31   a3 a4 s0 μ) 2 12 31 [(0, .ref 84), (3, .ref a3), (4, .ref a4)] [.int s0] μ := by
  unfold f_Bench_compare_J31
  refine r_aload_n hg 0 d_Bench_compare_31 rfl rfl ?_
  refine r_get (v := .ref 103) hg c_Bench (by decide) rfl (Nat.le_of_ble_eq_true rfl) rfl wf_Bench_58 d_Bench_compare_32 rfl ?_
  refine r_aload hg 2 d_Bench_compare_35 rfl ?_
  refine r_aload_n hg 1 d_Bench_compare_37 rfl rfl ?_
  refine r_callV (As := [.ref a4, .ref a3]) hg (t_HomSearch_maps a4 h_a4 a3 h_a3 μ) v_HomSearch_maps c_HomSearch rfl (by decide) rfl wm_Bench_240 d_Bench_compare_38 rfl ⟨by decide, by decide⟩ (Nat.le_of_ble_eq_true rfl) rfl (fun r38 μ_38 _ => ?_)
  refine r_if_eq (tgt := 48) hg d_Bench_compare_41 (by decide) ?_ ?_
  · refine r_iconst (v := 0) hg d_Bench_compare_48 (by decide) ?_
    refine r_sub [] rfl ?_
    exact t_Bench_compare_J49 hg hA hT 0 s0 μ_38
  · refine r_iconst (v := 2) hg d_Bench_compare_44 (by decide) ?_
    refine r_goto (tgt := 49) hg d_Bench_compare_45 (by decide) ?_
    refine r_sub [] rfl ?_
    exact t_Bench_compare_J49 hg hA hT 2 s0 μ_38
theorem t_Bench_compare_0 {cx : HCx} (hg : HGood cx R_Bench b_Bench_compare 5 22 (some .int)) (hA : h_own cx) (hT : HThr cx 2) (v1 : Int32) (v2 : Int32) (μ : HMem) : HX cx (HQx cx 2 h_eI) (f_Bench_compare v1 v2 μ) 0 0 0 [(0, .ref 84), (1, .int v1), (2, .int v2)] [] μ := by
  unfold f_Bench_compare
  refine r_aload_n hg 0 d_Bench_compare_0 rfl rfl ?_
  refine r_iload_n hg 1 d_Bench_compare_1 rfl rfl ?_
  refine r_xcallV (As := [.int v1]) hg hA hT (t_Bench_graphAt v1 μ) v_Bench_graphAt c_Bench rfl (by decide) rfl wm_Bench_80 d_Bench_compare_2 rfl ⟨by decide, by decide⟩ ⟨by decide, by decide⟩ (Nat.le_of_ble_eq_true rfl) rfl (fun r2 μ_2 e_2 => ?_)
  refine r_astore_n (l' := [(3, .ref r2), (0, .ref 84), (1, .int v1), (2, .int v2)]) hg d_Bench_compare_5 rfl (Nat.le_of_ble_eq_true rfl) rfl ?_
  refine r_aload_n hg 1 d_Bench_compare_6 rfl rfl ?_
  refine r_iload_n hg 3 d_Bench_compare_7 rfl rfl ?_
  refine r_xcallV (As := [.int v2]) hg hA hT (t_Bench_graphAt v2 μ_2) v_Bench_graphAt c_Bench rfl (by decide) rfl wm_Bench_80 d_Bench_compare_8 rfl ⟨by decide, by decide⟩ ⟨by decide, by decide⟩ (Nat.le_of_ble_eq_true rfl) rfl (fun r8 μ_8 e_8 => ?_)
  refine r_astore (l' := [(4, .ref r8), (3, .ref r2), (0, .ref 84), (1, .int v1), (2, .int v2)]) hg d_Bench_compare_11 (Nat.le_of_ble_eq_true rfl) rfl ?_
  refine r_aload_n hg 2 d_Bench_compare_13 rfl rfl ?_
  refine r_get (v := .ref 103) hg c_Bench (by decide) rfl (Nat.le_of_ble_eq_true rfl) rfl wf_Bench_58 d_Bench_compare_14 rfl ?_
  refine r_aload_n hg 1 d_Bench_compare_17 rfl rfl ?_
  refine r_aload hg 0 d_Bench_compare_18 rfl ?_
  refine r_callV (As := [.ref r2, .ref r8]) hg (t_HomSearch_maps r2 (f_Bench_graphAt_G e_2) r8 (f_Bench_graphAt_G e_8) μ_8) v_HomSearch_maps c_HomSearch rfl (by decide) rfl wm_Bench_240 d_Bench_compare_20 rfl ⟨by decide, by decide⟩ (Nat.le_of_ble_eq_true rfl) rfl (fun r20 μ_20 _ => ?_)
  refine r_if_eq (tgt := 30) hg d_Bench_compare_23 (by decide) ?_ ?_
  · refine r_iconst (v := 0) hg d_Bench_compare_30 (by decide) ?_
    refine r_sub [2, 1, 0] rfl ?_
    exact t_Bench_compare_J31 hg hA hT r2 (f_Bench_graphAt_G e_2) r8 (f_Bench_graphAt_G e_8) 0 μ_20
  · refine r_iconst (v := 1) hg d_Bench_compare_26 (by decide) ?_
    refine r_goto (tgt := 31) hg d_Bench_compare_27 (by decide) ?_
    refine r_sub [2, 1, 0] rfl ?_
    exact t_Bench_compare_J31 hg hA hT r2 (f_Bench_graphAt_G e_2) r8 (f_Bench_graphAt_G e_8) 1 μ_20
theorem t_Bench_compare (v1 : Int32) (v2 : Int32) (μ : HMem) : HSpecX y_Bench_compare b_Bench_compare 5 (some .int) 22 2 h_eI [.ref 84, .int v1, .int v2] μ (f_Bench_compare v1 v2 μ) :=
  HSpecX.of (by decide +kernel) (v_Bench_compare.1 _ (by simp)) (Nat.le_of_ble_eq_true rfl) (fun cx hA hg hT => t_Bench_compare_0 hg hA hT v1 v2 μ)
theorem t_Bench_colorings_0 {cx : HCx} (hg : HGood cx R_Bench b_Bench_colorings 4 19 (some .long)) (hA : h_own cx) (hT : HThr cx 2) (v1 : Int32) (v2 : Int32) (μ : HMem) : HX cx (HQx cx 2 h_eJ) (f_Bench_colorings v1 v2 μ) 0 0 0 [(0, .ref 84), (1, .int v1), (2, .int v2)] [] μ := by
  unfold f_Bench_colorings
  refine r_aload_n hg 0 d_Bench_colorings_0 rfl rfl ?_
  refine r_iload_n hg 1 d_Bench_colorings_1 rfl rfl ?_
  refine r_xcallV (As := [.int v1]) hg hA hT (t_Bench_graphAt v1 μ) v_Bench_graphAt c_Bench rfl (by decide) rfl wm_Bench_80 d_Bench_colorings_2 rfl ⟨by decide, by decide⟩ ⟨by decide, by decide⟩ (Nat.le_of_ble_eq_true rfl) rfl (fun r2 μ_2 e_2 => ?_)
  refine r_astore_n (l' := [(3, .ref r2), (0, .ref 84), (1, .int v1), (2, .int v2)]) hg d_Bench_colorings_5 rfl (Nat.le_of_ble_eq_true rfl) rfl ?_
  refine r_iload_n hg 3 d_Bench_colorings_6 rfl rfl ?_
  refine r_iconst (v := 0) hg d_Bench_colorings_7 (by decide) ?_
  refine r_bipush (v := 20) hg d_Bench_colorings_8 (by decide) ?_
  refine r_xcallS (As := [.int v2, .int 0, .int 20]) hg hA hT (t_Bench_requireRange v2 0 20 μ_2) v_Bench_requireRange wm_Bench_84 d_Bench_colorings_10 rfl ⟨by decide, by decide⟩ ⟨by decide, by decide⟩ (Nat.le_of_ble_eq_true rfl) rfl (fun r10 μ_10 e_10 => ?_)
  refine r_aload_n hg 1 d_Bench_colorings_13 rfl rfl ?_
  refine r_aload_n hg 0 d_Bench_colorings_14 rfl rfl ?_
  refine r_iload_n hg 3 d_Bench_colorings_15 rfl rfl ?_
  refine r_callV (As := [.ref r2, .int v2]) hg (t_Bench_properColorings r2 (f_Bench_graphAt_G e_2) v2 μ_10) v_Bench_properColorings c_Bench rfl (by decide) rfl wm_Bench_243 d_Bench_colorings_16 rfl ⟨by decide, by decide⟩ (Nat.le_of_ble_eq_true rfl) rfl (fun r16 μ_16 _ => ?_)
  exact r_xlret hg hA ⟨by decide, by decide⟩ rfl d_Bench_colorings_19 rfl
theorem t_Bench_colorings (v1 : Int32) (v2 : Int32) (μ : HMem) : HSpecX y_Bench_colorings b_Bench_colorings 4 (some .long) 19 2 h_eJ [.ref 84, .int v1, .int v2] μ (f_Bench_colorings v1 v2 μ) :=
  HSpecX.of (by decide +kernel) (v_Bench_colorings.1 _ (by simp)) (Nat.le_of_ble_eq_true rfl) (fun cx hA hg hT => t_Bench_colorings_0 hg hA hT v1 v2 μ)
theorem t_Bench_chromatic_L8_b {cx : HCx} (hg : HGood cx R_Bench b_Bench_chromatic 4 19 (some .int)) (hA : h_own cx) (hT : HThr cx 1)  (rec_ : Nat → Int32 → HMem → Option ((Int32 ⊕ Nat) × HMem)) (hrec_ : p_Bench_chromatic_8 cx rec_) (a2 : Nat) (h_a2 : HIsG a2) (v3 : Int32) (μ : HMem) : HX cx (HQx cx 1 h_eI) (f_Bench_chromatic_L8_b  rec_ a2 v3 μ) 1 6 8 [(0, .ref 84), (2, .ref a2), (3, .int v3)] [] μ := by
  unfold f_Bench_chromatic_L8_b
  refine r_iload_n hg 2 d_Bench_chromatic_8 rfl rfl ?_
  refine r_aload_n hg 1 d_Bench_chromatic_9 rfl rfl ?_
  refine r_get (v := .int (μ.1 a2 0)) hg c_Graph (h_G_lt h_a2) (h_G_kd h_a2) (Nat.le_of_ble_eq_true rfl) (h_G_fl0 h_a2) wf_Bench_92 d_Bench_chromatic_10 rfl ?_
  refine r_icmp_gt (tgt := 35) hg d_Bench_chromatic_13 (by decide) ?_ ?_
  · refine r_iconst (v := -1) hg d_Bench_chromatic_35 (by decide) ?_
    exact r_xiret hg hA ⟨by decide, by decide⟩ rfl d_Bench_chromatic_36 rfl
  · refine r_aload_n hg 0 d_Bench_chromatic_16 rfl rfl ?_
    refine r_aload_n hg 1 d_Bench_chromatic_17 rfl rfl ?_
    refine r_iload_n hg 2 d_Bench_chromatic_18 rfl rfl ?_
    refine r_callV (As := [.ref a2, .int v3]) hg (t_Bench_properColorings a2 h_a2 v3 μ) v_Bench_properColorings c_Bench rfl (by decide) rfl wm_Bench_243 d_Bench_chromatic_19 rfl ⟨by decide, by decide⟩ (Nat.le_of_ble_eq_true rfl) rfl (fun r19 μ_19 _ => ?_)
    refine r_lconst (v := 0) hg d_Bench_chromatic_22 (by decide) ?_
    refine r_lcmp hg d_Bench_chromatic_23 ?_
    refine r_if_le (tgt := 29) hg d_Bench_chromatic_24 (by decide) ?_ ?_
    · refine r_letE (fun v3_29 he_29 => ?_)
      refine r_iinc (v := v3_29) (l' := [(3, .int v3_29), (0, .ref 84), (2, .ref a2)]) hg 2 d_Bench_chromatic_29 rfl he_29 (Nat.le_of_ble_eq_true rfl) rfl ?_
      refine r_goto (tgt := 8) hg d_Bench_chromatic_32 (by decide) ?_
      refine r_sub [1, 2, 0] rfl ?_
      exact hrec_ a2 h_a2 v3_29 μ_19
    · refine r_iload_n hg 2 d_Bench_chromatic_27 rfl rfl ?_
      exact r_xiret hg hA ⟨by decide, by decide⟩ rfl d_Bench_chromatic_28 rfl
theorem t_Bench_chromatic_L8 {cx : HCx} (hg : HGood cx R_Bench b_Bench_chromatic 4 19 (some .int)) (hA : h_own cx) (hT : HThr cx 1)  : ∀ (fuel : Nat) (a2 : Nat) (h_a2 : HIsG a2) (v3 : Int32) (μ : HMem), HX cx (HQx cx 1 h_eI) (f_Bench_chromatic_L8  fuel a2 v3 μ) 1 6 8 [(0, .ref 84), (2, .ref a2), (3, .int v3)] [] μ
  | 0, _, _, _, _ => by unfold f_Bench_chromatic_L8; exact HX.none
  | fuel + 1, a2, h_a2, v3, μ => by
    rw [f_Bench_chromatic_L8]
    exact t_Bench_chromatic_L8_b hg hA hT   (f_Bench_chromatic_L8  fuel) (t_Bench_chromatic_L8 hg hA hT   fuel) a2 h_a2 v3 μ
theorem t_Bench_chromatic_0 {cx : HCx} (hg : HGood cx R_Bench b_Bench_chromatic 4 19 (some .int)) (hA : h_own cx) (hT : HThr cx 1) (v1 : Int32) (μ : HMem) : HX cx (HQx cx 1 h_eI) (f_Bench_chromatic v1 μ) 0 0 0 [(0, .ref 84), (1, .int v1)] [] μ := by
  unfold f_Bench_chromatic
  refine r_aload_n hg 0 d_Bench_chromatic_0 rfl rfl ?_
  refine r_iload_n hg 1 d_Bench_chromatic_1 rfl rfl ?_
  refine r_xcallV (As := [.int v1]) hg hA hT (t_Bench_graphAt v1 μ) v_Bench_graphAt c_Bench rfl (by decide) rfl wm_Bench_80 d_Bench_chromatic_2 rfl ⟨by decide, by decide⟩ ⟨by decide, by decide⟩ (Nat.le_of_ble_eq_true rfl) rfl (fun r2 μ_2 e_2 => ?_)
  refine r_astore_n (l' := [(2, .ref r2), (0, .ref 84), (1, .int v1)]) hg d_Bench_chromatic_5 rfl (Nat.le_of_ble_eq_true rfl) rfl ?_
  refine r_iconst (v := 0) hg d_Bench_chromatic_6 (by decide) ?_
  refine r_istore_n (l' := [(3, .int 0), (2, .ref r2), (0, .ref 84), (1, .int v1)]) hg d_Bench_chromatic_7 rfl (Nat.le_of_ble_eq_true rfl) rfl ?_
  refine r_sub [2, 1, 0] rfl ?_
  exact t_Bench_chromatic_L8 hg hA hT h_fuel r2 (f_Bench_graphAt_G e_2) 0 μ_2
theorem t_Bench_chromatic (v1 : Int32) (μ : HMem) : HSpecX y_Bench_chromatic b_Bench_chromatic 4 (some .int) 19 1 h_eI [.ref 84, .int v1] μ (f_Bench_chromatic v1 μ) :=
  HSpecX.of (by decide +kernel) (v_Bench_chromatic.1 _ (by simp)) (Nat.le_of_ble_eq_true rfl) (fun cx hA hg hT => t_Bench_chromatic_0 hg hA hT v1 μ)
theorem t_Bench_independent_J57 {cx : HCx} (hg : HGood cx R_Bench b_Bench_independent 6 7 (some .int)) (hA : h_own cx) (hT : HThr cx 2)  (rec_ : Int32 → Nat → Int32 → Int32 → HMem → Option ((Int32 ⊕ Nat) × HMem)) (hrec_ : p_Bench_independent_19 cx rec_) (v2 : Int32) (a3 : Nat) (h_a3 : HIsG a3) (v4 : Int32) (v5 : Int32) (μ : HMem) : HX cx (HQx cx 2 h_eI) (f_Bench_independent_J57  rec_ v2 a3 v4 v5 μ) 2 12 57 [(2, .int v2), (3, .ref a3), (4, .int v4), (5, .int v5)] [] μ := by
  unfold f_Bench_independent_J57
  refine r_letE (fun v5_57 he_57 => ?_)
  refine r_iinc (v := v5_57) (l' := [(5, .int v5_57), (2, .int v2), (3, .ref a3), (4, .int v4)]) hg 3 d_Bench_independent_57 rfl he_57 (Nat.le_of_ble_eq_true rfl) rfl ?_
  refine r_goto (tgt := 19) hg d_Bench_independent_60 (by decide) ?_
  refine r_sub [1, 2, 3, 0] rfl ?_
  exact hrec_ v2 a3 h_a3 v4 v5_57 μ
theorem t_Bench_independent_J42 {cx : HCx} (hg : HGood cx R_Bench b_Bench_independent 6 7 (some .int)) (hA : h_own cx) (hT : HThr cx 2)  (rec_ : Int32 → Nat → Int32 → Int32 → HMem → Option ((Int32 ⊕ Nat) × HMem)) (hrec_ : p_Bench_independent_19 cx rec_) (v2 : Int32) (a3 : Nat) (h_a3 : HIsG a3) (v4 : Int32) (v5 : Int32) (μ : HMem) : HX cx (HQx cx 2 h_eI) (f_Bench_independent_J42  rec_ v2 a3 v4 v5 μ) 2 12 42 [(2, .int v2), (3, .ref a3), (4, .int v4), (5, .int v5)] [] μ := by
  unfold f_Bench_independent_J42
  refine r_aload_n hg 1 d_Bench_independent_42 rfl rfl ?_
  refine r_iload hg 3 d_Bench_independent_43 rfl ?_
  refine r_callV (As := [.int v5]) hg (t_Graph_nearOf a3 h_a3 v5 μ) v_Graph_nearOf c_Graph rfl (h_G_lt h_a3) (h_G_kd h_a3) wm_Bench_247 d_Bench_independent_45 rfl ⟨by decide, by decide⟩ (Nat.le_of_ble_eq_true rfl) rfl (fun r45 μ_45 _ => ?_)
  refine r_iload hg 3 d_Bench_independent_48 rfl ?_
  refine r_iand hg d_Bench_independent_50 ?_
  refine r_if_ne (tgt := 57) hg d_Bench_independent_51 (by decide) ?_ ?_
  · exact t_Bench_independent_J57 hg hA hT rec_ hrec_ v2 a3 h_a3 v4 v5 μ_45
  · refine r_letE (fun v4_54 he_54 => ?_)
    refine r_iinc (v := v4_54) (l' := [(4, .int v4_54), (2, .int v2), (3, .ref a3), (5, .int v5)]) hg 2 d_Bench_independent_54 rfl he_54 (Nat.le_of_ble_eq_true rfl) rfl ?_
    refine r_sub [1, 2, 0, 3] rfl ?_
    exact t_Bench_independent_J57 hg hA hT rec_ hrec_ v2 a3 h_a3 v4_54 v5 μ_45
theorem t_Bench_independent_L19_b {cx : HCx} (hg : HGood cx R_Bench b_Bench_independent 6 7 (some .int)) (hA : h_own cx) (hT : HThr cx 2)  (rec_ : Int32 → Nat → Int32 → Int32 → HMem → Option ((Int32 ⊕ Nat) × HMem)) (hrec_ : p_Bench_independent_19 cx rec_) (v2 : Int32) (a3 : Nat) (h_a3 : HIsG a3) (v4 : Int32) (v5 : Int32) (μ : HMem) : HX cx (HQx cx 2 h_eI) (f_Bench_independent_L19_b  rec_ v2 a3 v4 v5 μ) 2 12 19 [(2, .int v2), (3, .ref a3), (4, .int v4), (5, .int v5)] [] μ := by
  unfold f_Bench_independent_L19_b
  refine r_iload hg 3 d_Bench_independent_19 rfl ?_
  refine r_aload_n hg 1 d_Bench_independent_21 rfl rfl ?_
  refine r_callV (As := []) hg (t_Graph_all a3 h_a3 μ) v_Graph_all c_Graph rfl (h_G_lt h_a3) (h_G_kd h_a3) wm_Bench_136 d_Bench_independent_22 rfl ⟨by decide, by decide⟩ (Nat.le_of_ble_eq_true rfl) rfl (fun r22 μ_22 _ => ?_)
  refine r_icmp_gt (tgt := 63) hg d_Bench_independent_25 (by decide) ?_ ?_
  · refine r_iload hg 2 d_Bench_independent_63 rfl ?_
    exact r_xiret hg hA ⟨by decide, by decide⟩ rfl d_Bench_independent_65 rfl
  · refine r_iload_n hg 0 d_Bench_independent_28 rfl rfl ?_
    refine r_iconst (v := -1) hg d_Bench_independent_29 (by decide) ?_
    refine r_icmp_eq (tgt := 42) hg d_Bench_independent_30 (by decide) ?_ ?_
    · exact t_Bench_independent_J42 hg hA hT rec_ hrec_ v2 a3 h_a3 v4 v5 μ_22
    · refine r_iload hg 3 d_Bench_independent_33 rfl ?_
      refine r_callS (As := [.int v5]) hg (t_Integer_bitCount v5 μ_22) v_Integer_bitCount wm_Bench_167 d_Bench_independent_35 rfl ⟨by decide, by decide⟩ (Nat.le_of_ble_eq_true rfl) rfl (fun r35 μ_35 _ => ?_)
      refine r_iload_n hg 0 d_Bench_independent_38 rfl rfl ?_
      refine r_icmp_ne (tgt := 57) hg d_Bench_independent_39 (by decide) ?_ ?_
      · exact t_Bench_independent_J57 hg hA hT rec_ hrec_ v2 a3 h_a3 v4 v5 μ_35
      · exact t_Bench_independent_J42 hg hA hT rec_ hrec_ v2 a3 h_a3 v4 v5 μ_35
theorem t_Bench_independent_L19 {cx : HCx} (hg : HGood cx R_Bench b_Bench_independent 6 7 (some .int)) (hA : h_own cx) (hT : HThr cx 2)  : ∀ (fuel : Nat) (v2 : Int32) (a3 : Nat) (h_a3 : HIsG a3) (v4 : Int32) (v5 : Int32) (μ : HMem), HX cx (HQx cx 2 h_eI) (f_Bench_independent_L19  fuel v2 a3 v4 v5 μ) 2 12 19 [(2, .int v2), (3, .ref a3), (4, .int v4), (5, .int v5)] [] μ
  | 0, _, _, _, _, _, _ => by unfold f_Bench_independent_L19; exact HX.none
  | fuel + 1, v2, a3, h_a3, v4, v5, μ => by
    rw [f_Bench_independent_L19]
    exact t_Bench_independent_L19_b hg hA hT   (f_Bench_independent_L19  fuel) (t_Bench_independent_L19 hg hA hT   fuel) v2 a3 h_a3 v4 v5 μ
theorem t_Bench_independent_0 {cx : HCx} (hg : HGood cx R_Bench b_Bench_independent 6 7 (some .int)) (hA : h_own cx) (hT : HThr cx 2) (v1 : Int32) (v2 : Int32) (μ : HMem) : HX cx (HQx cx 2 h_eI) (f_Bench_independent v1 v2 μ) 0 0 0 [(0, .ref 84), (1, .int v1), (2, .int v2)] [] μ := by
  unfold f_Bench_independent
  refine r_aload_n hg 0 d_Bench_independent_0 rfl rfl ?_
  refine r_iload_n hg 1 d_Bench_independent_1 rfl rfl ?_
  refine r_xcallV (As := [.int v1]) hg hA hT (t_Bench_graphAt v1 μ) v_Bench_graphAt c_Bench rfl (by decide) rfl wm_Bench_80 d_Bench_independent_2 rfl ⟨by decide, by decide⟩ ⟨by decide, by decide⟩ (Nat.le_of_ble_eq_true rfl) rfl (fun r2 μ_2 e_2 => ?_)
  refine r_astore_n (l' := [(3, .ref r2), (0, .ref 84), (1, .int v1), (2, .int v2)]) hg d_Bench_independent_5 rfl (Nat.le_of_ble_eq_true rfl) rfl ?_
  refine r_iload_n hg 3 d_Bench_independent_6 rfl rfl ?_
  refine r_iconst (v := -1) hg d_Bench_independent_7 (by decide) ?_
  refine r_bipush (v := 8) hg d_Bench_independent_8 (by decide) ?_
  refine r_xcallS (As := [.int v2, .int (-1), .int 8]) hg hA hT (t_Bench_requireRange v2 (-1) 8 μ_2) v_Bench_requireRange wm_Bench_84 d_Bench_independent_10 rfl ⟨by decide, by decide⟩ ⟨by decide, by decide⟩ (Nat.le_of_ble_eq_true rfl) rfl (fun r10 μ_10 e_10 => ?_)
  refine r_iconst (v := 0) hg d_Bench_independent_13 (by decide) ?_
  refine r_istore (l' := [(4, .int 0), (3, .ref r2), (0, .ref 84), (1, .int v1), (2, .int v2)]) hg d_Bench_independent_14 (Nat.le_of_ble_eq_true rfl) rfl ?_
  refine r_iconst (v := 0) hg d_Bench_independent_16 (by decide) ?_
  refine r_istore (l' := [(5, .int 0), (4, .int 0), (3, .ref r2), (0, .ref 84), (1, .int v1), (2, .int v2)]) hg d_Bench_independent_17 (Nat.le_of_ble_eq_true rfl) rfl ?_
  refine r_sub [5, 2, 1, 0] rfl ?_
  exact t_Bench_independent_L19 hg hA hT h_fuel v2 r2 (f_Bench_graphAt_G e_2) 0 0 μ_10
theorem t_Bench_independent (v1 : Int32) (v2 : Int32) (μ : HMem) : HSpecX y_Bench_independent b_Bench_independent 6 (some .int) 7 2 h_eI [.ref 84, .int v1, .int v2] μ (f_Bench_independent v1 v2 μ) :=
  HSpecX.of (by decide +kernel) (v_Bench_independent.1 _ (by simp)) (Nat.le_of_ble_eq_true rfl) (fun cx hA hg hT => t_Bench_independent_0 hg hA hT v1 v2 μ)
theorem t_Bench_walks_L20_b {cx : HCx} (hg : HGood cx R_Bench b_Bench_walks 8 7 (some .long)) (hA : h_own cx) (hT : HThr cx 2)  (rec_ : Int32 → Int32 → Nat → Int64 → Int32 → HMem → Option ((Int64 ⊕ Nat) × HMem)) (hrec_ : p_Bench_walks_20 cx rec_) (v2 : Int32) (v3 : Int32) (a4 : Nat) (h_a4 : HIsG a4) (v5 : Int64) (v7 : Int32) (μ : HMem) : HX cx (HQx cx 2 h_eJ) (f_Bench_walks_L20_b  rec_ v2 v3 a4 v5 v7 μ) 2 12 20 [(0, .ref 84), (2, .int v2), (3, .int v3), (4, .ref a4), (5, .long v5), (7, .int v7)] [] μ := by
  unfold f_Bench_walks_L20_b
  refine r_iload hg 5 d_Bench_walks_20 rfl ?_
  refine r_aload hg 3 d_Bench_walks_22 rfl ?_
  refine r_get (v := .int (μ.1 a4 0)) hg c_Graph (h_G_lt h_a4) (h_G_kd h_a4) (Nat.le_of_ble_eq_true rfl) (h_G_fl0 h_a4) wf_Bench_92 d_Bench_walks_24 rfl ?_
  refine r_icmp_ge (tgt := 54) hg d_Bench_walks_27 (by decide) ?_ ?_
  · refine r_lload hg 4 d_Bench_walks_54 rfl ?_
    exact r_xlret hg hA ⟨by decide, by decide⟩ rfl d_Bench_walks_56 rfl
  · refine r_lload hg 4 d_Bench_walks_30 rfl ?_
    refine r_aload_n hg 0 d_Bench_walks_32 rfl rfl ?_
    refine r_get (v := .ref 122) hg c_Bench (by decide) rfl (Nat.le_of_ble_eq_true rfl) rfl wf_Bench_76 d_Bench_walks_33 rfl ?_
    refine r_aload hg 3 d_Bench_walks_36 rfl ?_
    refine r_iload hg 5 d_Bench_walks_38 rfl ?_
    refine r_iload_n hg 1 d_Bench_walks_40 rfl rfl ?_
    refine r_iload_n hg 2 d_Bench_walks_41 rfl rfl ?_
    refine r_callV (As := [.ref a4, .int v7, .int v2, .int v3]) hg (t_Walks_sumFrom a4 h_a4 v7 v2 v3 μ) v_Walks_sumFrom c_Walks rfl (by decide) rfl wm_Bench_250 d_Bench_walks_42 rfl ⟨by decide, by decide⟩ (Nat.le_of_ble_eq_true rfl) rfl (fun r42 μ_42 _ => ?_)
    refine r_ladd hg d_Bench_walks_45 ?_
    refine r_letJ (fun v5_46 => ?_)
    refine r_lstore (l' := [(5, .long v5_46), (0, .ref 84), (2, .int v2), (3, .int v3), (4, .ref a4), (7, .int v7)]) hg d_Bench_walks_46 (Nat.le_of_ble_eq_true rfl) rfl ?_
    refine r_letE (fun v7_48 he_48 => ?_)
    refine r_iinc (v := v7_48) (l' := [(7, .int v7_48), (5, .long v5_46), (0, .ref 84), (2, .int v2), (3, .int v3), (4, .ref a4)]) hg 5 d_Bench_walks_48 rfl he_48 (Nat.le_of_ble_eq_true rfl) rfl ?_
    refine r_goto (tgt := 20) hg d_Bench_walks_51 (by decide) ?_
    refine r_sub [2, 3, 4, 5, 1, 0] rfl ?_
    exact hrec_ v2 v3 a4 h_a4 v5_46 v7_48 μ_42
theorem t_Bench_walks_L20 {cx : HCx} (hg : HGood cx R_Bench b_Bench_walks 8 7 (some .long)) (hA : h_own cx) (hT : HThr cx 2)  : ∀ (fuel : Nat) (v2 : Int32) (v3 : Int32) (a4 : Nat) (h_a4 : HIsG a4) (v5 : Int64) (v7 : Int32) (μ : HMem), HX cx (HQx cx 2 h_eJ) (f_Bench_walks_L20  fuel v2 v3 a4 v5 v7 μ) 2 12 20 [(0, .ref 84), (2, .int v2), (3, .int v3), (4, .ref a4), (5, .long v5), (7, .int v7)] [] μ
  | 0, _, _, _, _, _, _, _ => by unfold f_Bench_walks_L20; exact HX.none
  | fuel + 1, v2, v3, a4, h_a4, v5, v7, μ => by
    rw [f_Bench_walks_L20]
    exact t_Bench_walks_L20_b hg hA hT   (f_Bench_walks_L20  fuel) (t_Bench_walks_L20 hg hA hT   fuel) v2 v3 a4 h_a4 v5 v7 μ
theorem t_Bench_walks_0 {cx : HCx} (hg : HGood cx R_Bench b_Bench_walks 8 7 (some .long)) (hA : h_own cx) (hT : HThr cx 2) (v1 : Int32) (v2 : Int32) (v3 : Int32) (μ : HMem) : HX cx (HQx cx 2 h_eJ) (f_Bench_walks v1 v2 v3 μ) 0 0 0 [(0, .ref 84), (1, .int v1), (2, .int v2), (3, .int v3)] [] μ := by
  unfold f_Bench_walks
  refine r_aload_n hg 0 d_Bench_walks_0 rfl rfl ?_
  refine r_iload_n hg 1 d_Bench_walks_1 rfl rfl ?_
  refine r_xcallV (As := [.int v1]) hg hA hT (t_Bench_graphAt v1 μ) v_Bench_graphAt c_Bench rfl (by decide) rfl wm_Bench_80 d_Bench_walks_2 rfl ⟨by decide, by decide⟩ ⟨by decide, by decide⟩ (Nat.le_of_ble_eq_true rfl) rfl (fun r2 μ_2 e_2 => ?_)
  refine r_astore (l' := [(4, .ref r2), (0, .ref 84), (1, .int v1), (2, .int v2), (3, .int v3)]) hg d_Bench_walks_5 (Nat.le_of_ble_eq_true rfl) rfl ?_
  refine r_iload_n hg 3 d_Bench_walks_7 rfl rfl ?_
  refine r_iconst (v := 0) hg d_Bench_walks_8 (by decide) ?_
  refine r_bipush (v := 12) hg d_Bench_walks_9 (by decide) ?_
  refine r_xcallS (As := [.int v2, .int 0, .int 12]) hg hA hT (t_Bench_requireRange v2 0 12 μ_2) v_Bench_requireRange wm_Bench_84 d_Bench_walks_11 rfl ⟨by decide, by decide⟩ ⟨by decide, by decide⟩ (Nat.le_of_ble_eq_true rfl) rfl (fun r11 μ_11 e_11 => ?_)
  refine r_lconst (v := 0) hg d_Bench_walks_14 (by decide) ?_
  refine r_lstore (l' := [(5, .long 0), (4, .ref r2), (0, .ref 84), (1, .int v1), (2, .int v2), (3, .int v3)]) hg d_Bench_walks_15 (Nat.le_of_ble_eq_true rfl) rfl ?_
  refine r_iconst (v := 0) hg d_Bench_walks_17 (by decide) ?_
  refine r_istore (l' := [(7, .int 0), (5, .long 0), (4, .ref r2), (0, .ref 84), (1, .int v1), (2, .int v2), (3, .int v3)]) hg d_Bench_walks_18 (Nat.le_of_ble_eq_true rfl) rfl ?_
  refine r_sub [3, 5, 6, 2, 1, 0] rfl ?_
  exact t_Bench_walks_L20 hg hA hT h_fuel v2 v3 r2 (f_Bench_graphAt_G e_2) 0 0 μ_11
theorem t_Bench_walks (v1 : Int32) (v2 : Int32) (v3 : Int32) (μ : HMem) : HSpecX y_Bench_walks b_Bench_walks 8 (some .long) 7 2 h_eJ [.ref 84, .int v1, .int v2, .int v3] μ (f_Bench_walks v1 v2 v3 μ) :=
  HSpecX.of (by decide +kernel) (v_Bench_walks.1 _ (by simp)) (Nat.le_of_ble_eq_true rfl) (fun cx hA hg hT => t_Bench_walks_0 hg hA hT v1 v2 v3 μ)
theorem t_Bench_folds_0 {cx : HCx} (hg : HGood cx R_Bench b_Bench_folds 4 7 (some .int)) (hA : h_own cx) (hT : HThr cx 2) (v1 : Int32) (v2 : Int32) (μ : HMem) : HX cx (HQx cx 2 h_eI) (f_Bench_folds v1 v2 μ) 0 0 0 [(0, .ref 84), (1, .int v1), (2, .int v2)] [] μ := by
  unfold f_Bench_folds
  refine r_aload_n hg 0 d_Bench_folds_0 rfl rfl ?_
  refine r_iload_n hg 1 d_Bench_folds_1 rfl rfl ?_
  refine r_xcallV (As := [.int v1]) hg hA hT (t_Bench_graphAt v1 μ) v_Bench_graphAt c_Bench rfl (by decide) rfl wm_Bench_80 d_Bench_folds_2 rfl ⟨by decide, by decide⟩ ⟨by decide, by decide⟩ (Nat.le_of_ble_eq_true rfl) rfl (fun r2 μ_2 e_2 => ?_)
  refine r_astore_n (l' := [(3, .ref r2), (0, .ref 84), (1, .int v1), (2, .int v2)]) hg d_Bench_folds_5 rfl (Nat.le_of_ble_eq_true rfl) rfl ?_
  refine r_aload_n hg 0 d_Bench_folds_6 rfl rfl ?_
  refine r_iload_n hg 3 d_Bench_folds_7 rfl rfl ?_
  refine r_xcallS (As := [.ref r2, .int v2]) hg hA hT (t_Bench_requireVertex r2 (f_Bench_graphAt_G e_2) v2 μ_2) v_Bench_requireVertex wm_Bench_100 d_Bench_folds_8 rfl ⟨by decide, by decide⟩ ⟨by decide, by decide⟩ (Nat.le_of_ble_eq_true rfl) rfl (fun r8 μ_8 e_8 => ?_)
  refine r_aload_n hg 0 d_Bench_folds_11 rfl rfl ?_
  refine r_iload_n hg 3 d_Bench_folds_12 rfl rfl ?_
  refine r_aload_n hg 0 d_Bench_folds_13 rfl rfl ?_
  refine r_callV (As := []) hg (t_Graph_all r2 (f_Bench_graphAt_G e_2) μ_8) v_Graph_all c_Graph rfl (h_G_lt (f_Bench_graphAt_G e_2)) (h_G_kd (f_Bench_graphAt_G e_2)) wm_Bench_136 d_Bench_folds_14 rfl ⟨by decide, by decide⟩ (Nat.le_of_ble_eq_true rfl) rfl (fun r14 μ_14 _ => ?_)
  refine r_callV (As := [.int v2, .int r14]) hg (t_Graph_foldTargets r2 (f_Bench_graphAt_G e_2) v2 r14 μ_14) v_Graph_foldTargets c_Graph rfl (h_G_lt (f_Bench_graphAt_G e_2)) (h_G_kd (f_Bench_graphAt_G e_2)) wm_Bench_254 d_Bench_folds_17 rfl ⟨by decide, by decide⟩ (Nat.le_of_ble_eq_true rfl) rfl (fun r17 μ_17 _ => ?_)
  exact r_xiret hg hA ⟨by decide, by decide⟩ rfl d_Bench_folds_20 rfl
theorem t_Bench_folds (v1 : Int32) (v2 : Int32) (μ : HMem) : HSpecX y_Bench_folds b_Bench_folds 4 (some .int) 7 2 h_eI [.ref 84, .int v1, .int v2] μ (f_Bench_folds v1 v2 μ) :=
  HSpecX.of (by decide +kernel) (v_Bench_folds.1 _ (by simp)) (Nat.le_of_ble_eq_true rfl) (fun cx hA hg hT => t_Bench_folds_0 hg hA hT v1 v2 μ)
theorem t_Bench_dismantle_0 {cx : HCx} (hg : HGood cx R_Bench b_Bench_dismantle 4 7 (some .int)) (hA : h_own cx) (hT : HThr cx 1) (v1 : Int32) (μ : HMem) : HX cx (HQx cx 1 h_eI) (f_Bench_dismantle v1 μ) 0 0 0 [(0, .ref 84), (1, .int v1)] [] μ := by
  unfold f_Bench_dismantle
  refine r_aload_n hg 0 d_Bench_dismantle_0 rfl rfl ?_
  refine r_iload_n hg 1 d_Bench_dismantle_1 rfl rfl ?_
  refine r_xcallV (As := [.int v1]) hg hA hT (t_Bench_graphAt v1 μ) v_Bench_graphAt c_Bench rfl (by decide) rfl wm_Bench_80 d_Bench_dismantle_2 rfl ⟨by decide, by decide⟩ ⟨by decide, by decide⟩ (Nat.le_of_ble_eq_true rfl) rfl (fun r2 μ_2 e_2 => ?_)
  refine r_astore_n (l' := [(2, .ref r2), (0, .ref 84), (1, .int v1)]) hg d_Bench_dismantle_5 rfl (Nat.le_of_ble_eq_true rfl) rfl ?_
  refine r_aload_n hg 1 d_Bench_dismantle_6 rfl rfl ?_
  refine r_get (v := .ref 86) hg c_Bench (by decide) rfl (Nat.le_of_ble_eq_true rfl) rfl wf_Bench_23 d_Bench_dismantle_7 rfl ?_
  refine r_aload_n hg 1 d_Bench_dismantle_10 rfl rfl ?_
  refine r_get (v := .ref 85) hg c_Bench (by decide) rfl (Nat.le_of_ble_eq_true rfl) rfl wf_Bench_11 d_Bench_dismantle_11 rfl ?_
  refine r_callV (As := [.ref 85]) hg (t_History_save  μ_2) v_History_save c_History rfl (by decide) rfl wm_Bench_88 d_Bench_dismantle_14 rfl ⟨by decide, by decide⟩ (Nat.le_of_ble_eq_true rfl) rfl (fun r14 μ_14 _ => ?_)
  refine r_aload_n hg 0 d_Bench_dismantle_17 rfl rfl ?_
  refine r_get (v := .int (μ_14.1 r2 0)) hg c_Graph (h_G_lt (f_Bench_graphAt_G e_2)) (h_G_kd (f_Bench_graphAt_G e_2)) (Nat.le_of_ble_eq_true rfl) (h_G_fl0 (f_Bench_graphAt_G e_2)) wf_Bench_92 d_Bench_dismantle_18 rfl ?_
  refine r_letI (fun v3_21 => ?_)
  refine r_istore_n (l' := [(3, .int v3_21), (2, .ref r2), (0, .ref 84), (1, .int v1)]) hg d_Bench_dismantle_21 rfl (Nat.le_of_ble_eq_true rfl) rfl ?_
  refine r_aload_n hg 2 d_Bench_dismantle_22 rfl rfl ?_
  refine r_get (v := .ref 16) hg c_Bench (by decide) rfl (Nat.le_of_ble_eq_true rfl) rfl wf_Bench_16 d_Bench_dismantle_23 rfl ?_
  refine r_aload_n hg 1 d_Bench_dismantle_26 rfl rfl ?_
  refine r_aload_n hg 1 d_Bench_dismantle_27 rfl rfl ?_
  refine r_callV (As := []) hg (t_Graph_stiffPart r2 (f_Bench_graphAt_G e_2) μ_14) v_Graph_stiffPart c_Graph rfl (h_G_lt (f_Bench_graphAt_G e_2)) (h_G_kd (f_Bench_graphAt_G e_2)) wm_Bench_257 d_Bench_dismantle_28 rfl ⟨by decide, by decide⟩ (Nat.le_of_ble_eq_true rfl) rfl (fun r28 μ_28 _ => ?_)
  refine r_callV (As := [.ref r2, .int r28]) hg (t_Graph_induce 16 (h_G_c 16 (by decide)) r2 (f_Bench_graphAt_G e_2) r28 μ_28) v_Graph_induce c_Graph rfl (by decide) rfl wm_Bench_154 d_Bench_dismantle_31 rfl ⟨by decide, by decide⟩ (Nat.le_of_ble_eq_true rfl) rfl (fun r31 μ_31 _ => ?_)
  refine r_aload_n hg 1 d_Bench_dismantle_34 rfl rfl ?_
  refine r_aload_n hg 2 d_Bench_dismantle_35 rfl rfl ?_
  refine r_get (v := .ref 16) hg c_Bench (by decide) rfl (Nat.le_of_ble_eq_true rfl) rfl wf_Bench_16 d_Bench_dismantle_36 rfl ?_
  refine r_callV (As := [.ref 16]) hg (t_Graph_copyFrom r2 (f_Bench_graphAt_G e_2) 16 (h_G_c 16 (by decide)) μ_31) v_Graph_copyFrom c_Graph rfl (h_G_lt (f_Bench_graphAt_G e_2)) (h_G_kd (f_Bench_graphAt_G e_2)) wm_Bench_147 d_Bench_dismantle_39 rfl ⟨by decide, by decide⟩ (Nat.le_of_ble_eq_true rfl) rfl (fun r39 μ_39 _ => ?_)
  refine r_iload_n hg 0 d_Bench_dismantle_42 rfl rfl ?_
  refine r_aload_n hg 1 d_Bench_dismantle_43 rfl rfl ?_
  refine r_get (v := .int (μ_39.1 r2 0)) hg c_Graph (h_G_lt (f_Bench_graphAt_G e_2)) (h_G_kd (f_Bench_graphAt_G e_2)) (Nat.le_of_ble_eq_true rfl) (h_G_fl0 (f_Bench_graphAt_G e_2)) wf_Bench_92 d_Bench_dismantle_44 rfl ?_
  refine r_isub hg d_Bench_dismantle_47 ?_
  exact r_xiret hg hA ⟨by decide, by decide⟩ rfl d_Bench_dismantle_48 rfl
theorem t_Bench_dismantle (v1 : Int32) (μ : HMem) : HSpecX y_Bench_dismantle b_Bench_dismantle 4 (some .int) 7 1 h_eI [.ref 84, .int v1] μ (f_Bench_dismantle v1 μ) :=
  HSpecX.of (by decide +kernel) (v_Bench_dismantle.1 _ (by simp)) (Nat.le_of_ble_eq_true rfl) (fun cx hA hg hT => t_Bench_dismantle_0 hg hA hT v1 μ)
theorem t_Bench_isCore_J26 {cx : HCx} (hg : HGood cx R_Bench b_Bench_isCore 3 22 (some .boolean)) (hA : h_own cx) (hT : HThr cx 1)   (s0 : Int32) (μ : HMem) : HX cx (HQx cx 1 h_eI) (f_Bench_isCore_J26   s0 μ) 1 6 26 [] [.int s0] μ := by
  unfold f_Bench_isCore_J26
  exact r_xzretB hg hA ⟨by decide, by decide⟩ rfl d_Bench_isCore_26 rfl
theorem t_Bench_isCore_0 {cx : HCx} (hg : HGood cx R_Bench b_Bench_isCore 3 22 (some .boolean)) (hA : h_own cx) (hT : HThr cx 1) (v1 : Int32) (μ : HMem) : HX cx (HQx cx 1 h_eI) (f_Bench_isCore v1 μ) 0 0 0 [(0, .ref 84), (1, .int v1)] [] μ := by
  unfold f_Bench_isCore
  refine r_aload_n hg 0 d_Bench_isCore_0 rfl rfl ?_
  refine r_iload_n hg 1 d_Bench_isCore_1 rfl rfl ?_
  refine r_xcallV (As := [.int v1]) hg hA hT (t_Bench_graphAt v1 μ) v_Bench_graphAt c_Bench rfl (by decide) rfl wm_Bench_80 d_Bench_isCore_2 rfl ⟨by decide, by decide⟩ ⟨by decide, by decide⟩ (Nat.le_of_ble_eq_true rfl) rfl (fun r2 μ_2 e_2 => ?_)
  refine r_astore_n (l' := [(2, .ref r2), (0, .ref 84), (1, .int v1)]) hg d_Bench_isCore_5 rfl (Nat.le_of_ble_eq_true rfl) rfl ?_
  refine r_aload_n hg 1 d_Bench_isCore_6 rfl rfl ?_
  refine r_get (v := .ref 103) hg c_Bench (by decide) rfl (Nat.le_of_ble_eq_true rfl) rfl wf_Bench_58 d_Bench_isCore_7 rfl ?_
  refine r_aload_n hg 0 d_Bench_isCore_10 rfl rfl ?_
  refine r_callV (As := [.ref r2]) hg (t_HomSearch_coreOf r2 (f_Bench_graphAt_G e_2) μ_2) v_HomSearch_coreOf c_HomSearch rfl (by decide) rfl wm_Bench_157 d_Bench_isCore_11 rfl ⟨by decide, by decide⟩ (Nat.le_of_ble_eq_true rfl) rfl (fun r11 μ_11 _ => ?_)
  refine r_aload_n hg 0 d_Bench_isCore_14 rfl rfl ?_
  refine r_callV (As := []) hg (t_Graph_all r2 (f_Bench_graphAt_G e_2) μ_11) v_Graph_all c_Graph rfl (h_G_lt (f_Bench_graphAt_G e_2)) (h_G_kd (f_Bench_graphAt_G e_2)) wm_Bench_136 d_Bench_isCore_15 rfl ⟨by decide, by decide⟩ (Nat.le_of_ble_eq_true rfl) rfl (fun r15 μ_15 _ => ?_)
  refine r_icmp_ne (tgt := 25) hg d_Bench_isCore_18 (by decide) ?_ ?_
  · refine r_iconst (v := 0) hg d_Bench_isCore_25 (by decide) ?_
    refine r_sub [] rfl ?_
    exact t_Bench_isCore_J26 hg hA hT 0 μ_15
  · refine r_iconst (v := 1) hg d_Bench_isCore_21 (by decide) ?_
    refine r_goto (tgt := 26) hg d_Bench_isCore_22 (by decide) ?_
    refine r_sub [] rfl ?_
    exact t_Bench_isCore_J26 hg hA hT 1 μ_15
theorem t_Bench_isCore (v1 : Int32) (μ : HMem) : HSpecX y_Bench_isCore b_Bench_isCore 3 (some .boolean) 22 1 h_eI [.ref 84, .int v1] μ (f_Bench_isCore v1 μ) :=
  HSpecX.of (by decide +kernel) (v_Bench_isCore.1 _ (by simp)) (Nat.le_of_ble_eq_true rfl) (fun cx hA hg hT => t_Bench_isCore_0 hg hA hT v1 μ)
theorem t_Bench_coreSize_0 {cx : HCx} (hg : HGood cx R_Bench b_Bench_coreSize 2 22 (some .int)) (hA : h_own cx) (hT : HThr cx 1) (v1 : Int32) (μ : HMem) : HX cx (HQx cx 1 h_eI) (f_Bench_coreSize v1 μ) 0 0 0 [(0, .ref 84), (1, .int v1)] [] μ := by
  unfold f_Bench_coreSize
  refine r_aload_n hg 0 d_Bench_coreSize_0 rfl rfl ?_
  refine r_get (v := .ref 103) hg c_Bench (by decide) rfl (Nat.le_of_ble_eq_true rfl) rfl wf_Bench_58 d_Bench_coreSize_1 rfl ?_
  refine r_aload_n hg 0 d_Bench_coreSize_4 rfl rfl ?_
  refine r_iload_n hg 1 d_Bench_coreSize_5 rfl rfl ?_
  refine r_xcallV (As := [.int v1]) hg hA hT (t_Bench_graphAt v1 μ) v_Bench_graphAt c_Bench rfl (by decide) rfl wm_Bench_80 d_Bench_coreSize_6 rfl ⟨by decide, by decide⟩ ⟨by decide, by decide⟩ (Nat.le_of_ble_eq_true rfl) rfl (fun r6 μ_6 e_6 => ?_)
  refine r_callV (As := [.ref r6]) hg (t_HomSearch_coreOf r6 (f_Bench_graphAt_G e_6) μ_6) v_HomSearch_coreOf c_HomSearch rfl (by decide) rfl wm_Bench_157 d_Bench_coreSize_9 rfl ⟨by decide, by decide⟩ (Nat.le_of_ble_eq_true rfl) rfl (fun r9 μ_9 _ => ?_)
  refine r_callS (As := [.int r9]) hg (t_Integer_bitCount r9 μ_9) v_Integer_bitCount wm_Bench_167 d_Bench_coreSize_12 rfl ⟨by decide, by decide⟩ (Nat.le_of_ble_eq_true rfl) rfl (fun r12 μ_12 _ => ?_)
  exact r_xiret hg hA ⟨by decide, by decide⟩ rfl d_Bench_coreSize_15 rfl
theorem t_Bench_coreSize (v1 : Int32) (μ : HMem) : HSpecX y_Bench_coreSize b_Bench_coreSize 2 (some .int) 22 1 h_eI [.ref 84, .int v1] μ (f_Bench_coreSize v1 μ) :=
  HSpecX.of (by decide +kernel) (v_Bench_coreSize.1 _ (by simp)) (Nat.le_of_ble_eq_true rfl) (fun cx hA hg hT => t_Bench_coreSize_0 hg hA hT v1 μ)
theorem t_Bench_append_0 {cx : HCx} (hg : HGood cx R_Bench b_Bench_append 2 7 (some .int)) (hA : h_own cx) (hT : HThr cx 2) (v1 : Int32) (μ : HMem) : HX cx (HQx cx 2 h_eI) (f_Bench_append v1 μ) 0 0 0 [(0, .ref 84), (1, .int v1)] [] μ := by
  unfold f_Bench_append
  refine r_iload_n hg 1 d_Bench_append_0 rfl rfl ?_
  refine r_iconst (v := 0) hg d_Bench_append_1 (by decide) ?_
  refine r_bipush (v := 127) hg d_Bench_append_2 (by decide) ?_
  refine r_xcallS (As := [.int v1, .int 0, .int 127]) hg hA hT (t_Bench_requireRange v1 0 127 μ) v_Bench_requireRange wm_Bench_84 d_Bench_append_4 rfl ⟨by decide, by decide⟩ ⟨by decide, by decide⟩ (Nat.le_of_ble_eq_true rfl) rfl (fun r4 μ_4 e_4 => ?_)
  refine r_aload_n hg 0 d_Bench_append_7 rfl rfl ?_
  refine r_get (v := .ref 88) hg c_Bench (by decide) rfl (Nat.le_of_ble_eq_true rfl) rfl wf_Bench_30 d_Bench_append_8 rfl ?_
  refine r_get (v := .int (μ_4.1 88 1)) hg c_Text (by decide) rfl (Nat.le_of_ble_eq_true rfl) rfl wf_Bench_260 d_Bench_append_11 rfl ?_
  refine r_bipush (v := 120) hg d_Bench_append_14 (by decide) ?_
  refine r_icmp_lt (tgt := 30) hg d_Bench_append_16 (by decide) ?_ ?_
  · refine r_aload_n hg 0 d_Bench_append_30 rfl rfl ?_
    refine r_get (v := .ref 88) hg c_Bench (by decide) rfl (Nat.le_of_ble_eq_true rfl) rfl wf_Bench_30 d_Bench_append_31 rfl ?_
    refine r_get (v := .ref 89) hg c_Text (by decide) rfl (Nat.le_of_ble_eq_true rfl) rfl wf_Bench_265 d_Bench_append_34 rfl ?_
    refine r_aload_n hg 0 d_Bench_append_37 rfl rfl ?_
    refine r_get (v := .ref 88) hg c_Bench (by decide) rfl (Nat.le_of_ble_eq_true rfl) rfl wf_Bench_30 d_Bench_append_38 rfl ?_
    refine r_get (v := .int (μ_4.1 88 1)) hg c_Text (by decide) rfl (Nat.le_of_ble_eq_true rfl) rfl wf_Bench_260 d_Bench_append_41 rfl ?_
    refine r_iload_n hg 1 d_Bench_append_44 rfl rfl ?_
    refine r_i2b hg d_Bench_append_45 ?_
    refine r_bast hg (by decide) rfl d_Bench_append_46 ?_
    refine r_letM (fun μ_46 => ?_)
    refine r_aload_n hg 0 d_Bench_append_47 rfl rfl ?_
    refine r_get (v := .ref 88) hg c_Bench (by decide) rfl (Nat.le_of_ble_eq_true rfl) rfl wf_Bench_30 d_Bench_append_48 rfl ?_
    refine r_dup hg d_Bench_append_51 rfl ?_
    refine r_get (v := .int (μ_46.1 88 1)) hg c_Text (by decide) rfl (Nat.le_of_ble_eq_true rfl) rfl wf_Bench_260 d_Bench_append_52 rfl ?_
    refine r_iconst (v := 1) hg d_Bench_append_55 (by decide) ?_
    refine r_iadd hg d_Bench_append_56 ?_
    refine r_put hg c_Text t_Text_ok n_Text (by decide) rfl (Nat.le_of_ble_eq_true rfl) rfl rfl (by decide +kernel) wf_Bench_260 d_Bench_append_57 ?_
    refine r_letM (fun μ_57 => ?_)
    refine r_aload_n hg 0 d_Bench_append_60 rfl rfl ?_
    refine r_get (v := .ref 88) hg c_Bench (by decide) rfl (Nat.le_of_ble_eq_true rfl) rfl wf_Bench_30 d_Bench_append_61 rfl ?_
    refine r_get (v := .int (μ_57.1 88 1)) hg c_Text (by decide) rfl (Nat.le_of_ble_eq_true rfl) rfl wf_Bench_260 d_Bench_append_64 rfl ?_
    exact r_xiret hg hA ⟨by decide, by decide⟩ rfl d_Bench_append_67 rfl
  · exact r_throwW (text := "the text is full") hg hA hT h_site3 (by decide) d_Bench_append_19 d_Bench_append_22 d_Bench_append_23 d_Bench_append_26 d_Bench_append_29 (by decide) (Nat.le_of_ble_eq_true rfl) ⟨by decide, by decide⟩
theorem t_Bench_append (v1 : Int32) (μ : HMem) : HSpecX y_Bench_append b_Bench_append 2 (some .int) 7 2 h_eI [.ref 84, .int v1] μ (f_Bench_append v1 μ) :=
  HSpecX.of (by decide +kernel) (v_Bench_append.1 _ (by simp)) (Nat.le_of_ble_eq_true rfl) (fun cx hA hg hT => t_Bench_append_0 hg hA hT v1 μ)
theorem t_Bench_parse_0 {cx : HCx} (hg : HGood cx R_Bench b_Bench_parse 4 7 (some .int)) (hA : h_own cx) (hT : HThr cx 1) (v1 : Int32) (μ : HMem) : HX cx (HQx cx 1 h_eI) (f_Bench_parse v1 μ) 0 0 0 [(0, .ref 84), (1, .int v1)] [] μ := by
  unfold f_Bench_parse
  refine r_aload_n hg 0 d_Bench_parse_0 rfl rfl ?_
  refine r_iload_n hg 1 d_Bench_parse_1 rfl rfl ?_
  refine r_xcallV (As := [.int v1]) hg hA hT (t_Bench_graphAt v1 μ) v_Bench_graphAt c_Bench rfl (by decide) rfl wm_Bench_80 d_Bench_parse_2 rfl ⟨by decide, by decide⟩ ⟨by decide, by decide⟩ (Nat.le_of_ble_eq_true rfl) rfl (fun r2 μ_2 e_2 => ?_)
  refine r_astore_n (l' := [(2, .ref r2), (0, .ref 84), (1, .int v1)]) hg d_Bench_parse_5 rfl (Nat.le_of_ble_eq_true rfl) rfl ?_
  refine r_aload_n hg 1 d_Bench_parse_6 rfl rfl ?_
  refine r_get (v := .ref 88) hg c_Bench (by decide) rfl (Nat.le_of_ble_eq_true rfl) rfl wf_Bench_30 d_Bench_parse_7 rfl ?_
  refine r_aload_n hg 1 d_Bench_parse_10 rfl rfl ?_
  refine r_get (v := .ref 16) hg c_Bench (by decide) rfl (Nat.le_of_ble_eq_true rfl) rfl wf_Bench_16 d_Bench_parse_11 rfl ?_
  refine r_callV (As := [.ref 16]) hg (t_Text_readGraph 16 (h_G_c 16 (by decide)) μ_2) v_Text_readGraph c_Text rfl (by decide) rfl wm_Bench_269 d_Bench_parse_14 rfl ⟨by decide, by decide⟩ (Nat.le_of_ble_eq_true rfl) rfl (fun r14 μ_14 _ => ?_)
  refine r_istore_n (l' := [(3, .int r14), (2, .ref r2), (0, .ref 84), (1, .int v1)]) hg d_Bench_parse_17 rfl (Nat.le_of_ble_eq_true rfl) rfl ?_
  refine r_iload_n hg 0 d_Bench_parse_18 rfl rfl ?_
  refine r_iconst (v := -1) hg d_Bench_parse_19 (by decide) ?_
  refine r_icmp_ne (tgt := 34) hg d_Bench_parse_20 (by decide) ?_ ?_
  · refine r_aload_n hg 2 d_Bench_parse_34 rfl rfl ?_
    refine r_get (v := .ref 86) hg c_Bench (by decide) rfl (Nat.le_of_ble_eq_true rfl) rfl wf_Bench_23 d_Bench_parse_35 rfl ?_
    refine r_aload_n hg 2 d_Bench_parse_38 rfl rfl ?_
    refine r_get (v := .ref 85) hg c_Bench (by decide) rfl (Nat.le_of_ble_eq_true rfl) rfl wf_Bench_11 d_Bench_parse_39 rfl ?_
    refine r_callV (As := [.ref 85]) hg (t_History_save  μ_14) v_History_save c_History rfl (by decide) rfl wm_Bench_88 d_Bench_parse_42 rfl ⟨by decide, by decide⟩ (Nat.le_of_ble_eq_true rfl) rfl (fun r42 μ_42 _ => ?_)
    refine r_aload_n hg 1 d_Bench_parse_45 rfl rfl ?_
    refine r_aload_n hg 2 d_Bench_parse_46 rfl rfl ?_
    refine r_get (v := .ref 16) hg c_Bench (by decide) rfl (Nat.le_of_ble_eq_true rfl) rfl wf_Bench_16 d_Bench_parse_47 rfl ?_
    refine r_callV (As := [.ref 16]) hg (t_Graph_copyFrom r2 (f_Bench_graphAt_G e_2) 16 (h_G_c 16 (by decide)) μ_42) v_Graph_copyFrom c_Graph rfl (h_G_lt (f_Bench_graphAt_G e_2)) (h_G_kd (f_Bench_graphAt_G e_2)) wm_Bench_147 d_Bench_parse_50 rfl ⟨by decide, by decide⟩ (Nat.le_of_ble_eq_true rfl) rfl (fun r50 μ_50 _ => ?_)
    refine r_iload_n hg 0 d_Bench_parse_53 rfl rfl ?_
    exact r_xiret hg hA ⟨by decide, by decide⟩ rfl d_Bench_parse_54 rfl
  · refine r_bipush (v := -10) hg d_Bench_parse_23 (by decide) ?_
    refine r_aload_n hg 2 d_Bench_parse_25 rfl rfl ?_
    refine r_get (v := .ref 88) hg c_Bench (by decide) rfl (Nat.le_of_ble_eq_true rfl) rfl wf_Bench_30 d_Bench_parse_26 rfl ?_
    refine r_get (v := .int (μ_14.1 88 2)) hg c_Text (by decide) rfl (Nat.le_of_ble_eq_true rfl) rfl wf_Bench_272 d_Bench_parse_29 rfl ?_
    refine r_isub hg d_Bench_parse_32 ?_
    exact r_xiret hg hA ⟨by decide, by decide⟩ rfl d_Bench_parse_33 rfl
theorem t_Bench_parse (v1 : Int32) (μ : HMem) : HSpecX y_Bench_parse b_Bench_parse 4 (some .int) 7 1 h_eI [.ref 84, .int v1] μ (f_Bench_parse v1 μ) :=
  HSpecX.of (by decide +kernel) (v_Bench_parse.1 _ (by simp)) (Nat.le_of_ble_eq_true rfl) (fun cx hA hg hT => t_Bench_parse_0 hg hA hT v1 μ)
theorem t_Bench_written_J53 {cx : HCx} (hg : HGood cx R_Bench b_Bench_written 4 7 (some .int)) (hA : h_own cx) (hT : HThr cx 2)   (s0 : Int32) (μ : HMem) : HX cx (HQx cx 2 h_eI) (f_Bench_written_J53   s0 μ) 1 6 53 [] [.int s0] μ := by
  unfold f_Bench_written_J53
  exact r_xiret hg hA ⟨by decide, by decide⟩ rfl d_Bench_written_53 rfl
theorem t_Bench_written_0 {cx : HCx} (hg : HGood cx R_Bench b_Bench_written 4 7 (some .int)) (hA : h_own cx) (hT : HThr cx 2) (v1 : Int32) (v2 : Int32) (μ : HMem) : HX cx (HQx cx 2 h_eI) (f_Bench_written v1 v2 μ) 0 0 0 [(0, .ref 84), (1, .int v1), (2, .int v2)] [] μ := by
  unfold f_Bench_written
  refine r_aload_n hg 0 d_Bench_written_0 rfl rfl ?_
  refine r_iload_n hg 1 d_Bench_written_1 rfl rfl ?_
  refine r_xcallV (As := [.int v1]) hg hA hT (t_Bench_graphAt v1 μ) v_Bench_graphAt c_Bench rfl (by decide) rfl wm_Bench_80 d_Bench_written_2 rfl ⟨by decide, by decide⟩ ⟨by decide, by decide⟩ (Nat.le_of_ble_eq_true rfl) rfl (fun r2 μ_2 e_2 => ?_)
  refine r_astore_n (l' := [(3, .ref r2), (0, .ref 84), (1, .int v1), (2, .int v2)]) hg d_Bench_written_5 rfl (Nat.le_of_ble_eq_true rfl) rfl ?_
  refine r_iload_n hg 3 d_Bench_written_6 rfl rfl ?_
  refine r_if_ge (tgt := 21) hg d_Bench_written_7 (by decide) ?_ ?_
  · refine r_aload_n hg 1 d_Bench_written_21 rfl rfl ?_
    refine r_get (v := .ref 90) hg c_Bench (by decide) rfl (Nat.le_of_ble_eq_true rfl) rfl wf_Bench_37 d_Bench_written_22 rfl ?_
    refine r_aload_n hg 0 d_Bench_written_25 rfl rfl ?_
    refine r_callV (As := [.ref r2]) hg (t_Script_write r2 (f_Bench_graphAt_G e_2) μ_2) v_Script_write c_Script rfl (by decide) rfl wm_Bench_277 d_Bench_written_26 rfl ⟨by decide, by decide⟩ (Nat.le_of_ble_eq_true rfl) rfl (fun r26 μ_26 _ => ?_)
    refine r_iload_n hg 3 d_Bench_written_29 rfl rfl ?_
    refine r_aload_n hg 1 d_Bench_written_30 rfl rfl ?_
    refine r_get (v := .ref 90) hg c_Bench (by decide) rfl (Nat.le_of_ble_eq_true rfl) rfl wf_Bench_37 d_Bench_written_31 rfl ?_
    refine r_get (v := .int (μ_26.1 90 1)) hg c_Script (by decide) rfl (Nat.le_of_ble_eq_true rfl) rfl wf_Bench_280 d_Bench_written_34 rfl ?_
    refine r_icmp_ge (tgt := 52) hg d_Bench_written_37 (by decide) ?_ ?_
    · refine r_iconst (v := -1) hg d_Bench_written_52 (by decide) ?_
      refine r_sub [] rfl ?_
      exact t_Bench_written_J53 hg hA hT (-1) μ_26
    · refine r_aload_n hg 1 d_Bench_written_40 rfl rfl ?_
      refine r_get (v := .ref 90) hg c_Bench (by decide) rfl (Nat.le_of_ble_eq_true rfl) rfl wf_Bench_37 d_Bench_written_41 rfl ?_
      refine r_get (v := .ref 91) hg c_Script (by decide) rfl (Nat.le_of_ble_eq_true rfl) rfl wf_Bench_281 d_Bench_written_44 rfl ?_
      refine r_iload_n hg 3 d_Bench_written_47 rfl rfl ?_
      refine r_bald hg (by decide) rfl d_Bench_written_48 ?_
      refine r_goto (tgt := 53) hg d_Bench_written_49 (by decide) ?_
      refine r_sub [] rfl ?_
      exact t_Bench_written_J53 hg hA hT (μ_26.1 91 (Int32.toNatClampNeg (v2))) μ_26
  · exact r_throwW (text := "the index is negative") hg hA hT h_site2 (by decide) d_Bench_written_10 d_Bench_written_13 d_Bench_written_14 d_Bench_written_17 d_Bench_written_20 (by decide) (Nat.le_of_ble_eq_true rfl) ⟨by decide, by decide⟩
theorem t_Bench_written (v1 : Int32) (v2 : Int32) (μ : HMem) : HSpecX y_Bench_written b_Bench_written 4 (some .int) 7 2 h_eI [.ref 84, .int v1, .int v2] μ (f_Bench_written v1 v2 μ) :=
  HSpecX.of (by decide +kernel) (v_Bench_written.1 _ (by simp)) (Nat.le_of_ble_eq_true rfl) (fun cx hA hg hT => t_Bench_written_0 hg hA hT v1 v2 μ)
theorem t_Bench_undo_0 {cx : HCx} (hg : HGood cx R_Bench b_Bench_undo 1 6 (some .int)) (hA : h_own cx) (hT : HThr cx 1)  (μ : HMem) : HX cx (HQx cx 1 h_eI) (f_Bench_undo μ) 0 0 0 [(0, .ref 84)] [] μ := by
  unfold f_Bench_undo
  refine r_aload_n hg 0 d_Bench_undo_0 rfl rfl ?_
  refine r_get (v := .ref 86) hg c_Bench (by decide) rfl (Nat.le_of_ble_eq_true rfl) rfl wf_Bench_23 d_Bench_undo_1 rfl ?_
  refine r_get (v := .int (μ.1 86 2)) hg c_History (by decide) rfl (Nat.le_of_ble_eq_true rfl) rfl wf_Bench_282 d_Bench_undo_4 rfl ?_
  refine r_if_ne (tgt := 21) hg d_Bench_undo_7 (by decide) ?_ ?_
  · refine r_aload_n hg 0 d_Bench_undo_21 rfl rfl ?_
    refine r_get (v := .ref 86) hg c_Bench (by decide) rfl (Nat.le_of_ble_eq_true rfl) rfl wf_Bench_23 d_Bench_undo_22 rfl ?_
    refine r_aload_n hg 0 d_Bench_undo_25 rfl rfl ?_
    refine r_get (v := .ref 85) hg c_Bench (by decide) rfl (Nat.le_of_ble_eq_true rfl) rfl wf_Bench_11 d_Bench_undo_26 rfl ?_
    refine r_callV (As := [.ref 85]) hg (t_History_restore  μ) v_History_restore c_History rfl (by decide) rfl wm_Bench_285 d_Bench_undo_29 rfl ⟨by decide, by decide⟩ (Nat.le_of_ble_eq_true rfl) rfl (fun r29 μ_29 _ => ?_)
    refine r_aload_n hg 0 d_Bench_undo_32 rfl rfl ?_
    refine r_get (v := .ref 86) hg c_Bench (by decide) rfl (Nat.le_of_ble_eq_true rfl) rfl wf_Bench_23 d_Bench_undo_33 rfl ?_
    refine r_get (v := .int (μ_29.1 86 2)) hg c_History (by decide) rfl (Nat.le_of_ble_eq_true rfl) rfl wf_Bench_282 d_Bench_undo_36 rfl ?_
    exact r_xiret hg hA ⟨by decide, by decide⟩ rfl d_Bench_undo_39 rfl
  · exact r_throwW (text := "there is no saved state") hg hA hT h_site3 (by decide) d_Bench_undo_10 d_Bench_undo_13 d_Bench_undo_14 d_Bench_undo_17 d_Bench_undo_20 (by decide) (Nat.le_of_ble_eq_true rfl) ⟨by decide, by decide⟩
theorem t_Bench_undo  (μ : HMem) : HSpecX y_Bench_undo b_Bench_undo 1 (some .int) 6 1 h_eI [.ref 84] μ (f_Bench_undo μ) :=
  HSpecX.of (by decide +kernel) (v_Bench_undo.1 _ (by simp)) (Nat.le_of_ble_eq_true rfl) (fun cx hA hg hT => t_Bench_undo_0 hg hA hT  μ)
