/-! pure programs and their proofs: wrappers (written by gen.py) -/
def y_Law_setSize : MethodName := ⟨R_Law, "setSize", "(LHomBench;II[J)I"⟩
abbrev b_Law_setSize : ByteArray := method_3_code
def hh_Law_setSize : List (Nat × Nat × Nat × Nat) := [(0, 10, 13, 13), (0, 10, 17, 15)]
theorem v_Law_setSize : HStatW y_Law_setSize b_Law_setSize 5 (some .int) hh_Law_setSize 4 := ⟨List.forall_mem_cons.mpr ⟨h_inI 493 (by decide +kernel) rfl, List.forall_mem_cons.mpr ⟨h_inI 99 (by decide +kernel) rfl, List.forall_mem_cons.mpr ⟨h_inI 494 (by decide +kernel) rfl, fun _ h => absurd h List.not_mem_nil⟩⟩⟩, by decide, by decide, by decide +kernel⟩
def y_Law_setVertex : MethodName := ⟨R_Law, "setVertex", "(LHomBench;III[J)I"⟩
abbrev b_Law_setVertex : ByteArray := method_4_code
def hh_Law_setVertex : List (Nat × Nat × Nat × Nat) := [(0, 12, 15, 13), (0, 12, 19, 15)]
theorem v_Law_setVertex : HStatW y_Law_setVertex b_Law_setVertex 6 (some .int) hh_Law_setVertex 5 := ⟨List.forall_mem_cons.mpr ⟨h_inI 608 (by decide +kernel) rfl, List.forall_mem_cons.mpr ⟨h_inI 99 (by decide +kernel) rfl, List.forall_mem_cons.mpr ⟨h_inI 609 (by decide +kernel) rfl, fun _ h => absurd h List.not_mem_nil⟩⟩⟩, by decide, by decide, by decide +kernel⟩
def y_Law_setEdge : MethodName := ⟨R_Law, "setEdge", "(LHomBench;IIII[J)I"⟩
abbrev b_Law_setEdge : ByteArray := method_5_code
def hh_Law_setEdge : List (Nat × Nat × Nat × Nat) := [(0, 14, 17, 13), (0, 14, 21, 15)]
theorem v_Law_setEdge : HStatW y_Law_setEdge b_Law_setEdge 7 (some .int) hh_Law_setEdge 6 := ⟨List.forall_mem_cons.mpr ⟨h_inI 619 (by decide +kernel) rfl, List.forall_mem_cons.mpr ⟨h_inI 99 (by decide +kernel) rfl, List.forall_mem_cons.mpr ⟨h_inI 620 (by decide +kernel) rfl, fun _ h => absurd h List.not_mem_nil⟩⟩⟩, by decide, by decide, by decide +kernel⟩
def y_Law_make : MethodName := ⟨R_Law, "make", "(LHomBench;III[J)I"⟩
abbrev b_Law_make : ByteArray := method_6_code
def hh_Law_make : List (Nat × Nat × Nat × Nat) := [(0, 12, 15, 13), (0, 12, 19, 15)]
theorem v_Law_make : HStatW y_Law_make b_Law_make 6 (some .int) hh_Law_make 5 := ⟨List.forall_mem_cons.mpr ⟨h_inI 630 (by decide +kernel) rfl, List.forall_mem_cons.mpr ⟨h_inI 99 (by decide +kernel) rfl, List.forall_mem_cons.mpr ⟨h_inI 631 (by decide +kernel) rfl, fun _ h => absurd h List.not_mem_nil⟩⟩⟩, by decide, by decide, by decide +kernel⟩
def y_Law_random : MethodName := ⟨R_Law, "random", "(LHomBench;IIII[J)I"⟩
abbrev b_Law_random : ByteArray := method_7_code
def hh_Law_random : List (Nat × Nat × Nat × Nat) := [(0, 14, 17, 13), (0, 14, 21, 15)]
theorem v_Law_random : HStatW y_Law_random b_Law_random 7 (some .int) hh_Law_random 6 := ⟨List.forall_mem_cons.mpr ⟨h_inI 656 (by decide +kernel) rfl, List.forall_mem_cons.mpr ⟨h_inI 99 (by decide +kernel) rfl, List.forall_mem_cons.mpr ⟨h_inI 657 (by decide +kernel) rfl, fun _ h => absurd h List.not_mem_nil⟩⟩⟩, by decide, by decide, by decide +kernel⟩
def y_Law_combine : MethodName := ⟨R_Law, "combine", "(LHomBench;IIII[J)I"⟩
abbrev b_Law_combine : ByteArray := method_8_code
def hh_Law_combine : List (Nat × Nat × Nat × Nat) := [(0, 14, 17, 13), (0, 14, 21, 15), (0, 14, 25, 34)]
theorem v_Law_combine : HStatW y_Law_combine b_Law_combine 7 (some .int) hh_Law_combine 6 := ⟨List.forall_mem_cons.mpr ⟨h_inI 673 (by decide +kernel) rfl, List.forall_mem_cons.mpr ⟨h_inI 99 (by decide +kernel) rfl, List.forall_mem_cons.mpr ⟨h_inI 674 (by decide +kernel) rfl, fun _ h => absurd h List.not_mem_nil⟩⟩⟩, by decide, by decide, by decide +kernel⟩
def y_Law_derive : MethodName := ⟨R_Law, "derive", "(LHomBench;IIII[J)I"⟩
abbrev b_Law_derive : ByteArray := method_9_code
def hh_Law_derive : List (Nat × Nat × Nat × Nat) := [(0, 14, 17, 13), (0, 14, 21, 15)]
theorem v_Law_derive : HStatW y_Law_derive b_Law_derive 7 (some .int) hh_Law_derive 6 := ⟨List.forall_mem_cons.mpr ⟨h_inI 725 (by decide +kernel) rfl, List.forall_mem_cons.mpr ⟨h_inI 99 (by decide +kernel) rfl, List.forall_mem_cons.mpr ⟨h_inI 726 (by decide +kernel) rfl, fun _ h => absurd h List.not_mem_nil⟩⟩⟩, by decide, by decide, by decide +kernel⟩
def y_Law_graph : MethodName := ⟨R_Law, "graph", "(LHomBench;II[J)I"⟩
abbrev b_Law_graph : ByteArray := method_10_code
def hh_Law_graph : List (Nat × Nat × Nat × Nat) := [(0, 10, 13, 13), (0, 10, 17, 15)]
theorem v_Law_graph : HStatW y_Law_graph b_Law_graph 5 (some .int) hh_Law_graph 4 := ⟨List.forall_mem_cons.mpr ⟨h_inI 742 (by decide +kernel) rfl, List.forall_mem_cons.mpr ⟨h_inI 99 (by decide +kernel) rfl, List.forall_mem_cons.mpr ⟨h_inI 743 (by decide +kernel) rfl, fun _ h => absurd h List.not_mem_nil⟩⟩⟩, by decide, by decide, by decide +kernel⟩
def y_Law_vertex : MethodName := ⟨R_Law, "vertex", "(LHomBench;III[J)I"⟩
abbrev b_Law_vertex : ByteArray := method_11_code
def hh_Law_vertex : List (Nat × Nat × Nat × Nat) := [(0, 12, 15, 13), (0, 12, 19, 15)]
theorem v_Law_vertex : HStatW y_Law_vertex b_Law_vertex 6 (some .int) hh_Law_vertex 5 := ⟨List.forall_mem_cons.mpr ⟨h_inI 755 (by decide +kernel) rfl, List.forall_mem_cons.mpr ⟨h_inI 99 (by decide +kernel) rfl, List.forall_mem_cons.mpr ⟨h_inI 756 (by decide +kernel) rfl, fun _ h => absurd h List.not_mem_nil⟩⟩⟩, by decide, by decide, by decide +kernel⟩
def y_Law_edge : MethodName := ⟨R_Law, "edge", "(LHomBench;III[J)I"⟩
abbrev b_Law_edge : ByteArray := method_12_code
def hh_Law_edge : List (Nat × Nat × Nat × Nat) := [(0, 12, 15, 13)]
theorem v_Law_edge : HStatW y_Law_edge b_Law_edge 6 (some .int) hh_Law_edge 5 := ⟨List.forall_mem_cons.mpr ⟨h_inI 762 (by decide +kernel) rfl, List.forall_mem_cons.mpr ⟨h_inI 99 (by decide +kernel) rfl, List.forall_mem_cons.mpr ⟨h_inI 763 (by decide +kernel) rfl, fun _ h => absurd h List.not_mem_nil⟩⟩⟩, by decide, by decide, by decide +kernel⟩
def y_Law_greedy : MethodName := ⟨R_Law, "greedy", "(LHomBench;II[J)I"⟩
abbrev b_Law_greedy : ByteArray := method_13_code
def hh_Law_greedy : List (Nat × Nat × Nat × Nat) := [(0, 10, 13, 13)]
theorem v_Law_greedy : HStatW y_Law_greedy b_Law_greedy 5 (some .int) hh_Law_greedy 4 := ⟨List.forall_mem_cons.mpr ⟨h_inI 769 (by decide +kernel) rfl, List.forall_mem_cons.mpr ⟨h_inI 99 (by decide +kernel) rfl, List.forall_mem_cons.mpr ⟨h_inI 770 (by decide +kernel) rfl, fun _ h => absurd h List.not_mem_nil⟩⟩⟩, by decide, by decide, by decide +kernel⟩
def y_Law_width : MethodName := ⟨R_Law, "width", "(LHomBench;IIZ[J)I"⟩
abbrev b_Law_width : ByteArray := method_14_code
def hh_Law_width : List (Nat × Nat × Nat × Nat) := [(0, 12, 15, 13), (0, 12, 19, 15)]
theorem v_Law_width : HStatW y_Law_width b_Law_width 6 (some .int) hh_Law_width 5 := ⟨List.forall_mem_cons.mpr ⟨h_inI 793 (by decide +kernel) rfl, List.forall_mem_cons.mpr ⟨h_inI 99 (by decide +kernel) rfl, List.forall_mem_cons.mpr ⟨h_inI 794 (by decide +kernel) rfl, fun _ h => absurd h List.not_mem_nil⟩⟩⟩, by decide, by decide, by decide +kernel⟩
def y_Law_treewidth : MethodName := ⟨R_Law, "treewidth", "(LHomBench;I[J)I"⟩
abbrev b_Law_treewidth : ByteArray := method_15_code
def hh_Law_treewidth : List (Nat × Nat × Nat × Nat) := [(0, 9, 12, 13)]
theorem v_Law_treewidth : HStatW y_Law_treewidth b_Law_treewidth 4 (some .int) hh_Law_treewidth 3 := ⟨List.forall_mem_cons.mpr ⟨h_inI 809 (by decide +kernel) rfl, List.forall_mem_cons.mpr ⟨h_inI 99 (by decide +kernel) rfl, List.forall_mem_cons.mpr ⟨h_inI 810 (by decide +kernel) rfl, fun _ h => absurd h List.not_mem_nil⟩⟩⟩, by decide, by decide, by decide +kernel⟩
def y_Law_bag : MethodName := ⟨R_Law, "bag", "(LHomBench;II[J)I"⟩
abbrev b_Law_bag : ByteArray := method_16_code
def hh_Law_bag : List (Nat × Nat × Nat × Nat) := [(0, 10, 13, 13)]
theorem v_Law_bag : HStatW y_Law_bag b_Law_bag 5 (some .int) hh_Law_bag 4 := ⟨List.forall_mem_cons.mpr ⟨h_inI 816 (by decide +kernel) rfl, List.forall_mem_cons.mpr ⟨h_inI 99 (by decide +kernel) rfl, List.forall_mem_cons.mpr ⟨h_inI 817 (by decide +kernel) rfl, fun _ h => absurd h List.not_mem_nil⟩⟩⟩, by decide, by decide, by decide +kernel⟩
def y_Law_count : MethodName := ⟨R_Law, "count", "(LHomBench;III[J)I"⟩
abbrev b_Law_count : ByteArray := method_17_code
def hh_Law_count : List (Nat × Nat × Nat × Nat) := [(0, 11, 14, 13), (0, 11, 18, 15), (0, 11, 22, 34)]
theorem v_Law_count : HStatW y_Law_count b_Law_count 6 (some .int) hh_Law_count 5 := ⟨List.forall_mem_cons.mpr ⟨h_inI 823 (by decide +kernel) rfl, List.forall_mem_cons.mpr ⟨h_inI 99 (by decide +kernel) rfl, List.forall_mem_cons.mpr ⟨h_inI 824 (by decide +kernel) rfl, fun _ h => absurd h List.not_mem_nil⟩⟩⟩, by decide, by decide, by decide +kernel⟩
def y_Law_density : MethodName := ⟨R_Law, "density", "(LHomBench;III[J)I"⟩
abbrev b_Law_density : ByteArray := method_18_code
def hh_Law_density : List (Nat × Nat × Nat × Nat) := [(0, 11, 14, 13), (0, 11, 18, 15), (0, 11, 22, 34)]
theorem v_Law_density : HStatW y_Law_density b_Law_density 6 (some .int) hh_Law_density 5 := ⟨List.forall_mem_cons.mpr ⟨h_inI 896 (by decide +kernel) rfl, List.forall_mem_cons.mpr ⟨h_inI 99 (by decide +kernel) rfl, List.forall_mem_cons.mpr ⟨h_inI 897 (by decide +kernel) rfl, fun _ h => absurd h List.not_mem_nil⟩⟩⟩, by decide, by decide, by decide +kernel⟩
def y_Law_automorphisms : MethodName := ⟨R_Law, "automorphisms", "(LHomBench;I[J)I"⟩
abbrev b_Law_automorphisms : ByteArray := method_19_code
def hh_Law_automorphisms : List (Nat × Nat × Nat × Nat) := [(0, 9, 12, 13)]
theorem v_Law_automorphisms : HStatW y_Law_automorphisms b_Law_automorphisms 4 (some .int) hh_Law_automorphisms 3 := ⟨List.forall_mem_cons.mpr ⟨h_inI 907 (by decide +kernel) rfl, List.forall_mem_cons.mpr ⟨h_inI 99 (by decide +kernel) rfl, List.forall_mem_cons.mpr ⟨h_inI 908 (by decide +kernel) rfl, fun _ h => absurd h List.not_mem_nil⟩⟩⟩, by decide, by decide, by decide +kernel⟩
def y_Law_isomorphic : MethodName := ⟨R_Law, "isomorphic", "(LHomBench;II[J)I"⟩
abbrev b_Law_isomorphic : ByteArray := method_20_code
def hh_Law_isomorphic : List (Nat × Nat × Nat × Nat) := [(0, 17, 20, 13)]
theorem v_Law_isomorphic : HStatW y_Law_isomorphic b_Law_isomorphic 5 (some .int) hh_Law_isomorphic 4 := ⟨List.forall_mem_cons.mpr ⟨h_inI 914 (by decide +kernel) rfl, List.forall_mem_cons.mpr ⟨h_inI 99 (by decide +kernel) rfl, List.forall_mem_cons.mpr ⟨h_inI 915 (by decide +kernel) rfl, fun _ h => absurd h List.not_mem_nil⟩⟩⟩, by decide, by decide, by decide +kernel⟩
def y_Law_image : MethodName := ⟨R_Law, "image", "(LHomBench;III[J)I"⟩
abbrev b_Law_image : ByteArray := method_21_code
def hh_Law_image : List (Nat × Nat × Nat × Nat) := [(0, 12, 15, 13)]
theorem v_Law_image : HStatW y_Law_image b_Law_image 6 (some .int) hh_Law_image 5 := ⟨List.forall_mem_cons.mpr ⟨h_inI 929 (by decide +kernel) rfl, List.forall_mem_cons.mpr ⟨h_inI 99 (by decide +kernel) rfl, List.forall_mem_cons.mpr ⟨h_inI 930 (by decide +kernel) rfl, fun _ h => absurd h List.not_mem_nil⟩⟩⟩, by decide, by decide, by decide +kernel⟩
def y_Law_compare : MethodName := ⟨R_Law, "compare", "(LHomBench;II[J)I"⟩
abbrev b_Law_compare : ByteArray := method_22_code
def hh_Law_compare : List (Nat × Nat × Nat × Nat) := [(0, 10, 13, 13)]
theorem v_Law_compare : HStatW y_Law_compare b_Law_compare 5 (some .int) hh_Law_compare 4 := ⟨List.forall_mem_cons.mpr ⟨h_inI 944 (by decide +kernel) rfl, List.forall_mem_cons.mpr ⟨h_inI 99 (by decide +kernel) rfl, List.forall_mem_cons.mpr ⟨h_inI 945 (by decide +kernel) rfl, fun _ h => absurd h List.not_mem_nil⟩⟩⟩, by decide, by decide, by decide +kernel⟩
def y_Law_colorings : MethodName := ⟨R_Law, "colorings", "(LHomBench;II[J)I"⟩
abbrev b_Law_colorings : ByteArray := method_23_code
def hh_Law_colorings : List (Nat × Nat × Nat × Nat) := [(0, 9, 12, 13), (0, 9, 16, 15)]
theorem v_Law_colorings : HStatW y_Law_colorings b_Law_colorings 5 (some .int) hh_Law_colorings 4 := ⟨List.forall_mem_cons.mpr ⟨h_inI 951 (by decide +kernel) rfl, List.forall_mem_cons.mpr ⟨h_inI 99 (by decide +kernel) rfl, List.forall_mem_cons.mpr ⟨h_inI 952 (by decide +kernel) rfl, fun _ h => absurd h List.not_mem_nil⟩⟩⟩, by decide, by decide, by decide +kernel⟩
def y_Law_chromatic : MethodName := ⟨R_Law, "chromatic", "(LHomBench;I[J)I"⟩
abbrev b_Law_chromatic : ByteArray := method_24_code
def hh_Law_chromatic : List (Nat × Nat × Nat × Nat) := [(0, 9, 12, 13)]
theorem v_Law_chromatic : HStatW y_Law_chromatic b_Law_chromatic 4 (some .int) hh_Law_chromatic 3 := ⟨List.forall_mem_cons.mpr ⟨h_inI 965 (by decide +kernel) rfl, List.forall_mem_cons.mpr ⟨h_inI 99 (by decide +kernel) rfl, List.forall_mem_cons.mpr ⟨h_inI 966 (by decide +kernel) rfl, fun _ h => absurd h List.not_mem_nil⟩⟩⟩, by decide, by decide, by decide +kernel⟩
def y_Law_independent : MethodName := ⟨R_Law, "independent", "(LHomBench;II[J)I"⟩
abbrev b_Law_independent : ByteArray := method_25_code
def hh_Law_independent : List (Nat × Nat × Nat × Nat) := [(0, 10, 13, 13), (0, 10, 17, 15)]
theorem v_Law_independent : HStatW y_Law_independent b_Law_independent 5 (some .int) hh_Law_independent 4 := ⟨List.forall_mem_cons.mpr ⟨h_inI 972 (by decide +kernel) rfl, List.forall_mem_cons.mpr ⟨h_inI 99 (by decide +kernel) rfl, List.forall_mem_cons.mpr ⟨h_inI 973 (by decide +kernel) rfl, fun _ h => absurd h List.not_mem_nil⟩⟩⟩, by decide, by decide, by decide +kernel⟩
def y_Law_walks : MethodName := ⟨R_Law, "walks", "(LHomBench;IIZ[J)I"⟩
abbrev b_Law_walks : ByteArray := method_26_code
def hh_Law_walks : List (Nat × Nat × Nat × Nat) := [(0, 11, 14, 13), (0, 11, 18, 15)]
theorem v_Law_walks : HStatW y_Law_walks b_Law_walks 6 (some .int) hh_Law_walks 5 := ⟨List.forall_mem_cons.mpr ⟨h_inI 980 (by decide +kernel) rfl, List.forall_mem_cons.mpr ⟨h_inI 99 (by decide +kernel) rfl, List.forall_mem_cons.mpr ⟨h_inI 981 (by decide +kernel) rfl, fun _ h => absurd h List.not_mem_nil⟩⟩⟩, by decide, by decide, by decide +kernel⟩
def y_Law_folds : MethodName := ⟨R_Law, "folds", "(LHomBench;II[J)I"⟩
abbrev b_Law_folds : ByteArray := method_27_code
def hh_Law_folds : List (Nat × Nat × Nat × Nat) := [(0, 10, 13, 13)]
theorem v_Law_folds : HStatW y_Law_folds b_Law_folds 5 (some .int) hh_Law_folds 4 := ⟨List.forall_mem_cons.mpr ⟨h_inI 1000 (by decide +kernel) rfl, List.forall_mem_cons.mpr ⟨h_inI 99 (by decide +kernel) rfl, List.forall_mem_cons.mpr ⟨h_inI 1001 (by decide +kernel) rfl, fun _ h => absurd h List.not_mem_nil⟩⟩⟩, by decide, by decide, by decide +kernel⟩
def y_Law_dismantle : MethodName := ⟨R_Law, "dismantle", "(LHomBench;I[J)I"⟩
abbrev b_Law_dismantle : ByteArray := method_28_code
def hh_Law_dismantle : List (Nat × Nat × Nat × Nat) := [(0, 9, 12, 13)]
theorem v_Law_dismantle : HStatW y_Law_dismantle b_Law_dismantle 4 (some .int) hh_Law_dismantle 3 := ⟨List.forall_mem_cons.mpr ⟨h_inI 1011 (by decide +kernel) rfl, List.forall_mem_cons.mpr ⟨h_inI 99 (by decide +kernel) rfl, List.forall_mem_cons.mpr ⟨h_inI 1012 (by decide +kernel) rfl, fun _ h => absurd h List.not_mem_nil⟩⟩⟩, by decide, by decide, by decide +kernel⟩
def y_Law_isCore : MethodName := ⟨R_Law, "isCore", "(LHomBench;I[J)I"⟩
abbrev b_Law_isCore : ByteArray := method_29_code
def hh_Law_isCore : List (Nat × Nat × Nat × Nat) := [(0, 16, 19, 13)]
theorem v_Law_isCore : HStatW y_Law_isCore b_Law_isCore 4 (some .int) hh_Law_isCore 3 := ⟨List.forall_mem_cons.mpr ⟨h_inI 1027 (by decide +kernel) rfl, List.forall_mem_cons.mpr ⟨h_inI 99 (by decide +kernel) rfl, List.forall_mem_cons.mpr ⟨h_inI 1028 (by decide +kernel) rfl, fun _ h => absurd h List.not_mem_nil⟩⟩⟩, by decide, by decide, by decide +kernel⟩
def y_Law_coreSize : MethodName := ⟨R_Law, "coreSize", "(LHomBench;I[J)I"⟩
abbrev b_Law_coreSize : ByteArray := method_30_code
def hh_Law_coreSize : List (Nat × Nat × Nat × Nat) := [(0, 9, 12, 13)]
theorem v_Law_coreSize : HStatW y_Law_coreSize b_Law_coreSize 4 (some .int) hh_Law_coreSize 3 := ⟨List.forall_mem_cons.mpr ⟨h_inI 1034 (by decide +kernel) rfl, List.forall_mem_cons.mpr ⟨h_inI 99 (by decide +kernel) rfl, List.forall_mem_cons.mpr ⟨h_inI 1035 (by decide +kernel) rfl, fun _ h => absurd h List.not_mem_nil⟩⟩⟩, by decide, by decide, by decide +kernel⟩
def y_Law_append : MethodName := ⟨R_Law, "append", "(LHomBench;I[J)I"⟩
abbrev b_Law_append : ByteArray := method_31_code
def hh_Law_append : List (Nat × Nat × Nat × Nat) := [(0, 9, 12, 15), (0, 9, 15, 34)]
theorem v_Law_append : HStatW y_Law_append b_Law_append 4 (some .int) hh_Law_append 3 := ⟨List.forall_mem_cons.mpr ⟨h_inI 1041 (by decide +kernel) rfl, List.forall_mem_cons.mpr ⟨h_inI 99 (by decide +kernel) rfl, List.forall_mem_cons.mpr ⟨h_inI 1042 (by decide +kernel) rfl, fun _ h => absurd h List.not_mem_nil⟩⟩⟩, by decide, by decide, by decide +kernel⟩
def y_Law_parse : MethodName := ⟨R_Law, "parse", "(LHomBench;I[J)I"⟩
abbrev b_Law_parse : ByteArray := method_32_code
def hh_Law_parse : List (Nat × Nat × Nat × Nat) := [(0, 9, 12, 13)]
theorem v_Law_parse : HStatW y_Law_parse b_Law_parse 4 (some .int) hh_Law_parse 3 := ⟨List.forall_mem_cons.mpr ⟨h_inI 1049 (by decide +kernel) rfl, List.forall_mem_cons.mpr ⟨h_inI 99 (by decide +kernel) rfl, List.forall_mem_cons.mpr ⟨h_inI 1050 (by decide +kernel) rfl, fun _ h => absurd h List.not_mem_nil⟩⟩⟩, by decide, by decide, by decide +kernel⟩
def y_Law_written : MethodName := ⟨R_Law, "written", "(LHomBench;II[J)I"⟩
abbrev b_Law_written : ByteArray := method_33_code
def hh_Law_written : List (Nat × Nat × Nat × Nat) := [(0, 10, 13, 13), (0, 10, 17, 15)]
theorem v_Law_written : HStatW y_Law_written b_Law_written 5 (some .int) hh_Law_written 4 := ⟨List.forall_mem_cons.mpr ⟨h_inI 1086 (by decide +kernel) rfl, List.forall_mem_cons.mpr ⟨h_inI 99 (by decide +kernel) rfl, List.forall_mem_cons.mpr ⟨h_inI 1087 (by decide +kernel) rfl, fun _ h => absurd h List.not_mem_nil⟩⟩⟩, by decide, by decide, by decide +kernel⟩
def y_Law_undo : MethodName := ⟨R_Law, "undo", "(LHomBench;[J)I"⟩
abbrev b_Law_undo : ByteArray := method_34_code
def hh_Law_undo : List (Nat × Nat × Nat × Nat) := [(0, 8, 11, 34)]
theorem v_Law_undo : HStatW y_Law_undo b_Law_undo 3 (some .int) hh_Law_undo 2 := ⟨List.forall_mem_cons.mpr ⟨h_inI 1110 (by decide +kernel) rfl, List.forall_mem_cons.mpr ⟨h_inI 99 (by decide +kernel) rfl, List.forall_mem_cons.mpr ⟨h_inI 1111 (by decide +kernel) rfl, fun _ h => absurd h List.not_mem_nil⟩⟩⟩, by decide, by decide, by decide +kernel⟩
theorem wk_Law_13 : Cond.classLink R_Law 13 (h_ex 1) ∈ h_tb := h_inI 495 (by decide +kernel) rfl
theorem wk_Law_15 : Cond.classLink R_Law 15 (h_ex 2) ∈ h_tb := h_inI 496 (by decide +kernel) rfl
theorem wm_Law_7 : Cond.methodLink R_Law 7 y_Bench_setSize ∈ h_tb := h_inI 497 (by decide +kernel) rfl
theorem wm_Law_17 : Cond.methodLink R_Law 17 y_Bench_setVertex ∈ h_tb := h_inI 610 (by decide +kernel) rfl
theorem wm_Law_21 : Cond.methodLink R_Law 21 y_Bench_setEdge ∈ h_tb := h_inI 621 (by decide +kernel) rfl
theorem wm_Law_25 : Cond.methodLink R_Law 25 y_Bench_make ∈ h_tb := h_inI 632 (by decide +kernel) rfl
theorem wm_Law_28 : Cond.methodLink R_Law 28 y_Bench_random ∈ h_tb := h_inI 658 (by decide +kernel) rfl
theorem wk_Law_34 : Cond.classLink R_Law 34 (h_ex 3) ∈ h_tb := h_inI 675 (by decide +kernel) rfl
theorem wm_Law_31 : Cond.methodLink R_Law 31 y_Bench_combine ∈ h_tb := h_inI 676 (by decide +kernel) rfl
theorem wm_Law_36 : Cond.methodLink R_Law 36 y_Bench_derive ∈ h_tb := h_inI 727 (by decide +kernel) rfl
theorem wm_Law_39 : Cond.methodLink R_Law 39 y_Bench_graph ∈ h_tb := h_inI 744 (by decide +kernel) rfl
theorem wm_Law_42 : Cond.methodLink R_Law 42 y_Bench_vertex ∈ h_tb := h_inI 757 (by decide +kernel) rfl
theorem wm_Law_45 : Cond.methodLink R_Law 45 y_Bench_edge ∈ h_tb := h_inI 764 (by decide +kernel) rfl
theorem wm_Law_48 : Cond.methodLink R_Law 48 y_Bench_greedy ∈ h_tb := h_inI 771 (by decide +kernel) rfl
theorem wm_Law_51 : Cond.methodLink R_Law 51 y_Bench_width ∈ h_tb := h_inI 795 (by decide +kernel) rfl
theorem wm_Law_55 : Cond.methodLink R_Law 55 y_Bench_treewidth ∈ h_tb := h_inI 811 (by decide +kernel) rfl
theorem wm_Law_59 : Cond.methodLink R_Law 59 y_Bench_bag ∈ h_tb := h_inI 818 (by decide +kernel) rfl
theorem wm_Law_62 : Cond.methodLink R_Law 62 y_Bench_count ∈ h_tb := h_inI 825 (by decide +kernel) rfl
theorem wm_Law_66 : Cond.methodLink R_Law 66 y_Bench_density ∈ h_tb := h_inI 898 (by decide +kernel) rfl
theorem wm_Law_69 : Cond.methodLink R_Law 69 y_Bench_automorphisms ∈ h_tb := h_inI 909 (by decide +kernel) rfl
theorem wm_Law_72 : Cond.methodLink R_Law 72 y_Bench_isomorphic ∈ h_tb := h_inI 916 (by decide +kernel) rfl
theorem wm_Law_76 : Cond.methodLink R_Law 76 y_Bench_image ∈ h_tb := h_inI 931 (by decide +kernel) rfl
theorem wm_Law_79 : Cond.methodLink R_Law 79 y_Bench_compare ∈ h_tb := h_inI 946 (by decide +kernel) rfl
theorem wm_Law_82 : Cond.methodLink R_Law 82 y_Bench_colorings ∈ h_tb := h_inI 953 (by decide +kernel) rfl
theorem wm_Law_86 : Cond.methodLink R_Law 86 y_Bench_chromatic ∈ h_tb := h_inI 967 (by decide +kernel) rfl
theorem wm_Law_89 : Cond.methodLink R_Law 89 y_Bench_independent ∈ h_tb := h_inI 974 (by decide +kernel) rfl
theorem wm_Law_92 : Cond.methodLink R_Law 92 y_Bench_walks ∈ h_tb := h_inI 982 (by decide +kernel) rfl
theorem wm_Law_96 : Cond.methodLink R_Law 96 y_Bench_folds ∈ h_tb := h_inI 1002 (by decide +kernel) rfl
theorem wm_Law_99 : Cond.methodLink R_Law 99 y_Bench_dismantle ∈ h_tb := h_inI 1013 (by decide +kernel) rfl
theorem wm_Law_102 : Cond.methodLink R_Law 102 y_Bench_isCore ∈ h_tb := h_inI 1029 (by decide +kernel) rfl
theorem wm_Law_106 : Cond.methodLink R_Law 106 y_Bench_coreSize ∈ h_tb := h_inI 1036 (by decide +kernel) rfl
theorem wm_Law_109 : Cond.methodLink R_Law 109 y_Bench_append ∈ h_tb := h_inI 1043 (by decide +kernel) rfl
theorem wm_Law_112 : Cond.methodLink R_Law 112 y_Bench_parse ∈ h_tb := h_inI 1051 (by decide +kernel) rfl
theorem wm_Law_115 : Cond.methodLink R_Law 115 y_Bench_written ∈ h_tb := h_inI 1088 (by decide +kernel) rfl
theorem wm_Law_118 : Cond.methodLink R_Law 118 y_Bench_undo ∈ h_tb := h_inI 1112 (by decide +kernel) rfl
theorem d_Law_setSize_0 : decode b_Law_setSize 0 = .ok (.aload_n 3, 1) := by decide +kernel
theorem d_Law_setSize_1 : decode b_Law_setSize 1 = .ok (.iconst 0, 1) := by decide +kernel
theorem d_Law_setSize_2 : decode b_Law_setSize 2 = .ok (.aload_n 0, 1) := by decide +kernel
theorem d_Law_setSize_3 : decode b_Law_setSize 3 = .ok (.iload_n 1, 1) := by decide +kernel
theorem d_Law_setSize_4 : decode b_Law_setSize 4 = .ok (.iload_n 2, 1) := by decide +kernel
theorem d_Law_setSize_5 : decode b_Law_setSize 5 = .ok (.invokevirtual 7, 3) := by decide +kernel
theorem d_Law_setSize_8 : decode b_Law_setSize 8 = .ok (.i2l, 1) := by decide +kernel
theorem d_Law_setSize_9 : decode b_Law_setSize 9 = .ok (.lastore, 1) := by decide +kernel
theorem d_Law_setSize_10 : decode b_Law_setSize 10 = .ok (.goto 11, 3) := by decide +kernel
theorem d_Law_setSize_13 : decode b_Law_setSize 13 = .ok (.astore 4, 2) := by decide +kernel
theorem d_Law_setSize_15 : decode b_Law_setSize 15 = .ok (.iconst 1, 1) := by decide +kernel
theorem d_Law_setSize_16 : decode b_Law_setSize 16 = .ok (.ireturn, 1) := by decide +kernel
theorem d_Law_setSize_17 : decode b_Law_setSize 17 = .ok (.astore 4, 2) := by decide +kernel
theorem d_Law_setSize_19 : decode b_Law_setSize 19 = .ok (.iconst 2, 1) := by decide +kernel
theorem d_Law_setSize_20 : decode b_Law_setSize 20 = .ok (.ireturn, 1) := by decide +kernel
theorem d_Law_setSize_21 : decode b_Law_setSize 21 = .ok (.iconst 0, 1) := by decide +kernel
theorem d_Law_setSize_22 : decode b_Law_setSize 22 = .ok (.ireturn, 1) := by decide +kernel
theorem d_Law_setVertex_0 : decode b_Law_setVertex 0 = .ok (.aload 4, 2) := by decide +kernel
theorem d_Law_setVertex_2 : decode b_Law_setVertex 2 = .ok (.iconst 0, 1) := by decide +kernel
theorem d_Law_setVertex_3 : decode b_Law_setVertex 3 = .ok (.aload_n 0, 1) := by decide +kernel
theorem d_Law_setVertex_4 : decode b_Law_setVertex 4 = .ok (.iload_n 1, 1) := by decide +kernel
theorem d_Law_setVertex_5 : decode b_Law_setVertex 5 = .ok (.iload_n 2, 1) := by decide +kernel
theorem d_Law_setVertex_6 : decode b_Law_setVertex 6 = .ok (.iload_n 3, 1) := by decide +kernel
theorem d_Law_setVertex_7 : decode b_Law_setVertex 7 = .ok (.invokevirtual 17, 3) := by decide +kernel
theorem d_Law_setVertex_10 : decode b_Law_setVertex 10 = .ok (.i2l, 1) := by decide +kernel
theorem d_Law_setVertex_11 : decode b_Law_setVertex 11 = .ok (.lastore, 1) := by decide +kernel
theorem d_Law_setVertex_12 : decode b_Law_setVertex 12 = .ok (.goto 11, 3) := by decide +kernel
theorem d_Law_setVertex_15 : decode b_Law_setVertex 15 = .ok (.astore 5, 2) := by decide +kernel
theorem d_Law_setVertex_17 : decode b_Law_setVertex 17 = .ok (.iconst 1, 1) := by decide +kernel
theorem d_Law_setVertex_18 : decode b_Law_setVertex 18 = .ok (.ireturn, 1) := by decide +kernel
theorem d_Law_setVertex_19 : decode b_Law_setVertex 19 = .ok (.astore 5, 2) := by decide +kernel
theorem d_Law_setVertex_21 : decode b_Law_setVertex 21 = .ok (.iconst 2, 1) := by decide +kernel
theorem d_Law_setVertex_22 : decode b_Law_setVertex 22 = .ok (.ireturn, 1) := by decide +kernel
theorem d_Law_setVertex_23 : decode b_Law_setVertex 23 = .ok (.iconst 0, 1) := by decide +kernel
theorem d_Law_setVertex_24 : decode b_Law_setVertex 24 = .ok (.ireturn, 1) := by decide +kernel
theorem d_Law_setEdge_0 : decode b_Law_setEdge 0 = .ok (.aload 5, 2) := by decide +kernel
theorem d_Law_setEdge_2 : decode b_Law_setEdge 2 = .ok (.iconst 0, 1) := by decide +kernel
theorem d_Law_setEdge_3 : decode b_Law_setEdge 3 = .ok (.aload_n 0, 1) := by decide +kernel
theorem d_Law_setEdge_4 : decode b_Law_setEdge 4 = .ok (.iload_n 1, 1) := by decide +kernel
theorem d_Law_setEdge_5 : decode b_Law_setEdge 5 = .ok (.iload_n 2, 1) := by decide +kernel
theorem d_Law_setEdge_6 : decode b_Law_setEdge 6 = .ok (.iload_n 3, 1) := by decide +kernel
theorem d_Law_setEdge_7 : decode b_Law_setEdge 7 = .ok (.iload 4, 2) := by decide +kernel
theorem d_Law_setEdge_9 : decode b_Law_setEdge 9 = .ok (.invokevirtual 21, 3) := by decide +kernel
theorem d_Law_setEdge_12 : decode b_Law_setEdge 12 = .ok (.i2l, 1) := by decide +kernel
theorem d_Law_setEdge_13 : decode b_Law_setEdge 13 = .ok (.lastore, 1) := by decide +kernel
theorem d_Law_setEdge_14 : decode b_Law_setEdge 14 = .ok (.goto 11, 3) := by decide +kernel
theorem d_Law_setEdge_17 : decode b_Law_setEdge 17 = .ok (.astore 6, 2) := by decide +kernel
theorem d_Law_setEdge_19 : decode b_Law_setEdge 19 = .ok (.iconst 1, 1) := by decide +kernel
theorem d_Law_setEdge_20 : decode b_Law_setEdge 20 = .ok (.ireturn, 1) := by decide +kernel
theorem d_Law_setEdge_21 : decode b_Law_setEdge 21 = .ok (.astore 6, 2) := by decide +kernel
theorem d_Law_setEdge_23 : decode b_Law_setEdge 23 = .ok (.iconst 2, 1) := by decide +kernel
theorem d_Law_setEdge_24 : decode b_Law_setEdge 24 = .ok (.ireturn, 1) := by decide +kernel
theorem d_Law_setEdge_25 : decode b_Law_setEdge 25 = .ok (.iconst 0, 1) := by decide +kernel
theorem d_Law_setEdge_26 : decode b_Law_setEdge 26 = .ok (.ireturn, 1) := by decide +kernel
theorem d_Law_make_0 : decode b_Law_make 0 = .ok (.aload 4, 2) := by decide +kernel
theorem d_Law_make_2 : decode b_Law_make 2 = .ok (.iconst 0, 1) := by decide +kernel
theorem d_Law_make_3 : decode b_Law_make 3 = .ok (.aload_n 0, 1) := by decide +kernel
theorem d_Law_make_4 : decode b_Law_make 4 = .ok (.iload_n 1, 1) := by decide +kernel
theorem d_Law_make_5 : decode b_Law_make 5 = .ok (.iload_n 2, 1) := by decide +kernel
theorem d_Law_make_6 : decode b_Law_make 6 = .ok (.iload_n 3, 1) := by decide +kernel
theorem d_Law_make_7 : decode b_Law_make 7 = .ok (.invokevirtual 25, 3) := by decide +kernel
theorem d_Law_make_10 : decode b_Law_make 10 = .ok (.i2l, 1) := by decide +kernel
theorem d_Law_make_11 : decode b_Law_make 11 = .ok (.lastore, 1) := by decide +kernel
theorem d_Law_make_12 : decode b_Law_make 12 = .ok (.goto 11, 3) := by decide +kernel
theorem d_Law_make_15 : decode b_Law_make 15 = .ok (.astore 5, 2) := by decide +kernel
theorem d_Law_make_17 : decode b_Law_make 17 = .ok (.iconst 1, 1) := by decide +kernel
theorem d_Law_make_18 : decode b_Law_make 18 = .ok (.ireturn, 1) := by decide +kernel
theorem d_Law_make_19 : decode b_Law_make 19 = .ok (.astore 5, 2) := by decide +kernel
theorem d_Law_make_21 : decode b_Law_make 21 = .ok (.iconst 2, 1) := by decide +kernel
theorem d_Law_make_22 : decode b_Law_make 22 = .ok (.ireturn, 1) := by decide +kernel
theorem d_Law_make_23 : decode b_Law_make 23 = .ok (.iconst 0, 1) := by decide +kernel
theorem d_Law_make_24 : decode b_Law_make 24 = .ok (.ireturn, 1) := by decide +kernel
theorem d_Law_random_0 : decode b_Law_random 0 = .ok (.aload 5, 2) := by decide +kernel
theorem d_Law_random_2 : decode b_Law_random 2 = .ok (.iconst 0, 1) := by decide +kernel
theorem d_Law_random_3 : decode b_Law_random 3 = .ok (.aload_n 0, 1) := by decide +kernel
theorem d_Law_random_4 : decode b_Law_random 4 = .ok (.iload_n 1, 1) := by decide +kernel
theorem d_Law_random_5 : decode b_Law_random 5 = .ok (.iload_n 2, 1) := by decide +kernel
theorem d_Law_random_6 : decode b_Law_random 6 = .ok (.iload_n 3, 1) := by decide +kernel
theorem d_Law_random_7 : decode b_Law_random 7 = .ok (.iload 4, 2) := by decide +kernel
theorem d_Law_random_9 : decode b_Law_random 9 = .ok (.invokevirtual 28, 3) := by decide +kernel
theorem d_Law_random_12 : decode b_Law_random 12 = .ok (.i2l, 1) := by decide +kernel
theorem d_Law_random_13 : decode b_Law_random 13 = .ok (.lastore, 1) := by decide +kernel
theorem d_Law_random_14 : decode b_Law_random 14 = .ok (.goto 11, 3) := by decide +kernel
theorem d_Law_random_17 : decode b_Law_random 17 = .ok (.astore 6, 2) := by decide +kernel
theorem d_Law_random_19 : decode b_Law_random 19 = .ok (.iconst 1, 1) := by decide +kernel
theorem d_Law_random_20 : decode b_Law_random 20 = .ok (.ireturn, 1) := by decide +kernel
theorem d_Law_random_21 : decode b_Law_random 21 = .ok (.astore 6, 2) := by decide +kernel
theorem d_Law_random_23 : decode b_Law_random 23 = .ok (.iconst 2, 1) := by decide +kernel
theorem d_Law_random_24 : decode b_Law_random 24 = .ok (.ireturn, 1) := by decide +kernel
theorem d_Law_random_25 : decode b_Law_random 25 = .ok (.iconst 0, 1) := by decide +kernel
theorem d_Law_random_26 : decode b_Law_random 26 = .ok (.ireturn, 1) := by decide +kernel
theorem d_Law_combine_0 : decode b_Law_combine 0 = .ok (.aload 5, 2) := by decide +kernel
theorem d_Law_combine_2 : decode b_Law_combine 2 = .ok (.iconst 0, 1) := by decide +kernel
theorem d_Law_combine_3 : decode b_Law_combine 3 = .ok (.aload_n 0, 1) := by decide +kernel
theorem d_Law_combine_4 : decode b_Law_combine 4 = .ok (.iload_n 1, 1) := by decide +kernel
theorem d_Law_combine_5 : decode b_Law_combine 5 = .ok (.iload_n 2, 1) := by decide +kernel
theorem d_Law_combine_6 : decode b_Law_combine 6 = .ok (.iload_n 3, 1) := by decide +kernel
theorem d_Law_combine_7 : decode b_Law_combine 7 = .ok (.iload 4, 2) := by decide +kernel
theorem d_Law_combine_9 : decode b_Law_combine 9 = .ok (.invokevirtual 31, 3) := by decide +kernel
theorem d_Law_combine_12 : decode b_Law_combine 12 = .ok (.i2l, 1) := by decide +kernel
theorem d_Law_combine_13 : decode b_Law_combine 13 = .ok (.lastore, 1) := by decide +kernel
theorem d_Law_combine_14 : decode b_Law_combine 14 = .ok (.goto 15, 3) := by decide +kernel
theorem d_Law_combine_17 : decode b_Law_combine 17 = .ok (.astore 6, 2) := by decide +kernel
theorem d_Law_combine_19 : decode b_Law_combine 19 = .ok (.iconst 1, 1) := by decide +kernel
theorem d_Law_combine_20 : decode b_Law_combine 20 = .ok (.ireturn, 1) := by decide +kernel
theorem d_Law_combine_21 : decode b_Law_combine 21 = .ok (.astore 6, 2) := by decide +kernel
theorem d_Law_combine_23 : decode b_Law_combine 23 = .ok (.iconst 2, 1) := by decide +kernel
theorem d_Law_combine_24 : decode b_Law_combine 24 = .ok (.ireturn, 1) := by decide +kernel
theorem d_Law_combine_25 : decode b_Law_combine 25 = .ok (.astore 6, 2) := by decide +kernel
theorem d_Law_combine_27 : decode b_Law_combine 27 = .ok (.iconst 3, 1) := by decide +kernel
theorem d_Law_combine_28 : decode b_Law_combine 28 = .ok (.ireturn, 1) := by decide +kernel
theorem d_Law_combine_29 : decode b_Law_combine 29 = .ok (.iconst 0, 1) := by decide +kernel
theorem d_Law_combine_30 : decode b_Law_combine 30 = .ok (.ireturn, 1) := by decide +kernel
theorem d_Law_derive_0 : decode b_Law_derive 0 = .ok (.aload 5, 2) := by decide +kernel
theorem d_Law_derive_2 : decode b_Law_derive 2 = .ok (.iconst 0, 1) := by decide +kernel
theorem d_Law_derive_3 : decode b_Law_derive 3 = .ok (.aload_n 0, 1) := by decide +kernel
theorem d_Law_derive_4 : decode b_Law_derive 4 = .ok (.iload_n 1, 1) := by decide +kernel
theorem d_Law_derive_5 : decode b_Law_derive 5 = .ok (.iload_n 2, 1) := by decide +kernel
theorem d_Law_derive_6 : decode b_Law_derive 6 = .ok (.iload_n 3, 1) := by decide +kernel
theorem d_Law_derive_7 : decode b_Law_derive 7 = .ok (.iload 4, 2) := by decide +kernel
theorem d_Law_derive_9 : decode b_Law_derive 9 = .ok (.invokevirtual 36, 3) := by decide +kernel
theorem d_Law_derive_12 : decode b_Law_derive 12 = .ok (.i2l, 1) := by decide +kernel
theorem d_Law_derive_13 : decode b_Law_derive 13 = .ok (.lastore, 1) := by decide +kernel
theorem d_Law_derive_14 : decode b_Law_derive 14 = .ok (.goto 11, 3) := by decide +kernel
theorem d_Law_derive_17 : decode b_Law_derive 17 = .ok (.astore 6, 2) := by decide +kernel
theorem d_Law_derive_19 : decode b_Law_derive 19 = .ok (.iconst 1, 1) := by decide +kernel
theorem d_Law_derive_20 : decode b_Law_derive 20 = .ok (.ireturn, 1) := by decide +kernel
theorem d_Law_derive_21 : decode b_Law_derive 21 = .ok (.astore 6, 2) := by decide +kernel
theorem d_Law_derive_23 : decode b_Law_derive 23 = .ok (.iconst 2, 1) := by decide +kernel
theorem d_Law_derive_24 : decode b_Law_derive 24 = .ok (.ireturn, 1) := by decide +kernel
theorem d_Law_derive_25 : decode b_Law_derive 25 = .ok (.iconst 0, 1) := by decide +kernel
theorem d_Law_derive_26 : decode b_Law_derive 26 = .ok (.ireturn, 1) := by decide +kernel
theorem d_Law_graph_0 : decode b_Law_graph 0 = .ok (.aload_n 3, 1) := by decide +kernel
theorem d_Law_graph_1 : decode b_Law_graph 1 = .ok (.iconst 0, 1) := by decide +kernel
theorem d_Law_graph_2 : decode b_Law_graph 2 = .ok (.aload_n 0, 1) := by decide +kernel
theorem d_Law_graph_3 : decode b_Law_graph 3 = .ok (.iload_n 1, 1) := by decide +kernel
theorem d_Law_graph_4 : decode b_Law_graph 4 = .ok (.iload_n 2, 1) := by decide +kernel
theorem d_Law_graph_5 : decode b_Law_graph 5 = .ok (.invokevirtual 39, 3) := by decide +kernel
theorem d_Law_graph_8 : decode b_Law_graph 8 = .ok (.i2l, 1) := by decide +kernel
theorem d_Law_graph_9 : decode b_Law_graph 9 = .ok (.lastore, 1) := by decide +kernel
theorem d_Law_graph_10 : decode b_Law_graph 10 = .ok (.goto 11, 3) := by decide +kernel
theorem d_Law_graph_13 : decode b_Law_graph 13 = .ok (.astore 4, 2) := by decide +kernel
theorem d_Law_graph_15 : decode b_Law_graph 15 = .ok (.iconst 1, 1) := by decide +kernel
theorem d_Law_graph_16 : decode b_Law_graph 16 = .ok (.ireturn, 1) := by decide +kernel
theorem d_Law_graph_17 : decode b_Law_graph 17 = .ok (.astore 4, 2) := by decide +kernel
theorem d_Law_graph_19 : decode b_Law_graph 19 = .ok (.iconst 2, 1) := by decide +kernel
theorem d_Law_graph_20 : decode b_Law_graph 20 = .ok (.ireturn, 1) := by decide +kernel
theorem d_Law_graph_21 : decode b_Law_graph 21 = .ok (.iconst 0, 1) := by decide +kernel
theorem d_Law_graph_22 : decode b_Law_graph 22 = .ok (.ireturn, 1) := by decide +kernel
theorem d_Law_vertex_0 : decode b_Law_vertex 0 = .ok (.aload 4, 2) := by decide +kernel
theorem d_Law_vertex_2 : decode b_Law_vertex 2 = .ok (.iconst 0, 1) := by decide +kernel
theorem d_Law_vertex_3 : decode b_Law_vertex 3 = .ok (.aload_n 0, 1) := by decide +kernel
theorem d_Law_vertex_4 : decode b_Law_vertex 4 = .ok (.iload_n 1, 1) := by decide +kernel
theorem d_Law_vertex_5 : decode b_Law_vertex 5 = .ok (.iload_n 2, 1) := by decide +kernel
theorem d_Law_vertex_6 : decode b_Law_vertex 6 = .ok (.iload_n 3, 1) := by decide +kernel
theorem d_Law_vertex_7 : decode b_Law_vertex 7 = .ok (.invokevirtual 42, 3) := by decide +kernel
theorem d_Law_vertex_10 : decode b_Law_vertex 10 = .ok (.i2l, 1) := by decide +kernel
theorem d_Law_vertex_11 : decode b_Law_vertex 11 = .ok (.lastore, 1) := by decide +kernel
theorem d_Law_vertex_12 : decode b_Law_vertex 12 = .ok (.goto 11, 3) := by decide +kernel
theorem d_Law_vertex_15 : decode b_Law_vertex 15 = .ok (.astore 5, 2) := by decide +kernel
theorem d_Law_vertex_17 : decode b_Law_vertex 17 = .ok (.iconst 1, 1) := by decide +kernel
theorem d_Law_vertex_18 : decode b_Law_vertex 18 = .ok (.ireturn, 1) := by decide +kernel
theorem d_Law_vertex_19 : decode b_Law_vertex 19 = .ok (.astore 5, 2) := by decide +kernel
theorem d_Law_vertex_21 : decode b_Law_vertex 21 = .ok (.iconst 2, 1) := by decide +kernel
theorem d_Law_vertex_22 : decode b_Law_vertex 22 = .ok (.ireturn, 1) := by decide +kernel
theorem d_Law_vertex_23 : decode b_Law_vertex 23 = .ok (.iconst 0, 1) := by decide +kernel
theorem d_Law_vertex_24 : decode b_Law_vertex 24 = .ok (.ireturn, 1) := by decide +kernel
theorem d_Law_edge_0 : decode b_Law_edge 0 = .ok (.aload 4, 2) := by decide +kernel
theorem d_Law_edge_2 : decode b_Law_edge 2 = .ok (.iconst 0, 1) := by decide +kernel
theorem d_Law_edge_3 : decode b_Law_edge 3 = .ok (.aload_n 0, 1) := by decide +kernel
theorem d_Law_edge_4 : decode b_Law_edge 4 = .ok (.iload_n 1, 1) := by decide +kernel
theorem d_Law_edge_5 : decode b_Law_edge 5 = .ok (.iload_n 2, 1) := by decide +kernel
theorem d_Law_edge_6 : decode b_Law_edge 6 = .ok (.iload_n 3, 1) := by decide +kernel
theorem d_Law_edge_7 : decode b_Law_edge 7 = .ok (.invokevirtual 45, 3) := by decide +kernel
theorem d_Law_edge_10 : decode b_Law_edge 10 = .ok (.i2l, 1) := by decide +kernel
theorem d_Law_edge_11 : decode b_Law_edge 11 = .ok (.lastore, 1) := by decide +kernel
theorem d_Law_edge_12 : decode b_Law_edge 12 = .ok (.goto 7, 3) := by decide +kernel
theorem d_Law_edge_15 : decode b_Law_edge 15 = .ok (.astore 5, 2) := by decide +kernel
theorem d_Law_edge_17 : decode b_Law_edge 17 = .ok (.iconst 1, 1) := by decide +kernel
theorem d_Law_edge_18 : decode b_Law_edge 18 = .ok (.ireturn, 1) := by decide +kernel
theorem d_Law_edge_19 : decode b_Law_edge 19 = .ok (.iconst 0, 1) := by decide +kernel
theorem d_Law_edge_20 : decode b_Law_edge 20 = .ok (.ireturn, 1) := by decide +kernel
theorem d_Law_greedy_0 : decode b_Law_greedy 0 = .ok (.aload_n 3, 1) := by decide +kernel
theorem d_Law_greedy_1 : decode b_Law_greedy 1 = .ok (.iconst 0, 1) := by decide +kernel
theorem d_Law_greedy_2 : decode b_Law_greedy 2 = .ok (.aload_n 0, 1) := by decide +kernel
theorem d_Law_greedy_3 : decode b_Law_greedy 3 = .ok (.iload_n 1, 1) := by decide +kernel
theorem d_Law_greedy_4 : decode b_Law_greedy 4 = .ok (.iload_n 2, 1) := by decide +kernel
theorem d_Law_greedy_5 : decode b_Law_greedy 5 = .ok (.invokevirtual 48, 3) := by decide +kernel
theorem d_Law_greedy_8 : decode b_Law_greedy 8 = .ok (.i2l, 1) := by decide +kernel
theorem d_Law_greedy_9 : decode b_Law_greedy 9 = .ok (.lastore, 1) := by decide +kernel
theorem d_Law_greedy_10 : decode b_Law_greedy 10 = .ok (.goto 7, 3) := by decide +kernel
theorem d_Law_greedy_13 : decode b_Law_greedy 13 = .ok (.astore 4, 2) := by decide +kernel
theorem d_Law_greedy_15 : decode b_Law_greedy 15 = .ok (.iconst 1, 1) := by decide +kernel
theorem d_Law_greedy_16 : decode b_Law_greedy 16 = .ok (.ireturn, 1) := by decide +kernel
theorem d_Law_greedy_17 : decode b_Law_greedy 17 = .ok (.iconst 0, 1) := by decide +kernel
theorem d_Law_greedy_18 : decode b_Law_greedy 18 = .ok (.ireturn, 1) := by decide +kernel
theorem d_Law_width_0 : decode b_Law_width 0 = .ok (.aload 4, 2) := by decide +kernel
theorem d_Law_width_2 : decode b_Law_width 2 = .ok (.iconst 0, 1) := by decide +kernel
theorem d_Law_width_3 : decode b_Law_width 3 = .ok (.aload_n 0, 1) := by decide +kernel
theorem d_Law_width_4 : decode b_Law_width 4 = .ok (.iload_n 1, 1) := by decide +kernel
theorem d_Law_width_5 : decode b_Law_width 5 = .ok (.iload_n 2, 1) := by decide +kernel
theorem d_Law_width_6 : decode b_Law_width 6 = .ok (.iload_n 3, 1) := by decide +kernel
theorem d_Law_width_7 : decode b_Law_width 7 = .ok (.invokevirtual 51, 3) := by decide +kernel
theorem d_Law_width_10 : decode b_Law_width 10 = .ok (.i2l, 1) := by decide +kernel
theorem d_Law_width_11 : decode b_Law_width 11 = .ok (.lastore, 1) := by decide +kernel
theorem d_Law_width_12 : decode b_Law_width 12 = .ok (.goto 11, 3) := by decide +kernel
theorem d_Law_width_15 : decode b_Law_width 15 = .ok (.astore 5, 2) := by decide +kernel
theorem d_Law_width_17 : decode b_Law_width 17 = .ok (.iconst 1, 1) := by decide +kernel
theorem d_Law_width_18 : decode b_Law_width 18 = .ok (.ireturn, 1) := by decide +kernel
theorem d_Law_width_19 : decode b_Law_width 19 = .ok (.astore 5, 2) := by decide +kernel
theorem d_Law_width_21 : decode b_Law_width 21 = .ok (.iconst 2, 1) := by decide +kernel
theorem d_Law_width_22 : decode b_Law_width 22 = .ok (.ireturn, 1) := by decide +kernel
theorem d_Law_width_23 : decode b_Law_width 23 = .ok (.iconst 0, 1) := by decide +kernel
theorem d_Law_width_24 : decode b_Law_width 24 = .ok (.ireturn, 1) := by decide +kernel
theorem d_Law_treewidth_0 : decode b_Law_treewidth 0 = .ok (.aload_n 2, 1) := by decide +kernel
theorem d_Law_treewidth_1 : decode b_Law_treewidth 1 = .ok (.iconst 0, 1) := by decide +kernel
theorem d_Law_treewidth_2 : decode b_Law_treewidth 2 = .ok (.aload_n 0, 1) := by decide +kernel
theorem d_Law_treewidth_3 : decode b_Law_treewidth 3 = .ok (.iload_n 1, 1) := by decide +kernel
theorem d_Law_treewidth_4 : decode b_Law_treewidth 4 = .ok (.invokevirtual 55, 3) := by decide +kernel
theorem d_Law_treewidth_7 : decode b_Law_treewidth 7 = .ok (.i2l, 1) := by decide +kernel
theorem d_Law_treewidth_8 : decode b_Law_treewidth 8 = .ok (.lastore, 1) := by decide +kernel
theorem d_Law_treewidth_9 : decode b_Law_treewidth 9 = .ok (.goto 6, 3) := by decide +kernel
theorem d_Law_treewidth_12 : decode b_Law_treewidth 12 = .ok (.astore_n 3, 1) := by decide +kernel
theorem d_Law_treewidth_13 : decode b_Law_treewidth 13 = .ok (.iconst 1, 1) := by decide +kernel
theorem d_Law_treewidth_14 : decode b_Law_treewidth 14 = .ok (.ireturn, 1) := by decide +kernel
theorem d_Law_treewidth_15 : decode b_Law_treewidth 15 = .ok (.iconst 0, 1) := by decide +kernel
theorem d_Law_treewidth_16 : decode b_Law_treewidth 16 = .ok (.ireturn, 1) := by decide +kernel
theorem d_Law_bag_0 : decode b_Law_bag 0 = .ok (.aload_n 3, 1) := by decide +kernel
theorem d_Law_bag_1 : decode b_Law_bag 1 = .ok (.iconst 0, 1) := by decide +kernel
theorem d_Law_bag_2 : decode b_Law_bag 2 = .ok (.aload_n 0, 1) := by decide +kernel
theorem d_Law_bag_3 : decode b_Law_bag 3 = .ok (.iload_n 1, 1) := by decide +kernel
theorem d_Law_bag_4 : decode b_Law_bag 4 = .ok (.iload_n 2, 1) := by decide +kernel
theorem d_Law_bag_5 : decode b_Law_bag 5 = .ok (.invokevirtual 59, 3) := by decide +kernel
theorem d_Law_bag_8 : decode b_Law_bag 8 = .ok (.i2l, 1) := by decide +kernel
theorem d_Law_bag_9 : decode b_Law_bag 9 = .ok (.lastore, 1) := by decide +kernel
theorem d_Law_bag_10 : decode b_Law_bag 10 = .ok (.goto 7, 3) := by decide +kernel
theorem d_Law_bag_13 : decode b_Law_bag 13 = .ok (.astore 4, 2) := by decide +kernel
theorem d_Law_bag_15 : decode b_Law_bag 15 = .ok (.iconst 1, 1) := by decide +kernel
theorem d_Law_bag_16 : decode b_Law_bag 16 = .ok (.ireturn, 1) := by decide +kernel
theorem d_Law_bag_17 : decode b_Law_bag 17 = .ok (.iconst 0, 1) := by decide +kernel
theorem d_Law_bag_18 : decode b_Law_bag 18 = .ok (.ireturn, 1) := by decide +kernel
theorem d_Law_count_0 : decode b_Law_count 0 = .ok (.aload 4, 2) := by decide +kernel
theorem d_Law_count_2 : decode b_Law_count 2 = .ok (.iconst 0, 1) := by decide +kernel
theorem d_Law_count_3 : decode b_Law_count 3 = .ok (.aload_n 0, 1) := by decide +kernel
theorem d_Law_count_4 : decode b_Law_count 4 = .ok (.iload_n 1, 1) := by decide +kernel
theorem d_Law_count_5 : decode b_Law_count 5 = .ok (.iload_n 2, 1) := by decide +kernel
theorem d_Law_count_6 : decode b_Law_count 6 = .ok (.iload_n 3, 1) := by decide +kernel
theorem d_Law_count_7 : decode b_Law_count 7 = .ok (.invokevirtual 62, 3) := by decide +kernel
theorem d_Law_count_10 : decode b_Law_count 10 = .ok (.lastore, 1) := by decide +kernel
theorem d_Law_count_11 : decode b_Law_count 11 = .ok (.goto 15, 3) := by decide +kernel
theorem d_Law_count_14 : decode b_Law_count 14 = .ok (.astore 5, 2) := by decide +kernel
theorem d_Law_count_16 : decode b_Law_count 16 = .ok (.iconst 1, 1) := by decide +kernel
theorem d_Law_count_17 : decode b_Law_count 17 = .ok (.ireturn, 1) := by decide +kernel
theorem d_Law_count_18 : decode b_Law_count 18 = .ok (.astore 5, 2) := by decide +kernel
theorem d_Law_count_20 : decode b_Law_count 20 = .ok (.iconst 2, 1) := by decide +kernel
theorem d_Law_count_21 : decode b_Law_count 21 = .ok (.ireturn, 1) := by decide +kernel
theorem d_Law_count_22 : decode b_Law_count 22 = .ok (.astore 5, 2) := by decide +kernel
theorem d_Law_count_24 : decode b_Law_count 24 = .ok (.iconst 3, 1) := by decide +kernel
theorem d_Law_count_25 : decode b_Law_count 25 = .ok (.ireturn, 1) := by decide +kernel
theorem d_Law_count_26 : decode b_Law_count 26 = .ok (.iconst 0, 1) := by decide +kernel
theorem d_Law_count_27 : decode b_Law_count 27 = .ok (.ireturn, 1) := by decide +kernel
theorem d_Law_density_0 : decode b_Law_density 0 = .ok (.aload 4, 2) := by decide +kernel
theorem d_Law_density_2 : decode b_Law_density 2 = .ok (.iconst 0, 1) := by decide +kernel
theorem d_Law_density_3 : decode b_Law_density 3 = .ok (.aload_n 0, 1) := by decide +kernel
theorem d_Law_density_4 : decode b_Law_density 4 = .ok (.iload_n 1, 1) := by decide +kernel
theorem d_Law_density_5 : decode b_Law_density 5 = .ok (.iload_n 2, 1) := by decide +kernel
theorem d_Law_density_6 : decode b_Law_density 6 = .ok (.iload_n 3, 1) := by decide +kernel
theorem d_Law_density_7 : decode b_Law_density 7 = .ok (.invokevirtual 66, 3) := by decide +kernel
theorem d_Law_density_10 : decode b_Law_density 10 = .ok (.lastore, 1) := by decide +kernel
theorem d_Law_density_11 : decode b_Law_density 11 = .ok (.goto 15, 3) := by decide +kernel
theorem d_Law_density_14 : decode b_Law_density 14 = .ok (.astore 5, 2) := by decide +kernel
theorem d_Law_density_16 : decode b_Law_density 16 = .ok (.iconst 1, 1) := by decide +kernel
theorem d_Law_density_17 : decode b_Law_density 17 = .ok (.ireturn, 1) := by decide +kernel
theorem d_Law_density_18 : decode b_Law_density 18 = .ok (.astore 5, 2) := by decide +kernel
theorem d_Law_density_20 : decode b_Law_density 20 = .ok (.iconst 2, 1) := by decide +kernel
theorem d_Law_density_21 : decode b_Law_density 21 = .ok (.ireturn, 1) := by decide +kernel
theorem d_Law_density_22 : decode b_Law_density 22 = .ok (.astore 5, 2) := by decide +kernel
theorem d_Law_density_24 : decode b_Law_density 24 = .ok (.iconst 3, 1) := by decide +kernel
theorem d_Law_density_25 : decode b_Law_density 25 = .ok (.ireturn, 1) := by decide +kernel
theorem d_Law_density_26 : decode b_Law_density 26 = .ok (.iconst 0, 1) := by decide +kernel
theorem d_Law_density_27 : decode b_Law_density 27 = .ok (.ireturn, 1) := by decide +kernel
theorem d_Law_automorphisms_0 : decode b_Law_automorphisms 0 = .ok (.aload_n 2, 1) := by decide +kernel
theorem d_Law_automorphisms_1 : decode b_Law_automorphisms 1 = .ok (.iconst 0, 1) := by decide +kernel
theorem d_Law_automorphisms_2 : decode b_Law_automorphisms 2 = .ok (.aload_n 0, 1) := by decide +kernel
theorem d_Law_automorphisms_3 : decode b_Law_automorphisms 3 = .ok (.iload_n 1, 1) := by decide +kernel
theorem d_Law_automorphisms_4 : decode b_Law_automorphisms 4 = .ok (.invokevirtual 69, 3) := by decide +kernel
theorem d_Law_automorphisms_7 : decode b_Law_automorphisms 7 = .ok (.i2l, 1) := by decide +kernel
theorem d_Law_automorphisms_8 : decode b_Law_automorphisms 8 = .ok (.lastore, 1) := by decide +kernel
theorem d_Law_automorphisms_9 : decode b_Law_automorphisms 9 = .ok (.goto 6, 3) := by decide +kernel
theorem d_Law_automorphisms_12 : decode b_Law_automorphisms 12 = .ok (.astore_n 3, 1) := by decide +kernel
theorem d_Law_automorphisms_13 : decode b_Law_automorphisms 13 = .ok (.iconst 1, 1) := by decide +kernel
theorem d_Law_automorphisms_14 : decode b_Law_automorphisms 14 = .ok (.ireturn, 1) := by decide +kernel
theorem d_Law_automorphisms_15 : decode b_Law_automorphisms 15 = .ok (.iconst 0, 1) := by decide +kernel
theorem d_Law_automorphisms_16 : decode b_Law_automorphisms 16 = .ok (.ireturn, 1) := by decide +kernel
theorem d_Law_isomorphic_0 : decode b_Law_isomorphic 0 = .ok (.aload_n 3, 1) := by decide +kernel
theorem d_Law_isomorphic_1 : decode b_Law_isomorphic 1 = .ok (.iconst 0, 1) := by decide +kernel
theorem d_Law_isomorphic_2 : decode b_Law_isomorphic 2 = .ok (.aload_n 0, 1) := by decide +kernel
theorem d_Law_isomorphic_3 : decode b_Law_isomorphic 3 = .ok (.iload_n 1, 1) := by decide +kernel
theorem d_Law_isomorphic_4 : decode b_Law_isomorphic 4 = .ok (.iload_n 2, 1) := by decide +kernel
theorem d_Law_isomorphic_5 : decode b_Law_isomorphic 5 = .ok (.invokevirtual 72, 3) := by decide +kernel
theorem d_Law_isomorphic_8 : decode b_Law_isomorphic 8 = .ok (.ifCond .eq 7, 3) := by decide +kernel
theorem d_Law_isomorphic_11 : decode b_Law_isomorphic 11 = .ok (.lconst 1, 1) := by decide +kernel
theorem d_Law_isomorphic_12 : decode b_Law_isomorphic 12 = .ok (.goto 4, 3) := by decide +kernel
theorem d_Law_isomorphic_15 : decode b_Law_isomorphic 15 = .ok (.lconst 0, 1) := by decide +kernel
theorem d_Law_isomorphic_16 : decode b_Law_isomorphic 16 = .ok (.lastore, 1) := by decide +kernel
theorem d_Law_isomorphic_17 : decode b_Law_isomorphic 17 = .ok (.goto 7, 3) := by decide +kernel
theorem d_Law_isomorphic_20 : decode b_Law_isomorphic 20 = .ok (.astore 4, 2) := by decide +kernel
theorem d_Law_isomorphic_22 : decode b_Law_isomorphic 22 = .ok (.iconst 1, 1) := by decide +kernel
theorem d_Law_isomorphic_23 : decode b_Law_isomorphic 23 = .ok (.ireturn, 1) := by decide +kernel
theorem d_Law_isomorphic_24 : decode b_Law_isomorphic 24 = .ok (.iconst 0, 1) := by decide +kernel
theorem d_Law_isomorphic_25 : decode b_Law_isomorphic 25 = .ok (.ireturn, 1) := by decide +kernel
theorem d_Law_image_0 : decode b_Law_image 0 = .ok (.aload 4, 2) := by decide +kernel
theorem d_Law_image_2 : decode b_Law_image 2 = .ok (.iconst 0, 1) := by decide +kernel
theorem d_Law_image_3 : decode b_Law_image 3 = .ok (.aload_n 0, 1) := by decide +kernel
theorem d_Law_image_4 : decode b_Law_image 4 = .ok (.iload_n 1, 1) := by decide +kernel
theorem d_Law_image_5 : decode b_Law_image 5 = .ok (.iload_n 2, 1) := by decide +kernel
theorem d_Law_image_6 : decode b_Law_image 6 = .ok (.iload_n 3, 1) := by decide +kernel
theorem d_Law_image_7 : decode b_Law_image 7 = .ok (.invokevirtual 76, 3) := by decide +kernel
theorem d_Law_image_10 : decode b_Law_image 10 = .ok (.i2l, 1) := by decide +kernel
theorem d_Law_image_11 : decode b_Law_image 11 = .ok (.lastore, 1) := by decide +kernel
theorem d_Law_image_12 : decode b_Law_image 12 = .ok (.goto 7, 3) := by decide +kernel
theorem d_Law_image_15 : decode b_Law_image 15 = .ok (.astore 5, 2) := by decide +kernel
theorem d_Law_image_17 : decode b_Law_image 17 = .ok (.iconst 1, 1) := by decide +kernel
theorem d_Law_image_18 : decode b_Law_image 18 = .ok (.ireturn, 1) := by decide +kernel
theorem d_Law_image_19 : decode b_Law_image 19 = .ok (.iconst 0, 1) := by decide +kernel
theorem d_Law_image_20 : decode b_Law_image 20 = .ok (.ireturn, 1) := by decide +kernel
theorem d_Law_compare_0 : decode b_Law_compare 0 = .ok (.aload_n 3, 1) := by decide +kernel
theorem d_Law_compare_1 : decode b_Law_compare 1 = .ok (.iconst 0, 1) := by decide +kernel
theorem d_Law_compare_2 : decode b_Law_compare 2 = .ok (.aload_n 0, 1) := by decide +kernel
theorem d_Law_compare_3 : decode b_Law_compare 3 = .ok (.iload_n 1, 1) := by decide +kernel
theorem d_Law_compare_4 : decode b_Law_compare 4 = .ok (.iload_n 2, 1) := by decide +kernel
theorem d_Law_compare_5 : decode b_Law_compare 5 = .ok (.invokevirtual 79, 3) := by decide +kernel
theorem d_Law_compare_8 : decode b_Law_compare 8 = .ok (.i2l, 1) := by decide +kernel
theorem d_Law_compare_9 : decode b_Law_compare 9 = .ok (.lastore, 1) := by decide +kernel
theorem d_Law_compare_10 : decode b_Law_compare 10 = .ok (.goto 7, 3) := by decide +kernel
theorem d_Law_compare_13 : decode b_Law_compare 13 = .ok (.astore 4, 2) := by decide +kernel
theorem d_Law_compare_15 : decode b_Law_compare 15 = .ok (.iconst 1, 1) := by decide +kernel
theorem d_Law_compare_16 : decode b_Law_compare 16 = .ok (.ireturn, 1) := by decide +kernel
theorem d_Law_compare_17 : decode b_Law_compare 17 = .ok (.iconst 0, 1) := by decide +kernel
theorem d_Law_compare_18 : decode b_Law_compare 18 = .ok (.ireturn, 1) := by decide +kernel
theorem d_Law_colorings_0 : decode b_Law_colorings 0 = .ok (.aload_n 3, 1) := by decide +kernel
theorem d_Law_colorings_1 : decode b_Law_colorings 1 = .ok (.iconst 0, 1) := by decide +kernel
theorem d_Law_colorings_2 : decode b_Law_colorings 2 = .ok (.aload_n 0, 1) := by decide +kernel
theorem d_Law_colorings_3 : decode b_Law_colorings 3 = .ok (.iload_n 1, 1) := by decide +kernel
theorem d_Law_colorings_4 : decode b_Law_colorings 4 = .ok (.iload_n 2, 1) := by decide +kernel
theorem d_Law_colorings_5 : decode b_Law_colorings 5 = .ok (.invokevirtual 82, 3) := by decide +kernel
theorem d_Law_colorings_8 : decode b_Law_colorings 8 = .ok (.lastore, 1) := by decide +kernel
theorem d_Law_colorings_9 : decode b_Law_colorings 9 = .ok (.goto 11, 3) := by decide +kernel
theorem d_Law_colorings_12 : decode b_Law_colorings 12 = .ok (.astore 4, 2) := by decide +kernel
theorem d_Law_colorings_14 : decode b_Law_colorings 14 = .ok (.iconst 1, 1) := by decide +kernel
theorem d_Law_colorings_15 : decode b_Law_colorings 15 = .ok (.ireturn, 1) := by decide +kernel
theorem d_Law_colorings_16 : decode b_Law_colorings 16 = .ok (.astore 4, 2) := by decide +kernel
theorem d_Law_colorings_18 : decode b_Law_colorings 18 = .ok (.iconst 2, 1) := by decide +kernel
theorem d_Law_colorings_19 : decode b_Law_colorings 19 = .ok (.ireturn, 1) := by decide +kernel
theorem d_Law_colorings_20 : decode b_Law_colorings 20 = .ok (.iconst 0, 1) := by decide +kernel
theorem d_Law_colorings_21 : decode b_Law_colorings 21 = .ok (.ireturn, 1) := by decide +kernel
theorem d_Law_chromatic_0 : decode b_Law_chromatic 0 = .ok (.aload_n 2, 1) := by decide +kernel
theorem d_Law_chromatic_1 : decode b_Law_chromatic 1 = .ok (.iconst 0, 1) := by decide +kernel
theorem d_Law_chromatic_2 : decode b_Law_chromatic 2 = .ok (.aload_n 0, 1) := by decide +kernel
theorem d_Law_chromatic_3 : decode b_Law_chromatic 3 = .ok (.iload_n 1, 1) := by decide +kernel
theorem d_Law_chromatic_4 : decode b_Law_chromatic 4 = .ok (.invokevirtual 86, 3) := by decide +kernel
theorem d_Law_chromatic_7 : decode b_Law_chromatic 7 = .ok (.i2l, 1) := by decide +kernel
theorem d_Law_chromatic_8 : decode b_Law_chromatic 8 = .ok (.lastore, 1) := by decide +kernel
theorem d_Law_chromatic_9 : decode b_Law_chromatic 9 = .ok (.goto 6, 3) := by decide +kernel
theorem d_Law_chromatic_12 : decode b_Law_chromatic 12 = .ok (.astore_n 3, 1) := by decide +kernel
theorem d_Law_chromatic_13 : decode b_Law_chromatic 13 = .ok (.iconst 1, 1) := by decide +kernel
theorem d_Law_chromatic_14 : decode b_Law_chromatic 14 = .ok (.ireturn, 1) := by decide +kernel
theorem d_Law_chromatic_15 : decode b_Law_chromatic 15 = .ok (.iconst 0, 1) := by decide +kernel
theorem d_Law_chromatic_16 : decode b_Law_chromatic 16 = .ok (.ireturn, 1) := by decide +kernel
theorem d_Law_independent_0 : decode b_Law_independent 0 = .ok (.aload_n 3, 1) := by decide +kernel
theorem d_Law_independent_1 : decode b_Law_independent 1 = .ok (.iconst 0, 1) := by decide +kernel
theorem d_Law_independent_2 : decode b_Law_independent 2 = .ok (.aload_n 0, 1) := by decide +kernel
theorem d_Law_independent_3 : decode b_Law_independent 3 = .ok (.iload_n 1, 1) := by decide +kernel
theorem d_Law_independent_4 : decode b_Law_independent 4 = .ok (.iload_n 2, 1) := by decide +kernel
theorem d_Law_independent_5 : decode b_Law_independent 5 = .ok (.invokevirtual 89, 3) := by decide +kernel
theorem d_Law_independent_8 : decode b_Law_independent 8 = .ok (.i2l, 1) := by decide +kernel
theorem d_Law_independent_9 : decode b_Law_independent 9 = .ok (.lastore, 1) := by decide +kernel
theorem d_Law_independent_10 : decode b_Law_independent 10 = .ok (.goto 11, 3) := by decide +kernel
theorem d_Law_independent_13 : decode b_Law_independent 13 = .ok (.astore 4, 2) := by decide +kernel
theorem d_Law_independent_15 : decode b_Law_independent 15 = .ok (.iconst 1, 1) := by decide +kernel
theorem d_Law_independent_16 : decode b_Law_independent 16 = .ok (.ireturn, 1) := by decide +kernel
theorem d_Law_independent_17 : decode b_Law_independent 17 = .ok (.astore 4, 2) := by decide +kernel
theorem d_Law_independent_19 : decode b_Law_independent 19 = .ok (.iconst 2, 1) := by decide +kernel
theorem d_Law_independent_20 : decode b_Law_independent 20 = .ok (.ireturn, 1) := by decide +kernel
theorem d_Law_independent_21 : decode b_Law_independent 21 = .ok (.iconst 0, 1) := by decide +kernel
theorem d_Law_independent_22 : decode b_Law_independent 22 = .ok (.ireturn, 1) := by decide +kernel
theorem d_Law_walks_0 : decode b_Law_walks 0 = .ok (.aload 4, 2) := by decide +kernel
theorem d_Law_walks_2 : decode b_Law_walks 2 = .ok (.iconst 0, 1) := by decide +kernel
theorem d_Law_walks_3 : decode b_Law_walks 3 = .ok (.aload_n 0, 1) := by decide +kernel
theorem d_Law_walks_4 : decode b_Law_walks 4 = .ok (.iload_n 1, 1) := by decide +kernel
theorem d_Law_walks_5 : decode b_Law_walks 5 = .ok (.iload_n 2, 1) := by decide +kernel
theorem d_Law_walks_6 : decode b_Law_walks 6 = .ok (.iload_n 3, 1) := by decide +kernel
theorem d_Law_walks_7 : decode b_Law_walks 7 = .ok (.invokevirtual 92, 3) := by decide +kernel
theorem d_Law_walks_10 : decode b_Law_walks 10 = .ok (.lastore, 1) := by decide +kernel
theorem d_Law_walks_11 : decode b_Law_walks 11 = .ok (.goto 11, 3) := by decide +kernel
theorem d_Law_walks_14 : decode b_Law_walks 14 = .ok (.astore 5, 2) := by decide +kernel
theorem d_Law_walks_16 : decode b_Law_walks 16 = .ok (.iconst 1, 1) := by decide +kernel
theorem d_Law_walks_17 : decode b_Law_walks 17 = .ok (.ireturn, 1) := by decide +kernel
theorem d_Law_walks_18 : decode b_Law_walks 18 = .ok (.astore 5, 2) := by decide +kernel
theorem d_Law_walks_20 : decode b_Law_walks 20 = .ok (.iconst 2, 1) := by decide +kernel
theorem d_Law_walks_21 : decode b_Law_walks 21 = .ok (.ireturn, 1) := by decide +kernel
theorem d_Law_walks_22 : decode b_Law_walks 22 = .ok (.iconst 0, 1) := by decide +kernel
theorem d_Law_walks_23 : decode b_Law_walks 23 = .ok (.ireturn, 1) := by decide +kernel
theorem d_Law_folds_0 : decode b_Law_folds 0 = .ok (.aload_n 3, 1) := by decide +kernel
theorem d_Law_folds_1 : decode b_Law_folds 1 = .ok (.iconst 0, 1) := by decide +kernel
theorem d_Law_folds_2 : decode b_Law_folds 2 = .ok (.aload_n 0, 1) := by decide +kernel
theorem d_Law_folds_3 : decode b_Law_folds 3 = .ok (.iload_n 1, 1) := by decide +kernel
theorem d_Law_folds_4 : decode b_Law_folds 4 = .ok (.iload_n 2, 1) := by decide +kernel
theorem d_Law_folds_5 : decode b_Law_folds 5 = .ok (.invokevirtual 96, 3) := by decide +kernel
theorem d_Law_folds_8 : decode b_Law_folds 8 = .ok (.i2l, 1) := by decide +kernel
theorem d_Law_folds_9 : decode b_Law_folds 9 = .ok (.lastore, 1) := by decide +kernel
theorem d_Law_folds_10 : decode b_Law_folds 10 = .ok (.goto 7, 3) := by decide +kernel
theorem d_Law_folds_13 : decode b_Law_folds 13 = .ok (.astore 4, 2) := by decide +kernel
theorem d_Law_folds_15 : decode b_Law_folds 15 = .ok (.iconst 1, 1) := by decide +kernel
theorem d_Law_folds_16 : decode b_Law_folds 16 = .ok (.ireturn, 1) := by decide +kernel
theorem d_Law_folds_17 : decode b_Law_folds 17 = .ok (.iconst 0, 1) := by decide +kernel
theorem d_Law_folds_18 : decode b_Law_folds 18 = .ok (.ireturn, 1) := by decide +kernel
theorem d_Law_dismantle_0 : decode b_Law_dismantle 0 = .ok (.aload_n 2, 1) := by decide +kernel
theorem d_Law_dismantle_1 : decode b_Law_dismantle 1 = .ok (.iconst 0, 1) := by decide +kernel
theorem d_Law_dismantle_2 : decode b_Law_dismantle 2 = .ok (.aload_n 0, 1) := by decide +kernel
theorem d_Law_dismantle_3 : decode b_Law_dismantle 3 = .ok (.iload_n 1, 1) := by decide +kernel
theorem d_Law_dismantle_4 : decode b_Law_dismantle 4 = .ok (.invokevirtual 99, 3) := by decide +kernel
theorem d_Law_dismantle_7 : decode b_Law_dismantle 7 = .ok (.i2l, 1) := by decide +kernel
theorem d_Law_dismantle_8 : decode b_Law_dismantle 8 = .ok (.lastore, 1) := by decide +kernel
theorem d_Law_dismantle_9 : decode b_Law_dismantle 9 = .ok (.goto 6, 3) := by decide +kernel
theorem d_Law_dismantle_12 : decode b_Law_dismantle 12 = .ok (.astore_n 3, 1) := by decide +kernel
theorem d_Law_dismantle_13 : decode b_Law_dismantle 13 = .ok (.iconst 1, 1) := by decide +kernel
theorem d_Law_dismantle_14 : decode b_Law_dismantle 14 = .ok (.ireturn, 1) := by decide +kernel
theorem d_Law_dismantle_15 : decode b_Law_dismantle 15 = .ok (.iconst 0, 1) := by decide +kernel
theorem d_Law_dismantle_16 : decode b_Law_dismantle 16 = .ok (.ireturn, 1) := by decide +kernel
theorem d_Law_isCore_0 : decode b_Law_isCore 0 = .ok (.aload_n 2, 1) := by decide +kernel
theorem d_Law_isCore_1 : decode b_Law_isCore 1 = .ok (.iconst 0, 1) := by decide +kernel
theorem d_Law_isCore_2 : decode b_Law_isCore 2 = .ok (.aload_n 0, 1) := by decide +kernel
theorem d_Law_isCore_3 : decode b_Law_isCore 3 = .ok (.iload_n 1, 1) := by decide +kernel
theorem d_Law_isCore_4 : decode b_Law_isCore 4 = .ok (.invokevirtual 102, 3) := by decide +kernel
theorem d_Law_isCore_7 : decode b_Law_isCore 7 = .ok (.ifCond .eq 7, 3) := by decide +kernel
theorem d_Law_isCore_10 : decode b_Law_isCore 10 = .ok (.lconst 1, 1) := by decide +kernel
theorem d_Law_isCore_11 : decode b_Law_isCore 11 = .ok (.goto 4, 3) := by decide +kernel
theorem d_Law_isCore_14 : decode b_Law_isCore 14 = .ok (.lconst 0, 1) := by decide +kernel
theorem d_Law_isCore_15 : decode b_Law_isCore 15 = .ok (.lastore, 1) := by decide +kernel
theorem d_Law_isCore_16 : decode b_Law_isCore 16 = .ok (.goto 6, 3) := by decide +kernel
theorem d_Law_isCore_19 : decode b_Law_isCore 19 = .ok (.astore_n 3, 1) := by decide +kernel
theorem d_Law_isCore_20 : decode b_Law_isCore 20 = .ok (.iconst 1, 1) := by decide +kernel
theorem d_Law_isCore_21 : decode b_Law_isCore 21 = .ok (.ireturn, 1) := by decide +kernel
theorem d_Law_isCore_22 : decode b_Law_isCore 22 = .ok (.iconst 0, 1) := by decide +kernel
theorem d_Law_isCore_23 : decode b_Law_isCore 23 = .ok (.ireturn, 1) := by decide +kernel
theorem d_Law_coreSize_0 : decode b_Law_coreSize 0 = .ok (.aload_n 2, 1) := by decide +kernel
theorem d_Law_coreSize_1 : decode b_Law_coreSize 1 = .ok (.iconst 0, 1) := by decide +kernel
theorem d_Law_coreSize_2 : decode b_Law_coreSize 2 = .ok (.aload_n 0, 1) := by decide +kernel
theorem d_Law_coreSize_3 : decode b_Law_coreSize 3 = .ok (.iload_n 1, 1) := by decide +kernel
theorem d_Law_coreSize_4 : decode b_Law_coreSize 4 = .ok (.invokevirtual 106, 3) := by decide +kernel
theorem d_Law_coreSize_7 : decode b_Law_coreSize 7 = .ok (.i2l, 1) := by decide +kernel
theorem d_Law_coreSize_8 : decode b_Law_coreSize 8 = .ok (.lastore, 1) := by decide +kernel
theorem d_Law_coreSize_9 : decode b_Law_coreSize 9 = .ok (.goto 6, 3) := by decide +kernel
theorem d_Law_coreSize_12 : decode b_Law_coreSize 12 = .ok (.astore_n 3, 1) := by decide +kernel
theorem d_Law_coreSize_13 : decode b_Law_coreSize 13 = .ok (.iconst 1, 1) := by decide +kernel
theorem d_Law_coreSize_14 : decode b_Law_coreSize 14 = .ok (.ireturn, 1) := by decide +kernel
theorem d_Law_coreSize_15 : decode b_Law_coreSize 15 = .ok (.iconst 0, 1) := by decide +kernel
theorem d_Law_coreSize_16 : decode b_Law_coreSize 16 = .ok (.ireturn, 1) := by decide +kernel
theorem d_Law_append_0 : decode b_Law_append 0 = .ok (.aload_n 2, 1) := by decide +kernel
theorem d_Law_append_1 : decode b_Law_append 1 = .ok (.iconst 0, 1) := by decide +kernel
theorem d_Law_append_2 : decode b_Law_append 2 = .ok (.aload_n 0, 1) := by decide +kernel
theorem d_Law_append_3 : decode b_Law_append 3 = .ok (.iload_n 1, 1) := by decide +kernel
theorem d_Law_append_4 : decode b_Law_append 4 = .ok (.invokevirtual 109, 3) := by decide +kernel
theorem d_Law_append_7 : decode b_Law_append 7 = .ok (.i2l, 1) := by decide +kernel
theorem d_Law_append_8 : decode b_Law_append 8 = .ok (.lastore, 1) := by decide +kernel
theorem d_Law_append_9 : decode b_Law_append 9 = .ok (.goto 9, 3) := by decide +kernel
theorem d_Law_append_12 : decode b_Law_append 12 = .ok (.astore_n 3, 1) := by decide +kernel
theorem d_Law_append_13 : decode b_Law_append 13 = .ok (.iconst 1, 1) := by decide +kernel
theorem d_Law_append_14 : decode b_Law_append 14 = .ok (.ireturn, 1) := by decide +kernel
theorem d_Law_append_15 : decode b_Law_append 15 = .ok (.astore_n 3, 1) := by decide +kernel
theorem d_Law_append_16 : decode b_Law_append 16 = .ok (.iconst 2, 1) := by decide +kernel
theorem d_Law_append_17 : decode b_Law_append 17 = .ok (.ireturn, 1) := by decide +kernel
theorem d_Law_append_18 : decode b_Law_append 18 = .ok (.iconst 0, 1) := by decide +kernel
theorem d_Law_append_19 : decode b_Law_append 19 = .ok (.ireturn, 1) := by decide +kernel
theorem d_Law_parse_0 : decode b_Law_parse 0 = .ok (.aload_n 2, 1) := by decide +kernel
theorem d_Law_parse_1 : decode b_Law_parse 1 = .ok (.iconst 0, 1) := by decide +kernel
theorem d_Law_parse_2 : decode b_Law_parse 2 = .ok (.aload_n 0, 1) := by decide +kernel
theorem d_Law_parse_3 : decode b_Law_parse 3 = .ok (.iload_n 1, 1) := by decide +kernel
theorem d_Law_parse_4 : decode b_Law_parse 4 = .ok (.invokevirtual 112, 3) := by decide +kernel
theorem d_Law_parse_7 : decode b_Law_parse 7 = .ok (.i2l, 1) := by decide +kernel
theorem d_Law_parse_8 : decode b_Law_parse 8 = .ok (.lastore, 1) := by decide +kernel
theorem d_Law_parse_9 : decode b_Law_parse 9 = .ok (.goto 6, 3) := by decide +kernel
theorem d_Law_parse_12 : decode b_Law_parse 12 = .ok (.astore_n 3, 1) := by decide +kernel
theorem d_Law_parse_13 : decode b_Law_parse 13 = .ok (.iconst 1, 1) := by decide +kernel
theorem d_Law_parse_14 : decode b_Law_parse 14 = .ok (.ireturn, 1) := by decide +kernel
theorem d_Law_parse_15 : decode b_Law_parse 15 = .ok (.iconst 0, 1) := by decide +kernel
theorem d_Law_parse_16 : decode b_Law_parse 16 = .ok (.ireturn, 1) := by decide +kernel
theorem d_Law_written_0 : decode b_Law_written 0 = .ok (.aload_n 3, 1) := by decide +kernel
theorem d_Law_written_1 : decode b_Law_written 1 = .ok (.iconst 0, 1) := by decide +kernel
theorem d_Law_written_2 : decode b_Law_written 2 = .ok (.aload_n 0, 1) := by decide +kernel
theorem d_Law_written_3 : decode b_Law_written 3 = .ok (.iload_n 1, 1) := by decide +kernel
theorem d_Law_written_4 : decode b_Law_written 4 = .ok (.iload_n 2, 1) := by decide +kernel
theorem d_Law_written_5 : decode b_Law_written 5 = .ok (.invokevirtual 115, 3) := by decide +kernel
theorem d_Law_written_8 : decode b_Law_written 8 = .ok (.i2l, 1) := by decide +kernel
theorem d_Law_written_9 : decode b_Law_written 9 = .ok (.lastore, 1) := by decide +kernel
theorem d_Law_written_10 : decode b_Law_written 10 = .ok (.goto 11, 3) := by decide +kernel
theorem d_Law_written_13 : decode b_Law_written 13 = .ok (.astore 4, 2) := by decide +kernel
theorem d_Law_written_15 : decode b_Law_written 15 = .ok (.iconst 1, 1) := by decide +kernel
theorem d_Law_written_16 : decode b_Law_written 16 = .ok (.ireturn, 1) := by decide +kernel
theorem d_Law_written_17 : decode b_Law_written 17 = .ok (.astore 4, 2) := by decide +kernel
theorem d_Law_written_19 : decode b_Law_written 19 = .ok (.iconst 2, 1) := by decide +kernel
theorem d_Law_written_20 : decode b_Law_written 20 = .ok (.ireturn, 1) := by decide +kernel
theorem d_Law_written_21 : decode b_Law_written 21 = .ok (.iconst 0, 1) := by decide +kernel
theorem d_Law_written_22 : decode b_Law_written 22 = .ok (.ireturn, 1) := by decide +kernel
theorem d_Law_undo_0 : decode b_Law_undo 0 = .ok (.aload_n 1, 1) := by decide +kernel
theorem d_Law_undo_1 : decode b_Law_undo 1 = .ok (.iconst 0, 1) := by decide +kernel
theorem d_Law_undo_2 : decode b_Law_undo 2 = .ok (.aload_n 0, 1) := by decide +kernel
theorem d_Law_undo_3 : decode b_Law_undo 3 = .ok (.invokevirtual 118, 3) := by decide +kernel
theorem d_Law_undo_6 : decode b_Law_undo 6 = .ok (.i2l, 1) := by decide +kernel
theorem d_Law_undo_7 : decode b_Law_undo 7 = .ok (.lastore, 1) := by decide +kernel
theorem d_Law_undo_8 : decode b_Law_undo 8 = .ok (.goto 6, 3) := by decide +kernel
theorem d_Law_undo_11 : decode b_Law_undo 11 = .ok (.astore_n 2, 1) := by decide +kernel
theorem d_Law_undo_12 : decode b_Law_undo 12 = .ok (.iconst 1, 1) := by decide +kernel
theorem d_Law_undo_13 : decode b_Law_undo 13 = .ok (.ireturn, 1) := by decide +kernel
theorem d_Law_undo_14 : decode b_Law_undo 14 = .ok (.iconst 0, 1) := by decide +kernel
theorem d_Law_undo_15 : decode b_Law_undo 15 = .ok (.ireturn, 1) := by decide +kernel
def f_Law_setSize (v1 : Int32) (v2 : Int32) (μ : HMem) : Option (Int32 × HMem) :=
  h_bdt (f_Bench_setSize v1 v2 μ) (fun e => List.lookup e [(1, 1), (2, 2)]) (fun r5 μ_5 =>
  h_chk 0 (h_len 143) (h_let (h_wl μ_5 143 (Int32.toNatClampNeg (0)) (Int32.toInt64 r5)) (fun μ_9 =>
  some (0, μ_9))))
def f_Law_setVertex (v1 : Int32) (v2 : Int32) (v3 : Int32) (μ : HMem) : Option (Int32 × HMem) :=
  h_bdt (f_Bench_setVertex v1 v2 v3 μ) (fun e => List.lookup e [(1, 1), (2, 2)]) (fun r7 μ_7 =>
  h_chk 0 (h_len 143) (h_let (h_wl μ_7 143 (Int32.toNatClampNeg (0)) (Int32.toInt64 r7)) (fun μ_11 =>
  some (0, μ_11))))
def f_Law_setEdge (v1 : Int32) (v2 : Int32) (v3 : Int32) (v4 : Int32) (μ : HMem) : Option (Int32 × HMem) :=
  h_bdt (f_Bench_setEdge v1 v2 v3 v4 μ) (fun e => List.lookup e [(1, 1), (2, 2)]) (fun r9 μ_9 =>
  h_chk 0 (h_len 143) (h_let (h_wl μ_9 143 (Int32.toNatClampNeg (0)) (Int32.toInt64 r9)) (fun μ_13 =>
  some (0, μ_13))))
def f_Law_make (v1 : Int32) (v2 : Int32) (v3 : Int32) (μ : HMem) : Option (Int32 × HMem) :=
  h_bdt (f_Bench_make v1 v2 v3 μ) (fun e => List.lookup e [(1, 1), (2, 2)]) (fun r7 μ_7 =>
  h_chk 0 (h_len 143) (h_let (h_wl μ_7 143 (Int32.toNatClampNeg (0)) (Int32.toInt64 r7)) (fun μ_11 =>
  some (0, μ_11))))
def f_Law_random (v1 : Int32) (v2 : Int32) (v3 : Int32) (v4 : Int32) (μ : HMem) : Option (Int32 × HMem) :=
  h_bdt (f_Bench_random v1 v2 v3 v4 μ) (fun e => List.lookup e [(1, 1), (2, 2)]) (fun r9 μ_9 =>
  h_chk 0 (h_len 143) (h_let (h_wl μ_9 143 (Int32.toNatClampNeg (0)) (Int32.toInt64 r9)) (fun μ_13 =>
  some (0, μ_13))))
def f_Law_combine (v1 : Int32) (v2 : Int32) (v3 : Int32) (v4 : Int32) (μ : HMem) : Option (Int32 × HMem) :=
  h_bdt (f_Bench_combine v1 v2 v3 v4 μ) (fun e => List.lookup e [(1, 1), (2, 2), (3, 3)]) (fun r9 μ_9 =>
  h_chk 0 (h_len 143) (h_let (h_wl μ_9 143 (Int32.toNatClampNeg (0)) (Int32.toInt64 r9)) (fun μ_13 =>
  some (0, μ_13))))
def f_Law_derive (v1 : Int32) (v2 : Int32) (v3 : Int32) (v4 : Int32) (μ : HMem) : Option (Int32 × HMem) :=
  h_bdt (f_Bench_derive v1 v2 v3 v4 μ) (fun e => List.lookup e [(1, 1), (2, 2)]) (fun r9 μ_9 =>
  h_chk 0 (h_len 143) (h_let (h_wl μ_9 143 (Int32.toNatClampNeg (0)) (Int32.toInt64 r9)) (fun μ_13 =>
  some (0, μ_13))))
def f_Law_graph (v1 : Int32) (v2 : Int32) (μ : HMem) : Option (Int32 × HMem) :=
  h_bdt (f_Bench_graph v1 v2 μ) (fun e => List.lookup e [(1, 1), (2, 2)]) (fun r5 μ_5 =>
  h_chk 0 (h_len 143) (h_let (h_wl μ_5 143 (Int32.toNatClampNeg (0)) (Int32.toInt64 r5)) (fun μ_9 =>
  some (0, μ_9))))
def f_Law_vertex (v1 : Int32) (v2 : Int32) (v3 : Int32) (μ : HMem) : Option (Int32 × HMem) :=
  h_bdt (f_Bench_vertex v1 v2 v3 μ) (fun e => List.lookup e [(1, 1), (2, 2)]) (fun r7 μ_7 =>
  h_chk 0 (h_len 143) (h_let (h_wl μ_7 143 (Int32.toNatClampNeg (0)) (Int32.toInt64 r7)) (fun μ_11 =>
  some (0, μ_11))))
def f_Law_edge (v1 : Int32) (v2 : Int32) (v3 : Int32) (μ : HMem) : Option (Int32 × HMem) :=
  h_bdt (f_Bench_edge v1 v2 v3 μ) (fun e => List.lookup e [(1, 1)]) (fun r7 μ_7 =>
  h_chk 0 (h_len 143) (h_let (h_wl μ_7 143 (Int32.toNatClampNeg (0)) (Int32.toInt64 r7)) (fun μ_11 =>
  some (0, μ_11))))
def f_Law_greedy (v1 : Int32) (v2 : Int32) (μ : HMem) : Option (Int32 × HMem) :=
  h_bdt (f_Bench_greedy v1 v2 μ) (fun e => List.lookup e [(1, 1)]) (fun r5 μ_5 =>
  h_chk 0 (h_len 143) (h_let (h_wl μ_5 143 (Int32.toNatClampNeg (0)) (Int32.toInt64 r5)) (fun μ_9 =>
  some (0, μ_9))))
def f_Law_width (v1 : Int32) (v2 : Int32) (v3 : Int32) (μ : HMem) : Option (Int32 × HMem) :=
  h_bdt (f_Bench_width v1 v2 v3 μ) (fun e => List.lookup e [(1, 1), (2, 2)]) (fun r7 μ_7 =>
  h_chk 0 (h_len 143) (h_let (h_wl μ_7 143 (Int32.toNatClampNeg (0)) (Int32.toInt64 r7)) (fun μ_11 =>
  some (0, μ_11))))
def f_Law_treewidth (v1 : Int32) (μ : HMem) : Option (Int32 × HMem) :=
  h_bdt (f_Bench_treewidth v1 μ) (fun e => List.lookup e [(1, 1)]) (fun r4 μ_4 =>
  h_chk 0 (h_len 143) (h_let (h_wl μ_4 143 (Int32.toNatClampNeg (0)) (Int32.toInt64 r4)) (fun μ_8 =>
  some (0, μ_8))))
def f_Law_bag (v1 : Int32) (v2 : Int32) (μ : HMem) : Option (Int32 × HMem) :=
  h_bdt (f_Bench_bag v1 v2 μ) (fun e => List.lookup e [(1, 1)]) (fun r5 μ_5 =>
  h_chk 0 (h_len 143) (h_let (h_wl μ_5 143 (Int32.toNatClampNeg (0)) (Int32.toInt64 r5)) (fun μ_9 =>
  some (0, μ_9))))
def f_Law_count (v1 : Int32) (v2 : Int32) (v3 : Int32) (μ : HMem) : Option (Int32 × HMem) :=
  h_bdt (f_Bench_count v1 v2 v3 μ) (fun e => List.lookup e [(1, 1), (2, 2), (3, 3)]) (fun r7 μ_7 =>
  h_chk 0 (h_len 143) (h_let (h_wl μ_7 143 (Int32.toNatClampNeg (0)) r7) (fun μ_10 =>
  some (0, μ_10))))
def f_Law_density (v1 : Int32) (v2 : Int32) (v3 : Int32) (μ : HMem) : Option (Int32 × HMem) :=
  h_bdt (f_Bench_density v1 v2 v3 μ) (fun e => List.lookup e [(1, 1), (2, 2), (3, 3)]) (fun r7 μ_7 =>
  h_chk 0 (h_len 143) (h_let (h_wl μ_7 143 (Int32.toNatClampNeg (0)) r7) (fun μ_10 =>
  some (0, μ_10))))
def f_Law_automorphisms (v1 : Int32) (μ : HMem) : Option (Int32 × HMem) :=
  h_bdt (f_Bench_automorphisms v1 μ) (fun e => List.lookup e [(1, 1)]) (fun r4 μ_4 =>
  h_chk 0 (h_len 143) (h_let (h_wl μ_4 143 (Int32.toNatClampNeg (0)) (Int32.toInt64 r4)) (fun μ_8 =>
  some (0, μ_8))))
def f_Law_isomorphic_J16   (s0 : Int64) (s1 : Int32) (μ : HMem) : Option (Int32 × HMem) :=
h_chk s1 (h_len 143) (h_let (h_wl μ 143 (Int32.toNatClampNeg (s1)) s0) (fun μ_16 =>
some (0, μ_16)))
def f_Law_isomorphic (v1 : Int32) (v2 : Int32) (μ : HMem) : Option (Int32 × HMem) :=
  h_bdt (f_Bench_isomorphic v1 v2 μ) (fun e => List.lookup e [(1, 1)]) (fun r5 μ_5 =>
  if r5 = 0 then
    f_Law_isomorphic_J16 0 0 μ_5
  else
    f_Law_isomorphic_J16 1 0 μ_5)
def f_Law_image (v1 : Int32) (v2 : Int32) (v3 : Int32) (μ : HMem) : Option (Int32 × HMem) :=
  h_bdt (f_Bench_image v1 v2 v3 μ) (fun e => List.lookup e [(1, 1)]) (fun r7 μ_7 =>
  h_chk 0 (h_len 143) (h_let (h_wl μ_7 143 (Int32.toNatClampNeg (0)) (Int32.toInt64 r7)) (fun μ_11 =>
  some (0, μ_11))))
def f_Law_compare (v1 : Int32) (v2 : Int32) (μ : HMem) : Option (Int32 × HMem) :=
  h_bdt (f_Bench_compare v1 v2 μ) (fun e => List.lookup e [(1, 1)]) (fun r5 μ_5 =>
  h_chk 0 (h_len 143) (h_let (h_wl μ_5 143 (Int32.toNatClampNeg (0)) (Int32.toInt64 r5)) (fun μ_9 =>
  some (0, μ_9))))
def f_Law_colorings (v1 : Int32) (v2 : Int32) (μ : HMem) : Option (Int32 × HMem) :=
  h_bdt (f_Bench_colorings v1 v2 μ) (fun e => List.lookup e [(1, 1), (2, 2)]) (fun r5 μ_5 =>
  h_chk 0 (h_len 143) (h_let (h_wl μ_5 143 (Int32.toNatClampNeg (0)) r5) (fun μ_8 =>
  some (0, μ_8))))
def f_Law_chromatic (v1 : Int32) (μ : HMem) : Option (Int32 × HMem) :=
  h_bdt (f_Bench_chromatic v1 μ) (fun e => List.lookup e [(1, 1)]) (fun r4 μ_4 =>
  h_chk 0 (h_len 143) (h_let (h_wl μ_4 143 (Int32.toNatClampNeg (0)) (Int32.toInt64 r4)) (fun μ_8 =>
  some (0, μ_8))))
def f_Law_independent (v1 : Int32) (v2 : Int32) (μ : HMem) : Option (Int32 × HMem) :=
  h_bdt (f_Bench_independent v1 v2 μ) (fun e => List.lookup e [(1, 1), (2, 2)]) (fun r5 μ_5 =>
  h_chk 0 (h_len 143) (h_let (h_wl μ_5 143 (Int32.toNatClampNeg (0)) (Int32.toInt64 r5)) (fun μ_9 =>
  some (0, μ_9))))
def f_Law_walks (v1 : Int32) (v2 : Int32) (v3 : Int32) (μ : HMem) : Option (Int32 × HMem) :=
  h_bdt (f_Bench_walks v1 v2 v3 μ) (fun e => List.lookup e [(1, 1), (2, 2)]) (fun r7 μ_7 =>
  h_chk 0 (h_len 143) (h_let (h_wl μ_7 143 (Int32.toNatClampNeg (0)) r7) (fun μ_10 =>
  some (0, μ_10))))
def f_Law_folds (v1 : Int32) (v2 : Int32) (μ : HMem) : Option (Int32 × HMem) :=
  h_bdt (f_Bench_folds v1 v2 μ) (fun e => List.lookup e [(1, 1)]) (fun r5 μ_5 =>
  h_chk 0 (h_len 143) (h_let (h_wl μ_5 143 (Int32.toNatClampNeg (0)) (Int32.toInt64 r5)) (fun μ_9 =>
  some (0, μ_9))))
def f_Law_dismantle (v1 : Int32) (μ : HMem) : Option (Int32 × HMem) :=
  h_bdt (f_Bench_dismantle v1 μ) (fun e => List.lookup e [(1, 1)]) (fun r4 μ_4 =>
  h_chk 0 (h_len 143) (h_let (h_wl μ_4 143 (Int32.toNatClampNeg (0)) (Int32.toInt64 r4)) (fun μ_8 =>
  some (0, μ_8))))
def f_Law_isCore_J15   (s0 : Int64) (s1 : Int32) (μ : HMem) : Option (Int32 × HMem) :=
h_chk s1 (h_len 143) (h_let (h_wl μ 143 (Int32.toNatClampNeg (s1)) s0) (fun μ_15 =>
some (0, μ_15)))
def f_Law_isCore (v1 : Int32) (μ : HMem) : Option (Int32 × HMem) :=
  h_bdt (f_Bench_isCore v1 μ) (fun e => List.lookup e [(1, 1)]) (fun r4 μ_4 =>
  if r4 = 0 then
    f_Law_isCore_J15 0 0 μ_4
  else
    f_Law_isCore_J15 1 0 μ_4)
def f_Law_coreSize (v1 : Int32) (μ : HMem) : Option (Int32 × HMem) :=
  h_bdt (f_Bench_coreSize v1 μ) (fun e => List.lookup e [(1, 1)]) (fun r4 μ_4 =>
  h_chk 0 (h_len 143) (h_let (h_wl μ_4 143 (Int32.toNatClampNeg (0)) (Int32.toInt64 r4)) (fun μ_8 =>
  some (0, μ_8))))
def f_Law_append (v1 : Int32) (μ : HMem) : Option (Int32 × HMem) :=
  h_bdt (f_Bench_append v1 μ) (fun e => List.lookup e [(2, 1), (3, 2)]) (fun r4 μ_4 =>
  h_chk 0 (h_len 143) (h_let (h_wl μ_4 143 (Int32.toNatClampNeg (0)) (Int32.toInt64 r4)) (fun μ_8 =>
  some (0, μ_8))))
def f_Law_parse (v1 : Int32) (μ : HMem) : Option (Int32 × HMem) :=
  h_bdt (f_Bench_parse v1 μ) (fun e => List.lookup e [(1, 1)]) (fun r4 μ_4 =>
  h_chk 0 (h_len 143) (h_let (h_wl μ_4 143 (Int32.toNatClampNeg (0)) (Int32.toInt64 r4)) (fun μ_8 =>
  some (0, μ_8))))
def f_Law_written (v1 : Int32) (v2 : Int32) (μ : HMem) : Option (Int32 × HMem) :=
  h_bdt (f_Bench_written v1 v2 μ) (fun e => List.lookup e [(1, 1), (2, 2)]) (fun r5 μ_5 =>
  h_chk 0 (h_len 143) (h_let (h_wl μ_5 143 (Int32.toNatClampNeg (0)) (Int32.toInt64 r5)) (fun μ_9 =>
  some (0, μ_9))))
def f_Law_undo  (μ : HMem) : Option (Int32 × HMem) :=
  h_bdt (f_Bench_undo  μ) (fun e => List.lookup e [(3, 1)]) (fun r3 μ_3 =>
  h_chk 0 (h_len 143) (h_let (h_wl μ_3 143 (Int32.toNatClampNeg (0)) (Int32.toInt64 r3)) (fun μ_7 =>
  some (0, μ_7))))
theorem t_Law_setSize_0 {cx : HCx} (hg : HGood cx R_Law b_Law_setSize 5 8 (some .int)) (hA : h_own cx) (hT : HTry cx hh_Law_setSize 2) (v1 : Int32) (v2 : Int32) (μ : HMem) : HX cx (HQw cx 2 h_eI) (f_Law_setSize v1 v2 μ) 0 0 0 [(0, .ref 84), (1, .int v1), (2, .int v2), (3, .ref 143)] [] μ := by
  unfold f_Law_setSize
  refine r_aload_n hg 3 d_Law_setSize_0 rfl rfl ?_
  refine r_iconst (v := 0) hg d_Law_setSize_1 (by decide) ?_
  refine r_aload_n hg 0 d_Law_setSize_2 rfl rfl ?_
  refine r_iload_n hg 1 d_Law_setSize_3 rfl rfl ?_
  refine r_iload_n hg 2 d_Law_setSize_4 rfl rfl ?_
  refine r_tcallV (As := [.int v1, .int v2]) (L := [(1, 1), (2, 2)]) hg hA hT (t_Bench_setSize v1 v2 μ) v_Bench_setSize c_Bench rfl (by decide) rfl wm_Law_7 d_Law_setSize_5 rfl ⟨by decide, by decide⟩ ⟨by decide, by decide⟩ (Nat.le_of_ble_eq_true rfl) rfl (List.forall_mem_cons.mpr ⟨⟨tableOf (hh_Law_setSize.take 0), _, tableOf (hh_Law_setSize.drop 1), rfl, List.forall_mem_nil _, by decide, by decide, wk_Law_13, by decide, Or.inr ⟨_, _, d_Law_setSize_13, Nat.le_of_ble_eq_true rfl, d_Law_setSize_15, rfl, d_Law_setSize_16⟩⟩, List.forall_mem_cons.mpr ⟨⟨tableOf (hh_Law_setSize.take 1), _, tableOf (hh_Law_setSize.drop 2), rfl, List.forall_mem_cons.mpr ⟨⟨by decide, _, wk_Law_13, by decide⟩, List.forall_mem_nil _⟩, by decide, by decide, wk_Law_15, by decide, Or.inr ⟨_, _, d_Law_setSize_17, Nat.le_of_ble_eq_true rfl, d_Law_setSize_19, rfl, d_Law_setSize_20⟩⟩, List.forall_mem_nil _⟩⟩) (fun r5 μ_5 e_5 => ?_)
  refine r_i2l hg d_Law_setSize_8 ?_
  refine r_last hg (by decide) rfl d_Law_setSize_9 ?_
  refine r_letM (fun μ_9 => ?_)
  refine r_goto (tgt := 21) hg d_Law_setSize_10 (by decide) ?_
  refine r_iconst (v := 0) hg d_Law_setSize_21 (by decide) ?_
  exact r_wiret hg hA ⟨by decide, by decide⟩ rfl d_Law_setSize_22 rfl
theorem t_Law_setSize (v1 : Int32) (v2 : Int32) (μ : HMem) : HSpecW y_Law_setSize b_Law_setSize 5 (some .int) hh_Law_setSize 8 2 h_eI [.ref 84, .int v1, .int v2, .ref 143] μ (f_Law_setSize v1 v2 μ) :=
  HSpecW.of (by decide +kernel) (Nat.le_of_ble_eq_true rfl) (fun cx hA hg hT => t_Law_setSize_0 hg hA hT v1 v2 μ)
theorem t_Law_setVertex_0 {cx : HCx} (hg : HGood cx R_Law b_Law_setVertex 6 8 (some .int)) (hA : h_own cx) (hT : HTry cx hh_Law_setVertex 3) (v1 : Int32) (v2 : Int32) (v3 : Int32) (μ : HMem) : HX cx (HQw cx 3 h_eI) (f_Law_setVertex v1 v2 v3 μ) 0 0 0 [(0, .ref 84), (1, .int v1), (2, .int v2), (3, .int v3), (4, .ref 143)] [] μ := by
  unfold f_Law_setVertex
  refine r_aload hg 4 d_Law_setVertex_0 rfl ?_
  refine r_iconst (v := 0) hg d_Law_setVertex_2 (by decide) ?_
  refine r_aload_n hg 0 d_Law_setVertex_3 rfl rfl ?_
  refine r_iload_n hg 1 d_Law_setVertex_4 rfl rfl ?_
  refine r_iload_n hg 2 d_Law_setVertex_5 rfl rfl ?_
  refine r_iload_n hg 3 d_Law_setVertex_6 rfl rfl ?_
  refine r_tcallV (As := [.int v1, .int v2, .int v3]) (L := [(1, 1), (2, 2)]) hg hA hT (t_Bench_setVertex v1 v2 v3 μ) v_Bench_setVertex c_Bench rfl (by decide) rfl wm_Law_17 d_Law_setVertex_7 rfl ⟨by decide, by decide⟩ ⟨by decide, by decide⟩ (Nat.le_of_ble_eq_true rfl) rfl (List.forall_mem_cons.mpr ⟨⟨tableOf (hh_Law_setVertex.take 0), _, tableOf (hh_Law_setVertex.drop 1), rfl, List.forall_mem_nil _, by decide, by decide, wk_Law_13, by decide, Or.inr ⟨_, _, d_Law_setVertex_15, Nat.le_of_ble_eq_true rfl, d_Law_setVertex_17, rfl, d_Law_setVertex_18⟩⟩, List.forall_mem_cons.mpr ⟨⟨tableOf (hh_Law_setVertex.take 1), _, tableOf (hh_Law_setVertex.drop 2), rfl, List.forall_mem_cons.mpr ⟨⟨by decide, _, wk_Law_13, by decide⟩, List.forall_mem_nil _⟩, by decide, by decide, wk_Law_15, by decide, Or.inr ⟨_, _, d_Law_setVertex_19, Nat.le_of_ble_eq_true rfl, d_Law_setVertex_21, rfl, d_Law_setVertex_22⟩⟩, List.forall_mem_nil _⟩⟩) (fun r7 μ_7 e_7 => ?_)
  refine r_i2l hg d_Law_setVertex_10 ?_
  refine r_last hg (by decide) rfl d_Law_setVertex_11 ?_
  refine r_letM (fun μ_11 => ?_)
  refine r_goto (tgt := 23) hg d_Law_setVertex_12 (by decide) ?_
  refine r_iconst (v := 0) hg d_Law_setVertex_23 (by decide) ?_
  exact r_wiret hg hA ⟨by decide, by decide⟩ rfl d_Law_setVertex_24 rfl
theorem t_Law_setVertex (v1 : Int32) (v2 : Int32) (v3 : Int32) (μ : HMem) : HSpecW y_Law_setVertex b_Law_setVertex 6 (some .int) hh_Law_setVertex 8 3 h_eI [.ref 84, .int v1, .int v2, .int v3, .ref 143] μ (f_Law_setVertex v1 v2 v3 μ) :=
  HSpecW.of (by decide +kernel) (Nat.le_of_ble_eq_true rfl) (fun cx hA hg hT => t_Law_setVertex_0 hg hA hT v1 v2 v3 μ)
theorem t_Law_setEdge_0 {cx : HCx} (hg : HGood cx R_Law b_Law_setEdge 7 8 (some .int)) (hA : h_own cx) (hT : HTry cx hh_Law_setEdge 4) (v1 : Int32) (v2 : Int32) (v3 : Int32) (v4 : Int32) (μ : HMem) : HX cx (HQw cx 4 h_eI) (f_Law_setEdge v1 v2 v3 v4 μ) 0 0 0 [(0, .ref 84), (1, .int v1), (2, .int v2), (3, .int v3), (4, .int v4), (5, .ref 143)] [] μ := by
  unfold f_Law_setEdge
  refine r_aload hg 5 d_Law_setEdge_0 rfl ?_
  refine r_iconst (v := 0) hg d_Law_setEdge_2 (by decide) ?_
  refine r_aload_n hg 0 d_Law_setEdge_3 rfl rfl ?_
  refine r_iload_n hg 1 d_Law_setEdge_4 rfl rfl ?_
  refine r_iload_n hg 2 d_Law_setEdge_5 rfl rfl ?_
  refine r_iload_n hg 3 d_Law_setEdge_6 rfl rfl ?_
  refine r_iload hg 4 d_Law_setEdge_7 rfl ?_
  refine r_tcallV (As := [.int v1, .int v2, .int v3, .int v4]) (L := [(1, 1), (2, 2)]) hg hA hT (t_Bench_setEdge v1 v2 v3 v4 μ) v_Bench_setEdge c_Bench rfl (by decide) rfl wm_Law_21 d_Law_setEdge_9 rfl ⟨by decide, by decide⟩ ⟨by decide, by decide⟩ (Nat.le_of_ble_eq_true rfl) rfl (List.forall_mem_cons.mpr ⟨⟨tableOf (hh_Law_setEdge.take 0), _, tableOf (hh_Law_setEdge.drop 1), rfl, List.forall_mem_nil _, by decide, by decide, wk_Law_13, by decide, Or.inr ⟨_, _, d_Law_setEdge_17, Nat.le_of_ble_eq_true rfl, d_Law_setEdge_19, rfl, d_Law_setEdge_20⟩⟩, List.forall_mem_cons.mpr ⟨⟨tableOf (hh_Law_setEdge.take 1), _, tableOf (hh_Law_setEdge.drop 2), rfl, List.forall_mem_cons.mpr ⟨⟨by decide, _, wk_Law_13, by decide⟩, List.forall_mem_nil _⟩, by decide, by decide, wk_Law_15, by decide, Or.inr ⟨_, _, d_Law_setEdge_21, Nat.le_of_ble_eq_true rfl, d_Law_setEdge_23, rfl, d_Law_setEdge_24⟩⟩, List.forall_mem_nil _⟩⟩) (fun r9 μ_9 e_9 => ?_)
  refine r_i2l hg d_Law_setEdge_12 ?_
  refine r_last hg (by decide) rfl d_Law_setEdge_13 ?_
  refine r_letM (fun μ_13 => ?_)
  refine r_goto (tgt := 25) hg d_Law_setEdge_14 (by decide) ?_
  refine r_iconst (v := 0) hg d_Law_setEdge_25 (by decide) ?_
  exact r_wiret hg hA ⟨by decide, by decide⟩ rfl d_Law_setEdge_26 rfl
theorem t_Law_setEdge (v1 : Int32) (v2 : Int32) (v3 : Int32) (v4 : Int32) (μ : HMem) : HSpecW y_Law_setEdge b_Law_setEdge 7 (some .int) hh_Law_setEdge 8 4 h_eI [.ref 84, .int v1, .int v2, .int v3, .int v4, .ref 143] μ (f_Law_setEdge v1 v2 v3 v4 μ) :=
  HSpecW.of (by decide +kernel) (Nat.le_of_ble_eq_true rfl) (fun cx hA hg hT => t_Law_setEdge_0 hg hA hT v1 v2 v3 v4 μ)
theorem t_Law_make_0 {cx : HCx} (hg : HGood cx R_Law b_Law_make 6 8 (some .int)) (hA : h_own cx) (hT : HTry cx hh_Law_make 3) (v1 : Int32) (v2 : Int32) (v3 : Int32) (μ : HMem) : HX cx (HQw cx 3 h_eI) (f_Law_make v1 v2 v3 μ) 0 0 0 [(0, .ref 84), (1, .int v1), (2, .int v2), (3, .int v3), (4, .ref 143)] [] μ := by
  unfold f_Law_make
  refine r_aload hg 4 d_Law_make_0 rfl ?_
  refine r_iconst (v := 0) hg d_Law_make_2 (by decide) ?_
  refine r_aload_n hg 0 d_Law_make_3 rfl rfl ?_
  refine r_iload_n hg 1 d_Law_make_4 rfl rfl ?_
  refine r_iload_n hg 2 d_Law_make_5 rfl rfl ?_
  refine r_iload_n hg 3 d_Law_make_6 rfl rfl ?_
  refine r_tcallV (As := [.int v1, .int v2, .int v3]) (L := [(1, 1), (2, 2)]) hg hA hT (t_Bench_make v1 v2 v3 μ) v_Bench_make c_Bench rfl (by decide) rfl wm_Law_25 d_Law_make_7 rfl ⟨by decide, by decide⟩ ⟨by decide, by decide⟩ (Nat.le_of_ble_eq_true rfl) rfl (List.forall_mem_cons.mpr ⟨⟨tableOf (hh_Law_make.take 0), _, tableOf (hh_Law_make.drop 1), rfl, List.forall_mem_nil _, by decide, by decide, wk_Law_13, by decide, Or.inr ⟨_, _, d_Law_make_15, Nat.le_of_ble_eq_true rfl, d_Law_make_17, rfl, d_Law_make_18⟩⟩, List.forall_mem_cons.mpr ⟨⟨tableOf (hh_Law_make.take 1), _, tableOf (hh_Law_make.drop 2), rfl, List.forall_mem_cons.mpr ⟨⟨by decide, _, wk_Law_13, by decide⟩, List.forall_mem_nil _⟩, by decide, by decide, wk_Law_15, by decide, Or.inr ⟨_, _, d_Law_make_19, Nat.le_of_ble_eq_true rfl, d_Law_make_21, rfl, d_Law_make_22⟩⟩, List.forall_mem_nil _⟩⟩) (fun r7 μ_7 e_7 => ?_)
  refine r_i2l hg d_Law_make_10 ?_
  refine r_last hg (by decide) rfl d_Law_make_11 ?_
  refine r_letM (fun μ_11 => ?_)
  refine r_goto (tgt := 23) hg d_Law_make_12 (by decide) ?_
  refine r_iconst (v := 0) hg d_Law_make_23 (by decide) ?_
  exact r_wiret hg hA ⟨by decide, by decide⟩ rfl d_Law_make_24 rfl
theorem t_Law_make (v1 : Int32) (v2 : Int32) (v3 : Int32) (μ : HMem) : HSpecW y_Law_make b_Law_make 6 (some .int) hh_Law_make 8 3 h_eI [.ref 84, .int v1, .int v2, .int v3, .ref 143] μ (f_Law_make v1 v2 v3 μ) :=
  HSpecW.of (by decide +kernel) (Nat.le_of_ble_eq_true rfl) (fun cx hA hg hT => t_Law_make_0 hg hA hT v1 v2 v3 μ)
theorem t_Law_random_0 {cx : HCx} (hg : HGood cx R_Law b_Law_random 7 8 (some .int)) (hA : h_own cx) (hT : HTry cx hh_Law_random 4) (v1 : Int32) (v2 : Int32) (v3 : Int32) (v4 : Int32) (μ : HMem) : HX cx (HQw cx 4 h_eI) (f_Law_random v1 v2 v3 v4 μ) 0 0 0 [(0, .ref 84), (1, .int v1), (2, .int v2), (3, .int v3), (4, .int v4), (5, .ref 143)] [] μ := by
  unfold f_Law_random
  refine r_aload hg 5 d_Law_random_0 rfl ?_
  refine r_iconst (v := 0) hg d_Law_random_2 (by decide) ?_
  refine r_aload_n hg 0 d_Law_random_3 rfl rfl ?_
  refine r_iload_n hg 1 d_Law_random_4 rfl rfl ?_
  refine r_iload_n hg 2 d_Law_random_5 rfl rfl ?_
  refine r_iload_n hg 3 d_Law_random_6 rfl rfl ?_
  refine r_iload hg 4 d_Law_random_7 rfl ?_
  refine r_tcallV (As := [.int v1, .int v2, .int v3, .int v4]) (L := [(1, 1), (2, 2)]) hg hA hT (t_Bench_random v1 v2 v3 v4 μ) v_Bench_random c_Bench rfl (by decide) rfl wm_Law_28 d_Law_random_9 rfl ⟨by decide, by decide⟩ ⟨by decide, by decide⟩ (Nat.le_of_ble_eq_true rfl) rfl (List.forall_mem_cons.mpr ⟨⟨tableOf (hh_Law_random.take 0), _, tableOf (hh_Law_random.drop 1), rfl, List.forall_mem_nil _, by decide, by decide, wk_Law_13, by decide, Or.inr ⟨_, _, d_Law_random_17, Nat.le_of_ble_eq_true rfl, d_Law_random_19, rfl, d_Law_random_20⟩⟩, List.forall_mem_cons.mpr ⟨⟨tableOf (hh_Law_random.take 1), _, tableOf (hh_Law_random.drop 2), rfl, List.forall_mem_cons.mpr ⟨⟨by decide, _, wk_Law_13, by decide⟩, List.forall_mem_nil _⟩, by decide, by decide, wk_Law_15, by decide, Or.inr ⟨_, _, d_Law_random_21, Nat.le_of_ble_eq_true rfl, d_Law_random_23, rfl, d_Law_random_24⟩⟩, List.forall_mem_nil _⟩⟩) (fun r9 μ_9 e_9 => ?_)
  refine r_i2l hg d_Law_random_12 ?_
  refine r_last hg (by decide) rfl d_Law_random_13 ?_
  refine r_letM (fun μ_13 => ?_)
  refine r_goto (tgt := 25) hg d_Law_random_14 (by decide) ?_
  refine r_iconst (v := 0) hg d_Law_random_25 (by decide) ?_
  exact r_wiret hg hA ⟨by decide, by decide⟩ rfl d_Law_random_26 rfl
theorem t_Law_random (v1 : Int32) (v2 : Int32) (v3 : Int32) (v4 : Int32) (μ : HMem) : HSpecW y_Law_random b_Law_random 7 (some .int) hh_Law_random 8 4 h_eI [.ref 84, .int v1, .int v2, .int v3, .int v4, .ref 143] μ (f_Law_random v1 v2 v3 v4 μ) :=
  HSpecW.of (by decide +kernel) (Nat.le_of_ble_eq_true rfl) (fun cx hA hg hT => t_Law_random_0 hg hA hT v1 v2 v3 v4 μ)
theorem t_Law_combine_0 {cx : HCx} (hg : HGood cx R_Law b_Law_combine 7 8 (some .int)) (hA : h_own cx) (hT : HTry cx hh_Law_combine 5) (v1 : Int32) (v2 : Int32) (v3 : Int32) (v4 : Int32) (μ : HMem) : HX cx (HQw cx 5 h_eI) (f_Law_combine v1 v2 v3 v4 μ) 0 0 0 [(0, .ref 84), (1, .int v1), (2, .int v2), (3, .int v3), (4, .int v4), (5, .ref 143)] [] μ := by
  unfold f_Law_combine
  refine r_aload hg 5 d_Law_combine_0 rfl ?_
  refine r_iconst (v := 0) hg d_Law_combine_2 (by decide) ?_
  refine r_aload_n hg 0 d_Law_combine_3 rfl rfl ?_
  refine r_iload_n hg 1 d_Law_combine_4 rfl rfl ?_
  refine r_iload_n hg 2 d_Law_combine_5 rfl rfl ?_
  refine r_iload_n hg 3 d_Law_combine_6 rfl rfl ?_
  refine r_iload hg 4 d_Law_combine_7 rfl ?_
  refine r_tcallV (As := [.int v1, .int v2, .int v3, .int v4]) (L := [(1, 1), (2, 2), (3, 3)]) hg hA hT (t_Bench_combine v1 v2 v3 v4 μ) v_Bench_combine c_Bench rfl (by decide) rfl wm_Law_31 d_Law_combine_9 rfl ⟨by decide, by decide⟩ ⟨by decide, by decide⟩ (Nat.le_of_ble_eq_true rfl) rfl (List.forall_mem_cons.mpr ⟨⟨tableOf (hh_Law_combine.take 0), _, tableOf (hh_Law_combine.drop 1), rfl, List.forall_mem_nil _, by decide, by decide, wk_Law_13, by decide, Or.inr ⟨_, _, d_Law_combine_17, Nat.le_of_ble_eq_true rfl, d_Law_combine_19, rfl, d_Law_combine_20⟩⟩, List.forall_mem_cons.mpr ⟨⟨tableOf (hh_Law_combine.take 1), _, tableOf (hh_Law_combine.drop 2), rfl, List.forall_mem_cons.mpr ⟨⟨by decide, _, wk_Law_13, by decide⟩, List.forall_mem_nil _⟩, by decide, by decide, wk_Law_15, by decide, Or.inr ⟨_, _, d_Law_combine_21, Nat.le_of_ble_eq_true rfl, d_Law_combine_23, rfl, d_Law_combine_24⟩⟩, List.forall_mem_cons.mpr ⟨⟨tableOf (hh_Law_combine.take 2), _, tableOf (hh_Law_combine.drop 3), rfl, List.forall_mem_cons.mpr ⟨⟨by decide, _, wk_Law_13, by decide⟩, List.forall_mem_cons.mpr ⟨⟨by decide, _, wk_Law_15, by decide⟩, List.forall_mem_nil _⟩⟩, by decide, by decide, wk_Law_34, by decide, Or.inr ⟨_, _, d_Law_combine_25, Nat.le_of_ble_eq_true rfl, d_Law_combine_27, rfl, d_Law_combine_28⟩⟩, List.forall_mem_nil _⟩⟩⟩) (fun r9 μ_9 e_9 => ?_)
  refine r_i2l hg d_Law_combine_12 ?_
  refine r_last hg (by decide) rfl d_Law_combine_13 ?_
  refine r_letM (fun μ_13 => ?_)
  refine r_goto (tgt := 29) hg d_Law_combine_14 (by decide) ?_
  refine r_iconst (v := 0) hg d_Law_combine_29 (by decide) ?_
  exact r_wiret hg hA ⟨by decide, by decide⟩ rfl d_Law_combine_30 rfl
theorem t_Law_combine (v1 : Int32) (v2 : Int32) (v3 : Int32) (v4 : Int32) (μ : HMem) : HSpecW y_Law_combine b_Law_combine 7 (some .int) hh_Law_combine 8 5 h_eI [.ref 84, .int v1, .int v2, .int v3, .int v4, .ref 143] μ (f_Law_combine v1 v2 v3 v4 μ) :=
  HSpecW.of (by decide +kernel) (Nat.le_of_ble_eq_true rfl) (fun cx hA hg hT => t_Law_combine_0 hg hA hT v1 v2 v3 v4 μ)
theorem t_Law_derive_0 {cx : HCx} (hg : HGood cx R_Law b_Law_derive 7 23 (some .int)) (hA : h_own cx) (hT : HTry cx hh_Law_derive 4) (v1 : Int32) (v2 : Int32) (v3 : Int32) (v4 : Int32) (μ : HMem) : HX cx (HQw cx 4 h_eI) (f_Law_derive v1 v2 v3 v4 μ) 0 0 0 [(0, .ref 84), (1, .int v1), (2, .int v2), (3, .int v3), (4, .int v4), (5, .ref 143)] [] μ := by
  unfold f_Law_derive
  refine r_aload hg 5 d_Law_derive_0 rfl ?_
  refine r_iconst (v := 0) hg d_Law_derive_2 (by decide) ?_
  refine r_aload_n hg 0 d_Law_derive_3 rfl rfl ?_
  refine r_iload_n hg 1 d_Law_derive_4 rfl rfl ?_
  refine r_iload_n hg 2 d_Law_derive_5 rfl rfl ?_
  refine r_iload_n hg 3 d_Law_derive_6 rfl rfl ?_
  refine r_iload hg 4 d_Law_derive_7 rfl ?_
  refine r_tcallV (As := [.int v1, .int v2, .int v3, .int v4]) (L := [(1, 1), (2, 2)]) hg hA hT (t_Bench_derive v1 v2 v3 v4 μ) v_Bench_derive c_Bench rfl (by decide) rfl wm_Law_36 d_Law_derive_9 rfl ⟨by decide, by decide⟩ ⟨by decide, by decide⟩ (Nat.le_of_ble_eq_true rfl) rfl (List.forall_mem_cons.mpr ⟨⟨tableOf (hh_Law_derive.take 0), _, tableOf (hh_Law_derive.drop 1), rfl, List.forall_mem_nil _, by decide, by decide, wk_Law_13, by decide, Or.inr ⟨_, _, d_Law_derive_17, Nat.le_of_ble_eq_true rfl, d_Law_derive_19, rfl, d_Law_derive_20⟩⟩, List.forall_mem_cons.mpr ⟨⟨tableOf (hh_Law_derive.take 1), _, tableOf (hh_Law_derive.drop 2), rfl, List.forall_mem_cons.mpr ⟨⟨by decide, _, wk_Law_13, by decide⟩, List.forall_mem_nil _⟩, by decide, by decide, wk_Law_15, by decide, Or.inr ⟨_, _, d_Law_derive_21, Nat.le_of_ble_eq_true rfl, d_Law_derive_23, rfl, d_Law_derive_24⟩⟩, List.forall_mem_nil _⟩⟩) (fun r9 μ_9 e_9 => ?_)
  refine r_i2l hg d_Law_derive_12 ?_
  refine r_last hg (by decide) rfl d_Law_derive_13 ?_
  refine r_letM (fun μ_13 => ?_)
  refine r_goto (tgt := 25) hg d_Law_derive_14 (by decide) ?_
  refine r_iconst (v := 0) hg d_Law_derive_25 (by decide) ?_
  exact r_wiret hg hA ⟨by decide, by decide⟩ rfl d_Law_derive_26 rfl
theorem t_Law_derive (v1 : Int32) (v2 : Int32) (v3 : Int32) (v4 : Int32) (μ : HMem) : HSpecW y_Law_derive b_Law_derive 7 (some .int) hh_Law_derive 23 4 h_eI [.ref 84, .int v1, .int v2, .int v3, .int v4, .ref 143] μ (f_Law_derive v1 v2 v3 v4 μ) :=
  HSpecW.of (by decide +kernel) (Nat.le_of_ble_eq_true rfl) (fun cx hA hg hT => t_Law_derive_0 hg hA hT v1 v2 v3 v4 μ)
theorem t_Law_graph_0 {cx : HCx} (hg : HGood cx R_Law b_Law_graph 5 8 (some .int)) (hA : h_own cx) (hT : HTry cx hh_Law_graph 2) (v1 : Int32) (v2 : Int32) (μ : HMem) : HX cx (HQw cx 2 h_eI) (f_Law_graph v1 v2 μ) 0 0 0 [(0, .ref 84), (1, .int v1), (2, .int v2), (3, .ref 143)] [] μ := by
  unfold f_Law_graph
  refine r_aload_n hg 3 d_Law_graph_0 rfl rfl ?_
  refine r_iconst (v := 0) hg d_Law_graph_1 (by decide) ?_
  refine r_aload_n hg 0 d_Law_graph_2 rfl rfl ?_
  refine r_iload_n hg 1 d_Law_graph_3 rfl rfl ?_
  refine r_iload_n hg 2 d_Law_graph_4 rfl rfl ?_
  refine r_tcallV (As := [.int v1, .int v2]) (L := [(1, 1), (2, 2)]) hg hA hT (t_Bench_graph v1 v2 μ) v_Bench_graph c_Bench rfl (by decide) rfl wm_Law_39 d_Law_graph_5 rfl ⟨by decide, by decide⟩ ⟨by decide, by decide⟩ (Nat.le_of_ble_eq_true rfl) rfl (List.forall_mem_cons.mpr ⟨⟨tableOf (hh_Law_graph.take 0), _, tableOf (hh_Law_graph.drop 1), rfl, List.forall_mem_nil _, by decide, by decide, wk_Law_13, by decide, Or.inr ⟨_, _, d_Law_graph_13, Nat.le_of_ble_eq_true rfl, d_Law_graph_15, rfl, d_Law_graph_16⟩⟩, List.forall_mem_cons.mpr ⟨⟨tableOf (hh_Law_graph.take 1), _, tableOf (hh_Law_graph.drop 2), rfl, List.forall_mem_cons.mpr ⟨⟨by decide, _, wk_Law_13, by decide⟩, List.forall_mem_nil _⟩, by decide, by decide, wk_Law_15, by decide, Or.inr ⟨_, _, d_Law_graph_17, Nat.le_of_ble_eq_true rfl, d_Law_graph_19, rfl, d_Law_graph_20⟩⟩, List.forall_mem_nil _⟩⟩) (fun r5 μ_5 e_5 => ?_)
  refine r_i2l hg d_Law_graph_8 ?_
  refine r_last hg (by decide) rfl d_Law_graph_9 ?_
  refine r_letM (fun μ_9 => ?_)
  refine r_goto (tgt := 21) hg d_Law_graph_10 (by decide) ?_
  refine r_iconst (v := 0) hg d_Law_graph_21 (by decide) ?_
  exact r_wiret hg hA ⟨by decide, by decide⟩ rfl d_Law_graph_22 rfl
theorem t_Law_graph (v1 : Int32) (v2 : Int32) (μ : HMem) : HSpecW y_Law_graph b_Law_graph 5 (some .int) hh_Law_graph 8 2 h_eI [.ref 84, .int v1, .int v2, .ref 143] μ (f_Law_graph v1 v2 μ) :=
  HSpecW.of (by decide +kernel) (Nat.le_of_ble_eq_true rfl) (fun cx hA hg hT => t_Law_graph_0 hg hA hT v1 v2 μ)
theorem t_Law_vertex_0 {cx : HCx} (hg : HGood cx R_Law b_Law_vertex 6 8 (some .int)) (hA : h_own cx) (hT : HTry cx hh_Law_vertex 3) (v1 : Int32) (v2 : Int32) (v3 : Int32) (μ : HMem) : HX cx (HQw cx 3 h_eI) (f_Law_vertex v1 v2 v3 μ) 0 0 0 [(0, .ref 84), (1, .int v1), (2, .int v2), (3, .int v3), (4, .ref 143)] [] μ := by
  unfold f_Law_vertex
  refine r_aload hg 4 d_Law_vertex_0 rfl ?_
  refine r_iconst (v := 0) hg d_Law_vertex_2 (by decide) ?_
  refine r_aload_n hg 0 d_Law_vertex_3 rfl rfl ?_
  refine r_iload_n hg 1 d_Law_vertex_4 rfl rfl ?_
  refine r_iload_n hg 2 d_Law_vertex_5 rfl rfl ?_
  refine r_iload_n hg 3 d_Law_vertex_6 rfl rfl ?_
  refine r_tcallV (As := [.int v1, .int v2, .int v3]) (L := [(1, 1), (2, 2)]) hg hA hT (t_Bench_vertex v1 v2 v3 μ) v_Bench_vertex c_Bench rfl (by decide) rfl wm_Law_42 d_Law_vertex_7 rfl ⟨by decide, by decide⟩ ⟨by decide, by decide⟩ (Nat.le_of_ble_eq_true rfl) rfl (List.forall_mem_cons.mpr ⟨⟨tableOf (hh_Law_vertex.take 0), _, tableOf (hh_Law_vertex.drop 1), rfl, List.forall_mem_nil _, by decide, by decide, wk_Law_13, by decide, Or.inr ⟨_, _, d_Law_vertex_15, Nat.le_of_ble_eq_true rfl, d_Law_vertex_17, rfl, d_Law_vertex_18⟩⟩, List.forall_mem_cons.mpr ⟨⟨tableOf (hh_Law_vertex.take 1), _, tableOf (hh_Law_vertex.drop 2), rfl, List.forall_mem_cons.mpr ⟨⟨by decide, _, wk_Law_13, by decide⟩, List.forall_mem_nil _⟩, by decide, by decide, wk_Law_15, by decide, Or.inr ⟨_, _, d_Law_vertex_19, Nat.le_of_ble_eq_true rfl, d_Law_vertex_21, rfl, d_Law_vertex_22⟩⟩, List.forall_mem_nil _⟩⟩) (fun r7 μ_7 e_7 => ?_)
  refine r_i2l hg d_Law_vertex_10 ?_
  refine r_last hg (by decide) rfl d_Law_vertex_11 ?_
  refine r_letM (fun μ_11 => ?_)
  refine r_goto (tgt := 23) hg d_Law_vertex_12 (by decide) ?_
  refine r_iconst (v := 0) hg d_Law_vertex_23 (by decide) ?_
  exact r_wiret hg hA ⟨by decide, by decide⟩ rfl d_Law_vertex_24 rfl
theorem t_Law_vertex (v1 : Int32) (v2 : Int32) (v3 : Int32) (μ : HMem) : HSpecW y_Law_vertex b_Law_vertex 6 (some .int) hh_Law_vertex 8 3 h_eI [.ref 84, .int v1, .int v2, .int v3, .ref 143] μ (f_Law_vertex v1 v2 v3 μ) :=
  HSpecW.of (by decide +kernel) (Nat.le_of_ble_eq_true rfl) (fun cx hA hg hT => t_Law_vertex_0 hg hA hT v1 v2 v3 μ)
theorem t_Law_edge_0 {cx : HCx} (hg : HGood cx R_Law b_Law_edge 6 8 (some .int)) (hA : h_own cx) (hT : HTry cx hh_Law_edge 3) (v1 : Int32) (v2 : Int32) (v3 : Int32) (μ : HMem) : HX cx (HQw cx 3 h_eI) (f_Law_edge v1 v2 v3 μ) 0 0 0 [(0, .ref 84), (1, .int v1), (2, .int v2), (3, .int v3), (4, .ref 143)] [] μ := by
  unfold f_Law_edge
  refine r_aload hg 4 d_Law_edge_0 rfl ?_
  refine r_iconst (v := 0) hg d_Law_edge_2 (by decide) ?_
  refine r_aload_n hg 0 d_Law_edge_3 rfl rfl ?_
  refine r_iload_n hg 1 d_Law_edge_4 rfl rfl ?_
  refine r_iload_n hg 2 d_Law_edge_5 rfl rfl ?_
  refine r_iload_n hg 3 d_Law_edge_6 rfl rfl ?_
  refine r_tcallV (As := [.int v1, .int v2, .int v3]) (L := [(1, 1)]) hg hA hT (t_Bench_edge v1 v2 v3 μ) v_Bench_edge c_Bench rfl (by decide) rfl wm_Law_45 d_Law_edge_7 rfl ⟨by decide, by decide⟩ ⟨by decide, by decide⟩ (Nat.le_of_ble_eq_true rfl) rfl (List.forall_mem_cons.mpr ⟨⟨tableOf (hh_Law_edge.take 0), _, tableOf (hh_Law_edge.drop 1), rfl, List.forall_mem_nil _, by decide, by decide, wk_Law_13, by decide, Or.inr ⟨_, _, d_Law_edge_15, Nat.le_of_ble_eq_true rfl, d_Law_edge_17, rfl, d_Law_edge_18⟩⟩, List.forall_mem_nil _⟩) (fun r7 μ_7 e_7 => ?_)
  refine r_i2l hg d_Law_edge_10 ?_
  refine r_last hg (by decide) rfl d_Law_edge_11 ?_
  refine r_letM (fun μ_11 => ?_)
  refine r_goto (tgt := 19) hg d_Law_edge_12 (by decide) ?_
  refine r_iconst (v := 0) hg d_Law_edge_19 (by decide) ?_
  exact r_wiret hg hA ⟨by decide, by decide⟩ rfl d_Law_edge_20 rfl
theorem t_Law_edge (v1 : Int32) (v2 : Int32) (v3 : Int32) (μ : HMem) : HSpecW y_Law_edge b_Law_edge 6 (some .int) hh_Law_edge 8 3 h_eI [.ref 84, .int v1, .int v2, .int v3, .ref 143] μ (f_Law_edge v1 v2 v3 μ) :=
  HSpecW.of (by decide +kernel) (Nat.le_of_ble_eq_true rfl) (fun cx hA hg hT => t_Law_edge_0 hg hA hT v1 v2 v3 μ)
theorem t_Law_greedy_0 {cx : HCx} (hg : HGood cx R_Law b_Law_greedy 5 8 (some .int)) (hA : h_own cx) (hT : HTry cx hh_Law_greedy 2) (v1 : Int32) (v2 : Int32) (μ : HMem) : HX cx (HQw cx 2 h_eI) (f_Law_greedy v1 v2 μ) 0 0 0 [(0, .ref 84), (1, .int v1), (2, .int v2), (3, .ref 143)] [] μ := by
  unfold f_Law_greedy
  refine r_aload_n hg 3 d_Law_greedy_0 rfl rfl ?_
  refine r_iconst (v := 0) hg d_Law_greedy_1 (by decide) ?_
  refine r_aload_n hg 0 d_Law_greedy_2 rfl rfl ?_
  refine r_iload_n hg 1 d_Law_greedy_3 rfl rfl ?_
  refine r_iload_n hg 2 d_Law_greedy_4 rfl rfl ?_
  refine r_tcallV (As := [.int v1, .int v2]) (L := [(1, 1)]) hg hA hT (t_Bench_greedy v1 v2 μ) v_Bench_greedy c_Bench rfl (by decide) rfl wm_Law_48 d_Law_greedy_5 rfl ⟨by decide, by decide⟩ ⟨by decide, by decide⟩ (Nat.le_of_ble_eq_true rfl) rfl (List.forall_mem_cons.mpr ⟨⟨tableOf (hh_Law_greedy.take 0), _, tableOf (hh_Law_greedy.drop 1), rfl, List.forall_mem_nil _, by decide, by decide, wk_Law_13, by decide, Or.inr ⟨_, _, d_Law_greedy_13, Nat.le_of_ble_eq_true rfl, d_Law_greedy_15, rfl, d_Law_greedy_16⟩⟩, List.forall_mem_nil _⟩) (fun r5 μ_5 e_5 => ?_)
  refine r_i2l hg d_Law_greedy_8 ?_
  refine r_last hg (by decide) rfl d_Law_greedy_9 ?_
  refine r_letM (fun μ_9 => ?_)
  refine r_goto (tgt := 17) hg d_Law_greedy_10 (by decide) ?_
  refine r_iconst (v := 0) hg d_Law_greedy_17 (by decide) ?_
  exact r_wiret hg hA ⟨by decide, by decide⟩ rfl d_Law_greedy_18 rfl
theorem t_Law_greedy (v1 : Int32) (v2 : Int32) (μ : HMem) : HSpecW y_Law_greedy b_Law_greedy 5 (some .int) hh_Law_greedy 8 2 h_eI [.ref 84, .int v1, .int v2, .ref 143] μ (f_Law_greedy v1 v2 μ) :=
  HSpecW.of (by decide +kernel) (Nat.le_of_ble_eq_true rfl) (fun cx hA hg hT => t_Law_greedy_0 hg hA hT v1 v2 μ)
theorem t_Law_width_0 {cx : HCx} (hg : HGood cx R_Law b_Law_width 6 8 (some .int)) (hA : h_own cx) (hT : HTry cx hh_Law_width 2) (v1 : Int32) (v2 : Int32) (v3 : Int32) (μ : HMem) : HX cx (HQw cx 2 h_eI) (f_Law_width v1 v2 v3 μ) 0 0 0 [(0, .ref 84), (1, .int v1), (2, .int v2), (3, .int v3), (4, .ref 143)] [] μ := by
  unfold f_Law_width
  refine r_aload hg 4 d_Law_width_0 rfl ?_
  refine r_iconst (v := 0) hg d_Law_width_2 (by decide) ?_
  refine r_aload_n hg 0 d_Law_width_3 rfl rfl ?_
  refine r_iload_n hg 1 d_Law_width_4 rfl rfl ?_
  refine r_iload_n hg 2 d_Law_width_5 rfl rfl ?_
  refine r_iload_n hg 3 d_Law_width_6 rfl rfl ?_
  refine r_tcallV (As := [.int v1, .int v2, .int v3]) (L := [(1, 1), (2, 2)]) hg hA hT (t_Bench_width v1 v2 v3 μ) v_Bench_width c_Bench rfl (by decide) rfl wm_Law_51 d_Law_width_7 rfl ⟨by decide, by decide⟩ ⟨by decide, by decide⟩ (Nat.le_of_ble_eq_true rfl) rfl (List.forall_mem_cons.mpr ⟨⟨tableOf (hh_Law_width.take 0), _, tableOf (hh_Law_width.drop 1), rfl, List.forall_mem_nil _, by decide, by decide, wk_Law_13, by decide, Or.inr ⟨_, _, d_Law_width_15, Nat.le_of_ble_eq_true rfl, d_Law_width_17, rfl, d_Law_width_18⟩⟩, List.forall_mem_cons.mpr ⟨⟨tableOf (hh_Law_width.take 1), _, tableOf (hh_Law_width.drop 2), rfl, List.forall_mem_cons.mpr ⟨⟨by decide, _, wk_Law_13, by decide⟩, List.forall_mem_nil _⟩, by decide, by decide, wk_Law_15, by decide, Or.inr ⟨_, _, d_Law_width_19, Nat.le_of_ble_eq_true rfl, d_Law_width_21, rfl, d_Law_width_22⟩⟩, List.forall_mem_nil _⟩⟩) (fun r7 μ_7 e_7 => ?_)
  refine r_i2l hg d_Law_width_10 ?_
  refine r_last hg (by decide) rfl d_Law_width_11 ?_
  refine r_letM (fun μ_11 => ?_)
  refine r_goto (tgt := 23) hg d_Law_width_12 (by decide) ?_
  refine r_iconst (v := 0) hg d_Law_width_23 (by decide) ?_
  exact r_wiret hg hA ⟨by decide, by decide⟩ rfl d_Law_width_24 rfl
theorem t_Law_width (v1 : Int32) (v2 : Int32) (v3 : Int32) (μ : HMem) : HSpecW y_Law_width b_Law_width 6 (some .int) hh_Law_width 8 2 h_eI [.ref 84, .int v1, .int v2, .int v3, .ref 143] μ (f_Law_width v1 v2 v3 μ) :=
  HSpecW.of (by decide +kernel) (Nat.le_of_ble_eq_true rfl) (fun cx hA hg hT => t_Law_width_0 hg hA hT v1 v2 v3 μ)
theorem t_Law_treewidth_0 {cx : HCx} (hg : HGood cx R_Law b_Law_treewidth 4 8 (some .int)) (hA : h_own cx) (hT : HTry cx hh_Law_treewidth 1) (v1 : Int32) (μ : HMem) : HX cx (HQw cx 1 h_eI) (f_Law_treewidth v1 μ) 0 0 0 [(0, .ref 84), (1, .int v1), (2, .ref 143)] [] μ := by
  unfold f_Law_treewidth
  refine r_aload_n hg 2 d_Law_treewidth_0 rfl rfl ?_
  refine r_iconst (v := 0) hg d_Law_treewidth_1 (by decide) ?_
  refine r_aload_n hg 0 d_Law_treewidth_2 rfl rfl ?_
  refine r_iload_n hg 1 d_Law_treewidth_3 rfl rfl ?_
  refine r_tcallV (As := [.int v1]) (L := [(1, 1)]) hg hA hT (t_Bench_treewidth v1 μ) v_Bench_treewidth c_Bench rfl (by decide) rfl wm_Law_55 d_Law_treewidth_4 rfl ⟨by decide, by decide⟩ ⟨by decide, by decide⟩ (Nat.le_of_ble_eq_true rfl) rfl (List.forall_mem_cons.mpr ⟨⟨tableOf (hh_Law_treewidth.take 0), _, tableOf (hh_Law_treewidth.drop 1), rfl, List.forall_mem_nil _, by decide, by decide, wk_Law_13, by decide, Or.inl ⟨_, _, d_Law_treewidth_12, Nat.le_of_ble_eq_true rfl, d_Law_treewidth_13, rfl, d_Law_treewidth_14⟩⟩, List.forall_mem_nil _⟩) (fun r4 μ_4 e_4 => ?_)
  refine r_i2l hg d_Law_treewidth_7 ?_
  refine r_last hg (by decide) rfl d_Law_treewidth_8 ?_
  refine r_letM (fun μ_8 => ?_)
  refine r_goto (tgt := 15) hg d_Law_treewidth_9 (by decide) ?_
  refine r_iconst (v := 0) hg d_Law_treewidth_15 (by decide) ?_
  exact r_wiret hg hA ⟨by decide, by decide⟩ rfl d_Law_treewidth_16 rfl
theorem t_Law_treewidth (v1 : Int32) (μ : HMem) : HSpecW y_Law_treewidth b_Law_treewidth 4 (some .int) hh_Law_treewidth 8 1 h_eI [.ref 84, .int v1, .ref 143] μ (f_Law_treewidth v1 μ) :=
  HSpecW.of (by decide +kernel) (Nat.le_of_ble_eq_true rfl) (fun cx hA hg hT => t_Law_treewidth_0 hg hA hT v1 μ)
theorem t_Law_bag_0 {cx : HCx} (hg : HGood cx R_Law b_Law_bag 5 8 (some .int)) (hA : h_own cx) (hT : HTry cx hh_Law_bag 2) (v1 : Int32) (v2 : Int32) (μ : HMem) : HX cx (HQw cx 2 h_eI) (f_Law_bag v1 v2 μ) 0 0 0 [(0, .ref 84), (1, .int v1), (2, .int v2), (3, .ref 143)] [] μ := by
  unfold f_Law_bag
  refine r_aload_n hg 3 d_Law_bag_0 rfl rfl ?_
  refine r_iconst (v := 0) hg d_Law_bag_1 (by decide) ?_
  refine r_aload_n hg 0 d_Law_bag_2 rfl rfl ?_
  refine r_iload_n hg 1 d_Law_bag_3 rfl rfl ?_
  refine r_iload_n hg 2 d_Law_bag_4 rfl rfl ?_
  refine r_tcallV (As := [.int v1, .int v2]) (L := [(1, 1)]) hg hA hT (t_Bench_bag v1 v2 μ) v_Bench_bag c_Bench rfl (by decide) rfl wm_Law_59 d_Law_bag_5 rfl ⟨by decide, by decide⟩ ⟨by decide, by decide⟩ (Nat.le_of_ble_eq_true rfl) rfl (List.forall_mem_cons.mpr ⟨⟨tableOf (hh_Law_bag.take 0), _, tableOf (hh_Law_bag.drop 1), rfl, List.forall_mem_nil _, by decide, by decide, wk_Law_13, by decide, Or.inr ⟨_, _, d_Law_bag_13, Nat.le_of_ble_eq_true rfl, d_Law_bag_15, rfl, d_Law_bag_16⟩⟩, List.forall_mem_nil _⟩) (fun r5 μ_5 e_5 => ?_)
  refine r_i2l hg d_Law_bag_8 ?_
  refine r_last hg (by decide) rfl d_Law_bag_9 ?_
  refine r_letM (fun μ_9 => ?_)
  refine r_goto (tgt := 17) hg d_Law_bag_10 (by decide) ?_
  refine r_iconst (v := 0) hg d_Law_bag_17 (by decide) ?_
  exact r_wiret hg hA ⟨by decide, by decide⟩ rfl d_Law_bag_18 rfl
theorem t_Law_bag (v1 : Int32) (v2 : Int32) (μ : HMem) : HSpecW y_Law_bag b_Law_bag 5 (some .int) hh_Law_bag 8 2 h_eI [.ref 84, .int v1, .int v2, .ref 143] μ (f_Law_bag v1 v2 μ) :=
  HSpecW.of (by decide +kernel) (Nat.le_of_ble_eq_true rfl) (fun cx hA hg hT => t_Law_bag_0 hg hA hT v1 v2 μ)
theorem t_Law_count_0 {cx : HCx} (hg : HGood cx R_Law b_Law_count 6 24 (some .int)) (hA : h_own cx) (hT : HTry cx hh_Law_count 4) (v1 : Int32) (v2 : Int32) (v3 : Int32) (μ : HMem) : HX cx (HQw cx 4 h_eI) (f_Law_count v1 v2 v3 μ) 0 0 0 [(0, .ref 84), (1, .int v1), (2, .int v2), (3, .int v3), (4, .ref 143)] [] μ := by
  unfold f_Law_count
  refine r_aload hg 4 d_Law_count_0 rfl ?_
  refine r_iconst (v := 0) hg d_Law_count_2 (by decide) ?_
  refine r_aload_n hg 0 d_Law_count_3 rfl rfl ?_
  refine r_iload_n hg 1 d_Law_count_4 rfl rfl ?_
  refine r_iload_n hg 2 d_Law_count_5 rfl rfl ?_
  refine r_iload_n hg 3 d_Law_count_6 rfl rfl ?_
  refine r_tcallV (As := [.int v1, .int v2, .int v3]) (L := [(1, 1), (2, 2), (3, 3)]) hg hA hT (t_Bench_count v1 v2 v3 μ) v_Bench_count c_Bench rfl (by decide) rfl wm_Law_62 d_Law_count_7 rfl ⟨by decide, by decide⟩ ⟨by decide, by decide⟩ (Nat.le_of_ble_eq_true rfl) rfl (List.forall_mem_cons.mpr ⟨⟨tableOf (hh_Law_count.take 0), _, tableOf (hh_Law_count.drop 1), rfl, List.forall_mem_nil _, by decide, by decide, wk_Law_13, by decide, Or.inr ⟨_, _, d_Law_count_14, Nat.le_of_ble_eq_true rfl, d_Law_count_16, rfl, d_Law_count_17⟩⟩, List.forall_mem_cons.mpr ⟨⟨tableOf (hh_Law_count.take 1), _, tableOf (hh_Law_count.drop 2), rfl, List.forall_mem_cons.mpr ⟨⟨by decide, _, wk_Law_13, by decide⟩, List.forall_mem_nil _⟩, by decide, by decide, wk_Law_15, by decide, Or.inr ⟨_, _, d_Law_count_18, Nat.le_of_ble_eq_true rfl, d_Law_count_20, rfl, d_Law_count_21⟩⟩, List.forall_mem_cons.mpr ⟨⟨tableOf (hh_Law_count.take 2), _, tableOf (hh_Law_count.drop 3), rfl, List.forall_mem_cons.mpr ⟨⟨by decide, _, wk_Law_13, by decide⟩, List.forall_mem_cons.mpr ⟨⟨by decide, _, wk_Law_15, by decide⟩, List.forall_mem_nil _⟩⟩, by decide, by decide, wk_Law_34, by decide, Or.inr ⟨_, _, d_Law_count_22, Nat.le_of_ble_eq_true rfl, d_Law_count_24, rfl, d_Law_count_25⟩⟩, List.forall_mem_nil _⟩⟩⟩) (fun r7 μ_7 e_7 => ?_)
  refine r_last hg (by decide) rfl d_Law_count_10 ?_
  refine r_letM (fun μ_10 => ?_)
  refine r_goto (tgt := 26) hg d_Law_count_11 (by decide) ?_
  refine r_iconst (v := 0) hg d_Law_count_26 (by decide) ?_
  exact r_wiret hg hA ⟨by decide, by decide⟩ rfl d_Law_count_27 rfl
theorem t_Law_count (v1 : Int32) (v2 : Int32) (v3 : Int32) (μ : HMem) : HSpecW y_Law_count b_Law_count 6 (some .int) hh_Law_count 24 4 h_eI [.ref 84, .int v1, .int v2, .int v3, .ref 143] μ (f_Law_count v1 v2 v3 μ) :=
  HSpecW.of (by decide +kernel) (Nat.le_of_ble_eq_true rfl) (fun cx hA hg hT => t_Law_count_0 hg hA hT v1 v2 v3 μ)
theorem t_Law_density_0 {cx : HCx} (hg : HGood cx R_Law b_Law_density 6 24 (some .int)) (hA : h_own cx) (hT : HTry cx hh_Law_density 5) (v1 : Int32) (v2 : Int32) (v3 : Int32) (μ : HMem) : HX cx (HQw cx 5 h_eI) (f_Law_density v1 v2 v3 μ) 0 0 0 [(0, .ref 84), (1, .int v1), (2, .int v2), (3, .int v3), (4, .ref 143)] [] μ := by
  unfold f_Law_density
  refine r_aload hg 4 d_Law_density_0 rfl ?_
  refine r_iconst (v := 0) hg d_Law_density_2 (by decide) ?_
  refine r_aload_n hg 0 d_Law_density_3 rfl rfl ?_
  refine r_iload_n hg 1 d_Law_density_4 rfl rfl ?_
  refine r_iload_n hg 2 d_Law_density_5 rfl rfl ?_
  refine r_iload_n hg 3 d_Law_density_6 rfl rfl ?_
  refine r_tcallV (As := [.int v1, .int v2, .int v3]) (L := [(1, 1), (2, 2), (3, 3)]) hg hA hT (t_Bench_density v1 v2 v3 μ) v_Bench_density c_Bench rfl (by decide) rfl wm_Law_66 d_Law_density_7 rfl ⟨by decide, by decide⟩ ⟨by decide, by decide⟩ (Nat.le_of_ble_eq_true rfl) rfl (List.forall_mem_cons.mpr ⟨⟨tableOf (hh_Law_density.take 0), _, tableOf (hh_Law_density.drop 1), rfl, List.forall_mem_nil _, by decide, by decide, wk_Law_13, by decide, Or.inr ⟨_, _, d_Law_density_14, Nat.le_of_ble_eq_true rfl, d_Law_density_16, rfl, d_Law_density_17⟩⟩, List.forall_mem_cons.mpr ⟨⟨tableOf (hh_Law_density.take 1), _, tableOf (hh_Law_density.drop 2), rfl, List.forall_mem_cons.mpr ⟨⟨by decide, _, wk_Law_13, by decide⟩, List.forall_mem_nil _⟩, by decide, by decide, wk_Law_15, by decide, Or.inr ⟨_, _, d_Law_density_18, Nat.le_of_ble_eq_true rfl, d_Law_density_20, rfl, d_Law_density_21⟩⟩, List.forall_mem_cons.mpr ⟨⟨tableOf (hh_Law_density.take 2), _, tableOf (hh_Law_density.drop 3), rfl, List.forall_mem_cons.mpr ⟨⟨by decide, _, wk_Law_13, by decide⟩, List.forall_mem_cons.mpr ⟨⟨by decide, _, wk_Law_15, by decide⟩, List.forall_mem_nil _⟩⟩, by decide, by decide, wk_Law_34, by decide, Or.inr ⟨_, _, d_Law_density_22, Nat.le_of_ble_eq_true rfl, d_Law_density_24, rfl, d_Law_density_25⟩⟩, List.forall_mem_nil _⟩⟩⟩) (fun r7 μ_7 e_7 => ?_)
  refine r_last hg (by decide) rfl d_Law_density_10 ?_
  refine r_letM (fun μ_10 => ?_)
  refine r_goto (tgt := 26) hg d_Law_density_11 (by decide) ?_
  refine r_iconst (v := 0) hg d_Law_density_26 (by decide) ?_
  exact r_wiret hg hA ⟨by decide, by decide⟩ rfl d_Law_density_27 rfl
theorem t_Law_density (v1 : Int32) (v2 : Int32) (v3 : Int32) (μ : HMem) : HSpecW y_Law_density b_Law_density 6 (some .int) hh_Law_density 24 5 h_eI [.ref 84, .int v1, .int v2, .int v3, .ref 143] μ (f_Law_density v1 v2 v3 μ) :=
  HSpecW.of (by decide +kernel) (Nat.le_of_ble_eq_true rfl) (fun cx hA hg hT => t_Law_density_0 hg hA hT v1 v2 v3 μ)
theorem t_Law_automorphisms_0 {cx : HCx} (hg : HGood cx R_Law b_Law_automorphisms 4 23 (some .int)) (hA : h_own cx) (hT : HTry cx hh_Law_automorphisms 1) (v1 : Int32) (μ : HMem) : HX cx (HQw cx 1 h_eI) (f_Law_automorphisms v1 μ) 0 0 0 [(0, .ref 84), (1, .int v1), (2, .ref 143)] [] μ := by
  unfold f_Law_automorphisms
  refine r_aload_n hg 2 d_Law_automorphisms_0 rfl rfl ?_
  refine r_iconst (v := 0) hg d_Law_automorphisms_1 (by decide) ?_
  refine r_aload_n hg 0 d_Law_automorphisms_2 rfl rfl ?_
  refine r_iload_n hg 1 d_Law_automorphisms_3 rfl rfl ?_
  refine r_tcallV (As := [.int v1]) (L := [(1, 1)]) hg hA hT (t_Bench_automorphisms v1 μ) v_Bench_automorphisms c_Bench rfl (by decide) rfl wm_Law_69 d_Law_automorphisms_4 rfl ⟨by decide, by decide⟩ ⟨by decide, by decide⟩ (Nat.le_of_ble_eq_true rfl) rfl (List.forall_mem_cons.mpr ⟨⟨tableOf (hh_Law_automorphisms.take 0), _, tableOf (hh_Law_automorphisms.drop 1), rfl, List.forall_mem_nil _, by decide, by decide, wk_Law_13, by decide, Or.inl ⟨_, _, d_Law_automorphisms_12, Nat.le_of_ble_eq_true rfl, d_Law_automorphisms_13, rfl, d_Law_automorphisms_14⟩⟩, List.forall_mem_nil _⟩) (fun r4 μ_4 e_4 => ?_)
  refine r_i2l hg d_Law_automorphisms_7 ?_
  refine r_last hg (by decide) rfl d_Law_automorphisms_8 ?_
  refine r_letM (fun μ_8 => ?_)
  refine r_goto (tgt := 15) hg d_Law_automorphisms_9 (by decide) ?_
  refine r_iconst (v := 0) hg d_Law_automorphisms_15 (by decide) ?_
  exact r_wiret hg hA ⟨by decide, by decide⟩ rfl d_Law_automorphisms_16 rfl
theorem t_Law_automorphisms (v1 : Int32) (μ : HMem) : HSpecW y_Law_automorphisms b_Law_automorphisms 4 (some .int) hh_Law_automorphisms 23 1 h_eI [.ref 84, .int v1, .ref 143] μ (f_Law_automorphisms v1 μ) :=
  HSpecW.of (by decide +kernel) (Nat.le_of_ble_eq_true rfl) (fun cx hA hg hT => t_Law_automorphisms_0 hg hA hT v1 μ)
theorem t_Law_isomorphic_J16 {cx : HCx} (hg : HGood cx R_Law b_Law_isomorphic 5 22 (some .int)) (hA : h_own cx) (hT : HTry cx hh_Law_isomorphic 2)   (s0 : Int64) (s1 : Int32) (μ : HMem) : HX cx (HQw cx 2 h_eI) (f_Law_isomorphic_J16   s0 s1 μ) 2 12 16 [] [.long s0, .int s1, .ref 143] μ := by
  unfold f_Law_isomorphic_J16
  refine r_last hg (by decide) rfl d_Law_isomorphic_16 ?_
  refine r_letM (fun μ_16 => ?_)
  refine r_goto (tgt := 24) hg d_Law_isomorphic_17 (by decide) ?_
  refine r_iconst (v := 0) hg d_Law_isomorphic_24 (by decide) ?_
  exact r_wiret hg hA ⟨by decide, by decide⟩ rfl d_Law_isomorphic_25 rfl
theorem t_Law_isomorphic_0 {cx : HCx} (hg : HGood cx R_Law b_Law_isomorphic 5 22 (some .int)) (hA : h_own cx) (hT : HTry cx hh_Law_isomorphic 2) (v1 : Int32) (v2 : Int32) (μ : HMem) : HX cx (HQw cx 2 h_eI) (f_Law_isomorphic v1 v2 μ) 0 0 0 [(0, .ref 84), (1, .int v1), (2, .int v2), (3, .ref 143)] [] μ := by
  unfold f_Law_isomorphic
  refine r_aload_n hg 3 d_Law_isomorphic_0 rfl rfl ?_
  refine r_iconst (v := 0) hg d_Law_isomorphic_1 (by decide) ?_
  refine r_aload_n hg 0 d_Law_isomorphic_2 rfl rfl ?_
  refine r_iload_n hg 1 d_Law_isomorphic_3 rfl rfl ?_
  refine r_iload_n hg 2 d_Law_isomorphic_4 rfl rfl ?_
  refine r_tcallV (As := [.int v1, .int v2]) (L := [(1, 1)]) hg hA hT (t_Bench_isomorphic v1 v2 μ) v_Bench_isomorphic c_Bench rfl (by decide) rfl wm_Law_72 d_Law_isomorphic_5 rfl ⟨by decide, by decide⟩ ⟨by decide, by decide⟩ (Nat.le_of_ble_eq_true rfl) rfl (List.forall_mem_cons.mpr ⟨⟨tableOf (hh_Law_isomorphic.take 0), _, tableOf (hh_Law_isomorphic.drop 1), rfl, List.forall_mem_nil _, by decide, by decide, wk_Law_13, by decide, Or.inr ⟨_, _, d_Law_isomorphic_20, Nat.le_of_ble_eq_true rfl, d_Law_isomorphic_22, rfl, d_Law_isomorphic_23⟩⟩, List.forall_mem_nil _⟩) (fun r5 μ_5 e_5 => ?_)
  refine r_if_eq (tgt := 15) hg d_Law_isomorphic_8 (by decide) ?_ ?_
  · refine r_lconst (v := 0) hg d_Law_isomorphic_15 (by decide) ?_
    refine r_sub [] rfl ?_
    exact t_Law_isomorphic_J16 hg hA hT 0 0 μ_5
  · refine r_lconst (v := 1) hg d_Law_isomorphic_11 (by decide) ?_
    refine r_goto (tgt := 16) hg d_Law_isomorphic_12 (by decide) ?_
    refine r_sub [] rfl ?_
    exact t_Law_isomorphic_J16 hg hA hT 1 0 μ_5
theorem t_Law_isomorphic (v1 : Int32) (v2 : Int32) (μ : HMem) : HSpecW y_Law_isomorphic b_Law_isomorphic 5 (some .int) hh_Law_isomorphic 22 2 h_eI [.ref 84, .int v1, .int v2, .ref 143] μ (f_Law_isomorphic v1 v2 μ) :=
  HSpecW.of (by decide +kernel) (Nat.le_of_ble_eq_true rfl) (fun cx hA hg hT => t_Law_isomorphic_0 hg hA hT v1 v2 μ)
theorem t_Law_image_0 {cx : HCx} (hg : HGood cx R_Law b_Law_image 6 24 (some .int)) (hA : h_own cx) (hT : HTry cx hh_Law_image 3) (v1 : Int32) (v2 : Int32) (v3 : Int32) (μ : HMem) : HX cx (HQw cx 3 h_eI) (f_Law_image v1 v2 v3 μ) 0 0 0 [(0, .ref 84), (1, .int v1), (2, .int v2), (3, .int v3), (4, .ref 143)] [] μ := by
  unfold f_Law_image
  refine r_aload hg 4 d_Law_image_0 rfl ?_
  refine r_iconst (v := 0) hg d_Law_image_2 (by decide) ?_
  refine r_aload_n hg 0 d_Law_image_3 rfl rfl ?_
  refine r_iload_n hg 1 d_Law_image_4 rfl rfl ?_
  refine r_iload_n hg 2 d_Law_image_5 rfl rfl ?_
  refine r_iload_n hg 3 d_Law_image_6 rfl rfl ?_
  refine r_tcallV (As := [.int v1, .int v2, .int v3]) (L := [(1, 1)]) hg hA hT (t_Bench_image v1 v2 v3 μ) v_Bench_image c_Bench rfl (by decide) rfl wm_Law_76 d_Law_image_7 rfl ⟨by decide, by decide⟩ ⟨by decide, by decide⟩ (Nat.le_of_ble_eq_true rfl) rfl (List.forall_mem_cons.mpr ⟨⟨tableOf (hh_Law_image.take 0), _, tableOf (hh_Law_image.drop 1), rfl, List.forall_mem_nil _, by decide, by decide, wk_Law_13, by decide, Or.inr ⟨_, _, d_Law_image_15, Nat.le_of_ble_eq_true rfl, d_Law_image_17, rfl, d_Law_image_18⟩⟩, List.forall_mem_nil _⟩) (fun r7 μ_7 e_7 => ?_)
  refine r_i2l hg d_Law_image_10 ?_
  refine r_last hg (by decide) rfl d_Law_image_11 ?_
  refine r_letM (fun μ_11 => ?_)
  refine r_goto (tgt := 19) hg d_Law_image_12 (by decide) ?_
  refine r_iconst (v := 0) hg d_Law_image_19 (by decide) ?_
  exact r_wiret hg hA ⟨by decide, by decide⟩ rfl d_Law_image_20 rfl
theorem t_Law_image (v1 : Int32) (v2 : Int32) (v3 : Int32) (μ : HMem) : HSpecW y_Law_image b_Law_image 6 (some .int) hh_Law_image 24 3 h_eI [.ref 84, .int v1, .int v2, .int v3, .ref 143] μ (f_Law_image v1 v2 v3 μ) :=
  HSpecW.of (by decide +kernel) (Nat.le_of_ble_eq_true rfl) (fun cx hA hg hT => t_Law_image_0 hg hA hT v1 v2 v3 μ)
theorem t_Law_compare_0 {cx : HCx} (hg : HGood cx R_Law b_Law_compare 5 23 (some .int)) (hA : h_own cx) (hT : HTry cx hh_Law_compare 2) (v1 : Int32) (v2 : Int32) (μ : HMem) : HX cx (HQw cx 2 h_eI) (f_Law_compare v1 v2 μ) 0 0 0 [(0, .ref 84), (1, .int v1), (2, .int v2), (3, .ref 143)] [] μ := by
  unfold f_Law_compare
  refine r_aload_n hg 3 d_Law_compare_0 rfl rfl ?_
  refine r_iconst (v := 0) hg d_Law_compare_1 (by decide) ?_
  refine r_aload_n hg 0 d_Law_compare_2 rfl rfl ?_
  refine r_iload_n hg 1 d_Law_compare_3 rfl rfl ?_
  refine r_iload_n hg 2 d_Law_compare_4 rfl rfl ?_
  refine r_tcallV (As := [.int v1, .int v2]) (L := [(1, 1)]) hg hA hT (t_Bench_compare v1 v2 μ) v_Bench_compare c_Bench rfl (by decide) rfl wm_Law_79 d_Law_compare_5 rfl ⟨by decide, by decide⟩ ⟨by decide, by decide⟩ (Nat.le_of_ble_eq_true rfl) rfl (List.forall_mem_cons.mpr ⟨⟨tableOf (hh_Law_compare.take 0), _, tableOf (hh_Law_compare.drop 1), rfl, List.forall_mem_nil _, by decide, by decide, wk_Law_13, by decide, Or.inr ⟨_, _, d_Law_compare_13, Nat.le_of_ble_eq_true rfl, d_Law_compare_15, rfl, d_Law_compare_16⟩⟩, List.forall_mem_nil _⟩) (fun r5 μ_5 e_5 => ?_)
  refine r_i2l hg d_Law_compare_8 ?_
  refine r_last hg (by decide) rfl d_Law_compare_9 ?_
  refine r_letM (fun μ_9 => ?_)
  refine r_goto (tgt := 17) hg d_Law_compare_10 (by decide) ?_
  refine r_iconst (v := 0) hg d_Law_compare_17 (by decide) ?_
  exact r_wiret hg hA ⟨by decide, by decide⟩ rfl d_Law_compare_18 rfl
theorem t_Law_compare (v1 : Int32) (v2 : Int32) (μ : HMem) : HSpecW y_Law_compare b_Law_compare 5 (some .int) hh_Law_compare 23 2 h_eI [.ref 84, .int v1, .int v2, .ref 143] μ (f_Law_compare v1 v2 μ) :=
  HSpecW.of (by decide +kernel) (Nat.le_of_ble_eq_true rfl) (fun cx hA hg hT => t_Law_compare_0 hg hA hT v1 v2 μ)
theorem t_Law_colorings_0 {cx : HCx} (hg : HGood cx R_Law b_Law_colorings 5 20 (some .int)) (hA : h_own cx) (hT : HTry cx hh_Law_colorings 2) (v1 : Int32) (v2 : Int32) (μ : HMem) : HX cx (HQw cx 2 h_eI) (f_Law_colorings v1 v2 μ) 0 0 0 [(0, .ref 84), (1, .int v1), (2, .int v2), (3, .ref 143)] [] μ := by
  unfold f_Law_colorings
  refine r_aload_n hg 3 d_Law_colorings_0 rfl rfl ?_
  refine r_iconst (v := 0) hg d_Law_colorings_1 (by decide) ?_
  refine r_aload_n hg 0 d_Law_colorings_2 rfl rfl ?_
  refine r_iload_n hg 1 d_Law_colorings_3 rfl rfl ?_
  refine r_iload_n hg 2 d_Law_colorings_4 rfl rfl ?_
  refine r_tcallV (As := [.int v1, .int v2]) (L := [(1, 1), (2, 2)]) hg hA hT (t_Bench_colorings v1 v2 μ) v_Bench_colorings c_Bench rfl (by decide) rfl wm_Law_82 d_Law_colorings_5 rfl ⟨by decide, by decide⟩ ⟨by decide, by decide⟩ (Nat.le_of_ble_eq_true rfl) rfl (List.forall_mem_cons.mpr ⟨⟨tableOf (hh_Law_colorings.take 0), _, tableOf (hh_Law_colorings.drop 1), rfl, List.forall_mem_nil _, by decide, by decide, wk_Law_13, by decide, Or.inr ⟨_, _, d_Law_colorings_12, Nat.le_of_ble_eq_true rfl, d_Law_colorings_14, rfl, d_Law_colorings_15⟩⟩, List.forall_mem_cons.mpr ⟨⟨tableOf (hh_Law_colorings.take 1), _, tableOf (hh_Law_colorings.drop 2), rfl, List.forall_mem_cons.mpr ⟨⟨by decide, _, wk_Law_13, by decide⟩, List.forall_mem_nil _⟩, by decide, by decide, wk_Law_15, by decide, Or.inr ⟨_, _, d_Law_colorings_16, Nat.le_of_ble_eq_true rfl, d_Law_colorings_18, rfl, d_Law_colorings_19⟩⟩, List.forall_mem_nil _⟩⟩) (fun r5 μ_5 e_5 => ?_)
  refine r_last hg (by decide) rfl d_Law_colorings_8 ?_
  refine r_letM (fun μ_8 => ?_)
  refine r_goto (tgt := 20) hg d_Law_colorings_9 (by decide) ?_
  refine r_iconst (v := 0) hg d_Law_colorings_20 (by decide) ?_
  exact r_wiret hg hA ⟨by decide, by decide⟩ rfl d_Law_colorings_21 rfl
theorem t_Law_colorings (v1 : Int32) (v2 : Int32) (μ : HMem) : HSpecW y_Law_colorings b_Law_colorings 5 (some .int) hh_Law_colorings 20 2 h_eI [.ref 84, .int v1, .int v2, .ref 143] μ (f_Law_colorings v1 v2 μ) :=
  HSpecW.of (by decide +kernel) (Nat.le_of_ble_eq_true rfl) (fun cx hA hg hT => t_Law_colorings_0 hg hA hT v1 v2 μ)
theorem t_Law_chromatic_0 {cx : HCx} (hg : HGood cx R_Law b_Law_chromatic 4 20 (some .int)) (hA : h_own cx) (hT : HTry cx hh_Law_chromatic 1) (v1 : Int32) (μ : HMem) : HX cx (HQw cx 1 h_eI) (f_Law_chromatic v1 μ) 0 0 0 [(0, .ref 84), (1, .int v1), (2, .ref 143)] [] μ := by
  unfold f_Law_chromatic
  refine r_aload_n hg 2 d_Law_chromatic_0 rfl rfl ?_
  refine r_iconst (v := 0) hg d_Law_chromatic_1 (by decide) ?_
  refine r_aload_n hg 0 d_Law_chromatic_2 rfl rfl ?_
  refine r_iload_n hg 1 d_Law_chromatic_3 rfl rfl ?_
  refine r_tcallV (As := [.int v1]) (L := [(1, 1)]) hg hA hT (t_Bench_chromatic v1 μ) v_Bench_chromatic c_Bench rfl (by decide) rfl wm_Law_86 d_Law_chromatic_4 rfl ⟨by decide, by decide⟩ ⟨by decide, by decide⟩ (Nat.le_of_ble_eq_true rfl) rfl (List.forall_mem_cons.mpr ⟨⟨tableOf (hh_Law_chromatic.take 0), _, tableOf (hh_Law_chromatic.drop 1), rfl, List.forall_mem_nil _, by decide, by decide, wk_Law_13, by decide, Or.inl ⟨_, _, d_Law_chromatic_12, Nat.le_of_ble_eq_true rfl, d_Law_chromatic_13, rfl, d_Law_chromatic_14⟩⟩, List.forall_mem_nil _⟩) (fun r4 μ_4 e_4 => ?_)
  refine r_i2l hg d_Law_chromatic_7 ?_
  refine r_last hg (by decide) rfl d_Law_chromatic_8 ?_
  refine r_letM (fun μ_8 => ?_)
  refine r_goto (tgt := 15) hg d_Law_chromatic_9 (by decide) ?_
  refine r_iconst (v := 0) hg d_Law_chromatic_15 (by decide) ?_
  exact r_wiret hg hA ⟨by decide, by decide⟩ rfl d_Law_chromatic_16 rfl
theorem t_Law_chromatic (v1 : Int32) (μ : HMem) : HSpecW y_Law_chromatic b_Law_chromatic 4 (some .int) hh_Law_chromatic 20 1 h_eI [.ref 84, .int v1, .ref 143] μ (f_Law_chromatic v1 μ) :=
  HSpecW.of (by decide +kernel) (Nat.le_of_ble_eq_true rfl) (fun cx hA hg hT => t_Law_chromatic_0 hg hA hT v1 μ)
theorem t_Law_independent_0 {cx : HCx} (hg : HGood cx R_Law b_Law_independent 5 8 (some .int)) (hA : h_own cx) (hT : HTry cx hh_Law_independent 2) (v1 : Int32) (v2 : Int32) (μ : HMem) : HX cx (HQw cx 2 h_eI) (f_Law_independent v1 v2 μ) 0 0 0 [(0, .ref 84), (1, .int v1), (2, .int v2), (3, .ref 143)] [] μ := by
  unfold f_Law_independent
  refine r_aload_n hg 3 d_Law_independent_0 rfl rfl ?_
  refine r_iconst (v := 0) hg d_Law_independent_1 (by decide) ?_
  refine r_aload_n hg 0 d_Law_independent_2 rfl rfl ?_
  refine r_iload_n hg 1 d_Law_independent_3 rfl rfl ?_
  refine r_iload_n hg 2 d_Law_independent_4 rfl rfl ?_
  refine r_tcallV (As := [.int v1, .int v2]) (L := [(1, 1), (2, 2)]) hg hA hT (t_Bench_independent v1 v2 μ) v_Bench_independent c_Bench rfl (by decide) rfl wm_Law_89 d_Law_independent_5 rfl ⟨by decide, by decide⟩ ⟨by decide, by decide⟩ (Nat.le_of_ble_eq_true rfl) rfl (List.forall_mem_cons.mpr ⟨⟨tableOf (hh_Law_independent.take 0), _, tableOf (hh_Law_independent.drop 1), rfl, List.forall_mem_nil _, by decide, by decide, wk_Law_13, by decide, Or.inr ⟨_, _, d_Law_independent_13, Nat.le_of_ble_eq_true rfl, d_Law_independent_15, rfl, d_Law_independent_16⟩⟩, List.forall_mem_cons.mpr ⟨⟨tableOf (hh_Law_independent.take 1), _, tableOf (hh_Law_independent.drop 2), rfl, List.forall_mem_cons.mpr ⟨⟨by decide, _, wk_Law_13, by decide⟩, List.forall_mem_nil _⟩, by decide, by decide, wk_Law_15, by decide, Or.inr ⟨_, _, d_Law_independent_17, Nat.le_of_ble_eq_true rfl, d_Law_independent_19, rfl, d_Law_independent_20⟩⟩, List.forall_mem_nil _⟩⟩) (fun r5 μ_5 e_5 => ?_)
  refine r_i2l hg d_Law_independent_8 ?_
  refine r_last hg (by decide) rfl d_Law_independent_9 ?_
  refine r_letM (fun μ_9 => ?_)
  refine r_goto (tgt := 21) hg d_Law_independent_10 (by decide) ?_
  refine r_iconst (v := 0) hg d_Law_independent_21 (by decide) ?_
  exact r_wiret hg hA ⟨by decide, by decide⟩ rfl d_Law_independent_22 rfl
theorem t_Law_independent (v1 : Int32) (v2 : Int32) (μ : HMem) : HSpecW y_Law_independent b_Law_independent 5 (some .int) hh_Law_independent 8 2 h_eI [.ref 84, .int v1, .int v2, .ref 143] μ (f_Law_independent v1 v2 μ) :=
  HSpecW.of (by decide +kernel) (Nat.le_of_ble_eq_true rfl) (fun cx hA hg hT => t_Law_independent_0 hg hA hT v1 v2 μ)
theorem t_Law_walks_0 {cx : HCx} (hg : HGood cx R_Law b_Law_walks 6 8 (some .int)) (hA : h_own cx) (hT : HTry cx hh_Law_walks 2) (v1 : Int32) (v2 : Int32) (v3 : Int32) (μ : HMem) : HX cx (HQw cx 2 h_eI) (f_Law_walks v1 v2 v3 μ) 0 0 0 [(0, .ref 84), (1, .int v1), (2, .int v2), (3, .int v3), (4, .ref 143)] [] μ := by
  unfold f_Law_walks
  refine r_aload hg 4 d_Law_walks_0 rfl ?_
  refine r_iconst (v := 0) hg d_Law_walks_2 (by decide) ?_
  refine r_aload_n hg 0 d_Law_walks_3 rfl rfl ?_
  refine r_iload_n hg 1 d_Law_walks_4 rfl rfl ?_
  refine r_iload_n hg 2 d_Law_walks_5 rfl rfl ?_
  refine r_iload_n hg 3 d_Law_walks_6 rfl rfl ?_
  refine r_tcallV (As := [.int v1, .int v2, .int v3]) (L := [(1, 1), (2, 2)]) hg hA hT (t_Bench_walks v1 v2 v3 μ) v_Bench_walks c_Bench rfl (by decide) rfl wm_Law_92 d_Law_walks_7 rfl ⟨by decide, by decide⟩ ⟨by decide, by decide⟩ (Nat.le_of_ble_eq_true rfl) rfl (List.forall_mem_cons.mpr ⟨⟨tableOf (hh_Law_walks.take 0), _, tableOf (hh_Law_walks.drop 1), rfl, List.forall_mem_nil _, by decide, by decide, wk_Law_13, by decide, Or.inr ⟨_, _, d_Law_walks_14, Nat.le_of_ble_eq_true rfl, d_Law_walks_16, rfl, d_Law_walks_17⟩⟩, List.forall_mem_cons.mpr ⟨⟨tableOf (hh_Law_walks.take 1), _, tableOf (hh_Law_walks.drop 2), rfl, List.forall_mem_cons.mpr ⟨⟨by decide, _, wk_Law_13, by decide⟩, List.forall_mem_nil _⟩, by decide, by decide, wk_Law_15, by decide, Or.inr ⟨_, _, d_Law_walks_18, Nat.le_of_ble_eq_true rfl, d_Law_walks_20, rfl, d_Law_walks_21⟩⟩, List.forall_mem_nil _⟩⟩) (fun r7 μ_7 e_7 => ?_)
  refine r_last hg (by decide) rfl d_Law_walks_10 ?_
  refine r_letM (fun μ_10 => ?_)
  refine r_goto (tgt := 22) hg d_Law_walks_11 (by decide) ?_
  refine r_iconst (v := 0) hg d_Law_walks_22 (by decide) ?_
  exact r_wiret hg hA ⟨by decide, by decide⟩ rfl d_Law_walks_23 rfl
theorem t_Law_walks (v1 : Int32) (v2 : Int32) (v3 : Int32) (μ : HMem) : HSpecW y_Law_walks b_Law_walks 6 (some .int) hh_Law_walks 8 2 h_eI [.ref 84, .int v1, .int v2, .int v3, .ref 143] μ (f_Law_walks v1 v2 v3 μ) :=
  HSpecW.of (by decide +kernel) (Nat.le_of_ble_eq_true rfl) (fun cx hA hg hT => t_Law_walks_0 hg hA hT v1 v2 v3 μ)
theorem t_Law_folds_0 {cx : HCx} (hg : HGood cx R_Law b_Law_folds 5 8 (some .int)) (hA : h_own cx) (hT : HTry cx hh_Law_folds 2) (v1 : Int32) (v2 : Int32) (μ : HMem) : HX cx (HQw cx 2 h_eI) (f_Law_folds v1 v2 μ) 0 0 0 [(0, .ref 84), (1, .int v1), (2, .int v2), (3, .ref 143)] [] μ := by
  unfold f_Law_folds
  refine r_aload_n hg 3 d_Law_folds_0 rfl rfl ?_
  refine r_iconst (v := 0) hg d_Law_folds_1 (by decide) ?_
  refine r_aload_n hg 0 d_Law_folds_2 rfl rfl ?_
  refine r_iload_n hg 1 d_Law_folds_3 rfl rfl ?_
  refine r_iload_n hg 2 d_Law_folds_4 rfl rfl ?_
  refine r_tcallV (As := [.int v1, .int v2]) (L := [(1, 1)]) hg hA hT (t_Bench_folds v1 v2 μ) v_Bench_folds c_Bench rfl (by decide) rfl wm_Law_96 d_Law_folds_5 rfl ⟨by decide, by decide⟩ ⟨by decide, by decide⟩ (Nat.le_of_ble_eq_true rfl) rfl (List.forall_mem_cons.mpr ⟨⟨tableOf (hh_Law_folds.take 0), _, tableOf (hh_Law_folds.drop 1), rfl, List.forall_mem_nil _, by decide, by decide, wk_Law_13, by decide, Or.inr ⟨_, _, d_Law_folds_13, Nat.le_of_ble_eq_true rfl, d_Law_folds_15, rfl, d_Law_folds_16⟩⟩, List.forall_mem_nil _⟩) (fun r5 μ_5 e_5 => ?_)
  refine r_i2l hg d_Law_folds_8 ?_
  refine r_last hg (by decide) rfl d_Law_folds_9 ?_
  refine r_letM (fun μ_9 => ?_)
  refine r_goto (tgt := 17) hg d_Law_folds_10 (by decide) ?_
  refine r_iconst (v := 0) hg d_Law_folds_17 (by decide) ?_
  exact r_wiret hg hA ⟨by decide, by decide⟩ rfl d_Law_folds_18 rfl
theorem t_Law_folds (v1 : Int32) (v2 : Int32) (μ : HMem) : HSpecW y_Law_folds b_Law_folds 5 (some .int) hh_Law_folds 8 2 h_eI [.ref 84, .int v1, .int v2, .ref 143] μ (f_Law_folds v1 v2 μ) :=
  HSpecW.of (by decide +kernel) (Nat.le_of_ble_eq_true rfl) (fun cx hA hg hT => t_Law_folds_0 hg hA hT v1 v2 μ)
theorem t_Law_dismantle_0 {cx : HCx} (hg : HGood cx R_Law b_Law_dismantle 4 8 (some .int)) (hA : h_own cx) (hT : HTry cx hh_Law_dismantle 1) (v1 : Int32) (μ : HMem) : HX cx (HQw cx 1 h_eI) (f_Law_dismantle v1 μ) 0 0 0 [(0, .ref 84), (1, .int v1), (2, .ref 143)] [] μ := by
  unfold f_Law_dismantle
  refine r_aload_n hg 2 d_Law_dismantle_0 rfl rfl ?_
  refine r_iconst (v := 0) hg d_Law_dismantle_1 (by decide) ?_
  refine r_aload_n hg 0 d_Law_dismantle_2 rfl rfl ?_
  refine r_iload_n hg 1 d_Law_dismantle_3 rfl rfl ?_
  refine r_tcallV (As := [.int v1]) (L := [(1, 1)]) hg hA hT (t_Bench_dismantle v1 μ) v_Bench_dismantle c_Bench rfl (by decide) rfl wm_Law_99 d_Law_dismantle_4 rfl ⟨by decide, by decide⟩ ⟨by decide, by decide⟩ (Nat.le_of_ble_eq_true rfl) rfl (List.forall_mem_cons.mpr ⟨⟨tableOf (hh_Law_dismantle.take 0), _, tableOf (hh_Law_dismantle.drop 1), rfl, List.forall_mem_nil _, by decide, by decide, wk_Law_13, by decide, Or.inl ⟨_, _, d_Law_dismantle_12, Nat.le_of_ble_eq_true rfl, d_Law_dismantle_13, rfl, d_Law_dismantle_14⟩⟩, List.forall_mem_nil _⟩) (fun r4 μ_4 e_4 => ?_)
  refine r_i2l hg d_Law_dismantle_7 ?_
  refine r_last hg (by decide) rfl d_Law_dismantle_8 ?_
  refine r_letM (fun μ_8 => ?_)
  refine r_goto (tgt := 15) hg d_Law_dismantle_9 (by decide) ?_
  refine r_iconst (v := 0) hg d_Law_dismantle_15 (by decide) ?_
  exact r_wiret hg hA ⟨by decide, by decide⟩ rfl d_Law_dismantle_16 rfl
theorem t_Law_dismantle (v1 : Int32) (μ : HMem) : HSpecW y_Law_dismantle b_Law_dismantle 4 (some .int) hh_Law_dismantle 8 1 h_eI [.ref 84, .int v1, .ref 143] μ (f_Law_dismantle v1 μ) :=
  HSpecW.of (by decide +kernel) (Nat.le_of_ble_eq_true rfl) (fun cx hA hg hT => t_Law_dismantle_0 hg hA hT v1 μ)
theorem t_Law_isCore_J15 {cx : HCx} (hg : HGood cx R_Law b_Law_isCore 4 23 (some .int)) (hA : h_own cx) (hT : HTry cx hh_Law_isCore 1)   (s0 : Int64) (s1 : Int32) (μ : HMem) : HX cx (HQw cx 1 h_eI) (f_Law_isCore_J15   s0 s1 μ) 1 6 15 [] [.long s0, .int s1, .ref 143] μ := by
  unfold f_Law_isCore_J15
  refine r_last hg (by decide) rfl d_Law_isCore_15 ?_
  refine r_letM (fun μ_15 => ?_)
  refine r_goto (tgt := 22) hg d_Law_isCore_16 (by decide) ?_
  refine r_iconst (v := 0) hg d_Law_isCore_22 (by decide) ?_
  exact r_wiret hg hA ⟨by decide, by decide⟩ rfl d_Law_isCore_23 rfl
theorem t_Law_isCore_0 {cx : HCx} (hg : HGood cx R_Law b_Law_isCore 4 23 (some .int)) (hA : h_own cx) (hT : HTry cx hh_Law_isCore 1) (v1 : Int32) (μ : HMem) : HX cx (HQw cx 1 h_eI) (f_Law_isCore v1 μ) 0 0 0 [(0, .ref 84), (1, .int v1), (2, .ref 143)] [] μ := by
  unfold f_Law_isCore
  refine r_aload_n hg 2 d_Law_isCore_0 rfl rfl ?_
  refine r_iconst (v := 0) hg d_Law_isCore_1 (by decide) ?_
  refine r_aload_n hg 0 d_Law_isCore_2 rfl rfl ?_
  refine r_iload_n hg 1 d_Law_isCore_3 rfl rfl ?_
  refine r_tcallV (As := [.int v1]) (L := [(1, 1)]) hg hA hT (t_Bench_isCore v1 μ) v_Bench_isCore c_Bench rfl (by decide) rfl wm_Law_102 d_Law_isCore_4 rfl ⟨by decide, by decide⟩ ⟨by decide, by decide⟩ (Nat.le_of_ble_eq_true rfl) rfl (List.forall_mem_cons.mpr ⟨⟨tableOf (hh_Law_isCore.take 0), _, tableOf (hh_Law_isCore.drop 1), rfl, List.forall_mem_nil _, by decide, by decide, wk_Law_13, by decide, Or.inl ⟨_, _, d_Law_isCore_19, Nat.le_of_ble_eq_true rfl, d_Law_isCore_20, rfl, d_Law_isCore_21⟩⟩, List.forall_mem_nil _⟩) (fun r4 μ_4 e_4 => ?_)
  refine r_if_eq (tgt := 14) hg d_Law_isCore_7 (by decide) ?_ ?_
  · refine r_lconst (v := 0) hg d_Law_isCore_14 (by decide) ?_
    refine r_sub [] rfl ?_
    exact t_Law_isCore_J15 hg hA hT 0 0 μ_4
  · refine r_lconst (v := 1) hg d_Law_isCore_10 (by decide) ?_
    refine r_goto (tgt := 15) hg d_Law_isCore_11 (by decide) ?_
    refine r_sub [] rfl ?_
    exact t_Law_isCore_J15 hg hA hT 1 0 μ_4
theorem t_Law_isCore (v1 : Int32) (μ : HMem) : HSpecW y_Law_isCore b_Law_isCore 4 (some .int) hh_Law_isCore 23 1 h_eI [.ref 84, .int v1, .ref 143] μ (f_Law_isCore v1 μ) :=
  HSpecW.of (by decide +kernel) (Nat.le_of_ble_eq_true rfl) (fun cx hA hg hT => t_Law_isCore_0 hg hA hT v1 μ)
theorem t_Law_coreSize_0 {cx : HCx} (hg : HGood cx R_Law b_Law_coreSize 4 23 (some .int)) (hA : h_own cx) (hT : HTry cx hh_Law_coreSize 1) (v1 : Int32) (μ : HMem) : HX cx (HQw cx 1 h_eI) (f_Law_coreSize v1 μ) 0 0 0 [(0, .ref 84), (1, .int v1), (2, .ref 143)] [] μ := by
  unfold f_Law_coreSize
  refine r_aload_n hg 2 d_Law_coreSize_0 rfl rfl ?_
  refine r_iconst (v := 0) hg d_Law_coreSize_1 (by decide) ?_
  refine r_aload_n hg 0 d_Law_coreSize_2 rfl rfl ?_
  refine r_iload_n hg 1 d_Law_coreSize_3 rfl rfl ?_
  refine r_tcallV (As := [.int v1]) (L := [(1, 1)]) hg hA hT (t_Bench_coreSize v1 μ) v_Bench_coreSize c_Bench rfl (by decide) rfl wm_Law_106 d_Law_coreSize_4 rfl ⟨by decide, by decide⟩ ⟨by decide, by decide⟩ (Nat.le_of_ble_eq_true rfl) rfl (List.forall_mem_cons.mpr ⟨⟨tableOf (hh_Law_coreSize.take 0), _, tableOf (hh_Law_coreSize.drop 1), rfl, List.forall_mem_nil _, by decide, by decide, wk_Law_13, by decide, Or.inl ⟨_, _, d_Law_coreSize_12, Nat.le_of_ble_eq_true rfl, d_Law_coreSize_13, rfl, d_Law_coreSize_14⟩⟩, List.forall_mem_nil _⟩) (fun r4 μ_4 e_4 => ?_)
  refine r_i2l hg d_Law_coreSize_7 ?_
  refine r_last hg (by decide) rfl d_Law_coreSize_8 ?_
  refine r_letM (fun μ_8 => ?_)
  refine r_goto (tgt := 15) hg d_Law_coreSize_9 (by decide) ?_
  refine r_iconst (v := 0) hg d_Law_coreSize_15 (by decide) ?_
  exact r_wiret hg hA ⟨by decide, by decide⟩ rfl d_Law_coreSize_16 rfl
theorem t_Law_coreSize (v1 : Int32) (μ : HMem) : HSpecW y_Law_coreSize b_Law_coreSize 4 (some .int) hh_Law_coreSize 23 1 h_eI [.ref 84, .int v1, .ref 143] μ (f_Law_coreSize v1 μ) :=
  HSpecW.of (by decide +kernel) (Nat.le_of_ble_eq_true rfl) (fun cx hA hg hT => t_Law_coreSize_0 hg hA hT v1 μ)
theorem t_Law_append_0 {cx : HCx} (hg : HGood cx R_Law b_Law_append 4 8 (some .int)) (hA : h_own cx) (hT : HTry cx hh_Law_append 2) (v1 : Int32) (μ : HMem) : HX cx (HQw cx 2 h_eI) (f_Law_append v1 μ) 0 0 0 [(0, .ref 84), (1, .int v1), (2, .ref 143)] [] μ := by
  unfold f_Law_append
  refine r_aload_n hg 2 d_Law_append_0 rfl rfl ?_
  refine r_iconst (v := 0) hg d_Law_append_1 (by decide) ?_
  refine r_aload_n hg 0 d_Law_append_2 rfl rfl ?_
  refine r_iload_n hg 1 d_Law_append_3 rfl rfl ?_
  refine r_tcallV (As := [.int v1]) (L := [(2, 1), (3, 2)]) hg hA hT (t_Bench_append v1 μ) v_Bench_append c_Bench rfl (by decide) rfl wm_Law_109 d_Law_append_4 rfl ⟨by decide, by decide⟩ ⟨by decide, by decide⟩ (Nat.le_of_ble_eq_true rfl) rfl (List.forall_mem_cons.mpr ⟨⟨tableOf (hh_Law_append.take 0), _, tableOf (hh_Law_append.drop 1), rfl, List.forall_mem_nil _, by decide, by decide, wk_Law_15, by decide, Or.inl ⟨_, _, d_Law_append_12, Nat.le_of_ble_eq_true rfl, d_Law_append_13, rfl, d_Law_append_14⟩⟩, List.forall_mem_cons.mpr ⟨⟨tableOf (hh_Law_append.take 1), _, tableOf (hh_Law_append.drop 2), rfl, List.forall_mem_cons.mpr ⟨⟨by decide, _, wk_Law_15, by decide⟩, List.forall_mem_nil _⟩, by decide, by decide, wk_Law_34, by decide, Or.inl ⟨_, _, d_Law_append_15, Nat.le_of_ble_eq_true rfl, d_Law_append_16, rfl, d_Law_append_17⟩⟩, List.forall_mem_nil _⟩⟩) (fun r4 μ_4 e_4 => ?_)
  refine r_i2l hg d_Law_append_7 ?_
  refine r_last hg (by decide) rfl d_Law_append_8 ?_
  refine r_letM (fun μ_8 => ?_)
  refine r_goto (tgt := 18) hg d_Law_append_9 (by decide) ?_
  refine r_iconst (v := 0) hg d_Law_append_18 (by decide) ?_
  exact r_wiret hg hA ⟨by decide, by decide⟩ rfl d_Law_append_19 rfl
theorem t_Law_append (v1 : Int32) (μ : HMem) : HSpecW y_Law_append b_Law_append 4 (some .int) hh_Law_append 8 2 h_eI [.ref 84, .int v1, .ref 143] μ (f_Law_append v1 μ) :=
  HSpecW.of (by decide +kernel) (Nat.le_of_ble_eq_true rfl) (fun cx hA hg hT => t_Law_append_0 hg hA hT v1 μ)
theorem t_Law_parse_0 {cx : HCx} (hg : HGood cx R_Law b_Law_parse 4 8 (some .int)) (hA : h_own cx) (hT : HTry cx hh_Law_parse 1) (v1 : Int32) (μ : HMem) : HX cx (HQw cx 1 h_eI) (f_Law_parse v1 μ) 0 0 0 [(0, .ref 84), (1, .int v1), (2, .ref 143)] [] μ := by
  unfold f_Law_parse
  refine r_aload_n hg 2 d_Law_parse_0 rfl rfl ?_
  refine r_iconst (v := 0) hg d_Law_parse_1 (by decide) ?_
  refine r_aload_n hg 0 d_Law_parse_2 rfl rfl ?_
  refine r_iload_n hg 1 d_Law_parse_3 rfl rfl ?_
  refine r_tcallV (As := [.int v1]) (L := [(1, 1)]) hg hA hT (t_Bench_parse v1 μ) v_Bench_parse c_Bench rfl (by decide) rfl wm_Law_112 d_Law_parse_4 rfl ⟨by decide, by decide⟩ ⟨by decide, by decide⟩ (Nat.le_of_ble_eq_true rfl) rfl (List.forall_mem_cons.mpr ⟨⟨tableOf (hh_Law_parse.take 0), _, tableOf (hh_Law_parse.drop 1), rfl, List.forall_mem_nil _, by decide, by decide, wk_Law_13, by decide, Or.inl ⟨_, _, d_Law_parse_12, Nat.le_of_ble_eq_true rfl, d_Law_parse_13, rfl, d_Law_parse_14⟩⟩, List.forall_mem_nil _⟩) (fun r4 μ_4 e_4 => ?_)
  refine r_i2l hg d_Law_parse_7 ?_
  refine r_last hg (by decide) rfl d_Law_parse_8 ?_
  refine r_letM (fun μ_8 => ?_)
  refine r_goto (tgt := 15) hg d_Law_parse_9 (by decide) ?_
  refine r_iconst (v := 0) hg d_Law_parse_15 (by decide) ?_
  exact r_wiret hg hA ⟨by decide, by decide⟩ rfl d_Law_parse_16 rfl
theorem t_Law_parse (v1 : Int32) (μ : HMem) : HSpecW y_Law_parse b_Law_parse 4 (some .int) hh_Law_parse 8 1 h_eI [.ref 84, .int v1, .ref 143] μ (f_Law_parse v1 μ) :=
  HSpecW.of (by decide +kernel) (Nat.le_of_ble_eq_true rfl) (fun cx hA hg hT => t_Law_parse_0 hg hA hT v1 μ)
theorem t_Law_written_0 {cx : HCx} (hg : HGood cx R_Law b_Law_written 5 8 (some .int)) (hA : h_own cx) (hT : HTry cx hh_Law_written 2) (v1 : Int32) (v2 : Int32) (μ : HMem) : HX cx (HQw cx 2 h_eI) (f_Law_written v1 v2 μ) 0 0 0 [(0, .ref 84), (1, .int v1), (2, .int v2), (3, .ref 143)] [] μ := by
  unfold f_Law_written
  refine r_aload_n hg 3 d_Law_written_0 rfl rfl ?_
  refine r_iconst (v := 0) hg d_Law_written_1 (by decide) ?_
  refine r_aload_n hg 0 d_Law_written_2 rfl rfl ?_
  refine r_iload_n hg 1 d_Law_written_3 rfl rfl ?_
  refine r_iload_n hg 2 d_Law_written_4 rfl rfl ?_
  refine r_tcallV (As := [.int v1, .int v2]) (L := [(1, 1), (2, 2)]) hg hA hT (t_Bench_written v1 v2 μ) v_Bench_written c_Bench rfl (by decide) rfl wm_Law_115 d_Law_written_5 rfl ⟨by decide, by decide⟩ ⟨by decide, by decide⟩ (Nat.le_of_ble_eq_true rfl) rfl (List.forall_mem_cons.mpr ⟨⟨tableOf (hh_Law_written.take 0), _, tableOf (hh_Law_written.drop 1), rfl, List.forall_mem_nil _, by decide, by decide, wk_Law_13, by decide, Or.inr ⟨_, _, d_Law_written_13, Nat.le_of_ble_eq_true rfl, d_Law_written_15, rfl, d_Law_written_16⟩⟩, List.forall_mem_cons.mpr ⟨⟨tableOf (hh_Law_written.take 1), _, tableOf (hh_Law_written.drop 2), rfl, List.forall_mem_cons.mpr ⟨⟨by decide, _, wk_Law_13, by decide⟩, List.forall_mem_nil _⟩, by decide, by decide, wk_Law_15, by decide, Or.inr ⟨_, _, d_Law_written_17, Nat.le_of_ble_eq_true rfl, d_Law_written_19, rfl, d_Law_written_20⟩⟩, List.forall_mem_nil _⟩⟩) (fun r5 μ_5 e_5 => ?_)
  refine r_i2l hg d_Law_written_8 ?_
  refine r_last hg (by decide) rfl d_Law_written_9 ?_
  refine r_letM (fun μ_9 => ?_)
  refine r_goto (tgt := 21) hg d_Law_written_10 (by decide) ?_
  refine r_iconst (v := 0) hg d_Law_written_21 (by decide) ?_
  exact r_wiret hg hA ⟨by decide, by decide⟩ rfl d_Law_written_22 rfl
theorem t_Law_written (v1 : Int32) (v2 : Int32) (μ : HMem) : HSpecW y_Law_written b_Law_written 5 (some .int) hh_Law_written 8 2 h_eI [.ref 84, .int v1, .int v2, .ref 143] μ (f_Law_written v1 v2 μ) :=
  HSpecW.of (by decide +kernel) (Nat.le_of_ble_eq_true rfl) (fun cx hA hg hT => t_Law_written_0 hg hA hT v1 v2 μ)
theorem t_Law_undo_0 {cx : HCx} (hg : HGood cx R_Law b_Law_undo 3 7 (some .int)) (hA : h_own cx) (hT : HTry cx hh_Law_undo 1)  (μ : HMem) : HX cx (HQw cx 1 h_eI) (f_Law_undo μ) 0 0 0 [(0, .ref 84), (1, .ref 143)] [] μ := by
  unfold f_Law_undo
  refine r_aload_n hg 1 d_Law_undo_0 rfl rfl ?_
  refine r_iconst (v := 0) hg d_Law_undo_1 (by decide) ?_
  refine r_aload_n hg 0 d_Law_undo_2 rfl rfl ?_
  refine r_tcallV (As := []) (L := [(3, 1)]) hg hA hT (t_Bench_undo  μ) v_Bench_undo c_Bench rfl (by decide) rfl wm_Law_118 d_Law_undo_3 rfl ⟨by decide, by decide⟩ ⟨by decide, by decide⟩ (Nat.le_of_ble_eq_true rfl) rfl (List.forall_mem_cons.mpr ⟨⟨tableOf (hh_Law_undo.take 0), _, tableOf (hh_Law_undo.drop 1), rfl, List.forall_mem_nil _, by decide, by decide, wk_Law_34, by decide, Or.inl ⟨_, _, d_Law_undo_11, Nat.le_of_ble_eq_true rfl, d_Law_undo_12, rfl, d_Law_undo_13⟩⟩, List.forall_mem_nil _⟩) (fun r3 μ_3 e_3 => ?_)
  refine r_i2l hg d_Law_undo_6 ?_
  refine r_last hg (by decide) rfl d_Law_undo_7 ?_
  refine r_letM (fun μ_7 => ?_)
  refine r_goto (tgt := 14) hg d_Law_undo_8 (by decide) ?_
  refine r_iconst (v := 0) hg d_Law_undo_14 (by decide) ?_
  exact r_wiret hg hA ⟨by decide, by decide⟩ rfl d_Law_undo_15 rfl
theorem t_Law_undo  (μ : HMem) : HSpecW y_Law_undo b_Law_undo 3 (some .int) hh_Law_undo 7 1 h_eI [.ref 84, .ref 143] μ (f_Law_undo μ) :=
  HSpecW.of (by decide +kernel) (Nat.le_of_ble_eq_true rfl) (fun cx hA hg hT => t_Law_undo_0 hg hA hT  μ)
