/-! pure programs and their proofs: sums (written by gen.py) -/
def y_MapSums_load : MethodName := ⟨R_MapSums, "load", "(LHomBench$Graph;LHomBench$Graph;Z)V"⟩
abbrev b_MapSums_load : ByteArray := prog_7_method_2_code
theorem v_MapSums_load : HVirt y_MapSums_load b_MapSums_load 7 none 3 := ⟨List.forall_mem_cons.mpr ⟨h_inI 834 (by decide +kernel) rfl, List.forall_mem_cons.mpr ⟨h_inI 835 (by decide +kernel) rfl, List.forall_mem_cons.mpr ⟨h_inI 106 (by decide +kernel) rfl, List.forall_mem_cons.mpr ⟨h_inI 836 (by decide +kernel) rfl, fun _ h => absurd h List.not_mem_nil⟩⟩⟩⟩, by decide, by decide, by decide +kernel⟩
def y_MapSums_factor : MethodName := ⟨R_MapSums, "factor", "(II)J"⟩
abbrev b_MapSums_factor : ByteArray := prog_7_method_3_code
theorem v_MapSums_factor : HVirt y_MapSums_factor b_MapSums_factor 6 (some .long) 2 := ⟨List.forall_mem_cons.mpr ⟨h_inI 861 (by decide +kernel) rfl, List.forall_mem_cons.mpr ⟨h_inI 18 (by decide +kernel) rfl, List.forall_mem_cons.mpr ⟨h_inI 106 (by decide +kernel) rfl, List.forall_mem_cons.mpr ⟨h_inI 862 (by decide +kernel) rfl, fun _ h => absurd h List.not_mem_nil⟩⟩⟩⟩, by decide, by decide, by decide +kernel⟩
def y_MapSums_largestPart : MethodName := ⟨R_MapSums, "largestPart", "(LHomBench$Graph;I)I"⟩
abbrev b_MapSums_largestPart : ByteArray := prog_7_method_7_code
theorem v_MapSums_largestPart : HStat y_MapSums_largestPart b_MapSums_largestPart 4 (some .int) 2 := ⟨List.forall_mem_cons.mpr ⟨h_inI 852 (by decide +kernel) rfl, List.forall_mem_cons.mpr ⟨h_inI 106 (by decide +kernel) rfl, List.forall_mem_cons.mpr ⟨h_inI 853 (by decide +kernel) rfl, fun _ h => absurd h List.not_mem_nil⟩⟩⟩, by decide, by decide, by decide +kernel⟩
def y_MapSums_bestSeparator : MethodName := ⟨R_MapSums, "bestSeparator", "(LHomBench$Graph;I)I"⟩
abbrev b_MapSums_bestSeparator : ByteArray := prog_7_method_6_code
theorem v_MapSums_bestSeparator : HStat y_MapSums_bestSeparator b_MapSums_bestSeparator 6 (some .int) 2 := ⟨List.forall_mem_cons.mpr ⟨h_inI 849 (by decide +kernel) rfl, List.forall_mem_cons.mpr ⟨h_inI 106 (by decide +kernel) rfl, List.forall_mem_cons.mpr ⟨h_inI 850 (by decide +kernel) rfl, fun _ h => absurd h List.not_mem_nil⟩⟩⟩, by decide, by decide, by decide +kernel⟩
def y_MapSums_split : MethodName := ⟨R_MapSums, "split", "(LHomBench$MapSums;LHomBench$Graph;III)I"⟩
abbrev b_MapSums_split : ByteArray := prog_7_method_5_code
theorem v_MapSums_split : HStat y_MapSums_split b_MapSums_split 11 (some .int) 5 := ⟨List.forall_mem_cons.mpr ⟨h_inI 844 (by decide +kernel) rfl, List.forall_mem_cons.mpr ⟨h_inI 106 (by decide +kernel) rfl, List.forall_mem_cons.mpr ⟨h_inI 845 (by decide +kernel) rfl, fun _ h => absurd h List.not_mem_nil⟩⟩⟩, by decide, by decide, by decide +kernel⟩
def y_MapSums_sumBelow : MethodName := ⟨R_MapSums, "sumBelow", "(LHomBench$MapSums;II)J"⟩
abbrev b_MapSums_sumBelow : ByteArray := prog_7_method_8_code
theorem v_MapSums_sumBelow : HStat y_MapSums_sumBelow b_MapSums_sumBelow 9 (some .long) 3 := ⟨List.forall_mem_cons.mpr ⟨h_inI 857 (by decide +kernel) rfl, List.forall_mem_cons.mpr ⟨h_inI 106 (by decide +kernel) rfl, List.forall_mem_cons.mpr ⟨h_inI 858 (by decide +kernel) rfl, fun _ h => absurd h List.not_mem_nil⟩⟩⟩, by decide, by decide, by decide +kernel⟩
def y_MapSums_overAllMaps : MethodName := ⟨R_MapSums, "overAllMaps", "(LHomBench$Graph;)J"⟩
abbrev b_MapSums_overAllMaps : ByteArray := prog_7_method_4_code
theorem v_MapSums_overAllMaps : HVirt y_MapSums_overAllMaps b_MapSums_overAllMaps 6 (some .long) 1 := ⟨List.forall_mem_cons.mpr ⟨h_inI 839 (by decide +kernel) rfl, List.forall_mem_cons.mpr ⟨h_inI 840 (by decide +kernel) rfl, List.forall_mem_cons.mpr ⟨h_inI 106 (by decide +kernel) rfl, List.forall_mem_cons.mpr ⟨h_inI 841 (by decide +kernel) rfl, fun _ h => absurd h List.not_mem_nil⟩⟩⟩⟩, by decide, by decide, by decide +kernel⟩
def y_MapSums_sumInjective : MethodName := ⟨R_MapSums, "sumInjective", "(LHomBench$MapSums;II)J"⟩
abbrev b_MapSums_sumInjective : ByteArray := prog_7_method_10_code
theorem v_MapSums_sumInjective : HStat y_MapSums_sumInjective b_MapSums_sumInjective 8 (some .long) 3 := ⟨List.forall_mem_cons.mpr ⟨h_inI 868 (by decide +kernel) rfl, List.forall_mem_cons.mpr ⟨h_inI 106 (by decide +kernel) rfl, List.forall_mem_cons.mpr ⟨h_inI 869 (by decide +kernel) rfl, fun _ h => absurd h List.not_mem_nil⟩⟩⟩, by decide, by decide, by decide +kernel⟩
def y_MapSums_overInjectiveMaps : MethodName := ⟨R_MapSums, "overInjectiveMaps", "()J"⟩
abbrev b_MapSums_overInjectiveMaps : ByteArray := prog_7_method_9_code
theorem v_MapSums_overInjectiveMaps : HVirt y_MapSums_overInjectiveMaps b_MapSums_overInjectiveMaps 1 (some .long) 0 := ⟨List.forall_mem_cons.mpr ⟨h_inI 864 (by decide +kernel) rfl, List.forall_mem_cons.mpr ⟨h_inI 865 (by decide +kernel) rfl, List.forall_mem_cons.mpr ⟨h_inI 106 (by decide +kernel) rfl, List.forall_mem_cons.mpr ⟨h_inI 866 (by decide +kernel) rfl, fun _ h => absurd h List.not_mem_nil⟩⟩⟩⟩, by decide, by decide, by decide +kernel⟩
def y_MapSums_sumOnto : MethodName := ⟨R_MapSums, "sumOnto", "(LHomBench$MapSums;II)J"⟩
abbrev b_MapSums_sumOnto : ByteArray := prog_7_method_12_code
theorem v_MapSums_sumOnto : HStat y_MapSums_sumOnto b_MapSums_sumOnto 8 (some .long) 3 := ⟨List.forall_mem_cons.mpr ⟨h_inI 875 (by decide +kernel) rfl, List.forall_mem_cons.mpr ⟨h_inI 106 (by decide +kernel) rfl, List.forall_mem_cons.mpr ⟨h_inI 876 (by decide +kernel) rfl, fun _ h => absurd h List.not_mem_nil⟩⟩⟩, by decide, by decide, by decide +kernel⟩
def y_MapSums_overOntoMaps : MethodName := ⟨R_MapSums, "overOntoMaps", "()J"⟩
abbrev b_MapSums_overOntoMaps : ByteArray := prog_7_method_11_code
theorem v_MapSums_overOntoMaps : HVirt y_MapSums_overOntoMaps b_MapSums_overOntoMaps 1 (some .long) 0 := ⟨List.forall_mem_cons.mpr ⟨h_inI 871 (by decide +kernel) rfl, List.forall_mem_cons.mpr ⟨h_inI 872 (by decide +kernel) rfl, List.forall_mem_cons.mpr ⟨h_inI 106 (by decide +kernel) rfl, List.forall_mem_cons.mpr ⟨h_inI 873 (by decide +kernel) rfl, fun _ h => absurd h List.not_mem_nil⟩⟩⟩⟩, by decide, by decide, by decide +kernel⟩
def y_MapSums_edgeImages : MethodName := ⟨R_MapSums, "edgeImages", "(I)J"⟩
abbrev b_MapSums_edgeImages : ByteArray := prog_7_method_15_code
theorem v_MapSums_edgeImages : HVirt y_MapSums_edgeImages b_MapSums_edgeImages 7 (some .long) 1 := ⟨List.forall_mem_cons.mpr ⟨h_inI 886 (by decide +kernel) rfl, List.forall_mem_cons.mpr ⟨h_inI 19 (by decide +kernel) rfl, List.forall_mem_cons.mpr ⟨h_inI 106 (by decide +kernel) rfl, List.forall_mem_cons.mpr ⟨h_inI 887 (by decide +kernel) rfl, fun _ h => absurd h List.not_mem_nil⟩⟩⟩⟩, by decide, by decide, by decide +kernel⟩
def y_MapSums_sumEdgeInjective : MethodName := ⟨R_MapSums, "sumEdgeInjective", "(LHomBench$MapSums;IJ)J"⟩
abbrev b_MapSums_sumEdgeInjective : ByteArray := prog_7_method_14_code
theorem v_MapSums_sumEdgeInjective : HStat y_MapSums_sumEdgeInjective b_MapSums_sumEdgeInjective 12 (some .long) 3 := ⟨List.forall_mem_cons.mpr ⟨h_inI 882 (by decide +kernel) rfl, List.forall_mem_cons.mpr ⟨h_inI 106 (by decide +kernel) rfl, List.forall_mem_cons.mpr ⟨h_inI 883 (by decide +kernel) rfl, fun _ h => absurd h List.not_mem_nil⟩⟩⟩, by decide, by decide, by decide +kernel⟩
def y_MapSums_overEdgeInjectiveMaps : MethodName := ⟨R_MapSums, "overEdgeInjectiveMaps", "()J"⟩
abbrev b_MapSums_overEdgeInjectiveMaps : ByteArray := prog_7_method_13_code
theorem v_MapSums_overEdgeInjectiveMaps : HVirt y_MapSums_overEdgeInjectiveMaps b_MapSums_overEdgeInjectiveMaps 1 (some .long) 0 := ⟨List.forall_mem_cons.mpr ⟨h_inI 878 (by decide +kernel) rfl, List.forall_mem_cons.mpr ⟨h_inI 879 (by decide +kernel) rfl, List.forall_mem_cons.mpr ⟨h_inI 106 (by decide +kernel) rfl, List.forall_mem_cons.mpr ⟨h_inI 880 (by decide +kernel) rfl, fun _ h => absurd h List.not_mem_nil⟩⟩⟩⟩, by decide, by decide, by decide +kernel⟩
theorem wf_MapSums_15 : Cond.fieldLink R_MapSums 15 (F_MapSums 3).1 (F_MapSums 3).2.1 (F_MapSums 3).2.2.1 ∈ h_tb := h_inI 260 (by decide +kernel) rfl
theorem wf_MapSums_18 : Cond.fieldLink R_MapSums 18 (F_MapSums 4).1 (F_MapSums 4).2.1 (F_MapSums 4).2.2.1 ∈ h_tb := h_inI 261 (by decide +kernel) rfl
theorem wf_MapSums_27 : Cond.fieldLink R_MapSums 27 (F_Graph 0).1 (F_Graph 0).2.1 (F_Graph 0).2.2.1 ∈ h_tb := h_inI 139 (by decide +kernel) rfl
theorem wf_MapSums_33 : Cond.fieldLink R_MapSums 33 (F_MapSums 0).1 (F_MapSums 0).2.1 (F_MapSums 0).2.2.1 ∈ h_tb := h_inI 257 (by decide +kernel) rfl
theorem wf_MapSums_36 : Cond.fieldLink R_MapSums 36 (F_MapSums 1).1 (F_MapSums 1).2.1 (F_MapSums 1).2.2.1 ∈ h_tb := h_inI 258 (by decide +kernel) rfl
theorem wf_MapSums_39 : Cond.fieldLink R_MapSums 39 (F_Graph 1).1 (F_Graph 1).2.1 (F_Graph 1).2.2.1 ∈ h_tb := h_inI 148 (by decide +kernel) rfl
theorem wf_MapSums_46 : Cond.fieldLink R_MapSums 46 (F_Graph 3).1 (F_Graph 3).2.1 (F_Graph 3).2.2.1 ∈ h_tb := h_inI 156 (by decide +kernel) rfl
theorem wf_MapSums_9 : Cond.fieldLink R_MapSums 9 (F_MapSums 2).1 (F_MapSums 2).2.1 (F_MapSums 2).2.2.1 ∈ h_tb := h_inI 259 (by decide +kernel) rfl
theorem wm_MapSums_42 : Cond.methodLink R_MapSums 42 y_Graph_between ∈ h_tb := h_inI 837 (by decide +kernel) rfl
theorem wf_MapSums_24 : Cond.fieldLink R_MapSums 24 (F_MapSums 6).1 (F_MapSums 6).2.1 (F_MapSums 6).2.2.1 ∈ h_tb := h_inI 263 (by decide +kernel) rfl
theorem wm_MapSums_65 : Cond.methodLink R_MapSums 65 y_Graph_reached ∈ h_tb := h_inI 847 (by decide +kernel) rfl
theorem wm_MapSums_75 : Cond.methodLink R_MapSums 75 y_Integer_bitCount ∈ h_tb := h_inI 854 (by decide +kernel) rfl
theorem wm_MapSums_81 : Cond.methodLink R_MapSums 81 Lib.Math.max.name ∈ h_tb := h_inI 855 (by decide +kernel) rfl
theorem wm_MapSums_72 : Cond.methodLink R_MapSums 72 y_MapSums_largestPart ∈ h_tb := h_inI 851 (by decide +kernel) rfl
theorem wf_MapSums_21 : Cond.fieldLink R_MapSums 21 (F_MapSums 5).1 (F_MapSums 5).2.1 (F_MapSums 5).2.2.1 ∈ h_tb := h_inI 262 (by decide +kernel) rfl
theorem wm_MapSums_57 : Cond.methodLink R_MapSums 57 y_MapSums_split ∈ h_tb := h_inI 843 (by decide +kernel) rfl
theorem wm_MapSums_68 : Cond.methodLink R_MapSums 68 y_MapSums_bestSeparator ∈ h_tb := h_inI 848 (by decide +kernel) rfl
theorem wm_MapSums_61 : Cond.methodLink R_MapSums 61 y_MapSums_sumBelow ∈ h_tb := h_inI 856 (by decide +kernel) rfl
theorem wm_MapSums_86 : Cond.methodLink R_MapSums 86 y_MapSums_factor ∈ h_tb := h_inI 859 (by decide +kernel) rfl
theorem wm_MapSums_53 : Cond.methodLink R_MapSums 53 y_Graph_all ∈ h_tb := h_inI 842 (by decide +kernel) rfl
theorem wm_MapSums_90 : Cond.methodLink R_MapSums 90 y_MapSums_sumInjective ∈ h_tb := h_inI 867 (by decide +kernel) rfl
theorem wm_MapSums_93 : Cond.methodLink R_MapSums 93 y_MapSums_sumOnto ∈ h_tb := h_inI 874 (by decide +kernel) rfl
theorem wm_MapSums_109 : Cond.methodLink R_MapSums 109 Lib.Math.min.name ∈ h_tb := h_inI 888 (by decide +kernel) rfl
theorem wm_MapSums_100 : Cond.methodLink R_MapSums 100 y_MapSums_edgeImages ∈ h_tb := h_inI 884 (by decide +kernel) rfl
theorem wm_MapSums_104 : Cond.methodLink R_MapSums 104 y_Long_bitCount ∈ h_tb := h_inI 889 (by decide +kernel) rfl
theorem wm_MapSums_96 : Cond.methodLink R_MapSums 96 y_MapSums_sumEdgeInjective ∈ h_tb := h_inI 881 (by decide +kernel) rfl
theorem d_MapSums_load_0 : decode b_MapSums_load 0 = .ok (.aload_n 0, 1) := by decide +kernel
theorem d_MapSums_load_1 : decode b_MapSums_load 1 = .ok (.aload_n 1, 1) := by decide +kernel
theorem d_MapSums_load_2 : decode b_MapSums_load 2 = .ok (.getfield 27, 3) := by decide +kernel
theorem d_MapSums_load_5 : decode b_MapSums_load 5 = .ok (.putfield 33, 3) := by decide +kernel
theorem d_MapSums_load_8 : decode b_MapSums_load 8 = .ok (.aload_n 0, 1) := by decide +kernel
theorem d_MapSums_load_9 : decode b_MapSums_load 9 = .ok (.aload_n 2, 1) := by decide +kernel
theorem d_MapSums_load_10 : decode b_MapSums_load 10 = .ok (.getfield 27, 3) := by decide +kernel
theorem d_MapSums_load_13 : decode b_MapSums_load 13 = .ok (.putfield 36, 3) := by decide +kernel
theorem d_MapSums_load_16 : decode b_MapSums_load 16 = .ok (.iconst 0, 1) := by decide +kernel
theorem d_MapSums_load_17 : decode b_MapSums_load 17 = .ok (.istore 4, 2) := by decide +kernel
theorem d_MapSums_load_19 : decode b_MapSums_load 19 = .ok (.iload 4, 2) := by decide +kernel
theorem d_MapSums_load_21 : decode b_MapSums_load 21 = .ok (.aload_n 0, 1) := by decide +kernel
theorem d_MapSums_load_22 : decode b_MapSums_load 22 = .ok (.getfield 36, 3) := by decide +kernel
theorem d_MapSums_load_25 : decode b_MapSums_load 25 = .ok (.if_icmp .ge 87, 3) := by decide +kernel
theorem d_MapSums_load_28 : decode b_MapSums_load 28 = .ok (.aload_n 0, 1) := by decide +kernel
theorem d_MapSums_load_29 : decode b_MapSums_load 29 = .ok (.getfield 9, 3) := by decide +kernel
theorem d_MapSums_load_32 : decode b_MapSums_load 32 = .ok (.iload 4, 2) := by decide +kernel
theorem d_MapSums_load_34 : decode b_MapSums_load 34 = .ok (.iload_n 3, 1) := by decide +kernel
theorem d_MapSums_load_35 : decode b_MapSums_load 35 = .ok (.ifCond .eq 13, 3) := by decide +kernel
theorem d_MapSums_load_38 : decode b_MapSums_load 38 = .ok (.aload_n 2, 1) := by decide +kernel
theorem d_MapSums_load_39 : decode b_MapSums_load 39 = .ok (.getfield 39, 3) := by decide +kernel
theorem d_MapSums_load_42 : decode b_MapSums_load 42 = .ok (.iload 4, 2) := by decide +kernel
theorem d_MapSums_load_44 : decode b_MapSums_load 44 = .ok (.iaload, 1) := by decide +kernel
theorem d_MapSums_load_45 : decode b_MapSums_load 45 = .ok (.goto 4, 3) := by decide +kernel
theorem d_MapSums_load_48 : decode b_MapSums_load 48 = .ok (.iconst 1, 1) := by decide +kernel
theorem d_MapSums_load_49 : decode b_MapSums_load 49 = .ok (.iastore, 1) := by decide +kernel
theorem d_MapSums_load_50 : decode b_MapSums_load 50 = .ok (.iconst 0, 1) := by decide +kernel
theorem d_MapSums_load_51 : decode b_MapSums_load 51 = .ok (.istore 5, 2) := by decide +kernel
theorem d_MapSums_load_53 : decode b_MapSums_load 53 = .ok (.iload 5, 2) := by decide +kernel
theorem d_MapSums_load_55 : decode b_MapSums_load 55 = .ok (.aload_n 0, 1) := by decide +kernel
theorem d_MapSums_load_56 : decode b_MapSums_load 56 = .ok (.getfield 36, 3) := by decide +kernel
theorem d_MapSums_load_59 : decode b_MapSums_load 59 = .ok (.if_icmp .ge 47, 3) := by decide +kernel
theorem d_MapSums_load_62 : decode b_MapSums_load 62 = .ok (.aload_n 2, 1) := by decide +kernel
theorem d_MapSums_load_63 : decode b_MapSums_load 63 = .ok (.iload 4, 2) := by decide +kernel
theorem d_MapSums_load_65 : decode b_MapSums_load 65 = .ok (.iload 5, 2) := by decide +kernel
theorem d_MapSums_load_67 : decode b_MapSums_load 67 = .ok (.invokevirtual 42, 3) := by decide +kernel
theorem d_MapSums_load_70 : decode b_MapSums_load 70 = .ok (.istore 6, 2) := by decide +kernel
theorem d_MapSums_load_72 : decode b_MapSums_load 72 = .ok (.aload_n 0, 1) := by decide +kernel
theorem d_MapSums_load_73 : decode b_MapSums_load 73 = .ok (.getfield 15, 3) := by decide +kernel
theorem d_MapSums_load_76 : decode b_MapSums_load 76 = .ok (.bipush 8, 2) := by decide +kernel
theorem d_MapSums_load_78 : decode b_MapSums_load 78 = .ok (.iload 4, 2) := by decide +kernel
theorem d_MapSums_load_80 : decode b_MapSums_load 80 = .ok (.imul, 1) := by decide +kernel
theorem d_MapSums_load_81 : decode b_MapSums_load 81 = .ok (.iload 5, 2) := by decide +kernel
theorem d_MapSums_load_83 : decode b_MapSums_load 83 = .ok (.iadd, 1) := by decide +kernel
theorem d_MapSums_load_84 : decode b_MapSums_load 84 = .ok (.iload_n 3, 1) := by decide +kernel
theorem d_MapSums_load_85 : decode b_MapSums_load 85 = .ok (.ifCond .ne 8, 3) := by decide +kernel
theorem d_MapSums_load_88 : decode b_MapSums_load 88 = .ok (.iload 6, 2) := by decide +kernel
theorem d_MapSums_load_90 : decode b_MapSums_load 90 = .ok (.ifCond .ne 8, 3) := by decide +kernel
theorem d_MapSums_load_93 : decode b_MapSums_load 93 = .ok (.iload 6, 2) := by decide +kernel
theorem d_MapSums_load_95 : decode b_MapSums_load 95 = .ok (.goto 4, 3) := by decide +kernel
theorem d_MapSums_load_98 : decode b_MapSums_load 98 = .ok (.iconst 1, 1) := by decide +kernel
theorem d_MapSums_load_99 : decode b_MapSums_load 99 = .ok (.iastore, 1) := by decide +kernel
theorem d_MapSums_load_100 : decode b_MapSums_load 100 = .ok (.iinc 5 1, 3) := by decide +kernel
theorem d_MapSums_load_103 : decode b_MapSums_load 103 = .ok (.goto (-50), 3) := by decide +kernel
theorem d_MapSums_load_106 : decode b_MapSums_load 106 = .ok (.iinc 4 1, 3) := by decide +kernel
theorem d_MapSums_load_109 : decode b_MapSums_load 109 = .ok (.goto (-90), 3) := by decide +kernel
theorem d_MapSums_load_112 : decode b_MapSums_load 112 = .ok (.iconst 0, 1) := by decide +kernel
theorem d_MapSums_load_113 : decode b_MapSums_load 113 = .ok (.istore 4, 2) := by decide +kernel
theorem d_MapSums_load_115 : decode b_MapSums_load 115 = .ok (.iload 4, 2) := by decide +kernel
theorem d_MapSums_load_117 : decode b_MapSums_load 117 = .ok (.aload_n 0, 1) := by decide +kernel
theorem d_MapSums_load_118 : decode b_MapSums_load 118 = .ok (.getfield 33, 3) := by decide +kernel
theorem d_MapSums_load_121 : decode b_MapSums_load 121 = .ok (.if_icmp .ge 32, 3) := by decide +kernel
theorem d_MapSums_load_124 : decode b_MapSums_load 124 = .ok (.aload_n 0, 1) := by decide +kernel
theorem d_MapSums_load_125 : decode b_MapSums_load 125 = .ok (.getfield 18, 3) := by decide +kernel
theorem d_MapSums_load_128 : decode b_MapSums_load 128 = .ok (.iload 4, 2) := by decide +kernel
theorem d_MapSums_load_130 : decode b_MapSums_load 130 = .ok (.aload_n 1, 1) := by decide +kernel
theorem d_MapSums_load_131 : decode b_MapSums_load 131 = .ok (.getfield 46, 3) := by decide +kernel
theorem d_MapSums_load_134 : decode b_MapSums_load 134 = .ok (.iload 4, 2) := by decide +kernel
theorem d_MapSums_load_136 : decode b_MapSums_load 136 = .ok (.iaload, 1) := by decide +kernel
theorem d_MapSums_load_137 : decode b_MapSums_load 137 = .ok (.iconst 1, 1) := by decide +kernel
theorem d_MapSums_load_138 : decode b_MapSums_load 138 = .ok (.iload 4, 2) := by decide +kernel
theorem d_MapSums_load_140 : decode b_MapSums_load 140 = .ok (.iconst 1, 1) := by decide +kernel
theorem d_MapSums_load_141 : decode b_MapSums_load 141 = .ok (.iadd, 1) := by decide +kernel
theorem d_MapSums_load_142 : decode b_MapSums_load 142 = .ok (.ishl, 1) := by decide +kernel
theorem d_MapSums_load_143 : decode b_MapSums_load 143 = .ok (.iconst 1, 1) := by decide +kernel
theorem d_MapSums_load_144 : decode b_MapSums_load 144 = .ok (.isub, 1) := by decide +kernel
theorem d_MapSums_load_145 : decode b_MapSums_load 145 = .ok (.iand, 1) := by decide +kernel
theorem d_MapSums_load_146 : decode b_MapSums_load 146 = .ok (.iastore, 1) := by decide +kernel
theorem d_MapSums_load_147 : decode b_MapSums_load 147 = .ok (.iinc 4 1, 3) := by decide +kernel
theorem d_MapSums_load_150 : decode b_MapSums_load 150 = .ok (.goto (-35), 3) := by decide +kernel
theorem d_MapSums_load_153 : decode b_MapSums_load 153 = .ok (.return_, 1) := by decide +kernel
theorem d_MapSums_factor_0 : decode b_MapSums_factor 0 = .ok (.aload_n 0, 1) := by decide +kernel
theorem d_MapSums_factor_1 : decode b_MapSums_factor 1 = .ok (.getfield 24, 3) := by decide +kernel
theorem d_MapSums_factor_4 : decode b_MapSums_factor 4 = .ok (.iload_n 1, 1) := by decide +kernel
theorem d_MapSums_factor_5 : decode b_MapSums_factor 5 = .ok (.iload_n 2, 1) := by decide +kernel
theorem d_MapSums_factor_6 : decode b_MapSums_factor 6 = .ok (.iastore, 1) := by decide +kernel
theorem d_MapSums_factor_7 : decode b_MapSums_factor 7 = .ok (.aload_n 0, 1) := by decide +kernel
theorem d_MapSums_factor_8 : decode b_MapSums_factor 8 = .ok (.getfield 9, 3) := by decide +kernel
theorem d_MapSums_factor_11 : decode b_MapSums_factor 11 = .ok (.iload_n 2, 1) := by decide +kernel
theorem d_MapSums_factor_12 : decode b_MapSums_factor 12 = .ok (.iaload, 1) := by decide +kernel
theorem d_MapSums_factor_13 : decode b_MapSums_factor 13 = .ok (.i2l, 1) := by decide +kernel
theorem d_MapSums_factor_14 : decode b_MapSums_factor 14 = .ok (.lstore_n 3, 1) := by decide +kernel
theorem d_MapSums_factor_15 : decode b_MapSums_factor 15 = .ok (.iconst 0, 1) := by decide +kernel
theorem d_MapSums_factor_16 : decode b_MapSums_factor 16 = .ok (.istore 5, 2) := by decide +kernel
theorem d_MapSums_factor_18 : decode b_MapSums_factor 18 = .ok (.iload 5, 2) := by decide +kernel
theorem d_MapSums_factor_20 : decode b_MapSums_factor 20 = .ok (.aload_n 0, 1) := by decide +kernel
theorem d_MapSums_factor_21 : decode b_MapSums_factor 21 = .ok (.getfield 33, 3) := by decide +kernel
theorem d_MapSums_factor_24 : decode b_MapSums_factor 24 = .ok (.if_icmp .ge 50, 3) := by decide +kernel
theorem d_MapSums_factor_27 : decode b_MapSums_factor 27 = .ok (.lload_n 3, 1) := by decide +kernel
theorem d_MapSums_factor_28 : decode b_MapSums_factor 28 = .ok (.lconst 0, 1) := by decide +kernel
theorem d_MapSums_factor_29 : decode b_MapSums_factor 29 = .ok (.lcmp, 1) := by decide +kernel
theorem d_MapSums_factor_30 : decode b_MapSums_factor 30 = .ok (.ifCond .eq 44, 3) := by decide +kernel
theorem d_MapSums_factor_33 : decode b_MapSums_factor 33 = .ok (.aload_n 0, 1) := by decide +kernel
theorem d_MapSums_factor_34 : decode b_MapSums_factor 34 = .ok (.getfield 18, 3) := by decide +kernel
theorem d_MapSums_factor_37 : decode b_MapSums_factor 37 = .ok (.iload_n 1, 1) := by decide +kernel
theorem d_MapSums_factor_38 : decode b_MapSums_factor 38 = .ok (.iaload, 1) := by decide +kernel
theorem d_MapSums_factor_39 : decode b_MapSums_factor 39 = .ok (.iload 5, 2) := by decide +kernel
theorem d_MapSums_factor_41 : decode b_MapSums_factor 41 = .ok (.invokestatic 49, 3) := by decide +kernel
theorem d_MapSums_factor_44 : decode b_MapSums_factor 44 = .ok (.ifCond .eq 24, 3) := by decide +kernel
theorem d_MapSums_factor_47 : decode b_MapSums_factor 47 = .ok (.lload_n 3, 1) := by decide +kernel
theorem d_MapSums_factor_48 : decode b_MapSums_factor 48 = .ok (.aload_n 0, 1) := by decide +kernel
theorem d_MapSums_factor_49 : decode b_MapSums_factor 49 = .ok (.getfield 15, 3) := by decide +kernel
theorem d_MapSums_factor_52 : decode b_MapSums_factor 52 = .ok (.bipush 8, 2) := by decide +kernel
theorem d_MapSums_factor_54 : decode b_MapSums_factor 54 = .ok (.iload_n 2, 1) := by decide +kernel
theorem d_MapSums_factor_55 : decode b_MapSums_factor 55 = .ok (.imul, 1) := by decide +kernel
theorem d_MapSums_factor_56 : decode b_MapSums_factor 56 = .ok (.aload_n 0, 1) := by decide +kernel
theorem d_MapSums_factor_57 : decode b_MapSums_factor 57 = .ok (.getfield 24, 3) := by decide +kernel
theorem d_MapSums_factor_60 : decode b_MapSums_factor 60 = .ok (.iload 5, 2) := by decide +kernel
theorem d_MapSums_factor_62 : decode b_MapSums_factor 62 = .ok (.iaload, 1) := by decide +kernel
theorem d_MapSums_factor_63 : decode b_MapSums_factor 63 = .ok (.iadd, 1) := by decide +kernel
theorem d_MapSums_factor_64 : decode b_MapSums_factor 64 = .ok (.iaload, 1) := by decide +kernel
theorem d_MapSums_factor_65 : decode b_MapSums_factor 65 = .ok (.i2l, 1) := by decide +kernel
theorem d_MapSums_factor_66 : decode b_MapSums_factor 66 = .ok (.lmul, 1) := by decide +kernel
theorem d_MapSums_factor_67 : decode b_MapSums_factor 67 = .ok (.lstore_n 3, 1) := by decide +kernel
theorem d_MapSums_factor_68 : decode b_MapSums_factor 68 = .ok (.iinc 5 1, 3) := by decide +kernel
theorem d_MapSums_factor_71 : decode b_MapSums_factor 71 = .ok (.goto (-53), 3) := by decide +kernel
theorem d_MapSums_factor_74 : decode b_MapSums_factor 74 = .ok (.lload_n 3, 1) := by decide +kernel
theorem d_MapSums_factor_75 : decode b_MapSums_factor 75 = .ok (.lreturn, 1) := by decide +kernel
theorem d_MapSums_largestPart_0 : decode b_MapSums_largestPart 0 = .ok (.iconst 0, 1) := by decide +kernel
theorem d_MapSums_largestPart_1 : decode b_MapSums_largestPart 1 = .ok (.istore_n 2, 1) := by decide +kernel
theorem d_MapSums_largestPart_2 : decode b_MapSums_largestPart 2 = .ok (.iconst 0, 1) := by decide +kernel
theorem d_MapSums_largestPart_3 : decode b_MapSums_largestPart 3 = .ok (.istore_n 3, 1) := by decide +kernel
theorem d_MapSums_largestPart_4 : decode b_MapSums_largestPart 4 = .ok (.iload_n 3, 1) := by decide +kernel
theorem d_MapSums_largestPart_5 : decode b_MapSums_largestPart 5 = .ok (.aload_n 0, 1) := by decide +kernel
theorem d_MapSums_largestPart_6 : decode b_MapSums_largestPart 6 = .ok (.getfield 27, 3) := by decide +kernel
theorem d_MapSums_largestPart_9 : decode b_MapSums_largestPart 9 = .ok (.if_icmp .ge 31, 3) := by decide +kernel
theorem d_MapSums_largestPart_12 : decode b_MapSums_largestPart 12 = .ok (.iload_n 1, 1) := by decide +kernel
theorem d_MapSums_largestPart_13 : decode b_MapSums_largestPart 13 = .ok (.iload_n 3, 1) := by decide +kernel
theorem d_MapSums_largestPart_14 : decode b_MapSums_largestPart 14 = .ok (.invokestatic 49, 3) := by decide +kernel
theorem d_MapSums_largestPart_17 : decode b_MapSums_largestPart 17 = .ok (.ifCond .eq 17, 3) := by decide +kernel
theorem d_MapSums_largestPart_20 : decode b_MapSums_largestPart 20 = .ok (.iload_n 2, 1) := by decide +kernel
theorem d_MapSums_largestPart_21 : decode b_MapSums_largestPart 21 = .ok (.aload_n 0, 1) := by decide +kernel
theorem d_MapSums_largestPart_22 : decode b_MapSums_largestPart 22 = .ok (.iload_n 3, 1) := by decide +kernel
theorem d_MapSums_largestPart_23 : decode b_MapSums_largestPart 23 = .ok (.iload_n 1, 1) := by decide +kernel
theorem d_MapSums_largestPart_24 : decode b_MapSums_largestPart 24 = .ok (.invokevirtual 65, 3) := by decide +kernel
theorem d_MapSums_largestPart_27 : decode b_MapSums_largestPart 27 = .ok (.invokestatic 75, 3) := by decide +kernel
theorem d_MapSums_largestPart_30 : decode b_MapSums_largestPart 30 = .ok (.invokestatic 81, 3) := by decide +kernel
theorem d_MapSums_largestPart_33 : decode b_MapSums_largestPart 33 = .ok (.istore_n 2, 1) := by decide +kernel
theorem d_MapSums_largestPart_34 : decode b_MapSums_largestPart 34 = .ok (.iinc 3 1, 3) := by decide +kernel
theorem d_MapSums_largestPart_37 : decode b_MapSums_largestPart 37 = .ok (.goto (-33), 3) := by decide +kernel
theorem d_MapSums_largestPart_40 : decode b_MapSums_largestPart 40 = .ok (.iload_n 2, 1) := by decide +kernel
theorem d_MapSums_largestPart_41 : decode b_MapSums_largestPart 41 = .ok (.ireturn, 1) := by decide +kernel
theorem d_MapSums_bestSeparator_0 : decode b_MapSums_bestSeparator 0 = .ok (.iconst 0, 1) := by decide +kernel
theorem d_MapSums_bestSeparator_1 : decode b_MapSums_bestSeparator 1 = .ok (.istore_n 2, 1) := by decide +kernel
theorem d_MapSums_bestSeparator_2 : decode b_MapSums_bestSeparator 2 = .ok (.bipush 9, 2) := by decide +kernel
theorem d_MapSums_bestSeparator_4 : decode b_MapSums_bestSeparator 4 = .ok (.istore_n 3, 1) := by decide +kernel
theorem d_MapSums_bestSeparator_5 : decode b_MapSums_bestSeparator 5 = .ok (.iconst 0, 1) := by decide +kernel
theorem d_MapSums_bestSeparator_6 : decode b_MapSums_bestSeparator 6 = .ok (.istore 4, 2) := by decide +kernel
theorem d_MapSums_bestSeparator_8 : decode b_MapSums_bestSeparator 8 = .ok (.iload 4, 2) := by decide +kernel
theorem d_MapSums_bestSeparator_10 : decode b_MapSums_bestSeparator 10 = .ok (.aload_n 0, 1) := by decide +kernel
theorem d_MapSums_bestSeparator_11 : decode b_MapSums_bestSeparator 11 = .ok (.getfield 27, 3) := by decide +kernel
theorem d_MapSums_bestSeparator_14 : decode b_MapSums_bestSeparator 14 = .ok (.if_icmp .ge 44, 3) := by decide +kernel
theorem d_MapSums_bestSeparator_17 : decode b_MapSums_bestSeparator 17 = .ok (.iload_n 1, 1) := by decide +kernel
theorem d_MapSums_bestSeparator_18 : decode b_MapSums_bestSeparator 18 = .ok (.iload 4, 2) := by decide +kernel
theorem d_MapSums_bestSeparator_20 : decode b_MapSums_bestSeparator 20 = .ok (.invokestatic 49, 3) := by decide +kernel
theorem d_MapSums_bestSeparator_23 : decode b_MapSums_bestSeparator 23 = .ok (.ifCond .eq 29, 3) := by decide +kernel
theorem d_MapSums_bestSeparator_26 : decode b_MapSums_bestSeparator 26 = .ok (.aload_n 0, 1) := by decide +kernel
theorem d_MapSums_bestSeparator_27 : decode b_MapSums_bestSeparator 27 = .ok (.iload_n 1, 1) := by decide +kernel
theorem d_MapSums_bestSeparator_28 : decode b_MapSums_bestSeparator 28 = .ok (.iconst 1, 1) := by decide +kernel
theorem d_MapSums_bestSeparator_29 : decode b_MapSums_bestSeparator 29 = .ok (.iload 4, 2) := by decide +kernel
theorem d_MapSums_bestSeparator_31 : decode b_MapSums_bestSeparator 31 = .ok (.ishl, 1) := by decide +kernel
theorem d_MapSums_bestSeparator_32 : decode b_MapSums_bestSeparator 32 = .ok (.iconst (-1), 1) := by decide +kernel
theorem d_MapSums_bestSeparator_33 : decode b_MapSums_bestSeparator 33 = .ok (.ixor, 1) := by decide +kernel
theorem d_MapSums_bestSeparator_34 : decode b_MapSums_bestSeparator 34 = .ok (.iand, 1) := by decide +kernel
theorem d_MapSums_bestSeparator_35 : decode b_MapSums_bestSeparator 35 = .ok (.invokestatic 72, 3) := by decide +kernel
theorem d_MapSums_bestSeparator_38 : decode b_MapSums_bestSeparator 38 = .ok (.istore 5, 2) := by decide +kernel
theorem d_MapSums_bestSeparator_40 : decode b_MapSums_bestSeparator 40 = .ok (.iload 5, 2) := by decide +kernel
theorem d_MapSums_bestSeparator_42 : decode b_MapSums_bestSeparator 42 = .ok (.iload_n 3, 1) := by decide +kernel
theorem d_MapSums_bestSeparator_43 : decode b_MapSums_bestSeparator 43 = .ok (.if_icmp .ge 9, 3) := by decide +kernel
theorem d_MapSums_bestSeparator_46 : decode b_MapSums_bestSeparator 46 = .ok (.iload 4, 2) := by decide +kernel
theorem d_MapSums_bestSeparator_48 : decode b_MapSums_bestSeparator 48 = .ok (.istore_n 2, 1) := by decide +kernel
theorem d_MapSums_bestSeparator_49 : decode b_MapSums_bestSeparator 49 = .ok (.iload 5, 2) := by decide +kernel
theorem d_MapSums_bestSeparator_51 : decode b_MapSums_bestSeparator 51 = .ok (.istore_n 3, 1) := by decide +kernel
theorem d_MapSums_bestSeparator_52 : decode b_MapSums_bestSeparator 52 = .ok (.iinc 4 1, 3) := by decide +kernel
theorem d_MapSums_bestSeparator_55 : decode b_MapSums_bestSeparator 55 = .ok (.goto (-47), 3) := by decide +kernel
theorem d_MapSums_bestSeparator_58 : decode b_MapSums_bestSeparator 58 = .ok (.iload_n 2, 1) := by decide +kernel
theorem d_MapSums_bestSeparator_59 : decode b_MapSums_bestSeparator 59 = .ok (.ireturn, 1) := by decide +kernel
theorem d_MapSums_split_0 : decode b_MapSums_split 0 = .ok (.iload 4, 2) := by decide +kernel
theorem d_MapSums_split_2 : decode b_MapSums_split 2 = .ok (.bipush 8, 2) := by decide +kernel
theorem d_MapSums_split_4 : decode b_MapSums_split 4 = .ok (.if_icmp .le 5, 3) := by decide +kernel
theorem d_MapSums_split_7 : decode b_MapSums_split 7 = .ok (.iconst 0, 1) := by decide +kernel
theorem d_MapSums_split_8 : decode b_MapSums_split 8 = .ok (.ireturn, 1) := by decide +kernel
theorem d_MapSums_split_9 : decode b_MapSums_split 9 = .ok (.iconst 0, 1) := by decide +kernel
theorem d_MapSums_split_10 : decode b_MapSums_split 10 = .ok (.istore 5, 2) := by decide +kernel
theorem d_MapSums_split_12 : decode b_MapSums_split 12 = .ok (.iload_n 2, 1) := by decide +kernel
theorem d_MapSums_split_13 : decode b_MapSums_split 13 = .ok (.istore 6, 2) := by decide +kernel
theorem d_MapSums_split_15 : decode b_MapSums_split 15 = .ok (.iconst 0, 1) := by decide +kernel
theorem d_MapSums_split_16 : decode b_MapSums_split 16 = .ok (.istore 7, 2) := by decide +kernel
theorem d_MapSums_split_18 : decode b_MapSums_split 18 = .ok (.iload 7, 2) := by decide +kernel
theorem d_MapSums_split_20 : decode b_MapSums_split 20 = .ok (.aload_n 1, 1) := by decide +kernel
theorem d_MapSums_split_21 : decode b_MapSums_split 21 = .ok (.getfield 27, 3) := by decide +kernel
theorem d_MapSums_split_24 : decode b_MapSums_split 24 = .ok (.if_icmp .ge 111, 3) := by decide +kernel
theorem d_MapSums_split_27 : decode b_MapSums_split 27 = .ok (.iload 6, 2) := by decide +kernel
theorem d_MapSums_split_29 : decode b_MapSums_split 29 = .ok (.iload 7, 2) := by decide +kernel
theorem d_MapSums_split_31 : decode b_MapSums_split 31 = .ok (.invokestatic 49, 3) := by decide +kernel
theorem d_MapSums_split_34 : decode b_MapSums_split 34 = .ok (.ifCond .eq 95, 3) := by decide +kernel
theorem d_MapSums_split_37 : decode b_MapSums_split 37 = .ok (.aload_n 1, 1) := by decide +kernel
theorem d_MapSums_split_38 : decode b_MapSums_split 38 = .ok (.iload 7, 2) := by decide +kernel
theorem d_MapSums_split_40 : decode b_MapSums_split 40 = .ok (.iload 6, 2) := by decide +kernel
theorem d_MapSums_split_42 : decode b_MapSums_split 42 = .ok (.invokevirtual 65, 3) := by decide +kernel
theorem d_MapSums_split_45 : decode b_MapSums_split 45 = .ok (.istore 8, 2) := by decide +kernel
theorem d_MapSums_split_47 : decode b_MapSums_split 47 = .ok (.aload_n 1, 1) := by decide +kernel
theorem d_MapSums_split_48 : decode b_MapSums_split 48 = .ok (.iload 8, 2) := by decide +kernel
theorem d_MapSums_split_50 : decode b_MapSums_split 50 = .ok (.invokestatic 68, 3) := by decide +kernel
theorem d_MapSums_split_53 : decode b_MapSums_split 53 = .ok (.istore 9, 2) := by decide +kernel
theorem d_MapSums_split_55 : decode b_MapSums_split 55 = .ok (.iload 8, 2) := by decide +kernel
theorem d_MapSums_split_57 : decode b_MapSums_split 57 = .ok (.iconst 1, 1) := by decide +kernel
theorem d_MapSums_split_58 : decode b_MapSums_split 58 = .ok (.iload 9, 2) := by decide +kernel
theorem d_MapSums_split_60 : decode b_MapSums_split 60 = .ok (.ishl, 1) := by decide +kernel
theorem d_MapSums_split_61 : decode b_MapSums_split 61 = .ok (.iconst (-1), 1) := by decide +kernel
theorem d_MapSums_split_62 : decode b_MapSums_split 62 = .ok (.ixor, 1) := by decide +kernel
theorem d_MapSums_split_63 : decode b_MapSums_split 63 = .ok (.iand, 1) := by decide +kernel
theorem d_MapSums_split_64 : decode b_MapSums_split 64 = .ok (.istore 10, 2) := by decide +kernel
theorem d_MapSums_split_66 : decode b_MapSums_split 66 = .ok (.aload_n 0, 1) := by decide +kernel
theorem d_MapSums_split_67 : decode b_MapSums_split 67 = .ok (.getfield 18, 3) := by decide +kernel
theorem d_MapSums_split_70 : decode b_MapSums_split 70 = .ok (.iload 9, 2) := by decide +kernel
theorem d_MapSums_split_72 : decode b_MapSums_split 72 = .ok (.aload_n 1, 1) := by decide +kernel
theorem d_MapSums_split_73 : decode b_MapSums_split 73 = .ok (.getfield 46, 3) := by decide +kernel
theorem d_MapSums_split_76 : decode b_MapSums_split 76 = .ok (.iload 9, 2) := by decide +kernel
theorem d_MapSums_split_78 : decode b_MapSums_split 78 = .ok (.iaload, 1) := by decide +kernel
theorem d_MapSums_split_79 : decode b_MapSums_split 79 = .ok (.iload_n 3, 1) := by decide +kernel
theorem d_MapSums_split_80 : decode b_MapSums_split 80 = .ok (.iconst 1, 1) := by decide +kernel
theorem d_MapSums_split_81 : decode b_MapSums_split 81 = .ok (.iload 9, 2) := by decide +kernel
theorem d_MapSums_split_83 : decode b_MapSums_split 83 = .ok (.ishl, 1) := by decide +kernel
theorem d_MapSums_split_84 : decode b_MapSums_split 84 = .ok (.ior, 1) := by decide +kernel
theorem d_MapSums_split_85 : decode b_MapSums_split 85 = .ok (.iand, 1) := by decide +kernel
theorem d_MapSums_split_86 : decode b_MapSums_split 86 = .ok (.iastore, 1) := by decide +kernel
theorem d_MapSums_split_87 : decode b_MapSums_split 87 = .ok (.aload_n 0, 1) := by decide +kernel
theorem d_MapSums_split_88 : decode b_MapSums_split 88 = .ok (.getfield 21, 3) := by decide +kernel
theorem d_MapSums_split_91 : decode b_MapSums_split 91 = .ok (.iload 9, 2) := by decide +kernel
theorem d_MapSums_split_93 : decode b_MapSums_split 93 = .ok (.aload_n 0, 1) := by decide +kernel
theorem d_MapSums_split_94 : decode b_MapSums_split 94 = .ok (.aload_n 1, 1) := by decide +kernel
theorem d_MapSums_split_95 : decode b_MapSums_split 95 = .ok (.iload 10, 2) := by decide +kernel
theorem d_MapSums_split_97 : decode b_MapSums_split 97 = .ok (.iload_n 3, 1) := by decide +kernel
theorem d_MapSums_split_98 : decode b_MapSums_split 98 = .ok (.iconst 1, 1) := by decide +kernel
theorem d_MapSums_split_99 : decode b_MapSums_split 99 = .ok (.iload 9, 2) := by decide +kernel
theorem d_MapSums_split_101 : decode b_MapSums_split 101 = .ok (.ishl, 1) := by decide +kernel
theorem d_MapSums_split_102 : decode b_MapSums_split 102 = .ok (.ior, 1) := by decide +kernel
theorem d_MapSums_split_103 : decode b_MapSums_split 103 = .ok (.iload 4, 2) := by decide +kernel
theorem d_MapSums_split_105 : decode b_MapSums_split 105 = .ok (.iconst 1, 1) := by decide +kernel
theorem d_MapSums_split_106 : decode b_MapSums_split 106 = .ok (.iadd, 1) := by decide +kernel
theorem d_MapSums_split_107 : decode b_MapSums_split 107 = .ok (.invokestatic 57, 3) := by decide +kernel
theorem d_MapSums_split_110 : decode b_MapSums_split 110 = .ok (.iastore, 1) := by decide +kernel
theorem d_MapSums_split_111 : decode b_MapSums_split 111 = .ok (.iload 5, 2) := by decide +kernel
theorem d_MapSums_split_113 : decode b_MapSums_split 113 = .ok (.iconst 1, 1) := by decide +kernel
theorem d_MapSums_split_114 : decode b_MapSums_split 114 = .ok (.iload 9, 2) := by decide +kernel
theorem d_MapSums_split_116 : decode b_MapSums_split 116 = .ok (.ishl, 1) := by decide +kernel
theorem d_MapSums_split_117 : decode b_MapSums_split 117 = .ok (.ior, 1) := by decide +kernel
theorem d_MapSums_split_118 : decode b_MapSums_split 118 = .ok (.istore 5, 2) := by decide +kernel
theorem d_MapSums_split_120 : decode b_MapSums_split 120 = .ok (.iload 6, 2) := by decide +kernel
theorem d_MapSums_split_122 : decode b_MapSums_split 122 = .ok (.iload 8, 2) := by decide +kernel
theorem d_MapSums_split_124 : decode b_MapSums_split 124 = .ok (.iconst (-1), 1) := by decide +kernel
theorem d_MapSums_split_125 : decode b_MapSums_split 125 = .ok (.ixor, 1) := by decide +kernel
theorem d_MapSums_split_126 : decode b_MapSums_split 126 = .ok (.iand, 1) := by decide +kernel
theorem d_MapSums_split_127 : decode b_MapSums_split 127 = .ok (.istore 6, 2) := by decide +kernel
theorem d_MapSums_split_129 : decode b_MapSums_split 129 = .ok (.iinc 7 1, 3) := by decide +kernel
theorem d_MapSums_split_132 : decode b_MapSums_split 132 = .ok (.goto (-114), 3) := by decide +kernel
theorem d_MapSums_split_135 : decode b_MapSums_split 135 = .ok (.iload 5, 2) := by decide +kernel
theorem d_MapSums_split_137 : decode b_MapSums_split 137 = .ok (.ireturn, 1) := by decide +kernel
theorem d_MapSums_sumBelow_0 : decode b_MapSums_sumBelow 0 = .ok (.iload_n 2, 1) := by decide +kernel
theorem d_MapSums_sumBelow_1 : decode b_MapSums_sumBelow 1 = .ok (.bipush 8, 2) := by decide +kernel
theorem d_MapSums_sumBelow_3 : decode b_MapSums_sumBelow 3 = .ok (.if_icmp .le 5, 3) := by decide +kernel
theorem d_MapSums_sumBelow_6 : decode b_MapSums_sumBelow 6 = .ok (.lconst 0, 1) := by decide +kernel
theorem d_MapSums_sumBelow_7 : decode b_MapSums_sumBelow 7 = .ok (.lreturn, 1) := by decide +kernel
theorem d_MapSums_sumBelow_8 : decode b_MapSums_sumBelow 8 = .ok (.lconst 0, 1) := by decide +kernel
theorem d_MapSums_sumBelow_9 : decode b_MapSums_sumBelow 9 = .ok (.lstore_n 3, 1) := by decide +kernel
theorem d_MapSums_sumBelow_10 : decode b_MapSums_sumBelow 10 = .ok (.iconst 0, 1) := by decide +kernel
theorem d_MapSums_sumBelow_11 : decode b_MapSums_sumBelow 11 = .ok (.istore 5, 2) := by decide +kernel
theorem d_MapSums_sumBelow_13 : decode b_MapSums_sumBelow 13 = .ok (.iload 5, 2) := by decide +kernel
theorem d_MapSums_sumBelow_15 : decode b_MapSums_sumBelow 15 = .ok (.aload_n 0, 1) := by decide +kernel
theorem d_MapSums_sumBelow_16 : decode b_MapSums_sumBelow 16 = .ok (.getfield 36, 3) := by decide +kernel
theorem d_MapSums_sumBelow_19 : decode b_MapSums_sumBelow 19 = .ok (.if_icmp .ge 76, 3) := by decide +kernel
theorem d_MapSums_sumBelow_22 : decode b_MapSums_sumBelow 22 = .ok (.aload_n 0, 1) := by decide +kernel
theorem d_MapSums_sumBelow_23 : decode b_MapSums_sumBelow 23 = .ok (.iload_n 1, 1) := by decide +kernel
theorem d_MapSums_sumBelow_24 : decode b_MapSums_sumBelow 24 = .ok (.iload 5, 2) := by decide +kernel
theorem d_MapSums_sumBelow_26 : decode b_MapSums_sumBelow 26 = .ok (.invokevirtual 86, 3) := by decide +kernel
theorem d_MapSums_sumBelow_29 : decode b_MapSums_sumBelow 29 = .ok (.lstore 6, 2) := by decide +kernel
theorem d_MapSums_sumBelow_31 : decode b_MapSums_sumBelow 31 = .ok (.iconst 0, 1) := by decide +kernel
theorem d_MapSums_sumBelow_32 : decode b_MapSums_sumBelow 32 = .ok (.istore 8, 2) := by decide +kernel
theorem d_MapSums_sumBelow_34 : decode b_MapSums_sumBelow 34 = .ok (.iload 8, 2) := by decide +kernel
theorem d_MapSums_sumBelow_36 : decode b_MapSums_sumBelow 36 = .ok (.aload_n 0, 1) := by decide +kernel
theorem d_MapSums_sumBelow_37 : decode b_MapSums_sumBelow 37 = .ok (.getfield 33, 3) := by decide +kernel
theorem d_MapSums_sumBelow_40 : decode b_MapSums_sumBelow 40 = .ok (.if_icmp .ge 44, 3) := by decide +kernel
theorem d_MapSums_sumBelow_43 : decode b_MapSums_sumBelow 43 = .ok (.lload 6, 2) := by decide +kernel
theorem d_MapSums_sumBelow_45 : decode b_MapSums_sumBelow 45 = .ok (.lconst 0, 1) := by decide +kernel
theorem d_MapSums_sumBelow_46 : decode b_MapSums_sumBelow 46 = .ok (.lcmp, 1) := by decide +kernel
theorem d_MapSums_sumBelow_47 : decode b_MapSums_sumBelow 47 = .ok (.ifCond .eq 37, 3) := by decide +kernel
theorem d_MapSums_sumBelow_50 : decode b_MapSums_sumBelow 50 = .ok (.aload_n 0, 1) := by decide +kernel
theorem d_MapSums_sumBelow_51 : decode b_MapSums_sumBelow 51 = .ok (.getfield 21, 3) := by decide +kernel
theorem d_MapSums_sumBelow_54 : decode b_MapSums_sumBelow 54 = .ok (.iload_n 1, 1) := by decide +kernel
theorem d_MapSums_sumBelow_55 : decode b_MapSums_sumBelow 55 = .ok (.iaload, 1) := by decide +kernel
theorem d_MapSums_sumBelow_56 : decode b_MapSums_sumBelow 56 = .ok (.iload 8, 2) := by decide +kernel
theorem d_MapSums_sumBelow_58 : decode b_MapSums_sumBelow 58 = .ok (.invokestatic 49, 3) := by decide +kernel
theorem d_MapSums_sumBelow_61 : decode b_MapSums_sumBelow 61 = .ok (.ifCond .eq 17, 3) := by decide +kernel
theorem d_MapSums_sumBelow_64 : decode b_MapSums_sumBelow 64 = .ok (.lload 6, 2) := by decide +kernel
theorem d_MapSums_sumBelow_66 : decode b_MapSums_sumBelow 66 = .ok (.aload_n 0, 1) := by decide +kernel
theorem d_MapSums_sumBelow_67 : decode b_MapSums_sumBelow 67 = .ok (.iload 8, 2) := by decide +kernel
theorem d_MapSums_sumBelow_69 : decode b_MapSums_sumBelow 69 = .ok (.iload_n 2, 1) := by decide +kernel
theorem d_MapSums_sumBelow_70 : decode b_MapSums_sumBelow 70 = .ok (.iconst 1, 1) := by decide +kernel
theorem d_MapSums_sumBelow_71 : decode b_MapSums_sumBelow 71 = .ok (.iadd, 1) := by decide +kernel
theorem d_MapSums_sumBelow_72 : decode b_MapSums_sumBelow 72 = .ok (.invokestatic 61, 3) := by decide +kernel
theorem d_MapSums_sumBelow_75 : decode b_MapSums_sumBelow 75 = .ok (.lmul, 1) := by decide +kernel
theorem d_MapSums_sumBelow_76 : decode b_MapSums_sumBelow 76 = .ok (.lstore 6, 2) := by decide +kernel
theorem d_MapSums_sumBelow_78 : decode b_MapSums_sumBelow 78 = .ok (.iinc 8 1, 3) := by decide +kernel
theorem d_MapSums_sumBelow_81 : decode b_MapSums_sumBelow 81 = .ok (.goto (-47), 3) := by decide +kernel
theorem d_MapSums_sumBelow_84 : decode b_MapSums_sumBelow 84 = .ok (.lload_n 3, 1) := by decide +kernel
theorem d_MapSums_sumBelow_85 : decode b_MapSums_sumBelow 85 = .ok (.lload 6, 2) := by decide +kernel
theorem d_MapSums_sumBelow_87 : decode b_MapSums_sumBelow 87 = .ok (.ladd, 1) := by decide +kernel
theorem d_MapSums_sumBelow_88 : decode b_MapSums_sumBelow 88 = .ok (.lstore_n 3, 1) := by decide +kernel
theorem d_MapSums_sumBelow_89 : decode b_MapSums_sumBelow 89 = .ok (.iinc 5 1, 3) := by decide +kernel
theorem d_MapSums_sumBelow_92 : decode b_MapSums_sumBelow 92 = .ok (.goto (-79), 3) := by decide +kernel
theorem d_MapSums_sumBelow_95 : decode b_MapSums_sumBelow 95 = .ok (.lload_n 3, 1) := by decide +kernel
theorem d_MapSums_sumBelow_96 : decode b_MapSums_sumBelow 96 = .ok (.lreturn, 1) := by decide +kernel
theorem d_MapSums_overAllMaps_0 : decode b_MapSums_overAllMaps 0 = .ok (.aload_n 0, 1) := by decide +kernel
theorem d_MapSums_overAllMaps_1 : decode b_MapSums_overAllMaps 1 = .ok (.aload_n 1, 1) := by decide +kernel
theorem d_MapSums_overAllMaps_2 : decode b_MapSums_overAllMaps 2 = .ok (.aload_n 1, 1) := by decide +kernel
theorem d_MapSums_overAllMaps_3 : decode b_MapSums_overAllMaps 3 = .ok (.invokevirtual 53, 3) := by decide +kernel
theorem d_MapSums_overAllMaps_6 : decode b_MapSums_overAllMaps 6 = .ok (.iconst 0, 1) := by decide +kernel
theorem d_MapSums_overAllMaps_7 : decode b_MapSums_overAllMaps 7 = .ok (.iconst 0, 1) := by decide +kernel
theorem d_MapSums_overAllMaps_8 : decode b_MapSums_overAllMaps 8 = .ok (.invokestatic 57, 3) := by decide +kernel
theorem d_MapSums_overAllMaps_11 : decode b_MapSums_overAllMaps 11 = .ok (.istore_n 2, 1) := by decide +kernel
theorem d_MapSums_overAllMaps_12 : decode b_MapSums_overAllMaps 12 = .ok (.lconst 1, 1) := by decide +kernel
theorem d_MapSums_overAllMaps_13 : decode b_MapSums_overAllMaps 13 = .ok (.lstore_n 3, 1) := by decide +kernel
theorem d_MapSums_overAllMaps_14 : decode b_MapSums_overAllMaps 14 = .ok (.iconst 0, 1) := by decide +kernel
theorem d_MapSums_overAllMaps_15 : decode b_MapSums_overAllMaps 15 = .ok (.istore 5, 2) := by decide +kernel
theorem d_MapSums_overAllMaps_17 : decode b_MapSums_overAllMaps 17 = .ok (.iload 5, 2) := by decide +kernel
theorem d_MapSums_overAllMaps_19 : decode b_MapSums_overAllMaps 19 = .ok (.aload_n 0, 1) := by decide +kernel
theorem d_MapSums_overAllMaps_20 : decode b_MapSums_overAllMaps 20 = .ok (.getfield 33, 3) := by decide +kernel
theorem d_MapSums_overAllMaps_23 : decode b_MapSums_overAllMaps 23 = .ok (.if_icmp .ge 34, 3) := by decide +kernel
theorem d_MapSums_overAllMaps_26 : decode b_MapSums_overAllMaps 26 = .ok (.lload_n 3, 1) := by decide +kernel
theorem d_MapSums_overAllMaps_27 : decode b_MapSums_overAllMaps 27 = .ok (.lconst 0, 1) := by decide +kernel
theorem d_MapSums_overAllMaps_28 : decode b_MapSums_overAllMaps 28 = .ok (.lcmp, 1) := by decide +kernel
theorem d_MapSums_overAllMaps_29 : decode b_MapSums_overAllMaps 29 = .ok (.ifCond .eq 28, 3) := by decide +kernel
theorem d_MapSums_overAllMaps_32 : decode b_MapSums_overAllMaps 32 = .ok (.iload_n 2, 1) := by decide +kernel
theorem d_MapSums_overAllMaps_33 : decode b_MapSums_overAllMaps 33 = .ok (.iload 5, 2) := by decide +kernel
theorem d_MapSums_overAllMaps_35 : decode b_MapSums_overAllMaps 35 = .ok (.invokestatic 49, 3) := by decide +kernel
theorem d_MapSums_overAllMaps_38 : decode b_MapSums_overAllMaps 38 = .ok (.ifCond .eq 13, 3) := by decide +kernel
theorem d_MapSums_overAllMaps_41 : decode b_MapSums_overAllMaps 41 = .ok (.lload_n 3, 1) := by decide +kernel
theorem d_MapSums_overAllMaps_42 : decode b_MapSums_overAllMaps 42 = .ok (.aload_n 0, 1) := by decide +kernel
theorem d_MapSums_overAllMaps_43 : decode b_MapSums_overAllMaps 43 = .ok (.iload 5, 2) := by decide +kernel
theorem d_MapSums_overAllMaps_45 : decode b_MapSums_overAllMaps 45 = .ok (.iconst 0, 1) := by decide +kernel
theorem d_MapSums_overAllMaps_46 : decode b_MapSums_overAllMaps 46 = .ok (.invokestatic 61, 3) := by decide +kernel
theorem d_MapSums_overAllMaps_49 : decode b_MapSums_overAllMaps 49 = .ok (.lmul, 1) := by decide +kernel
theorem d_MapSums_overAllMaps_50 : decode b_MapSums_overAllMaps 50 = .ok (.lstore_n 3, 1) := by decide +kernel
theorem d_MapSums_overAllMaps_51 : decode b_MapSums_overAllMaps 51 = .ok (.iinc 5 1, 3) := by decide +kernel
theorem d_MapSums_overAllMaps_54 : decode b_MapSums_overAllMaps 54 = .ok (.goto (-37), 3) := by decide +kernel
theorem d_MapSums_overAllMaps_57 : decode b_MapSums_overAllMaps 57 = .ok (.lload_n 3, 1) := by decide +kernel
theorem d_MapSums_overAllMaps_58 : decode b_MapSums_overAllMaps 58 = .ok (.lreturn, 1) := by decide +kernel
theorem d_MapSums_sumInjective_0 : decode b_MapSums_sumInjective 0 = .ok (.iload_n 1, 1) := by decide +kernel
theorem d_MapSums_sumInjective_1 : decode b_MapSums_sumInjective 1 = .ok (.aload_n 0, 1) := by decide +kernel
theorem d_MapSums_sumInjective_2 : decode b_MapSums_sumInjective 2 = .ok (.getfield 33, 3) := by decide +kernel
theorem d_MapSums_sumInjective_5 : decode b_MapSums_sumInjective 5 = .ok (.if_icmp .lt 5, 3) := by decide +kernel
theorem d_MapSums_sumInjective_8 : decode b_MapSums_sumInjective 8 = .ok (.lconst 1, 1) := by decide +kernel
theorem d_MapSums_sumInjective_9 : decode b_MapSums_sumInjective 9 = .ok (.lreturn, 1) := by decide +kernel
theorem d_MapSums_sumInjective_10 : decode b_MapSums_sumInjective 10 = .ok (.lconst 0, 1) := by decide +kernel
theorem d_MapSums_sumInjective_11 : decode b_MapSums_sumInjective 11 = .ok (.lstore_n 3, 1) := by decide +kernel
theorem d_MapSums_sumInjective_12 : decode b_MapSums_sumInjective 12 = .ok (.iconst 0, 1) := by decide +kernel
theorem d_MapSums_sumInjective_13 : decode b_MapSums_sumInjective 13 = .ok (.istore 5, 2) := by decide +kernel
theorem d_MapSums_sumInjective_15 : decode b_MapSums_sumInjective 15 = .ok (.iload 5, 2) := by decide +kernel
theorem d_MapSums_sumInjective_17 : decode b_MapSums_sumInjective 17 = .ok (.aload_n 0, 1) := by decide +kernel
theorem d_MapSums_sumInjective_18 : decode b_MapSums_sumInjective 18 = .ok (.getfield 36, 3) := by decide +kernel
theorem d_MapSums_sumInjective_21 : decode b_MapSums_sumInjective 21 = .ok (.if_icmp .ge 57, 3) := by decide +kernel
theorem d_MapSums_sumInjective_24 : decode b_MapSums_sumInjective 24 = .ok (.iload_n 2, 1) := by decide +kernel
theorem d_MapSums_sumInjective_25 : decode b_MapSums_sumInjective 25 = .ok (.iload 5, 2) := by decide +kernel
theorem d_MapSums_sumInjective_27 : decode b_MapSums_sumInjective 27 = .ok (.invokestatic 49, 3) := by decide +kernel
theorem d_MapSums_sumInjective_30 : decode b_MapSums_sumInjective 30 = .ok (.ifCond .eq 7, 3) := by decide +kernel
theorem d_MapSums_sumInjective_33 : decode b_MapSums_sumInjective 33 = .ok (.lconst 0, 1) := by decide +kernel
theorem d_MapSums_sumInjective_34 : decode b_MapSums_sumInjective 34 = .ok (.goto 10, 3) := by decide +kernel
theorem d_MapSums_sumInjective_37 : decode b_MapSums_sumInjective 37 = .ok (.aload_n 0, 1) := by decide +kernel
theorem d_MapSums_sumInjective_38 : decode b_MapSums_sumInjective 38 = .ok (.iload_n 1, 1) := by decide +kernel
theorem d_MapSums_sumInjective_39 : decode b_MapSums_sumInjective 39 = .ok (.iload 5, 2) := by decide +kernel
theorem d_MapSums_sumInjective_41 : decode b_MapSums_sumInjective 41 = .ok (.invokevirtual 86, 3) := by decide +kernel
theorem d_MapSums_sumInjective_44 : decode b_MapSums_sumInjective 44 = .ok (.lstore 6, 2) := by decide +kernel
theorem d_MapSums_sumInjective_46 : decode b_MapSums_sumInjective 46 = .ok (.lload 6, 2) := by decide +kernel
theorem d_MapSums_sumInjective_48 : decode b_MapSums_sumInjective 48 = .ok (.lconst 0, 1) := by decide +kernel
theorem d_MapSums_sumInjective_49 : decode b_MapSums_sumInjective 49 = .ok (.lcmp, 1) := by decide +kernel
theorem d_MapSums_sumInjective_50 : decode b_MapSums_sumInjective 50 = .ok (.ifCond .eq 22, 3) := by decide +kernel
theorem d_MapSums_sumInjective_53 : decode b_MapSums_sumInjective 53 = .ok (.lload_n 3, 1) := by decide +kernel
theorem d_MapSums_sumInjective_54 : decode b_MapSums_sumInjective 54 = .ok (.lload 6, 2) := by decide +kernel
theorem d_MapSums_sumInjective_56 : decode b_MapSums_sumInjective 56 = .ok (.aload_n 0, 1) := by decide +kernel
theorem d_MapSums_sumInjective_57 : decode b_MapSums_sumInjective 57 = .ok (.iload_n 1, 1) := by decide +kernel
theorem d_MapSums_sumInjective_58 : decode b_MapSums_sumInjective 58 = .ok (.iconst 1, 1) := by decide +kernel
theorem d_MapSums_sumInjective_59 : decode b_MapSums_sumInjective 59 = .ok (.iadd, 1) := by decide +kernel
theorem d_MapSums_sumInjective_60 : decode b_MapSums_sumInjective 60 = .ok (.iload_n 2, 1) := by decide +kernel
theorem d_MapSums_sumInjective_61 : decode b_MapSums_sumInjective 61 = .ok (.iconst 1, 1) := by decide +kernel
theorem d_MapSums_sumInjective_62 : decode b_MapSums_sumInjective 62 = .ok (.iload 5, 2) := by decide +kernel
theorem d_MapSums_sumInjective_64 : decode b_MapSums_sumInjective 64 = .ok (.ishl, 1) := by decide +kernel
theorem d_MapSums_sumInjective_65 : decode b_MapSums_sumInjective 65 = .ok (.ior, 1) := by decide +kernel
theorem d_MapSums_sumInjective_66 : decode b_MapSums_sumInjective 66 = .ok (.invokestatic 90, 3) := by decide +kernel
theorem d_MapSums_sumInjective_69 : decode b_MapSums_sumInjective 69 = .ok (.lmul, 1) := by decide +kernel
theorem d_MapSums_sumInjective_70 : decode b_MapSums_sumInjective 70 = .ok (.ladd, 1) := by decide +kernel
theorem d_MapSums_sumInjective_71 : decode b_MapSums_sumInjective 71 = .ok (.lstore_n 3, 1) := by decide +kernel
theorem d_MapSums_sumInjective_72 : decode b_MapSums_sumInjective 72 = .ok (.iinc 5 1, 3) := by decide +kernel
theorem d_MapSums_sumInjective_75 : decode b_MapSums_sumInjective 75 = .ok (.goto (-60), 3) := by decide +kernel
theorem d_MapSums_sumInjective_78 : decode b_MapSums_sumInjective 78 = .ok (.lload_n 3, 1) := by decide +kernel
theorem d_MapSums_sumInjective_79 : decode b_MapSums_sumInjective 79 = .ok (.lreturn, 1) := by decide +kernel
theorem d_MapSums_overInjectiveMaps_0 : decode b_MapSums_overInjectiveMaps 0 = .ok (.aload_n 0, 1) := by decide +kernel
theorem d_MapSums_overInjectiveMaps_1 : decode b_MapSums_overInjectiveMaps 1 = .ok (.iconst 0, 1) := by decide +kernel
theorem d_MapSums_overInjectiveMaps_2 : decode b_MapSums_overInjectiveMaps 2 = .ok (.iconst 0, 1) := by decide +kernel
theorem d_MapSums_overInjectiveMaps_3 : decode b_MapSums_overInjectiveMaps 3 = .ok (.invokestatic 90, 3) := by decide +kernel
theorem d_MapSums_overInjectiveMaps_6 : decode b_MapSums_overInjectiveMaps 6 = .ok (.lreturn, 1) := by decide +kernel
theorem d_MapSums_sumOnto_0 : decode b_MapSums_sumOnto 0 = .ok (.aload_n 0, 1) := by decide +kernel
theorem d_MapSums_sumOnto_1 : decode b_MapSums_sumOnto 1 = .ok (.getfield 36, 3) := by decide +kernel
theorem d_MapSums_sumOnto_4 : decode b_MapSums_sumOnto 4 = .ok (.iload_n 2, 1) := by decide +kernel
theorem d_MapSums_sumOnto_5 : decode b_MapSums_sumOnto 5 = .ok (.invokestatic 75, 3) := by decide +kernel
theorem d_MapSums_sumOnto_8 : decode b_MapSums_sumOnto 8 = .ok (.isub, 1) := by decide +kernel
theorem d_MapSums_sumOnto_9 : decode b_MapSums_sumOnto 9 = .ok (.aload_n 0, 1) := by decide +kernel
theorem d_MapSums_sumOnto_10 : decode b_MapSums_sumOnto 10 = .ok (.getfield 33, 3) := by decide +kernel
theorem d_MapSums_sumOnto_13 : decode b_MapSums_sumOnto 13 = .ok (.iload_n 1, 1) := by decide +kernel
theorem d_MapSums_sumOnto_14 : decode b_MapSums_sumOnto 14 = .ok (.isub, 1) := by decide +kernel
theorem d_MapSums_sumOnto_15 : decode b_MapSums_sumOnto 15 = .ok (.if_icmp .le 5, 3) := by decide +kernel
theorem d_MapSums_sumOnto_18 : decode b_MapSums_sumOnto 18 = .ok (.lconst 0, 1) := by decide +kernel
theorem d_MapSums_sumOnto_19 : decode b_MapSums_sumOnto 19 = .ok (.lreturn, 1) := by decide +kernel
theorem d_MapSums_sumOnto_20 : decode b_MapSums_sumOnto 20 = .ok (.iload_n 1, 1) := by decide +kernel
theorem d_MapSums_sumOnto_21 : decode b_MapSums_sumOnto 21 = .ok (.aload_n 0, 1) := by decide +kernel
theorem d_MapSums_sumOnto_22 : decode b_MapSums_sumOnto 22 = .ok (.getfield 33, 3) := by decide +kernel
theorem d_MapSums_sumOnto_25 : decode b_MapSums_sumOnto 25 = .ok (.if_icmp .lt 5, 3) := by decide +kernel
theorem d_MapSums_sumOnto_28 : decode b_MapSums_sumOnto 28 = .ok (.lconst 1, 1) := by decide +kernel
theorem d_MapSums_sumOnto_29 : decode b_MapSums_sumOnto 29 = .ok (.lreturn, 1) := by decide +kernel
theorem d_MapSums_sumOnto_30 : decode b_MapSums_sumOnto 30 = .ok (.lconst 0, 1) := by decide +kernel
theorem d_MapSums_sumOnto_31 : decode b_MapSums_sumOnto 31 = .ok (.lstore_n 3, 1) := by decide +kernel
theorem d_MapSums_sumOnto_32 : decode b_MapSums_sumOnto 32 = .ok (.iconst 0, 1) := by decide +kernel
theorem d_MapSums_sumOnto_33 : decode b_MapSums_sumOnto 33 = .ok (.istore 5, 2) := by decide +kernel
theorem d_MapSums_sumOnto_35 : decode b_MapSums_sumOnto 35 = .ok (.iload 5, 2) := by decide +kernel
theorem d_MapSums_sumOnto_37 : decode b_MapSums_sumOnto 37 = .ok (.aload_n 0, 1) := by decide +kernel
theorem d_MapSums_sumOnto_38 : decode b_MapSums_sumOnto 38 = .ok (.getfield 36, 3) := by decide +kernel
theorem d_MapSums_sumOnto_41 : decode b_MapSums_sumOnto 41 = .ok (.if_icmp .ge 44, 3) := by decide +kernel
theorem d_MapSums_sumOnto_44 : decode b_MapSums_sumOnto 44 = .ok (.aload_n 0, 1) := by decide +kernel
theorem d_MapSums_sumOnto_45 : decode b_MapSums_sumOnto 45 = .ok (.iload_n 1, 1) := by decide +kernel
theorem d_MapSums_sumOnto_46 : decode b_MapSums_sumOnto 46 = .ok (.iload 5, 2) := by decide +kernel
theorem d_MapSums_sumOnto_48 : decode b_MapSums_sumOnto 48 = .ok (.invokevirtual 86, 3) := by decide +kernel
theorem d_MapSums_sumOnto_51 : decode b_MapSums_sumOnto 51 = .ok (.lstore 6, 2) := by decide +kernel
theorem d_MapSums_sumOnto_53 : decode b_MapSums_sumOnto 53 = .ok (.lload 6, 2) := by decide +kernel
theorem d_MapSums_sumOnto_55 : decode b_MapSums_sumOnto 55 = .ok (.lconst 0, 1) := by decide +kernel
theorem d_MapSums_sumOnto_56 : decode b_MapSums_sumOnto 56 = .ok (.lcmp, 1) := by decide +kernel
theorem d_MapSums_sumOnto_57 : decode b_MapSums_sumOnto 57 = .ok (.ifCond .eq 22, 3) := by decide +kernel
theorem d_MapSums_sumOnto_60 : decode b_MapSums_sumOnto 60 = .ok (.lload_n 3, 1) := by decide +kernel
theorem d_MapSums_sumOnto_61 : decode b_MapSums_sumOnto 61 = .ok (.lload 6, 2) := by decide +kernel
theorem d_MapSums_sumOnto_63 : decode b_MapSums_sumOnto 63 = .ok (.aload_n 0, 1) := by decide +kernel
theorem d_MapSums_sumOnto_64 : decode b_MapSums_sumOnto 64 = .ok (.iload_n 1, 1) := by decide +kernel
theorem d_MapSums_sumOnto_65 : decode b_MapSums_sumOnto 65 = .ok (.iconst 1, 1) := by decide +kernel
theorem d_MapSums_sumOnto_66 : decode b_MapSums_sumOnto 66 = .ok (.iadd, 1) := by decide +kernel
theorem d_MapSums_sumOnto_67 : decode b_MapSums_sumOnto 67 = .ok (.iload_n 2, 1) := by decide +kernel
theorem d_MapSums_sumOnto_68 : decode b_MapSums_sumOnto 68 = .ok (.iconst 1, 1) := by decide +kernel
theorem d_MapSums_sumOnto_69 : decode b_MapSums_sumOnto 69 = .ok (.iload 5, 2) := by decide +kernel
theorem d_MapSums_sumOnto_71 : decode b_MapSums_sumOnto 71 = .ok (.ishl, 1) := by decide +kernel
theorem d_MapSums_sumOnto_72 : decode b_MapSums_sumOnto 72 = .ok (.ior, 1) := by decide +kernel
theorem d_MapSums_sumOnto_73 : decode b_MapSums_sumOnto 73 = .ok (.invokestatic 93, 3) := by decide +kernel
theorem d_MapSums_sumOnto_76 : decode b_MapSums_sumOnto 76 = .ok (.lmul, 1) := by decide +kernel
theorem d_MapSums_sumOnto_77 : decode b_MapSums_sumOnto 77 = .ok (.ladd, 1) := by decide +kernel
theorem d_MapSums_sumOnto_78 : decode b_MapSums_sumOnto 78 = .ok (.lstore_n 3, 1) := by decide +kernel
theorem d_MapSums_sumOnto_79 : decode b_MapSums_sumOnto 79 = .ok (.iinc 5 1, 3) := by decide +kernel
theorem d_MapSums_sumOnto_82 : decode b_MapSums_sumOnto 82 = .ok (.goto (-47), 3) := by decide +kernel
theorem d_MapSums_sumOnto_85 : decode b_MapSums_sumOnto 85 = .ok (.lload_n 3, 1) := by decide +kernel
theorem d_MapSums_sumOnto_86 : decode b_MapSums_sumOnto 86 = .ok (.lreturn, 1) := by decide +kernel
theorem d_MapSums_overOntoMaps_0 : decode b_MapSums_overOntoMaps 0 = .ok (.aload_n 0, 1) := by decide +kernel
theorem d_MapSums_overOntoMaps_1 : decode b_MapSums_overOntoMaps 1 = .ok (.iconst 0, 1) := by decide +kernel
theorem d_MapSums_overOntoMaps_2 : decode b_MapSums_overOntoMaps 2 = .ok (.iconst 0, 1) := by decide +kernel
theorem d_MapSums_overOntoMaps_3 : decode b_MapSums_overOntoMaps 3 = .ok (.invokestatic 93, 3) := by decide +kernel
theorem d_MapSums_overOntoMaps_6 : decode b_MapSums_overOntoMaps 6 = .ok (.lreturn, 1) := by decide +kernel
theorem d_MapSums_edgeImages_0 : decode b_MapSums_edgeImages 0 = .ok (.lconst 0, 1) := by decide +kernel
theorem d_MapSums_edgeImages_1 : decode b_MapSums_edgeImages 1 = .ok (.lstore_n 2, 1) := by decide +kernel
theorem d_MapSums_edgeImages_2 : decode b_MapSums_edgeImages 2 = .ok (.aload_n 0, 1) := by decide +kernel
theorem d_MapSums_edgeImages_3 : decode b_MapSums_edgeImages 3 = .ok (.getfield 24, 3) := by decide +kernel
theorem d_MapSums_edgeImages_6 : decode b_MapSums_edgeImages 6 = .ok (.iload_n 1, 1) := by decide +kernel
theorem d_MapSums_edgeImages_7 : decode b_MapSums_edgeImages 7 = .ok (.iaload, 1) := by decide +kernel
theorem d_MapSums_edgeImages_8 : decode b_MapSums_edgeImages 8 = .ok (.istore 4, 2) := by decide +kernel
theorem d_MapSums_edgeImages_10 : decode b_MapSums_edgeImages 10 = .ok (.iconst 0, 1) := by decide +kernel
theorem d_MapSums_edgeImages_11 : decode b_MapSums_edgeImages 11 = .ok (.istore 5, 2) := by decide +kernel
theorem d_MapSums_edgeImages_13 : decode b_MapSums_edgeImages 13 = .ok (.iload 5, 2) := by decide +kernel
theorem d_MapSums_edgeImages_15 : decode b_MapSums_edgeImages 15 = .ok (.iload_n 1, 1) := by decide +kernel
theorem d_MapSums_edgeImages_16 : decode b_MapSums_edgeImages 16 = .ok (.if_icmp .ge 55, 3) := by decide +kernel
theorem d_MapSums_edgeImages_19 : decode b_MapSums_edgeImages 19 = .ok (.aload_n 0, 1) := by decide +kernel
theorem d_MapSums_edgeImages_20 : decode b_MapSums_edgeImages 20 = .ok (.getfield 18, 3) := by decide +kernel
theorem d_MapSums_edgeImages_23 : decode b_MapSums_edgeImages 23 = .ok (.iload_n 1, 1) := by decide +kernel
theorem d_MapSums_edgeImages_24 : decode b_MapSums_edgeImages 24 = .ok (.iaload, 1) := by decide +kernel
theorem d_MapSums_edgeImages_25 : decode b_MapSums_edgeImages 25 = .ok (.iload 5, 2) := by decide +kernel
theorem d_MapSums_edgeImages_27 : decode b_MapSums_edgeImages 27 = .ok (.invokestatic 49, 3) := by decide +kernel
theorem d_MapSums_edgeImages_30 : decode b_MapSums_edgeImages 30 = .ok (.ifCond .eq 35, 3) := by decide +kernel
theorem d_MapSums_edgeImages_33 : decode b_MapSums_edgeImages 33 = .ok (.aload_n 0, 1) := by decide +kernel
theorem d_MapSums_edgeImages_34 : decode b_MapSums_edgeImages 34 = .ok (.getfield 24, 3) := by decide +kernel
theorem d_MapSums_edgeImages_37 : decode b_MapSums_edgeImages 37 = .ok (.iload 5, 2) := by decide +kernel
theorem d_MapSums_edgeImages_39 : decode b_MapSums_edgeImages 39 = .ok (.iaload, 1) := by decide +kernel
theorem d_MapSums_edgeImages_40 : decode b_MapSums_edgeImages 40 = .ok (.istore 6, 2) := by decide +kernel
theorem d_MapSums_edgeImages_42 : decode b_MapSums_edgeImages 42 = .ok (.lload_n 2, 1) := by decide +kernel
theorem d_MapSums_edgeImages_43 : decode b_MapSums_edgeImages 43 = .ok (.lconst 1, 1) := by decide +kernel
theorem d_MapSums_edgeImages_44 : decode b_MapSums_edgeImages 44 = .ok (.bipush 8, 2) := by decide +kernel
theorem d_MapSums_edgeImages_46 : decode b_MapSums_edgeImages 46 = .ok (.iload 4, 2) := by decide +kernel
theorem d_MapSums_edgeImages_48 : decode b_MapSums_edgeImages 48 = .ok (.iload 6, 2) := by decide +kernel
theorem d_MapSums_edgeImages_50 : decode b_MapSums_edgeImages 50 = .ok (.invokestatic 109, 3) := by decide +kernel
theorem d_MapSums_edgeImages_53 : decode b_MapSums_edgeImages 53 = .ok (.imul, 1) := by decide +kernel
theorem d_MapSums_edgeImages_54 : decode b_MapSums_edgeImages 54 = .ok (.iload 4, 2) := by decide +kernel
theorem d_MapSums_edgeImages_56 : decode b_MapSums_edgeImages 56 = .ok (.iload 6, 2) := by decide +kernel
theorem d_MapSums_edgeImages_58 : decode b_MapSums_edgeImages 58 = .ok (.invokestatic 81, 3) := by decide +kernel
theorem d_MapSums_edgeImages_61 : decode b_MapSums_edgeImages 61 = .ok (.iadd, 1) := by decide +kernel
theorem d_MapSums_edgeImages_62 : decode b_MapSums_edgeImages 62 = .ok (.lshl, 1) := by decide +kernel
theorem d_MapSums_edgeImages_63 : decode b_MapSums_edgeImages 63 = .ok (.lor, 1) := by decide +kernel
theorem d_MapSums_edgeImages_64 : decode b_MapSums_edgeImages 64 = .ok (.lstore_n 2, 1) := by decide +kernel
theorem d_MapSums_edgeImages_65 : decode b_MapSums_edgeImages 65 = .ok (.iinc 5 1, 3) := by decide +kernel
theorem d_MapSums_edgeImages_68 : decode b_MapSums_edgeImages 68 = .ok (.goto (-55), 3) := by decide +kernel
theorem d_MapSums_edgeImages_71 : decode b_MapSums_edgeImages 71 = .ok (.lload_n 2, 1) := by decide +kernel
theorem d_MapSums_edgeImages_72 : decode b_MapSums_edgeImages 72 = .ok (.lreturn, 1) := by decide +kernel
theorem d_MapSums_sumEdgeInjective_0 : decode b_MapSums_sumEdgeInjective 0 = .ok (.iload_n 1, 1) := by decide +kernel
theorem d_MapSums_sumEdgeInjective_1 : decode b_MapSums_sumEdgeInjective 1 = .ok (.aload_n 0, 1) := by decide +kernel
theorem d_MapSums_sumEdgeInjective_2 : decode b_MapSums_sumEdgeInjective 2 = .ok (.getfield 33, 3) := by decide +kernel
theorem d_MapSums_sumEdgeInjective_5 : decode b_MapSums_sumEdgeInjective 5 = .ok (.if_icmp .lt 5, 3) := by decide +kernel
theorem d_MapSums_sumEdgeInjective_8 : decode b_MapSums_sumEdgeInjective 8 = .ok (.lconst 1, 1) := by decide +kernel
theorem d_MapSums_sumEdgeInjective_9 : decode b_MapSums_sumEdgeInjective 9 = .ok (.lreturn, 1) := by decide +kernel
theorem d_MapSums_sumEdgeInjective_10 : decode b_MapSums_sumEdgeInjective 10 = .ok (.aload_n 0, 1) := by decide +kernel
theorem d_MapSums_sumEdgeInjective_11 : decode b_MapSums_sumEdgeInjective 11 = .ok (.getfield 18, 3) := by decide +kernel
theorem d_MapSums_sumEdgeInjective_14 : decode b_MapSums_sumEdgeInjective 14 = .ok (.iload_n 1, 1) := by decide +kernel
theorem d_MapSums_sumEdgeInjective_15 : decode b_MapSums_sumEdgeInjective 15 = .ok (.iaload, 1) := by decide +kernel
theorem d_MapSums_sumEdgeInjective_16 : decode b_MapSums_sumEdgeInjective 16 = .ok (.iconst 1, 1) := by decide +kernel
theorem d_MapSums_sumEdgeInjective_17 : decode b_MapSums_sumEdgeInjective 17 = .ok (.iload_n 1, 1) := by decide +kernel
theorem d_MapSums_sumEdgeInjective_18 : decode b_MapSums_sumEdgeInjective 18 = .ok (.ishl, 1) := by decide +kernel
theorem d_MapSums_sumEdgeInjective_19 : decode b_MapSums_sumEdgeInjective 19 = .ok (.iconst (-1), 1) := by decide +kernel
theorem d_MapSums_sumEdgeInjective_20 : decode b_MapSums_sumEdgeInjective 20 = .ok (.ixor, 1) := by decide +kernel
theorem d_MapSums_sumEdgeInjective_21 : decode b_MapSums_sumEdgeInjective 21 = .ok (.iand, 1) := by decide +kernel
theorem d_MapSums_sumEdgeInjective_22 : decode b_MapSums_sumEdgeInjective 22 = .ok (.invokestatic 75, 3) := by decide +kernel
theorem d_MapSums_sumEdgeInjective_25 : decode b_MapSums_sumEdgeInjective 25 = .ok (.istore 4, 2) := by decide +kernel
theorem d_MapSums_sumEdgeInjective_27 : decode b_MapSums_sumEdgeInjective 27 = .ok (.lconst 0, 1) := by decide +kernel
theorem d_MapSums_sumEdgeInjective_28 : decode b_MapSums_sumEdgeInjective 28 = .ok (.lstore 5, 2) := by decide +kernel
theorem d_MapSums_sumEdgeInjective_30 : decode b_MapSums_sumEdgeInjective 30 = .ok (.iconst 0, 1) := by decide +kernel
theorem d_MapSums_sumEdgeInjective_31 : decode b_MapSums_sumEdgeInjective 31 = .ok (.istore 7, 2) := by decide +kernel
theorem d_MapSums_sumEdgeInjective_33 : decode b_MapSums_sumEdgeInjective 33 = .ok (.iload 7, 2) := by decide +kernel
theorem d_MapSums_sumEdgeInjective_35 : decode b_MapSums_sumEdgeInjective 35 = .ok (.aload_n 0, 1) := by decide +kernel
theorem d_MapSums_sumEdgeInjective_36 : decode b_MapSums_sumEdgeInjective 36 = .ok (.getfield 36, 3) := by decide +kernel
theorem d_MapSums_sumEdgeInjective_39 : decode b_MapSums_sumEdgeInjective 39 = .ok (.if_icmp .ge 70, 3) := by decide +kernel
theorem d_MapSums_sumEdgeInjective_42 : decode b_MapSums_sumEdgeInjective 42 = .ok (.aload_n 0, 1) := by decide +kernel
theorem d_MapSums_sumEdgeInjective_43 : decode b_MapSums_sumEdgeInjective 43 = .ok (.iload_n 1, 1) := by decide +kernel
theorem d_MapSums_sumEdgeInjective_44 : decode b_MapSums_sumEdgeInjective 44 = .ok (.iload 7, 2) := by decide +kernel
theorem d_MapSums_sumEdgeInjective_46 : decode b_MapSums_sumEdgeInjective 46 = .ok (.invokevirtual 86, 3) := by decide +kernel
theorem d_MapSums_sumEdgeInjective_49 : decode b_MapSums_sumEdgeInjective 49 = .ok (.lstore 8, 2) := by decide +kernel
theorem d_MapSums_sumEdgeInjective_51 : decode b_MapSums_sumEdgeInjective 51 = .ok (.aload_n 0, 1) := by decide +kernel
theorem d_MapSums_sumEdgeInjective_52 : decode b_MapSums_sumEdgeInjective 52 = .ok (.iload_n 1, 1) := by decide +kernel
theorem d_MapSums_sumEdgeInjective_53 : decode b_MapSums_sumEdgeInjective 53 = .ok (.invokevirtual 100, 3) := by decide +kernel
theorem d_MapSums_sumEdgeInjective_56 : decode b_MapSums_sumEdgeInjective 56 = .ok (.lstore 10, 2) := by decide +kernel
theorem d_MapSums_sumEdgeInjective_58 : decode b_MapSums_sumEdgeInjective 58 = .ok (.lload 8, 2) := by decide +kernel
theorem d_MapSums_sumEdgeInjective_60 : decode b_MapSums_sumEdgeInjective 60 = .ok (.lconst 0, 1) := by decide +kernel
theorem d_MapSums_sumEdgeInjective_61 : decode b_MapSums_sumEdgeInjective 61 = .ok (.lcmp, 1) := by decide +kernel
theorem d_MapSums_sumEdgeInjective_62 : decode b_MapSums_sumEdgeInjective 62 = .ok (.ifCond .eq 41, 3) := by decide +kernel
theorem d_MapSums_sumEdgeInjective_65 : decode b_MapSums_sumEdgeInjective 65 = .ok (.lload 10, 2) := by decide +kernel
theorem d_MapSums_sumEdgeInjective_67 : decode b_MapSums_sumEdgeInjective 67 = .ok (.lload_n 2, 1) := by decide +kernel
theorem d_MapSums_sumEdgeInjective_68 : decode b_MapSums_sumEdgeInjective 68 = .ok (.land, 1) := by decide +kernel
theorem d_MapSums_sumEdgeInjective_69 : decode b_MapSums_sumEdgeInjective 69 = .ok (.lconst 0, 1) := by decide +kernel
theorem d_MapSums_sumEdgeInjective_70 : decode b_MapSums_sumEdgeInjective 70 = .ok (.lcmp, 1) := by decide +kernel
theorem d_MapSums_sumEdgeInjective_71 : decode b_MapSums_sumEdgeInjective 71 = .ok (.ifCond .ne 32, 3) := by decide +kernel
theorem d_MapSums_sumEdgeInjective_74 : decode b_MapSums_sumEdgeInjective 74 = .ok (.lload 10, 2) := by decide +kernel
theorem d_MapSums_sumEdgeInjective_76 : decode b_MapSums_sumEdgeInjective 76 = .ok (.invokestatic 104, 3) := by decide +kernel
theorem d_MapSums_sumEdgeInjective_79 : decode b_MapSums_sumEdgeInjective 79 = .ok (.iload 4, 2) := by decide +kernel
theorem d_MapSums_sumEdgeInjective_81 : decode b_MapSums_sumEdgeInjective 81 = .ok (.if_icmp .ne 22, 3) := by decide +kernel
theorem d_MapSums_sumEdgeInjective_84 : decode b_MapSums_sumEdgeInjective 84 = .ok (.lload 5, 2) := by decide +kernel
theorem d_MapSums_sumEdgeInjective_86 : decode b_MapSums_sumEdgeInjective 86 = .ok (.lload 8, 2) := by decide +kernel
theorem d_MapSums_sumEdgeInjective_88 : decode b_MapSums_sumEdgeInjective 88 = .ok (.aload_n 0, 1) := by decide +kernel
theorem d_MapSums_sumEdgeInjective_89 : decode b_MapSums_sumEdgeInjective 89 = .ok (.iload_n 1, 1) := by decide +kernel
theorem d_MapSums_sumEdgeInjective_90 : decode b_MapSums_sumEdgeInjective 90 = .ok (.iconst 1, 1) := by decide +kernel
theorem d_MapSums_sumEdgeInjective_91 : decode b_MapSums_sumEdgeInjective 91 = .ok (.iadd, 1) := by decide +kernel
theorem d_MapSums_sumEdgeInjective_92 : decode b_MapSums_sumEdgeInjective 92 = .ok (.lload_n 2, 1) := by decide +kernel
theorem d_MapSums_sumEdgeInjective_93 : decode b_MapSums_sumEdgeInjective 93 = .ok (.lload 10, 2) := by decide +kernel
theorem d_MapSums_sumEdgeInjective_95 : decode b_MapSums_sumEdgeInjective 95 = .ok (.lor, 1) := by decide +kernel
theorem d_MapSums_sumEdgeInjective_96 : decode b_MapSums_sumEdgeInjective 96 = .ok (.invokestatic 96, 3) := by decide +kernel
theorem d_MapSums_sumEdgeInjective_99 : decode b_MapSums_sumEdgeInjective 99 = .ok (.lmul, 1) := by decide +kernel
theorem d_MapSums_sumEdgeInjective_100 : decode b_MapSums_sumEdgeInjective 100 = .ok (.ladd, 1) := by decide +kernel
theorem d_MapSums_sumEdgeInjective_101 : decode b_MapSums_sumEdgeInjective 101 = .ok (.lstore 5, 2) := by decide +kernel
theorem d_MapSums_sumEdgeInjective_103 : decode b_MapSums_sumEdgeInjective 103 = .ok (.iinc 7 1, 3) := by decide +kernel
theorem d_MapSums_sumEdgeInjective_106 : decode b_MapSums_sumEdgeInjective 106 = .ok (.goto (-73), 3) := by decide +kernel
theorem d_MapSums_sumEdgeInjective_109 : decode b_MapSums_sumEdgeInjective 109 = .ok (.lload 5, 2) := by decide +kernel
theorem d_MapSums_sumEdgeInjective_111 : decode b_MapSums_sumEdgeInjective 111 = .ok (.lreturn, 1) := by decide +kernel
theorem d_MapSums_overEdgeInjectiveMaps_0 : decode b_MapSums_overEdgeInjectiveMaps 0 = .ok (.aload_n 0, 1) := by decide +kernel
theorem d_MapSums_overEdgeInjectiveMaps_1 : decode b_MapSums_overEdgeInjectiveMaps 1 = .ok (.iconst 0, 1) := by decide +kernel
theorem d_MapSums_overEdgeInjectiveMaps_2 : decode b_MapSums_overEdgeInjectiveMaps 2 = .ok (.lconst 0, 1) := by decide +kernel
theorem d_MapSums_overEdgeInjectiveMaps_3 : decode b_MapSums_overEdgeInjectiveMaps 3 = .ok (.invokestatic 96, 3) := by decide +kernel
theorem d_MapSums_overEdgeInjectiveMaps_6 : decode b_MapSums_overEdgeInjectiveMaps 6 = .ok (.lreturn, 1) := by decide +kernel
def f_MapSums_load_J99  (rec_ : Nat → Nat → Int32 → Int32 → Int32 → HMem → Option (Unit × HMem)) (a1 : Nat) (a2 : Nat) (v3 : Int32) (v4 : Int32) (v5 : Int32) (s0 : Int32) (s1 : Int32) (μ : HMem) : Option (Unit × HMem) :=
h_chk s1 (h_len 99) (h_let (h_wi μ 99 (Int32.toNatClampNeg (s1)) s0) (fun μ_99 =>
h_let (v5 + 1) (fun v5_100 =>
rec_ a1 a2 v3 v4 v5_100 μ_99)))
def f_MapSums_load_J93  (rec_ : Nat → Nat → Int32 → Int32 → Int32 → HMem → Option (Unit × HMem)) (a1 : Nat) (a2 : Nat) (v3 : Int32) (v4 : Int32) (v5 : Int32) (v6 : Int32) (s0 : Int32) (μ : HMem) : Option (Unit × HMem) :=
f_MapSums_load_J99 rec_ a1 a2 v3 v4 v5 v6 s0 μ
def f_MapSums_load_L53_b (K106 : Nat → Nat → Int32 → Int32 → HMem → Option (Unit × HMem)) (rec_ : Nat → Nat → Int32 → Int32 → Int32 → HMem → Option (Unit × HMem)) (a1 : Nat) (a2 : Nat) (v3 : Int32) (v4 : Int32) (v5 : Int32) (μ : HMem) : Option (Unit × HMem) :=
if (μ.1 97 1) ≤ v5 then
  K106 a1 a2 v3 v4 μ
else
  h_bd (f_Graph_between a2 v4 v5 μ) (fun r67 μ_67 =>
  if ¬ v3 = 0 then
    f_MapSums_load_J93 rec_ a1 a2 v3 v4 v5 r67 ((8 * v4) + v5) μ_67
  else
    if ¬ r67 = 0 then
      f_MapSums_load_J99 rec_ a1 a2 v3 v4 v5 1 ((8 * v4) + v5) μ_67
    else
      f_MapSums_load_J93 rec_ a1 a2 v3 v4 v5 r67 ((8 * v4) + v5) μ_67)
def f_MapSums_load_L53 (K106 : Nat → Nat → Int32 → Int32 → HMem → Option (Unit × HMem)) : Nat → Nat → Nat → Int32 → Int32 → Int32 → HMem → Option (Unit × HMem)
  | 0, _, _, _, _, _, _ => none
  | fuel + 1, a1, a2, v3, v4, v5, μ => f_MapSums_load_L53_b K106 (f_MapSums_load_L53 K106 fuel) a1 a2 v3 v4 v5 μ
def f_MapSums_load_J106  (rec_ : Nat → Nat → Int32 → Int32 → HMem → Option (Unit × HMem)) (a1 : Nat) (a2 : Nat) (v3 : Int32) (v4 : Int32) (μ : HMem) : Option (Unit × HMem) :=
h_let (v4 + 1) (fun v4_106 =>
rec_ a1 a2 v3 v4_106 μ)
def f_MapSums_load_J49  (rec_ : Nat → Nat → Int32 → Int32 → HMem → Option (Unit × HMem)) (a1 : Nat) (a2 : Nat) (v3 : Int32) (v4 : Int32) (s0 : Int32) (s1 : Int32) (μ : HMem) : Option (Unit × HMem) :=
h_chk s1 (h_len 98) (h_let (h_wi μ 98 (Int32.toNatClampNeg (s1)) s0) (fun μ_49 =>
f_MapSums_load_L53 (f_MapSums_load_J106 rec_) h_fuel a1 a2 v3 v4 0 μ_49))
def f_MapSums_load_L19_b (K112 : Nat → HMem → Option (Unit × HMem)) (rec_ : Nat → Nat → Int32 → Int32 → HMem → Option (Unit × HMem)) (a1 : Nat) (a2 : Nat) (v3 : Int32) (v4 : Int32) (μ : HMem) : Option (Unit × HMem) :=
if (μ.1 97 1) ≤ v4 then
  K112 a1 μ
else
  if v3 = 0 then
    f_MapSums_load_J49 rec_ a1 a2 v3 v4 1 v4 μ
  else
    h_chk v4 (h_len (a2 + 1)) (
    f_MapSums_load_J49 rec_ a1 a2 v3 v4 (μ.1 (a2 + 1) (Int32.toNatClampNeg (v4))) v4 μ)
def f_MapSums_load_L19 (K112 : Nat → HMem → Option (Unit × HMem)) : Nat → Nat → Nat → Int32 → Int32 → HMem → Option (Unit × HMem)
  | 0, _, _, _, _, _ => none
  | fuel + 1, a1, a2, v3, v4, μ => f_MapSums_load_L19_b K112 (f_MapSums_load_L19 K112 fuel) a1 a2 v3 v4 μ
def f_MapSums_load_L115_b  (rec_ : Nat → Int32 → HMem → Option (Unit × HMem)) (a1 : Nat) (v4 : Int32) (μ : HMem) : Option (Unit × HMem) :=
if (μ.1 97 0) ≤ v4 then
  some ((), μ)
else
  h_chk v4 (h_len (a1 + 3)) (
  h_chk v4 (h_len 100) (h_let (h_wi μ 100 (Int32.toNatClampNeg (v4)) ((μ.1 (a1 + 3) (Int32.toNatClampNeg (v4))) &&& ((h_ishl 1 (v4 + 1)) - 1))) (fun μ_146 =>
  h_let (v4 + 1) (fun v4_147 =>
  rec_ a1 v4_147 μ_146))))
def f_MapSums_load_L115  : Nat → Nat → Int32 → HMem → Option (Unit × HMem)
  | 0, _, _, _ => none
  | fuel + 1, a1, v4, μ => f_MapSums_load_L115_b  (f_MapSums_load_L115  fuel) a1 v4 μ
def f_MapSums_load_J112   (a1 : Nat) (μ : HMem) : Option (Unit × HMem) :=
f_MapSums_load_L115 h_fuel a1 0 μ
def f_MapSums_load (a1 : Nat) (a2 : Nat) (v3 : Int32) (μ : HMem) : Option (Unit × HMem) :=
  h_let (h_wi μ 97 0 (μ.1 a1 0)) (fun μ_5 =>
  h_let (h_wi μ_5 97 1 (μ_5.1 a2 0)) (fun μ_13 =>
  f_MapSums_load_L19 f_MapSums_load_J112 h_fuel a1 a2 v3 0 μ_13))
def f_MapSums_factor_J68  (rec_ : Int32 → Int32 → Int64 → Int32 → HMem → Option (Int64 × HMem)) (v1 : Int32) (v2 : Int32) (v3 : Int64) (v5 : Int32) (μ : HMem) : Option (Int64 × HMem) :=
h_let (v5 + 1) (fun v5_68 =>
rec_ v1 v2 v3 v5_68 μ)
def f_MapSums_factor_L18_b (K74 : Int64 → HMem → Option (Int64 × HMem)) (rec_ : Int32 → Int32 → Int64 → Int32 → HMem → Option (Int64 × HMem)) (v1 : Int32) (v2 : Int32) (v3 : Int64) (v5 : Int32) (μ : HMem) : Option (Int64 × HMem) :=
if (μ.1 97 0) ≤ v5 then
  K74 v3 μ
else
  if (lg_cmp v3 0) = 0 then
    K74 v3 μ
  else
    h_chk v1 (h_len 100) (
    h_bd (f_Bench_has (μ.1 100 (Int32.toNatClampNeg (v1))) v5 μ) (fun r41 μ_41 =>
    if r41 = 0 then
      f_MapSums_factor_J68 rec_ v1 v2 v3 v5 μ_41
    else
      h_chk v5 (h_len 102) (
      h_chk ((8 * v2) + (μ_41.1 102 (Int32.toNatClampNeg (v5)))) (h_len 99) (
      h_let (v3 * (Int32.toInt64 (μ_41.1 99 (Int32.toNatClampNeg ((8 * v2) + (μ_41.1 102 (Int32.toNatClampNeg (v5)))))))) (fun v3_67 =>
      f_MapSums_factor_J68 rec_ v1 v2 v3_67 v5 μ_41)))))
def f_MapSums_factor_L18 (K74 : Int64 → HMem → Option (Int64 × HMem)) : Nat → Int32 → Int32 → Int64 → Int32 → HMem → Option (Int64 × HMem)
  | 0, _, _, _, _, _ => none
  | fuel + 1, v1, v2, v3, v5, μ => f_MapSums_factor_L18_b K74 (f_MapSums_factor_L18 K74 fuel) v1 v2 v3 v5 μ
def f_MapSums_factor_J74   (v3 : Int64) (μ : HMem) : Option (Int64 × HMem) :=
some (v3, μ)
def f_MapSums_factor (v1 : Int32) (v2 : Int32) (μ : HMem) : Option (Int64 × HMem) :=
  h_chk v1 (h_len 102) (h_let (h_wi μ 102 (Int32.toNatClampNeg (v1)) v2) (fun μ_6 =>
  h_chk v2 (h_len 98) (
  h_let (Int32.toInt64 (μ_6.1 98 (Int32.toNatClampNeg (v2)))) (fun v3_14 =>
  f_MapSums_factor_L18 f_MapSums_factor_J74 h_fuel v1 v2 v3_14 0 μ_6))))
def f_MapSums_largestPart_J34  (rec_ : Nat → Int32 → Int32 → Int32 → HMem → Option (Int32 × HMem)) (a0 : Nat) (v1 : Int32) (v2 : Int32) (v3 : Int32) (μ : HMem) : Option (Int32 × HMem) :=
h_let (v3 + 1) (fun v3_34 =>
rec_ a0 v1 v2 v3_34 μ)
def f_MapSums_largestPart_L4_b  (rec_ : Nat → Int32 → Int32 → Int32 → HMem → Option (Int32 × HMem)) (a0 : Nat) (v1 : Int32) (v2 : Int32) (v3 : Int32) (μ : HMem) : Option (Int32 × HMem) :=
if (μ.1 a0 0) ≤ v3 then
  some (v2, μ)
else
  h_bd (f_Bench_has v1 v3 μ) (fun r14 μ_14 =>
  if r14 = 0 then
    f_MapSums_largestPart_J34 rec_ a0 v1 v2 v3 μ_14
  else
    h_bd (f_Graph_reached a0 v3 v1 μ_14) (fun r24 μ_24 =>
    h_bd (f_Integer_bitCount r24 μ_24) (fun r27 μ_27 =>
    h_let (h_mmax v2 r27) (fun v2_33 =>
    f_MapSums_largestPart_J34 rec_ a0 v1 v2_33 v3 μ_27))))
def f_MapSums_largestPart_L4  : Nat → Nat → Int32 → Int32 → Int32 → HMem → Option (Int32 × HMem)
  | 0, _, _, _, _, _ => none
  | fuel + 1, a0, v1, v2, v3, μ => f_MapSums_largestPart_L4_b  (f_MapSums_largestPart_L4  fuel) a0 v1 v2 v3 μ
def f_MapSums_largestPart (a0 : Nat) (v1 : Int32) (μ : HMem) : Option (Int32 × HMem) :=
  f_MapSums_largestPart_L4 h_fuel a0 v1 0 0 μ
def f_MapSums_bestSeparator_J52  (rec_ : Nat → Int32 → Int32 → Int32 → Int32 → HMem → Option (Int32 × HMem)) (a0 : Nat) (v1 : Int32) (v2 : Int32) (v3 : Int32) (v4 : Int32) (μ : HMem) : Option (Int32 × HMem) :=
h_let (v4 + 1) (fun v4_52 =>
rec_ a0 v1 v2 v3 v4_52 μ)
def f_MapSums_bestSeparator_L8_b  (rec_ : Nat → Int32 → Int32 → Int32 → Int32 → HMem → Option (Int32 × HMem)) (a0 : Nat) (v1 : Int32) (v2 : Int32) (v3 : Int32) (v4 : Int32) (μ : HMem) : Option (Int32 × HMem) :=
if (μ.1 a0 0) ≤ v4 then
  some (v2, μ)
else
  h_bd (f_Bench_has v1 v4 μ) (fun r20 μ_20 =>
  if r20 = 0 then
    f_MapSums_bestSeparator_J52 rec_ a0 v1 v2 v3 v4 μ_20
  else
    h_bd (f_MapSums_largestPart a0 (v1 &&& ((h_ishl 1 v4) ^^^ (-1))) μ_20) (fun r35 μ_35 =>
    if v3 ≤ r35 then
      f_MapSums_bestSeparator_J52 rec_ a0 v1 v2 v3 v4 μ_35
    else
      f_MapSums_bestSeparator_J52 rec_ a0 v1 v4 r35 v4 μ_35))
def f_MapSums_bestSeparator_L8  : Nat → Nat → Int32 → Int32 → Int32 → Int32 → HMem → Option (Int32 × HMem)
  | 0, _, _, _, _, _, _ => none
  | fuel + 1, a0, v1, v2, v3, v4, μ => f_MapSums_bestSeparator_L8_b  (f_MapSums_bestSeparator_L8  fuel) a0 v1 v2 v3 v4 μ
def f_MapSums_bestSeparator (a0 : Nat) (v1 : Int32) (μ : HMem) : Option (Int32 × HMem) :=
  f_MapSums_bestSeparator_L8 h_fuel a0 v1 0 9 0 μ
def f_MapSums_split_J129 (fr_ : Nat → Int32 → Int32 → Int32 → HMem → Option (Int32 × HMem))  (rec_ : Nat → Int32 → Int32 → Int32 → Int32 → Int32 → HMem → Option (Int32 × HMem)) (a1 : Nat) (v3 : Int32) (v4 : Int32) (v5 : Int32) (v6 : Int32) (v7 : Int32) (μ : HMem) : Option (Int32 × HMem) :=
h_let (v7 + 1) (fun v7_129 =>
rec_ a1 v3 v4 v5 v6 v7_129 μ)
def f_MapSums_split_L18_b (fr_ : Nat → Int32 → Int32 → Int32 → HMem → Option (Int32 × HMem))  (rec_ : Nat → Int32 → Int32 → Int32 → Int32 → Int32 → HMem → Option (Int32 × HMem)) (a1 : Nat) (v3 : Int32) (v4 : Int32) (v5 : Int32) (v6 : Int32) (v7 : Int32) (μ : HMem) : Option (Int32 × HMem) :=
if (μ.1 a1 0) ≤ v7 then
  some (v5, μ)
else
  h_bd (f_Bench_has v6 v7 μ) (fun r31 μ_31 =>
  if r31 = 0 then
    f_MapSums_split_J129 fr_ rec_ a1 v3 v4 v5 v6 v7 μ_31
  else
    h_bd (f_Graph_reached a1 v7 v6 μ_31) (fun r42 μ_42 =>
    h_bd (f_MapSums_bestSeparator a1 r42 μ_42) (fun r50 μ_50 =>
    h_let (r42 &&& ((h_ishl 1 r50) ^^^ (-1))) (fun v10_64 =>
    h_chk r50 (h_len (a1 + 3)) (
    h_chk r50 (h_len 100) (h_let (h_wi μ_50 100 (Int32.toNatClampNeg (r50)) ((μ_50.1 (a1 + 3) (Int32.toNatClampNeg (r50))) &&& (v3 ||| (h_ishl 1 r50)))) (fun μ_86 =>
    h_bd (fr_ a1 v10_64 (v3 ||| (h_ishl 1 r50)) (v4 + 1) μ_86) (fun r107 μ_107 =>
    h_chk r50 (h_len 101) (h_let (h_wi μ_107 101 (Int32.toNatClampNeg (r50)) r107) (fun μ_110 =>
    h_let (v5 ||| (h_ishl 1 r50)) (fun v5_118 =>
    h_let (v6 &&& (r42 ^^^ (-1))) (fun v6_127 =>
    f_MapSums_split_J129 fr_ rec_ a1 v3 v4 v5_118 v6_127 v7 μ_110))))))))))))
def f_MapSums_split_L18 (fr_ : Nat → Int32 → Int32 → Int32 → HMem → Option (Int32 × HMem))  : Nat → Nat → Int32 → Int32 → Int32 → Int32 → Int32 → HMem → Option (Int32 × HMem)
  | 0, _, _, _, _, _, _, _ => none
  | fuel + 1, a1, v3, v4, v5, v6, v7, μ => f_MapSums_split_L18_b fr_  (f_MapSums_split_L18 fr_  fuel) a1 v3 v4 v5 v6 v7 μ
def f_MapSums_split_0 (fr_ : Nat → Int32 → Int32 → Int32 → HMem → Option (Int32 × HMem)) (a1 : Nat) (v2 : Int32) (v3 : Int32) (v4 : Int32) (μ : HMem) : Option (Int32 × HMem) :=
  if v4 ≤ (8 : Int32) then
    f_MapSums_split_L18 fr_ h_fuel a1 v3 v4 0 v2 0 μ
  else
    some (0, μ)
def f_MapSums_split : Nat → Nat → Int32 → Int32 → Int32 → HMem → Option (Int32 × HMem)
  | 0, _, _, _, _, _ => none
  | rd + 1, a1, v2, v3, v4, μ => f_MapSums_split_0 (f_MapSums_split rd) a1 v2 v3 v4 μ
def f_MapSums_sumBelow_J78 (fr_ : Int32 → Int32 → HMem → Option (Int64 × HMem))  (rec_ : Int32 → Int32 → Int64 → Int32 → Int64 → Int32 → HMem → Option (Int64 × HMem)) (v1 : Int32) (v2 : Int32) (v3 : Int64) (v5 : Int32) (v6 : Int64) (v8 : Int32) (μ : HMem) : Option (Int64 × HMem) :=
h_let (v8 + 1) (fun v8_78 =>
rec_ v1 v2 v3 v5 v6 v8_78 μ)
def f_MapSums_sumBelow_L34_b (fr_ : Int32 → Int32 → HMem → Option (Int64 × HMem)) (K84 : Int32 → Int32 → Int64 → Int32 → Int64 → HMem → Option (Int64 × HMem)) (rec_ : Int32 → Int32 → Int64 → Int32 → Int64 → Int32 → HMem → Option (Int64 × HMem)) (v1 : Int32) (v2 : Int32) (v3 : Int64) (v5 : Int32) (v6 : Int64) (v8 : Int32) (μ : HMem) : Option (Int64 × HMem) :=
if (μ.1 97 0) ≤ v8 then
  K84 v1 v2 v3 v5 v6 μ
else
  if (lg_cmp v6 0) = 0 then
    K84 v1 v2 v3 v5 v6 μ
  else
    h_chk v1 (h_len 101) (
    h_bd (f_Bench_has (μ.1 101 (Int32.toNatClampNeg (v1))) v8 μ) (fun r58 μ_58 =>
    if r58 = 0 then
      f_MapSums_sumBelow_J78 fr_ rec_ v1 v2 v3 v5 v6 v8 μ_58
    else
      h_bd (fr_ v8 (v2 + 1) μ_58) (fun r72 μ_72 =>
      h_let (v6 * r72) (fun v6_76 =>
      f_MapSums_sumBelow_J78 fr_ rec_ v1 v2 v3 v5 v6_76 v8 μ_72))))
def f_MapSums_sumBelow_L34 (fr_ : Int32 → Int32 → HMem → Option (Int64 × HMem)) (K84 : Int32 → Int32 → Int64 → Int32 → Int64 → HMem → Option (Int64 × HMem)) : Nat → Int32 → Int32 → Int64 → Int32 → Int64 → Int32 → HMem → Option (Int64 × HMem)
  | 0, _, _, _, _, _, _, _ => none
  | fuel + 1, v1, v2, v3, v5, v6, v8, μ => f_MapSums_sumBelow_L34_b fr_ K84 (f_MapSums_sumBelow_L34 fr_ K84 fuel) v1 v2 v3 v5 v6 v8 μ
def f_MapSums_sumBelow_J84 (fr_ : Int32 → Int32 → HMem → Option (Int64 × HMem))  (rec_ : Int32 → Int32 → Int64 → Int32 → HMem → Option (Int64 × HMem)) (v1 : Int32) (v2 : Int32) (v3 : Int64) (v5 : Int32) (v6 : Int64) (μ : HMem) : Option (Int64 × HMem) :=
h_let (v3 + v6) (fun v3_88 =>
h_let (v5 + 1) (fun v5_89 =>
rec_ v1 v2 v3_88 v5_89 μ))
def f_MapSums_sumBelow_L13_b (fr_ : Int32 → Int32 → HMem → Option (Int64 × HMem))  (rec_ : Int32 → Int32 → Int64 → Int32 → HMem → Option (Int64 × HMem)) (v1 : Int32) (v2 : Int32) (v3 : Int64) (v5 : Int32) (μ : HMem) : Option (Int64 × HMem) :=
if (μ.1 97 1) ≤ v5 then
  some (v3, μ)
else
  h_bd (f_MapSums_factor v1 v5 μ) (fun r26 μ_26 =>
  f_MapSums_sumBelow_L34 fr_ (f_MapSums_sumBelow_J84 fr_ rec_) h_fuel v1 v2 v3 v5 r26 0 μ_26)
def f_MapSums_sumBelow_L13 (fr_ : Int32 → Int32 → HMem → Option (Int64 × HMem))  : Nat → Int32 → Int32 → Int64 → Int32 → HMem → Option (Int64 × HMem)
  | 0, _, _, _, _, _ => none
  | fuel + 1, v1, v2, v3, v5, μ => f_MapSums_sumBelow_L13_b fr_  (f_MapSums_sumBelow_L13 fr_  fuel) v1 v2 v3 v5 μ
def f_MapSums_sumBelow_0 (fr_ : Int32 → Int32 → HMem → Option (Int64 × HMem)) (v1 : Int32) (v2 : Int32) (μ : HMem) : Option (Int64 × HMem) :=
  if v2 ≤ (8 : Int32) then
    f_MapSums_sumBelow_L13 fr_ h_fuel v1 v2 0 0 μ
  else
    some (0, μ)
def f_MapSums_sumBelow : Nat → Int32 → Int32 → HMem → Option (Int64 × HMem)
  | 0, _, _, _ => none
  | rd + 1, v1, v2, μ => f_MapSums_sumBelow_0 (f_MapSums_sumBelow rd) v1 v2 μ
def f_MapSums_overAllMaps_J51  (rec_ : Int32 → Int64 → Int32 → HMem → Option (Int64 × HMem)) (v2 : Int32) (v3 : Int64) (v5 : Int32) (μ : HMem) : Option (Int64 × HMem) :=
h_let (v5 + 1) (fun v5_51 =>
rec_ v2 v3 v5_51 μ)
def f_MapSums_overAllMaps_L17_b (K57 : Int64 → HMem → Option (Int64 × HMem)) (rec_ : Int32 → Int64 → Int32 → HMem → Option (Int64 × HMem)) (v2 : Int32) (v3 : Int64) (v5 : Int32) (μ : HMem) : Option (Int64 × HMem) :=
if (μ.1 97 0) ≤ v5 then
  K57 v3 μ
else
  if (lg_cmp v3 0) = 0 then
    K57 v3 μ
  else
    h_bd (f_Bench_has v2 v5 μ) (fun r35 μ_35 =>
    if r35 = 0 then
      f_MapSums_overAllMaps_J51 rec_ v2 v3 v5 μ_35
    else
      h_bd (f_MapSums_sumBelow h_deep v5 0 μ_35) (fun r46 μ_46 =>
      h_let (v3 * r46) (fun v3_50 =>
      f_MapSums_overAllMaps_J51 rec_ v2 v3_50 v5 μ_46)))
def f_MapSums_overAllMaps_L17 (K57 : Int64 → HMem → Option (Int64 × HMem)) : Nat → Int32 → Int64 → Int32 → HMem → Option (Int64 × HMem)
  | 0, _, _, _, _ => none
  | fuel + 1, v2, v3, v5, μ => f_MapSums_overAllMaps_L17_b K57 (f_MapSums_overAllMaps_L17 K57 fuel) v2 v3 v5 μ
def f_MapSums_overAllMaps_J57   (v3 : Int64) (μ : HMem) : Option (Int64 × HMem) :=
some (v3, μ)
def f_MapSums_overAllMaps (a1 : Nat) (μ : HMem) : Option (Int64 × HMem) :=
  h_bd (f_Graph_all a1 μ) (fun r3 μ_3 =>
  h_bd (f_MapSums_split h_deep a1 r3 0 0 μ_3) (fun r8 μ_8 =>
  f_MapSums_overAllMaps_L17 f_MapSums_overAllMaps_J57 h_fuel r8 1 0 μ_8))
def f_MapSums_sumInjective_J72 (fr_ : Int32 → Int32 → HMem → Option (Int64 × HMem))  (rec_ : Int32 → Int32 → Int64 → Int32 → HMem → Option (Int64 × HMem)) (v1 : Int32) (v2 : Int32) (v3 : Int64) (v5 : Int32) (μ : HMem) : Option (Int64 × HMem) :=
h_let (v5 + 1) (fun v5_72 =>
rec_ v1 v2 v3 v5_72 μ)
def f_MapSums_sumInjective_J44 (fr_ : Int32 → Int32 → HMem → Option (Int64 × HMem))  (rec_ : Int32 → Int32 → Int64 → Int32 → HMem → Option (Int64 × HMem)) (v1 : Int32) (v2 : Int32) (v3 : Int64) (v5 : Int32) (s0 : Int64) (μ : HMem) : Option (Int64 × HMem) :=
if (lg_cmp s0 0) = 0 then
  f_MapSums_sumInjective_J72 fr_ rec_ v1 v2 v3 v5 μ
else
  h_bd (fr_ (v1 + 1) (v2 ||| (h_ishl 1 v5)) μ) (fun r66 μ_66 =>
  h_let (v3 + (s0 * r66)) (fun v3_71 =>
  f_MapSums_sumInjective_J72 fr_ rec_ v1 v2 v3_71 v5 μ_66))
def f_MapSums_sumInjective_L15_b (fr_ : Int32 → Int32 → HMem → Option (Int64 × HMem))  (rec_ : Int32 → Int32 → Int64 → Int32 → HMem → Option (Int64 × HMem)) (v1 : Int32) (v2 : Int32) (v3 : Int64) (v5 : Int32) (μ : HMem) : Option (Int64 × HMem) :=
if (μ.1 97 1) ≤ v5 then
  some (v3, μ)
else
  h_bd (f_Bench_has v2 v5 μ) (fun r27 μ_27 =>
  if r27 = 0 then
    h_bd (f_MapSums_factor v1 v5 μ_27) (fun r41 μ_41 =>
    f_MapSums_sumInjective_J44 fr_ rec_ v1 v2 v3 v5 r41 μ_41)
  else
    f_MapSums_sumInjective_J44 fr_ rec_ v1 v2 v3 v5 0 μ_27)
def f_MapSums_sumInjective_L15 (fr_ : Int32 → Int32 → HMem → Option (Int64 × HMem))  : Nat → Int32 → Int32 → Int64 → Int32 → HMem → Option (Int64 × HMem)
  | 0, _, _, _, _, _ => none
  | fuel + 1, v1, v2, v3, v5, μ => f_MapSums_sumInjective_L15_b fr_  (f_MapSums_sumInjective_L15 fr_  fuel) v1 v2 v3 v5 μ
def f_MapSums_sumInjective_0 (fr_ : Int32 → Int32 → HMem → Option (Int64 × HMem)) (v1 : Int32) (v2 : Int32) (μ : HMem) : Option (Int64 × HMem) :=
  if v1 < (μ.1 97 0) then
    f_MapSums_sumInjective_L15 fr_ h_fuel v1 v2 0 0 μ
  else
    some (1, μ)
def f_MapSums_sumInjective : Nat → Int32 → Int32 → HMem → Option (Int64 × HMem)
  | 0, _, _, _ => none
  | rd + 1, v1, v2, μ => f_MapSums_sumInjective_0 (f_MapSums_sumInjective rd) v1 v2 μ
def f_MapSums_overInjectiveMaps  (μ : HMem) : Option (Int64 × HMem) :=
  h_bd (f_MapSums_sumInjective h_deep 0 0 μ) (fun r3 μ_3 =>
  some (r3, μ_3))
def f_MapSums_sumOnto_J79 (fr_ : Int32 → Int32 → HMem → Option (Int64 × HMem))  (rec_ : Int32 → Int32 → Int64 → Int32 → HMem → Option (Int64 × HMem)) (v1 : Int32) (v2 : Int32) (v3 : Int64) (v5 : Int32) (μ : HMem) : Option (Int64 × HMem) :=
h_let (v5 + 1) (fun v5_79 =>
rec_ v1 v2 v3 v5_79 μ)
def f_MapSums_sumOnto_L35_b (fr_ : Int32 → Int32 → HMem → Option (Int64 × HMem))  (rec_ : Int32 → Int32 → Int64 → Int32 → HMem → Option (Int64 × HMem)) (v1 : Int32) (v2 : Int32) (v3 : Int64) (v5 : Int32) (μ : HMem) : Option (Int64 × HMem) :=
if (μ.1 97 1) ≤ v5 then
  some (v3, μ)
else
  h_bd (f_MapSums_factor v1 v5 μ) (fun r48 μ_48 =>
  if (lg_cmp r48 0) = 0 then
    f_MapSums_sumOnto_J79 fr_ rec_ v1 v2 v3 v5 μ_48
  else
    h_bd (fr_ (v1 + 1) (v2 ||| (h_ishl 1 v5)) μ_48) (fun r73 μ_73 =>
    h_let (v3 + (r48 * r73)) (fun v3_78 =>
    f_MapSums_sumOnto_J79 fr_ rec_ v1 v2 v3_78 v5 μ_73)))
def f_MapSums_sumOnto_L35 (fr_ : Int32 → Int32 → HMem → Option (Int64 × HMem))  : Nat → Int32 → Int32 → Int64 → Int32 → HMem → Option (Int64 × HMem)
  | 0, _, _, _, _, _ => none
  | fuel + 1, v1, v2, v3, v5, μ => f_MapSums_sumOnto_L35_b fr_  (f_MapSums_sumOnto_L35 fr_  fuel) v1 v2 v3 v5 μ
def f_MapSums_sumOnto_0 (fr_ : Int32 → Int32 → HMem → Option (Int64 × HMem)) (v1 : Int32) (v2 : Int32) (μ : HMem) : Option (Int64 × HMem) :=
  h_bd (f_Integer_bitCount v2 μ) (fun r5 μ_5 =>
  if ((μ.1 97 1) - r5) ≤ ((μ_5.1 97 0) - v1) then
    if v1 < (μ_5.1 97 0) then
      f_MapSums_sumOnto_L35 fr_ h_fuel v1 v2 0 0 μ_5
    else
      some (1, μ_5)
  else
    some (0, μ_5))
def f_MapSums_sumOnto : Nat → Int32 → Int32 → HMem → Option (Int64 × HMem)
  | 0, _, _, _ => none
  | rd + 1, v1, v2, μ => f_MapSums_sumOnto_0 (f_MapSums_sumOnto rd) v1 v2 μ
def f_MapSums_overOntoMaps  (μ : HMem) : Option (Int64 × HMem) :=
  h_bd (f_MapSums_sumOnto h_deep 0 0 μ) (fun r3 μ_3 =>
  some (r3, μ_3))
def f_MapSums_edgeImages_J65  (rec_ : Int32 → Int64 → Int32 → Int32 → HMem → Option (Int64 × HMem)) (v1 : Int32) (v2 : Int64) (v4 : Int32) (v5 : Int32) (μ : HMem) : Option (Int64 × HMem) :=
h_let (v5 + 1) (fun v5_65 =>
rec_ v1 v2 v4 v5_65 μ)
def f_MapSums_edgeImages_L13_b  (rec_ : Int32 → Int64 → Int32 → Int32 → HMem → Option (Int64 × HMem)) (v1 : Int32) (v2 : Int64) (v4 : Int32) (v5 : Int32) (μ : HMem) : Option (Int64 × HMem) :=
if v1 ≤ v5 then
  some (v2, μ)
else
  h_chk v1 (h_len 100) (
  h_bd (f_Bench_has (μ.1 100 (Int32.toNatClampNeg (v1))) v5 μ) (fun r27 μ_27 =>
  if r27 = 0 then
    f_MapSums_edgeImages_J65 rec_ v1 v2 v4 v5 μ_27
  else
    h_chk v5 (h_len 102) (
    h_let (μ_27.1 102 (Int32.toNatClampNeg (v5))) (fun v6_40 =>
    h_let (v2 ||| (h_lshl 1 ((8 * (h_mmin v4 v6_40)) + (h_mmax v4 v6_40)))) (fun v2_64 =>
    f_MapSums_edgeImages_J65 rec_ v1 v2_64 v4 v5 μ_27)))))
def f_MapSums_edgeImages_L13  : Nat → Int32 → Int64 → Int32 → Int32 → HMem → Option (Int64 × HMem)
  | 0, _, _, _, _, _ => none
  | fuel + 1, v1, v2, v4, v5, μ => f_MapSums_edgeImages_L13_b  (f_MapSums_edgeImages_L13  fuel) v1 v2 v4 v5 μ
def f_MapSums_edgeImages (v1 : Int32) (μ : HMem) : Option (Int64 × HMem) :=
  h_chk v1 (h_len 102) (
  h_let (μ.1 102 (Int32.toNatClampNeg (v1))) (fun v4_8 =>
  f_MapSums_edgeImages_L13 h_fuel v1 0 v4_8 0 μ))
def f_MapSums_sumEdgeInjective_J103 (fr_ : Int32 → Int64 → HMem → Option (Int64 × HMem))  (rec_ : Int32 → Int64 → Int32 → Int64 → Int32 → HMem → Option (Int64 × HMem)) (v1 : Int32) (v2 : Int64) (v4 : Int32) (v5 : Int64) (v7 : Int32) (μ : HMem) : Option (Int64 × HMem) :=
h_let (v7 + 1) (fun v7_103 =>
rec_ v1 v2 v4 v5 v7_103 μ)
def f_MapSums_sumEdgeInjective_L33_b (fr_ : Int32 → Int64 → HMem → Option (Int64 × HMem))  (rec_ : Int32 → Int64 → Int32 → Int64 → Int32 → HMem → Option (Int64 × HMem)) (v1 : Int32) (v2 : Int64) (v4 : Int32) (v5 : Int64) (v7 : Int32) (μ : HMem) : Option (Int64 × HMem) :=
if (μ.1 97 1) ≤ v7 then
  some (v5, μ)
else
  h_bd (f_MapSums_factor v1 v7 μ) (fun r46 μ_46 =>
  h_bd (f_MapSums_edgeImages v1 μ_46) (fun r53 μ_53 =>
  if (lg_cmp r46 0) = 0 then
    f_MapSums_sumEdgeInjective_J103 fr_ rec_ v1 v2 v4 v5 v7 μ_53
  else
    if ¬ (lg_cmp (r53 &&& v2) 0) = 0 then
      f_MapSums_sumEdgeInjective_J103 fr_ rec_ v1 v2 v4 v5 v7 μ_53
    else
      h_bd (f_Long_bitCount r53 μ_53) (fun r76 μ_76 =>
      if ¬ r76 = v4 then
        f_MapSums_sumEdgeInjective_J103 fr_ rec_ v1 v2 v4 v5 v7 μ_76
      else
        h_bd (fr_ (v1 + 1) (v2 ||| r53) μ_76) (fun r96 μ_96 =>
        h_let (v5 + (r46 * r96)) (fun v5_101 =>
        f_MapSums_sumEdgeInjective_J103 fr_ rec_ v1 v2 v4 v5_101 v7 μ_96)))))
def f_MapSums_sumEdgeInjective_L33 (fr_ : Int32 → Int64 → HMem → Option (Int64 × HMem))  : Nat → Int32 → Int64 → Int32 → Int64 → Int32 → HMem → Option (Int64 × HMem)
  | 0, _, _, _, _, _, _ => none
  | fuel + 1, v1, v2, v4, v5, v7, μ => f_MapSums_sumEdgeInjective_L33_b fr_  (f_MapSums_sumEdgeInjective_L33 fr_  fuel) v1 v2 v4 v5 v7 μ
def f_MapSums_sumEdgeInjective_0 (fr_ : Int32 → Int64 → HMem → Option (Int64 × HMem)) (v1 : Int32) (v2 : Int64) (μ : HMem) : Option (Int64 × HMem) :=
  if v1 < (μ.1 97 0) then
    h_chk v1 (h_len 100) (
    h_bd (f_Integer_bitCount ((μ.1 100 (Int32.toNatClampNeg (v1))) &&& ((h_ishl 1 v1) ^^^ (-1))) μ) (fun r22 μ_22 =>
    f_MapSums_sumEdgeInjective_L33 fr_ h_fuel v1 v2 r22 0 0 μ_22))
  else
    some (1, μ)
def f_MapSums_sumEdgeInjective : Nat → Int32 → Int64 → HMem → Option (Int64 × HMem)
  | 0, _, _, _ => none
  | rd + 1, v1, v2, μ => f_MapSums_sumEdgeInjective_0 (f_MapSums_sumEdgeInjective rd) v1 v2 μ
def f_MapSums_overEdgeInjectiveMaps  (μ : HMem) : Option (Int64 × HMem) :=
  h_bd (f_MapSums_sumEdgeInjective h_deep 0 0 μ) (fun r3 μ_3 =>
  some (r3, μ_3))
def p_MapSums_load_53 (cx : HCx) (F_ : Nat → Nat → Int32 → Int32 → Int32 → HMem → Option (Unit × HMem)) : Prop := ∀ (a1 : Nat) (h_a1 : HIsG a1) (a2 : Nat) (h_a2 : HIsG a2) (v3 : Int32) (v4 : Int32) (v5 : Int32) (μ : HMem), HX cx (HQ cx h_eV) (F_ a1 a2 v3 v4 v5 μ) 0 0 53 [(0, .ref 97), (1, .ref a1), (2, .ref a2), (3, .int v3), (4, .int v4), (5, .int v5)] [] μ
def p_MapSums_load_106 (cx : HCx) (F_ : Nat → Nat → Int32 → Int32 → HMem → Option (Unit × HMem)) : Prop := ∀ (a1 : Nat) (h_a1 : HIsG a1) (a2 : Nat) (h_a2 : HIsG a2) (v3 : Int32) (v4 : Int32) (μ : HMem), HX cx (HQ cx h_eV) (F_ a1 a2 v3 v4 μ) 0 0 106 [(0, .ref 97), (1, .ref a1), (2, .ref a2), (3, .int v3), (4, .int v4)] [] μ
def p_MapSums_load_19 (cx : HCx) (F_ : Nat → Nat → Int32 → Int32 → HMem → Option (Unit × HMem)) : Prop := ∀ (a1 : Nat) (h_a1 : HIsG a1) (a2 : Nat) (h_a2 : HIsG a2) (v3 : Int32) (v4 : Int32) (μ : HMem), HX cx (HQ cx h_eV) (F_ a1 a2 v3 v4 μ) 0 0 19 [(0, .ref 97), (1, .ref a1), (2, .ref a2), (3, .int v3), (4, .int v4)] [] μ
def p_MapSums_load_112 (cx : HCx) (F_ : Nat → HMem → Option (Unit × HMem)) : Prop := ∀ (a1 : Nat) (h_a1 : HIsG a1) (μ : HMem), HX cx (HQ cx h_eV) (F_ a1 μ) 0 0 112 [(0, .ref 97), (1, .ref a1)] [] μ
def p_MapSums_load_115 (cx : HCx) (F_ : Nat → Int32 → HMem → Option (Unit × HMem)) : Prop := ∀ (a1 : Nat) (h_a1 : HIsG a1) (v4 : Int32) (μ : HMem), HX cx (HQ cx h_eV) (F_ a1 v4 μ) 0 0 115 [(0, .ref 97), (1, .ref a1), (4, .int v4)] [] μ
def p_MapSums_factor_18 (cx : HCx) (F_ : Int32 → Int32 → Int64 → Int32 → HMem → Option (Int64 × HMem)) : Prop := ∀ (v1 : Int32) (v2 : Int32) (v3 : Int64) (v5 : Int32) (μ : HMem), HX cx (HQ cx h_eJ) (F_ v1 v2 v3 v5 μ) 0 0 18 [(0, .ref 97), (1, .int v1), (2, .int v2), (3, .long v3), (5, .int v5)] [] μ
def p_MapSums_factor_74 (cx : HCx) (F_ : Int64 → HMem → Option (Int64 × HMem)) : Prop := ∀ (v3 : Int64) (μ : HMem), HX cx (HQ cx h_eJ) (F_ v3 μ) 0 0 74 [(3, .long v3)] [] μ
def p_MapSums_largestPart_4 (cx : HCx) (F_ : Nat → Int32 → Int32 → Int32 → HMem → Option (Int32 × HMem)) : Prop := ∀ (a0 : Nat) (h_a0 : HIsG a0) (v1 : Int32) (v2 : Int32) (v3 : Int32) (μ : HMem), HX cx (HQ cx h_eI) (F_ a0 v1 v2 v3 μ) 0 0 4 [(0, .ref a0), (1, .int v1), (2, .int v2), (3, .int v3)] [] μ
def p_MapSums_bestSeparator_8 (cx : HCx) (F_ : Nat → Int32 → Int32 → Int32 → Int32 → HMem → Option (Int32 × HMem)) : Prop := ∀ (a0 : Nat) (h_a0 : HIsG a0) (v1 : Int32) (v2 : Int32) (v3 : Int32) (v4 : Int32) (μ : HMem), HX cx (HQ cx h_eI) (F_ a0 v1 v2 v3 v4 μ) 0 0 8 [(0, .ref a0), (1, .int v1), (2, .int v2), (3, .int v3), (4, .int v4)] [] μ
def p_MapSums_split_18 (cx : HCx) (F_ : Nat → Int32 → Int32 → Int32 → Int32 → Int32 → HMem → Option (Int32 × HMem)) : Prop := ∀ (a1 : Nat) (h_a1 : HIsG a1) (v3 : Int32) (v4 : Int32) (v5 : Int32) (v6 : Int32) (v7 : Int32) (μ : HMem), HX cx (HQ cx h_eI) (F_ a1 v3 v4 v5 v6 v7 μ) 0 0 18 [(0, .ref 97), (1, .ref a1), (3, .int v3), (4, .int v4), (5, .int v5), (6, .int v6), (7, .int v7)] [] μ
def p_MapSums_sumBelow_34 (cx : HCx) (F_ : Int32 → Int32 → Int64 → Int32 → Int64 → Int32 → HMem → Option (Int64 × HMem)) : Prop := ∀ (v1 : Int32) (v2 : Int32) (v3 : Int64) (v5 : Int32) (v6 : Int64) (v8 : Int32) (μ : HMem), HX cx (HQ cx h_eJ) (F_ v1 v2 v3 v5 v6 v8 μ) 0 0 34 [(0, .ref 97), (1, .int v1), (2, .int v2), (3, .long v3), (5, .int v5), (6, .long v6), (8, .int v8)] [] μ
def p_MapSums_sumBelow_84 (cx : HCx) (F_ : Int32 → Int32 → Int64 → Int32 → Int64 → HMem → Option (Int64 × HMem)) : Prop := ∀ (v1 : Int32) (v2 : Int32) (v3 : Int64) (v5 : Int32) (v6 : Int64) (μ : HMem), HX cx (HQ cx h_eJ) (F_ v1 v2 v3 v5 v6 μ) 0 0 84 [(0, .ref 97), (1, .int v1), (2, .int v2), (3, .long v3), (5, .int v5), (6, .long v6)] [] μ
def p_MapSums_sumBelow_13 (cx : HCx) (F_ : Int32 → Int32 → Int64 → Int32 → HMem → Option (Int64 × HMem)) : Prop := ∀ (v1 : Int32) (v2 : Int32) (v3 : Int64) (v5 : Int32) (μ : HMem), HX cx (HQ cx h_eJ) (F_ v1 v2 v3 v5 μ) 0 0 13 [(0, .ref 97), (1, .int v1), (2, .int v2), (3, .long v3), (5, .int v5)] [] μ
def p_MapSums_overAllMaps_17 (cx : HCx) (F_ : Int32 → Int64 → Int32 → HMem → Option (Int64 × HMem)) : Prop := ∀ (v2 : Int32) (v3 : Int64) (v5 : Int32) (μ : HMem), HX cx (HQ cx h_eJ) (F_ v2 v3 v5 μ) 0 0 17 [(0, .ref 97), (2, .int v2), (3, .long v3), (5, .int v5)] [] μ
def p_MapSums_overAllMaps_57 (cx : HCx) (F_ : Int64 → HMem → Option (Int64 × HMem)) : Prop := ∀ (v3 : Int64) (μ : HMem), HX cx (HQ cx h_eJ) (F_ v3 μ) 0 0 57 [(3, .long v3)] [] μ
def p_MapSums_sumInjective_15 (cx : HCx) (F_ : Int32 → Int32 → Int64 → Int32 → HMem → Option (Int64 × HMem)) : Prop := ∀ (v1 : Int32) (v2 : Int32) (v3 : Int64) (v5 : Int32) (μ : HMem), HX cx (HQ cx h_eJ) (F_ v1 v2 v3 v5 μ) 0 0 15 [(0, .ref 97), (1, .int v1), (2, .int v2), (3, .long v3), (5, .int v5)] [] μ
def p_MapSums_sumOnto_35 (cx : HCx) (F_ : Int32 → Int32 → Int64 → Int32 → HMem → Option (Int64 × HMem)) : Prop := ∀ (v1 : Int32) (v2 : Int32) (v3 : Int64) (v5 : Int32) (μ : HMem), HX cx (HQ cx h_eJ) (F_ v1 v2 v3 v5 μ) 0 0 35 [(0, .ref 97), (1, .int v1), (2, .int v2), (3, .long v3), (5, .int v5)] [] μ
def p_MapSums_edgeImages_13 (cx : HCx) (F_ : Int32 → Int64 → Int32 → Int32 → HMem → Option (Int64 × HMem)) : Prop := ∀ (v1 : Int32) (v2 : Int64) (v4 : Int32) (v5 : Int32) (μ : HMem), HX cx (HQ cx h_eJ) (F_ v1 v2 v4 v5 μ) 0 0 13 [(0, .ref 97), (1, .int v1), (2, .long v2), (4, .int v4), (5, .int v5)] [] μ
def p_MapSums_sumEdgeInjective_33 (cx : HCx) (F_ : Int32 → Int64 → Int32 → Int64 → Int32 → HMem → Option (Int64 × HMem)) : Prop := ∀ (v1 : Int32) (v2 : Int64) (v4 : Int32) (v5 : Int64) (v7 : Int32) (μ : HMem), HX cx (HQ cx h_eJ) (F_ v1 v2 v4 v5 v7 μ) 0 0 33 [(0, .ref 97), (1, .int v1), (2, .long v2), (4, .int v4), (5, .long v5), (7, .int v7)] [] μ
theorem t_MapSums_load_J99 {cx : HCx} (hg : HGood cx R_MapSums b_MapSums_load 7 2 none) (hA : h_own cx)  (rec_ : Nat → Nat → Int32 → Int32 → Int32 → HMem → Option (Unit × HMem)) (hrec_ : p_MapSums_load_53 cx rec_) (a1 : Nat) (h_a1 : HIsG a1) (a2 : Nat) (h_a2 : HIsG a2) (v3 : Int32) (v4 : Int32) (v5 : Int32) (s0 : Int32) (s1 : Int32) (μ : HMem) : HX cx (HQ cx h_eV) (f_MapSums_load_J99  rec_ a1 a2 v3 v4 v5 s0 s1 μ) 0 0 99 [(0, .ref 97), (1, .ref a1), (2, .ref a2), (3, .int v3), (4, .int v4), (5, .int v5)] [.int s0, .int s1, .ref 99] μ := by
  unfold f_MapSums_load_J99
  refine r_iast hg (by decide) rfl d_MapSums_load_99 ?_
  refine r_letM (fun μ_99 => ?_)
  refine r_letE (fun v5_100 he_100 => ?_)
  refine r_iinc (v := v5_100) (l' := [(5, .int v5_100), (0, .ref 97), (1, .ref a1), (2, .ref a2), (3, .int v3), (4, .int v4)]) hg 5 d_MapSums_load_100 rfl he_100 (Nat.le_of_ble_eq_true rfl) rfl ?_
  refine r_goto (tgt := 53) hg d_MapSums_load_103 (by decide) ?_
  refine r_sub [1, 2, 3, 4, 5, 0] rfl ?_
  exact hrec_ a1 h_a1 a2 h_a2 v3 v4 v5_100 μ_99
theorem t_MapSums_load_J93 {cx : HCx} (hg : HGood cx R_MapSums b_MapSums_load 7 2 none) (hA : h_own cx)  (rec_ : Nat → Nat → Int32 → Int32 → Int32 → HMem → Option (Unit × HMem)) (hrec_ : p_MapSums_load_53 cx rec_) (a1 : Nat) (h_a1 : HIsG a1) (a2 : Nat) (h_a2 : HIsG a2) (v3 : Int32) (v4 : Int32) (v5 : Int32) (v6 : Int32) (s0 : Int32) (μ : HMem) : HX cx (HQ cx h_eV) (f_MapSums_load_J93  rec_ a1 a2 v3 v4 v5 v6 s0 μ) 0 0 93 [(0, .ref 97), (1, .ref a1), (2, .ref a2), (3, .int v3), (4, .int v4), (5, .int v5), (6, .int v6)] [.int s0, .ref 99] μ := by
  unfold f_MapSums_load_J93
  refine r_iload hg 6 d_MapSums_load_93 rfl ?_
  refine r_goto (tgt := 99) hg d_MapSums_load_95 (by decide) ?_
  refine r_sub [0, 1, 2, 3, 4, 5] rfl ?_
  exact t_MapSums_load_J99 hg hA rec_ hrec_ a1 h_a1 a2 h_a2 v3 v4 v5 v6 s0 μ
theorem t_MapSums_load_L53_b {cx : HCx} (hg : HGood cx R_MapSums b_MapSums_load 7 2 none) (hA : h_own cx) (K106 : Nat → Nat → Int32 → Int32 → HMem → Option (Unit × HMem)) (hK106 : p_MapSums_load_106 cx K106) (rec_ : Nat → Nat → Int32 → Int32 → Int32 → HMem → Option (Unit × HMem)) (hrec_ : p_MapSums_load_53 cx rec_) (a1 : Nat) (h_a1 : HIsG a1) (a2 : Nat) (h_a2 : HIsG a2) (v3 : Int32) (v4 : Int32) (v5 : Int32) (μ : HMem) : HX cx (HQ cx h_eV) (f_MapSums_load_L53_b K106 rec_ a1 a2 v3 v4 v5 μ) 0 0 53 [(0, .ref 97), (1, .ref a1), (2, .ref a2), (3, .int v3), (4, .int v4), (5, .int v5)] [] μ := by
  unfold f_MapSums_load_L53_b
  refine r_iload hg 5 d_MapSums_load_53 rfl ?_
  refine r_aload_n hg 0 d_MapSums_load_55 rfl rfl ?_
  refine r_get (v := .int (μ.1 97 1)) hg c_MapSums (by decide) rfl (Nat.le_of_ble_eq_true rfl) rfl wf_MapSums_36 d_MapSums_load_56 rfl ?_
  refine r_icmp_ge (tgt := 106) hg d_MapSums_load_59 (by decide) ?_ ?_
  · refine r_sub [0, 1, 2, 3, 4] rfl ?_
    exact hK106 a1 h_a1 a2 h_a2 v3 v4 μ
  · refine r_aload_n hg 2 d_MapSums_load_62 rfl rfl ?_
    refine r_iload hg 4 d_MapSums_load_63 rfl ?_
    refine r_iload hg 5 d_MapSums_load_65 rfl ?_
    refine r_callV (As := [.int v4, .int v5]) hg (t_Graph_between a2 h_a2 v4 v5 μ) v_Graph_between c_Graph rfl (h_G_lt h_a2) (h_G_kd h_a2) wm_MapSums_42 d_MapSums_load_67 rfl ⟨by decide, by decide⟩ (Nat.le_of_ble_eq_true rfl) rfl (fun r67 μ_67 _ => ?_)
    refine r_istore (l' := [(6, .int r67), (0, .ref 97), (1, .ref a1), (2, .ref a2), (3, .int v3), (4, .int v4), (5, .int v5)]) hg d_MapSums_load_70 (Nat.le_of_ble_eq_true rfl) rfl ?_
    refine r_aload_n hg 1 d_MapSums_load_72 rfl rfl ?_
    refine r_get (v := .ref 99) hg c_MapSums (by decide) rfl (Nat.le_of_ble_eq_true rfl) rfl wf_MapSums_15 d_MapSums_load_73 rfl ?_
    refine r_bipush (v := 8) hg d_MapSums_load_76 (by decide) ?_
    refine r_iload hg 5 d_MapSums_load_78 rfl ?_
    refine r_imul hg d_MapSums_load_80 ?_
    refine r_iload hg 6 d_MapSums_load_81 rfl ?_
    refine r_iadd hg d_MapSums_load_83 ?_
    refine r_iload_n hg 4 d_MapSums_load_84 rfl rfl ?_
    refine r_if_ne (tgt := 93) hg d_MapSums_load_85 (by decide) ?_ ?_
    · refine r_sub [1, 2, 3, 4, 5, 6, 0] rfl ?_
      exact t_MapSums_load_J93 hg hA rec_ hrec_ a1 h_a1 a2 h_a2 v3 v4 v5 r67 ((8 * v4) + v5) μ_67
    · refine r_iload hg 0 d_MapSums_load_88 rfl ?_
      refine r_if_ne (tgt := 98) hg d_MapSums_load_90 (by decide) ?_ ?_
      · refine r_iconst (v := 1) hg d_MapSums_load_98 (by decide) ?_
        refine r_sub [1, 2, 3, 4, 5, 6] rfl ?_
        exact t_MapSums_load_J99 hg hA rec_ hrec_ a1 h_a1 a2 h_a2 v3 v4 v5 1 ((8 * v4) + v5) μ_67
      · refine r_sub [1, 2, 3, 4, 5, 6, 0] rfl ?_
        exact t_MapSums_load_J93 hg hA rec_ hrec_ a1 h_a1 a2 h_a2 v3 v4 v5 r67 ((8 * v4) + v5) μ_67
theorem t_MapSums_load_L53 {cx : HCx} (hg : HGood cx R_MapSums b_MapSums_load 7 2 none) (hA : h_own cx) (K106 : Nat → Nat → Int32 → Int32 → HMem → Option (Unit × HMem)) (hK106 : p_MapSums_load_106 cx K106) : ∀ (fuel : Nat) (a1 : Nat) (h_a1 : HIsG a1) (a2 : Nat) (h_a2 : HIsG a2) (v3 : Int32) (v4 : Int32) (v5 : Int32) (μ : HMem), HX cx (HQ cx h_eV) (f_MapSums_load_L53 K106 fuel a1 a2 v3 v4 v5 μ) 0 0 53 [(0, .ref 97), (1, .ref a1), (2, .ref a2), (3, .int v3), (4, .int v4), (5, .int v5)] [] μ
  | 0, _, _, _, _, _, _, _, _ => by unfold f_MapSums_load_L53; exact HX.none
  | fuel + 1, a1, h_a1, a2, h_a2, v3, v4, v5, μ => by
    rw [f_MapSums_load_L53]
    exact t_MapSums_load_L53_b hg hA  K106 hK106 (f_MapSums_load_L53 K106 fuel) (t_MapSums_load_L53 hg hA  K106 hK106 fuel) a1 h_a1 a2 h_a2 v3 v4 v5 μ
theorem t_MapSums_load_J106 {cx : HCx} (hg : HGood cx R_MapSums b_MapSums_load 7 2 none) (hA : h_own cx)  (rec_ : Nat → Nat → Int32 → Int32 → HMem → Option (Unit × HMem)) (hrec_ : p_MapSums_load_19 cx rec_) (a1 : Nat) (h_a1 : HIsG a1) (a2 : Nat) (h_a2 : HIsG a2) (v3 : Int32) (v4 : Int32) (μ : HMem) : HX cx (HQ cx h_eV) (f_MapSums_load_J106  rec_ a1 a2 v3 v4 μ) 0 0 106 [(0, .ref 97), (1, .ref a1), (2, .ref a2), (3, .int v3), (4, .int v4)] [] μ := by
  unfold f_MapSums_load_J106
  refine r_letE (fun v4_106 he_106 => ?_)
  refine r_iinc (v := v4_106) (l' := [(4, .int v4_106), (0, .ref 97), (1, .ref a1), (2, .ref a2), (3, .int v3)]) hg 4 d_MapSums_load_106 rfl he_106 (Nat.le_of_ble_eq_true rfl) rfl ?_
  refine r_goto (tgt := 19) hg d_MapSums_load_109 (by decide) ?_
  refine r_sub [1, 2, 3, 4, 0] rfl ?_
  exact hrec_ a1 h_a1 a2 h_a2 v3 v4_106 μ
theorem t_MapSums_load_J49 {cx : HCx} (hg : HGood cx R_MapSums b_MapSums_load 7 2 none) (hA : h_own cx)  (rec_ : Nat → Nat → Int32 → Int32 → HMem → Option (Unit × HMem)) (hrec_ : p_MapSums_load_19 cx rec_) (a1 : Nat) (h_a1 : HIsG a1) (a2 : Nat) (h_a2 : HIsG a2) (v3 : Int32) (v4 : Int32) (s0 : Int32) (s1 : Int32) (μ : HMem) : HX cx (HQ cx h_eV) (f_MapSums_load_J49  rec_ a1 a2 v3 v4 s0 s1 μ) 0 0 49 [(0, .ref 97), (1, .ref a1), (2, .ref a2), (3, .int v3), (4, .int v4)] [.int s0, .int s1, .ref 98] μ := by
  unfold f_MapSums_load_J49
  refine r_iast hg (by decide) rfl d_MapSums_load_49 ?_
  refine r_letM (fun μ_49 => ?_)
  refine r_iconst (v := 0) hg d_MapSums_load_50 (by decide) ?_
  refine r_istore (l' := [(5, .int 0), (0, .ref 97), (1, .ref a1), (2, .ref a2), (3, .int v3), (4, .int v4)]) hg d_MapSums_load_51 (Nat.le_of_ble_eq_true rfl) rfl ?_
  refine r_sub [1, 2, 3, 4, 5, 0] rfl ?_
  exact t_MapSums_load_L53 hg hA (f_MapSums_load_J106 rec_) (t_MapSums_load_J106 hg hA rec_ hrec_) h_fuel a1 h_a1 a2 h_a2 v3 v4 0 μ_49
theorem t_MapSums_load_L19_b {cx : HCx} (hg : HGood cx R_MapSums b_MapSums_load 7 2 none) (hA : h_own cx) (K112 : Nat → HMem → Option (Unit × HMem)) (hK112 : p_MapSums_load_112 cx K112) (rec_ : Nat → Nat → Int32 → Int32 → HMem → Option (Unit × HMem)) (hrec_ : p_MapSums_load_19 cx rec_) (a1 : Nat) (h_a1 : HIsG a1) (a2 : Nat) (h_a2 : HIsG a2) (v3 : Int32) (v4 : Int32) (μ : HMem) : HX cx (HQ cx h_eV) (f_MapSums_load_L19_b K112 rec_ a1 a2 v3 v4 μ) 0 0 19 [(0, .ref 97), (1, .ref a1), (2, .ref a2), (3, .int v3), (4, .int v4)] [] μ := by
  unfold f_MapSums_load_L19_b
  refine r_iload hg 4 d_MapSums_load_19 rfl ?_
  refine r_aload_n hg 0 d_MapSums_load_21 rfl rfl ?_
  refine r_get (v := .int (μ.1 97 1)) hg c_MapSums (by decide) rfl (Nat.le_of_ble_eq_true rfl) rfl wf_MapSums_36 d_MapSums_load_22 rfl ?_
  refine r_icmp_ge (tgt := 112) hg d_MapSums_load_25 (by decide) ?_ ?_
  · refine r_sub [0, 1] rfl ?_
    exact hK112 a1 h_a1 μ
  · refine r_aload_n hg 0 d_MapSums_load_28 rfl rfl ?_
    refine r_get (v := .ref 98) hg c_MapSums (by decide) rfl (Nat.le_of_ble_eq_true rfl) rfl wf_MapSums_9 d_MapSums_load_29 rfl ?_
    refine r_iload hg 4 d_MapSums_load_32 rfl ?_
    refine r_iload_n hg 3 d_MapSums_load_34 rfl rfl ?_
    refine r_if_eq (tgt := 48) hg d_MapSums_load_35 (by decide) ?_ ?_
    · refine r_iconst (v := 1) hg d_MapSums_load_48 (by decide) ?_
      exact t_MapSums_load_J49 hg hA rec_ hrec_ a1 h_a1 a2 h_a2 v3 v4 1 v4 μ
    · refine r_aload_n hg 2 d_MapSums_load_38 rfl rfl ?_
      refine r_get (v := .ref (a2 + 1)) hg c_Graph (h_G_lt h_a2) (h_G_kd h_a2) (Nat.le_of_ble_eq_true rfl) (h_G_fl1 h_a2) wf_MapSums_39 d_MapSums_load_39 rfl ?_
      refine r_iload hg 4 d_MapSums_load_42 rfl ?_
      refine r_iald hg (h_G_lt1 h_a2) (h_G_kd1 h_a2) d_MapSums_load_44 ?_
      refine r_goto (tgt := 49) hg d_MapSums_load_45 (by decide) ?_
      exact t_MapSums_load_J49 hg hA rec_ hrec_ a1 h_a1 a2 h_a2 v3 v4 (μ.1 (a2 + 1) (Int32.toNatClampNeg (v4))) v4 μ
theorem t_MapSums_load_L19 {cx : HCx} (hg : HGood cx R_MapSums b_MapSums_load 7 2 none) (hA : h_own cx) (K112 : Nat → HMem → Option (Unit × HMem)) (hK112 : p_MapSums_load_112 cx K112) : ∀ (fuel : Nat) (a1 : Nat) (h_a1 : HIsG a1) (a2 : Nat) (h_a2 : HIsG a2) (v3 : Int32) (v4 : Int32) (μ : HMem), HX cx (HQ cx h_eV) (f_MapSums_load_L19 K112 fuel a1 a2 v3 v4 μ) 0 0 19 [(0, .ref 97), (1, .ref a1), (2, .ref a2), (3, .int v3), (4, .int v4)] [] μ
  | 0, _, _, _, _, _, _, _ => by unfold f_MapSums_load_L19; exact HX.none
  | fuel + 1, a1, h_a1, a2, h_a2, v3, v4, μ => by
    rw [f_MapSums_load_L19]
    exact t_MapSums_load_L19_b hg hA  K112 hK112 (f_MapSums_load_L19 K112 fuel) (t_MapSums_load_L19 hg hA  K112 hK112 fuel) a1 h_a1 a2 h_a2 v3 v4 μ
theorem t_MapSums_load_L115_b {cx : HCx} (hg : HGood cx R_MapSums b_MapSums_load 7 2 none) (hA : h_own cx)  (rec_ : Nat → Int32 → HMem → Option (Unit × HMem)) (hrec_ : p_MapSums_load_115 cx rec_) (a1 : Nat) (h_a1 : HIsG a1) (v4 : Int32) (μ : HMem) : HX cx (HQ cx h_eV) (f_MapSums_load_L115_b  rec_ a1 v4 μ) 0 0 115 [(0, .ref 97), (1, .ref a1), (4, .int v4)] [] μ := by
  unfold f_MapSums_load_L115_b
  refine r_iload hg 2 d_MapSums_load_115 rfl ?_
  refine r_aload_n hg 0 d_MapSums_load_117 rfl rfl ?_
  refine r_get (v := .int (μ.1 97 0)) hg c_MapSums (by decide) rfl (Nat.le_of_ble_eq_true rfl) rfl wf_MapSums_33 d_MapSums_load_118 rfl ?_
  refine r_icmp_ge (tgt := 153) hg d_MapSums_load_121 (by decide) ?_ ?_
  · exact r_vret hg hA rfl d_MapSums_load_153 rfl
  · refine r_aload_n hg 0 d_MapSums_load_124 rfl rfl ?_
    refine r_get (v := .ref 100) hg c_MapSums (by decide) rfl (Nat.le_of_ble_eq_true rfl) rfl wf_MapSums_18 d_MapSums_load_125 rfl ?_
    refine r_iload hg 2 d_MapSums_load_128 rfl ?_
    refine r_aload_n hg 1 d_MapSums_load_130 rfl rfl ?_
    refine r_get (v := .ref (a1 + 3)) hg c_Graph (h_G_lt h_a1) (h_G_kd h_a1) (Nat.le_of_ble_eq_true rfl) (h_G_fl3 h_a1) wf_MapSums_46 d_MapSums_load_131 rfl ?_
    refine r_iload hg 2 d_MapSums_load_134 rfl ?_
    refine r_iald hg (h_G_lt3 h_a1) (h_G_kd3 h_a1) d_MapSums_load_136 ?_
    refine r_iconst (v := 1) hg d_MapSums_load_137 (by decide) ?_
    refine r_iload hg 2 d_MapSums_load_138 rfl ?_
    refine r_iconst (v := 1) hg d_MapSums_load_140 (by decide) ?_
    refine r_iadd hg d_MapSums_load_141 ?_
    refine r_ishl hg d_MapSums_load_142 ?_
    refine r_iconst (v := 1) hg d_MapSums_load_143 (by decide) ?_
    refine r_isub hg d_MapSums_load_144 ?_
    refine r_iand hg d_MapSums_load_145 ?_
    refine r_iast hg (by decide) rfl d_MapSums_load_146 ?_
    refine r_letM (fun μ_146 => ?_)
    refine r_letE (fun v4_147 he_147 => ?_)
    refine r_iinc (v := v4_147) (l' := [(4, .int v4_147), (0, .ref 97), (1, .ref a1)]) hg 2 d_MapSums_load_147 rfl he_147 (Nat.le_of_ble_eq_true rfl) rfl ?_
    refine r_goto (tgt := 115) hg d_MapSums_load_150 (by decide) ?_
    refine r_sub [1, 2, 0] rfl ?_
    exact hrec_ a1 h_a1 v4_147 μ_146
theorem t_MapSums_load_L115 {cx : HCx} (hg : HGood cx R_MapSums b_MapSums_load 7 2 none) (hA : h_own cx)  : ∀ (fuel : Nat) (a1 : Nat) (h_a1 : HIsG a1) (v4 : Int32) (μ : HMem), HX cx (HQ cx h_eV) (f_MapSums_load_L115  fuel a1 v4 μ) 0 0 115 [(0, .ref 97), (1, .ref a1), (4, .int v4)] [] μ
  | 0, _, _, _, _ => by unfold f_MapSums_load_L115; exact HX.none
  | fuel + 1, a1, h_a1, v4, μ => by
    rw [f_MapSums_load_L115]
    exact t_MapSums_load_L115_b hg hA   (f_MapSums_load_L115  fuel) (t_MapSums_load_L115 hg hA   fuel) a1 h_a1 v4 μ
theorem t_MapSums_load_J112 {cx : HCx} (hg : HGood cx R_MapSums b_MapSums_load 7 2 none) (hA : h_own cx)   (a1 : Nat) (h_a1 : HIsG a1) (μ : HMem) : HX cx (HQ cx h_eV) (f_MapSums_load_J112   a1 μ) 0 0 112 [(0, .ref 97), (1, .ref a1)] [] μ := by
  unfold f_MapSums_load_J112
  refine r_iconst (v := 0) hg d_MapSums_load_112 (by decide) ?_
  refine r_istore (l' := [(4, .int 0), (0, .ref 97), (1, .ref a1)]) hg d_MapSums_load_113 (Nat.le_of_ble_eq_true rfl) rfl ?_
  refine r_sub [1, 2, 0] rfl ?_
  exact t_MapSums_load_L115 hg hA h_fuel a1 h_a1 0 μ
theorem t_MapSums_load_0 {cx : HCx} (hg : HGood cx R_MapSums b_MapSums_load 7 2 none) (hA : h_own cx) (a1 : Nat) (h_a1 : HIsG a1) (a2 : Nat) (h_a2 : HIsG a2) (v3 : Int32) (μ : HMem) : HX cx (HQ cx h_eV) (f_MapSums_load a1 a2 v3 μ) 0 0 0 [(0, .ref 97), (1, .ref a1), (2, .ref a2), (3, .int v3)] [] μ := by
  unfold f_MapSums_load
  refine r_aload_n hg 0 d_MapSums_load_0 rfl rfl ?_
  refine r_aload_n hg 1 d_MapSums_load_1 rfl rfl ?_
  refine r_get (v := .int (μ.1 a1 0)) hg c_Graph (h_G_lt h_a1) (h_G_kd h_a1) (Nat.le_of_ble_eq_true rfl) (h_G_fl0 h_a1) wf_MapSums_27 d_MapSums_load_2 rfl ?_
  refine r_put hg c_MapSums t_MapSums_ok n_MapSums (by decide) rfl (Nat.le_of_ble_eq_true rfl) rfl rfl (by decide +kernel) wf_MapSums_33 d_MapSums_load_5 ?_
  refine r_letM (fun μ_5 => ?_)
  refine r_aload_n hg 0 d_MapSums_load_8 rfl rfl ?_
  refine r_aload_n hg 2 d_MapSums_load_9 rfl rfl ?_
  refine r_get (v := .int (μ_5.1 a2 0)) hg c_Graph (h_G_lt h_a2) (h_G_kd h_a2) (Nat.le_of_ble_eq_true rfl) (h_G_fl0 h_a2) wf_MapSums_27 d_MapSums_load_10 rfl ?_
  refine r_put hg c_MapSums t_MapSums_ok n_MapSums (by decide) rfl (Nat.le_of_ble_eq_true rfl) rfl rfl (by decide +kernel) wf_MapSums_36 d_MapSums_load_13 ?_
  refine r_letM (fun μ_13 => ?_)
  refine r_iconst (v := 0) hg d_MapSums_load_16 (by decide) ?_
  refine r_istore (l' := [(4, .int 0), (0, .ref 97), (1, .ref a1), (2, .ref a2), (3, .int v3)]) hg d_MapSums_load_17 (Nat.le_of_ble_eq_true rfl) rfl ?_
  refine r_sub [1, 2, 3, 4, 0] rfl ?_
  exact t_MapSums_load_L19 hg hA f_MapSums_load_J112 (t_MapSums_load_J112 hg hA) h_fuel a1 h_a1 a2 h_a2 v3 0 μ_13
theorem t_MapSums_load (a1 : Nat) (h_a1 : HIsG a1) (a2 : Nat) (h_a2 : HIsG a2) (v3 : Int32) (μ : HMem) : HSpec y_MapSums_load b_MapSums_load 7 none 2 h_eV [.ref 97, .ref a1, .ref a2, .int v3] μ (f_MapSums_load a1 a2 v3 μ) :=
  HSpec.of (by decide +kernel) (v_MapSums_load.1 _ (by simp)) (Nat.le_of_ble_eq_true rfl) (fun cx hA hg => t_MapSums_load_0 hg hA a1 h_a1 a2 h_a2 v3 μ)
theorem t_MapSums_factor_J68 {cx : HCx} (hg : HGood cx R_MapSums b_MapSums_factor 6 2 (some .long)) (hA : h_own cx)  (rec_ : Int32 → Int32 → Int64 → Int32 → HMem → Option (Int64 × HMem)) (hrec_ : p_MapSums_factor_18 cx rec_) (v1 : Int32) (v2 : Int32) (v3 : Int64) (v5 : Int32) (μ : HMem) : HX cx (HQ cx h_eJ) (f_MapSums_factor_J68  rec_ v1 v2 v3 v5 μ) 0 0 68 [(0, .ref 97), (1, .int v1), (2, .int v2), (3, .long v3), (5, .int v5)] [] μ := by
  unfold f_MapSums_factor_J68
  refine r_letE (fun v5_68 he_68 => ?_)
  refine r_iinc (v := v5_68) (l' := [(5, .int v5_68), (0, .ref 97), (1, .int v1), (2, .int v2), (3, .long v3)]) hg 4 d_MapSums_factor_68 rfl he_68 (Nat.le_of_ble_eq_true rfl) rfl ?_
  refine r_goto (tgt := 18) hg d_MapSums_factor_71 (by decide) ?_
  refine r_sub [1, 2, 3, 4, 0] rfl ?_
  exact hrec_ v1 v2 v3 v5_68 μ
theorem t_MapSums_factor_L18_b {cx : HCx} (hg : HGood cx R_MapSums b_MapSums_factor 6 2 (some .long)) (hA : h_own cx) (K74 : Int64 → HMem → Option (Int64 × HMem)) (hK74 : p_MapSums_factor_74 cx K74) (rec_ : Int32 → Int32 → Int64 → Int32 → HMem → Option (Int64 × HMem)) (hrec_ : p_MapSums_factor_18 cx rec_) (v1 : Int32) (v2 : Int32) (v3 : Int64) (v5 : Int32) (μ : HMem) : HX cx (HQ cx h_eJ) (f_MapSums_factor_L18_b K74 rec_ v1 v2 v3 v5 μ) 0 0 18 [(0, .ref 97), (1, .int v1), (2, .int v2), (3, .long v3), (5, .int v5)] [] μ := by
  unfold f_MapSums_factor_L18_b
  refine r_iload hg 4 d_MapSums_factor_18 rfl ?_
  refine r_aload_n hg 0 d_MapSums_factor_20 rfl rfl ?_
  refine r_get (v := .int (μ.1 97 0)) hg c_MapSums (by decide) rfl (Nat.le_of_ble_eq_true rfl) rfl wf_MapSums_33 d_MapSums_factor_21 rfl ?_
  refine r_icmp_ge (tgt := 74) hg d_MapSums_factor_24 (by decide) ?_ ?_
  · refine r_sub [3] rfl ?_
    exact hK74 v3 μ
  · refine r_lload_n hg 3 d_MapSums_factor_27 rfl rfl ?_
    refine r_lconst (v := 0) hg d_MapSums_factor_28 (by decide) ?_
    refine r_lcmp hg d_MapSums_factor_29 ?_
    refine r_if_eq (tgt := 74) hg d_MapSums_factor_30 (by decide) ?_ ?_
    · refine r_sub [3] rfl ?_
      exact hK74 v3 μ
    · refine r_aload_n hg 0 d_MapSums_factor_33 rfl rfl ?_
      refine r_get (v := .ref 100) hg c_MapSums (by decide) rfl (Nat.le_of_ble_eq_true rfl) rfl wf_MapSums_18 d_MapSums_factor_34 rfl ?_
      refine r_iload_n hg 1 d_MapSums_factor_37 rfl rfl ?_
      refine r_iald hg (by decide) rfl d_MapSums_factor_38 ?_
      refine r_iload hg 4 d_MapSums_factor_39 rfl ?_
      refine r_callN (As := [.int (μ.1 100 (Int32.toNatClampNeg (v1))), .int v5]) (host := "HomBench") hg (t_Bench_has (μ.1 100 (Int32.toNatClampNeg (v1))) v5 μ) v_Bench_has (by decide) d_MapSums_factor_41 rfl ⟨by decide, by decide⟩ (Nat.le_of_ble_eq_true rfl) rfl (fun r41 μ_41 _ => ?_)
      refine r_if_eq (tgt := 68) hg d_MapSums_factor_44 (by decide) ?_ ?_
      · exact t_MapSums_factor_J68 hg hA rec_ hrec_ v1 v2 v3 v5 μ_41
      · refine r_lload_n hg 3 d_MapSums_factor_47 rfl rfl ?_
        refine r_aload_n hg 0 d_MapSums_factor_48 rfl rfl ?_
        refine r_get (v := .ref 99) hg c_MapSums (by decide) rfl (Nat.le_of_ble_eq_true rfl) rfl wf_MapSums_15 d_MapSums_factor_49 rfl ?_
        refine r_bipush (v := 8) hg d_MapSums_factor_52 (by decide) ?_
        refine r_iload_n hg 2 d_MapSums_factor_54 rfl rfl ?_
        refine r_imul hg d_MapSums_factor_55 ?_
        refine r_aload_n hg 0 d_MapSums_factor_56 rfl rfl ?_
        refine r_get (v := .ref 102) hg c_MapSums (by decide) rfl (Nat.le_of_ble_eq_true rfl) rfl wf_MapSums_24 d_MapSums_factor_57 rfl ?_
        refine r_iload hg 4 d_MapSums_factor_60 rfl ?_
        refine r_iald hg (by decide) rfl d_MapSums_factor_62 ?_
        refine r_iadd hg d_MapSums_factor_63 ?_
        refine r_iald hg (by decide) rfl d_MapSums_factor_64 ?_
        refine r_i2l hg d_MapSums_factor_65 ?_
        refine r_lmul hg d_MapSums_factor_66 ?_
        refine r_letJ (fun v3_67 => ?_)
        refine r_lstore_n (l' := [(3, .long v3_67), (0, .ref 97), (1, .int v1), (2, .int v2), (5, .int v5)]) hg d_MapSums_factor_67 rfl (Nat.le_of_ble_eq_true rfl) rfl ?_
        refine r_sub [1, 2, 3, 0, 4] rfl ?_
        exact t_MapSums_factor_J68 hg hA rec_ hrec_ v1 v2 v3_67 v5 μ_41
theorem t_MapSums_factor_L18 {cx : HCx} (hg : HGood cx R_MapSums b_MapSums_factor 6 2 (some .long)) (hA : h_own cx) (K74 : Int64 → HMem → Option (Int64 × HMem)) (hK74 : p_MapSums_factor_74 cx K74) : ∀ (fuel : Nat) (v1 : Int32) (v2 : Int32) (v3 : Int64) (v5 : Int32) (μ : HMem), HX cx (HQ cx h_eJ) (f_MapSums_factor_L18 K74 fuel v1 v2 v3 v5 μ) 0 0 18 [(0, .ref 97), (1, .int v1), (2, .int v2), (3, .long v3), (5, .int v5)] [] μ
  | 0, _, _, _, _, _ => by unfold f_MapSums_factor_L18; exact HX.none
  | fuel + 1, v1, v2, v3, v5, μ => by
    rw [f_MapSums_factor_L18]
    exact t_MapSums_factor_L18_b hg hA  K74 hK74 (f_MapSums_factor_L18 K74 fuel) (t_MapSums_factor_L18 hg hA  K74 hK74 fuel) v1 v2 v3 v5 μ
theorem t_MapSums_factor_J74 {cx : HCx} (hg : HGood cx R_MapSums b_MapSums_factor 6 2 (some .long)) (hA : h_own cx)   (v3 : Int64) (μ : HMem) : HX cx (HQ cx h_eJ) (f_MapSums_factor_J74   v3 μ) 0 0 74 [(3, .long v3)] [] μ := by
  unfold f_MapSums_factor_J74
  refine r_lload_n hg 0 d_MapSums_factor_74 rfl rfl ?_
  exact r_lret hg hA rfl d_MapSums_factor_75 rfl
theorem t_MapSums_factor_0 {cx : HCx} (hg : HGood cx R_MapSums b_MapSums_factor 6 2 (some .long)) (hA : h_own cx) (v1 : Int32) (v2 : Int32) (μ : HMem) : HX cx (HQ cx h_eJ) (f_MapSums_factor v1 v2 μ) 0 0 0 [(0, .ref 97), (1, .int v1), (2, .int v2)] [] μ := by
  unfold f_MapSums_factor
  refine r_aload_n hg 0 d_MapSums_factor_0 rfl rfl ?_
  refine r_get (v := .ref 102) hg c_MapSums (by decide) rfl (Nat.le_of_ble_eq_true rfl) rfl wf_MapSums_24 d_MapSums_factor_1 rfl ?_
  refine r_iload_n hg 1 d_MapSums_factor_4 rfl rfl ?_
  refine r_iload_n hg 2 d_MapSums_factor_5 rfl rfl ?_
  refine r_iast hg (by decide) rfl d_MapSums_factor_6 ?_
  refine r_letM (fun μ_6 => ?_)
  refine r_aload_n hg 0 d_MapSums_factor_7 rfl rfl ?_
  refine r_get (v := .ref 98) hg c_MapSums (by decide) rfl (Nat.le_of_ble_eq_true rfl) rfl wf_MapSums_9 d_MapSums_factor_8 rfl ?_
  refine r_iload_n hg 2 d_MapSums_factor_11 rfl rfl ?_
  refine r_iald hg (by decide) rfl d_MapSums_factor_12 ?_
  refine r_i2l hg d_MapSums_factor_13 ?_
  refine r_letJ (fun v3_14 => ?_)
  refine r_lstore_n (l' := [(3, .long v3_14), (0, .ref 97), (1, .int v1), (2, .int v2)]) hg d_MapSums_factor_14 rfl (Nat.le_of_ble_eq_true rfl) rfl ?_
  refine r_iconst (v := 0) hg d_MapSums_factor_15 (by decide) ?_
  refine r_istore (l' := [(5, .int 0), (3, .long v3_14), (0, .ref 97), (1, .int v1), (2, .int v2)]) hg d_MapSums_factor_16 (Nat.le_of_ble_eq_true rfl) rfl ?_
  refine r_sub [2, 3, 4, 1, 0] rfl ?_
  exact t_MapSums_factor_L18 hg hA f_MapSums_factor_J74 (t_MapSums_factor_J74 hg hA) h_fuel v1 v2 v3_14 0 μ_6
theorem t_MapSums_factor (v1 : Int32) (v2 : Int32) (μ : HMem) : HSpec y_MapSums_factor b_MapSums_factor 6 (some .long) 2 h_eJ [.ref 97, .int v1, .int v2] μ (f_MapSums_factor v1 v2 μ) :=
  HSpec.of (by decide +kernel) (v_MapSums_factor.1 _ (by simp)) (Nat.le_of_ble_eq_true rfl) (fun cx hA hg => t_MapSums_factor_0 hg hA v1 v2 μ)
theorem t_MapSums_largestPart_J34 {cx : HCx} (hg : HGood cx R_MapSums b_MapSums_largestPart 4 3 (some .int)) (hA : h_own cx)  (rec_ : Nat → Int32 → Int32 → Int32 → HMem → Option (Int32 × HMem)) (hrec_ : p_MapSums_largestPart_4 cx rec_) (a0 : Nat) (h_a0 : HIsG a0) (v1 : Int32) (v2 : Int32) (v3 : Int32) (μ : HMem) : HX cx (HQ cx h_eI) (f_MapSums_largestPart_J34  rec_ a0 v1 v2 v3 μ) 0 0 34 [(0, .ref a0), (1, .int v1), (2, .int v2), (3, .int v3)] [] μ := by
  unfold f_MapSums_largestPart_J34
  refine r_letE (fun v3_34 he_34 => ?_)
  refine r_iinc (v := v3_34) (l' := [(3, .int v3_34), (0, .ref a0), (1, .int v1), (2, .int v2)]) hg 3 d_MapSums_largestPart_34 rfl he_34 (Nat.le_of_ble_eq_true rfl) rfl ?_
  refine r_goto (tgt := 4) hg d_MapSums_largestPart_37 (by decide) ?_
  refine r_sub [1, 2, 3, 0] rfl ?_
  exact hrec_ a0 h_a0 v1 v2 v3_34 μ
theorem t_MapSums_largestPart_L4_b {cx : HCx} (hg : HGood cx R_MapSums b_MapSums_largestPart 4 3 (some .int)) (hA : h_own cx)  (rec_ : Nat → Int32 → Int32 → Int32 → HMem → Option (Int32 × HMem)) (hrec_ : p_MapSums_largestPart_4 cx rec_) (a0 : Nat) (h_a0 : HIsG a0) (v1 : Int32) (v2 : Int32) (v3 : Int32) (μ : HMem) : HX cx (HQ cx h_eI) (f_MapSums_largestPart_L4_b  rec_ a0 v1 v2 v3 μ) 0 0 4 [(0, .ref a0), (1, .int v1), (2, .int v2), (3, .int v3)] [] μ := by
  unfold f_MapSums_largestPart_L4_b
  refine r_iload_n hg 3 d_MapSums_largestPart_4 rfl rfl ?_
  refine r_aload_n hg 0 d_MapSums_largestPart_5 rfl rfl ?_
  refine r_get (v := .int (μ.1 a0 0)) hg c_Graph (h_G_lt h_a0) (h_G_kd h_a0) (Nat.le_of_ble_eq_true rfl) (h_G_fl0 h_a0) wf_MapSums_27 d_MapSums_largestPart_6 rfl ?_
  refine r_icmp_ge (tgt := 40) hg d_MapSums_largestPart_9 (by decide) ?_ ?_
  · refine r_iload_n hg 2 d_MapSums_largestPart_40 rfl rfl ?_
    exact r_iret hg hA rfl d_MapSums_largestPart_41 rfl
  · refine r_iload_n hg 1 d_MapSums_largestPart_12 rfl rfl ?_
    refine r_iload_n hg 3 d_MapSums_largestPart_13 rfl rfl ?_
    refine r_callN (As := [.int v1, .int v3]) (host := "HomBench") hg (t_Bench_has v1 v3 μ) v_Bench_has (by decide) d_MapSums_largestPart_14 rfl ⟨by decide, by decide⟩ (Nat.le_of_ble_eq_true rfl) rfl (fun r14 μ_14 _ => ?_)
    refine r_if_eq (tgt := 34) hg d_MapSums_largestPart_17 (by decide) ?_ ?_
    · exact t_MapSums_largestPart_J34 hg hA rec_ hrec_ a0 h_a0 v1 v2 v3 μ_14
    · refine r_iload_n hg 2 d_MapSums_largestPart_20 rfl rfl ?_
      refine r_aload_n hg 0 d_MapSums_largestPart_21 rfl rfl ?_
      refine r_iload_n hg 3 d_MapSums_largestPart_22 rfl rfl ?_
      refine r_iload_n hg 1 d_MapSums_largestPart_23 rfl rfl ?_
      refine r_callV (As := [.int v3, .int v1]) hg (t_Graph_reached a0 h_a0 v3 v1 μ_14) v_Graph_reached c_Graph rfl (h_G_lt h_a0) (h_G_kd h_a0) wm_MapSums_65 d_MapSums_largestPart_24 rfl ⟨by decide, by decide⟩ (Nat.le_of_ble_eq_true rfl) rfl (fun r24 μ_24 _ => ?_)
      refine r_callS (As := [.int r24]) hg (t_Integer_bitCount r24 μ_24) v_Integer_bitCount wm_MapSums_75 d_MapSums_largestPart_27 rfl ⟨by decide, by decide⟩ (Nat.le_of_ble_eq_true rfl) rfl (fun r27 μ_27 _ => ?_)
      refine r_mmax hg (h_w4 wm_MapSums_81 ws_Math_max wi_Math wk_Math_max) d_MapSums_largestPart_30 (Nat.le_of_ble_eq_true rfl) (Nat.le_of_ble_eq_true rfl) ?_
      refine r_letI (fun v2_33 => ?_)
      refine r_istore_n (l' := [(2, .int v2_33), (0, .ref a0), (1, .int v1), (3, .int v3)]) hg d_MapSums_largestPart_33 rfl (Nat.le_of_ble_eq_true rfl) rfl ?_
      refine r_sub [1, 2, 0, 3] rfl ?_
      exact t_MapSums_largestPart_J34 hg hA rec_ hrec_ a0 h_a0 v1 v2_33 v3 μ_27
theorem t_MapSums_largestPart_L4 {cx : HCx} (hg : HGood cx R_MapSums b_MapSums_largestPart 4 3 (some .int)) (hA : h_own cx)  : ∀ (fuel : Nat) (a0 : Nat) (h_a0 : HIsG a0) (v1 : Int32) (v2 : Int32) (v3 : Int32) (μ : HMem), HX cx (HQ cx h_eI) (f_MapSums_largestPart_L4  fuel a0 v1 v2 v3 μ) 0 0 4 [(0, .ref a0), (1, .int v1), (2, .int v2), (3, .int v3)] [] μ
  | 0, _, _, _, _, _, _ => by unfold f_MapSums_largestPart_L4; exact HX.none
  | fuel + 1, a0, h_a0, v1, v2, v3, μ => by
    rw [f_MapSums_largestPart_L4]
    exact t_MapSums_largestPart_L4_b hg hA   (f_MapSums_largestPart_L4  fuel) (t_MapSums_largestPart_L4 hg hA   fuel) a0 h_a0 v1 v2 v3 μ
theorem t_MapSums_largestPart_0 {cx : HCx} (hg : HGood cx R_MapSums b_MapSums_largestPart 4 3 (some .int)) (hA : h_own cx) (a0 : Nat) (h_a0 : HIsG a0) (v1 : Int32) (μ : HMem) : HX cx (HQ cx h_eI) (f_MapSums_largestPart a0 v1 μ) 0 0 0 [(0, .ref a0), (1, .int v1)] [] μ := by
  unfold f_MapSums_largestPart
  refine r_iconst (v := 0) hg d_MapSums_largestPart_0 (by decide) ?_
  refine r_istore_n (l' := [(2, .int 0), (0, .ref a0), (1, .int v1)]) hg d_MapSums_largestPart_1 rfl (Nat.le_of_ble_eq_true rfl) rfl ?_
  refine r_iconst (v := 0) hg d_MapSums_largestPart_2 (by decide) ?_
  refine r_istore_n (l' := [(3, .int 0), (2, .int 0), (0, .ref a0), (1, .int v1)]) hg d_MapSums_largestPart_3 rfl (Nat.le_of_ble_eq_true rfl) rfl ?_
  refine r_sub [2, 3, 1, 0] rfl ?_
  exact t_MapSums_largestPart_L4 hg hA h_fuel a0 h_a0 v1 0 0 μ
theorem t_MapSums_largestPart (a0 : Nat) (h_a0 : HIsG a0) (v1 : Int32) (μ : HMem) : HSpec y_MapSums_largestPart b_MapSums_largestPart 4 (some .int) 3 h_eI [.ref a0, .int v1] μ (f_MapSums_largestPart a0 v1 μ) :=
  HSpec.of (by decide +kernel) (v_MapSums_largestPart.1 _ (by simp)) (Nat.le_of_ble_eq_true rfl) (fun cx hA hg => t_MapSums_largestPart_0 hg hA a0 h_a0 v1 μ)
theorem t_MapSums_bestSeparator_J52 {cx : HCx} (hg : HGood cx R_MapSums b_MapSums_bestSeparator 6 4 (some .int)) (hA : h_own cx)  (rec_ : Nat → Int32 → Int32 → Int32 → Int32 → HMem → Option (Int32 × HMem)) (hrec_ : p_MapSums_bestSeparator_8 cx rec_) (a0 : Nat) (h_a0 : HIsG a0) (v1 : Int32) (v2 : Int32) (v3 : Int32) (v4 : Int32) (μ : HMem) : HX cx (HQ cx h_eI) (f_MapSums_bestSeparator_J52  rec_ a0 v1 v2 v3 v4 μ) 0 0 52 [(0, .ref a0), (1, .int v1), (2, .int v2), (3, .int v3), (4, .int v4)] [] μ := by
  unfold f_MapSums_bestSeparator_J52
  refine r_letE (fun v4_52 he_52 => ?_)
  refine r_iinc (v := v4_52) (l' := [(4, .int v4_52), (0, .ref a0), (1, .int v1), (2, .int v2), (3, .int v3)]) hg 4 d_MapSums_bestSeparator_52 rfl he_52 (Nat.le_of_ble_eq_true rfl) rfl ?_
  refine r_goto (tgt := 8) hg d_MapSums_bestSeparator_55 (by decide) ?_
  refine r_sub [1, 2, 3, 4, 0] rfl ?_
  exact hrec_ a0 h_a0 v1 v2 v3 v4_52 μ
theorem t_MapSums_bestSeparator_L8_b {cx : HCx} (hg : HGood cx R_MapSums b_MapSums_bestSeparator 6 4 (some .int)) (hA : h_own cx)  (rec_ : Nat → Int32 → Int32 → Int32 → Int32 → HMem → Option (Int32 × HMem)) (hrec_ : p_MapSums_bestSeparator_8 cx rec_) (a0 : Nat) (h_a0 : HIsG a0) (v1 : Int32) (v2 : Int32) (v3 : Int32) (v4 : Int32) (μ : HMem) : HX cx (HQ cx h_eI) (f_MapSums_bestSeparator_L8_b  rec_ a0 v1 v2 v3 v4 μ) 0 0 8 [(0, .ref a0), (1, .int v1), (2, .int v2), (3, .int v3), (4, .int v4)] [] μ := by
  unfold f_MapSums_bestSeparator_L8_b
  refine r_iload hg 4 d_MapSums_bestSeparator_8 rfl ?_
  refine r_aload_n hg 0 d_MapSums_bestSeparator_10 rfl rfl ?_
  refine r_get (v := .int (μ.1 a0 0)) hg c_Graph (h_G_lt h_a0) (h_G_kd h_a0) (Nat.le_of_ble_eq_true rfl) (h_G_fl0 h_a0) wf_MapSums_27 d_MapSums_bestSeparator_11 rfl ?_
  refine r_icmp_ge (tgt := 58) hg d_MapSums_bestSeparator_14 (by decide) ?_ ?_
  · refine r_iload_n hg 2 d_MapSums_bestSeparator_58 rfl rfl ?_
    exact r_iret hg hA rfl d_MapSums_bestSeparator_59 rfl
  · refine r_iload_n hg 1 d_MapSums_bestSeparator_17 rfl rfl ?_
    refine r_iload hg 4 d_MapSums_bestSeparator_18 rfl ?_
    refine r_callN (As := [.int v1, .int v4]) (host := "HomBench") hg (t_Bench_has v1 v4 μ) v_Bench_has (by decide) d_MapSums_bestSeparator_20 rfl ⟨by decide, by decide⟩ (Nat.le_of_ble_eq_true rfl) rfl (fun r20 μ_20 _ => ?_)
    refine r_if_eq (tgt := 52) hg d_MapSums_bestSeparator_23 (by decide) ?_ ?_
    · exact t_MapSums_bestSeparator_J52 hg hA rec_ hrec_ a0 h_a0 v1 v2 v3 v4 μ_20
    · refine r_aload_n hg 0 d_MapSums_bestSeparator_26 rfl rfl ?_
      refine r_iload_n hg 1 d_MapSums_bestSeparator_27 rfl rfl ?_
      refine r_iconst (v := 1) hg d_MapSums_bestSeparator_28 (by decide) ?_
      refine r_iload hg 4 d_MapSums_bestSeparator_29 rfl ?_
      refine r_ishl hg d_MapSums_bestSeparator_31 ?_
      refine r_iconst (v := -1) hg d_MapSums_bestSeparator_32 (by decide) ?_
      refine r_ixor hg d_MapSums_bestSeparator_33 ?_
      refine r_iand hg d_MapSums_bestSeparator_34 ?_
      refine r_callS (As := [.ref a0, .int (v1 &&& ((h_ishl 1 v4) ^^^ (-1)))]) hg (t_MapSums_largestPart a0 h_a0 (v1 &&& ((h_ishl 1 v4) ^^^ (-1))) μ_20) v_MapSums_largestPart wm_MapSums_72 d_MapSums_bestSeparator_35 rfl ⟨by decide, by decide⟩ (Nat.le_of_ble_eq_true rfl) rfl (fun r35 μ_35 _ => ?_)
      refine r_istore (l' := [(5, .int r35), (0, .ref a0), (1, .int v1), (2, .int v2), (3, .int v3), (4, .int v4)]) hg d_MapSums_bestSeparator_38 (Nat.le_of_ble_eq_true rfl) rfl ?_
      refine r_iload hg 0 d_MapSums_bestSeparator_40 rfl ?_
      refine r_iload_n hg 4 d_MapSums_bestSeparator_42 rfl rfl ?_
      refine r_icmp_ge (tgt := 52) hg d_MapSums_bestSeparator_43 (by decide) ?_ ?_
      · refine r_sub [1, 2, 3, 4, 5] rfl ?_
        exact t_MapSums_bestSeparator_J52 hg hA rec_ hrec_ a0 h_a0 v1 v2 v3 v4 μ_35
      · refine r_iload hg 5 d_MapSums_bestSeparator_46 rfl ?_
        refine r_istore_n (l' := [(2, .int v4), (5, .int r35), (0, .ref a0), (1, .int v1), (3, .int v3), (4, .int v4)]) hg d_MapSums_bestSeparator_48 rfl (Nat.le_of_ble_eq_true rfl) rfl ?_
        refine r_iload hg 1 d_MapSums_bestSeparator_49 rfl ?_
        refine r_istore_n (l' := [(3, .int r35), (2, .int v4), (5, .int r35), (0, .ref a0), (1, .int v1), (4, .int v4)]) hg d_MapSums_bestSeparator_51 rfl (Nat.le_of_ble_eq_true rfl) rfl ?_
        refine r_sub [3, 4, 1, 0, 5] rfl ?_
        exact t_MapSums_bestSeparator_J52 hg hA rec_ hrec_ a0 h_a0 v1 v4 r35 v4 μ_35
theorem t_MapSums_bestSeparator_L8 {cx : HCx} (hg : HGood cx R_MapSums b_MapSums_bestSeparator 6 4 (some .int)) (hA : h_own cx)  : ∀ (fuel : Nat) (a0 : Nat) (h_a0 : HIsG a0) (v1 : Int32) (v2 : Int32) (v3 : Int32) (v4 : Int32) (μ : HMem), HX cx (HQ cx h_eI) (f_MapSums_bestSeparator_L8  fuel a0 v1 v2 v3 v4 μ) 0 0 8 [(0, .ref a0), (1, .int v1), (2, .int v2), (3, .int v3), (4, .int v4)] [] μ
  | 0, _, _, _, _, _, _, _ => by unfold f_MapSums_bestSeparator_L8; exact HX.none
  | fuel + 1, a0, h_a0, v1, v2, v3, v4, μ => by
    rw [f_MapSums_bestSeparator_L8]
    exact t_MapSums_bestSeparator_L8_b hg hA   (f_MapSums_bestSeparator_L8  fuel) (t_MapSums_bestSeparator_L8 hg hA   fuel) a0 h_a0 v1 v2 v3 v4 μ
theorem t_MapSums_bestSeparator_0 {cx : HCx} (hg : HGood cx R_MapSums b_MapSums_bestSeparator 6 4 (some .int)) (hA : h_own cx) (a0 : Nat) (h_a0 : HIsG a0) (v1 : Int32) (μ : HMem) : HX cx (HQ cx h_eI) (f_MapSums_bestSeparator a0 v1 μ) 0 0 0 [(0, .ref a0), (1, .int v1)] [] μ := by
  unfold f_MapSums_bestSeparator
  refine r_iconst (v := 0) hg d_MapSums_bestSeparator_0 (by decide) ?_
  refine r_istore_n (l' := [(2, .int 0), (0, .ref a0), (1, .int v1)]) hg d_MapSums_bestSeparator_1 rfl (Nat.le_of_ble_eq_true rfl) rfl ?_
  refine r_bipush (v := 9) hg d_MapSums_bestSeparator_2 (by decide) ?_
  refine r_istore_n (l' := [(3, .int 9), (2, .int 0), (0, .ref a0), (1, .int v1)]) hg d_MapSums_bestSeparator_4 rfl (Nat.le_of_ble_eq_true rfl) rfl ?_
  refine r_iconst (v := 0) hg d_MapSums_bestSeparator_5 (by decide) ?_
  refine r_istore (l' := [(4, .int 0), (3, .int 9), (2, .int 0), (0, .ref a0), (1, .int v1)]) hg d_MapSums_bestSeparator_6 (Nat.le_of_ble_eq_true rfl) rfl ?_
  refine r_sub [3, 4, 2, 1, 0] rfl ?_
  exact t_MapSums_bestSeparator_L8 hg hA h_fuel a0 h_a0 v1 0 9 0 μ
theorem t_MapSums_bestSeparator (a0 : Nat) (h_a0 : HIsG a0) (v1 : Int32) (μ : HMem) : HSpec y_MapSums_bestSeparator b_MapSums_bestSeparator 6 (some .int) 4 h_eI [.ref a0, .int v1] μ (f_MapSums_bestSeparator a0 v1 μ) :=
  HSpec.of (by decide +kernel) (v_MapSums_bestSeparator.1 _ (by simp)) (Nat.le_of_ble_eq_true rfl) (fun cx hA hg => t_MapSums_bestSeparator_0 hg hA a0 h_a0 v1 μ)
theorem t_MapSums_split_J129 {rd : Nat} {cx : HCx} (hg : HGood cx R_MapSums b_MapSums_split 11 (5 + (rd + 1)) (some .int)) (hA : h_own cx) (fr_ : Nat → Int32 → Int32 → Int32 → HMem → Option (Int32 × HMem)) (ih : ∀ (a1 : Nat) (h_a1 : HIsG a1) (v2 : Int32) (v3 : Int32) (v4 : Int32) (μ : HMem), HSpec y_MapSums_split b_MapSums_split 11 (some .int) (5 + rd) h_eI [.ref 97, .ref a1, .int v2, .int v3, .int v4] μ (fr_ a1 v2 v3 v4 μ))  (rec_ : Nat → Int32 → Int32 → Int32 → Int32 → Int32 → HMem → Option (Int32 × HMem)) (hrec_ : p_MapSums_split_18 cx rec_) (a1 : Nat) (h_a1 : HIsG a1) (v3 : Int32) (v4 : Int32) (v5 : Int32) (v6 : Int32) (v7 : Int32) (μ : HMem) : HX cx (HQ cx h_eI) (f_MapSums_split_J129 fr_  rec_ a1 v3 v4 v5 v6 v7 μ) 0 0 129 [(0, .ref 97), (1, .ref a1), (3, .int v3), (4, .int v4), (5, .int v5), (6, .int v6), (7, .int v7)] [] μ := by
  unfold f_MapSums_split_J129
  refine r_letE (fun v7_129 he_129 => ?_)
  refine r_iinc (v := v7_129) (l' := [(7, .int v7_129), (0, .ref 97), (1, .ref a1), (3, .int v3), (4, .int v4), (5, .int v5), (6, .int v6)]) hg 6 d_MapSums_split_129 rfl he_129 (Nat.le_of_ble_eq_true rfl) rfl ?_
  refine r_goto (tgt := 18) hg d_MapSums_split_132 (by decide) ?_
  refine r_sub [1, 2, 3, 4, 5, 6, 0] rfl ?_
  exact hrec_ a1 h_a1 v3 v4 v5 v6 v7_129 μ
theorem t_MapSums_split_L18_b {rd : Nat} {cx : HCx} (hg : HGood cx R_MapSums b_MapSums_split 11 (5 + (rd + 1)) (some .int)) (hA : h_own cx) (fr_ : Nat → Int32 → Int32 → Int32 → HMem → Option (Int32 × HMem)) (ih : ∀ (a1 : Nat) (h_a1 : HIsG a1) (v2 : Int32) (v3 : Int32) (v4 : Int32) (μ : HMem), HSpec y_MapSums_split b_MapSums_split 11 (some .int) (5 + rd) h_eI [.ref 97, .ref a1, .int v2, .int v3, .int v4] μ (fr_ a1 v2 v3 v4 μ))  (rec_ : Nat → Int32 → Int32 → Int32 → Int32 → Int32 → HMem → Option (Int32 × HMem)) (hrec_ : p_MapSums_split_18 cx rec_) (a1 : Nat) (h_a1 : HIsG a1) (v3 : Int32) (v4 : Int32) (v5 : Int32) (v6 : Int32) (v7 : Int32) (μ : HMem) : HX cx (HQ cx h_eI) (f_MapSums_split_L18_b fr_  rec_ a1 v3 v4 v5 v6 v7 μ) 0 0 18 [(0, .ref 97), (1, .ref a1), (3, .int v3), (4, .int v4), (5, .int v5), (6, .int v6), (7, .int v7)] [] μ := by
  unfold f_MapSums_split_L18_b
  refine r_iload hg 6 d_MapSums_split_18 rfl ?_
  refine r_aload_n hg 1 d_MapSums_split_20 rfl rfl ?_
  refine r_get (v := .int (μ.1 a1 0)) hg c_Graph (h_G_lt h_a1) (h_G_kd h_a1) (Nat.le_of_ble_eq_true rfl) (h_G_fl0 h_a1) wf_MapSums_27 d_MapSums_split_21 rfl ?_
  refine r_icmp_ge (tgt := 135) hg d_MapSums_split_24 (by decide) ?_ ?_
  · refine r_iload hg 4 d_MapSums_split_135 rfl ?_
    exact r_iret hg hA rfl d_MapSums_split_137 rfl
  · refine r_iload hg 5 d_MapSums_split_27 rfl ?_
    refine r_iload hg 6 d_MapSums_split_29 rfl ?_
    refine r_callN (As := [.int v6, .int v7]) (host := "HomBench") hg (t_Bench_has v6 v7 μ) v_Bench_has (by decide) d_MapSums_split_31 rfl ⟨by omega, by decide⟩ (Nat.le_of_ble_eq_true rfl) rfl (fun r31 μ_31 _ => ?_)
    refine r_if_eq (tgt := 129) hg d_MapSums_split_34 (by decide) ?_ ?_
    · exact t_MapSums_split_J129 hg hA fr_ ih rec_ hrec_ a1 h_a1 v3 v4 v5 v6 v7 μ_31
    · refine r_aload_n hg 1 d_MapSums_split_37 rfl rfl ?_
      refine r_iload hg 6 d_MapSums_split_38 rfl ?_
      refine r_iload hg 5 d_MapSums_split_40 rfl ?_
      refine r_callV (As := [.int v7, .int v6]) hg (t_Graph_reached a1 h_a1 v7 v6 μ_31) v_Graph_reached c_Graph rfl (h_G_lt h_a1) (h_G_kd h_a1) wm_MapSums_65 d_MapSums_split_42 rfl ⟨by omega, by decide⟩ (Nat.le_of_ble_eq_true rfl) rfl (fun r42 μ_42 _ => ?_)
      refine r_istore (l' := [(8, .int r42), (0, .ref 97), (1, .ref a1), (3, .int v3), (4, .int v4), (5, .int v5), (6, .int v6), (7, .int v7)]) hg d_MapSums_split_45 (Nat.le_of_ble_eq_true rfl) rfl ?_
      refine r_aload_n hg 2 d_MapSums_split_47 rfl rfl ?_
      refine r_iload hg 0 d_MapSums_split_48 rfl ?_
      refine r_callS (As := [.ref a1, .int r42]) hg (t_MapSums_bestSeparator a1 h_a1 r42 μ_42) v_MapSums_bestSeparator wm_MapSums_68 d_MapSums_split_50 rfl ⟨by omega, by decide⟩ (Nat.le_of_ble_eq_true rfl) rfl (fun r50 μ_50 _ => ?_)
      refine r_istore (l' := [(9, .int r50), (8, .int r42), (0, .ref 97), (1, .ref a1), (3, .int v3), (4, .int v4), (5, .int v5), (6, .int v6), (7, .int v7)]) hg d_MapSums_split_53 (Nat.le_of_ble_eq_true rfl) rfl ?_
      refine r_iload hg 1 d_MapSums_split_55 rfl ?_
      refine r_iconst (v := 1) hg d_MapSums_split_57 (by decide) ?_
      refine r_iload hg 0 d_MapSums_split_58 rfl ?_
      refine r_ishl hg d_MapSums_split_60 ?_
      refine r_iconst (v := -1) hg d_MapSums_split_61 (by decide) ?_
      refine r_ixor hg d_MapSums_split_62 ?_
      refine r_iand hg d_MapSums_split_63 ?_
      refine r_letI (fun v10_64 => ?_)
      refine r_istore (l' := [(10, .int v10_64), (9, .int r50), (8, .int r42), (0, .ref 97), (1, .ref a1), (3, .int v3), (4, .int v4), (5, .int v5), (6, .int v6), (7, .int v7)]) hg d_MapSums_split_64 (Nat.le_of_ble_eq_true rfl) rfl ?_
      refine r_aload_n hg 3 d_MapSums_split_66 rfl rfl ?_
      refine r_get (v := .ref 100) hg c_MapSums (by decide) rfl (Nat.le_of_ble_eq_true rfl) rfl wf_MapSums_18 d_MapSums_split_67 rfl ?_
      refine r_iload hg 1 d_MapSums_split_70 rfl ?_
      refine r_aload_n hg 4 d_MapSums_split_72 rfl rfl ?_
      refine r_get (v := .ref (a1 + 3)) hg c_Graph (h_G_lt h_a1) (h_G_kd h_a1) (Nat.le_of_ble_eq_true rfl) (h_G_fl3 h_a1) wf_MapSums_46 d_MapSums_split_73 rfl ?_
      refine r_iload hg 1 d_MapSums_split_76 rfl ?_
      refine r_iald hg (h_G_lt3 h_a1) (h_G_kd3 h_a1) d_MapSums_split_78 ?_
      refine r_iload_n hg 5 d_MapSums_split_79 rfl rfl ?_
      refine r_iconst (v := 1) hg d_MapSums_split_80 (by decide) ?_
      refine r_iload hg 1 d_MapSums_split_81 rfl ?_
      refine r_ishl hg d_MapSums_split_83 ?_
      refine r_ior hg d_MapSums_split_84 ?_
      refine r_iand hg d_MapSums_split_85 ?_
      refine r_iast hg (by decide) rfl d_MapSums_split_86 ?_
      refine r_letM (fun μ_86 => ?_)
      refine r_aload_n hg 3 d_MapSums_split_87 rfl rfl ?_
      refine r_get (v := .ref 101) hg c_MapSums (by decide) rfl (Nat.le_of_ble_eq_true rfl) rfl wf_MapSums_21 d_MapSums_split_88 rfl ?_
      refine r_iload hg 1 d_MapSums_split_91 rfl ?_
      refine r_aload_n hg 3 d_MapSums_split_93 rfl rfl ?_
      refine r_aload_n hg 4 d_MapSums_split_94 rfl rfl ?_
      refine r_iload hg 0 d_MapSums_split_95 rfl ?_
      refine r_iload_n hg 5 d_MapSums_split_97 rfl rfl ?_
      refine r_iconst (v := 1) hg d_MapSums_split_98 (by decide) ?_
      refine r_iload hg 1 d_MapSums_split_99 rfl ?_
      refine r_ishl hg d_MapSums_split_101 ?_
      refine r_ior hg d_MapSums_split_102 ?_
      refine r_iload hg 6 d_MapSums_split_103 rfl ?_
      refine r_iconst (v := 1) hg d_MapSums_split_105 (by decide) ?_
      refine r_iadd hg d_MapSums_split_106 ?_
      refine r_callS (As := [.ref 97, .ref a1, .int v10_64, .int (v3 ||| (h_ishl 1 r50)), .int (v4 + 1)]) hg (ih a1 h_a1 v10_64 (v3 ||| (h_ishl 1 r50)) (v4 + 1) μ_86) v_MapSums_split wm_MapSums_57 d_MapSums_split_107 rfl ⟨by omega, by decide⟩ (Nat.le_of_ble_eq_true rfl) rfl (fun r107 μ_107 _ => ?_)
      refine r_iast hg (by decide) rfl d_MapSums_split_110 ?_
      refine r_letM (fun μ_110 => ?_)
      refine r_iload hg 7 d_MapSums_split_111 rfl ?_
      refine r_iconst (v := 1) hg d_MapSums_split_113 (by decide) ?_
      refine r_iload hg 1 d_MapSums_split_114 rfl ?_
      refine r_ishl hg d_MapSums_split_116 ?_
      refine r_ior hg d_MapSums_split_117 ?_
      refine r_letI (fun v5_118 => ?_)
      refine r_istore (l' := [(5, .int v5_118), (10, .int v10_64), (9, .int r50), (8, .int r42), (0, .ref 97), (1, .ref a1), (3, .int v3), (4, .int v4), (6, .int v6), (7, .int v7)]) hg d_MapSums_split_118 (Nat.le_of_ble_eq_true rfl) rfl ?_
      refine r_iload hg 8 d_MapSums_split_120 rfl ?_
      refine r_iload hg 3 d_MapSums_split_122 rfl ?_
      refine r_iconst (v := -1) hg d_MapSums_split_124 (by decide) ?_
      refine r_ixor hg d_MapSums_split_125 ?_
      refine r_iand hg d_MapSums_split_126 ?_
      refine r_letI (fun v6_127 => ?_)
      refine r_istore (l' := [(6, .int v6_127), (5, .int v5_118), (10, .int v10_64), (9, .int r50), (8, .int r42), (0, .ref 97), (1, .ref a1), (3, .int v3), (4, .int v4), (7, .int v7)]) hg d_MapSums_split_127 (Nat.le_of_ble_eq_true rfl) rfl ?_
      refine r_sub [5, 6, 7, 8, 1, 0, 9] rfl ?_
      exact t_MapSums_split_J129 hg hA fr_ ih rec_ hrec_ a1 h_a1 v3 v4 v5_118 v6_127 v7 μ_110
theorem t_MapSums_split_L18 {rd : Nat} {cx : HCx} (hg : HGood cx R_MapSums b_MapSums_split 11 (5 + (rd + 1)) (some .int)) (hA : h_own cx) (fr_ : Nat → Int32 → Int32 → Int32 → HMem → Option (Int32 × HMem)) (ih : ∀ (a1 : Nat) (h_a1 : HIsG a1) (v2 : Int32) (v3 : Int32) (v4 : Int32) (μ : HMem), HSpec y_MapSums_split b_MapSums_split 11 (some .int) (5 + rd) h_eI [.ref 97, .ref a1, .int v2, .int v3, .int v4] μ (fr_ a1 v2 v3 v4 μ))  : ∀ (fuel : Nat) (a1 : Nat) (h_a1 : HIsG a1) (v3 : Int32) (v4 : Int32) (v5 : Int32) (v6 : Int32) (v7 : Int32) (μ : HMem), HX cx (HQ cx h_eI) (f_MapSums_split_L18 fr_  fuel a1 v3 v4 v5 v6 v7 μ) 0 0 18 [(0, .ref 97), (1, .ref a1), (3, .int v3), (4, .int v4), (5, .int v5), (6, .int v6), (7, .int v7)] [] μ
  | 0, _, _, _, _, _, _, _, _ => by unfold f_MapSums_split_L18; exact HX.none
  | fuel + 1, a1, h_a1, v3, v4, v5, v6, v7, μ => by
    rw [f_MapSums_split_L18]
    exact t_MapSums_split_L18_b hg hA fr_ ih   (f_MapSums_split_L18 fr_  fuel) (t_MapSums_split_L18 hg hA fr_ ih   fuel) a1 h_a1 v3 v4 v5 v6 v7 μ
theorem t_MapSums_split_0 {rd : Nat} {cx : HCx} (hg : HGood cx R_MapSums b_MapSums_split 11 (5 + (rd + 1)) (some .int)) (hA : h_own cx) (fr_ : Nat → Int32 → Int32 → Int32 → HMem → Option (Int32 × HMem)) (ih : ∀ (a1 : Nat) (h_a1 : HIsG a1) (v2 : Int32) (v3 : Int32) (v4 : Int32) (μ : HMem), HSpec y_MapSums_split b_MapSums_split 11 (some .int) (5 + rd) h_eI [.ref 97, .ref a1, .int v2, .int v3, .int v4] μ (fr_ a1 v2 v3 v4 μ)) (a1 : Nat) (h_a1 : HIsG a1) (v2 : Int32) (v3 : Int32) (v4 : Int32) (μ : HMem) : HX cx (HQ cx h_eI) (f_MapSums_split_0 fr_ a1 v2 v3 v4 μ) 0 0 0 [(0, .ref 97), (1, .ref a1), (2, .int v2), (3, .int v3), (4, .int v4)] [] μ := by
  unfold f_MapSums_split_0
  refine r_iload hg 4 d_MapSums_split_0 rfl ?_
  refine r_bipush (v := 8) hg d_MapSums_split_2 (by decide) ?_
  refine r_icmp_le (tgt := 9) hg d_MapSums_split_4 (by decide) ?_ ?_
  · refine r_iconst (v := 0) hg d_MapSums_split_9 (by decide) ?_
    refine r_istore (l' := [(5, .int 0), (0, .ref 97), (1, .ref a1), (2, .int v2), (3, .int v3), (4, .int v4)]) hg d_MapSums_split_10 (Nat.le_of_ble_eq_true rfl) rfl ?_
    refine r_iload_n hg 3 d_MapSums_split_12 rfl rfl ?_
    refine r_istore (l' := [(6, .int v2), (5, .int 0), (0, .ref 97), (1, .ref a1), (2, .int v2), (3, .int v3), (4, .int v4)]) hg d_MapSums_split_13 (Nat.le_of_ble_eq_true rfl) rfl ?_
    refine r_iconst (v := 0) hg d_MapSums_split_15 (by decide) ?_
    refine r_istore (l' := [(7, .int 0), (6, .int v2), (5, .int 0), (0, .ref 97), (1, .ref a1), (2, .int v2), (3, .int v3), (4, .int v4)]) hg d_MapSums_split_16 (Nat.le_of_ble_eq_true rfl) rfl ?_
    refine r_sub [3, 4, 6, 7, 2, 1, 0] rfl ?_
    exact t_MapSums_split_L18 hg hA fr_ ih h_fuel a1 h_a1 v3 v4 0 v2 0 μ
  · refine r_iconst (v := 0) hg d_MapSums_split_7 (by decide) ?_
    exact r_iret hg hA rfl d_MapSums_split_8 rfl
theorem t_MapSums_split : ∀ (rd : Nat) (a1 : Nat) (h_a1 : HIsG a1) (v2 : Int32) (v3 : Int32) (v4 : Int32) (μ : HMem), HSpec y_MapSums_split b_MapSums_split 11 (some .int) (5 + rd) h_eI [.ref 97, .ref a1, .int v2, .int v3, .int v4] μ (f_MapSums_split rd a1 v2 v3 v4 μ)
  | 0, _, _, _, _, _, _ => fun r μ' h => by rw [f_MapSums_split] at h; cases h
  | rd + 1, a1, h_a1, v2, v3, v4, μ => by
    rw [f_MapSums_split]
    exact HSpec.of (by decide +kernel) (v_MapSums_split.1 _ (by simp)) (Nat.le_of_ble_eq_true rfl) (fun cx hA hg => t_MapSums_split_0 hg hA (f_MapSums_split rd) (t_MapSums_split rd) a1 h_a1 v2 v3 v4 μ)
theorem t_MapSums_sumBelow_J78 {rd : Nat} {cx : HCx} (hg : HGood cx R_MapSums b_MapSums_sumBelow 9 (3 + (rd + 1)) (some .long)) (hA : h_own cx) (fr_ : Int32 → Int32 → HMem → Option (Int64 × HMem)) (ih : ∀ (v1 : Int32) (v2 : Int32) (μ : HMem), HSpec y_MapSums_sumBelow b_MapSums_sumBelow 9 (some .long) (3 + rd) h_eJ [.ref 97, .int v1, .int v2] μ (fr_ v1 v2 μ))  (rec_ : Int32 → Int32 → Int64 → Int32 → Int64 → Int32 → HMem → Option (Int64 × HMem)) (hrec_ : p_MapSums_sumBelow_34 cx rec_) (v1 : Int32) (v2 : Int32) (v3 : Int64) (v5 : Int32) (v6 : Int64) (v8 : Int32) (μ : HMem) : HX cx (HQ cx h_eJ) (f_MapSums_sumBelow_J78 fr_  rec_ v1 v2 v3 v5 v6 v8 μ) 0 0 78 [(0, .ref 97), (1, .int v1), (2, .int v2), (3, .long v3), (5, .int v5), (6, .long v6), (8, .int v8)] [] μ := by
  unfold f_MapSums_sumBelow_J78
  refine r_letE (fun v8_78 he_78 => ?_)
  refine r_iinc (v := v8_78) (l' := [(8, .int v8_78), (0, .ref 97), (1, .int v1), (2, .int v2), (3, .long v3), (5, .int v5), (6, .long v6)]) hg 6 d_MapSums_sumBelow_78 rfl he_78 (Nat.le_of_ble_eq_true rfl) rfl ?_
  refine r_goto (tgt := 34) hg d_MapSums_sumBelow_81 (by decide) ?_
  refine r_sub [1, 2, 3, 4, 5, 6, 0] rfl ?_
  exact hrec_ v1 v2 v3 v5 v6 v8_78 μ
theorem t_MapSums_sumBelow_L34_b {rd : Nat} {cx : HCx} (hg : HGood cx R_MapSums b_MapSums_sumBelow 9 (3 + (rd + 1)) (some .long)) (hA : h_own cx) (fr_ : Int32 → Int32 → HMem → Option (Int64 × HMem)) (ih : ∀ (v1 : Int32) (v2 : Int32) (μ : HMem), HSpec y_MapSums_sumBelow b_MapSums_sumBelow 9 (some .long) (3 + rd) h_eJ [.ref 97, .int v1, .int v2] μ (fr_ v1 v2 μ)) (K84 : Int32 → Int32 → Int64 → Int32 → Int64 → HMem → Option (Int64 × HMem)) (hK84 : p_MapSums_sumBelow_84 cx K84) (rec_ : Int32 → Int32 → Int64 → Int32 → Int64 → Int32 → HMem → Option (Int64 × HMem)) (hrec_ : p_MapSums_sumBelow_34 cx rec_) (v1 : Int32) (v2 : Int32) (v3 : Int64) (v5 : Int32) (v6 : Int64) (v8 : Int32) (μ : HMem) : HX cx (HQ cx h_eJ) (f_MapSums_sumBelow_L34_b fr_ K84 rec_ v1 v2 v3 v5 v6 v8 μ) 0 0 34 [(0, .ref 97), (1, .int v1), (2, .int v2), (3, .long v3), (5, .int v5), (6, .long v6), (8, .int v8)] [] μ := by
  unfold f_MapSums_sumBelow_L34_b
  refine r_iload hg 6 d_MapSums_sumBelow_34 rfl ?_
  refine r_aload_n hg 0 d_MapSums_sumBelow_36 rfl rfl ?_
  refine r_get (v := .int (μ.1 97 0)) hg c_MapSums (by decide) rfl (Nat.le_of_ble_eq_true rfl) rfl wf_MapSums_33 d_MapSums_sumBelow_37 rfl ?_
  refine r_icmp_ge (tgt := 84) hg d_MapSums_sumBelow_40 (by decide) ?_ ?_
  · refine r_sub [0, 1, 2, 3, 4, 5] rfl ?_
    exact hK84 v1 v2 v3 v5 v6 μ
  · refine r_lload hg 5 d_MapSums_sumBelow_43 rfl ?_
    refine r_lconst (v := 0) hg d_MapSums_sumBelow_45 (by decide) ?_
    refine r_lcmp hg d_MapSums_sumBelow_46 ?_
    refine r_if_eq (tgt := 84) hg d_MapSums_sumBelow_47 (by decide) ?_ ?_
    · refine r_sub [0, 1, 2, 3, 4, 5] rfl ?_
      exact hK84 v1 v2 v3 v5 v6 μ
    · refine r_aload_n hg 0 d_MapSums_sumBelow_50 rfl rfl ?_
      refine r_get (v := .ref 101) hg c_MapSums (by decide) rfl (Nat.le_of_ble_eq_true rfl) rfl wf_MapSums_21 d_MapSums_sumBelow_51 rfl ?_
      refine r_iload_n hg 1 d_MapSums_sumBelow_54 rfl rfl ?_
      refine r_iald hg (by decide) rfl d_MapSums_sumBelow_55 ?_
      refine r_iload hg 6 d_MapSums_sumBelow_56 rfl ?_
      refine r_callN (As := [.int (μ.1 101 (Int32.toNatClampNeg (v1))), .int v8]) (host := "HomBench") hg (t_Bench_has (μ.1 101 (Int32.toNatClampNeg (v1))) v8 μ) v_Bench_has (by decide) d_MapSums_sumBelow_58 rfl ⟨by omega, by decide⟩ (Nat.le_of_ble_eq_true rfl) rfl (fun r58 μ_58 _ => ?_)
      refine r_if_eq (tgt := 78) hg d_MapSums_sumBelow_61 (by decide) ?_ ?_
      · exact t_MapSums_sumBelow_J78 hg hA fr_ ih rec_ hrec_ v1 v2 v3 v5 v6 v8 μ_58
      · refine r_lload hg 5 d_MapSums_sumBelow_64 rfl ?_
        refine r_aload_n hg 0 d_MapSums_sumBelow_66 rfl rfl ?_
        refine r_iload hg 6 d_MapSums_sumBelow_67 rfl ?_
        refine r_iload_n hg 2 d_MapSums_sumBelow_69 rfl rfl ?_
        refine r_iconst (v := 1) hg d_MapSums_sumBelow_70 (by decide) ?_
        refine r_iadd hg d_MapSums_sumBelow_71 ?_
        refine r_callS (As := [.ref 97, .int v8, .int (v2 + 1)]) hg (ih v8 (v2 + 1) μ_58) v_MapSums_sumBelow wm_MapSums_61 d_MapSums_sumBelow_72 rfl ⟨by omega, by decide⟩ (Nat.le_of_ble_eq_true rfl) rfl (fun r72 μ_72 _ => ?_)
        refine r_lmul hg d_MapSums_sumBelow_75 ?_
        refine r_letJ (fun v6_76 => ?_)
        refine r_lstore (l' := [(6, .long v6_76), (0, .ref 97), (1, .int v1), (2, .int v2), (3, .long v3), (5, .int v5), (8, .int v8)]) hg d_MapSums_sumBelow_76 (Nat.le_of_ble_eq_true rfl) rfl ?_
        refine r_sub [1, 2, 3, 4, 5, 0, 6] rfl ?_
        exact t_MapSums_sumBelow_J78 hg hA fr_ ih rec_ hrec_ v1 v2 v3 v5 v6_76 v8 μ_72
theorem t_MapSums_sumBelow_L34 {rd : Nat} {cx : HCx} (hg : HGood cx R_MapSums b_MapSums_sumBelow 9 (3 + (rd + 1)) (some .long)) (hA : h_own cx) (fr_ : Int32 → Int32 → HMem → Option (Int64 × HMem)) (ih : ∀ (v1 : Int32) (v2 : Int32) (μ : HMem), HSpec y_MapSums_sumBelow b_MapSums_sumBelow 9 (some .long) (3 + rd) h_eJ [.ref 97, .int v1, .int v2] μ (fr_ v1 v2 μ)) (K84 : Int32 → Int32 → Int64 → Int32 → Int64 → HMem → Option (Int64 × HMem)) (hK84 : p_MapSums_sumBelow_84 cx K84) : ∀ (fuel : Nat) (v1 : Int32) (v2 : Int32) (v3 : Int64) (v5 : Int32) (v6 : Int64) (v8 : Int32) (μ : HMem), HX cx (HQ cx h_eJ) (f_MapSums_sumBelow_L34 fr_ K84 fuel v1 v2 v3 v5 v6 v8 μ) 0 0 34 [(0, .ref 97), (1, .int v1), (2, .int v2), (3, .long v3), (5, .int v5), (6, .long v6), (8, .int v8)] [] μ
  | 0, _, _, _, _, _, _, _ => by unfold f_MapSums_sumBelow_L34; exact HX.none
  | fuel + 1, v1, v2, v3, v5, v6, v8, μ => by
    rw [f_MapSums_sumBelow_L34]
    exact t_MapSums_sumBelow_L34_b hg hA fr_ ih  K84 hK84 (f_MapSums_sumBelow_L34 fr_ K84 fuel) (t_MapSums_sumBelow_L34 hg hA fr_ ih  K84 hK84 fuel) v1 v2 v3 v5 v6 v8 μ
theorem t_MapSums_sumBelow_J84 {rd : Nat} {cx : HCx} (hg : HGood cx R_MapSums b_MapSums_sumBelow 9 (3 + (rd + 1)) (some .long)) (hA : h_own cx) (fr_ : Int32 → Int32 → HMem → Option (Int64 × HMem)) (ih : ∀ (v1 : Int32) (v2 : Int32) (μ : HMem), HSpec y_MapSums_sumBelow b_MapSums_sumBelow 9 (some .long) (3 + rd) h_eJ [.ref 97, .int v1, .int v2] μ (fr_ v1 v2 μ))  (rec_ : Int32 → Int32 → Int64 → Int32 → HMem → Option (Int64 × HMem)) (hrec_ : p_MapSums_sumBelow_13 cx rec_) (v1 : Int32) (v2 : Int32) (v3 : Int64) (v5 : Int32) (v6 : Int64) (μ : HMem) : HX cx (HQ cx h_eJ) (f_MapSums_sumBelow_J84 fr_  rec_ v1 v2 v3 v5 v6 μ) 0 0 84 [(0, .ref 97), (1, .int v1), (2, .int v2), (3, .long v3), (5, .int v5), (6, .long v6)] [] μ := by
  unfold f_MapSums_sumBelow_J84
  refine r_lload_n hg 3 d_MapSums_sumBelow_84 rfl rfl ?_
  refine r_lload hg 5 d_MapSums_sumBelow_85 rfl ?_
  refine r_ladd hg d_MapSums_sumBelow_87 ?_
  refine r_letJ (fun v3_88 => ?_)
  refine r_lstore_n (l' := [(3, .long v3_88), (0, .ref 97), (1, .int v1), (2, .int v2), (5, .int v5), (6, .long v6)]) hg d_MapSums_sumBelow_88 rfl (Nat.le_of_ble_eq_true rfl) rfl ?_
  refine r_letE (fun v5_89 he_89 => ?_)
  refine r_iinc (v := v5_89) (l' := [(5, .int v5_89), (3, .long v3_88), (0, .ref 97), (1, .int v1), (2, .int v2), (6, .long v6)]) hg 4 d_MapSums_sumBelow_89 rfl he_89 (Nat.le_of_ble_eq_true rfl) rfl ?_
  refine r_goto (tgt := 13) hg d_MapSums_sumBelow_92 (by decide) ?_
  refine r_sub [2, 3, 4, 1, 0] rfl ?_
  exact hrec_ v1 v2 v3_88 v5_89 μ
theorem t_MapSums_sumBelow_L13_b {rd : Nat} {cx : HCx} (hg : HGood cx R_MapSums b_MapSums_sumBelow 9 (3 + (rd + 1)) (some .long)) (hA : h_own cx) (fr_ : Int32 → Int32 → HMem → Option (Int64 × HMem)) (ih : ∀ (v1 : Int32) (v2 : Int32) (μ : HMem), HSpec y_MapSums_sumBelow b_MapSums_sumBelow 9 (some .long) (3 + rd) h_eJ [.ref 97, .int v1, .int v2] μ (fr_ v1 v2 μ))  (rec_ : Int32 → Int32 → Int64 → Int32 → HMem → Option (Int64 × HMem)) (hrec_ : p_MapSums_sumBelow_13 cx rec_) (v1 : Int32) (v2 : Int32) (v3 : Int64) (v5 : Int32) (μ : HMem) : HX cx (HQ cx h_eJ) (f_MapSums_sumBelow_L13_b fr_  rec_ v1 v2 v3 v5 μ) 0 0 13 [(0, .ref 97), (1, .int v1), (2, .int v2), (3, .long v3), (5, .int v5)] [] μ := by
  unfold f_MapSums_sumBelow_L13_b
  refine r_iload hg 4 d_MapSums_sumBelow_13 rfl ?_
  refine r_aload_n hg 0 d_MapSums_sumBelow_15 rfl rfl ?_
  refine r_get (v := .int (μ.1 97 1)) hg c_MapSums (by decide) rfl (Nat.le_of_ble_eq_true rfl) rfl wf_MapSums_36 d_MapSums_sumBelow_16 rfl ?_
  refine r_icmp_ge (tgt := 95) hg d_MapSums_sumBelow_19 (by decide) ?_ ?_
  · refine r_lload_n hg 3 d_MapSums_sumBelow_95 rfl rfl ?_
    exact r_lret hg hA rfl d_MapSums_sumBelow_96 rfl
  · refine r_aload_n hg 0 d_MapSums_sumBelow_22 rfl rfl ?_
    refine r_iload_n hg 1 d_MapSums_sumBelow_23 rfl rfl ?_
    refine r_iload hg 4 d_MapSums_sumBelow_24 rfl ?_
    refine r_callV (As := [.int v1, .int v5]) hg (t_MapSums_factor v1 v5 μ) v_MapSums_factor c_MapSums rfl (by decide) rfl wm_MapSums_86 d_MapSums_sumBelow_26 rfl ⟨by omega, by decide⟩ (Nat.le_of_ble_eq_true rfl) rfl (fun r26 μ_26 _ => ?_)
    refine r_lstore (l' := [(6, .long r26), (0, .ref 97), (1, .int v1), (2, .int v2), (3, .long v3), (5, .int v5)]) hg d_MapSums_sumBelow_29 (Nat.le_of_ble_eq_true rfl) rfl ?_
    refine r_iconst (v := 0) hg d_MapSums_sumBelow_31 (by decide) ?_
    refine r_istore (l' := [(8, .int 0), (6, .long r26), (0, .ref 97), (1, .int v1), (2, .int v2), (3, .long v3), (5, .int v5)]) hg d_MapSums_sumBelow_32 (Nat.le_of_ble_eq_true rfl) rfl ?_
    refine r_sub [2, 3, 4, 5, 6, 1, 0] rfl ?_
    exact t_MapSums_sumBelow_L34 hg hA fr_ ih (f_MapSums_sumBelow_J84 fr_ rec_) (t_MapSums_sumBelow_J84 hg hA fr_ ih rec_ hrec_) h_fuel v1 v2 v3 v5 r26 0 μ_26
theorem t_MapSums_sumBelow_L13 {rd : Nat} {cx : HCx} (hg : HGood cx R_MapSums b_MapSums_sumBelow 9 (3 + (rd + 1)) (some .long)) (hA : h_own cx) (fr_ : Int32 → Int32 → HMem → Option (Int64 × HMem)) (ih : ∀ (v1 : Int32) (v2 : Int32) (μ : HMem), HSpec y_MapSums_sumBelow b_MapSums_sumBelow 9 (some .long) (3 + rd) h_eJ [.ref 97, .int v1, .int v2] μ (fr_ v1 v2 μ))  : ∀ (fuel : Nat) (v1 : Int32) (v2 : Int32) (v3 : Int64) (v5 : Int32) (μ : HMem), HX cx (HQ cx h_eJ) (f_MapSums_sumBelow_L13 fr_  fuel v1 v2 v3 v5 μ) 0 0 13 [(0, .ref 97), (1, .int v1), (2, .int v2), (3, .long v3), (5, .int v5)] [] μ
  | 0, _, _, _, _, _ => by unfold f_MapSums_sumBelow_L13; exact HX.none
  | fuel + 1, v1, v2, v3, v5, μ => by
    rw [f_MapSums_sumBelow_L13]
    exact t_MapSums_sumBelow_L13_b hg hA fr_ ih   (f_MapSums_sumBelow_L13 fr_  fuel) (t_MapSums_sumBelow_L13 hg hA fr_ ih   fuel) v1 v2 v3 v5 μ
theorem t_MapSums_sumBelow_0 {rd : Nat} {cx : HCx} (hg : HGood cx R_MapSums b_MapSums_sumBelow 9 (3 + (rd + 1)) (some .long)) (hA : h_own cx) (fr_ : Int32 → Int32 → HMem → Option (Int64 × HMem)) (ih : ∀ (v1 : Int32) (v2 : Int32) (μ : HMem), HSpec y_MapSums_sumBelow b_MapSums_sumBelow 9 (some .long) (3 + rd) h_eJ [.ref 97, .int v1, .int v2] μ (fr_ v1 v2 μ)) (v1 : Int32) (v2 : Int32) (μ : HMem) : HX cx (HQ cx h_eJ) (f_MapSums_sumBelow_0 fr_ v1 v2 μ) 0 0 0 [(0, .ref 97), (1, .int v1), (2, .int v2)] [] μ := by
  unfold f_MapSums_sumBelow_0
  refine r_iload_n hg 2 d_MapSums_sumBelow_0 rfl rfl ?_
  refine r_bipush (v := 8) hg d_MapSums_sumBelow_1 (by decide) ?_
  refine r_icmp_le (tgt := 8) hg d_MapSums_sumBelow_3 (by decide) ?_ ?_
  · refine r_lconst (v := 0) hg d_MapSums_sumBelow_8 (by decide) ?_
    refine r_lstore_n (l' := [(3, .long 0), (0, .ref 97), (1, .int v1), (2, .int v2)]) hg d_MapSums_sumBelow_9 rfl (Nat.le_of_ble_eq_true rfl) rfl ?_
    refine r_iconst (v := 0) hg d_MapSums_sumBelow_10 (by decide) ?_
    refine r_istore (l' := [(5, .int 0), (3, .long 0), (0, .ref 97), (1, .int v1), (2, .int v2)]) hg d_MapSums_sumBelow_11 (Nat.le_of_ble_eq_true rfl) rfl ?_
    refine r_sub [2, 3, 4, 1, 0] rfl ?_
    exact t_MapSums_sumBelow_L13 hg hA fr_ ih h_fuel v1 v2 0 0 μ
  · refine r_lconst (v := 0) hg d_MapSums_sumBelow_6 (by decide) ?_
    exact r_lret hg hA rfl d_MapSums_sumBelow_7 rfl
theorem t_MapSums_sumBelow : ∀ (rd : Nat) (v1 : Int32) (v2 : Int32) (μ : HMem), HSpec y_MapSums_sumBelow b_MapSums_sumBelow 9 (some .long) (3 + rd) h_eJ [.ref 97, .int v1, .int v2] μ (f_MapSums_sumBelow rd v1 v2 μ)
  | 0, _, _, _ => fun r μ' h => by rw [f_MapSums_sumBelow] at h; cases h
  | rd + 1, v1, v2, μ => by
    rw [f_MapSums_sumBelow]
    exact HSpec.of (by decide +kernel) (v_MapSums_sumBelow.1 _ (by simp)) (Nat.le_of_ble_eq_true rfl) (fun cx hA hg => t_MapSums_sumBelow_0 hg hA (f_MapSums_sumBelow rd) (t_MapSums_sumBelow rd) v1 v2 μ)
theorem t_MapSums_overAllMaps_J51 {cx : HCx} (hg : HGood cx R_MapSums b_MapSums_overAllMaps 6 22 (some .long)) (hA : h_own cx)  (rec_ : Int32 → Int64 → Int32 → HMem → Option (Int64 × HMem)) (hrec_ : p_MapSums_overAllMaps_17 cx rec_) (v2 : Int32) (v3 : Int64) (v5 : Int32) (μ : HMem) : HX cx (HQ cx h_eJ) (f_MapSums_overAllMaps_J51  rec_ v2 v3 v5 μ) 0 0 51 [(0, .ref 97), (2, .int v2), (3, .long v3), (5, .int v5)] [] μ := by
  unfold f_MapSums_overAllMaps_J51
  refine r_letE (fun v5_51 he_51 => ?_)
  refine r_iinc (v := v5_51) (l' := [(5, .int v5_51), (0, .ref 97), (2, .int v2), (3, .long v3)]) hg 3 d_MapSums_overAllMaps_51 rfl he_51 (Nat.le_of_ble_eq_true rfl) rfl ?_
  refine r_goto (tgt := 17) hg d_MapSums_overAllMaps_54 (by decide) ?_
  refine r_sub [1, 2, 3, 0] rfl ?_
  exact hrec_ v2 v3 v5_51 μ
theorem t_MapSums_overAllMaps_L17_b {cx : HCx} (hg : HGood cx R_MapSums b_MapSums_overAllMaps 6 22 (some .long)) (hA : h_own cx) (K57 : Int64 → HMem → Option (Int64 × HMem)) (hK57 : p_MapSums_overAllMaps_57 cx K57) (rec_ : Int32 → Int64 → Int32 → HMem → Option (Int64 × HMem)) (hrec_ : p_MapSums_overAllMaps_17 cx rec_) (v2 : Int32) (v3 : Int64) (v5 : Int32) (μ : HMem) : HX cx (HQ cx h_eJ) (f_MapSums_overAllMaps_L17_b K57 rec_ v2 v3 v5 μ) 0 0 17 [(0, .ref 97), (2, .int v2), (3, .long v3), (5, .int v5)] [] μ := by
  unfold f_MapSums_overAllMaps_L17_b
  refine r_iload hg 3 d_MapSums_overAllMaps_17 rfl ?_
  refine r_aload_n hg 0 d_MapSums_overAllMaps_19 rfl rfl ?_
  refine r_get (v := .int (μ.1 97 0)) hg c_MapSums (by decide) rfl (Nat.le_of_ble_eq_true rfl) rfl wf_MapSums_33 d_MapSums_overAllMaps_20 rfl ?_
  refine r_icmp_ge (tgt := 57) hg d_MapSums_overAllMaps_23 (by decide) ?_ ?_
  · refine r_sub [2] rfl ?_
    exact hK57 v3 μ
  · refine r_lload_n hg 2 d_MapSums_overAllMaps_26 rfl rfl ?_
    refine r_lconst (v := 0) hg d_MapSums_overAllMaps_27 (by decide) ?_
    refine r_lcmp hg d_MapSums_overAllMaps_28 ?_
    refine r_if_eq (tgt := 57) hg d_MapSums_overAllMaps_29 (by decide) ?_ ?_
    · refine r_sub [2] rfl ?_
      exact hK57 v3 μ
    · refine r_iload_n hg 1 d_MapSums_overAllMaps_32 rfl rfl ?_
      refine r_iload hg 3 d_MapSums_overAllMaps_33 rfl ?_
      refine r_callN (As := [.int v2, .int v5]) (host := "HomBench") hg (t_Bench_has v2 v5 μ) v_Bench_has (by decide) d_MapSums_overAllMaps_35 rfl ⟨by decide, by decide⟩ (Nat.le_of_ble_eq_true rfl) rfl (fun r35 μ_35 _ => ?_)
      refine r_if_eq (tgt := 51) hg d_MapSums_overAllMaps_38 (by decide) ?_ ?_
      · exact t_MapSums_overAllMaps_J51 hg hA rec_ hrec_ v2 v3 v5 μ_35
      · refine r_lload_n hg 2 d_MapSums_overAllMaps_41 rfl rfl ?_
        refine r_aload_n hg 0 d_MapSums_overAllMaps_42 rfl rfl ?_
        refine r_iload hg 3 d_MapSums_overAllMaps_43 rfl ?_
        refine r_iconst (v := 0) hg d_MapSums_overAllMaps_45 (by decide) ?_
        refine r_callS (As := [.ref 97, .int v5, .int 0]) hg (t_MapSums_sumBelow h_deep v5 0 μ_35) v_MapSums_sumBelow wm_MapSums_61 d_MapSums_overAllMaps_46 rfl ⟨by decide, by decide⟩ (Nat.le_of_ble_eq_true rfl) rfl (fun r46 μ_46 _ => ?_)
        refine r_lmul hg d_MapSums_overAllMaps_49 ?_
        refine r_letJ (fun v3_50 => ?_)
        refine r_lstore_n (l' := [(3, .long v3_50), (0, .ref 97), (2, .int v2), (5, .int v5)]) hg d_MapSums_overAllMaps_50 rfl (Nat.le_of_ble_eq_true rfl) rfl ?_
        refine r_sub [1, 2, 0, 3] rfl ?_
        exact t_MapSums_overAllMaps_J51 hg hA rec_ hrec_ v2 v3_50 v5 μ_46
theorem t_MapSums_overAllMaps_L17 {cx : HCx} (hg : HGood cx R_MapSums b_MapSums_overAllMaps 6 22 (some .long)) (hA : h_own cx) (K57 : Int64 → HMem → Option (Int64 × HMem)) (hK57 : p_MapSums_overAllMaps_57 cx K57) : ∀ (fuel : Nat) (v2 : Int32) (v3 : Int64) (v5 : Int32) (μ : HMem), HX cx (HQ cx h_eJ) (f_MapSums_overAllMaps_L17 K57 fuel v2 v3 v5 μ) 0 0 17 [(0, .ref 97), (2, .int v2), (3, .long v3), (5, .int v5)] [] μ
  | 0, _, _, _, _ => by unfold f_MapSums_overAllMaps_L17; exact HX.none
  | fuel + 1, v2, v3, v5, μ => by
    rw [f_MapSums_overAllMaps_L17]
    exact t_MapSums_overAllMaps_L17_b hg hA  K57 hK57 (f_MapSums_overAllMaps_L17 K57 fuel) (t_MapSums_overAllMaps_L17 hg hA  K57 hK57 fuel) v2 v3 v5 μ
theorem t_MapSums_overAllMaps_J57 {cx : HCx} (hg : HGood cx R_MapSums b_MapSums_overAllMaps 6 22 (some .long)) (hA : h_own cx)   (v3 : Int64) (μ : HMem) : HX cx (HQ cx h_eJ) (f_MapSums_overAllMaps_J57   v3 μ) 0 0 57 [(3, .long v3)] [] μ := by
  unfold f_MapSums_overAllMaps_J57
  refine r_lload_n hg 0 d_MapSums_overAllMaps_57 rfl rfl ?_
  exact r_lret hg hA rfl d_MapSums_overAllMaps_58 rfl
theorem t_MapSums_overAllMaps_0 {cx : HCx} (hg : HGood cx R_MapSums b_MapSums_overAllMaps 6 22 (some .long)) (hA : h_own cx) (a1 : Nat) (h_a1 : HIsG a1) (μ : HMem) : HX cx (HQ cx h_eJ) (f_MapSums_overAllMaps a1 μ) 0 0 0 [(0, .ref 97), (1, .ref a1)] [] μ := by
  unfold f_MapSums_overAllMaps
  refine r_aload_n hg 0 d_MapSums_overAllMaps_0 rfl rfl ?_
  refine r_aload_n hg 1 d_MapSums_overAllMaps_1 rfl rfl ?_
  refine r_aload_n hg 1 d_MapSums_overAllMaps_2 rfl rfl ?_
  refine r_callV (As := []) hg (t_Graph_all a1 h_a1 μ) v_Graph_all c_Graph rfl (h_G_lt h_a1) (h_G_kd h_a1) wm_MapSums_53 d_MapSums_overAllMaps_3 rfl ⟨by decide, by decide⟩ (Nat.le_of_ble_eq_true rfl) rfl (fun r3 μ_3 _ => ?_)
  refine r_iconst (v := 0) hg d_MapSums_overAllMaps_6 (by decide) ?_
  refine r_iconst (v := 0) hg d_MapSums_overAllMaps_7 (by decide) ?_
  refine r_callS (As := [.ref 97, .ref a1, .int r3, .int 0, .int 0]) hg (t_MapSums_split h_deep a1 h_a1 r3 0 0 μ_3) v_MapSums_split wm_MapSums_57 d_MapSums_overAllMaps_8 rfl ⟨by decide, by decide⟩ (Nat.le_of_ble_eq_true rfl) rfl (fun r8 μ_8 _ => ?_)
  refine r_istore_n (l' := [(2, .int r8), (0, .ref 97), (1, .ref a1)]) hg d_MapSums_overAllMaps_11 rfl (Nat.le_of_ble_eq_true rfl) rfl ?_
  refine r_lconst (v := 1) hg d_MapSums_overAllMaps_12 (by decide) ?_
  refine r_lstore_n (l' := [(3, .long 1), (2, .int r8), (0, .ref 97), (1, .ref a1)]) hg d_MapSums_overAllMaps_13 rfl (Nat.le_of_ble_eq_true rfl) rfl ?_
  refine r_iconst (v := 0) hg d_MapSums_overAllMaps_14 (by decide) ?_
  refine r_istore (l' := [(5, .int 0), (3, .long 1), (2, .int r8), (0, .ref 97), (1, .ref a1)]) hg d_MapSums_overAllMaps_15 (Nat.le_of_ble_eq_true rfl) rfl ?_
  refine r_sub [3, 2, 1, 0] rfl ?_
  exact t_MapSums_overAllMaps_L17 hg hA f_MapSums_overAllMaps_J57 (t_MapSums_overAllMaps_J57 hg hA) h_fuel r8 1 0 μ_8
theorem t_MapSums_overAllMaps (a1 : Nat) (h_a1 : HIsG a1) (μ : HMem) : HSpec y_MapSums_overAllMaps b_MapSums_overAllMaps 6 (some .long) 22 h_eJ [.ref 97, .ref a1] μ (f_MapSums_overAllMaps a1 μ) :=
  HSpec.of (by decide +kernel) (v_MapSums_overAllMaps.1 _ (by simp)) (Nat.le_of_ble_eq_true rfl) (fun cx hA hg => t_MapSums_overAllMaps_0 hg hA a1 h_a1 μ)
theorem t_MapSums_sumInjective_J72 {rd : Nat} {cx : HCx} (hg : HGood cx R_MapSums b_MapSums_sumInjective 8 (3 + (rd + 1)) (some .long)) (hA : h_own cx) (fr_ : Int32 → Int32 → HMem → Option (Int64 × HMem)) (ih : ∀ (v1 : Int32) (v2 : Int32) (μ : HMem), HSpec y_MapSums_sumInjective b_MapSums_sumInjective 8 (some .long) (3 + rd) h_eJ [.ref 97, .int v1, .int v2] μ (fr_ v1 v2 μ))  (rec_ : Int32 → Int32 → Int64 → Int32 → HMem → Option (Int64 × HMem)) (hrec_ : p_MapSums_sumInjective_15 cx rec_) (v1 : Int32) (v2 : Int32) (v3 : Int64) (v5 : Int32) (μ : HMem) : HX cx (HQ cx h_eJ) (f_MapSums_sumInjective_J72 fr_  rec_ v1 v2 v3 v5 μ) 0 0 72 [(0, .ref 97), (1, .int v1), (2, .int v2), (3, .long v3), (5, .int v5)] [] μ := by
  unfold f_MapSums_sumInjective_J72
  refine r_letE (fun v5_72 he_72 => ?_)
  refine r_iinc (v := v5_72) (l' := [(5, .int v5_72), (0, .ref 97), (1, .int v1), (2, .int v2), (3, .long v3)]) hg 4 d_MapSums_sumInjective_72 rfl he_72 (Nat.le_of_ble_eq_true rfl) rfl ?_
  refine r_goto (tgt := 15) hg d_MapSums_sumInjective_75 (by decide) ?_
  refine r_sub [1, 2, 3, 4, 0] rfl ?_
  exact hrec_ v1 v2 v3 v5_72 μ
theorem t_MapSums_sumInjective_J44 {rd : Nat} {cx : HCx} (hg : HGood cx R_MapSums b_MapSums_sumInjective 8 (3 + (rd + 1)) (some .long)) (hA : h_own cx) (fr_ : Int32 → Int32 → HMem → Option (Int64 × HMem)) (ih : ∀ (v1 : Int32) (v2 : Int32) (μ : HMem), HSpec y_MapSums_sumInjective b_MapSums_sumInjective 8 (some .long) (3 + rd) h_eJ [.ref 97, .int v1, .int v2] μ (fr_ v1 v2 μ))  (rec_ : Int32 → Int32 → Int64 → Int32 → HMem → Option (Int64 × HMem)) (hrec_ : p_MapSums_sumInjective_15 cx rec_) (v1 : Int32) (v2 : Int32) (v3 : Int64) (v5 : Int32) (s0 : Int64) (μ : HMem) : HX cx (HQ cx h_eJ) (f_MapSums_sumInjective_J44 fr_  rec_ v1 v2 v3 v5 s0 μ) 0 0 44 [(0, .ref 97), (1, .int v1), (2, .int v2), (3, .long v3), (5, .int v5)] [.long s0] μ := by
  unfold f_MapSums_sumInjective_J44
  refine r_lstore (l' := [(6, .long s0), (0, .ref 97), (1, .int v1), (2, .int v2), (3, .long v3), (5, .int v5)]) hg d_MapSums_sumInjective_44 (Nat.le_of_ble_eq_true rfl) rfl ?_
  refine r_lload hg 0 d_MapSums_sumInjective_46 rfl ?_
  refine r_lconst (v := 0) hg d_MapSums_sumInjective_48 (by decide) ?_
  refine r_lcmp hg d_MapSums_sumInjective_49 ?_
  refine r_if_eq (tgt := 72) hg d_MapSums_sumInjective_50 (by decide) ?_ ?_
  · refine r_sub [1, 2, 3, 4, 5] rfl ?_
    exact t_MapSums_sumInjective_J72 hg hA fr_ ih rec_ hrec_ v1 v2 v3 v5 μ
  · refine r_lload_n hg 4 d_MapSums_sumInjective_53 rfl rfl ?_
    refine r_lload hg 0 d_MapSums_sumInjective_54 rfl ?_
    refine r_aload_n hg 1 d_MapSums_sumInjective_56 rfl rfl ?_
    refine r_iload_n hg 2 d_MapSums_sumInjective_57 rfl rfl ?_
    refine r_iconst (v := 1) hg d_MapSums_sumInjective_58 (by decide) ?_
    refine r_iadd hg d_MapSums_sumInjective_59 ?_
    refine r_iload_n hg 3 d_MapSums_sumInjective_60 rfl rfl ?_
    refine r_iconst (v := 1) hg d_MapSums_sumInjective_61 (by decide) ?_
    refine r_iload hg 5 d_MapSums_sumInjective_62 rfl ?_
    refine r_ishl hg d_MapSums_sumInjective_64 ?_
    refine r_ior hg d_MapSums_sumInjective_65 ?_
    refine r_callS (As := [.ref 97, .int (v1 + 1), .int (v2 ||| (h_ishl 1 v5))]) hg (ih (v1 + 1) (v2 ||| (h_ishl 1 v5)) μ) v_MapSums_sumInjective wm_MapSums_90 d_MapSums_sumInjective_66 rfl ⟨by omega, by decide⟩ (Nat.le_of_ble_eq_true rfl) rfl (fun r66 μ_66 _ => ?_)
    refine r_lmul hg d_MapSums_sumInjective_69 ?_
    refine r_ladd hg d_MapSums_sumInjective_70 ?_
    refine r_letJ (fun v3_71 => ?_)
    refine r_lstore_n (l' := [(3, .long v3_71), (6, .long s0), (0, .ref 97), (1, .int v1), (2, .int v2), (5, .int v5)]) hg d_MapSums_sumInjective_71 rfl (Nat.le_of_ble_eq_true rfl) rfl ?_
    refine r_sub [2, 3, 4, 0, 5] rfl ?_
    exact t_MapSums_sumInjective_J72 hg hA fr_ ih rec_ hrec_ v1 v2 v3_71 v5 μ_66
theorem t_MapSums_sumInjective_L15_b {rd : Nat} {cx : HCx} (hg : HGood cx R_MapSums b_MapSums_sumInjective 8 (3 + (rd + 1)) (some .long)) (hA : h_own cx) (fr_ : Int32 → Int32 → HMem → Option (Int64 × HMem)) (ih : ∀ (v1 : Int32) (v2 : Int32) (μ : HMem), HSpec y_MapSums_sumInjective b_MapSums_sumInjective 8 (some .long) (3 + rd) h_eJ [.ref 97, .int v1, .int v2] μ (fr_ v1 v2 μ))  (rec_ : Int32 → Int32 → Int64 → Int32 → HMem → Option (Int64 × HMem)) (hrec_ : p_MapSums_sumInjective_15 cx rec_) (v1 : Int32) (v2 : Int32) (v3 : Int64) (v5 : Int32) (μ : HMem) : HX cx (HQ cx h_eJ) (f_MapSums_sumInjective_L15_b fr_  rec_ v1 v2 v3 v5 μ) 0 0 15 [(0, .ref 97), (1, .int v1), (2, .int v2), (3, .long v3), (5, .int v5)] [] μ := by
  unfold f_MapSums_sumInjective_L15_b
  refine r_iload hg 4 d_MapSums_sumInjective_15 rfl ?_
  refine r_aload_n hg 0 d_MapSums_sumInjective_17 rfl rfl ?_
  refine r_get (v := .int (μ.1 97 1)) hg c_MapSums (by decide) rfl (Nat.le_of_ble_eq_true rfl) rfl wf_MapSums_36 d_MapSums_sumInjective_18 rfl ?_
  refine r_icmp_ge (tgt := 78) hg d_MapSums_sumInjective_21 (by decide) ?_ ?_
  · refine r_lload_n hg 3 d_MapSums_sumInjective_78 rfl rfl ?_
    exact r_lret hg hA rfl d_MapSums_sumInjective_79 rfl
  · refine r_iload_n hg 2 d_MapSums_sumInjective_24 rfl rfl ?_
    refine r_iload hg 4 d_MapSums_sumInjective_25 rfl ?_
    refine r_callN (As := [.int v2, .int v5]) (host := "HomBench") hg (t_Bench_has v2 v5 μ) v_Bench_has (by decide) d_MapSums_sumInjective_27 rfl ⟨by omega, by decide⟩ (Nat.le_of_ble_eq_true rfl) rfl (fun r27 μ_27 _ => ?_)
    refine r_if_eq (tgt := 37) hg d_MapSums_sumInjective_30 (by decide) ?_ ?_
    · refine r_aload_n hg 0 d_MapSums_sumInjective_37 rfl rfl ?_
      refine r_iload_n hg 1 d_MapSums_sumInjective_38 rfl rfl ?_
      refine r_iload hg 4 d_MapSums_sumInjective_39 rfl ?_
      refine r_callV (As := [.int v1, .int v5]) hg (t_MapSums_factor v1 v5 μ_27) v_MapSums_factor c_MapSums rfl (by decide) rfl wm_MapSums_86 d_MapSums_sumInjective_41 rfl ⟨by omega, by decide⟩ (Nat.le_of_ble_eq_true rfl) rfl (fun r41 μ_41 _ => ?_)
      exact t_MapSums_sumInjective_J44 hg hA fr_ ih rec_ hrec_ v1 v2 v3 v5 r41 μ_41
    · refine r_lconst (v := 0) hg d_MapSums_sumInjective_33 (by decide) ?_
      refine r_goto (tgt := 44) hg d_MapSums_sumInjective_34 (by decide) ?_
      exact t_MapSums_sumInjective_J44 hg hA fr_ ih rec_ hrec_ v1 v2 v3 v5 0 μ_27
theorem t_MapSums_sumInjective_L15 {rd : Nat} {cx : HCx} (hg : HGood cx R_MapSums b_MapSums_sumInjective 8 (3 + (rd + 1)) (some .long)) (hA : h_own cx) (fr_ : Int32 → Int32 → HMem → Option (Int64 × HMem)) (ih : ∀ (v1 : Int32) (v2 : Int32) (μ : HMem), HSpec y_MapSums_sumInjective b_MapSums_sumInjective 8 (some .long) (3 + rd) h_eJ [.ref 97, .int v1, .int v2] μ (fr_ v1 v2 μ))  : ∀ (fuel : Nat) (v1 : Int32) (v2 : Int32) (v3 : Int64) (v5 : Int32) (μ : HMem), HX cx (HQ cx h_eJ) (f_MapSums_sumInjective_L15 fr_  fuel v1 v2 v3 v5 μ) 0 0 15 [(0, .ref 97), (1, .int v1), (2, .int v2), (3, .long v3), (5, .int v5)] [] μ
  | 0, _, _, _, _, _ => by unfold f_MapSums_sumInjective_L15; exact HX.none
  | fuel + 1, v1, v2, v3, v5, μ => by
    rw [f_MapSums_sumInjective_L15]
    exact t_MapSums_sumInjective_L15_b hg hA fr_ ih   (f_MapSums_sumInjective_L15 fr_  fuel) (t_MapSums_sumInjective_L15 hg hA fr_ ih   fuel) v1 v2 v3 v5 μ
theorem t_MapSums_sumInjective_0 {rd : Nat} {cx : HCx} (hg : HGood cx R_MapSums b_MapSums_sumInjective 8 (3 + (rd + 1)) (some .long)) (hA : h_own cx) (fr_ : Int32 → Int32 → HMem → Option (Int64 × HMem)) (ih : ∀ (v1 : Int32) (v2 : Int32) (μ : HMem), HSpec y_MapSums_sumInjective b_MapSums_sumInjective 8 (some .long) (3 + rd) h_eJ [.ref 97, .int v1, .int v2] μ (fr_ v1 v2 μ)) (v1 : Int32) (v2 : Int32) (μ : HMem) : HX cx (HQ cx h_eJ) (f_MapSums_sumInjective_0 fr_ v1 v2 μ) 0 0 0 [(0, .ref 97), (1, .int v1), (2, .int v2)] [] μ := by
  unfold f_MapSums_sumInjective_0
  refine r_iload_n hg 1 d_MapSums_sumInjective_0 rfl rfl ?_
  refine r_aload_n hg 0 d_MapSums_sumInjective_1 rfl rfl ?_
  refine r_get (v := .int (μ.1 97 0)) hg c_MapSums (by decide) rfl (Nat.le_of_ble_eq_true rfl) rfl wf_MapSums_33 d_MapSums_sumInjective_2 rfl ?_
  refine r_icmp_lt (tgt := 10) hg d_MapSums_sumInjective_5 (by decide) ?_ ?_
  · refine r_lconst (v := 0) hg d_MapSums_sumInjective_10 (by decide) ?_
    refine r_lstore_n (l' := [(3, .long 0), (0, .ref 97), (1, .int v1), (2, .int v2)]) hg d_MapSums_sumInjective_11 rfl (Nat.le_of_ble_eq_true rfl) rfl ?_
    refine r_iconst (v := 0) hg d_MapSums_sumInjective_12 (by decide) ?_
    refine r_istore (l' := [(5, .int 0), (3, .long 0), (0, .ref 97), (1, .int v1), (2, .int v2)]) hg d_MapSums_sumInjective_13 (Nat.le_of_ble_eq_true rfl) rfl ?_
    refine r_sub [2, 3, 4, 1, 0] rfl ?_
    exact t_MapSums_sumInjective_L15 hg hA fr_ ih h_fuel v1 v2 0 0 μ
  · refine r_lconst (v := 1) hg d_MapSums_sumInjective_8 (by decide) ?_
    exact r_lret hg hA rfl d_MapSums_sumInjective_9 rfl
theorem t_MapSums_sumInjective : ∀ (rd : Nat) (v1 : Int32) (v2 : Int32) (μ : HMem), HSpec y_MapSums_sumInjective b_MapSums_sumInjective 8 (some .long) (3 + rd) h_eJ [.ref 97, .int v1, .int v2] μ (f_MapSums_sumInjective rd v1 v2 μ)
  | 0, _, _, _ => fun r μ' h => by rw [f_MapSums_sumInjective] at h; cases h
  | rd + 1, v1, v2, μ => by
    rw [f_MapSums_sumInjective]
    exact HSpec.of (by decide +kernel) (v_MapSums_sumInjective.1 _ (by simp)) (Nat.le_of_ble_eq_true rfl) (fun cx hA hg => t_MapSums_sumInjective_0 hg hA (f_MapSums_sumInjective rd) (t_MapSums_sumInjective rd) v1 v2 μ)
theorem t_MapSums_overInjectiveMaps_0 {cx : HCx} (hg : HGood cx R_MapSums b_MapSums_overInjectiveMaps 1 20 (some .long)) (hA : h_own cx)  (μ : HMem) : HX cx (HQ cx h_eJ) (f_MapSums_overInjectiveMaps μ) 0 0 0 [(0, .ref 97)] [] μ := by
  unfold f_MapSums_overInjectiveMaps
  refine r_aload_n hg 0 d_MapSums_overInjectiveMaps_0 rfl rfl ?_
  refine r_iconst (v := 0) hg d_MapSums_overInjectiveMaps_1 (by decide) ?_
  refine r_iconst (v := 0) hg d_MapSums_overInjectiveMaps_2 (by decide) ?_
  refine r_callS (As := [.ref 97, .int 0, .int 0]) hg (t_MapSums_sumInjective h_deep 0 0 μ) v_MapSums_sumInjective wm_MapSums_90 d_MapSums_overInjectiveMaps_3 rfl ⟨by decide, by decide⟩ (Nat.le_of_ble_eq_true rfl) rfl (fun r3 μ_3 _ => ?_)
  exact r_lret hg hA rfl d_MapSums_overInjectiveMaps_6 rfl
theorem t_MapSums_overInjectiveMaps  (μ : HMem) : HSpec y_MapSums_overInjectiveMaps b_MapSums_overInjectiveMaps 1 (some .long) 20 h_eJ [.ref 97] μ (f_MapSums_overInjectiveMaps μ) :=
  HSpec.of (by decide +kernel) (v_MapSums_overInjectiveMaps.1 _ (by simp)) (Nat.le_of_ble_eq_true rfl) (fun cx hA hg => t_MapSums_overInjectiveMaps_0 hg hA  μ)
theorem t_MapSums_sumOnto_J79 {rd : Nat} {cx : HCx} (hg : HGood cx R_MapSums b_MapSums_sumOnto 8 (3 + (rd + 1)) (some .long)) (hA : h_own cx) (fr_ : Int32 → Int32 → HMem → Option (Int64 × HMem)) (ih : ∀ (v1 : Int32) (v2 : Int32) (μ : HMem), HSpec y_MapSums_sumOnto b_MapSums_sumOnto 8 (some .long) (3 + rd) h_eJ [.ref 97, .int v1, .int v2] μ (fr_ v1 v2 μ))  (rec_ : Int32 → Int32 → Int64 → Int32 → HMem → Option (Int64 × HMem)) (hrec_ : p_MapSums_sumOnto_35 cx rec_) (v1 : Int32) (v2 : Int32) (v3 : Int64) (v5 : Int32) (μ : HMem) : HX cx (HQ cx h_eJ) (f_MapSums_sumOnto_J79 fr_  rec_ v1 v2 v3 v5 μ) 0 0 79 [(0, .ref 97), (1, .int v1), (2, .int v2), (3, .long v3), (5, .int v5)] [] μ := by
  unfold f_MapSums_sumOnto_J79
  refine r_letE (fun v5_79 he_79 => ?_)
  refine r_iinc (v := v5_79) (l' := [(5, .int v5_79), (0, .ref 97), (1, .int v1), (2, .int v2), (3, .long v3)]) hg 4 d_MapSums_sumOnto_79 rfl he_79 (Nat.le_of_ble_eq_true rfl) rfl ?_
  refine r_goto (tgt := 35) hg d_MapSums_sumOnto_82 (by decide) ?_
  refine r_sub [1, 2, 3, 4, 0] rfl ?_
  exact hrec_ v1 v2 v3 v5_79 μ
theorem t_MapSums_sumOnto_L35_b {rd : Nat} {cx : HCx} (hg : HGood cx R_MapSums b_MapSums_sumOnto 8 (3 + (rd + 1)) (some .long)) (hA : h_own cx) (fr_ : Int32 → Int32 → HMem → Option (Int64 × HMem)) (ih : ∀ (v1 : Int32) (v2 : Int32) (μ : HMem), HSpec y_MapSums_sumOnto b_MapSums_sumOnto 8 (some .long) (3 + rd) h_eJ [.ref 97, .int v1, .int v2] μ (fr_ v1 v2 μ))  (rec_ : Int32 → Int32 → Int64 → Int32 → HMem → Option (Int64 × HMem)) (hrec_ : p_MapSums_sumOnto_35 cx rec_) (v1 : Int32) (v2 : Int32) (v3 : Int64) (v5 : Int32) (μ : HMem) : HX cx (HQ cx h_eJ) (f_MapSums_sumOnto_L35_b fr_  rec_ v1 v2 v3 v5 μ) 0 0 35 [(0, .ref 97), (1, .int v1), (2, .int v2), (3, .long v3), (5, .int v5)] [] μ := by
  unfold f_MapSums_sumOnto_L35_b
  refine r_iload hg 4 d_MapSums_sumOnto_35 rfl ?_
  refine r_aload_n hg 0 d_MapSums_sumOnto_37 rfl rfl ?_
  refine r_get (v := .int (μ.1 97 1)) hg c_MapSums (by decide) rfl (Nat.le_of_ble_eq_true rfl) rfl wf_MapSums_36 d_MapSums_sumOnto_38 rfl ?_
  refine r_icmp_ge (tgt := 85) hg d_MapSums_sumOnto_41 (by decide) ?_ ?_
  · refine r_lload_n hg 3 d_MapSums_sumOnto_85 rfl rfl ?_
    exact r_lret hg hA rfl d_MapSums_sumOnto_86 rfl
  · refine r_aload_n hg 0 d_MapSums_sumOnto_44 rfl rfl ?_
    refine r_iload_n hg 1 d_MapSums_sumOnto_45 rfl rfl ?_
    refine r_iload hg 4 d_MapSums_sumOnto_46 rfl ?_
    refine r_callV (As := [.int v1, .int v5]) hg (t_MapSums_factor v1 v5 μ) v_MapSums_factor c_MapSums rfl (by decide) rfl wm_MapSums_86 d_MapSums_sumOnto_48 rfl ⟨by omega, by decide⟩ (Nat.le_of_ble_eq_true rfl) rfl (fun r48 μ_48 _ => ?_)
    refine r_lstore (l' := [(6, .long r48), (0, .ref 97), (1, .int v1), (2, .int v2), (3, .long v3), (5, .int v5)]) hg d_MapSums_sumOnto_51 (Nat.le_of_ble_eq_true rfl) rfl ?_
    refine r_lload hg 0 d_MapSums_sumOnto_53 rfl ?_
    refine r_lconst (v := 0) hg d_MapSums_sumOnto_55 (by decide) ?_
    refine r_lcmp hg d_MapSums_sumOnto_56 ?_
    refine r_if_eq (tgt := 79) hg d_MapSums_sumOnto_57 (by decide) ?_ ?_
    · refine r_sub [1, 2, 3, 4, 5] rfl ?_
      exact t_MapSums_sumOnto_J79 hg hA fr_ ih rec_ hrec_ v1 v2 v3 v5 μ_48
    · refine r_lload_n hg 4 d_MapSums_sumOnto_60 rfl rfl ?_
      refine r_lload hg 0 d_MapSums_sumOnto_61 rfl ?_
      refine r_aload_n hg 1 d_MapSums_sumOnto_63 rfl rfl ?_
      refine r_iload_n hg 2 d_MapSums_sumOnto_64 rfl rfl ?_
      refine r_iconst (v := 1) hg d_MapSums_sumOnto_65 (by decide) ?_
      refine r_iadd hg d_MapSums_sumOnto_66 ?_
      refine r_iload_n hg 3 d_MapSums_sumOnto_67 rfl rfl ?_
      refine r_iconst (v := 1) hg d_MapSums_sumOnto_68 (by decide) ?_
      refine r_iload hg 5 d_MapSums_sumOnto_69 rfl ?_
      refine r_ishl hg d_MapSums_sumOnto_71 ?_
      refine r_ior hg d_MapSums_sumOnto_72 ?_
      refine r_callS (As := [.ref 97, .int (v1 + 1), .int (v2 ||| (h_ishl 1 v5))]) hg (ih (v1 + 1) (v2 ||| (h_ishl 1 v5)) μ_48) v_MapSums_sumOnto wm_MapSums_93 d_MapSums_sumOnto_73 rfl ⟨by omega, by decide⟩ (Nat.le_of_ble_eq_true rfl) rfl (fun r73 μ_73 _ => ?_)
      refine r_lmul hg d_MapSums_sumOnto_76 ?_
      refine r_ladd hg d_MapSums_sumOnto_77 ?_
      refine r_letJ (fun v3_78 => ?_)
      refine r_lstore_n (l' := [(3, .long v3_78), (6, .long r48), (0, .ref 97), (1, .int v1), (2, .int v2), (5, .int v5)]) hg d_MapSums_sumOnto_78 rfl (Nat.le_of_ble_eq_true rfl) rfl ?_
      refine r_sub [2, 3, 4, 0, 5] rfl ?_
      exact t_MapSums_sumOnto_J79 hg hA fr_ ih rec_ hrec_ v1 v2 v3_78 v5 μ_73
theorem t_MapSums_sumOnto_L35 {rd : Nat} {cx : HCx} (hg : HGood cx R_MapSums b_MapSums_sumOnto 8 (3 + (rd + 1)) (some .long)) (hA : h_own cx) (fr_ : Int32 → Int32 → HMem → Option (Int64 × HMem)) (ih : ∀ (v1 : Int32) (v2 : Int32) (μ : HMem), HSpec y_MapSums_sumOnto b_MapSums_sumOnto 8 (some .long) (3 + rd) h_eJ [.ref 97, .int v1, .int v2] μ (fr_ v1 v2 μ))  : ∀ (fuel : Nat) (v1 : Int32) (v2 : Int32) (v3 : Int64) (v5 : Int32) (μ : HMem), HX cx (HQ cx h_eJ) (f_MapSums_sumOnto_L35 fr_  fuel v1 v2 v3 v5 μ) 0 0 35 [(0, .ref 97), (1, .int v1), (2, .int v2), (3, .long v3), (5, .int v5)] [] μ
  | 0, _, _, _, _, _ => by unfold f_MapSums_sumOnto_L35; exact HX.none
  | fuel + 1, v1, v2, v3, v5, μ => by
    rw [f_MapSums_sumOnto_L35]
    exact t_MapSums_sumOnto_L35_b hg hA fr_ ih   (f_MapSums_sumOnto_L35 fr_  fuel) (t_MapSums_sumOnto_L35 hg hA fr_ ih   fuel) v1 v2 v3 v5 μ
theorem t_MapSums_sumOnto_0 {rd : Nat} {cx : HCx} (hg : HGood cx R_MapSums b_MapSums_sumOnto 8 (3 + (rd + 1)) (some .long)) (hA : h_own cx) (fr_ : Int32 → Int32 → HMem → Option (Int64 × HMem)) (ih : ∀ (v1 : Int32) (v2 : Int32) (μ : HMem), HSpec y_MapSums_sumOnto b_MapSums_sumOnto 8 (some .long) (3 + rd) h_eJ [.ref 97, .int v1, .int v2] μ (fr_ v1 v2 μ)) (v1 : Int32) (v2 : Int32) (μ : HMem) : HX cx (HQ cx h_eJ) (f_MapSums_sumOnto_0 fr_ v1 v2 μ) 0 0 0 [(0, .ref 97), (1, .int v1), (2, .int v2)] [] μ := by
  unfold f_MapSums_sumOnto_0
  refine r_aload_n hg 0 d_MapSums_sumOnto_0 rfl rfl ?_
  refine r_get (v := .int (μ.1 97 1)) hg c_MapSums (by decide) rfl (Nat.le_of_ble_eq_true rfl) rfl wf_MapSums_36 d_MapSums_sumOnto_1 rfl ?_
  refine r_iload_n hg 2 d_MapSums_sumOnto_4 rfl rfl ?_
  refine r_callS (As := [.int v2]) hg (t_Integer_bitCount v2 μ) v_Integer_bitCount wm_MapSums_75 d_MapSums_sumOnto_5 rfl ⟨by omega, by decide⟩ (Nat.le_of_ble_eq_true rfl) rfl (fun r5 μ_5 _ => ?_)
  refine r_isub hg d_MapSums_sumOnto_8 ?_
  refine r_aload_n hg 0 d_MapSums_sumOnto_9 rfl rfl ?_
  refine r_get (v := .int (μ_5.1 97 0)) hg c_MapSums (by decide) rfl (Nat.le_of_ble_eq_true rfl) rfl wf_MapSums_33 d_MapSums_sumOnto_10 rfl ?_
  refine r_iload_n hg 1 d_MapSums_sumOnto_13 rfl rfl ?_
  refine r_isub hg d_MapSums_sumOnto_14 ?_
  refine r_icmp_le (tgt := 20) hg d_MapSums_sumOnto_15 (by decide) ?_ ?_
  · refine r_iload_n hg 1 d_MapSums_sumOnto_20 rfl rfl ?_
    refine r_aload_n hg 0 d_MapSums_sumOnto_21 rfl rfl ?_
    refine r_get (v := .int (μ_5.1 97 0)) hg c_MapSums (by decide) rfl (Nat.le_of_ble_eq_true rfl) rfl wf_MapSums_33 d_MapSums_sumOnto_22 rfl ?_
    refine r_icmp_lt (tgt := 30) hg d_MapSums_sumOnto_25 (by decide) ?_ ?_
    · refine r_lconst (v := 0) hg d_MapSums_sumOnto_30 (by decide) ?_
      refine r_lstore_n (l' := [(3, .long 0), (0, .ref 97), (1, .int v1), (2, .int v2)]) hg d_MapSums_sumOnto_31 rfl (Nat.le_of_ble_eq_true rfl) rfl ?_
      refine r_iconst (v := 0) hg d_MapSums_sumOnto_32 (by decide) ?_
      refine r_istore (l' := [(5, .int 0), (3, .long 0), (0, .ref 97), (1, .int v1), (2, .int v2)]) hg d_MapSums_sumOnto_33 (Nat.le_of_ble_eq_true rfl) rfl ?_
      refine r_sub [2, 3, 4, 1, 0] rfl ?_
      exact t_MapSums_sumOnto_L35 hg hA fr_ ih h_fuel v1 v2 0 0 μ_5
    · refine r_lconst (v := 1) hg d_MapSums_sumOnto_28 (by decide) ?_
      exact r_lret hg hA rfl d_MapSums_sumOnto_29 rfl
  · refine r_lconst (v := 0) hg d_MapSums_sumOnto_18 (by decide) ?_
    exact r_lret hg hA rfl d_MapSums_sumOnto_19 rfl
theorem t_MapSums_sumOnto : ∀ (rd : Nat) (v1 : Int32) (v2 : Int32) (μ : HMem), HSpec y_MapSums_sumOnto b_MapSums_sumOnto 8 (some .long) (3 + rd) h_eJ [.ref 97, .int v1, .int v2] μ (f_MapSums_sumOnto rd v1 v2 μ)
  | 0, _, _, _ => fun r μ' h => by rw [f_MapSums_sumOnto] at h; cases h
  | rd + 1, v1, v2, μ => by
    rw [f_MapSums_sumOnto]
    exact HSpec.of (by decide +kernel) (v_MapSums_sumOnto.1 _ (by simp)) (Nat.le_of_ble_eq_true rfl) (fun cx hA hg => t_MapSums_sumOnto_0 hg hA (f_MapSums_sumOnto rd) (t_MapSums_sumOnto rd) v1 v2 μ)
theorem t_MapSums_overOntoMaps_0 {cx : HCx} (hg : HGood cx R_MapSums b_MapSums_overOntoMaps 1 20 (some .long)) (hA : h_own cx)  (μ : HMem) : HX cx (HQ cx h_eJ) (f_MapSums_overOntoMaps μ) 0 0 0 [(0, .ref 97)] [] μ := by
  unfold f_MapSums_overOntoMaps
  refine r_aload_n hg 0 d_MapSums_overOntoMaps_0 rfl rfl ?_
  refine r_iconst (v := 0) hg d_MapSums_overOntoMaps_1 (by decide) ?_
  refine r_iconst (v := 0) hg d_MapSums_overOntoMaps_2 (by decide) ?_
  refine r_callS (As := [.ref 97, .int 0, .int 0]) hg (t_MapSums_sumOnto h_deep 0 0 μ) v_MapSums_sumOnto wm_MapSums_93 d_MapSums_overOntoMaps_3 rfl ⟨by decide, by decide⟩ (Nat.le_of_ble_eq_true rfl) rfl (fun r3 μ_3 _ => ?_)
  exact r_lret hg hA rfl d_MapSums_overOntoMaps_6 rfl
theorem t_MapSums_overOntoMaps  (μ : HMem) : HSpec y_MapSums_overOntoMaps b_MapSums_overOntoMaps 1 (some .long) 20 h_eJ [.ref 97] μ (f_MapSums_overOntoMaps μ) :=
  HSpec.of (by decide +kernel) (v_MapSums_overOntoMaps.1 _ (by simp)) (Nat.le_of_ble_eq_true rfl) (fun cx hA hg => t_MapSums_overOntoMaps_0 hg hA  μ)
theorem t_MapSums_edgeImages_J65 {cx : HCx} (hg : HGood cx R_MapSums b_MapSums_edgeImages 7 2 (some .long)) (hA : h_own cx)  (rec_ : Int32 → Int64 → Int32 → Int32 → HMem → Option (Int64 × HMem)) (hrec_ : p_MapSums_edgeImages_13 cx rec_) (v1 : Int32) (v2 : Int64) (v4 : Int32) (v5 : Int32) (μ : HMem) : HX cx (HQ cx h_eJ) (f_MapSums_edgeImages_J65  rec_ v1 v2 v4 v5 μ) 0 0 65 [(0, .ref 97), (1, .int v1), (2, .long v2), (4, .int v4), (5, .int v5)] [] μ := by
  unfold f_MapSums_edgeImages_J65
  refine r_letE (fun v5_65 he_65 => ?_)
  refine r_iinc (v := v5_65) (l' := [(5, .int v5_65), (0, .ref 97), (1, .int v1), (2, .long v2), (4, .int v4)]) hg 4 d_MapSums_edgeImages_65 rfl he_65 (Nat.le_of_ble_eq_true rfl) rfl ?_
  refine r_goto (tgt := 13) hg d_MapSums_edgeImages_68 (by decide) ?_
  refine r_sub [1, 2, 3, 4, 0] rfl ?_
  exact hrec_ v1 v2 v4 v5_65 μ
theorem t_MapSums_edgeImages_L13_b {cx : HCx} (hg : HGood cx R_MapSums b_MapSums_edgeImages 7 2 (some .long)) (hA : h_own cx)  (rec_ : Int32 → Int64 → Int32 → Int32 → HMem → Option (Int64 × HMem)) (hrec_ : p_MapSums_edgeImages_13 cx rec_) (v1 : Int32) (v2 : Int64) (v4 : Int32) (v5 : Int32) (μ : HMem) : HX cx (HQ cx h_eJ) (f_MapSums_edgeImages_L13_b  rec_ v1 v2 v4 v5 μ) 0 0 13 [(0, .ref 97), (1, .int v1), (2, .long v2), (4, .int v4), (5, .int v5)] [] μ := by
  unfold f_MapSums_edgeImages_L13_b
  refine r_iload hg 4 d_MapSums_edgeImages_13 rfl ?_
  refine r_iload_n hg 1 d_MapSums_edgeImages_15 rfl rfl ?_
  refine r_icmp_ge (tgt := 71) hg d_MapSums_edgeImages_16 (by decide) ?_ ?_
  · refine r_lload_n hg 2 d_MapSums_edgeImages_71 rfl rfl ?_
    exact r_lret hg hA rfl d_MapSums_edgeImages_72 rfl
  · refine r_aload_n hg 0 d_MapSums_edgeImages_19 rfl rfl ?_
    refine r_get (v := .ref 100) hg c_MapSums (by decide) rfl (Nat.le_of_ble_eq_true rfl) rfl wf_MapSums_18 d_MapSums_edgeImages_20 rfl ?_
    refine r_iload_n hg 1 d_MapSums_edgeImages_23 rfl rfl ?_
    refine r_iald hg (by decide) rfl d_MapSums_edgeImages_24 ?_
    refine r_iload hg 4 d_MapSums_edgeImages_25 rfl ?_
    refine r_callN (As := [.int (μ.1 100 (Int32.toNatClampNeg (v1))), .int v5]) (host := "HomBench") hg (t_Bench_has (μ.1 100 (Int32.toNatClampNeg (v1))) v5 μ) v_Bench_has (by decide) d_MapSums_edgeImages_27 rfl ⟨by decide, by decide⟩ (Nat.le_of_ble_eq_true rfl) rfl (fun r27 μ_27 _ => ?_)
    refine r_if_eq (tgt := 65) hg d_MapSums_edgeImages_30 (by decide) ?_ ?_
    · exact t_MapSums_edgeImages_J65 hg hA rec_ hrec_ v1 v2 v4 v5 μ_27
    · refine r_aload_n hg 0 d_MapSums_edgeImages_33 rfl rfl ?_
      refine r_get (v := .ref 102) hg c_MapSums (by decide) rfl (Nat.le_of_ble_eq_true rfl) rfl wf_MapSums_24 d_MapSums_edgeImages_34 rfl ?_
      refine r_iload hg 4 d_MapSums_edgeImages_37 rfl ?_
      refine r_iald hg (by decide) rfl d_MapSums_edgeImages_39 ?_
      refine r_letI (fun v6_40 => ?_)
      refine r_istore (l' := [(6, .int v6_40), (0, .ref 97), (1, .int v1), (2, .long v2), (4, .int v4), (5, .int v5)]) hg d_MapSums_edgeImages_40 (Nat.le_of_ble_eq_true rfl) rfl ?_
      refine r_lload_n hg 3 d_MapSums_edgeImages_42 rfl rfl ?_
      refine r_lconst (v := 1) hg d_MapSums_edgeImages_43 (by decide) ?_
      refine r_bipush (v := 8) hg d_MapSums_edgeImages_44 (by decide) ?_
      refine r_iload hg 4 d_MapSums_edgeImages_46 rfl ?_
      refine r_iload hg 0 d_MapSums_edgeImages_48 rfl ?_
      refine r_mmin hg (h_w4 wm_MapSums_109 ws_Math_min wi_Math wk_Math_min) d_MapSums_edgeImages_50 (Nat.le_of_ble_eq_true rfl) (Nat.le_of_ble_eq_true rfl) ?_
      refine r_imul hg d_MapSums_edgeImages_53 ?_
      refine r_iload hg 4 d_MapSums_edgeImages_54 rfl ?_
      refine r_iload hg 0 d_MapSums_edgeImages_56 rfl ?_
      refine r_mmax hg (h_w4 wm_MapSums_81 ws_Math_max wi_Math wk_Math_max) d_MapSums_edgeImages_58 (Nat.le_of_ble_eq_true rfl) (Nat.le_of_ble_eq_true rfl) ?_
      refine r_iadd hg d_MapSums_edgeImages_61 ?_
      refine r_lshl hg d_MapSums_edgeImages_62 ?_
      refine r_lor hg d_MapSums_edgeImages_63 ?_
      refine r_letJ (fun v2_64 => ?_)
      refine r_lstore_n (l' := [(2, .long v2_64), (6, .int v6_40), (0, .ref 97), (1, .int v1), (4, .int v4), (5, .int v5)]) hg d_MapSums_edgeImages_64 rfl (Nat.le_of_ble_eq_true rfl) rfl ?_
      refine r_sub [2, 3, 0, 4, 5] rfl ?_
      exact t_MapSums_edgeImages_J65 hg hA rec_ hrec_ v1 v2_64 v4 v5 μ_27
theorem t_MapSums_edgeImages_L13 {cx : HCx} (hg : HGood cx R_MapSums b_MapSums_edgeImages 7 2 (some .long)) (hA : h_own cx)  : ∀ (fuel : Nat) (v1 : Int32) (v2 : Int64) (v4 : Int32) (v5 : Int32) (μ : HMem), HX cx (HQ cx h_eJ) (f_MapSums_edgeImages_L13  fuel v1 v2 v4 v5 μ) 0 0 13 [(0, .ref 97), (1, .int v1), (2, .long v2), (4, .int v4), (5, .int v5)] [] μ
  | 0, _, _, _, _, _ => by unfold f_MapSums_edgeImages_L13; exact HX.none
  | fuel + 1, v1, v2, v4, v5, μ => by
    rw [f_MapSums_edgeImages_L13]
    exact t_MapSums_edgeImages_L13_b hg hA   (f_MapSums_edgeImages_L13  fuel) (t_MapSums_edgeImages_L13 hg hA   fuel) v1 v2 v4 v5 μ
theorem t_MapSums_edgeImages_0 {cx : HCx} (hg : HGood cx R_MapSums b_MapSums_edgeImages 7 2 (some .long)) (hA : h_own cx) (v1 : Int32) (μ : HMem) : HX cx (HQ cx h_eJ) (f_MapSums_edgeImages v1 μ) 0 0 0 [(0, .ref 97), (1, .int v1)] [] μ := by
  unfold f_MapSums_edgeImages
  refine r_lconst (v := 0) hg d_MapSums_edgeImages_0 (by decide) ?_
  refine r_lstore_n (l' := [(2, .long 0), (0, .ref 97), (1, .int v1)]) hg d_MapSums_edgeImages_1 rfl (Nat.le_of_ble_eq_true rfl) rfl ?_
  refine r_aload_n hg 1 d_MapSums_edgeImages_2 rfl rfl ?_
  refine r_get (v := .ref 102) hg c_MapSums (by decide) rfl (Nat.le_of_ble_eq_true rfl) rfl wf_MapSums_24 d_MapSums_edgeImages_3 rfl ?_
  refine r_iload_n hg 2 d_MapSums_edgeImages_6 rfl rfl ?_
  refine r_iald hg (by decide) rfl d_MapSums_edgeImages_7 ?_
  refine r_letI (fun v4_8 => ?_)
  refine r_istore (l' := [(4, .int v4_8), (2, .long 0), (0, .ref 97), (1, .int v1)]) hg d_MapSums_edgeImages_8 (Nat.le_of_ble_eq_true rfl) rfl ?_
  refine r_iconst (v := 0) hg d_MapSums_edgeImages_10 (by decide) ?_
  refine r_istore (l' := [(5, .int 0), (4, .int v4_8), (2, .long 0), (0, .ref 97), (1, .int v1)]) hg d_MapSums_edgeImages_11 (Nat.le_of_ble_eq_true rfl) rfl ?_
  refine r_sub [3, 4, 2, 1, 0] rfl ?_
  exact t_MapSums_edgeImages_L13 hg hA h_fuel v1 0 v4_8 0 μ
theorem t_MapSums_edgeImages (v1 : Int32) (μ : HMem) : HSpec y_MapSums_edgeImages b_MapSums_edgeImages 7 (some .long) 2 h_eJ [.ref 97, .int v1] μ (f_MapSums_edgeImages v1 μ) :=
  HSpec.of (by decide +kernel) (v_MapSums_edgeImages.1 _ (by simp)) (Nat.le_of_ble_eq_true rfl) (fun cx hA hg => t_MapSums_edgeImages_0 hg hA v1 μ)
theorem t_MapSums_sumEdgeInjective_J103 {rd : Nat} {cx : HCx} (hg : HGood cx R_MapSums b_MapSums_sumEdgeInjective 12 (3 + (rd + 1)) (some .long)) (hA : h_own cx) (fr_ : Int32 → Int64 → HMem → Option (Int64 × HMem)) (ih : ∀ (v1 : Int32) (v2 : Int64) (μ : HMem), HSpec y_MapSums_sumEdgeInjective b_MapSums_sumEdgeInjective 12 (some .long) (3 + rd) h_eJ [.ref 97, .int v1, .long v2] μ (fr_ v1 v2 μ))  (rec_ : Int32 → Int64 → Int32 → Int64 → Int32 → HMem → Option (Int64 × HMem)) (hrec_ : p_MapSums_sumEdgeInjective_33 cx rec_) (v1 : Int32) (v2 : Int64) (v4 : Int32) (v5 : Int64) (v7 : Int32) (μ : HMem) : HX cx (HQ cx h_eJ) (f_MapSums_sumEdgeInjective_J103 fr_  rec_ v1 v2 v4 v5 v7 μ) 0 0 103 [(0, .ref 97), (1, .int v1), (2, .long v2), (4, .int v4), (5, .long v5), (7, .int v7)] [] μ := by
  unfold f_MapSums_sumEdgeInjective_J103
  refine r_letE (fun v7_103 he_103 => ?_)
  refine r_iinc (v := v7_103) (l' := [(7, .int v7_103), (0, .ref 97), (1, .int v1), (2, .long v2), (4, .int v4), (5, .long v5)]) hg 5 d_MapSums_sumEdgeInjective_103 rfl he_103 (Nat.le_of_ble_eq_true rfl) rfl ?_
  refine r_goto (tgt := 33) hg d_MapSums_sumEdgeInjective_106 (by decide) ?_
  refine r_sub [1, 2, 3, 4, 5, 0] rfl ?_
  exact hrec_ v1 v2 v4 v5 v7_103 μ
theorem t_MapSums_sumEdgeInjective_L33_b {rd : Nat} {cx : HCx} (hg : HGood cx R_MapSums b_MapSums_sumEdgeInjective 12 (3 + (rd + 1)) (some .long)) (hA : h_own cx) (fr_ : Int32 → Int64 → HMem → Option (Int64 × HMem)) (ih : ∀ (v1 : Int32) (v2 : Int64) (μ : HMem), HSpec y_MapSums_sumEdgeInjective b_MapSums_sumEdgeInjective 12 (some .long) (3 + rd) h_eJ [.ref 97, .int v1, .long v2] μ (fr_ v1 v2 μ))  (rec_ : Int32 → Int64 → Int32 → Int64 → Int32 → HMem → Option (Int64 × HMem)) (hrec_ : p_MapSums_sumEdgeInjective_33 cx rec_) (v1 : Int32) (v2 : Int64) (v4 : Int32) (v5 : Int64) (v7 : Int32) (μ : HMem) : HX cx (HQ cx h_eJ) (f_MapSums_sumEdgeInjective_L33_b fr_  rec_ v1 v2 v4 v5 v7 μ) 0 0 33 [(0, .ref 97), (1, .int v1), (2, .long v2), (4, .int v4), (5, .long v5), (7, .int v7)] [] μ := by
  unfold f_MapSums_sumEdgeInjective_L33_b
  refine r_iload hg 5 d_MapSums_sumEdgeInjective_33 rfl ?_
  refine r_aload_n hg 0 d_MapSums_sumEdgeInjective_35 rfl rfl ?_
  refine r_get (v := .int (μ.1 97 1)) hg c_MapSums (by decide) rfl (Nat.le_of_ble_eq_true rfl) rfl wf_MapSums_36 d_MapSums_sumEdgeInjective_36 rfl ?_
  refine r_icmp_ge (tgt := 109) hg d_MapSums_sumEdgeInjective_39 (by decide) ?_ ?_
  · refine r_lload hg 4 d_MapSums_sumEdgeInjective_109 rfl ?_
    exact r_lret hg hA rfl d_MapSums_sumEdgeInjective_111 rfl
  · refine r_aload_n hg 0 d_MapSums_sumEdgeInjective_42 rfl rfl ?_
    refine r_iload_n hg 1 d_MapSums_sumEdgeInjective_43 rfl rfl ?_
    refine r_iload hg 5 d_MapSums_sumEdgeInjective_44 rfl ?_
    refine r_callV (As := [.int v1, .int v7]) hg (t_MapSums_factor v1 v7 μ) v_MapSums_factor c_MapSums rfl (by decide) rfl wm_MapSums_86 d_MapSums_sumEdgeInjective_46 rfl ⟨by omega, by decide⟩ (Nat.le_of_ble_eq_true rfl) rfl (fun r46 μ_46 _ => ?_)
    refine r_lstore (l' := [(8, .long r46), (0, .ref 97), (1, .int v1), (2, .long v2), (4, .int v4), (5, .long v5), (7, .int v7)]) hg d_MapSums_sumEdgeInjective_49 (Nat.le_of_ble_eq_true rfl) rfl ?_
    refine r_aload_n hg 1 d_MapSums_sumEdgeInjective_51 rfl rfl ?_
    refine r_iload_n hg 2 d_MapSums_sumEdgeInjective_52 rfl rfl ?_
    refine r_callV (As := [.int v1]) hg (t_MapSums_edgeImages v1 μ_46) v_MapSums_edgeImages c_MapSums rfl (by decide) rfl wm_MapSums_100 d_MapSums_sumEdgeInjective_53 rfl ⟨by omega, by decide⟩ (Nat.le_of_ble_eq_true rfl) rfl (fun r53 μ_53 _ => ?_)
    refine r_lstore (l' := [(10, .long r53), (8, .long r46), (0, .ref 97), (1, .int v1), (2, .long v2), (4, .int v4), (5, .long v5), (7, .int v7)]) hg d_MapSums_sumEdgeInjective_56 (Nat.le_of_ble_eq_true rfl) rfl ?_
    refine r_lload hg 1 d_MapSums_sumEdgeInjective_58 rfl ?_
    refine r_lconst (v := 0) hg d_MapSums_sumEdgeInjective_60 (by decide) ?_
    refine r_lcmp hg d_MapSums_sumEdgeInjective_61 ?_
    refine r_if_eq (tgt := 103) hg d_MapSums_sumEdgeInjective_62 (by decide) ?_ ?_
    · refine r_sub [2, 3, 4, 5, 6, 7] rfl ?_
      exact t_MapSums_sumEdgeInjective_J103 hg hA fr_ ih rec_ hrec_ v1 v2 v4 v5 v7 μ_53
    · refine r_lload hg 0 d_MapSums_sumEdgeInjective_65 rfl ?_
      refine r_lload_n hg 4 d_MapSums_sumEdgeInjective_67 rfl rfl ?_
      refine r_land hg d_MapSums_sumEdgeInjective_68 ?_
      refine r_lconst (v := 0) hg d_MapSums_sumEdgeInjective_69 (by decide) ?_
      refine r_lcmp hg d_MapSums_sumEdgeInjective_70 ?_
      refine r_if_ne (tgt := 103) hg d_MapSums_sumEdgeInjective_71 (by decide) ?_ ?_
      · refine r_sub [2, 3, 4, 5, 6, 7] rfl ?_
        exact t_MapSums_sumEdgeInjective_J103 hg hA fr_ ih rec_ hrec_ v1 v2 v4 v5 v7 μ_53
      · refine r_lload hg 0 d_MapSums_sumEdgeInjective_74 rfl ?_
        refine r_callS (As := [.long r53]) hg (t_Long_bitCount r53 μ_53) v_Long_bitCount wm_MapSums_104 d_MapSums_sumEdgeInjective_76 rfl ⟨by omega, by decide⟩ (Nat.le_of_ble_eq_true rfl) rfl (fun r76 μ_76 _ => ?_)
        refine r_iload hg 5 d_MapSums_sumEdgeInjective_79 rfl ?_
        refine r_icmp_ne (tgt := 103) hg d_MapSums_sumEdgeInjective_81 (by decide) ?_ ?_
        · refine r_sub [2, 3, 4, 5, 6, 7] rfl ?_
          exact t_MapSums_sumEdgeInjective_J103 hg hA fr_ ih rec_ hrec_ v1 v2 v4 v5 v7 μ_76
        · refine r_lload hg 6 d_MapSums_sumEdgeInjective_84 rfl ?_
          refine r_lload hg 1 d_MapSums_sumEdgeInjective_86 rfl ?_
          refine r_aload_n hg 2 d_MapSums_sumEdgeInjective_88 rfl rfl ?_
          refine r_iload_n hg 3 d_MapSums_sumEdgeInjective_89 rfl rfl ?_
          refine r_iconst (v := 1) hg d_MapSums_sumEdgeInjective_90 (by decide) ?_
          refine r_iadd hg d_MapSums_sumEdgeInjective_91 ?_
          refine r_lload_n hg 4 d_MapSums_sumEdgeInjective_92 rfl rfl ?_
          refine r_lload hg 0 d_MapSums_sumEdgeInjective_93 rfl ?_
          refine r_lor hg d_MapSums_sumEdgeInjective_95 ?_
          refine r_callS (As := [.ref 97, .int (v1 + 1), .long (v2 ||| r53)]) hg (ih (v1 + 1) (v2 ||| r53) μ_76) v_MapSums_sumEdgeInjective wm_MapSums_96 d_MapSums_sumEdgeInjective_96 rfl ⟨by omega, by decide⟩ (Nat.le_of_ble_eq_true rfl) rfl (fun r96 μ_96 _ => ?_)
          refine r_lmul hg d_MapSums_sumEdgeInjective_99 ?_
          refine r_ladd hg d_MapSums_sumEdgeInjective_100 ?_
          refine r_letJ (fun v5_101 => ?_)
          refine r_lstore (l' := [(5, .long v5_101), (10, .long r53), (8, .long r46), (0, .ref 97), (1, .int v1), (2, .long v2), (4, .int v4), (7, .int v7)]) hg d_MapSums_sumEdgeInjective_101 (Nat.le_of_ble_eq_true rfl) rfl ?_
          refine r_sub [3, 4, 5, 6, 0, 7] rfl ?_
          exact t_MapSums_sumEdgeInjective_J103 hg hA fr_ ih rec_ hrec_ v1 v2 v4 v5_101 v7 μ_96
theorem t_MapSums_sumEdgeInjective_L33 {rd : Nat} {cx : HCx} (hg : HGood cx R_MapSums b_MapSums_sumEdgeInjective 12 (3 + (rd + 1)) (some .long)) (hA : h_own cx) (fr_ : Int32 → Int64 → HMem → Option (Int64 × HMem)) (ih : ∀ (v1 : Int32) (v2 : Int64) (μ : HMem), HSpec y_MapSums_sumEdgeInjective b_MapSums_sumEdgeInjective 12 (some .long) (3 + rd) h_eJ [.ref 97, .int v1, .long v2] μ (fr_ v1 v2 μ))  : ∀ (fuel : Nat) (v1 : Int32) (v2 : Int64) (v4 : Int32) (v5 : Int64) (v7 : Int32) (μ : HMem), HX cx (HQ cx h_eJ) (f_MapSums_sumEdgeInjective_L33 fr_  fuel v1 v2 v4 v5 v7 μ) 0 0 33 [(0, .ref 97), (1, .int v1), (2, .long v2), (4, .int v4), (5, .long v5), (7, .int v7)] [] μ
  | 0, _, _, _, _, _, _ => by unfold f_MapSums_sumEdgeInjective_L33; exact HX.none
  | fuel + 1, v1, v2, v4, v5, v7, μ => by
    rw [f_MapSums_sumEdgeInjective_L33]
    exact t_MapSums_sumEdgeInjective_L33_b hg hA fr_ ih   (f_MapSums_sumEdgeInjective_L33 fr_  fuel) (t_MapSums_sumEdgeInjective_L33 hg hA fr_ ih   fuel) v1 v2 v4 v5 v7 μ
theorem t_MapSums_sumEdgeInjective_0 {rd : Nat} {cx : HCx} (hg : HGood cx R_MapSums b_MapSums_sumEdgeInjective 12 (3 + (rd + 1)) (some .long)) (hA : h_own cx) (fr_ : Int32 → Int64 → HMem → Option (Int64 × HMem)) (ih : ∀ (v1 : Int32) (v2 : Int64) (μ : HMem), HSpec y_MapSums_sumEdgeInjective b_MapSums_sumEdgeInjective 12 (some .long) (3 + rd) h_eJ [.ref 97, .int v1, .long v2] μ (fr_ v1 v2 μ)) (v1 : Int32) (v2 : Int64) (μ : HMem) : HX cx (HQ cx h_eJ) (f_MapSums_sumEdgeInjective_0 fr_ v1 v2 μ) 0 0 0 [(0, .ref 97), (1, .int v1), (2, .long v2)] [] μ := by
  unfold f_MapSums_sumEdgeInjective_0
  refine r_iload_n hg 1 d_MapSums_sumEdgeInjective_0 rfl rfl ?_
  refine r_aload_n hg 0 d_MapSums_sumEdgeInjective_1 rfl rfl ?_
  refine r_get (v := .int (μ.1 97 0)) hg c_MapSums (by decide) rfl (Nat.le_of_ble_eq_true rfl) rfl wf_MapSums_33 d_MapSums_sumEdgeInjective_2 rfl ?_
  refine r_icmp_lt (tgt := 10) hg d_MapSums_sumEdgeInjective_5 (by decide) ?_ ?_
  · refine r_aload_n hg 0 d_MapSums_sumEdgeInjective_10 rfl rfl ?_
    refine r_get (v := .ref 100) hg c_MapSums (by decide) rfl (Nat.le_of_ble_eq_true rfl) rfl wf_MapSums_18 d_MapSums_sumEdgeInjective_11 rfl ?_
    refine r_iload_n hg 1 d_MapSums_sumEdgeInjective_14 rfl rfl ?_
    refine r_iald hg (by decide) rfl d_MapSums_sumEdgeInjective_15 ?_
    refine r_iconst (v := 1) hg d_MapSums_sumEdgeInjective_16 (by decide) ?_
    refine r_iload_n hg 1 d_MapSums_sumEdgeInjective_17 rfl rfl ?_
    refine r_ishl hg d_MapSums_sumEdgeInjective_18 ?_
    refine r_iconst (v := -1) hg d_MapSums_sumEdgeInjective_19 (by decide) ?_
    refine r_ixor hg d_MapSums_sumEdgeInjective_20 ?_
    refine r_iand hg d_MapSums_sumEdgeInjective_21 ?_
    refine r_callS (As := [.int ((μ.1 100 (Int32.toNatClampNeg (v1))) &&& ((h_ishl 1 v1) ^^^ (-1)))]) hg (t_Integer_bitCount ((μ.1 100 (Int32.toNatClampNeg (v1))) &&& ((h_ishl 1 v1) ^^^ (-1))) μ) v_Integer_bitCount wm_MapSums_75 d_MapSums_sumEdgeInjective_22 rfl ⟨by omega, by decide⟩ (Nat.le_of_ble_eq_true rfl) rfl (fun r22 μ_22 _ => ?_)
    refine r_istore (l' := [(4, .int r22), (0, .ref 97), (1, .int v1), (2, .long v2)]) hg d_MapSums_sumEdgeInjective_25 (Nat.le_of_ble_eq_true rfl) rfl ?_
    refine r_lconst (v := 0) hg d_MapSums_sumEdgeInjective_27 (by decide) ?_
    refine r_lstore (l' := [(5, .long 0), (4, .int r22), (0, .ref 97), (1, .int v1), (2, .long v2)]) hg d_MapSums_sumEdgeInjective_28 (Nat.le_of_ble_eq_true rfl) rfl ?_
    refine r_iconst (v := 0) hg d_MapSums_sumEdgeInjective_30 (by decide) ?_
    refine r_istore (l' := [(7, .int 0), (5, .long 0), (4, .int r22), (0, .ref 97), (1, .int v1), (2, .long v2)]) hg d_MapSums_sumEdgeInjective_31 (Nat.le_of_ble_eq_true rfl) rfl ?_
    refine r_sub [3, 4, 5, 2, 1, 0] rfl ?_
    exact t_MapSums_sumEdgeInjective_L33 hg hA fr_ ih h_fuel v1 v2 r22 0 0 μ_22
  · refine r_lconst (v := 1) hg d_MapSums_sumEdgeInjective_8 (by decide) ?_
    exact r_lret hg hA rfl d_MapSums_sumEdgeInjective_9 rfl
theorem t_MapSums_sumEdgeInjective : ∀ (rd : Nat) (v1 : Int32) (v2 : Int64) (μ : HMem), HSpec y_MapSums_sumEdgeInjective b_MapSums_sumEdgeInjective 12 (some .long) (3 + rd) h_eJ [.ref 97, .int v1, .long v2] μ (f_MapSums_sumEdgeInjective rd v1 v2 μ)
  | 0, _, _, _ => fun r μ' h => by rw [f_MapSums_sumEdgeInjective] at h; cases h
  | rd + 1, v1, v2, μ => by
    rw [f_MapSums_sumEdgeInjective]
    exact HSpec.of (by decide +kernel) (v_MapSums_sumEdgeInjective.1 _ (by simp)) (Nat.le_of_ble_eq_true rfl) (fun cx hA hg => t_MapSums_sumEdgeInjective_0 hg hA (f_MapSums_sumEdgeInjective rd) (t_MapSums_sumEdgeInjective rd) v1 v2 μ)
theorem t_MapSums_overEdgeInjectiveMaps_0 {cx : HCx} (hg : HGood cx R_MapSums b_MapSums_overEdgeInjectiveMaps 1 20 (some .long)) (hA : h_own cx)  (μ : HMem) : HX cx (HQ cx h_eJ) (f_MapSums_overEdgeInjectiveMaps μ) 0 0 0 [(0, .ref 97)] [] μ := by
  unfold f_MapSums_overEdgeInjectiveMaps
  refine r_aload_n hg 0 d_MapSums_overEdgeInjectiveMaps_0 rfl rfl ?_
  refine r_iconst (v := 0) hg d_MapSums_overEdgeInjectiveMaps_1 (by decide) ?_
  refine r_lconst (v := 0) hg d_MapSums_overEdgeInjectiveMaps_2 (by decide) ?_
  refine r_callS (As := [.ref 97, .int 0, .long 0]) hg (t_MapSums_sumEdgeInjective h_deep 0 0 μ) v_MapSums_sumEdgeInjective wm_MapSums_96 d_MapSums_overEdgeInjectiveMaps_3 rfl ⟨by decide, by decide⟩ (Nat.le_of_ble_eq_true rfl) rfl (fun r3 μ_3 _ => ?_)
  exact r_lret hg hA rfl d_MapSums_overEdgeInjectiveMaps_6 rfl
theorem t_MapSums_overEdgeInjectiveMaps  (μ : HMem) : HSpec y_MapSums_overEdgeInjectiveMaps b_MapSums_overEdgeInjectiveMaps 1 (some .long) 20 h_eJ [.ref 97] μ (f_MapSums_overEdgeInjectiveMaps μ) :=
  HSpec.of (by decide +kernel) (v_MapSums_overEdgeInjectiveMaps.1 _ (by simp)) (Nat.le_of_ble_eq_true rfl) (fun cx hA hg => t_MapSums_overEdgeInjectiveMaps_0 hg hA  μ)
