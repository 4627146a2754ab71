/-! pure programs and their proofs: elim (written by gen.py) -/
def y_Elimination_laterNeighbors : MethodName := ⟨R_Elimination, "laterNeighbors", "(LHomBench$Graph;II)I"⟩
abbrev b_Elimination_laterNeighbors : ByteArray := prog_3_method_9_code
theorem v_Elimination_laterNeighbors : HStat y_Elimination_laterNeighbors b_Elimination_laterNeighbors 4 (some .int) 3 := ⟨List.forall_mem_cons.mpr ⟨h_inI 393 (by decide +kernel) rfl, List.forall_mem_cons.mpr ⟨h_inI 105 (by decide +kernel) rfl, List.forall_mem_cons.mpr ⟨h_inI 394 (by decide +kernel) rfl, fun _ h => absurd h List.not_mem_nil⟩⟩⟩, by decide, by decide, by decide +kernel⟩
def y_Elimination_smallestWidth : MethodName := ⟨R_Elimination, "smallestWidth", "(LHomBench$Graph;)I"⟩
abbrev b_Elimination_smallestWidth : ByteArray := prog_3_method_8_code
theorem v_Elimination_smallestWidth : HVirt y_Elimination_smallestWidth b_Elimination_smallestWidth 6 (some .int) 1 := ⟨List.forall_mem_cons.mpr ⟨h_inI 385 (by decide +kernel) rfl, List.forall_mem_cons.mpr ⟨h_inI 386 (by decide +kernel) rfl, List.forall_mem_cons.mpr ⟨h_inI 105 (by decide +kernel) rfl, List.forall_mem_cons.mpr ⟨h_inI 387 (by decide +kernel) rfl, fun _ h => absurd h List.not_mem_nil⟩⟩⟩⟩, by decide, by decide, by decide +kernel⟩
def y_Bijections_edgesOfWeight : MethodName := ⟨R_Bijections, "edgesOfWeight", "(LHomBench$Graph;II)I"⟩
abbrev b_Bijections_edgesOfWeight : ByteArray := prog_2_method_8_code
theorem v_Bijections_edgesOfWeight : HStat y_Bijections_edgesOfWeight b_Bijections_edgesOfWeight 5 (some .int) 3 := ⟨List.forall_mem_cons.mpr ⟨h_inI 427 (by decide +kernel) rfl, List.forall_mem_cons.mpr ⟨h_inI 108 (by decide +kernel) rfl, List.forall_mem_cons.mpr ⟨h_inI 428 (by decide +kernel) rfl, fun _ h => absurd h List.not_mem_nil⟩⟩⟩, by decide, by decide, by decide +kernel⟩
def y_Bijections_mark : MethodName := ⟨R_Bijections, "mark", "(LHomBench$Graph;[I)V"⟩
abbrev b_Bijections_mark : ByteArray := prog_2_method_7_code
theorem v_Bijections_mark : HStat y_Bijections_mark b_Bijections_mark 5 none 2 := ⟨List.forall_mem_cons.mpr ⟨h_inI 423 (by decide +kernel) rfl, List.forall_mem_cons.mpr ⟨h_inI 108 (by decide +kernel) rfl, List.forall_mem_cons.mpr ⟨h_inI 424 (by decide +kernel) rfl, fun _ h => absurd h List.not_mem_nil⟩⟩⟩, by decide, by decide, by decide +kernel⟩
def y_Bijections_fits : MethodName := ⟨R_Bijections, "fits", "(LHomBench$Graph;LHomBench$Graph;II)Z"⟩
abbrev b_Bijections_fits : ByteArray := prog_2_method_6_code
theorem v_Bijections_fits : HVirt y_Bijections_fits b_Bijections_fits 6 (some .boolean) 4 := ⟨List.forall_mem_cons.mpr ⟨h_inI 435 (by decide +kernel) rfl, List.forall_mem_cons.mpr ⟨h_inI 1 (by decide +kernel) rfl, List.forall_mem_cons.mpr ⟨h_inI 108 (by decide +kernel) rfl, List.forall_mem_cons.mpr ⟨h_inI 436 (by decide +kernel) rfl, fun _ h => absurd h List.not_mem_nil⟩⟩⟩⟩, by decide, by decide, by decide +kernel⟩
def y_Bijections_extendable : MethodName := ⟨R_Bijections, "extendable", "(LHomBench$Bijections;LHomBench$Graph;LHomBench$Graph;II)Z"⟩
abbrev b_Bijections_extendable : ByteArray := prog_2_method_5_code
theorem v_Bijections_extendable : HStat y_Bijections_extendable b_Bijections_extendable 6 (some .boolean) 5 := ⟨List.forall_mem_cons.mpr ⟨h_inI 438 (by decide +kernel) rfl, List.forall_mem_cons.mpr ⟨h_inI 108 (by decide +kernel) rfl, List.forall_mem_cons.mpr ⟨h_inI 439 (by decide +kernel) rfl, fun _ h => absurd h List.not_mem_nil⟩⟩⟩, by decide, by decide, by decide +kernel⟩
def y_Bijections_imagesWithLowerFixed : MethodName := ⟨R_Bijections, "imagesWithLowerFixed", "(LHomBench$Graph;I)I"⟩
abbrev b_Bijections_imagesWithLowerFixed : ByteArray := prog_2_method_4_code
theorem v_Bijections_imagesWithLowerFixed : HVirt y_Bijections_imagesWithLowerFixed b_Bijections_imagesWithLowerFixed 6 (some .int) 2 := ⟨List.forall_mem_cons.mpr ⟨h_inI 431 (by decide +kernel) rfl, List.forall_mem_cons.mpr ⟨h_inI 0 (by decide +kernel) rfl, List.forall_mem_cons.mpr ⟨h_inI 108 (by decide +kernel) rfl, List.forall_mem_cons.mpr ⟨h_inI 432 (by decide +kernel) rfl, fun _ h => absurd h List.not_mem_nil⟩⟩⟩⟩, by decide, by decide, by decide +kernel⟩
def y_Bijections_countOnto : MethodName := ⟨R_Bijections, "countOnto", "(LHomBench$Graph;)I"⟩
abbrev b_Bijections_countOnto : ByteArray := prog_2_method_3_code
theorem v_Bijections_countOnto : HVirt y_Bijections_countOnto b_Bijections_countOnto 4 (some .int) 1 := ⟨List.forall_mem_cons.mpr ⟨h_inI 419 (by decide +kernel) rfl, List.forall_mem_cons.mpr ⟨h_inI 420 (by decide +kernel) rfl, List.forall_mem_cons.mpr ⟨h_inI 108 (by decide +kernel) rfl, List.forall_mem_cons.mpr ⟨h_inI 421 (by decide +kernel) rfl, fun _ h => absurd h List.not_mem_nil⟩⟩⟩⟩, by decide, by decide, by decide +kernel⟩
def y_Bijections_sameMarks : MethodName := ⟨R_Bijections, "sameMarks", "(I)Z"⟩
abbrev b_Bijections_sameMarks : ByteArray := prog_2_method_9_code
theorem v_Bijections_sameMarks : HVirt y_Bijections_sameMarks b_Bijections_sameMarks 5 (some .boolean) 1 := ⟨List.forall_mem_cons.mpr ⟨h_inI 926 (by decide +kernel) rfl, List.forall_mem_cons.mpr ⟨h_inI 20 (by decide +kernel) rfl, List.forall_mem_cons.mpr ⟨h_inI 108 (by decide +kernel) rfl, List.forall_mem_cons.mpr ⟨h_inI 927 (by decide +kernel) rfl, fun _ h => absurd h List.not_mem_nil⟩⟩⟩⟩, by decide, by decide, by decide +kernel⟩
def y_Bijections_exist : MethodName := ⟨R_Bijections, "exist", "(LHomBench$Graph;LHomBench$Graph;)Z"⟩
abbrev b_Bijections_exist : ByteArray := prog_2_method_2_code
theorem v_Bijections_exist : HVirt y_Bijections_exist b_Bijections_exist 3 (some .boolean) 2 := ⟨List.forall_mem_cons.mpr ⟨h_inI 921 (by decide +kernel) rfl, List.forall_mem_cons.mpr ⟨h_inI 922 (by decide +kernel) rfl, List.forall_mem_cons.mpr ⟨h_inI 108 (by decide +kernel) rfl, List.forall_mem_cons.mpr ⟨h_inI 923 (by decide +kernel) rfl, fun _ h => absurd h List.not_mem_nil⟩⟩⟩⟩, by decide, by decide, by decide +kernel⟩
def y_Elimination_begin : MethodName := ⟨R_Elimination, "begin", "(LHomBench$Graph;)V"⟩
abbrev b_Elimination_begin : ByteArray := prog_3_method_2_code
theorem v_Elimination_begin : HVirt y_Elimination_begin b_Elimination_begin 3 none 1 := ⟨List.forall_mem_cons.mpr ⟨h_inI 781 (by decide +kernel) rfl, List.forall_mem_cons.mpr ⟨h_inI 15 (by decide +kernel) rfl, List.forall_mem_cons.mpr ⟨h_inI 105 (by decide +kernel) rfl, List.forall_mem_cons.mpr ⟨h_inI 782 (by decide +kernel) rfl, fun _ h => absurd h List.not_mem_nil⟩⟩⟩⟩, by decide, by decide, by decide +kernel⟩
def y_Elimination_eliminate : MethodName := ⟨R_Elimination, "eliminate", "(II)V"⟩
abbrev b_Elimination_eliminate : ByteArray := prog_3_method_3_code
theorem v_Elimination_eliminate : HVirt y_Elimination_eliminate b_Elimination_eliminate 7 none 2 := ⟨List.forall_mem_cons.mpr ⟨h_inI 790 (by decide +kernel) rfl, List.forall_mem_cons.mpr ⟨h_inI 17 (by decide +kernel) rfl, List.forall_mem_cons.mpr ⟨h_inI 105 (by decide +kernel) rfl, List.forall_mem_cons.mpr ⟨h_inI 791 (by decide +kernel) rfl, fun _ h => absurd h List.not_mem_nil⟩⟩⟩⟩, by decide, by decide, by decide +kernel⟩
def y_Elimination_fewestNeighbors : MethodName := ⟨R_Elimination, "fewestNeighbors", "(II)I"⟩
abbrev b_Elimination_fewestNeighbors : ByteArray := prog_3_method_5_code
theorem v_Elimination_fewestNeighbors : HVirt y_Elimination_fewestNeighbors b_Elimination_fewestNeighbors 7 (some .int) 2 := ⟨List.forall_mem_cons.mpr ⟨h_inI 785 (by decide +kernel) rfl, List.forall_mem_cons.mpr ⟨h_inI 16 (by decide +kernel) rfl, List.forall_mem_cons.mpr ⟨h_inI 105 (by decide +kernel) rfl, List.forall_mem_cons.mpr ⟨h_inI 786 (by decide +kernel) rfl, fun _ h => absurd h List.not_mem_nil⟩⟩⟩⟩, by decide, by decide, by decide +kernel⟩
def y_Elimination_runGreedily : MethodName := ⟨R_Elimination, "runGreedily", "(LHomBench$Graph;)V"⟩
abbrev b_Elimination_runGreedily : ByteArray := prog_3_method_4_code
theorem v_Elimination_runGreedily : HVirt y_Elimination_runGreedily b_Elimination_runGreedily 5 none 1 := ⟨List.forall_mem_cons.mpr ⟨h_inI 776 (by decide +kernel) rfl, List.forall_mem_cons.mpr ⟨h_inI 777 (by decide +kernel) rfl, List.forall_mem_cons.mpr ⟨h_inI 105 (by decide +kernel) rfl, List.forall_mem_cons.mpr ⟨h_inI 778 (by decide +kernel) rfl, fun _ h => absurd h List.not_mem_nil⟩⟩⟩⟩, by decide, by decide, by decide +kernel⟩
def y_Elimination_runInOrder : MethodName := ⟨R_Elimination, "runInOrder", "(LHomBench$Graph;)V"⟩
abbrev b_Elimination_runInOrder : ByteArray := prog_3_method_6_code
theorem v_Elimination_runInOrder : HVirt y_Elimination_runInOrder b_Elimination_runInOrder 3 none 1 := ⟨List.forall_mem_cons.mpr ⟨h_inI 804 (by decide +kernel) rfl, List.forall_mem_cons.mpr ⟨h_inI 805 (by decide +kernel) rfl, List.forall_mem_cons.mpr ⟨h_inI 105 (by decide +kernel) rfl, List.forall_mem_cons.mpr ⟨h_inI 806 (by decide +kernel) rfl, fun _ h => absurd h List.not_mem_nil⟩⟩⟩⟩, by decide, by decide, by decide +kernel⟩
def y_Elimination_readOrder : MethodName := ⟨R_Elimination, "readOrder", "(II)Z"⟩
abbrev b_Elimination_readOrder : ByteArray := prog_3_method_7_code
theorem v_Elimination_readOrder : HVirt y_Elimination_readOrder b_Elimination_readOrder 7 (some .boolean) 2 := ⟨List.forall_mem_cons.mpr ⟨h_inI 800 (by decide +kernel) rfl, List.forall_mem_cons.mpr ⟨h_inI 801 (by decide +kernel) rfl, List.forall_mem_cons.mpr ⟨h_inI 105 (by decide +kernel) rfl, List.forall_mem_cons.mpr ⟨h_inI 802 (by decide +kernel) rfl, fun _ h => absurd h List.not_mem_nil⟩⟩⟩⟩, by decide, by decide, by decide +kernel⟩
theorem wm_Elimination_39 : Cond.methodLink R_Elimination 39 y_Integer_bitCount ∈ h_tb := h_inI 406 (by decide +kernel) rfl
theorem wm_Elimination_77 : Cond.methodLink R_Elimination 77 y_Graph_reached ∈ h_tb := h_inI 395 (by decide +kernel) rfl
theorem wm_Elimination_80 : Cond.methodLink R_Elimination 80 y_Graph_nearOf ∈ h_tb := h_inI 402 (by decide +kernel) rfl
theorem wf_Elimination_21 : Cond.fieldLink R_Elimination 21 (F_Elimination 5).1 (F_Elimination 5).2.1 (F_Elimination 5).2.2.1 ∈ h_tb := h_inI 237 (by decide +kernel) rfl
theorem wf_Elimination_31 : Cond.fieldLink R_Elimination 31 (F_Graph 0).1 (F_Graph 0).2.1 (F_Graph 0).2.2.1 ∈ h_tb := h_inI 141 (by decide +kernel) rfl
theorem wm_Elimination_45 : Cond.methodLink R_Elimination 45 Lib.Math.max.name ∈ h_tb := h_inI 412 (by decide +kernel) rfl
theorem wm_Elimination_59 : Cond.methodLink R_Elimination 59 y_Graph_all ∈ h_tb := h_inI 388 (by decide +kernel) rfl
theorem wm_Elimination_70 : Cond.methodLink R_Elimination 70 y_Elimination_laterNeighbors ∈ h_tb := h_inI 392 (by decide +kernel) rfl
theorem wm_Elimination_74 : Cond.methodLink R_Elimination 74 Lib.Math.min.name ∈ h_tb := h_inI 415 (by decide +kernel) rfl
theorem wf_Bijections_21 : Cond.fieldLink R_Bijections 21 (F_Graph 0).1 (F_Graph 0).2.1 (F_Graph 0).2.2.1 ∈ h_tb := h_inI 137 (by decide +kernel) rfl
theorem wm_Bijections_51 : Cond.methodLink R_Bijections 51 y_Graph_between ∈ h_tb := h_inI 425 (by decide +kernel) rfl
theorem wf_Bijections_55 : Cond.fieldLink R_Bijections 55 (F_Graph 1).1 (F_Graph 1).2.1 (F_Graph 1).2.2.1 ∈ h_tb := h_inI 151 (by decide +kernel) rfl
theorem wm_Bijections_58 : Cond.methodLink R_Bijections 58 y_Bijections_edgesOfWeight ∈ h_tb := h_inI 426 (by decide +kernel) rfl
theorem wf_Bijections_15 : Cond.fieldLink R_Bijections 15 (F_Bijections 1).1 (F_Bijections 1).2.1 (F_Bijections 1).2.2.1 ∈ h_tb := h_inI 310 (by decide +kernel) rfl
theorem wf_Bijections_18 : Cond.fieldLink R_Bijections 18 (F_Bijections 2).1 (F_Bijections 2).2.1 (F_Bijections 2).2.2.1 ∈ h_tb := h_inI 311 (by decide +kernel) rfl
theorem wf_Bijections_9 : Cond.fieldLink R_Bijections 9 (F_Bijections 0).1 (F_Bijections 0).2.1 (F_Bijections 0).2.2.1 ∈ h_tb := h_inI 309 (by decide +kernel) rfl
theorem wm_Bijections_35 : Cond.methodLink R_Bijections 35 y_Bijections_extendable ∈ h_tb := h_inI 437 (by decide +kernel) rfl
theorem wm_Bijections_43 : Cond.methodLink R_Bijections 43 y_Bijections_fits ∈ h_tb := h_inI 433 (by decide +kernel) rfl
theorem wm_Bijections_27 : Cond.methodLink R_Bijections 27 y_Bijections_mark ∈ h_tb := h_inI 422 (by decide +kernel) rfl
theorem wm_Bijections_39 : Cond.methodLink R_Bijections 39 y_Bijections_imagesWithLowerFixed ∈ h_tb := h_inI 429 (by decide +kernel) rfl
theorem wm_Bijections_31 : Cond.methodLink R_Bijections 31 y_Bijections_sameMarks ∈ h_tb := h_inI 924 (by decide +kernel) rfl
theorem wf_Elimination_18 : Cond.fieldLink R_Elimination 18 (F_Elimination 4).1 (F_Elimination 4).2.1 (F_Elimination 4).2.2.1 ∈ h_tb := h_inI 236 (by decide +kernel) rfl
theorem wf_Elimination_24 : Cond.fieldLink R_Elimination 24 (F_Elimination 2).1 (F_Elimination 2).2.1 (F_Elimination 2).2.2.1 ∈ h_tb := h_inI 232 (by decide +kernel) rfl
theorem wf_Elimination_28 : Cond.fieldLink R_Elimination 28 (F_Elimination 3).1 (F_Elimination 3).2.1 (F_Elimination 3).2.2.1 ∈ h_tb := h_inI 234 (by decide +kernel) rfl
theorem wf_Elimination_36 : Cond.fieldLink R_Elimination 36 (F_Graph 3).1 (F_Graph 3).2.1 (F_Graph 3).2.2.1 ∈ h_tb := h_inI 154 (by decide +kernel) rfl
theorem wf_Elimination_15 : Cond.fieldLink R_Elimination 15 (F_Elimination 1).1 (F_Elimination 1).2.1 (F_Elimination 1).2.2.1 ∈ h_tb := h_inI 230 (by decide +kernel) rfl
theorem wf_Elimination_9 : Cond.fieldLink R_Elimination 9 (F_Elimination 0).1 (F_Elimination 0).2.1 (F_Elimination 0).2.2.1 ∈ h_tb := h_inI 228 (by decide +kernel) rfl
theorem wm_Elimination_55 : Cond.methodLink R_Elimination 55 y_Elimination_begin ∈ h_tb := h_inI 779 (by decide +kernel) rfl
theorem wm_Elimination_63 : Cond.methodLink R_Elimination 63 y_Elimination_fewestNeighbors ∈ h_tb := h_inI 783 (by decide +kernel) rfl
theorem wm_Elimination_66 : Cond.methodLink R_Elimination 66 y_Elimination_eliminate ∈ h_tb := h_inI 788 (by decide +kernel) rfl
theorem d_Elimination_laterNeighbors_0 : decode b_Elimination_laterNeighbors 0 = .ok (.aload_n 0, 1) := by decide +kernel
theorem d_Elimination_laterNeighbors_1 : decode b_Elimination_laterNeighbors 1 = .ok (.iload_n 1, 1) := by decide +kernel
theorem d_Elimination_laterNeighbors_2 : decode b_Elimination_laterNeighbors 2 = .ok (.iload_n 2, 1) := by decide +kernel
theorem d_Elimination_laterNeighbors_3 : decode b_Elimination_laterNeighbors 3 = .ok (.invokevirtual 77, 3) := by decide +kernel
theorem d_Elimination_laterNeighbors_6 : decode b_Elimination_laterNeighbors 6 = .ok (.istore_n 3, 1) := by decide +kernel
theorem d_Elimination_laterNeighbors_7 : decode b_Elimination_laterNeighbors 7 = .ok (.aload_n 0, 1) := by decide +kernel
theorem d_Elimination_laterNeighbors_8 : decode b_Elimination_laterNeighbors 8 = .ok (.iload_n 3, 1) := by decide +kernel
theorem d_Elimination_laterNeighbors_9 : decode b_Elimination_laterNeighbors 9 = .ok (.invokevirtual 80, 3) := by decide +kernel
theorem d_Elimination_laterNeighbors_12 : decode b_Elimination_laterNeighbors 12 = .ok (.iload_n 2, 1) := by decide +kernel
theorem d_Elimination_laterNeighbors_13 : decode b_Elimination_laterNeighbors 13 = .ok (.iconst (-1), 1) := by decide +kernel
theorem d_Elimination_laterNeighbors_14 : decode b_Elimination_laterNeighbors 14 = .ok (.ixor, 1) := by decide +kernel
theorem d_Elimination_laterNeighbors_15 : decode b_Elimination_laterNeighbors 15 = .ok (.iand, 1) := by decide +kernel
theorem d_Elimination_laterNeighbors_16 : decode b_Elimination_laterNeighbors 16 = .ok (.iconst 1, 1) := by decide +kernel
theorem d_Elimination_laterNeighbors_17 : decode b_Elimination_laterNeighbors 17 = .ok (.iload_n 1, 1) := by decide +kernel
theorem d_Elimination_laterNeighbors_18 : decode b_Elimination_laterNeighbors 18 = .ok (.ishl, 1) := by decide +kernel
theorem d_Elimination_laterNeighbors_19 : decode b_Elimination_laterNeighbors 19 = .ok (.iconst (-1), 1) := by decide +kernel
theorem d_Elimination_laterNeighbors_20 : decode b_Elimination_laterNeighbors 20 = .ok (.ixor, 1) := by decide +kernel
theorem d_Elimination_laterNeighbors_21 : decode b_Elimination_laterNeighbors 21 = .ok (.iand, 1) := by decide +kernel
theorem d_Elimination_laterNeighbors_22 : decode b_Elimination_laterNeighbors 22 = .ok (.invokestatic 39, 3) := by decide +kernel
theorem d_Elimination_laterNeighbors_25 : decode b_Elimination_laterNeighbors 25 = .ok (.ireturn, 1) := by decide +kernel
theorem d_Elimination_smallestWidth_0 : decode b_Elimination_smallestWidth 0 = .ok (.aload_n 0, 1) := by decide +kernel
theorem d_Elimination_smallestWidth_1 : decode b_Elimination_smallestWidth 1 = .ok (.getfield 21, 3) := by decide +kernel
theorem d_Elimination_smallestWidth_4 : decode b_Elimination_smallestWidth 4 = .ok (.iconst 0, 1) := by decide +kernel
theorem d_Elimination_smallestWidth_5 : decode b_Elimination_smallestWidth 5 = .ok (.iconst (-1), 1) := by decide +kernel
theorem d_Elimination_smallestWidth_6 : decode b_Elimination_smallestWidth 6 = .ok (.iastore, 1) := by decide +kernel
theorem d_Elimination_smallestWidth_7 : decode b_Elimination_smallestWidth 7 = .ok (.iconst 1, 1) := by decide +kernel
theorem d_Elimination_smallestWidth_8 : decode b_Elimination_smallestWidth 8 = .ok (.istore_n 2, 1) := by decide +kernel
theorem d_Elimination_smallestWidth_9 : decode b_Elimination_smallestWidth 9 = .ok (.iload_n 2, 1) := by decide +kernel
theorem d_Elimination_smallestWidth_10 : decode b_Elimination_smallestWidth 10 = .ok (.aload_n 1, 1) := by decide +kernel
theorem d_Elimination_smallestWidth_11 : decode b_Elimination_smallestWidth 11 = .ok (.invokevirtual 59, 3) := by decide +kernel
theorem d_Elimination_smallestWidth_14 : decode b_Elimination_smallestWidth 14 = .ok (.if_icmp .gt 87, 3) := by decide +kernel
theorem d_Elimination_smallestWidth_17 : decode b_Elimination_smallestWidth 17 = .ok (.bipush 8, 2) := by decide +kernel
theorem d_Elimination_smallestWidth_19 : decode b_Elimination_smallestWidth 19 = .ok (.istore_n 3, 1) := by decide +kernel
theorem d_Elimination_smallestWidth_20 : decode b_Elimination_smallestWidth 20 = .ok (.iconst 0, 1) := by decide +kernel
theorem d_Elimination_smallestWidth_21 : decode b_Elimination_smallestWidth 21 = .ok (.istore 4, 2) := by decide +kernel
theorem d_Elimination_smallestWidth_23 : decode b_Elimination_smallestWidth 23 = .ok (.iload 4, 2) := by decide +kernel
theorem d_Elimination_smallestWidth_25 : decode b_Elimination_smallestWidth 25 = .ok (.aload_n 1, 1) := by decide +kernel
theorem d_Elimination_smallestWidth_26 : decode b_Elimination_smallestWidth 26 = .ok (.getfield 31, 3) := by decide +kernel
theorem d_Elimination_smallestWidth_29 : decode b_Elimination_smallestWidth 29 = .ok (.if_icmp .ge 59, 3) := by decide +kernel
theorem d_Elimination_smallestWidth_32 : decode b_Elimination_smallestWidth 32 = .ok (.iload_n 2, 1) := by decide +kernel
theorem d_Elimination_smallestWidth_33 : decode b_Elimination_smallestWidth 33 = .ok (.iconst 1, 1) := by decide +kernel
theorem d_Elimination_smallestWidth_34 : decode b_Elimination_smallestWidth 34 = .ok (.iload 4, 2) := by decide +kernel
theorem d_Elimination_smallestWidth_36 : decode b_Elimination_smallestWidth 36 = .ok (.ishl, 1) := by decide +kernel
theorem d_Elimination_smallestWidth_37 : decode b_Elimination_smallestWidth 37 = .ok (.iconst (-1), 1) := by decide +kernel
theorem d_Elimination_smallestWidth_38 : decode b_Elimination_smallestWidth 38 = .ok (.ixor, 1) := by decide +kernel
theorem d_Elimination_smallestWidth_39 : decode b_Elimination_smallestWidth 39 = .ok (.iand, 1) := by decide +kernel
theorem d_Elimination_smallestWidth_40 : decode b_Elimination_smallestWidth 40 = .ok (.istore 5, 2) := by decide +kernel
theorem d_Elimination_smallestWidth_42 : decode b_Elimination_smallestWidth 42 = .ok (.iload 5, 2) := by decide +kernel
theorem d_Elimination_smallestWidth_44 : decode b_Elimination_smallestWidth 44 = .ok (.iload_n 2, 1) := by decide +kernel
theorem d_Elimination_smallestWidth_45 : decode b_Elimination_smallestWidth 45 = .ok (.if_icmp .eq 37, 3) := by decide +kernel
theorem d_Elimination_smallestWidth_48 : decode b_Elimination_smallestWidth 48 = .ok (.aload_n 0, 1) := by decide +kernel
theorem d_Elimination_smallestWidth_49 : decode b_Elimination_smallestWidth 49 = .ok (.getfield 21, 3) := by decide +kernel
theorem d_Elimination_smallestWidth_52 : decode b_Elimination_smallestWidth 52 = .ok (.iload 5, 2) := by decide +kernel
theorem d_Elimination_smallestWidth_54 : decode b_Elimination_smallestWidth 54 = .ok (.iaload, 1) := by decide +kernel
theorem d_Elimination_smallestWidth_55 : decode b_Elimination_smallestWidth 55 = .ok (.iload_n 3, 1) := by decide +kernel
theorem d_Elimination_smallestWidth_56 : decode b_Elimination_smallestWidth 56 = .ok (.if_icmp .ge 26, 3) := by decide +kernel
theorem d_Elimination_smallestWidth_59 : decode b_Elimination_smallestWidth 59 = .ok (.iload_n 3, 1) := by decide +kernel
theorem d_Elimination_smallestWidth_60 : decode b_Elimination_smallestWidth 60 = .ok (.aload_n 0, 1) := by decide +kernel
theorem d_Elimination_smallestWidth_61 : decode b_Elimination_smallestWidth 61 = .ok (.getfield 21, 3) := by decide +kernel
theorem d_Elimination_smallestWidth_64 : decode b_Elimination_smallestWidth 64 = .ok (.iload 5, 2) := by decide +kernel
theorem d_Elimination_smallestWidth_66 : decode b_Elimination_smallestWidth 66 = .ok (.iaload, 1) := by decide +kernel
theorem d_Elimination_smallestWidth_67 : decode b_Elimination_smallestWidth 67 = .ok (.aload_n 1, 1) := by decide +kernel
theorem d_Elimination_smallestWidth_68 : decode b_Elimination_smallestWidth 68 = .ok (.iload 4, 2) := by decide +kernel
theorem d_Elimination_smallestWidth_70 : decode b_Elimination_smallestWidth 70 = .ok (.iload 5, 2) := by decide +kernel
theorem d_Elimination_smallestWidth_72 : decode b_Elimination_smallestWidth 72 = .ok (.invokestatic 70, 3) := by decide +kernel
theorem d_Elimination_smallestWidth_75 : decode b_Elimination_smallestWidth 75 = .ok (.invokestatic 45, 3) := by decide +kernel
theorem d_Elimination_smallestWidth_78 : decode b_Elimination_smallestWidth 78 = .ok (.invokestatic 74, 3) := by decide +kernel
theorem d_Elimination_smallestWidth_81 : decode b_Elimination_smallestWidth 81 = .ok (.istore_n 3, 1) := by decide +kernel
theorem d_Elimination_smallestWidth_82 : decode b_Elimination_smallestWidth 82 = .ok (.iinc 4 1, 3) := by decide +kernel
theorem d_Elimination_smallestWidth_85 : decode b_Elimination_smallestWidth 85 = .ok (.goto (-62), 3) := by decide +kernel
theorem d_Elimination_smallestWidth_88 : decode b_Elimination_smallestWidth 88 = .ok (.aload_n 0, 1) := by decide +kernel
theorem d_Elimination_smallestWidth_89 : decode b_Elimination_smallestWidth 89 = .ok (.getfield 21, 3) := by decide +kernel
theorem d_Elimination_smallestWidth_92 : decode b_Elimination_smallestWidth 92 = .ok (.iload_n 2, 1) := by decide +kernel
theorem d_Elimination_smallestWidth_93 : decode b_Elimination_smallestWidth 93 = .ok (.iload_n 3, 1) := by decide +kernel
theorem d_Elimination_smallestWidth_94 : decode b_Elimination_smallestWidth 94 = .ok (.iastore, 1) := by decide +kernel
theorem d_Elimination_smallestWidth_95 : decode b_Elimination_smallestWidth 95 = .ok (.iinc 2 1, 3) := by decide +kernel
theorem d_Elimination_smallestWidth_98 : decode b_Elimination_smallestWidth 98 = .ok (.goto (-89), 3) := by decide +kernel
theorem d_Elimination_smallestWidth_101 : decode b_Elimination_smallestWidth 101 = .ok (.aload_n 0, 1) := by decide +kernel
theorem d_Elimination_smallestWidth_102 : decode b_Elimination_smallestWidth 102 = .ok (.getfield 21, 3) := by decide +kernel
theorem d_Elimination_smallestWidth_105 : decode b_Elimination_smallestWidth 105 = .ok (.aload_n 1, 1) := by decide +kernel
theorem d_Elimination_smallestWidth_106 : decode b_Elimination_smallestWidth 106 = .ok (.invokevirtual 59, 3) := by decide +kernel
theorem d_Elimination_smallestWidth_109 : decode b_Elimination_smallestWidth 109 = .ok (.iaload, 1) := by decide +kernel
theorem d_Elimination_smallestWidth_110 : decode b_Elimination_smallestWidth 110 = .ok (.ireturn, 1) := by decide +kernel
theorem d_Bijections_edgesOfWeight_0 : decode b_Bijections_edgesOfWeight 0 = .ok (.iconst 0, 1) := by decide +kernel
theorem d_Bijections_edgesOfWeight_1 : decode b_Bijections_edgesOfWeight 1 = .ok (.istore_n 3, 1) := by decide +kernel
theorem d_Bijections_edgesOfWeight_2 : decode b_Bijections_edgesOfWeight 2 = .ok (.iconst 0, 1) := by decide +kernel
theorem d_Bijections_edgesOfWeight_3 : decode b_Bijections_edgesOfWeight 3 = .ok (.istore 4, 2) := by decide +kernel
theorem d_Bijections_edgesOfWeight_5 : decode b_Bijections_edgesOfWeight 5 = .ok (.iload 4, 2) := by decide +kernel
theorem d_Bijections_edgesOfWeight_7 : decode b_Bijections_edgesOfWeight 7 = .ok (.aload_n 0, 1) := by decide +kernel
theorem d_Bijections_edgesOfWeight_8 : decode b_Bijections_edgesOfWeight 8 = .ok (.getfield 21, 3) := by decide +kernel
theorem d_Bijections_edgesOfWeight_11 : decode b_Bijections_edgesOfWeight 11 = .ok (.if_icmp .ge 29, 3) := by decide +kernel
theorem d_Bijections_edgesOfWeight_14 : decode b_Bijections_edgesOfWeight 14 = .ok (.iload 4, 2) := by decide +kernel
theorem d_Bijections_edgesOfWeight_16 : decode b_Bijections_edgesOfWeight 16 = .ok (.iload_n 1, 1) := by decide +kernel
theorem d_Bijections_edgesOfWeight_17 : decode b_Bijections_edgesOfWeight 17 = .ok (.if_icmp .eq 17, 3) := by decide +kernel
theorem d_Bijections_edgesOfWeight_20 : decode b_Bijections_edgesOfWeight 20 = .ok (.aload_n 0, 1) := by decide +kernel
theorem d_Bijections_edgesOfWeight_21 : decode b_Bijections_edgesOfWeight 21 = .ok (.iload_n 1, 1) := by decide +kernel
theorem d_Bijections_edgesOfWeight_22 : decode b_Bijections_edgesOfWeight 22 = .ok (.iload 4, 2) := by decide +kernel
theorem d_Bijections_edgesOfWeight_24 : decode b_Bijections_edgesOfWeight 24 = .ok (.invokevirtual 51, 3) := by decide +kernel
theorem d_Bijections_edgesOfWeight_27 : decode b_Bijections_edgesOfWeight 27 = .ok (.iload_n 2, 1) := by decide +kernel
theorem d_Bijections_edgesOfWeight_28 : decode b_Bijections_edgesOfWeight 28 = .ok (.if_icmp .ne 6, 3) := by decide +kernel
theorem d_Bijections_edgesOfWeight_31 : decode b_Bijections_edgesOfWeight 31 = .ok (.iinc 3 1, 3) := by decide +kernel
theorem d_Bijections_edgesOfWeight_34 : decode b_Bijections_edgesOfWeight 34 = .ok (.iinc 4 1, 3) := by decide +kernel
theorem d_Bijections_edgesOfWeight_37 : decode b_Bijections_edgesOfWeight 37 = .ok (.goto (-32), 3) := by decide +kernel
theorem d_Bijections_edgesOfWeight_40 : decode b_Bijections_edgesOfWeight 40 = .ok (.iload_n 3, 1) := by decide +kernel
theorem d_Bijections_edgesOfWeight_41 : decode b_Bijections_edgesOfWeight 41 = .ok (.ireturn, 1) := by decide +kernel
theorem d_Bijections_mark_0 : decode b_Bijections_mark 0 = .ok (.iconst 0, 1) := by decide +kernel
theorem d_Bijections_mark_1 : decode b_Bijections_mark 1 = .ok (.istore_n 2, 1) := by decide +kernel
theorem d_Bijections_mark_2 : decode b_Bijections_mark 2 = .ok (.iload_n 2, 1) := by decide +kernel
theorem d_Bijections_mark_3 : decode b_Bijections_mark 3 = .ok (.aload_n 0, 1) := by decide +kernel
theorem d_Bijections_mark_4 : decode b_Bijections_mark 4 = .ok (.getfield 21, 3) := by decide +kernel
theorem d_Bijections_mark_7 : decode b_Bijections_mark 7 = .ok (.if_icmp .ge 63, 3) := by decide +kernel
theorem d_Bijections_mark_10 : decode b_Bijections_mark 10 = .ok (.bipush 8, 2) := by decide +kernel
theorem d_Bijections_mark_12 : decode b_Bijections_mark 12 = .ok (.aload_n 0, 1) := by decide +kernel
theorem d_Bijections_mark_13 : decode b_Bijections_mark 13 = .ok (.getfield 55, 3) := by decide +kernel
theorem d_Bijections_mark_16 : decode b_Bijections_mark 16 = .ok (.iload_n 2, 1) := by decide +kernel
theorem d_Bijections_mark_17 : decode b_Bijections_mark 17 = .ok (.iaload, 1) := by decide +kernel
theorem d_Bijections_mark_18 : decode b_Bijections_mark 18 = .ok (.iconst 3, 1) := by decide +kernel
theorem d_Bijections_mark_19 : decode b_Bijections_mark 19 = .ok (.iadd, 1) := by decide +kernel
theorem d_Bijections_mark_20 : decode b_Bijections_mark 20 = .ok (.imul, 1) := by decide +kernel
theorem d_Bijections_mark_21 : decode b_Bijections_mark 21 = .ok (.aload_n 0, 1) := by decide +kernel
theorem d_Bijections_mark_22 : decode b_Bijections_mark 22 = .ok (.iload_n 2, 1) := by decide +kernel
theorem d_Bijections_mark_23 : decode b_Bijections_mark 23 = .ok (.iload_n 2, 1) := by decide +kernel
theorem d_Bijections_mark_24 : decode b_Bijections_mark 24 = .ok (.invokevirtual 51, 3) := by decide +kernel
theorem d_Bijections_mark_27 : decode b_Bijections_mark 27 = .ok (.iadd, 1) := by decide +kernel
theorem d_Bijections_mark_28 : decode b_Bijections_mark 28 = .ok (.iconst 2, 1) := by decide +kernel
theorem d_Bijections_mark_29 : decode b_Bijections_mark 29 = .ok (.iadd, 1) := by decide +kernel
theorem d_Bijections_mark_30 : decode b_Bijections_mark 30 = .ok (.istore_n 3, 1) := by decide +kernel
theorem d_Bijections_mark_31 : decode b_Bijections_mark 31 = .ok (.bipush (-2), 2) := by decide +kernel
theorem d_Bijections_mark_33 : decode b_Bijections_mark 33 = .ok (.istore 4, 2) := by decide +kernel
theorem d_Bijections_mark_35 : decode b_Bijections_mark 35 = .ok (.iload 4, 2) := by decide +kernel
theorem d_Bijections_mark_37 : decode b_Bijections_mark 37 = .ok (.iconst 2, 1) := by decide +kernel
theorem d_Bijections_mark_38 : decode b_Bijections_mark 38 = .ok (.if_icmp .gt 22, 3) := by decide +kernel
theorem d_Bijections_mark_41 : decode b_Bijections_mark 41 = .ok (.bipush 8, 2) := by decide +kernel
theorem d_Bijections_mark_43 : decode b_Bijections_mark 43 = .ok (.iload_n 3, 1) := by decide +kernel
theorem d_Bijections_mark_44 : decode b_Bijections_mark 44 = .ok (.imul, 1) := by decide +kernel
theorem d_Bijections_mark_45 : decode b_Bijections_mark 45 = .ok (.aload_n 0, 1) := by decide +kernel
theorem d_Bijections_mark_46 : decode b_Bijections_mark 46 = .ok (.iload_n 2, 1) := by decide +kernel
theorem d_Bijections_mark_47 : decode b_Bijections_mark 47 = .ok (.iload 4, 2) := by decide +kernel
theorem d_Bijections_mark_49 : decode b_Bijections_mark 49 = .ok (.invokestatic 58, 3) := by decide +kernel
theorem d_Bijections_mark_52 : decode b_Bijections_mark 52 = .ok (.iadd, 1) := by decide +kernel
theorem d_Bijections_mark_53 : decode b_Bijections_mark 53 = .ok (.istore_n 3, 1) := by decide +kernel
theorem d_Bijections_mark_54 : decode b_Bijections_mark 54 = .ok (.iinc 4 1, 3) := by decide +kernel
theorem d_Bijections_mark_57 : decode b_Bijections_mark 57 = .ok (.goto (-22), 3) := by decide +kernel
theorem d_Bijections_mark_60 : decode b_Bijections_mark 60 = .ok (.aload_n 1, 1) := by decide +kernel
theorem d_Bijections_mark_61 : decode b_Bijections_mark 61 = .ok (.iload_n 2, 1) := by decide +kernel
theorem d_Bijections_mark_62 : decode b_Bijections_mark 62 = .ok (.iload_n 3, 1) := by decide +kernel
theorem d_Bijections_mark_63 : decode b_Bijections_mark 63 = .ok (.iastore, 1) := by decide +kernel
theorem d_Bijections_mark_64 : decode b_Bijections_mark 64 = .ok (.iinc 2 1, 3) := by decide +kernel
theorem d_Bijections_mark_67 : decode b_Bijections_mark 67 = .ok (.goto (-65), 3) := by decide +kernel
theorem d_Bijections_mark_70 : decode b_Bijections_mark 70 = .ok (.return_, 1) := by decide +kernel
theorem d_Bijections_fits_0 : decode b_Bijections_fits 0 = .ok (.aload_n 0, 1) := by decide +kernel
theorem d_Bijections_fits_1 : decode b_Bijections_fits 1 = .ok (.getfield 9, 3) := by decide +kernel
theorem d_Bijections_fits_4 : decode b_Bijections_fits 4 = .ok (.iload_n 3, 1) := by decide +kernel
theorem d_Bijections_fits_5 : decode b_Bijections_fits 5 = .ok (.iaload, 1) := by decide +kernel
theorem d_Bijections_fits_6 : decode b_Bijections_fits 6 = .ok (.aload_n 0, 1) := by decide +kernel
theorem d_Bijections_fits_7 : decode b_Bijections_fits 7 = .ok (.getfield 15, 3) := by decide +kernel
theorem d_Bijections_fits_10 : decode b_Bijections_fits 10 = .ok (.iload 4, 2) := by decide +kernel
theorem d_Bijections_fits_12 : decode b_Bijections_fits 12 = .ok (.iaload, 1) := by decide +kernel
theorem d_Bijections_fits_13 : decode b_Bijections_fits 13 = .ok (.if_icmp .eq 5, 3) := by decide +kernel
theorem d_Bijections_fits_16 : decode b_Bijections_fits 16 = .ok (.iconst 0, 1) := by decide +kernel
theorem d_Bijections_fits_17 : decode b_Bijections_fits 17 = .ok (.ireturn, 1) := by decide +kernel
theorem d_Bijections_fits_18 : decode b_Bijections_fits 18 = .ok (.iconst 0, 1) := by decide +kernel
theorem d_Bijections_fits_19 : decode b_Bijections_fits 19 = .ok (.istore 5, 2) := by decide +kernel
theorem d_Bijections_fits_21 : decode b_Bijections_fits 21 = .ok (.iload 5, 2) := by decide +kernel
theorem d_Bijections_fits_23 : decode b_Bijections_fits 23 = .ok (.iload_n 3, 1) := by decide +kernel
theorem d_Bijections_fits_24 : decode b_Bijections_fits 24 = .ok (.if_icmp .ge 34, 3) := by decide +kernel
theorem d_Bijections_fits_27 : decode b_Bijections_fits 27 = .ok (.aload_n 1, 1) := by decide +kernel
theorem d_Bijections_fits_28 : decode b_Bijections_fits 28 = .ok (.iload 5, 2) := by decide +kernel
theorem d_Bijections_fits_30 : decode b_Bijections_fits 30 = .ok (.iload_n 3, 1) := by decide +kernel
theorem d_Bijections_fits_31 : decode b_Bijections_fits 31 = .ok (.invokevirtual 51, 3) := by decide +kernel
theorem d_Bijections_fits_34 : decode b_Bijections_fits 34 = .ok (.aload_n 2, 1) := by decide +kernel
theorem d_Bijections_fits_35 : decode b_Bijections_fits 35 = .ok (.aload_n 0, 1) := by decide +kernel
theorem d_Bijections_fits_36 : decode b_Bijections_fits 36 = .ok (.getfield 18, 3) := by decide +kernel
theorem d_Bijections_fits_39 : decode b_Bijections_fits 39 = .ok (.iload 5, 2) := by decide +kernel
theorem d_Bijections_fits_41 : decode b_Bijections_fits 41 = .ok (.iaload, 1) := by decide +kernel
theorem d_Bijections_fits_42 : decode b_Bijections_fits 42 = .ok (.iload 4, 2) := by decide +kernel
theorem d_Bijections_fits_44 : decode b_Bijections_fits 44 = .ok (.invokevirtual 51, 3) := by decide +kernel
theorem d_Bijections_fits_47 : decode b_Bijections_fits 47 = .ok (.if_icmp .eq 5, 3) := by decide +kernel
theorem d_Bijections_fits_50 : decode b_Bijections_fits 50 = .ok (.iconst 0, 1) := by decide +kernel
theorem d_Bijections_fits_51 : decode b_Bijections_fits 51 = .ok (.ireturn, 1) := by decide +kernel
theorem d_Bijections_fits_52 : decode b_Bijections_fits 52 = .ok (.iinc 5 1, 3) := by decide +kernel
theorem d_Bijections_fits_55 : decode b_Bijections_fits 55 = .ok (.goto (-34), 3) := by decide +kernel
theorem d_Bijections_fits_58 : decode b_Bijections_fits 58 = .ok (.iconst 1, 1) := by decide +kernel
theorem d_Bijections_fits_59 : decode b_Bijections_fits 59 = .ok (.ireturn, 1) := by decide +kernel
theorem d_Bijections_extendable_0 : decode b_Bijections_extendable 0 = .ok (.iload_n 3, 1) := by decide +kernel
theorem d_Bijections_extendable_1 : decode b_Bijections_extendable 1 = .ok (.aload_n 1, 1) := by decide +kernel
theorem d_Bijections_extendable_2 : decode b_Bijections_extendable 2 = .ok (.getfield 21, 3) := by decide +kernel
theorem d_Bijections_extendable_5 : decode b_Bijections_extendable 5 = .ok (.if_icmp .lt 5, 3) := by decide +kernel
theorem d_Bijections_extendable_8 : decode b_Bijections_extendable 8 = .ok (.iconst 1, 1) := by decide +kernel
theorem d_Bijections_extendable_9 : decode b_Bijections_extendable 9 = .ok (.ireturn, 1) := by decide +kernel
theorem d_Bijections_extendable_10 : decode b_Bijections_extendable 10 = .ok (.iconst 0, 1) := by decide +kernel
theorem d_Bijections_extendable_11 : decode b_Bijections_extendable 11 = .ok (.istore 5, 2) := by decide +kernel
theorem d_Bijections_extendable_13 : decode b_Bijections_extendable 13 = .ok (.iload 5, 2) := by decide +kernel
theorem d_Bijections_extendable_15 : decode b_Bijections_extendable 15 = .ok (.aload_n 2, 1) := by decide +kernel
theorem d_Bijections_extendable_16 : decode b_Bijections_extendable 16 = .ok (.getfield 21, 3) := by decide +kernel
theorem d_Bijections_extendable_19 : decode b_Bijections_extendable 19 = .ok (.if_icmp .ge 60, 3) := by decide +kernel
theorem d_Bijections_extendable_22 : decode b_Bijections_extendable 22 = .ok (.iload 4, 2) := by decide +kernel
theorem d_Bijections_extendable_24 : decode b_Bijections_extendable 24 = .ok (.iload 5, 2) := by decide +kernel
theorem d_Bijections_extendable_26 : decode b_Bijections_extendable 26 = .ok (.invokestatic 47, 3) := by decide +kernel
theorem d_Bijections_extendable_29 : decode b_Bijections_extendable 29 = .ok (.ifCond .ne 44, 3) := by decide +kernel
theorem d_Bijections_extendable_32 : decode b_Bijections_extendable 32 = .ok (.aload_n 0, 1) := by decide +kernel
theorem d_Bijections_extendable_33 : decode b_Bijections_extendable 33 = .ok (.aload_n 1, 1) := by decide +kernel
theorem d_Bijections_extendable_34 : decode b_Bijections_extendable 34 = .ok (.aload_n 2, 1) := by decide +kernel
theorem d_Bijections_extendable_35 : decode b_Bijections_extendable 35 = .ok (.iload_n 3, 1) := by decide +kernel
theorem d_Bijections_extendable_36 : decode b_Bijections_extendable 36 = .ok (.iload 5, 2) := by decide +kernel
theorem d_Bijections_extendable_38 : decode b_Bijections_extendable 38 = .ok (.invokevirtual 43, 3) := by decide +kernel
theorem d_Bijections_extendable_41 : decode b_Bijections_extendable 41 = .ok (.ifCond .eq 32, 3) := by decide +kernel
theorem d_Bijections_extendable_44 : decode b_Bijections_extendable 44 = .ok (.aload_n 0, 1) := by decide +kernel
theorem d_Bijections_extendable_45 : decode b_Bijections_extendable 45 = .ok (.getfield 18, 3) := by decide +kernel
theorem d_Bijections_extendable_48 : decode b_Bijections_extendable 48 = .ok (.iload_n 3, 1) := by decide +kernel
theorem d_Bijections_extendable_49 : decode b_Bijections_extendable 49 = .ok (.iload 5, 2) := by decide +kernel
theorem d_Bijections_extendable_51 : decode b_Bijections_extendable 51 = .ok (.iastore, 1) := by decide +kernel
theorem d_Bijections_extendable_52 : decode b_Bijections_extendable 52 = .ok (.aload_n 0, 1) := by decide +kernel
theorem d_Bijections_extendable_53 : decode b_Bijections_extendable 53 = .ok (.aload_n 1, 1) := by decide +kernel
theorem d_Bijections_extendable_54 : decode b_Bijections_extendable 54 = .ok (.aload_n 2, 1) := by decide +kernel
theorem d_Bijections_extendable_55 : decode b_Bijections_extendable 55 = .ok (.iload_n 3, 1) := by decide +kernel
theorem d_Bijections_extendable_56 : decode b_Bijections_extendable 56 = .ok (.iconst 1, 1) := by decide +kernel
theorem d_Bijections_extendable_57 : decode b_Bijections_extendable 57 = .ok (.iadd, 1) := by decide +kernel
theorem d_Bijections_extendable_58 : decode b_Bijections_extendable 58 = .ok (.iload 4, 2) := by decide +kernel
theorem d_Bijections_extendable_60 : decode b_Bijections_extendable 60 = .ok (.iconst 1, 1) := by decide +kernel
theorem d_Bijections_extendable_61 : decode b_Bijections_extendable 61 = .ok (.iload 5, 2) := by decide +kernel
theorem d_Bijections_extendable_63 : decode b_Bijections_extendable 63 = .ok (.ishl, 1) := by decide +kernel
theorem d_Bijections_extendable_64 : decode b_Bijections_extendable 64 = .ok (.ior, 1) := by decide +kernel
theorem d_Bijections_extendable_65 : decode b_Bijections_extendable 65 = .ok (.invokestatic 35, 3) := by decide +kernel
theorem d_Bijections_extendable_68 : decode b_Bijections_extendable 68 = .ok (.ifCond .eq 5, 3) := by decide +kernel
theorem d_Bijections_extendable_71 : decode b_Bijections_extendable 71 = .ok (.iconst 1, 1) := by decide +kernel
theorem d_Bijections_extendable_72 : decode b_Bijections_extendable 72 = .ok (.ireturn, 1) := by decide +kernel
theorem d_Bijections_extendable_73 : decode b_Bijections_extendable 73 = .ok (.iinc 5 1, 3) := by decide +kernel
theorem d_Bijections_extendable_76 : decode b_Bijections_extendable 76 = .ok (.goto (-63), 3) := by decide +kernel
theorem d_Bijections_extendable_79 : decode b_Bijections_extendable 79 = .ok (.iconst 0, 1) := by decide +kernel
theorem d_Bijections_extendable_80 : decode b_Bijections_extendable 80 = .ok (.ireturn, 1) := by decide +kernel
theorem d_Bijections_imagesWithLowerFixed_0 : decode b_Bijections_imagesWithLowerFixed 0 = .ok (.iconst 0, 1) := by decide +kernel
theorem d_Bijections_imagesWithLowerFixed_1 : decode b_Bijections_imagesWithLowerFixed 1 = .ok (.istore_n 3, 1) := by decide +kernel
theorem d_Bijections_imagesWithLowerFixed_2 : decode b_Bijections_imagesWithLowerFixed 2 = .ok (.iconst 1, 1) := by decide +kernel
theorem d_Bijections_imagesWithLowerFixed_3 : decode b_Bijections_imagesWithLowerFixed 3 = .ok (.iload_n 2, 1) := by decide +kernel
theorem d_Bijections_imagesWithLowerFixed_4 : decode b_Bijections_imagesWithLowerFixed 4 = .ok (.ishl, 1) := by decide +kernel
theorem d_Bijections_imagesWithLowerFixed_5 : decode b_Bijections_imagesWithLowerFixed 5 = .ok (.iconst 1, 1) := by decide +kernel
theorem d_Bijections_imagesWithLowerFixed_6 : decode b_Bijections_imagesWithLowerFixed 6 = .ok (.isub, 1) := by decide +kernel
theorem d_Bijections_imagesWithLowerFixed_7 : decode b_Bijections_imagesWithLowerFixed 7 = .ok (.istore 4, 2) := by decide +kernel
theorem d_Bijections_imagesWithLowerFixed_9 : decode b_Bijections_imagesWithLowerFixed 9 = .ok (.iload_n 2, 1) := by decide +kernel
theorem d_Bijections_imagesWithLowerFixed_10 : decode b_Bijections_imagesWithLowerFixed 10 = .ok (.istore 5, 2) := by decide +kernel
theorem d_Bijections_imagesWithLowerFixed_12 : decode b_Bijections_imagesWithLowerFixed 12 = .ok (.iload 5, 2) := by decide +kernel
theorem d_Bijections_imagesWithLowerFixed_14 : decode b_Bijections_imagesWithLowerFixed 14 = .ok (.aload_n 1, 1) := by decide +kernel
theorem d_Bijections_imagesWithLowerFixed_15 : decode b_Bijections_imagesWithLowerFixed 15 = .ok (.getfield 21, 3) := by decide +kernel
theorem d_Bijections_imagesWithLowerFixed_18 : decode b_Bijections_imagesWithLowerFixed 18 = .ok (.if_icmp .ge 51, 3) := by decide +kernel
theorem d_Bijections_imagesWithLowerFixed_21 : decode b_Bijections_imagesWithLowerFixed 21 = .ok (.aload_n 0, 1) := by decide +kernel
theorem d_Bijections_imagesWithLowerFixed_22 : decode b_Bijections_imagesWithLowerFixed 22 = .ok (.aload_n 1, 1) := by decide +kernel
theorem d_Bijections_imagesWithLowerFixed_23 : decode b_Bijections_imagesWithLowerFixed 23 = .ok (.aload_n 1, 1) := by decide +kernel
theorem d_Bijections_imagesWithLowerFixed_24 : decode b_Bijections_imagesWithLowerFixed 24 = .ok (.iload_n 2, 1) := by decide +kernel
theorem d_Bijections_imagesWithLowerFixed_25 : decode b_Bijections_imagesWithLowerFixed 25 = .ok (.iload 5, 2) := by decide +kernel
theorem d_Bijections_imagesWithLowerFixed_27 : decode b_Bijections_imagesWithLowerFixed 27 = .ok (.invokevirtual 43, 3) := by decide +kernel
theorem d_Bijections_imagesWithLowerFixed_30 : decode b_Bijections_imagesWithLowerFixed 30 = .ok (.ifCond .eq 33, 3) := by decide +kernel
theorem d_Bijections_imagesWithLowerFixed_33 : decode b_Bijections_imagesWithLowerFixed 33 = .ok (.aload_n 0, 1) := by decide +kernel
theorem d_Bijections_imagesWithLowerFixed_34 : decode b_Bijections_imagesWithLowerFixed 34 = .ok (.getfield 18, 3) := by decide +kernel
theorem d_Bijections_imagesWithLowerFixed_37 : decode b_Bijections_imagesWithLowerFixed 37 = .ok (.iload_n 2, 1) := by decide +kernel
theorem d_Bijections_imagesWithLowerFixed_38 : decode b_Bijections_imagesWithLowerFixed 38 = .ok (.iload 5, 2) := by decide +kernel
theorem d_Bijections_imagesWithLowerFixed_40 : decode b_Bijections_imagesWithLowerFixed 40 = .ok (.iastore, 1) := by decide +kernel
theorem d_Bijections_imagesWithLowerFixed_41 : decode b_Bijections_imagesWithLowerFixed 41 = .ok (.aload_n 0, 1) := by decide +kernel
theorem d_Bijections_imagesWithLowerFixed_42 : decode b_Bijections_imagesWithLowerFixed 42 = .ok (.aload_n 1, 1) := by decide +kernel
theorem d_Bijections_imagesWithLowerFixed_43 : decode b_Bijections_imagesWithLowerFixed 43 = .ok (.aload_n 1, 1) := by decide +kernel
theorem d_Bijections_imagesWithLowerFixed_44 : decode b_Bijections_imagesWithLowerFixed 44 = .ok (.iload_n 2, 1) := by decide +kernel
theorem d_Bijections_imagesWithLowerFixed_45 : decode b_Bijections_imagesWithLowerFixed 45 = .ok (.iconst 1, 1) := by decide +kernel
theorem d_Bijections_imagesWithLowerFixed_46 : decode b_Bijections_imagesWithLowerFixed 46 = .ok (.iadd, 1) := by decide +kernel
theorem d_Bijections_imagesWithLowerFixed_47 : decode b_Bijections_imagesWithLowerFixed 47 = .ok (.iload 4, 2) := by decide +kernel
theorem d_Bijections_imagesWithLowerFixed_49 : decode b_Bijections_imagesWithLowerFixed 49 = .ok (.iconst 1, 1) := by decide +kernel
theorem d_Bijections_imagesWithLowerFixed_50 : decode b_Bijections_imagesWithLowerFixed 50 = .ok (.iload 5, 2) := by decide +kernel
theorem d_Bijections_imagesWithLowerFixed_52 : decode b_Bijections_imagesWithLowerFixed 52 = .ok (.ishl, 1) := by decide +kernel
theorem d_Bijections_imagesWithLowerFixed_53 : decode b_Bijections_imagesWithLowerFixed 53 = .ok (.ior, 1) := by decide +kernel
theorem d_Bijections_imagesWithLowerFixed_54 : decode b_Bijections_imagesWithLowerFixed 54 = .ok (.invokestatic 35, 3) := by decide +kernel
theorem d_Bijections_imagesWithLowerFixed_57 : decode b_Bijections_imagesWithLowerFixed 57 = .ok (.ifCond .eq 6, 3) := by decide +kernel
theorem d_Bijections_imagesWithLowerFixed_60 : decode b_Bijections_imagesWithLowerFixed 60 = .ok (.iinc 3 1, 3) := by decide +kernel
theorem d_Bijections_imagesWithLowerFixed_63 : decode b_Bijections_imagesWithLowerFixed 63 = .ok (.iinc 5 1, 3) := by decide +kernel
theorem d_Bijections_imagesWithLowerFixed_66 : decode b_Bijections_imagesWithLowerFixed 66 = .ok (.goto (-54), 3) := by decide +kernel
theorem d_Bijections_imagesWithLowerFixed_69 : decode b_Bijections_imagesWithLowerFixed 69 = .ok (.iload_n 3, 1) := by decide +kernel
theorem d_Bijections_imagesWithLowerFixed_70 : decode b_Bijections_imagesWithLowerFixed 70 = .ok (.ireturn, 1) := by decide +kernel
theorem d_Bijections_countOnto_0 : decode b_Bijections_countOnto 0 = .ok (.aload_n 1, 1) := by decide +kernel
theorem d_Bijections_countOnto_1 : decode b_Bijections_countOnto 1 = .ok (.aload_n 0, 1) := by decide +kernel
theorem d_Bijections_countOnto_2 : decode b_Bijections_countOnto 2 = .ok (.getfield 9, 3) := by decide +kernel
theorem d_Bijections_countOnto_5 : decode b_Bijections_countOnto 5 = .ok (.invokestatic 27, 3) := by decide +kernel
theorem d_Bijections_countOnto_8 : decode b_Bijections_countOnto 8 = .ok (.aload_n 1, 1) := by decide +kernel
theorem d_Bijections_countOnto_9 : decode b_Bijections_countOnto 9 = .ok (.aload_n 0, 1) := by decide +kernel
theorem d_Bijections_countOnto_10 : decode b_Bijections_countOnto 10 = .ok (.getfield 15, 3) := by decide +kernel
theorem d_Bijections_countOnto_13 : decode b_Bijections_countOnto 13 = .ok (.invokestatic 27, 3) := by decide +kernel
theorem d_Bijections_countOnto_16 : decode b_Bijections_countOnto 16 = .ok (.iconst 1, 1) := by decide +kernel
theorem d_Bijections_countOnto_17 : decode b_Bijections_countOnto 17 = .ok (.istore_n 2, 1) := by decide +kernel
theorem d_Bijections_countOnto_18 : decode b_Bijections_countOnto 18 = .ok (.iconst 0, 1) := by decide +kernel
theorem d_Bijections_countOnto_19 : decode b_Bijections_countOnto 19 = .ok (.istore_n 3, 1) := by decide +kernel
theorem d_Bijections_countOnto_20 : decode b_Bijections_countOnto 20 = .ok (.iload_n 3, 1) := by decide +kernel
theorem d_Bijections_countOnto_21 : decode b_Bijections_countOnto 21 = .ok (.aload_n 1, 1) := by decide +kernel
theorem d_Bijections_countOnto_22 : decode b_Bijections_countOnto 22 = .ok (.getfield 21, 3) := by decide +kernel
theorem d_Bijections_countOnto_25 : decode b_Bijections_countOnto 25 = .ok (.if_icmp .ge 25, 3) := by decide +kernel
theorem d_Bijections_countOnto_28 : decode b_Bijections_countOnto 28 = .ok (.iload_n 2, 1) := by decide +kernel
theorem d_Bijections_countOnto_29 : decode b_Bijections_countOnto 29 = .ok (.aload_n 0, 1) := by decide +kernel
theorem d_Bijections_countOnto_30 : decode b_Bijections_countOnto 30 = .ok (.aload_n 1, 1) := by decide +kernel
theorem d_Bijections_countOnto_31 : decode b_Bijections_countOnto 31 = .ok (.iload_n 3, 1) := by decide +kernel
theorem d_Bijections_countOnto_32 : decode b_Bijections_countOnto 32 = .ok (.invokevirtual 39, 3) := by decide +kernel
theorem d_Bijections_countOnto_35 : decode b_Bijections_countOnto 35 = .ok (.imul, 1) := by decide +kernel
theorem d_Bijections_countOnto_36 : decode b_Bijections_countOnto 36 = .ok (.istore_n 2, 1) := by decide +kernel
theorem d_Bijections_countOnto_37 : decode b_Bijections_countOnto 37 = .ok (.aload_n 0, 1) := by decide +kernel
theorem d_Bijections_countOnto_38 : decode b_Bijections_countOnto 38 = .ok (.getfield 18, 3) := by decide +kernel
theorem d_Bijections_countOnto_41 : decode b_Bijections_countOnto 41 = .ok (.iload_n 3, 1) := by decide +kernel
theorem d_Bijections_countOnto_42 : decode b_Bijections_countOnto 42 = .ok (.iload_n 3, 1) := by decide +kernel
theorem d_Bijections_countOnto_43 : decode b_Bijections_countOnto 43 = .ok (.iastore, 1) := by decide +kernel
theorem d_Bijections_countOnto_44 : decode b_Bijections_countOnto 44 = .ok (.iinc 3 1, 3) := by decide +kernel
theorem d_Bijections_countOnto_47 : decode b_Bijections_countOnto 47 = .ok (.goto (-27), 3) := by decide +kernel
theorem d_Bijections_countOnto_50 : decode b_Bijections_countOnto 50 = .ok (.iload_n 2, 1) := by decide +kernel
theorem d_Bijections_countOnto_51 : decode b_Bijections_countOnto 51 = .ok (.ireturn, 1) := by decide +kernel
theorem d_Bijections_sameMarks_0 : decode b_Bijections_sameMarks 0 = .ok (.iconst 0, 1) := by decide +kernel
theorem d_Bijections_sameMarks_1 : decode b_Bijections_sameMarks 1 = .ok (.istore_n 2, 1) := by decide +kernel
theorem d_Bijections_sameMarks_2 : decode b_Bijections_sameMarks 2 = .ok (.iload_n 2, 1) := by decide +kernel
theorem d_Bijections_sameMarks_3 : decode b_Bijections_sameMarks 3 = .ok (.iload_n 1, 1) := by decide +kernel
theorem d_Bijections_sameMarks_4 : decode b_Bijections_sameMarks 4 = .ok (.if_icmp .ge 80, 3) := by decide +kernel
theorem d_Bijections_sameMarks_7 : decode b_Bijections_sameMarks 7 = .ok (.iconst 0, 1) := by decide +kernel
theorem d_Bijections_sameMarks_8 : decode b_Bijections_sameMarks 8 = .ok (.istore_n 3, 1) := by decide +kernel
theorem d_Bijections_sameMarks_9 : decode b_Bijections_sameMarks 9 = .ok (.iconst 0, 1) := by decide +kernel
theorem d_Bijections_sameMarks_10 : decode b_Bijections_sameMarks 10 = .ok (.istore 4, 2) := by decide +kernel
theorem d_Bijections_sameMarks_12 : decode b_Bijections_sameMarks 12 = .ok (.iload 4, 2) := by decide +kernel
theorem d_Bijections_sameMarks_14 : decode b_Bijections_sameMarks 14 = .ok (.iload_n 1, 1) := by decide +kernel
theorem d_Bijections_sameMarks_15 : decode b_Bijections_sameMarks 15 = .ok (.if_icmp .ge 57, 3) := by decide +kernel
theorem d_Bijections_sameMarks_18 : decode b_Bijections_sameMarks 18 = .ok (.iload_n 3, 1) := by decide +kernel
theorem d_Bijections_sameMarks_19 : decode b_Bijections_sameMarks 19 = .ok (.aload_n 0, 1) := by decide +kernel
theorem d_Bijections_sameMarks_20 : decode b_Bijections_sameMarks 20 = .ok (.getfield 9, 3) := by decide +kernel
theorem d_Bijections_sameMarks_23 : decode b_Bijections_sameMarks 23 = .ok (.iload 4, 2) := by decide +kernel
theorem d_Bijections_sameMarks_25 : decode b_Bijections_sameMarks 25 = .ok (.iaload, 1) := by decide +kernel
theorem d_Bijections_sameMarks_26 : decode b_Bijections_sameMarks 26 = .ok (.aload_n 0, 1) := by decide +kernel
theorem d_Bijections_sameMarks_27 : decode b_Bijections_sameMarks 27 = .ok (.getfield 9, 3) := by decide +kernel
theorem d_Bijections_sameMarks_30 : decode b_Bijections_sameMarks 30 = .ok (.iload_n 2, 1) := by decide +kernel
theorem d_Bijections_sameMarks_31 : decode b_Bijections_sameMarks 31 = .ok (.iaload, 1) := by decide +kernel
theorem d_Bijections_sameMarks_32 : decode b_Bijections_sameMarks 32 = .ok (.if_icmp .ne 7, 3) := by decide +kernel
theorem d_Bijections_sameMarks_35 : decode b_Bijections_sameMarks 35 = .ok (.iconst 1, 1) := by decide +kernel
theorem d_Bijections_sameMarks_36 : decode b_Bijections_sameMarks 36 = .ok (.goto 4, 3) := by decide +kernel
theorem d_Bijections_sameMarks_39 : decode b_Bijections_sameMarks 39 = .ok (.iconst 0, 1) := by decide +kernel
theorem d_Bijections_sameMarks_40 : decode b_Bijections_sameMarks 40 = .ok (.iadd, 1) := by decide +kernel
theorem d_Bijections_sameMarks_41 : decode b_Bijections_sameMarks 41 = .ok (.istore_n 3, 1) := by decide +kernel
theorem d_Bijections_sameMarks_42 : decode b_Bijections_sameMarks 42 = .ok (.iload_n 3, 1) := by decide +kernel
theorem d_Bijections_sameMarks_43 : decode b_Bijections_sameMarks 43 = .ok (.aload_n 0, 1) := by decide +kernel
theorem d_Bijections_sameMarks_44 : decode b_Bijections_sameMarks 44 = .ok (.getfield 15, 3) := by decide +kernel
theorem d_Bijections_sameMarks_47 : decode b_Bijections_sameMarks 47 = .ok (.iload 4, 2) := by decide +kernel
theorem d_Bijections_sameMarks_49 : decode b_Bijections_sameMarks 49 = .ok (.iaload, 1) := by decide +kernel
theorem d_Bijections_sameMarks_50 : decode b_Bijections_sameMarks 50 = .ok (.aload_n 0, 1) := by decide +kernel
theorem d_Bijections_sameMarks_51 : decode b_Bijections_sameMarks 51 = .ok (.getfield 9, 3) := by decide +kernel
theorem d_Bijections_sameMarks_54 : decode b_Bijections_sameMarks 54 = .ok (.iload_n 2, 1) := by decide +kernel
theorem d_Bijections_sameMarks_55 : decode b_Bijections_sameMarks 55 = .ok (.iaload, 1) := by decide +kernel
theorem d_Bijections_sameMarks_56 : decode b_Bijections_sameMarks 56 = .ok (.if_icmp .ne 7, 3) := by decide +kernel
theorem d_Bijections_sameMarks_59 : decode b_Bijections_sameMarks 59 = .ok (.iconst 1, 1) := by decide +kernel
theorem d_Bijections_sameMarks_60 : decode b_Bijections_sameMarks 60 = .ok (.goto 4, 3) := by decide +kernel
theorem d_Bijections_sameMarks_63 : decode b_Bijections_sameMarks 63 = .ok (.iconst 0, 1) := by decide +kernel
theorem d_Bijections_sameMarks_64 : decode b_Bijections_sameMarks 64 = .ok (.isub, 1) := by decide +kernel
theorem d_Bijections_sameMarks_65 : decode b_Bijections_sameMarks 65 = .ok (.istore_n 3, 1) := by decide +kernel
theorem d_Bijections_sameMarks_66 : decode b_Bijections_sameMarks 66 = .ok (.iinc 4 1, 3) := by decide +kernel
theorem d_Bijections_sameMarks_69 : decode b_Bijections_sameMarks 69 = .ok (.goto (-57), 3) := by decide +kernel
theorem d_Bijections_sameMarks_72 : decode b_Bijections_sameMarks 72 = .ok (.iload_n 3, 1) := by decide +kernel
theorem d_Bijections_sameMarks_73 : decode b_Bijections_sameMarks 73 = .ok (.ifCond .eq 5, 3) := by decide +kernel
theorem d_Bijections_sameMarks_76 : decode b_Bijections_sameMarks 76 = .ok (.iconst 0, 1) := by decide +kernel
theorem d_Bijections_sameMarks_77 : decode b_Bijections_sameMarks 77 = .ok (.ireturn, 1) := by decide +kernel
theorem d_Bijections_sameMarks_78 : decode b_Bijections_sameMarks 78 = .ok (.iinc 2 1, 3) := by decide +kernel
theorem d_Bijections_sameMarks_81 : decode b_Bijections_sameMarks 81 = .ok (.goto (-79), 3) := by decide +kernel
theorem d_Bijections_sameMarks_84 : decode b_Bijections_sameMarks 84 = .ok (.iconst 1, 1) := by decide +kernel
theorem d_Bijections_sameMarks_85 : decode b_Bijections_sameMarks 85 = .ok (.ireturn, 1) := by decide +kernel
theorem d_Bijections_exist_0 : decode b_Bijections_exist 0 = .ok (.aload_n 1, 1) := by decide +kernel
theorem d_Bijections_exist_1 : decode b_Bijections_exist 1 = .ok (.getfield 21, 3) := by decide +kernel
theorem d_Bijections_exist_4 : decode b_Bijections_exist 4 = .ok (.aload_n 2, 1) := by decide +kernel
theorem d_Bijections_exist_5 : decode b_Bijections_exist 5 = .ok (.getfield 21, 3) := by decide +kernel
theorem d_Bijections_exist_8 : decode b_Bijections_exist 8 = .ok (.if_icmp .eq 5, 3) := by decide +kernel
theorem d_Bijections_exist_11 : decode b_Bijections_exist 11 = .ok (.iconst 0, 1) := by decide +kernel
theorem d_Bijections_exist_12 : decode b_Bijections_exist 12 = .ok (.ireturn, 1) := by decide +kernel
theorem d_Bijections_exist_13 : decode b_Bijections_exist 13 = .ok (.aload_n 1, 1) := by decide +kernel
theorem d_Bijections_exist_14 : decode b_Bijections_exist 14 = .ok (.aload_n 0, 1) := by decide +kernel
theorem d_Bijections_exist_15 : decode b_Bijections_exist 15 = .ok (.getfield 9, 3) := by decide +kernel
theorem d_Bijections_exist_18 : decode b_Bijections_exist 18 = .ok (.invokestatic 27, 3) := by decide +kernel
theorem d_Bijections_exist_21 : decode b_Bijections_exist 21 = .ok (.aload_n 2, 1) := by decide +kernel
theorem d_Bijections_exist_22 : decode b_Bijections_exist 22 = .ok (.aload_n 0, 1) := by decide +kernel
theorem d_Bijections_exist_23 : decode b_Bijections_exist 23 = .ok (.getfield 15, 3) := by decide +kernel
theorem d_Bijections_exist_26 : decode b_Bijections_exist 26 = .ok (.invokestatic 27, 3) := by decide +kernel
theorem d_Bijections_exist_29 : decode b_Bijections_exist 29 = .ok (.aload_n 0, 1) := by decide +kernel
theorem d_Bijections_exist_30 : decode b_Bijections_exist 30 = .ok (.aload_n 1, 1) := by decide +kernel
theorem d_Bijections_exist_31 : decode b_Bijections_exist 31 = .ok (.getfield 21, 3) := by decide +kernel
theorem d_Bijections_exist_34 : decode b_Bijections_exist 34 = .ok (.invokevirtual 31, 3) := by decide +kernel
theorem d_Bijections_exist_37 : decode b_Bijections_exist 37 = .ok (.ifCond .eq 18, 3) := by decide +kernel
theorem d_Bijections_exist_40 : decode b_Bijections_exist 40 = .ok (.aload_n 0, 1) := by decide +kernel
theorem d_Bijections_exist_41 : decode b_Bijections_exist 41 = .ok (.aload_n 1, 1) := by decide +kernel
theorem d_Bijections_exist_42 : decode b_Bijections_exist 42 = .ok (.aload_n 2, 1) := by decide +kernel
theorem d_Bijections_exist_43 : decode b_Bijections_exist 43 = .ok (.iconst 0, 1) := by decide +kernel
theorem d_Bijections_exist_44 : decode b_Bijections_exist 44 = .ok (.iconst 0, 1) := by decide +kernel
theorem d_Bijections_exist_45 : decode b_Bijections_exist 45 = .ok (.invokestatic 35, 3) := by decide +kernel
theorem d_Bijections_exist_48 : decode b_Bijections_exist 48 = .ok (.ifCond .eq 7, 3) := by decide +kernel
theorem d_Bijections_exist_51 : decode b_Bijections_exist 51 = .ok (.iconst 1, 1) := by decide +kernel
theorem d_Bijections_exist_52 : decode b_Bijections_exist 52 = .ok (.goto 4, 3) := by decide +kernel
theorem d_Bijections_exist_55 : decode b_Bijections_exist 55 = .ok (.iconst 0, 1) := by decide +kernel
theorem d_Bijections_exist_56 : decode b_Bijections_exist 56 = .ok (.ireturn, 1) := by decide +kernel
theorem d_Elimination_begin_0 : decode b_Elimination_begin 0 = .ok (.aload_n 0, 1) := by decide +kernel
theorem d_Elimination_begin_1 : decode b_Elimination_begin 1 = .ok (.iconst (-1), 1) := by decide +kernel
theorem d_Elimination_begin_2 : decode b_Elimination_begin 2 = .ok (.putfield 24, 3) := by decide +kernel
theorem d_Elimination_begin_5 : decode b_Elimination_begin 5 = .ok (.aload_n 0, 1) := by decide +kernel
theorem d_Elimination_begin_6 : decode b_Elimination_begin 6 = .ok (.iconst 0, 1) := by decide +kernel
theorem d_Elimination_begin_7 : decode b_Elimination_begin 7 = .ok (.putfield 28, 3) := by decide +kernel
theorem d_Elimination_begin_10 : decode b_Elimination_begin 10 = .ok (.iconst 0, 1) := by decide +kernel
theorem d_Elimination_begin_11 : decode b_Elimination_begin 11 = .ok (.istore_n 2, 1) := by decide +kernel
theorem d_Elimination_begin_12 : decode b_Elimination_begin 12 = .ok (.iload_n 2, 1) := by decide +kernel
theorem d_Elimination_begin_13 : decode b_Elimination_begin 13 = .ok (.aload_n 1, 1) := by decide +kernel
theorem d_Elimination_begin_14 : decode b_Elimination_begin 14 = .ok (.getfield 31, 3) := by decide +kernel
theorem d_Elimination_begin_17 : decode b_Elimination_begin 17 = .ok (.if_icmp .ge 27, 3) := by decide +kernel
theorem d_Elimination_begin_20 : decode b_Elimination_begin 20 = .ok (.aload_n 0, 1) := by decide +kernel
theorem d_Elimination_begin_21 : decode b_Elimination_begin 21 = .ok (.getfield 18, 3) := by decide +kernel
theorem d_Elimination_begin_24 : decode b_Elimination_begin 24 = .ok (.iload_n 2, 1) := by decide +kernel
theorem d_Elimination_begin_25 : decode b_Elimination_begin 25 = .ok (.aload_n 1, 1) := by decide +kernel
theorem d_Elimination_begin_26 : decode b_Elimination_begin 26 = .ok (.getfield 36, 3) := by decide +kernel
theorem d_Elimination_begin_29 : decode b_Elimination_begin 29 = .ok (.iload_n 2, 1) := by decide +kernel
theorem d_Elimination_begin_30 : decode b_Elimination_begin 30 = .ok (.iaload, 1) := by decide +kernel
theorem d_Elimination_begin_31 : decode b_Elimination_begin 31 = .ok (.iconst 1, 1) := by decide +kernel
theorem d_Elimination_begin_32 : decode b_Elimination_begin 32 = .ok (.iload_n 2, 1) := by decide +kernel
theorem d_Elimination_begin_33 : decode b_Elimination_begin 33 = .ok (.ishl, 1) := by decide +kernel
theorem d_Elimination_begin_34 : decode b_Elimination_begin 34 = .ok (.iconst (-1), 1) := by decide +kernel
theorem d_Elimination_begin_35 : decode b_Elimination_begin 35 = .ok (.ixor, 1) := by decide +kernel
theorem d_Elimination_begin_36 : decode b_Elimination_begin 36 = .ok (.iand, 1) := by decide +kernel
theorem d_Elimination_begin_37 : decode b_Elimination_begin 37 = .ok (.iastore, 1) := by decide +kernel
theorem d_Elimination_begin_38 : decode b_Elimination_begin 38 = .ok (.iinc 2 1, 3) := by decide +kernel
theorem d_Elimination_begin_41 : decode b_Elimination_begin 41 = .ok (.goto (-29), 3) := by decide +kernel
theorem d_Elimination_begin_44 : decode b_Elimination_begin 44 = .ok (.return_, 1) := by decide +kernel
theorem d_Elimination_eliminate_0 : decode b_Elimination_eliminate 0 = .ok (.aload_n 0, 1) := by decide +kernel
theorem d_Elimination_eliminate_1 : decode b_Elimination_eliminate 1 = .ok (.getfield 18, 3) := by decide +kernel
theorem d_Elimination_eliminate_4 : decode b_Elimination_eliminate 4 = .ok (.iload_n 1, 1) := by decide +kernel
theorem d_Elimination_eliminate_5 : decode b_Elimination_eliminate 5 = .ok (.iaload, 1) := by decide +kernel
theorem d_Elimination_eliminate_6 : decode b_Elimination_eliminate 6 = .ok (.istore_n 3, 1) := by decide +kernel
theorem d_Elimination_eliminate_7 : decode b_Elimination_eliminate 7 = .ok (.aload_n 0, 1) := by decide +kernel
theorem d_Elimination_eliminate_8 : decode b_Elimination_eliminate 8 = .ok (.getfield 15, 3) := by decide +kernel
theorem d_Elimination_eliminate_11 : decode b_Elimination_eliminate 11 = .ok (.iload_n 1, 1) := by decide +kernel
theorem d_Elimination_eliminate_12 : decode b_Elimination_eliminate 12 = .ok (.iload_n 3, 1) := by decide +kernel
theorem d_Elimination_eliminate_13 : decode b_Elimination_eliminate 13 = .ok (.iconst 1, 1) := by decide +kernel
theorem d_Elimination_eliminate_14 : decode b_Elimination_eliminate 14 = .ok (.iload_n 1, 1) := by decide +kernel
theorem d_Elimination_eliminate_15 : decode b_Elimination_eliminate 15 = .ok (.ishl, 1) := by decide +kernel
theorem d_Elimination_eliminate_16 : decode b_Elimination_eliminate 16 = .ok (.ior, 1) := by decide +kernel
theorem d_Elimination_eliminate_17 : decode b_Elimination_eliminate 17 = .ok (.iastore, 1) := by decide +kernel
theorem d_Elimination_eliminate_18 : decode b_Elimination_eliminate 18 = .ok (.aload_n 0, 1) := by decide +kernel
theorem d_Elimination_eliminate_19 : decode b_Elimination_eliminate 19 = .ok (.aload_n 0, 1) := by decide +kernel
theorem d_Elimination_eliminate_20 : decode b_Elimination_eliminate 20 = .ok (.getfield 24, 3) := by decide +kernel
theorem d_Elimination_eliminate_23 : decode b_Elimination_eliminate 23 = .ok (.iload_n 3, 1) := by decide +kernel
theorem d_Elimination_eliminate_24 : decode b_Elimination_eliminate 24 = .ok (.invokestatic 39, 3) := by decide +kernel
theorem d_Elimination_eliminate_27 : decode b_Elimination_eliminate 27 = .ok (.invokestatic 45, 3) := by decide +kernel
theorem d_Elimination_eliminate_30 : decode b_Elimination_eliminate 30 = .ok (.putfield 24, 3) := by decide +kernel
theorem d_Elimination_eliminate_33 : decode b_Elimination_eliminate 33 = .ok (.iconst 0, 1) := by decide +kernel
theorem d_Elimination_eliminate_34 : decode b_Elimination_eliminate 34 = .ok (.istore 4, 2) := by decide +kernel
theorem d_Elimination_eliminate_36 : decode b_Elimination_eliminate 36 = .ok (.iconst 0, 1) := by decide +kernel
theorem d_Elimination_eliminate_37 : decode b_Elimination_eliminate 37 = .ok (.istore 5, 2) := by decide +kernel
theorem d_Elimination_eliminate_39 : decode b_Elimination_eliminate 39 = .ok (.iload 5, 2) := by decide +kernel
theorem d_Elimination_eliminate_41 : decode b_Elimination_eliminate 41 = .ok (.iload_n 2, 1) := by decide +kernel
theorem d_Elimination_eliminate_42 : decode b_Elimination_eliminate 42 = .ok (.if_icmp .ge 71, 3) := by decide +kernel
theorem d_Elimination_eliminate_45 : decode b_Elimination_eliminate 45 = .ok (.iload_n 3, 1) := by decide +kernel
theorem d_Elimination_eliminate_46 : decode b_Elimination_eliminate 46 = .ok (.iload 5, 2) := by decide +kernel
theorem d_Elimination_eliminate_48 : decode b_Elimination_eliminate 48 = .ok (.invokestatic 51, 3) := by decide +kernel
theorem d_Elimination_eliminate_51 : decode b_Elimination_eliminate 51 = .ok (.ifCond .eq 56, 3) := by decide +kernel
theorem d_Elimination_eliminate_54 : decode b_Elimination_eliminate 54 = .ok (.iload_n 3, 1) := by decide +kernel
theorem d_Elimination_eliminate_55 : decode b_Elimination_eliminate 55 = .ok (.iconst 1, 1) := by decide +kernel
theorem d_Elimination_eliminate_56 : decode b_Elimination_eliminate 56 = .ok (.iload 5, 2) := by decide +kernel
theorem d_Elimination_eliminate_58 : decode b_Elimination_eliminate 58 = .ok (.ishl, 1) := by decide +kernel
theorem d_Elimination_eliminate_59 : decode b_Elimination_eliminate 59 = .ok (.iconst (-1), 1) := by decide +kernel
theorem d_Elimination_eliminate_60 : decode b_Elimination_eliminate 60 = .ok (.ixor, 1) := by decide +kernel
theorem d_Elimination_eliminate_61 : decode b_Elimination_eliminate 61 = .ok (.iand, 1) := by decide +kernel
theorem d_Elimination_eliminate_62 : decode b_Elimination_eliminate 62 = .ok (.istore 6, 2) := by decide +kernel
theorem d_Elimination_eliminate_64 : decode b_Elimination_eliminate 64 = .ok (.iload 4, 2) := by decide +kernel
theorem d_Elimination_eliminate_66 : decode b_Elimination_eliminate 66 = .ok (.iload 6, 2) := by decide +kernel
theorem d_Elimination_eliminate_68 : decode b_Elimination_eliminate 68 = .ok (.aload_n 0, 1) := by decide +kernel
theorem d_Elimination_eliminate_69 : decode b_Elimination_eliminate 69 = .ok (.getfield 18, 3) := by decide +kernel
theorem d_Elimination_eliminate_72 : decode b_Elimination_eliminate 72 = .ok (.iload 5, 2) := by decide +kernel
theorem d_Elimination_eliminate_74 : decode b_Elimination_eliminate 74 = .ok (.iaload, 1) := by decide +kernel
theorem d_Elimination_eliminate_75 : decode b_Elimination_eliminate 75 = .ok (.iconst (-1), 1) := by decide +kernel
theorem d_Elimination_eliminate_76 : decode b_Elimination_eliminate 76 = .ok (.ixor, 1) := by decide +kernel
theorem d_Elimination_eliminate_77 : decode b_Elimination_eliminate 77 = .ok (.iand, 1) := by decide +kernel
theorem d_Elimination_eliminate_78 : decode b_Elimination_eliminate 78 = .ok (.invokestatic 39, 3) := by decide +kernel
theorem d_Elimination_eliminate_81 : decode b_Elimination_eliminate 81 = .ok (.iadd, 1) := by decide +kernel
theorem d_Elimination_eliminate_82 : decode b_Elimination_eliminate 82 = .ok (.istore 4, 2) := by decide +kernel
theorem d_Elimination_eliminate_84 : decode b_Elimination_eliminate 84 = .ok (.aload_n 0, 1) := by decide +kernel
theorem d_Elimination_eliminate_85 : decode b_Elimination_eliminate 85 = .ok (.getfield 18, 3) := by decide +kernel
theorem d_Elimination_eliminate_88 : decode b_Elimination_eliminate 88 = .ok (.iload 5, 2) := by decide +kernel
theorem d_Elimination_eliminate_90 : decode b_Elimination_eliminate 90 = .ok (.aload_n 0, 1) := by decide +kernel
theorem d_Elimination_eliminate_91 : decode b_Elimination_eliminate 91 = .ok (.getfield 18, 3) := by decide +kernel
theorem d_Elimination_eliminate_94 : decode b_Elimination_eliminate 94 = .ok (.iload 5, 2) := by decide +kernel
theorem d_Elimination_eliminate_96 : decode b_Elimination_eliminate 96 = .ok (.iaload, 1) := by decide +kernel
theorem d_Elimination_eliminate_97 : decode b_Elimination_eliminate 97 = .ok (.iload 6, 2) := by decide +kernel
theorem d_Elimination_eliminate_99 : decode b_Elimination_eliminate 99 = .ok (.ior, 1) := by decide +kernel
theorem d_Elimination_eliminate_100 : decode b_Elimination_eliminate 100 = .ok (.iconst 1, 1) := by decide +kernel
theorem d_Elimination_eliminate_101 : decode b_Elimination_eliminate 101 = .ok (.iload_n 1, 1) := by decide +kernel
theorem d_Elimination_eliminate_102 : decode b_Elimination_eliminate 102 = .ok (.ishl, 1) := by decide +kernel
theorem d_Elimination_eliminate_103 : decode b_Elimination_eliminate 103 = .ok (.iconst (-1), 1) := by decide +kernel
theorem d_Elimination_eliminate_104 : decode b_Elimination_eliminate 104 = .ok (.ixor, 1) := by decide +kernel
theorem d_Elimination_eliminate_105 : decode b_Elimination_eliminate 105 = .ok (.iand, 1) := by decide +kernel
theorem d_Elimination_eliminate_106 : decode b_Elimination_eliminate 106 = .ok (.iastore, 1) := by decide +kernel
theorem d_Elimination_eliminate_107 : decode b_Elimination_eliminate 107 = .ok (.iinc 5 1, 3) := by decide +kernel
theorem d_Elimination_eliminate_110 : decode b_Elimination_eliminate 110 = .ok (.goto (-71), 3) := by decide +kernel
theorem d_Elimination_eliminate_113 : decode b_Elimination_eliminate 113 = .ok (.aload_n 0, 1) := by decide +kernel
theorem d_Elimination_eliminate_114 : decode b_Elimination_eliminate 114 = .ok (.dup, 1) := by decide +kernel
theorem d_Elimination_eliminate_115 : decode b_Elimination_eliminate 115 = .ok (.getfield 28, 3) := by decide +kernel
theorem d_Elimination_eliminate_118 : decode b_Elimination_eliminate 118 = .ok (.iload 4, 2) := by decide +kernel
theorem d_Elimination_eliminate_120 : decode b_Elimination_eliminate 120 = .ok (.iconst 2, 1) := by decide +kernel
theorem d_Elimination_eliminate_121 : decode b_Elimination_eliminate 121 = .ok (.idiv, 1) := by decide +kernel
theorem d_Elimination_eliminate_122 : decode b_Elimination_eliminate 122 = .ok (.iadd, 1) := by decide +kernel
theorem d_Elimination_eliminate_123 : decode b_Elimination_eliminate 123 = .ok (.putfield 28, 3) := by decide +kernel
theorem d_Elimination_eliminate_126 : decode b_Elimination_eliminate 126 = .ok (.return_, 1) := by decide +kernel
theorem d_Elimination_fewestNeighbors_0 : decode b_Elimination_fewestNeighbors 0 = .ok (.iconst 0, 1) := by decide +kernel
theorem d_Elimination_fewestNeighbors_1 : decode b_Elimination_fewestNeighbors 1 = .ok (.istore_n 3, 1) := by decide +kernel
theorem d_Elimination_fewestNeighbors_2 : decode b_Elimination_fewestNeighbors 2 = .ok (.bipush 8, 2) := by decide +kernel
theorem d_Elimination_fewestNeighbors_4 : decode b_Elimination_fewestNeighbors 4 = .ok (.istore 4, 2) := by decide +kernel
theorem d_Elimination_fewestNeighbors_6 : decode b_Elimination_fewestNeighbors 6 = .ok (.iconst 0, 1) := by decide +kernel
theorem d_Elimination_fewestNeighbors_7 : decode b_Elimination_fewestNeighbors 7 = .ok (.istore 5, 2) := by decide +kernel
theorem d_Elimination_fewestNeighbors_9 : decode b_Elimination_fewestNeighbors 9 = .ok (.iload 5, 2) := by decide +kernel
theorem d_Elimination_fewestNeighbors_11 : decode b_Elimination_fewestNeighbors 11 = .ok (.iload_n 2, 1) := by decide +kernel
theorem d_Elimination_fewestNeighbors_12 : decode b_Elimination_fewestNeighbors 12 = .ok (.if_icmp .ge 44, 3) := by decide +kernel
theorem d_Elimination_fewestNeighbors_15 : decode b_Elimination_fewestNeighbors 15 = .ok (.aload_n 0, 1) := by decide +kernel
theorem d_Elimination_fewestNeighbors_16 : decode b_Elimination_fewestNeighbors 16 = .ok (.getfield 18, 3) := by decide +kernel
theorem d_Elimination_fewestNeighbors_19 : decode b_Elimination_fewestNeighbors 19 = .ok (.iload 5, 2) := by decide +kernel
theorem d_Elimination_fewestNeighbors_21 : decode b_Elimination_fewestNeighbors 21 = .ok (.iaload, 1) := by decide +kernel
theorem d_Elimination_fewestNeighbors_22 : decode b_Elimination_fewestNeighbors 22 = .ok (.invokestatic 39, 3) := by decide +kernel
theorem d_Elimination_fewestNeighbors_25 : decode b_Elimination_fewestNeighbors 25 = .ok (.istore 6, 2) := by decide +kernel
theorem d_Elimination_fewestNeighbors_27 : decode b_Elimination_fewestNeighbors 27 = .ok (.iload_n 1, 1) := by decide +kernel
theorem d_Elimination_fewestNeighbors_28 : decode b_Elimination_fewestNeighbors 28 = .ok (.iload 5, 2) := by decide +kernel
theorem d_Elimination_fewestNeighbors_30 : decode b_Elimination_fewestNeighbors 30 = .ok (.invokestatic 51, 3) := by decide +kernel
theorem d_Elimination_fewestNeighbors_33 : decode b_Elimination_fewestNeighbors 33 = .ok (.ifCond .eq 17, 3) := by decide +kernel
theorem d_Elimination_fewestNeighbors_36 : decode b_Elimination_fewestNeighbors 36 = .ok (.iload 6, 2) := by decide +kernel
theorem d_Elimination_fewestNeighbors_38 : decode b_Elimination_fewestNeighbors 38 = .ok (.iload 4, 2) := by decide +kernel
theorem d_Elimination_fewestNeighbors_40 : decode b_Elimination_fewestNeighbors 40 = .ok (.if_icmp .ge 10, 3) := by decide +kernel
theorem d_Elimination_fewestNeighbors_43 : decode b_Elimination_fewestNeighbors 43 = .ok (.iload 5, 2) := by decide +kernel
theorem d_Elimination_fewestNeighbors_45 : decode b_Elimination_fewestNeighbors 45 = .ok (.istore_n 3, 1) := by decide +kernel
theorem d_Elimination_fewestNeighbors_46 : decode b_Elimination_fewestNeighbors 46 = .ok (.iload 6, 2) := by decide +kernel
theorem d_Elimination_fewestNeighbors_48 : decode b_Elimination_fewestNeighbors 48 = .ok (.istore 4, 2) := by decide +kernel
theorem d_Elimination_fewestNeighbors_50 : decode b_Elimination_fewestNeighbors 50 = .ok (.iinc 5 1, 3) := by decide +kernel
theorem d_Elimination_fewestNeighbors_53 : decode b_Elimination_fewestNeighbors 53 = .ok (.goto (-44), 3) := by decide +kernel
theorem d_Elimination_fewestNeighbors_56 : decode b_Elimination_fewestNeighbors 56 = .ok (.iload_n 3, 1) := by decide +kernel
theorem d_Elimination_fewestNeighbors_57 : decode b_Elimination_fewestNeighbors 57 = .ok (.ireturn, 1) := by decide +kernel
theorem d_Elimination_runGreedily_0 : decode b_Elimination_runGreedily 0 = .ok (.aload_n 0, 1) := by decide +kernel
theorem d_Elimination_runGreedily_1 : decode b_Elimination_runGreedily 1 = .ok (.aload_n 1, 1) := by decide +kernel
theorem d_Elimination_runGreedily_2 : decode b_Elimination_runGreedily 2 = .ok (.invokevirtual 55, 3) := by decide +kernel
theorem d_Elimination_runGreedily_5 : decode b_Elimination_runGreedily 5 = .ok (.aload_n 1, 1) := by decide +kernel
theorem d_Elimination_runGreedily_6 : decode b_Elimination_runGreedily 6 = .ok (.invokevirtual 59, 3) := by decide +kernel
theorem d_Elimination_runGreedily_9 : decode b_Elimination_runGreedily 9 = .ok (.istore_n 2, 1) := by decide +kernel
theorem d_Elimination_runGreedily_10 : decode b_Elimination_runGreedily 10 = .ok (.iconst 0, 1) := by decide +kernel
theorem d_Elimination_runGreedily_11 : decode b_Elimination_runGreedily 11 = .ok (.istore_n 3, 1) := by decide +kernel
theorem d_Elimination_runGreedily_12 : decode b_Elimination_runGreedily 12 = .ok (.iload_n 3, 1) := by decide +kernel
theorem d_Elimination_runGreedily_13 : decode b_Elimination_runGreedily 13 = .ok (.aload_n 1, 1) := by decide +kernel
theorem d_Elimination_runGreedily_14 : decode b_Elimination_runGreedily 14 = .ok (.getfield 31, 3) := by decide +kernel
theorem d_Elimination_runGreedily_17 : decode b_Elimination_runGreedily 17 = .ok (.if_icmp .ge 47, 3) := by decide +kernel
theorem d_Elimination_runGreedily_20 : decode b_Elimination_runGreedily 20 = .ok (.aload_n 0, 1) := by decide +kernel
theorem d_Elimination_runGreedily_21 : decode b_Elimination_runGreedily 21 = .ok (.iload_n 2, 1) := by decide +kernel
theorem d_Elimination_runGreedily_22 : decode b_Elimination_runGreedily 22 = .ok (.aload_n 1, 1) := by decide +kernel
theorem d_Elimination_runGreedily_23 : decode b_Elimination_runGreedily 23 = .ok (.getfield 31, 3) := by decide +kernel
theorem d_Elimination_runGreedily_26 : decode b_Elimination_runGreedily 26 = .ok (.invokevirtual 63, 3) := by decide +kernel
theorem d_Elimination_runGreedily_29 : decode b_Elimination_runGreedily 29 = .ok (.istore 4, 2) := by decide +kernel
theorem d_Elimination_runGreedily_31 : decode b_Elimination_runGreedily 31 = .ok (.aload_n 0, 1) := by decide +kernel
theorem d_Elimination_runGreedily_32 : decode b_Elimination_runGreedily 32 = .ok (.getfield 9, 3) := by decide +kernel
theorem d_Elimination_runGreedily_35 : decode b_Elimination_runGreedily 35 = .ok (.iload_n 3, 1) := by decide +kernel
theorem d_Elimination_runGreedily_36 : decode b_Elimination_runGreedily 36 = .ok (.iload 4, 2) := by decide +kernel
theorem d_Elimination_runGreedily_38 : decode b_Elimination_runGreedily 38 = .ok (.iastore, 1) := by decide +kernel
theorem d_Elimination_runGreedily_39 : decode b_Elimination_runGreedily 39 = .ok (.iload_n 2, 1) := by decide +kernel
theorem d_Elimination_runGreedily_40 : decode b_Elimination_runGreedily 40 = .ok (.iconst 1, 1) := by decide +kernel
theorem d_Elimination_runGreedily_41 : decode b_Elimination_runGreedily 41 = .ok (.iload 4, 2) := by decide +kernel
theorem d_Elimination_runGreedily_43 : decode b_Elimination_runGreedily 43 = .ok (.ishl, 1) := by decide +kernel
theorem d_Elimination_runGreedily_44 : decode b_Elimination_runGreedily 44 = .ok (.iconst (-1), 1) := by decide +kernel
theorem d_Elimination_runGreedily_45 : decode b_Elimination_runGreedily 45 = .ok (.ixor, 1) := by decide +kernel
theorem d_Elimination_runGreedily_46 : decode b_Elimination_runGreedily 46 = .ok (.iand, 1) := by decide +kernel
theorem d_Elimination_runGreedily_47 : decode b_Elimination_runGreedily 47 = .ok (.istore_n 2, 1) := by decide +kernel
theorem d_Elimination_runGreedily_48 : decode b_Elimination_runGreedily 48 = .ok (.aload_n 0, 1) := by decide +kernel
theorem d_Elimination_runGreedily_49 : decode b_Elimination_runGreedily 49 = .ok (.iload 4, 2) := by decide +kernel
theorem d_Elimination_runGreedily_51 : decode b_Elimination_runGreedily 51 = .ok (.aload_n 1, 1) := by decide +kernel
theorem d_Elimination_runGreedily_52 : decode b_Elimination_runGreedily 52 = .ok (.getfield 31, 3) := by decide +kernel
theorem d_Elimination_runGreedily_55 : decode b_Elimination_runGreedily 55 = .ok (.invokevirtual 66, 3) := by decide +kernel
theorem d_Elimination_runGreedily_58 : decode b_Elimination_runGreedily 58 = .ok (.iinc 3 1, 3) := by decide +kernel
theorem d_Elimination_runGreedily_61 : decode b_Elimination_runGreedily 61 = .ok (.goto (-49), 3) := by decide +kernel
theorem d_Elimination_runGreedily_64 : decode b_Elimination_runGreedily 64 = .ok (.return_, 1) := by decide +kernel
theorem d_Elimination_runInOrder_0 : decode b_Elimination_runInOrder 0 = .ok (.aload_n 0, 1) := by decide +kernel
theorem d_Elimination_runInOrder_1 : decode b_Elimination_runInOrder 1 = .ok (.aload_n 1, 1) := by decide +kernel
theorem d_Elimination_runInOrder_2 : decode b_Elimination_runInOrder 2 = .ok (.invokevirtual 55, 3) := by decide +kernel
theorem d_Elimination_runInOrder_5 : decode b_Elimination_runInOrder 5 = .ok (.iconst 0, 1) := by decide +kernel
theorem d_Elimination_runInOrder_6 : decode b_Elimination_runInOrder 6 = .ok (.istore_n 2, 1) := by decide +kernel
theorem d_Elimination_runInOrder_7 : decode b_Elimination_runInOrder 7 = .ok (.iload_n 2, 1) := by decide +kernel
theorem d_Elimination_runInOrder_8 : decode b_Elimination_runInOrder 8 = .ok (.aload_n 1, 1) := by decide +kernel
theorem d_Elimination_runInOrder_9 : decode b_Elimination_runInOrder 9 = .ok (.getfield 31, 3) := by decide +kernel
theorem d_Elimination_runInOrder_12 : decode b_Elimination_runInOrder 12 = .ok (.if_icmp .ge 23, 3) := by decide +kernel
theorem d_Elimination_runInOrder_15 : decode b_Elimination_runInOrder 15 = .ok (.aload_n 0, 1) := by decide +kernel
theorem d_Elimination_runInOrder_16 : decode b_Elimination_runInOrder 16 = .ok (.aload_n 0, 1) := by decide +kernel
theorem d_Elimination_runInOrder_17 : decode b_Elimination_runInOrder 17 = .ok (.getfield 9, 3) := by decide +kernel
theorem d_Elimination_runInOrder_20 : decode b_Elimination_runInOrder 20 = .ok (.iload_n 2, 1) := by decide +kernel
theorem d_Elimination_runInOrder_21 : decode b_Elimination_runInOrder 21 = .ok (.iaload, 1) := by decide +kernel
theorem d_Elimination_runInOrder_22 : decode b_Elimination_runInOrder 22 = .ok (.aload_n 1, 1) := by decide +kernel
theorem d_Elimination_runInOrder_23 : decode b_Elimination_runInOrder 23 = .ok (.getfield 31, 3) := by decide +kernel
theorem d_Elimination_runInOrder_26 : decode b_Elimination_runInOrder 26 = .ok (.invokevirtual 66, 3) := by decide +kernel
theorem d_Elimination_runInOrder_29 : decode b_Elimination_runInOrder 29 = .ok (.iinc 2 1, 3) := by decide +kernel
theorem d_Elimination_runInOrder_32 : decode b_Elimination_runInOrder 32 = .ok (.goto (-25), 3) := by decide +kernel
theorem d_Elimination_runInOrder_35 : decode b_Elimination_runInOrder 35 = .ok (.return_, 1) := by decide +kernel
theorem d_Elimination_readOrder_0 : decode b_Elimination_readOrder 0 = .ok (.iload_n 1, 1) := by decide +kernel
theorem d_Elimination_readOrder_1 : decode b_Elimination_readOrder 1 = .ok (.istore_n 3, 1) := by decide +kernel
theorem d_Elimination_readOrder_2 : decode b_Elimination_readOrder 2 = .ok (.iconst 0, 1) := by decide +kernel
theorem d_Elimination_readOrder_3 : decode b_Elimination_readOrder 3 = .ok (.istore 4, 2) := by decide +kernel
theorem d_Elimination_readOrder_5 : decode b_Elimination_readOrder 5 = .ok (.iload_n 2, 1) := by decide +kernel
theorem d_Elimination_readOrder_6 : decode b_Elimination_readOrder 6 = .ok (.iconst 1, 1) := by decide +kernel
theorem d_Elimination_readOrder_7 : decode b_Elimination_readOrder 7 = .ok (.isub, 1) := by decide +kernel
theorem d_Elimination_readOrder_8 : decode b_Elimination_readOrder 8 = .ok (.istore 5, 2) := by decide +kernel
theorem d_Elimination_readOrder_10 : decode b_Elimination_readOrder 10 = .ok (.iload 5, 2) := by decide +kernel
theorem d_Elimination_readOrder_12 : decode b_Elimination_readOrder 12 = .ok (.ifCond .lt 63, 3) := by decide +kernel
theorem d_Elimination_readOrder_15 : decode b_Elimination_readOrder 15 = .ok (.iload_n 3, 1) := by decide +kernel
theorem d_Elimination_readOrder_16 : decode b_Elimination_readOrder 16 = .ok (.bipush 10, 2) := by decide +kernel
theorem d_Elimination_readOrder_18 : decode b_Elimination_readOrder 18 = .ok (.irem, 1) := by decide +kernel
theorem d_Elimination_readOrder_19 : decode b_Elimination_readOrder 19 = .ok (.iconst 1, 1) := by decide +kernel
theorem d_Elimination_readOrder_20 : decode b_Elimination_readOrder 20 = .ok (.isub, 1) := by decide +kernel
theorem d_Elimination_readOrder_21 : decode b_Elimination_readOrder 21 = .ok (.istore 6, 2) := by decide +kernel
theorem d_Elimination_readOrder_23 : decode b_Elimination_readOrder 23 = .ok (.iload 6, 2) := by decide +kernel
theorem d_Elimination_readOrder_25 : decode b_Elimination_readOrder 25 = .ok (.ifCond .lt 19, 3) := by decide +kernel
theorem d_Elimination_readOrder_28 : decode b_Elimination_readOrder 28 = .ok (.iload 6, 2) := by decide +kernel
theorem d_Elimination_readOrder_30 : decode b_Elimination_readOrder 30 = .ok (.iload_n 2, 1) := by decide +kernel
theorem d_Elimination_readOrder_31 : decode b_Elimination_readOrder 31 = .ok (.if_icmp .ge 13, 3) := by decide +kernel
theorem d_Elimination_readOrder_34 : decode b_Elimination_readOrder 34 = .ok (.iload 4, 2) := by decide +kernel
theorem d_Elimination_readOrder_36 : decode b_Elimination_readOrder 36 = .ok (.iload 6, 2) := by decide +kernel
theorem d_Elimination_readOrder_38 : decode b_Elimination_readOrder 38 = .ok (.invokestatic 51, 3) := by decide +kernel
theorem d_Elimination_readOrder_41 : decode b_Elimination_readOrder 41 = .ok (.ifCond .eq 5, 3) := by decide +kernel
theorem d_Elimination_readOrder_44 : decode b_Elimination_readOrder 44 = .ok (.iconst 0, 1) := by decide +kernel
theorem d_Elimination_readOrder_45 : decode b_Elimination_readOrder 45 = .ok (.ireturn, 1) := by decide +kernel
theorem d_Elimination_readOrder_46 : decode b_Elimination_readOrder 46 = .ok (.aload_n 0, 1) := by decide +kernel
theorem d_Elimination_readOrder_47 : decode b_Elimination_readOrder 47 = .ok (.getfield 9, 3) := by decide +kernel
theorem d_Elimination_readOrder_50 : decode b_Elimination_readOrder 50 = .ok (.iload 5, 2) := by decide +kernel
theorem d_Elimination_readOrder_52 : decode b_Elimination_readOrder 52 = .ok (.iload 6, 2) := by decide +kernel
theorem d_Elimination_readOrder_54 : decode b_Elimination_readOrder 54 = .ok (.iastore, 1) := by decide +kernel
theorem d_Elimination_readOrder_55 : decode b_Elimination_readOrder 55 = .ok (.iload 4, 2) := by decide +kernel
theorem d_Elimination_readOrder_57 : decode b_Elimination_readOrder 57 = .ok (.iconst 1, 1) := by decide +kernel
theorem d_Elimination_readOrder_58 : decode b_Elimination_readOrder 58 = .ok (.iload 6, 2) := by decide +kernel
theorem d_Elimination_readOrder_60 : decode b_Elimination_readOrder 60 = .ok (.ishl, 1) := by decide +kernel
theorem d_Elimination_readOrder_61 : decode b_Elimination_readOrder 61 = .ok (.ior, 1) := by decide +kernel
theorem d_Elimination_readOrder_62 : decode b_Elimination_readOrder 62 = .ok (.istore 4, 2) := by decide +kernel
theorem d_Elimination_readOrder_64 : decode b_Elimination_readOrder 64 = .ok (.iload_n 3, 1) := by decide +kernel
theorem d_Elimination_readOrder_65 : decode b_Elimination_readOrder 65 = .ok (.bipush 10, 2) := by decide +kernel
theorem d_Elimination_readOrder_67 : decode b_Elimination_readOrder 67 = .ok (.idiv, 1) := by decide +kernel
theorem d_Elimination_readOrder_68 : decode b_Elimination_readOrder 68 = .ok (.istore_n 3, 1) := by decide +kernel
theorem d_Elimination_readOrder_69 : decode b_Elimination_readOrder 69 = .ok (.iinc 5 (-1), 3) := by decide +kernel
theorem d_Elimination_readOrder_72 : decode b_Elimination_readOrder 72 = .ok (.goto (-62), 3) := by decide +kernel
theorem d_Elimination_readOrder_75 : decode b_Elimination_readOrder 75 = .ok (.iload_n 3, 1) := by decide +kernel
theorem d_Elimination_readOrder_76 : decode b_Elimination_readOrder 76 = .ok (.ifCond .ne 7, 3) := by decide +kernel
theorem d_Elimination_readOrder_79 : decode b_Elimination_readOrder 79 = .ok (.iconst 1, 1) := by decide +kernel
theorem d_Elimination_readOrder_80 : decode b_Elimination_readOrder 80 = .ok (.goto 4, 3) := by decide +kernel
theorem d_Elimination_readOrder_83 : decode b_Elimination_readOrder 83 = .ok (.iconst 0, 1) := by decide +kernel
theorem d_Elimination_readOrder_84 : decode b_Elimination_readOrder 84 = .ok (.ireturn, 1) := by decide +kernel
def f_Elimination_laterNeighbors (a0 : Nat) (v1 : Int32) (v2 : Int32) (μ : HMem) : Option (Int32 × HMem) :=
  h_bd (f_Graph_reached a0 v1 v2 μ) (fun r3 μ_3 =>
  h_bd (f_Graph_nearOf a0 r3 μ_3) (fun r9 μ_9 =>
  h_bd (f_Integer_bitCount ((r9 &&& (v2 ^^^ (-1))) &&& ((h_ishl 1 v1) ^^^ (-1))) μ_9) (fun r22 μ_22 =>
  some (r22, μ_22))))
def f_Elimination_smallestWidth_J82  (rec_ : Nat → Int32 → Int32 → Int32 → HMem → Option (Int32 × HMem)) (a1 : Nat) (v2 : Int32) (v3 : Int32) (v4 : Int32) (μ : HMem) : Option (Int32 × HMem) :=
h_let (v4 + 1) (fun v4_82 =>
rec_ a1 v2 v3 v4_82 μ)
def f_Elimination_smallestWidth_L23_b (K88 : Nat → Int32 → Int32 → HMem → Option (Int32 × HMem)) (rec_ : Nat → Int32 → Int32 → Int32 → HMem → Option (Int32 × HMem)) (a1 : Nat) (v2 : Int32) (v3 : Int32) (v4 : Int32) (μ : HMem) : Option (Int32 × HMem) :=
if (μ.1 a1 0) ≤ v4 then
  K88 a1 v2 v3 μ
else
  h_let (v2 &&& ((h_ishl 1 v4) ^^^ (-1))) (fun v5_40 =>
  if v5_40 = v2 then
    f_Elimination_smallestWidth_J82 rec_ a1 v2 v3 v4 μ
  else
    h_chk v5_40 (h_len 96) (
    if v3 ≤ (μ.1 96 (Int32.toNatClampNeg (v5_40))) then
      f_Elimination_smallestWidth_J82 rec_ a1 v2 v3 v4 μ
    else
      h_chk v5_40 (h_len 96) (
      h_bd (f_Elimination_laterNeighbors a1 v4 v5_40 μ) (fun r72 μ_72 =>
      h_let (h_mmin v3 (h_mmax (μ.1 96 (Int32.toNatClampNeg (v5_40))) r72)) (fun v3_81 =>
      f_Elimination_smallestWidth_J82 rec_ a1 v2 v3_81 v4 μ_72)))))
def f_Elimination_smallestWidth_L23 (K88 : Nat → Int32 → Int32 → HMem → Option (Int32 × HMem)) : Nat → Nat → Int32 → Int32 → Int32 → HMem → Option (Int32 × HMem)
  | 0, _, _, _, _, _ => none
  | fuel + 1, a1, v2, v3, v4, μ => f_Elimination_smallestWidth_L23_b K88 (f_Elimination_smallestWidth_L23 K88 fuel) a1 v2 v3 v4 μ
def f_Elimination_smallestWidth_J88  (rec_ : Nat → Int32 → HMem → Option (Int32 × HMem)) (a1 : Nat) (v2 : Int32) (v3 : Int32) (μ : HMem) : Option (Int32 × HMem) :=
h_chk v2 (h_len 96) (h_let (h_wi μ 96 (Int32.toNatClampNeg (v2)) v3) (fun μ_94 =>
h_let (v2 + 1) (fun v2_95 =>
rec_ a1 v2_95 μ_94)))
def f_Elimination_smallestWidth_L9_b (K101 : Nat → HMem → Option (Int32 × HMem)) (rec_ : Nat → Int32 → HMem → Option (Int32 × HMem)) (a1 : Nat) (v2 : Int32) (μ : HMem) : Option (Int32 × HMem) :=
h_bd (f_Graph_all a1 μ) (fun r11 μ_11 =>
if r11 < v2 then
  K101 a1 μ_11
else
  f_Elimination_smallestWidth_L23 (f_Elimination_smallestWidth_J88 rec_) h_fuel a1 v2 8 0 μ_11)
def f_Elimination_smallestWidth_L9 (K101 : Nat → HMem → Option (Int32 × HMem)) : Nat → Nat → Int32 → HMem → Option (Int32 × HMem)
  | 0, _, _, _ => none
  | fuel + 1, a1, v2, μ => f_Elimination_smallestWidth_L9_b K101 (f_Elimination_smallestWidth_L9 K101 fuel) a1 v2 μ
def f_Elimination_smallestWidth_J101   (a1 : Nat) (μ : HMem) : Option (Int32 × HMem) :=
h_bd (f_Graph_all a1 μ) (fun r106 μ_106 =>
h_chk r106 (h_len 96) (
some ((μ_106.1 96 (Int32.toNatClampNeg (r106))), μ_106)))
def f_Elimination_smallestWidth (a1 : Nat) (μ : HMem) : Option (Int32 × HMem) :=
  h_chk 0 (h_len 96) (h_let (h_wi μ 96 (Int32.toNatClampNeg (0)) (-1)) (fun μ_6 =>
  f_Elimination_smallestWidth_L9 f_Elimination_smallestWidth_J101 h_fuel a1 1 μ_6))
def f_Bijections_edgesOfWeight_J34  (rec_ : Nat → Int32 → Int32 → Int32 → Int32 → HMem → Option (Int32 × HMem)) (a0 : Nat) (v1 : Int32) (v2 : Int32) (v3 : Int32) (v4 : Int32) (μ : HMem) : Option (Int32 × HMem) :=
h_let (v4 + 1) (fun v4_34 =>
rec_ a0 v1 v2 v3 v4_34 μ)
def f_Bijections_edgesOfWeight_L5_b  (rec_ : Nat → Int32 → Int32 → Int32 → Int32 → HMem → Option (Int32 × HMem)) (a0 : Nat) (v1 : Int32) (v2 : Int32) (v3 : Int32) (v4 : Int32) (μ : HMem) : Option (Int32 × HMem) :=
if (μ.1 a0 0) ≤ v4 then
  some (v3, μ)
else
  if v4 = v1 then
    f_Bijections_edgesOfWeight_J34 rec_ a0 v1 v2 v3 v4 μ
  else
    h_bd (f_Graph_between a0 v1 v4 μ) (fun r24 μ_24 =>
    if ¬ r24 = v2 then
      f_Bijections_edgesOfWeight_J34 rec_ a0 v1 v2 v3 v4 μ_24
    else
      h_let (v3 + 1) (fun v3_31 =>
      f_Bijections_edgesOfWeight_J34 rec_ a0 v1 v2 v3_31 v4 μ_24))
def f_Bijections_edgesOfWeight_L5  : Nat → Nat → Int32 → Int32 → Int32 → Int32 → HMem → Option (Int32 × HMem)
  | 0, _, _, _, _, _, _ => none
  | fuel + 1, a0, v1, v2, v3, v4, μ => f_Bijections_edgesOfWeight_L5_b  (f_Bijections_edgesOfWeight_L5  fuel) a0 v1 v2 v3 v4 μ
def f_Bijections_edgesOfWeight (a0 : Nat) (v1 : Int32) (v2 : Int32) (μ : HMem) : Option (Int32 × HMem) :=
  f_Bijections_edgesOfWeight_L5 h_fuel a0 v1 v2 0 0 μ
def f_Bijections_mark_L35_b (K60 : Nat → Nat → Int32 → Int32 → HMem → Option (Unit × HMem)) (rec_ : Nat → Nat → Int32 → Int32 → Int32 → HMem → Option (Unit × HMem)) (a0 : Nat) (a1 : Nat) (v2 : Int32) (v3 : Int32) (v4 : Int32) (μ : HMem) : Option (Unit × HMem) :=
if (2 : Int32) < v4 then
  K60 a0 a1 v2 v3 μ
else
  h_bd (f_Bijections_edgesOfWeight a0 v2 v4 μ) (fun r49 μ_49 =>
  h_let ((8 * v3) + r49) (fun v3_53 =>
  h_let (v4 + 1) (fun v4_54 =>
  rec_ a0 a1 v2 v3_53 v4_54 μ_49)))
def f_Bijections_mark_L35 (K60 : Nat → Nat → Int32 → Int32 → HMem → Option (Unit × HMem)) : Nat → Nat → Nat → Int32 → Int32 → Int32 → HMem → Option (Unit × HMem)
  | 0, _, _, _, _, _, _ => none
  | fuel + 1, a0, a1, v2, v3, v4, μ => f_Bijections_mark_L35_b K60 (f_Bijections_mark_L35 K60 fuel) a0 a1 v2 v3 v4 μ
def f_Bijections_mark_J60  (rec_ : Nat → Nat → Int32 → HMem → Option (Unit × HMem)) (a0 : Nat) (a1 : Nat) (v2 : Int32) (v3 : Int32) (μ : HMem) : Option (Unit × HMem) :=
h_chk v2 (h_len a1) (h_let (h_wi μ a1 (Int32.toNatClampNeg (v2)) v3) (fun μ_63 =>
h_let (v2 + 1) (fun v2_64 =>
rec_ a0 a1 v2_64 μ_63)))
def f_Bijections_mark_L2_b  (rec_ : Nat → Nat → Int32 → HMem → Option (Unit × HMem)) (a0 : Nat) (a1 : Nat) (v2 : Int32) (μ : HMem) : Option (Unit × HMem) :=
if (μ.1 a0 0) ≤ v2 then
  some ((), μ)
else
  h_chk v2 (h_len (a0 + 1)) (
  h_bd (f_Graph_between a0 v2 v2 μ) (fun r24 μ_24 =>
  h_let (((8 * ((μ.1 (a0 + 1) (Int32.toNatClampNeg (v2))) + 3)) + r24) + 2) (fun v3_30 =>
  f_Bijections_mark_L35 (f_Bijections_mark_J60 rec_) h_fuel a0 a1 v2 v3_30 (-2) μ_24)))
def f_Bijections_mark_L2  : Nat → Nat → Nat → Int32 → HMem → Option (Unit × HMem)
  | 0, _, _, _, _ => none
  | fuel + 1, a0, a1, v2, μ => f_Bijections_mark_L2_b  (f_Bijections_mark_L2  fuel) a0 a1 v2 μ
def f_Bijections_mark (a0 : Nat) (a1 : Nat) (μ : HMem) : Option (Unit × HMem) :=
  f_Bijections_mark_L2 h_fuel a0 a1 0 μ
def f_Bijections_fits_L21_b  (rec_ : Nat → Nat → Int32 → Int32 → Int32 → HMem → Option (Int32 × HMem)) (a1 : Nat) (a2 : Nat) (v3 : Int32) (v4 : Int32) (v5 : Int32) (μ : HMem) : Option (Int32 × HMem) :=
if v3 ≤ v5 then
  if (1 : Int32) &&& 1 = 1 then some (1, μ) else none
else
  h_bd (f_Graph_between a1 v5 v3 μ) (fun r31 μ_31 =>
  h_chk v5 (h_len 120) (
  h_bd (f_Graph_between a2 (μ_31.1 120 (Int32.toNatClampNeg (v5))) v4 μ_31) (fun r44 μ_44 =>
  if r31 = r44 then
    h_let (v5 + 1) (fun v5_52 =>
    rec_ a1 a2 v3 v4 v5_52 μ_44)
  else
    if (0 : Int32) &&& 1 = 0 then some (0, μ_44) else none)))
def f_Bijections_fits_L21  : Nat → Nat → Nat → Int32 → Int32 → Int32 → HMem → Option (Int32 × HMem)
  | 0, _, _, _, _, _, _ => none
  | fuel + 1, a1, a2, v3, v4, v5, μ => f_Bijections_fits_L21_b  (f_Bijections_fits_L21  fuel) a1 a2 v3 v4 v5 μ
def f_Bijections_fits (a1 : Nat) (a2 : Nat) (v3 : Int32) (v4 : Int32) (μ : HMem) : Option (Int32 × HMem) :=
  h_chk v3 (h_len 118) (
  h_chk v4 (h_len 119) (
  if (μ.1 118 (Int32.toNatClampNeg (v3))) = (μ.1 119 (Int32.toNatClampNeg (v4))) then
    f_Bijections_fits_L21 h_fuel a1 a2 v3 v4 0 μ
  else
    if (0 : Int32) &&& 1 = 0 then some (0, μ) else none))
def f_Bijections_extendable_J73 (fr_ : Nat → Nat → Int32 → Int32 → HMem → Option (Int32 × HMem))  (rec_ : Nat → Nat → Int32 → Int32 → Int32 → HMem → Option (Int32 × HMem)) (a1 : Nat) (a2 : Nat) (v3 : Int32) (v4 : Int32) (v5 : Int32) (μ : HMem) : Option (Int32 × HMem) :=
h_let (v5 + 1) (fun v5_73 =>
rec_ a1 a2 v3 v4 v5_73 μ)
def f_Bijections_extendable_L13_b (fr_ : Nat → Nat → Int32 → Int32 → HMem → Option (Int32 × HMem))  (rec_ : Nat → Nat → Int32 → Int32 → Int32 → HMem → Option (Int32 × HMem)) (a1 : Nat) (a2 : Nat) (v3 : Int32) (v4 : Int32) (v5 : Int32) (μ : HMem) : Option (Int32 × HMem) :=
if (μ.1 a2 0) ≤ v5 then
  if (0 : Int32) &&& 1 = 0 then some (0, μ) else none
else
  h_bd (f_Bench_has v4 v5 μ) (fun r26 μ_26 =>
  if ¬ r26 = 0 then
    f_Bijections_extendable_J73 fr_ rec_ a1 a2 v3 v4 v5 μ_26
  else
    h_bd (f_Bijections_fits a1 a2 v3 v5 μ_26) (fun r38 μ_38 =>
    if r38 = 0 then
      f_Bijections_extendable_J73 fr_ rec_ a1 a2 v3 v4 v5 μ_38
    else
      h_chk v3 (h_len 120) (h_let (h_wi μ_38 120 (Int32.toNatClampNeg (v3)) v5) (fun μ_51 =>
      h_bd (fr_ a1 a2 (v3 + 1) (v4 ||| (h_ishl 1 v5)) μ_51) (fun r65 μ_65 =>
      if r65 = 0 then
        f_Bijections_extendable_J73 fr_ rec_ a1 a2 v3 v4 v5 μ_65
      else
        if (1 : Int32) &&& 1 = 1 then some (1, μ_65) else none)))))
def f_Bijections_extendable_L13 (fr_ : Nat → Nat → Int32 → Int32 → HMem → Option (Int32 × HMem))  : Nat → Nat → Nat → Int32 → Int32 → Int32 → HMem → Option (Int32 × HMem)
  | 0, _, _, _, _, _, _ => none
  | fuel + 1, a1, a2, v3, v4, v5, μ => f_Bijections_extendable_L13_b fr_  (f_Bijections_extendable_L13 fr_  fuel) a1 a2 v3 v4 v5 μ
def f_Bijections_extendable_0 (fr_ : Nat → Nat → Int32 → Int32 → HMem → Option (Int32 × HMem)) (a1 : Nat) (a2 : Nat) (v3 : Int32) (v4 : Int32) (μ : HMem) : Option (Int32 × HMem) :=
  if v3 < (μ.1 a1 0) then
    f_Bijections_extendable_L13 fr_ h_fuel a1 a2 v3 v4 0 μ
  else
    if (1 : Int32) &&& 1 = 1 then some (1, μ) else none
def f_Bijections_extendable : Nat → Nat → Nat → Int32 → Int32 → HMem → Option (Int32 × HMem)
  | 0, _, _, _, _, _ => none
  | rd + 1, a1, a2, v3, v4, μ => f_Bijections_extendable_0 (f_Bijections_extendable rd) a1 a2 v3 v4 μ
def f_Bijections_imagesWithLowerFixed_J63  (rec_ : Nat → Int32 → Int32 → Int32 → Int32 → HMem → Option (Int32 × HMem)) (a1 : Nat) (v2 : Int32) (v3 : Int32) (v4 : Int32) (v5 : Int32) (μ : HMem) : Option (Int32 × HMem) :=
h_let (v5 + 1) (fun v5_63 =>
rec_ a1 v2 v3 v4 v5_63 μ)
def f_Bijections_imagesWithLowerFixed_L12_b  (rec_ : Nat → Int32 → Int32 → Int32 → Int32 → HMem → Option (Int32 × HMem)) (a1 : Nat) (v2 : Int32) (v3 : Int32) (v4 : Int32) (v5 : Int32) (μ : HMem) : Option (Int32 × HMem) :=
if (μ.1 a1 0) ≤ v5 then
  some (v3, μ)
else
  h_bd (f_Bijections_fits a1 a1 v2 v5 μ) (fun r27 μ_27 =>
  if r27 = 0 then
    f_Bijections_imagesWithLowerFixed_J63 rec_ a1 v2 v3 v4 v5 μ_27
  else
    h_chk v2 (h_len 120) (h_let (h_wi μ_27 120 (Int32.toNatClampNeg (v2)) v5) (fun μ_40 =>
    h_bd (f_Bijections_extendable h_deep a1 a1 (v2 + 1) (v4 ||| (h_ishl 1 v5)) μ_40) (fun r54 μ_54 =>
    if r54 = 0 then
      f_Bijections_imagesWithLowerFixed_J63 rec_ a1 v2 v3 v4 v5 μ_54
    else
      h_let (v3 + 1) (fun v3_60 =>
      f_Bijections_imagesWithLowerFixed_J63 rec_ a1 v2 v3_60 v4 v5 μ_54)))))
def f_Bijections_imagesWithLowerFixed_L12  : Nat → Nat → Int32 → Int32 → Int32 → Int32 → HMem → Option (Int32 × HMem)
  | 0, _, _, _, _, _, _ => none
  | fuel + 1, a1, v2, v3, v4, v5, μ => f_Bijections_imagesWithLowerFixed_L12_b  (f_Bijections_imagesWithLowerFixed_L12  fuel) a1 v2 v3 v4 v5 μ
def f_Bijections_imagesWithLowerFixed (a1 : Nat) (v2 : Int32) (μ : HMem) : Option (Int32 × HMem) :=
  h_let ((h_ishl 1 v2) - 1) (fun v4_7 =>
  f_Bijections_imagesWithLowerFixed_L12 h_fuel a1 v2 0 v4_7 v2 μ)
def f_Bijections_countOnto_L20_b  (rec_ : Nat → Int32 → Int32 → HMem → Option (Int32 × HMem)) (a1 : Nat) (v2 : Int32) (v3 : Int32) (μ : HMem) : Option (Int32 × HMem) :=
if (μ.1 a1 0) ≤ v3 then
  some (v2, μ)
else
  h_bd (f_Bijections_imagesWithLowerFixed a1 v3 μ) (fun r32 μ_32 =>
  h_let (v2 * r32) (fun v2_36 =>
  h_chk v3 (h_len 120) (h_let (h_wi μ_32 120 (Int32.toNatClampNeg (v3)) v3) (fun μ_43 =>
  h_let (v3 + 1) (fun v3_44 =>
  rec_ a1 v2_36 v3_44 μ_43)))))
def f_Bijections_countOnto_L20  : Nat → Nat → Int32 → Int32 → HMem → Option (Int32 × HMem)
  | 0, _, _, _, _ => none
  | fuel + 1, a1, v2, v3, μ => f_Bijections_countOnto_L20_b  (f_Bijections_countOnto_L20  fuel) a1 v2 v3 μ
def f_Bijections_countOnto (a1 : Nat) (μ : HMem) : Option (Int32 × HMem) :=
  h_bd (f_Bijections_mark a1 118 μ) (fun _ μ_5 =>
  h_bd (f_Bijections_mark a1 119 μ_5) (fun _ μ_13 =>
  f_Bijections_countOnto_L20 h_fuel a1 1 0 μ_13))
def f_Bijections_sameMarks_J64  (rec_ : Int32 → Int32 → Int32 → Int32 → HMem → Option (Int32 × HMem)) (v1 : Int32) (v2 : Int32) (v4 : Int32) (s0 : Int32) (s1 : Int32) (μ : HMem) : Option (Int32 × HMem) :=
h_let (s1 - s0) (fun v3_65 =>
h_let (v4 + 1) (fun v4_66 =>
rec_ v1 v2 v3_65 v4_66 μ))
def f_Bijections_sameMarks_J40  (rec_ : Int32 → Int32 → Int32 → Int32 → HMem → Option (Int32 × HMem)) (v1 : Int32) (v2 : Int32) (v4 : Int32) (s0 : Int32) (s1 : Int32) (μ : HMem) : Option (Int32 × HMem) :=
h_let (s1 + s0) (fun v3_41 =>
h_chk v4 (h_len 119) (
h_chk v2 (h_len 118) (
if ¬ (μ.1 119 (Int32.toNatClampNeg (v4))) = (μ.1 118 (Int32.toNatClampNeg (v2))) then
  f_Bijections_sameMarks_J64 rec_ v1 v2 v4 0 v3_41 μ
else
  f_Bijections_sameMarks_J64 rec_ v1 v2 v4 1 v3_41 μ)))
def f_Bijections_sameMarks_L12_b (K72 : Int32 → Int32 → Int32 → HMem → Option (Int32 × HMem)) (rec_ : Int32 → Int32 → Int32 → Int32 → HMem → Option (Int32 × HMem)) (v1 : Int32) (v2 : Int32) (v3 : Int32) (v4 : Int32) (μ : HMem) : Option (Int32 × HMem) :=
if v1 ≤ v4 then
  K72 v1 v2 v3 μ
else
  h_chk v4 (h_len 118) (
  h_chk v2 (h_len 118) (
  if ¬ (μ.1 118 (Int32.toNatClampNeg (v4))) = (μ.1 118 (Int32.toNatClampNeg (v2))) then
    f_Bijections_sameMarks_J40 rec_ v1 v2 v4 0 v3 μ
  else
    f_Bijections_sameMarks_J40 rec_ v1 v2 v4 1 v3 μ))
def f_Bijections_sameMarks_L12 (K72 : Int32 → Int32 → Int32 → HMem → Option (Int32 × HMem)) : Nat → Int32 → Int32 → Int32 → Int32 → HMem → Option (Int32 × HMem)
  | 0, _, _, _, _, _ => none
  | fuel + 1, v1, v2, v3, v4, μ => f_Bijections_sameMarks_L12_b K72 (f_Bijections_sameMarks_L12 K72 fuel) v1 v2 v3 v4 μ
def f_Bijections_sameMarks_J72  (rec_ : Int32 → Int32 → HMem → Option (Int32 × HMem)) (v1 : Int32) (v2 : Int32) (v3 : Int32) (μ : HMem) : Option (Int32 × HMem) :=
if v3 = 0 then
  h_let (v2 + 1) (fun v2_78 =>
  rec_ v1 v2_78 μ)
else
  if (0 : Int32) &&& 1 = 0 then some (0, μ) else none
def f_Bijections_sameMarks_L2_b  (rec_ : Int32 → Int32 → HMem → Option (Int32 × HMem)) (v1 : Int32) (v2 : Int32) (μ : HMem) : Option (Int32 × HMem) :=
if v1 ≤ v2 then
  if (1 : Int32) &&& 1 = 1 then some (1, μ) else none
else
  f_Bijections_sameMarks_L12 (f_Bijections_sameMarks_J72 rec_) h_fuel v1 v2 0 0 μ
def f_Bijections_sameMarks_L2  : Nat → Int32 → Int32 → HMem → Option (Int32 × HMem)
  | 0, _, _, _ => none
  | fuel + 1, v1, v2, μ => f_Bijections_sameMarks_L2_b  (f_Bijections_sameMarks_L2  fuel) v1 v2 μ
def f_Bijections_sameMarks (v1 : Int32) (μ : HMem) : Option (Int32 × HMem) :=
  f_Bijections_sameMarks_L2 h_fuel v1 0 μ
def f_Bijections_exist_J56   (s0 : Int32) (μ : HMem) : Option (Int32 × HMem) :=
if s0 &&& 1 = s0 then some (s0, μ) else none
def f_Bijections_exist_J55    (μ : HMem) : Option (Int32 × HMem) :=
f_Bijections_exist_J56 0 μ
def f_Bijections_exist (a1 : Nat) (a2 : Nat) (μ : HMem) : Option (Int32 × HMem) :=
  if (μ.1 a1 0) = (μ.1 a2 0) then
    h_bd (f_Bijections_mark a1 118 μ) (fun _ μ_18 =>
    h_bd (f_Bijections_mark a2 119 μ_18) (fun _ μ_26 =>
    h_bd (f_Bijections_sameMarks (μ_26.1 a1 0) μ_26) (fun r34 μ_34 =>
    if r34 = 0 then
      f_Bijections_exist_J55 μ_34
    else
      h_bd (f_Bijections_extendable h_deep a1 a2 0 0 μ_34) (fun r45 μ_45 =>
      if r45 = 0 then
        f_Bijections_exist_J55 μ_45
      else
        f_Bijections_exist_J56 1 μ_45))))
  else
    if (0 : Int32) &&& 1 = 0 then some (0, μ) else none
def f_Elimination_begin_L12_b  (rec_ : Nat → Int32 → HMem → Option (Unit × HMem)) (a1 : Nat) (v2 : Int32) (μ : HMem) : Option (Unit × HMem) :=
if (μ.1 a1 0) ≤ v2 then
  some ((), μ)
else
  h_chk v2 (h_len (a1 + 3)) (
  h_chk v2 (h_len 95) (h_let (h_wi μ 95 (Int32.toNatClampNeg (v2)) ((μ.1 (a1 + 3) (Int32.toNatClampNeg (v2))) &&& ((h_ishl 1 v2) ^^^ (-1)))) (fun μ_37 =>
  h_let (v2 + 1) (fun v2_38 =>
  rec_ a1 v2_38 μ_37))))
def f_Elimination_begin_L12  : Nat → Nat → Int32 → HMem → Option (Unit × HMem)
  | 0, _, _, _ => none
  | fuel + 1, a1, v2, μ => f_Elimination_begin_L12_b  (f_Elimination_begin_L12  fuel) a1 v2 μ
def f_Elimination_begin (a1 : Nat) (μ : HMem) : Option (Unit × HMem) :=
  h_let (h_wi μ 92 2 (-1)) (fun μ_2 =>
  h_let (h_wi μ_2 92 3 0) (fun μ_7 =>
  f_Elimination_begin_L12 h_fuel a1 0 μ_7))
def f_Elimination_eliminate_J107  (rec_ : Int32 → Int32 → Int32 → Int32 → Int32 → HMem → Option (Unit × HMem)) (v1 : Int32) (v2 : Int32) (v3 : Int32) (v4 : Int32) (v5 : Int32) (μ : HMem) : Option (Unit × HMem) :=
h_let (v5 + 1) (fun v5_107 =>
rec_ v1 v2 v3 v4 v5_107 μ)
def f_Elimination_eliminate_L39_b (K113 : Int32 → HMem → Option (Unit × HMem)) (rec_ : Int32 → Int32 → Int32 → Int32 → Int32 → HMem → Option (Unit × HMem)) (v1 : Int32) (v2 : Int32) (v3 : Int32) (v4 : Int32) (v5 : Int32) (μ : HMem) : Option (Unit × HMem) :=
if v2 ≤ v5 then
  K113 v4 μ
else
  h_bd (f_Bench_has v3 v5 μ) (fun r48 μ_48 =>
  if r48 = 0 then
    f_Elimination_eliminate_J107 rec_ v1 v2 v3 v4 v5 μ_48
  else
    h_let (v3 &&& ((h_ishl 1 v5) ^^^ (-1))) (fun v6_62 =>
    h_chk v5 (h_len 95) (
    h_bd (f_Integer_bitCount (v6_62 &&& ((μ_48.1 95 (Int32.toNatClampNeg (v5))) ^^^ (-1))) μ_48) (fun r78 μ_78 =>
    h_let (v4 + r78) (fun v4_82 =>
    h_chk v5 (h_len 95) (
    h_chk v5 (h_len 95) (h_let (h_wi μ_78 95 (Int32.toNatClampNeg (v5)) (((μ_78.1 95 (Int32.toNatClampNeg (v5))) ||| v6_62) &&& ((h_ishl 1 v1) ^^^ (-1)))) (fun μ_106 =>
    f_Elimination_eliminate_J107 rec_ v1 v2 v3 v4_82 v5 μ_106))))))))
def f_Elimination_eliminate_L39 (K113 : Int32 → HMem → Option (Unit × HMem)) : Nat → Int32 → Int32 → Int32 → Int32 → Int32 → HMem → Option (Unit × HMem)
  | 0, _, _, _, _, _, _ => none
  | fuel + 1, v1, v2, v3, v4, v5, μ => f_Elimination_eliminate_L39_b K113 (f_Elimination_eliminate_L39 K113 fuel) v1 v2 v3 v4 v5 μ
def f_Elimination_eliminate_J113   (v4 : Int32) (μ : HMem) : Option (Unit × HMem) :=
if (2 : Int32) = 0 then none else
h_let (h_wi μ 92 3 ((μ.1 92 3) + (v4 / 2))) (fun μ_123 =>
some ((), μ_123))
def f_Elimination_eliminate (v1 : Int32) (v2 : Int32) (μ : HMem) : Option (Unit × HMem) :=
  h_chk v1 (h_len 95) (
  h_let (μ.1 95 (Int32.toNatClampNeg (v1))) (fun v3_6 =>
  h_chk v1 (h_len 94) (h_let (h_wi μ 94 (Int32.toNatClampNeg (v1)) (v3_6 ||| (h_ishl 1 v1))) (fun μ_17 =>
  h_bd (f_Integer_bitCount v3_6 μ_17) (fun r24 μ_24 =>
  h_let (h_wi μ_24 92 2 (h_mmax (μ_17.1 92 2) r24)) (fun μ_30 =>
  f_Elimination_eliminate_L39 f_Elimination_eliminate_J113 h_fuel v1 v2 v3_6 0 0 μ_30))))))
def f_Elimination_fewestNeighbors_J50  (rec_ : Int32 → Int32 → Int32 → Int32 → Int32 → HMem → Option (Int32 × HMem)) (v1 : Int32) (v2 : Int32) (v3 : Int32) (v4 : Int32) (v5 : Int32) (μ : HMem) : Option (Int32 × HMem) :=
h_let (v5 + 1) (fun v5_50 =>
rec_ v1 v2 v3 v4 v5_50 μ)
def f_Elimination_fewestNeighbors_L9_b  (rec_ : Int32 → Int32 → Int32 → Int32 → Int32 → HMem → Option (Int32 × HMem)) (v1 : Int32) (v2 : Int32) (v3 : Int32) (v4 : Int32) (v5 : Int32) (μ : HMem) : Option (Int32 × HMem) :=
if v2 ≤ v5 then
  some (v3, μ)
else
  h_chk v5 (h_len 95) (
  h_bd (f_Integer_bitCount (μ.1 95 (Int32.toNatClampNeg (v5))) μ) (fun r22 μ_22 =>
  h_bd (f_Bench_has v1 v5 μ_22) (fun r30 μ_30 =>
  if r30 = 0 then
    f_Elimination_fewestNeighbors_J50 rec_ v1 v2 v3 v4 v5 μ_30
  else
    if v4 ≤ r22 then
      f_Elimination_fewestNeighbors_J50 rec_ v1 v2 v3 v4 v5 μ_30
    else
      f_Elimination_fewestNeighbors_J50 rec_ v1 v2 v5 r22 v5 μ_30)))
def f_Elimination_fewestNeighbors_L9  : Nat → Int32 → Int32 → Int32 → Int32 → Int32 → HMem → Option (Int32 × HMem)
  | 0, _, _, _, _, _, _ => none
  | fuel + 1, v1, v2, v3, v4, v5, μ => f_Elimination_fewestNeighbors_L9_b  (f_Elimination_fewestNeighbors_L9  fuel) v1 v2 v3 v4 v5 μ
def f_Elimination_fewestNeighbors (v1 : Int32) (v2 : Int32) (μ : HMem) : Option (Int32 × HMem) :=
  f_Elimination_fewestNeighbors_L9 h_fuel v1 v2 0 8 0 μ
def f_Elimination_runGreedily_L12_b  (rec_ : Nat → Int32 → Int32 → HMem → Option (Unit × HMem)) (a1 : Nat) (v2 : Int32) (v3 : Int32) (μ : HMem) : Option (Unit × HMem) :=
if (μ.1 a1 0) ≤ v3 then
  some ((), μ)
else
  h_bd (f_Elimination_fewestNeighbors v2 (μ.1 a1 0) μ) (fun r26 μ_26 =>
  h_chk v3 (h_len 93) (h_let (h_wi μ_26 93 (Int32.toNatClampNeg (v3)) r26) (fun μ_38 =>
  h_let (v2 &&& ((h_ishl 1 r26) ^^^ (-1))) (fun v2_47 =>
  h_bd (f_Elimination_eliminate r26 (μ_38.1 a1 0) μ_38) (fun _ μ_55 =>
  h_let (v3 + 1) (fun v3_58 =>
  rec_ a1 v2_47 v3_58 μ_55))))))
def f_Elimination_runGreedily_L12  : Nat → Nat → Int32 → Int32 → HMem → Option (Unit × HMem)
  | 0, _, _, _, _ => none
  | fuel + 1, a1, v2, v3, μ => f_Elimination_runGreedily_L12_b  (f_Elimination_runGreedily_L12  fuel) a1 v2 v3 μ
def f_Elimination_runGreedily (a1 : Nat) (μ : HMem) : Option (Unit × HMem) :=
  h_bd (f_Elimination_begin a1 μ) (fun _ μ_2 =>
  h_bd (f_Graph_all a1 μ_2) (fun r6 μ_6 =>
  f_Elimination_runGreedily_L12 h_fuel a1 r6 0 μ_6))
def f_Elimination_runInOrder_L7_b  (rec_ : Nat → Int32 → HMem → Option (Unit × HMem)) (a1 : Nat) (v2 : Int32) (μ : HMem) : Option (Unit × HMem) :=
if (μ.1 a1 0) ≤ v2 then
  some ((), μ)
else
  h_chk v2 (h_len 93) (
  h_bd (f_Elimination_eliminate (μ.1 93 (Int32.toNatClampNeg (v2))) (μ.1 a1 0) μ) (fun _ μ_26 =>
  h_let (v2 + 1) (fun v2_29 =>
  rec_ a1 v2_29 μ_26)))
def f_Elimination_runInOrder_L7  : Nat → Nat → Int32 → HMem → Option (Unit × HMem)
  | 0, _, _, _ => none
  | fuel + 1, a1, v2, μ => f_Elimination_runInOrder_L7_b  (f_Elimination_runInOrder_L7  fuel) a1 v2 μ
def f_Elimination_runInOrder (a1 : Nat) (μ : HMem) : Option (Unit × HMem) :=
  h_bd (f_Elimination_begin a1 μ) (fun _ μ_2 =>
  f_Elimination_runInOrder_L7 h_fuel a1 0 μ_2)
def f_Elimination_readOrder_L10_b (K44 : HMem → Option (Int32 × HMem)) (K75 : Int32 → HMem → Option (Int32 × HMem)) (rec_ : Int32 → Int32 → Int32 → Int32 → HMem → Option (Int32 × HMem)) (v2 : Int32) (v3 : Int32) (v4 : Int32) (v5 : Int32) (μ : HMem) : Option (Int32 × HMem) :=
if v5 < 0 then
  K75 v3 μ
else
  if (10 : Int32) = 0 then none else
  h_let ((h_irem v3 10) - 1) (fun v6_21 =>
  if v6_21 < 0 then
    K44 μ
  else
    if v2 ≤ v6_21 then
      K44 μ
    else
      h_bd (f_Bench_has v4 v6_21 μ) (fun r38 μ_38 =>
      if r38 = 0 then
        h_chk v5 (h_len 93) (h_let (h_wi μ_38 93 (Int32.toNatClampNeg (v5)) v6_21) (fun μ_54 =>
        h_let (v4 ||| (h_ishl 1 v6_21)) (fun v4_62 =>
        if (10 : Int32) = 0 then none else
        h_let (v3 / 10) (fun v3_68 =>
        h_let (v5 + (-1)) (fun v5_69 =>
        rec_ v2 v3_68 v4_62 v5_69 μ_54)))))
      else
        K44 μ_38))
def f_Elimination_readOrder_L10 (K44 : HMem → Option (Int32 × HMem)) (K75 : Int32 → HMem → Option (Int32 × HMem)) : Nat → Int32 → Int32 → Int32 → Int32 → HMem → Option (Int32 × HMem)
  | 0, _, _, _, _, _ => none
  | fuel + 1, v2, v3, v4, v5, μ => f_Elimination_readOrder_L10_b K44 K75 (f_Elimination_readOrder_L10 K44 K75 fuel) v2 v3 v4 v5 μ
def f_Elimination_readOrder_J44    (μ : HMem) : Option (Int32 × HMem) :=
if (0 : Int32) &&& 1 = 0 then some (0, μ) else none
def f_Elimination_readOrder_J84   (s0 : Int32) (μ : HMem) : Option (Int32 × HMem) :=
if s0 &&& 1 = s0 then some (s0, μ) else none
def f_Elimination_readOrder_J75   (v3 : Int32) (μ : HMem) : Option (Int32 × HMem) :=
if ¬ v3 = 0 then
  f_Elimination_readOrder_J84 0 μ
else
  f_Elimination_readOrder_J84 1 μ
def f_Elimination_readOrder (v1 : Int32) (v2 : Int32) (μ : HMem) : Option (Int32 × HMem) :=
  h_let (v2 - 1) (fun v5_8 =>
  f_Elimination_readOrder_L10 f_Elimination_readOrder_J44 f_Elimination_readOrder_J75 h_fuel v2 v1 0 v5_8 μ)
def p_Elimination_smallestWidth_23 (cx : HCx) (F_ : Nat → Int32 → Int32 → Int32 → HMem → Option (Int32 × HMem)) : Prop := ∀ (a1 : Nat) (h_a1 : HIsG a1) (v2 : Int32) (v3 : Int32) (v4 : Int32) (μ : HMem), HX cx (HQ cx h_eI) (F_ a1 v2 v3 v4 μ) 0 0 23 [(0, .ref 92), (1, .ref a1), (2, .int v2), (3, .int v3), (4, .int v4)] [] μ
def p_Elimination_smallestWidth_88 (cx : HCx) (F_ : Nat → Int32 → Int32 → HMem → Option (Int32 × HMem)) : Prop := ∀ (a1 : Nat) (h_a1 : HIsG a1) (v2 : Int32) (v3 : Int32) (μ : HMem), HX cx (HQ cx h_eI) (F_ a1 v2 v3 μ) 0 0 88 [(0, .ref 92), (1, .ref a1), (2, .int v2), (3, .int v3)] [] μ
def p_Elimination_smallestWidth_9 (cx : HCx) (F_ : Nat → Int32 → HMem → Option (Int32 × HMem)) : Prop := ∀ (a1 : Nat) (h_a1 : HIsG a1) (v2 : Int32) (μ : HMem), HX cx (HQ cx h_eI) (F_ a1 v2 μ) 0 0 9 [(0, .ref 92), (1, .ref a1), (2, .int v2)] [] μ
def p_Elimination_smallestWidth_101 (cx : HCx) (F_ : Nat → HMem → Option (Int32 × HMem)) : Prop := ∀ (a1 : Nat) (h_a1 : HIsG a1) (μ : HMem), HX cx (HQ cx h_eI) (F_ a1 μ) 0 0 101 [(0, .ref 92), (1, .ref a1)] [] μ
def p_Bijections_edgesOfWeight_5 (cx : HCx) (F_ : Nat → Int32 → Int32 → Int32 → Int32 → HMem → Option (Int32 × HMem)) : Prop := ∀ (a0 : Nat) (h_a0 : HIsG a0) (v1 : Int32) (v2 : Int32) (v3 : Int32) (v4 : Int32) (μ : HMem), HX cx (HQ cx h_eI) (F_ a0 v1 v2 v3 v4 μ) 0 0 5 [(0, .ref a0), (1, .int v1), (2, .int v2), (3, .int v3), (4, .int v4)] [] μ
def p_Bijections_mark_60 (cx : HCx) (F_ : Nat → Nat → Int32 → Int32 → HMem → Option (Unit × HMem)) : Prop := ∀ (a0 : Nat) (h_a0 : HIsG a0) (a1 : Nat) (h_a1 : HIsI a1) (v2 : Int32) (v3 : Int32) (μ : HMem), HX cx (HQ cx h_eV) (F_ a0 a1 v2 v3 μ) 0 0 60 [(0, .ref a0), (1, .ref a1), (2, .int v2), (3, .int v3)] [] μ
def p_Bijections_mark_35 (cx : HCx) (F_ : Nat → Nat → Int32 → Int32 → Int32 → HMem → Option (Unit × HMem)) : Prop := ∀ (a0 : Nat) (h_a0 : HIsG a0) (a1 : Nat) (h_a1 : HIsI a1) (v2 : Int32) (v3 : Int32) (v4 : Int32) (μ : HMem), HX cx (HQ cx h_eV) (F_ a0 a1 v2 v3 v4 μ) 0 0 35 [(0, .ref a0), (1, .ref a1), (2, .int v2), (3, .int v3), (4, .int v4)] [] μ
def p_Bijections_mark_2 (cx : HCx) (F_ : Nat → Nat → Int32 → HMem → Option (Unit × HMem)) : Prop := ∀ (a0 : Nat) (h_a0 : HIsG a0) (a1 : Nat) (h_a1 : HIsI a1) (v2 : Int32) (μ : HMem), HX cx (HQ cx h_eV) (F_ a0 a1 v2 μ) 0 0 2 [(0, .ref a0), (1, .ref a1), (2, .int v2)] [] μ
def p_Bijections_fits_21 (cx : HCx) (F_ : Nat → Nat → Int32 → Int32 → Int32 → HMem → Option (Int32 × HMem)) : Prop := ∀ (a1 : Nat) (h_a1 : HIsG a1) (a2 : Nat) (h_a2 : HIsG a2) (v3 : Int32) (v4 : Int32) (v5 : Int32) (μ : HMem), HX cx (HQ cx h_eI) (F_ a1 a2 v3 v4 v5 μ) 0 0 21 [(0, .ref 117), (1, .ref a1), (2, .ref a2), (3, .int v3), (4, .int v4), (5, .int v5)] [] μ
def p_Bijections_extendable_13 (cx : HCx) (F_ : Nat → Nat → Int32 → Int32 → Int32 → HMem → Option (Int32 × HMem)) : Prop := ∀ (a1 : Nat) (h_a1 : HIsG a1) (a2 : Nat) (h_a2 : HIsG a2) (v3 : Int32) (v4 : Int32) (v5 : Int32) (μ : HMem), HX cx (HQ cx h_eI) (F_ a1 a2 v3 v4 v5 μ) 0 0 13 [(0, .ref 117), (1, .ref a1), (2, .ref a2), (3, .int v3), (4, .int v4), (5, .int v5)] [] μ
def p_Bijections_imagesWithLowerFixed_12 (cx : HCx) (F_ : Nat → Int32 → Int32 → Int32 → Int32 → HMem → Option (Int32 × HMem)) : Prop := ∀ (a1 : Nat) (h_a1 : HIsG a1) (v2 : Int32) (v3 : Int32) (v4 : Int32) (v5 : Int32) (μ : HMem), HX cx (HQ cx h_eI) (F_ a1 v2 v3 v4 v5 μ) 0 0 12 [(0, .ref 117), (1, .ref a1), (2, .int v2), (3, .int v3), (4, .int v4), (5, .int v5)] [] μ
def p_Bijections_countOnto_20 (cx : HCx) (F_ : Nat → Int32 → Int32 → HMem → Option (Int32 × HMem)) : Prop := ∀ (a1 : Nat) (h_a1 : HIsG a1) (v2 : Int32) (v3 : Int32) (μ : HMem), HX cx (HQ cx h_eI) (F_ a1 v2 v3 μ) 0 0 20 [(0, .ref 117), (1, .ref a1), (2, .int v2), (3, .int v3)] [] μ
def p_Bijections_sameMarks_12 (cx : HCx) (F_ : Int32 → Int32 → Int32 → Int32 → HMem → Option (Int32 × HMem)) : Prop := ∀ (v1 : Int32) (v2 : Int32) (v3 : Int32) (v4 : Int32) (μ : HMem), HX cx (HQ cx h_eI) (F_ v1 v2 v3 v4 μ) 0 0 12 [(0, .ref 117), (1, .int v1), (2, .int v2), (3, .int v3), (4, .int v4)] [] μ
def p_Bijections_sameMarks_72 (cx : HCx) (F_ : Int32 → Int32 → Int32 → HMem → Option (Int32 × HMem)) : Prop := ∀ (v1 : Int32) (v2 : Int32) (v3 : Int32) (μ : HMem), HX cx (HQ cx h_eI) (F_ v1 v2 v3 μ) 0 0 72 [(0, .ref 117), (1, .int v1), (2, .int v2), (3, .int v3)] [] μ
def p_Bijections_sameMarks_2 (cx : HCx) (F_ : Int32 → Int32 → HMem → Option (Int32 × HMem)) : Prop := ∀ (v1 : Int32) (v2 : Int32) (μ : HMem), HX cx (HQ cx h_eI) (F_ v1 v2 μ) 0 0 2 [(0, .ref 117), (1, .int v1), (2, .int v2)] [] μ
def p_Elimination_begin_12 (cx : HCx) (F_ : Nat → Int32 → HMem → Option (Unit × HMem)) : Prop := ∀ (a1 : Nat) (h_a1 : HIsG a1) (v2 : Int32) (μ : HMem), HX cx (HQ cx h_eV) (F_ a1 v2 μ) 0 0 12 [(0, .ref 92), (1, .ref a1), (2, .int v2)] [] μ
def p_Elimination_eliminate_39 (cx : HCx) (F_ : Int32 → Int32 → Int32 → Int32 → Int32 → HMem → Option (Unit × HMem)) : Prop := ∀ (v1 : Int32) (v2 : Int32) (v3 : Int32) (v4 : Int32) (v5 : Int32) (μ : HMem), HX cx (HQ cx h_eV) (F_ v1 v2 v3 v4 v5 μ) 0 0 39 [(0, .ref 92), (1, .int v1), (2, .int v2), (3, .int v3), (4, .int v4), (5, .int v5)] [] μ
def p_Elimination_eliminate_113 (cx : HCx) (F_ : Int32 → HMem → Option (Unit × HMem)) : Prop := ∀ (v4 : Int32) (μ : HMem), HX cx (HQ cx h_eV) (F_ v4 μ) 0 0 113 [(0, .ref 92), (4, .int v4)] [] μ
def p_Elimination_fewestNeighbors_9 (cx : HCx) (F_ : Int32 → Int32 → Int32 → Int32 → Int32 → HMem → Option (Int32 × HMem)) : Prop := ∀ (v1 : Int32) (v2 : Int32) (v3 : Int32) (v4 : Int32) (v5 : Int32) (μ : HMem), HX cx (HQ cx h_eI) (F_ v1 v2 v3 v4 v5 μ) 0 0 9 [(0, .ref 92), (1, .int v1), (2, .int v2), (3, .int v3), (4, .int v4), (5, .int v5)] [] μ
def p_Elimination_runGreedily_12 (cx : HCx) (F_ : Nat → Int32 → Int32 → HMem → Option (Unit × HMem)) : Prop := ∀ (a1 : Nat) (h_a1 : HIsG a1) (v2 : Int32) (v3 : Int32) (μ : HMem), HX cx (HQ cx h_eV) (F_ a1 v2 v3 μ) 0 0 12 [(0, .ref 92), (1, .ref a1), (2, .int v2), (3, .int v3)] [] μ
def p_Elimination_runInOrder_7 (cx : HCx) (F_ : Nat → Int32 → HMem → Option (Unit × HMem)) : Prop := ∀ (a1 : Nat) (h_a1 : HIsG a1) (v2 : Int32) (μ : HMem), HX cx (HQ cx h_eV) (F_ a1 v2 μ) 0 0 7 [(0, .ref 92), (1, .ref a1), (2, .int v2)] [] μ
def p_Elimination_readOrder_44 (cx : HCx) (F_ : HMem → Option (Int32 × HMem)) : Prop := ∀  (μ : HMem), HX cx (HQ cx h_eI) (F_ μ) 0 0 44 [] [] μ
def p_Elimination_readOrder_75 (cx : HCx) (F_ : Int32 → HMem → Option (Int32 × HMem)) : Prop := ∀ (v3 : Int32) (μ : HMem), HX cx (HQ cx h_eI) (F_ v3 μ) 0 0 75 [(3, .int v3)] [] μ
def p_Elimination_readOrder_10 (cx : HCx) (F_ : Int32 → Int32 → Int32 → Int32 → HMem → Option (Int32 × HMem)) : Prop := ∀ (v2 : Int32) (v3 : Int32) (v4 : Int32) (v5 : Int32) (μ : HMem), HX cx (HQ cx h_eI) (F_ v2 v3 v4 v5 μ) 0 0 10 [(0, .ref 92), (2, .int v2), (3, .int v3), (4, .int v4), (5, .int v5)] [] μ
theorem t_Elimination_laterNeighbors_0 {cx : HCx} (hg : HGood cx R_Elimination b_Elimination_laterNeighbors 4 3 (some .int)) (hA : h_own cx) (a0 : Nat) (h_a0 : HIsG a0) (v1 : Int32) (v2 : Int32) (μ : HMem) : HX cx (HQ cx h_eI) (f_Elimination_laterNeighbors a0 v1 v2 μ) 0 0 0 [(0, .ref a0), (1, .int v1), (2, .int v2)] [] μ := by
  unfold f_Elimination_laterNeighbors
  refine r_aload_n hg 0 d_Elimination_laterNeighbors_0 rfl rfl ?_
  refine r_iload_n hg 1 d_Elimination_laterNeighbors_1 rfl rfl ?_
  refine r_iload_n hg 2 d_Elimination_laterNeighbors_2 rfl rfl ?_
  refine r_callV (As := [.int v1, .int v2]) hg (t_Graph_reached a0 h_a0 v1 v2 μ) v_Graph_reached c_Graph rfl (h_G_lt h_a0) (h_G_kd h_a0) wm_Elimination_77 d_Elimination_laterNeighbors_3 rfl ⟨by decide, by decide⟩ (Nat.le_of_ble_eq_true rfl) rfl (fun r3 μ_3 _ => ?_)
  refine r_istore_n (l' := [(3, .int r3), (0, .ref a0), (1, .int v1), (2, .int v2)]) hg d_Elimination_laterNeighbors_6 rfl (Nat.le_of_ble_eq_true rfl) rfl ?_
  refine r_aload_n hg 1 d_Elimination_laterNeighbors_7 rfl rfl ?_
  refine r_iload_n hg 0 d_Elimination_laterNeighbors_8 rfl rfl ?_
  refine r_callV (As := [.int r3]) hg (t_Graph_nearOf a0 h_a0 r3 μ_3) v_Graph_nearOf c_Graph rfl (h_G_lt h_a0) (h_G_kd h_a0) wm_Elimination_80 d_Elimination_laterNeighbors_9 rfl ⟨by decide, by decide⟩ (Nat.le_of_ble_eq_true rfl) rfl (fun r9 μ_9 _ => ?_)
  refine r_iload_n hg 3 d_Elimination_laterNeighbors_12 rfl rfl ?_
  refine r_iconst (v := -1) hg d_Elimination_laterNeighbors_13 (by decide) ?_
  refine r_ixor hg d_Elimination_laterNeighbors_14 ?_
  refine r_iand hg d_Elimination_laterNeighbors_15 ?_
  refine r_iconst (v := 1) hg d_Elimination_laterNeighbors_16 (by decide) ?_
  refine r_iload_n hg 2 d_Elimination_laterNeighbors_17 rfl rfl ?_
  refine r_ishl hg d_Elimination_laterNeighbors_18 ?_
  refine r_iconst (v := -1) hg d_Elimination_laterNeighbors_19 (by decide) ?_
  refine r_ixor hg d_Elimination_laterNeighbors_20 ?_
  refine r_iand hg d_Elimination_laterNeighbors_21 ?_
  refine r_callS (As := [.int ((r9 &&& (v2 ^^^ (-1))) &&& ((h_ishl 1 v1) ^^^ (-1)))]) hg (t_Integer_bitCount ((r9 &&& (v2 ^^^ (-1))) &&& ((h_ishl 1 v1) ^^^ (-1))) μ_9) v_Integer_bitCount wm_Elimination_39 d_Elimination_laterNeighbors_22 rfl ⟨by decide, by decide⟩ (Nat.le_of_ble_eq_true rfl) rfl (fun r22 μ_22 _ => ?_)
  exact r_iret hg hA rfl d_Elimination_laterNeighbors_25 rfl
theorem t_Elimination_laterNeighbors (a0 : Nat) (h_a0 : HIsG a0) (v1 : Int32) (v2 : Int32) (μ : HMem) : HSpec y_Elimination_laterNeighbors b_Elimination_laterNeighbors 4 (some .int) 3 h_eI [.ref a0, .int v1, .int v2] μ (f_Elimination_laterNeighbors a0 v1 v2 μ) :=
  HSpec.of (by decide +kernel) (v_Elimination_laterNeighbors.1 _ (by simp)) (Nat.le_of_ble_eq_true rfl) (fun cx hA hg => t_Elimination_laterNeighbors_0 hg hA a0 h_a0 v1 v2 μ)
theorem t_Elimination_smallestWidth_J82 {cx : HCx} (hg : HGood cx R_Elimination b_Elimination_smallestWidth 6 4 (some .int)) (hA : h_own cx)  (rec_ : Nat → Int32 → Int32 → Int32 → HMem → Option (Int32 × HMem)) (hrec_ : p_Elimination_smallestWidth_23 cx rec_) (a1 : Nat) (h_a1 : HIsG a1) (v2 : Int32) (v3 : Int32) (v4 : Int32) (μ : HMem) : HX cx (HQ cx h_eI) (f_Elimination_smallestWidth_J82  rec_ a1 v2 v3 v4 μ) 0 0 82 [(0, .ref 92), (1, .ref a1), (2, .int v2), (3, .int v3), (4, .int v4)] [] μ := by
  unfold f_Elimination_smallestWidth_J82
  refine r_letE (fun v4_82 he_82 => ?_)
  refine r_iinc (v := v4_82) (l' := [(4, .int v4_82), (0, .ref 92), (1, .ref a1), (2, .int v2), (3, .int v3)]) hg 4 d_Elimination_smallestWidth_82 rfl he_82 (Nat.le_of_ble_eq_true rfl) rfl ?_
  refine r_goto (tgt := 23) hg d_Elimination_smallestWidth_85 (by decide) ?_
  refine r_sub [1, 2, 3, 4, 0] rfl ?_
  exact hrec_ a1 h_a1 v2 v3 v4_82 μ
theorem t_Elimination_smallestWidth_L23_b {cx : HCx} (hg : HGood cx R_Elimination b_Elimination_smallestWidth 6 4 (some .int)) (hA : h_own cx) (K88 : Nat → Int32 → Int32 → HMem → Option (Int32 × HMem)) (hK88 : p_Elimination_smallestWidth_88 cx K88) (rec_ : Nat → Int32 → Int32 → Int32 → HMem → Option (Int32 × HMem)) (hrec_ : p_Elimination_smallestWidth_23 cx rec_) (a1 : Nat) (h_a1 : HIsG a1) (v2 : Int32) (v3 : Int32) (v4 : Int32) (μ : HMem) : HX cx (HQ cx h_eI) (f_Elimination_smallestWidth_L23_b K88 rec_ a1 v2 v3 v4 μ) 0 0 23 [(0, .ref 92), (1, .ref a1), (2, .int v2), (3, .int v3), (4, .int v4)] [] μ := by
  unfold f_Elimination_smallestWidth_L23_b
  refine r_iload hg 4 d_Elimination_smallestWidth_23 rfl ?_
  refine r_aload_n hg 1 d_Elimination_smallestWidth_25 rfl rfl ?_
  refine r_get (v := .int (μ.1 a1 0)) hg c_Graph (h_G_lt h_a1) (h_G_kd h_a1) (Nat.le_of_ble_eq_true rfl) (h_G_fl0 h_a1) wf_Elimination_31 d_Elimination_smallestWidth_26 rfl ?_
  refine r_icmp_ge (tgt := 88) hg d_Elimination_smallestWidth_29 (by decide) ?_ ?_
  · refine r_sub [0, 1, 2, 3] rfl ?_
    exact hK88 a1 h_a1 v2 v3 μ
  · refine r_iload_n hg 2 d_Elimination_smallestWidth_32 rfl rfl ?_
    refine r_iconst (v := 1) hg d_Elimination_smallestWidth_33 (by decide) ?_
    refine r_iload hg 4 d_Elimination_smallestWidth_34 rfl ?_
    refine r_ishl hg d_Elimination_smallestWidth_36 ?_
    refine r_iconst (v := -1) hg d_Elimination_smallestWidth_37 (by decide) ?_
    refine r_ixor hg d_Elimination_smallestWidth_38 ?_
    refine r_iand hg d_Elimination_smallestWidth_39 ?_
    refine r_letI (fun v5_40 => ?_)
    refine r_istore (l' := [(5, .int v5_40), (0, .ref 92), (1, .ref a1), (2, .int v2), (3, .int v3), (4, .int v4)]) hg d_Elimination_smallestWidth_40 (Nat.le_of_ble_eq_true rfl) rfl ?_
    refine r_iload hg 0 d_Elimination_smallestWidth_42 rfl ?_
    refine r_iload_n hg 3 d_Elimination_smallestWidth_44 rfl rfl ?_
    refine r_icmp_eq (tgt := 82) hg d_Elimination_smallestWidth_45 (by decide) ?_ ?_
    · refine r_sub [1, 2, 3, 4, 5] rfl ?_
      exact t_Elimination_smallestWidth_J82 hg hA rec_ hrec_ a1 h_a1 v2 v3 v4 μ
    · refine r_aload_n hg 1 d_Elimination_smallestWidth_48 rfl rfl ?_
      refine r_get (v := .ref 96) hg c_Elimination (by decide) rfl (Nat.le_of_ble_eq_true rfl) rfl wf_Elimination_21 d_Elimination_smallestWidth_49 rfl ?_
      refine r_iload hg 0 d_Elimination_smallestWidth_52 rfl ?_
      refine r_iald hg (by decide) rfl d_Elimination_smallestWidth_54 ?_
      refine r_iload_n hg 4 d_Elimination_smallestWidth_55 rfl rfl ?_
      refine r_icmp_ge (tgt := 82) hg d_Elimination_smallestWidth_56 (by decide) ?_ ?_
      · refine r_sub [1, 2, 3, 4, 5] rfl ?_
        exact t_Elimination_smallestWidth_J82 hg hA rec_ hrec_ a1 h_a1 v2 v3 v4 μ
      · refine r_iload_n hg 4 d_Elimination_smallestWidth_59 rfl rfl ?_
        refine r_aload_n hg 1 d_Elimination_smallestWidth_60 rfl rfl ?_
        refine r_get (v := .ref 96) hg c_Elimination (by decide) rfl (Nat.le_of_ble_eq_true rfl) rfl wf_Elimination_21 d_Elimination_smallestWidth_61 rfl ?_
        refine r_iload hg 0 d_Elimination_smallestWidth_64 rfl ?_
        refine r_iald hg (by decide) rfl d_Elimination_smallestWidth_66 ?_
        refine r_aload_n hg 2 d_Elimination_smallestWidth_67 rfl rfl ?_
        refine r_iload hg 5 d_Elimination_smallestWidth_68 rfl ?_
        refine r_iload hg 0 d_Elimination_smallestWidth_70 rfl ?_
        refine r_callS (As := [.ref a1, .int v4, .int v5_40]) hg (t_Elimination_laterNeighbors a1 h_a1 v4 v5_40 μ) v_Elimination_laterNeighbors wm_Elimination_70 d_Elimination_smallestWidth_72 rfl ⟨by decide, by decide⟩ (Nat.le_of_ble_eq_true rfl) rfl (fun r72 μ_72 _ => ?_)
        refine r_mmax hg (h_w4 wm_Elimination_45 ws_Math_max wi_Math wk_Math_max) d_Elimination_smallestWidth_75 (Nat.le_of_ble_eq_true rfl) (Nat.le_of_ble_eq_true rfl) ?_
        refine r_mmin hg (h_w4 wm_Elimination_74 ws_Math_min wi_Math wk_Math_min) d_Elimination_smallestWidth_78 (Nat.le_of_ble_eq_true rfl) (Nat.le_of_ble_eq_true rfl) ?_
        refine r_letI (fun v3_81 => ?_)
        refine r_istore_n (l' := [(3, .int v3_81), (5, .int v5_40), (0, .ref 92), (1, .ref a1), (2, .int v2), (4, .int v4)]) hg d_Elimination_smallestWidth_81 rfl (Nat.le_of_ble_eq_true rfl) rfl ?_
        refine r_sub [2, 3, 4, 0, 5] rfl ?_
        exact t_Elimination_smallestWidth_J82 hg hA rec_ hrec_ a1 h_a1 v2 v3_81 v4 μ_72
theorem t_Elimination_smallestWidth_L23 {cx : HCx} (hg : HGood cx R_Elimination b_Elimination_smallestWidth 6 4 (some .int)) (hA : h_own cx) (K88 : Nat → Int32 → Int32 → HMem → Option (Int32 × HMem)) (hK88 : p_Elimination_smallestWidth_88 cx K88) : ∀ (fuel : Nat) (a1 : Nat) (h_a1 : HIsG a1) (v2 : Int32) (v3 : Int32) (v4 : Int32) (μ : HMem), HX cx (HQ cx h_eI) (f_Elimination_smallestWidth_L23 K88 fuel a1 v2 v3 v4 μ) 0 0 23 [(0, .ref 92), (1, .ref a1), (2, .int v2), (3, .int v3), (4, .int v4)] [] μ
  | 0, _, _, _, _, _, _ => by unfold f_Elimination_smallestWidth_L23; exact HX.none
  | fuel + 1, a1, h_a1, v2, v3, v4, μ => by
    rw [f_Elimination_smallestWidth_L23]
    exact t_Elimination_smallestWidth_L23_b hg hA  K88 hK88 (f_Elimination_smallestWidth_L23 K88 fuel) (t_Elimination_smallestWidth_L23 hg hA  K88 hK88 fuel) a1 h_a1 v2 v3 v4 μ
theorem t_Elimination_smallestWidth_J88 {cx : HCx} (hg : HGood cx R_Elimination b_Elimination_smallestWidth 6 4 (some .int)) (hA : h_own cx)  (rec_ : Nat → Int32 → HMem → Option (Int32 × HMem)) (hrec_ : p_Elimination_smallestWidth_9 cx rec_) (a1 : Nat) (h_a1 : HIsG a1) (v2 : Int32) (v3 : Int32) (μ : HMem) : HX cx (HQ cx h_eI) (f_Elimination_smallestWidth_J88  rec_ a1 v2 v3 μ) 0 0 88 [(0, .ref 92), (1, .ref a1), (2, .int v2), (3, .int v3)] [] μ := by
  unfold f_Elimination_smallestWidth_J88
  refine r_aload_n hg 0 d_Elimination_smallestWidth_88 rfl rfl ?_
  refine r_get (v := .ref 96) hg c_Elimination (by decide) rfl (Nat.le_of_ble_eq_true rfl) rfl wf_Elimination_21 d_Elimination_smallestWidth_89 rfl ?_
  refine r_iload_n hg 2 d_Elimination_smallestWidth_92 rfl rfl ?_
  refine r_iload_n hg 3 d_Elimination_smallestWidth_93 rfl rfl ?_
  refine r_iast hg (by decide) rfl d_Elimination_smallestWidth_94 ?_
  refine r_letM (fun μ_94 => ?_)
  refine r_letE (fun v2_95 he_95 => ?_)
  refine r_iinc (v := v2_95) (l' := [(2, .int v2_95), (0, .ref 92), (1, .ref a1), (3, .int v3)]) hg 2 d_Elimination_smallestWidth_95 rfl he_95 (Nat.le_of_ble_eq_true rfl) rfl ?_
  refine r_goto (tgt := 9) hg d_Elimination_smallestWidth_98 (by decide) ?_
  refine r_sub [1, 2, 0] rfl ?_
  exact hrec_ a1 h_a1 v2_95 μ_94
theorem t_Elimination_smallestWidth_L9_b {cx : HCx} (hg : HGood cx R_Elimination b_Elimination_smallestWidth 6 4 (some .int)) (hA : h_own cx) (K101 : Nat → HMem → Option (Int32 × HMem)) (hK101 : p_Elimination_smallestWidth_101 cx K101) (rec_ : Nat → Int32 → HMem → Option (Int32 × HMem)) (hrec_ : p_Elimination_smallestWidth_9 cx rec_) (a1 : Nat) (h_a1 : HIsG a1) (v2 : Int32) (μ : HMem) : HX cx (HQ cx h_eI) (f_Elimination_smallestWidth_L9_b K101 rec_ a1 v2 μ) 0 0 9 [(0, .ref 92), (1, .ref a1), (2, .int v2)] [] μ := by
  unfold f_Elimination_smallestWidth_L9_b
  refine r_iload_n hg 2 d_Elimination_smallestWidth_9 rfl rfl ?_
  refine r_aload_n hg 1 d_Elimination_smallestWidth_10 rfl rfl ?_
  refine r_callV (As := []) hg (t_Graph_all a1 h_a1 μ) v_Graph_all c_Graph rfl (h_G_lt h_a1) (h_G_kd h_a1) wm_Elimination_59 d_Elimination_smallestWidth_11 rfl ⟨by decide, by decide⟩ (Nat.le_of_ble_eq_true rfl) rfl (fun r11 μ_11 _ => ?_)
  refine r_icmp_gt (tgt := 101) hg d_Elimination_smallestWidth_14 (by decide) ?_ ?_
  · refine r_sub [0, 1] rfl ?_
    exact hK101 a1 h_a1 μ_11
  · refine r_bipush (v := 8) hg d_Elimination_smallestWidth_17 (by decide) ?_
    refine r_istore_n (l' := [(3, .int 8), (0, .ref 92), (1, .ref a1), (2, .int v2)]) hg d_Elimination_smallestWidth_19 rfl (Nat.le_of_ble_eq_true rfl) rfl ?_
    refine r_iconst (v := 0) hg d_Elimination_smallestWidth_20 (by decide) ?_
    refine r_istore (l' := [(4, .int 0), (3, .int 8), (0, .ref 92), (1, .ref a1), (2, .int v2)]) hg d_Elimination_smallestWidth_21 (Nat.le_of_ble_eq_true rfl) rfl ?_
    refine r_sub [2, 3, 4, 1, 0] rfl ?_
    exact t_Elimination_smallestWidth_L23 hg hA (f_Elimination_smallestWidth_J88 rec_) (t_Elimination_smallestWidth_J88 hg hA rec_ hrec_) h_fuel a1 h_a1 v2 8 0 μ_11
theorem t_Elimination_smallestWidth_L9 {cx : HCx} (hg : HGood cx R_Elimination b_Elimination_smallestWidth 6 4 (some .int)) (hA : h_own cx) (K101 : Nat → HMem → Option (Int32 × HMem)) (hK101 : p_Elimination_smallestWidth_101 cx K101) : ∀ (fuel : Nat) (a1 : Nat) (h_a1 : HIsG a1) (v2 : Int32) (μ : HMem), HX cx (HQ cx h_eI) (f_Elimination_smallestWidth_L9 K101 fuel a1 v2 μ) 0 0 9 [(0, .ref 92), (1, .ref a1), (2, .int v2)] [] μ
  | 0, _, _, _, _ => by unfold f_Elimination_smallestWidth_L9; exact HX.none
  | fuel + 1, a1, h_a1, v2, μ => by
    rw [f_Elimination_smallestWidth_L9]
    exact t_Elimination_smallestWidth_L9_b hg hA  K101 hK101 (f_Elimination_smallestWidth_L9 K101 fuel) (t_Elimination_smallestWidth_L9 hg hA  K101 hK101 fuel) a1 h_a1 v2 μ
theorem t_Elimination_smallestWidth_J101 {cx : HCx} (hg : HGood cx R_Elimination b_Elimination_smallestWidth 6 4 (some .int)) (hA : h_own cx)   (a1 : Nat) (h_a1 : HIsG a1) (μ : HMem) : HX cx (HQ cx h_eI) (f_Elimination_smallestWidth_J101   a1 μ) 0 0 101 [(0, .ref 92), (1, .ref a1)] [] μ := by
  unfold f_Elimination_smallestWidth_J101
  refine r_aload_n hg 0 d_Elimination_smallestWidth_101 rfl rfl ?_
  refine r_get (v := .ref 96) hg c_Elimination (by decide) rfl (Nat.le_of_ble_eq_true rfl) rfl wf_Elimination_21 d_Elimination_smallestWidth_102 rfl ?_
  refine r_aload_n hg 1 d_Elimination_smallestWidth_105 rfl rfl ?_
  refine r_callV (As := []) hg (t_Graph_all a1 h_a1 μ) v_Graph_all c_Graph rfl (h_G_lt h_a1) (h_G_kd h_a1) wm_Elimination_59 d_Elimination_smallestWidth_106 rfl ⟨by decide, by decide⟩ (Nat.le_of_ble_eq_true rfl) rfl (fun r106 μ_106 _ => ?_)
  refine r_iald hg (by decide) rfl d_Elimination_smallestWidth_109 ?_
  exact r_iret hg hA rfl d_Elimination_smallestWidth_110 rfl
theorem t_Elimination_smallestWidth_0 {cx : HCx} (hg : HGood cx R_Elimination b_Elimination_smallestWidth 6 4 (some .int)) (hA : h_own cx) (a1 : Nat) (h_a1 : HIsG a1) (μ : HMem) : HX cx (HQ cx h_eI) (f_Elimination_smallestWidth a1 μ) 0 0 0 [(0, .ref 92), (1, .ref a1)] [] μ := by
  unfold f_Elimination_smallestWidth
  refine r_aload_n hg 0 d_Elimination_smallestWidth_0 rfl rfl ?_
  refine r_get (v := .ref 96) hg c_Elimination (by decide) rfl (Nat.le_of_ble_eq_true rfl) rfl wf_Elimination_21 d_Elimination_smallestWidth_1 rfl ?_
  refine r_iconst (v := 0) hg d_Elimination_smallestWidth_4 (by decide) ?_
  refine r_iconst (v := -1) hg d_Elimination_smallestWidth_5 (by decide) ?_
  refine r_iast hg (by decide) rfl d_Elimination_smallestWidth_6 ?_
  refine r_letM (fun μ_6 => ?_)
  refine r_iconst (v := 1) hg d_Elimination_smallestWidth_7 (by decide) ?_
  refine r_istore_n (l' := [(2, .int 1), (0, .ref 92), (1, .ref a1)]) hg d_Elimination_smallestWidth_8 rfl (Nat.le_of_ble_eq_true rfl) rfl ?_
  refine r_sub [1, 2, 0] rfl ?_
  exact t_Elimination_smallestWidth_L9 hg hA f_Elimination_smallestWidth_J101 (t_Elimination_smallestWidth_J101 hg hA) h_fuel a1 h_a1 1 μ_6
theorem t_Elimination_smallestWidth (a1 : Nat) (h_a1 : HIsG a1) (μ : HMem) : HSpec y_Elimination_smallestWidth b_Elimination_smallestWidth 6 (some .int) 4 h_eI [.ref 92, .ref a1] μ (f_Elimination_smallestWidth a1 μ) :=
  HSpec.of (by decide +kernel) (v_Elimination_smallestWidth.1 _ (by simp)) (Nat.le_of_ble_eq_true rfl) (fun cx hA hg => t_Elimination_smallestWidth_0 hg hA a1 h_a1 μ)
theorem t_Bijections_edgesOfWeight_J34 {cx : HCx} (hg : HGood cx R_Bijections b_Bijections_edgesOfWeight 5 2 (some .int)) (hA : h_own cx)  (rec_ : Nat → Int32 → Int32 → Int32 → Int32 → HMem → Option (Int32 × HMem)) (hrec_ : p_Bijections_edgesOfWeight_5 cx rec_) (a0 : Nat) (h_a0 : HIsG a0) (v1 : Int32) (v2 : Int32) (v3 : Int32) (v4 : Int32) (μ : HMem) : HX cx (HQ cx h_eI) (f_Bijections_edgesOfWeight_J34  rec_ a0 v1 v2 v3 v4 μ) 0 0 34 [(0, .ref a0), (1, .int v1), (2, .int v2), (3, .int v3), (4, .int v4)] [] μ := by
  unfold f_Bijections_edgesOfWeight_J34
  refine r_letE (fun v4_34 he_34 => ?_)
  refine r_iinc (v := v4_34) (l' := [(4, .int v4_34), (0, .ref a0), (1, .int v1), (2, .int v2), (3, .int v3)]) hg 4 d_Bijections_edgesOfWeight_34 rfl he_34 (Nat.le_of_ble_eq_true rfl) rfl ?_
  refine r_goto (tgt := 5) hg d_Bijections_edgesOfWeight_37 (by decide) ?_
  refine r_sub [1, 2, 3, 4, 0] rfl ?_
  exact hrec_ a0 h_a0 v1 v2 v3 v4_34 μ
theorem t_Bijections_edgesOfWeight_L5_b {cx : HCx} (hg : HGood cx R_Bijections b_Bijections_edgesOfWeight 5 2 (some .int)) (hA : h_own cx)  (rec_ : Nat → Int32 → Int32 → Int32 → Int32 → HMem → Option (Int32 × HMem)) (hrec_ : p_Bijections_edgesOfWeight_5 cx rec_) (a0 : Nat) (h_a0 : HIsG a0) (v1 : Int32) (v2 : Int32) (v3 : Int32) (v4 : Int32) (μ : HMem) : HX cx (HQ cx h_eI) (f_Bijections_edgesOfWeight_L5_b  rec_ a0 v1 v2 v3 v4 μ) 0 0 5 [(0, .ref a0), (1, .int v1), (2, .int v2), (3, .int v3), (4, .int v4)] [] μ := by
  unfold f_Bijections_edgesOfWeight_L5_b
  refine r_iload hg 4 d_Bijections_edgesOfWeight_5 rfl ?_
  refine r_aload_n hg 0 d_Bijections_edgesOfWeight_7 rfl rfl ?_
  refine r_get (v := .int (μ.1 a0 0)) hg c_Graph (h_G_lt h_a0) (h_G_kd h_a0) (Nat.le_of_ble_eq_true rfl) (h_G_fl0 h_a0) wf_Bijections_21 d_Bijections_edgesOfWeight_8 rfl ?_
  refine r_icmp_ge (tgt := 40) hg d_Bijections_edgesOfWeight_11 (by decide) ?_ ?_
  · refine r_iload_n hg 3 d_Bijections_edgesOfWeight_40 rfl rfl ?_
    exact r_iret hg hA rfl d_Bijections_edgesOfWeight_41 rfl
  · refine r_iload hg 4 d_Bijections_edgesOfWeight_14 rfl ?_
    refine r_iload_n hg 1 d_Bijections_edgesOfWeight_16 rfl rfl ?_
    refine r_icmp_eq (tgt := 34) hg d_Bijections_edgesOfWeight_17 (by decide) ?_ ?_
    · exact t_Bijections_edgesOfWeight_J34 hg hA rec_ hrec_ a0 h_a0 v1 v2 v3 v4 μ
    · refine r_aload_n hg 0 d_Bijections_edgesOfWeight_20 rfl rfl ?_
      refine r_iload_n hg 1 d_Bijections_edgesOfWeight_21 rfl rfl ?_
      refine r_iload hg 4 d_Bijections_edgesOfWeight_22 rfl ?_
      refine r_callV (As := [.int v1, .int v4]) hg (t_Graph_between a0 h_a0 v1 v4 μ) v_Graph_between c_Graph rfl (h_G_lt h_a0) (h_G_kd h_a0) wm_Bijections_51 d_Bijections_edgesOfWeight_24 rfl ⟨by decide, by decide⟩ (Nat.le_of_ble_eq_true rfl) rfl (fun r24 μ_24 _ => ?_)
      refine r_iload_n hg 2 d_Bijections_edgesOfWeight_27 rfl rfl ?_
      refine r_icmp_ne (tgt := 34) hg d_Bijections_edgesOfWeight_28 (by decide) ?_ ?_
      · exact t_Bijections_edgesOfWeight_J34 hg hA rec_ hrec_ a0 h_a0 v1 v2 v3 v4 μ_24
      · refine r_letE (fun v3_31 he_31 => ?_)
        refine r_iinc (v := v3_31) (l' := [(3, .int v3_31), (0, .ref a0), (1, .int v1), (2, .int v2), (4, .int v4)]) hg 3 d_Bijections_edgesOfWeight_31 rfl he_31 (Nat.le_of_ble_eq_true rfl) rfl ?_
        refine r_sub [1, 2, 3, 0, 4] rfl ?_
        exact t_Bijections_edgesOfWeight_J34 hg hA rec_ hrec_ a0 h_a0 v1 v2 v3_31 v4 μ_24
theorem t_Bijections_edgesOfWeight_L5 {cx : HCx} (hg : HGood cx R_Bijections b_Bijections_edgesOfWeight 5 2 (some .int)) (hA : h_own cx)  : ∀ (fuel : Nat) (a0 : Nat) (h_a0 : HIsG a0) (v1 : Int32) (v2 : Int32) (v3 : Int32) (v4 : Int32) (μ : HMem), HX cx (HQ cx h_eI) (f_Bijections_edgesOfWeight_L5  fuel a0 v1 v2 v3 v4 μ) 0 0 5 [(0, .ref a0), (1, .int v1), (2, .int v2), (3, .int v3), (4, .int v4)] [] μ
  | 0, _, _, _, _, _, _, _ => by unfold f_Bijections_edgesOfWeight_L5; exact HX.none
  | fuel + 1, a0, h_a0, v1, v2, v3, v4, μ => by
    rw [f_Bijections_edgesOfWeight_L5]
    exact t_Bijections_edgesOfWeight_L5_b hg hA   (f_Bijections_edgesOfWeight_L5  fuel) (t_Bijections_edgesOfWeight_L5 hg hA   fuel) a0 h_a0 v1 v2 v3 v4 μ
theorem t_Bijections_edgesOfWeight_0 {cx : HCx} (hg : HGood cx R_Bijections b_Bijections_edgesOfWeight 5 2 (some .int)) (hA : h_own cx) (a0 : Nat) (h_a0 : HIsG a0) (v1 : Int32) (v2 : Int32) (μ : HMem) : HX cx (HQ cx h_eI) (f_Bijections_edgesOfWeight a0 v1 v2 μ) 0 0 0 [(0, .ref a0), (1, .int v1), (2, .int v2)] [] μ := by
  unfold f_Bijections_edgesOfWeight
  refine r_iconst (v := 0) hg d_Bijections_edgesOfWeight_0 (by decide) ?_
  refine r_istore_n (l' := [(3, .int 0), (0, .ref a0), (1, .int v1), (2, .int v2)]) hg d_Bijections_edgesOfWeight_1 rfl (Nat.le_of_ble_eq_true rfl) rfl ?_
  refine r_iconst (v := 0) hg d_Bijections_edgesOfWeight_2 (by decide) ?_
  refine r_istore (l' := [(4, .int 0), (3, .int 0), (0, .ref a0), (1, .int v1), (2, .int v2)]) hg d_Bijections_edgesOfWeight_3 (Nat.le_of_ble_eq_true rfl) rfl ?_
  refine r_sub [2, 3, 4, 1, 0] rfl ?_
  exact t_Bijections_edgesOfWeight_L5 hg hA h_fuel a0 h_a0 v1 v2 0 0 μ
theorem t_Bijections_edgesOfWeight (a0 : Nat) (h_a0 : HIsG a0) (v1 : Int32) (v2 : Int32) (μ : HMem) : HSpec y_Bijections_edgesOfWeight b_Bijections_edgesOfWeight 5 (some .int) 2 h_eI [.ref a0, .int v1, .int v2] μ (f_Bijections_edgesOfWeight a0 v1 v2 μ) :=
  HSpec.of (by decide +kernel) (v_Bijections_edgesOfWeight.1 _ (by simp)) (Nat.le_of_ble_eq_true rfl) (fun cx hA hg => t_Bijections_edgesOfWeight_0 hg hA a0 h_a0 v1 v2 μ)
theorem t_Bijections_mark_L35_b {cx : HCx} (hg : HGood cx R_Bijections b_Bijections_mark 5 3 none) (hA : h_own cx) (K60 : Nat → Nat → Int32 → Int32 → HMem → Option (Unit × HMem)) (hK60 : p_Bijections_mark_60 cx K60) (rec_ : Nat → Nat → Int32 → Int32 → Int32 → HMem → Option (Unit × HMem)) (hrec_ : p_Bijections_mark_35 cx rec_) (a0 : Nat) (h_a0 : HIsG a0) (a1 : Nat) (h_a1 : HIsI a1) (v2 : Int32) (v3 : Int32) (v4 : Int32) (μ : HMem) : HX cx (HQ cx h_eV) (f_Bijections_mark_L35_b K60 rec_ a0 a1 v2 v3 v4 μ) 0 0 35 [(0, .ref a0), (1, .ref a1), (2, .int v2), (3, .int v3), (4, .int v4)] [] μ := by
  unfold f_Bijections_mark_L35_b
  refine r_iload hg 4 d_Bijections_mark_35 rfl ?_
  refine r_iconst (v := 2) hg d_Bijections_mark_37 (by decide) ?_
  refine r_icmp_gt (tgt := 60) hg d_Bijections_mark_38 (by decide) ?_ ?_
  · refine r_sub [0, 1, 2, 3] rfl ?_
    exact hK60 a0 h_a0 a1 h_a1 v2 v3 μ
  · refine r_bipush (v := 8) hg d_Bijections_mark_41 (by decide) ?_
    refine r_iload_n hg 3 d_Bijections_mark_43 rfl rfl ?_
    refine r_imul hg d_Bijections_mark_44 ?_
    refine r_aload_n hg 0 d_Bijections_mark_45 rfl rfl ?_
    refine r_iload_n hg 2 d_Bijections_mark_46 rfl rfl ?_
    refine r_iload hg 4 d_Bijections_mark_47 rfl ?_
    refine r_callS (As := [.ref a0, .int v2, .int v4]) hg (t_Bijections_edgesOfWeight a0 h_a0 v2 v4 μ) v_Bijections_edgesOfWeight wm_Bijections_58 d_Bijections_mark_49 rfl ⟨by decide, by decide⟩ (Nat.le_of_ble_eq_true rfl) rfl (fun r49 μ_49 _ => ?_)
    refine r_iadd hg d_Bijections_mark_52 ?_
    refine r_letI (fun v3_53 => ?_)
    refine r_istore_n (l' := [(3, .int v3_53), (0, .ref a0), (1, .ref a1), (2, .int v2), (4, .int v4)]) hg d_Bijections_mark_53 rfl (Nat.le_of_ble_eq_true rfl) rfl ?_
    refine r_letE (fun v4_54 he_54 => ?_)
    refine r_iinc (v := v4_54) (l' := [(4, .int v4_54), (3, .int v3_53), (0, .ref a0), (1, .ref a1), (2, .int v2)]) hg 4 d_Bijections_mark_54 rfl he_54 (Nat.le_of_ble_eq_true rfl) rfl ?_
    refine r_goto (tgt := 35) hg d_Bijections_mark_57 (by decide) ?_
    refine r_sub [2, 3, 4, 1, 0] rfl ?_
    exact hrec_ a0 h_a0 a1 h_a1 v2 v3_53 v4_54 μ_49
theorem t_Bijections_mark_L35 {cx : HCx} (hg : HGood cx R_Bijections b_Bijections_mark 5 3 none) (hA : h_own cx) (K60 : Nat → Nat → Int32 → Int32 → HMem → Option (Unit × HMem)) (hK60 : p_Bijections_mark_60 cx K60) : ∀ (fuel : Nat) (a0 : Nat) (h_a0 : HIsG a0) (a1 : Nat) (h_a1 : HIsI a1) (v2 : Int32) (v3 : Int32) (v4 : Int32) (μ : HMem), HX cx (HQ cx h_eV) (f_Bijections_mark_L35 K60 fuel a0 a1 v2 v3 v4 μ) 0 0 35 [(0, .ref a0), (1, .ref a1), (2, .int v2), (3, .int v3), (4, .int v4)] [] μ
  | 0, _, _, _, _, _, _, _, _ => by unfold f_Bijections_mark_L35; exact HX.none
  | fuel + 1, a0, h_a0, a1, h_a1, v2, v3, v4, μ => by
    rw [f_Bijections_mark_L35]
    exact t_Bijections_mark_L35_b hg hA  K60 hK60 (f_Bijections_mark_L35 K60 fuel) (t_Bijections_mark_L35 hg hA  K60 hK60 fuel) a0 h_a0 a1 h_a1 v2 v3 v4 μ
theorem t_Bijections_mark_J60 {cx : HCx} (hg : HGood cx R_Bijections b_Bijections_mark 5 3 none) (hA : h_own cx)  (rec_ : Nat → Nat → Int32 → HMem → Option (Unit × HMem)) (hrec_ : p_Bijections_mark_2 cx rec_) (a0 : Nat) (h_a0 : HIsG a0) (a1 : Nat) (h_a1 : HIsI a1) (v2 : Int32) (v3 : Int32) (μ : HMem) : HX cx (HQ cx h_eV) (f_Bijections_mark_J60  rec_ a0 a1 v2 v3 μ) 0 0 60 [(0, .ref a0), (1, .ref a1), (2, .int v2), (3, .int v3)] [] μ := by
  unfold f_Bijections_mark_J60
  refine r_aload_n hg 1 d_Bijections_mark_60 rfl rfl ?_
  refine r_iload_n hg 2 d_Bijections_mark_61 rfl rfl ?_
  refine r_iload_n hg 3 d_Bijections_mark_62 rfl rfl ?_
  refine r_iast hg (h_a1).1 (h_a1).2 d_Bijections_mark_63 ?_
  refine r_letM (fun μ_63 => ?_)
  refine r_letE (fun v2_64 he_64 => ?_)
  refine r_iinc (v := v2_64) (l' := [(2, .int v2_64), (0, .ref a0), (1, .ref a1), (3, .int v3)]) hg 2 d_Bijections_mark_64 rfl he_64 (Nat.le_of_ble_eq_true rfl) rfl ?_
  refine r_goto (tgt := 2) hg d_Bijections_mark_67 (by decide) ?_
  refine r_sub [1, 2, 0] rfl ?_
  exact hrec_ a0 h_a0 a1 h_a1 v2_64 μ_63
theorem t_Bijections_mark_L2_b {cx : HCx} (hg : HGood cx R_Bijections b_Bijections_mark 5 3 none) (hA : h_own cx)  (rec_ : Nat → Nat → Int32 → HMem → Option (Unit × HMem)) (hrec_ : p_Bijections_mark_2 cx rec_) (a0 : Nat) (h_a0 : HIsG a0) (a1 : Nat) (h_a1 : HIsI a1) (v2 : Int32) (μ : HMem) : HX cx (HQ cx h_eV) (f_Bijections_mark_L2_b  rec_ a0 a1 v2 μ) 0 0 2 [(0, .ref a0), (1, .ref a1), (2, .int v2)] [] μ := by
  unfold f_Bijections_mark_L2_b
  refine r_iload_n hg 2 d_Bijections_mark_2 rfl rfl ?_
  refine r_aload_n hg 0 d_Bijections_mark_3 rfl rfl ?_
  refine r_get (v := .int (μ.1 a0 0)) hg c_Graph (h_G_lt h_a0) (h_G_kd h_a0) (Nat.le_of_ble_eq_true rfl) (h_G_fl0 h_a0) wf_Bijections_21 d_Bijections_mark_4 rfl ?_
  refine r_icmp_ge (tgt := 70) hg d_Bijections_mark_7 (by decide) ?_ ?_
  · exact r_vret hg hA rfl d_Bijections_mark_70 rfl
  · refine r_bipush (v := 8) hg d_Bijections_mark_10 (by decide) ?_
    refine r_aload_n hg 0 d_Bijections_mark_12 rfl rfl ?_
    refine r_get (v := .ref (a0 + 1)) hg c_Graph (h_G_lt h_a0) (h_G_kd h_a0) (Nat.le_of_ble_eq_true rfl) (h_G_fl1 h_a0) wf_Bijections_55 d_Bijections_mark_13 rfl ?_
    refine r_iload_n hg 2 d_Bijections_mark_16 rfl rfl ?_
    refine r_iald hg (h_G_lt1 h_a0) (h_G_kd1 h_a0) d_Bijections_mark_17 ?_
    refine r_iconst (v := 3) hg d_Bijections_mark_18 (by decide) ?_
    refine r_iadd hg d_Bijections_mark_19 ?_
    refine r_imul hg d_Bijections_mark_20 ?_
    refine r_aload_n hg 0 d_Bijections_mark_21 rfl rfl ?_
    refine r_iload_n hg 2 d_Bijections_mark_22 rfl rfl ?_
    refine r_iload_n hg 2 d_Bijections_mark_23 rfl rfl ?_
    refine r_callV (As := [.int v2, .int v2]) hg (t_Graph_between a0 h_a0 v2 v2 μ) v_Graph_between c_Graph rfl (h_G_lt h_a0) (h_G_kd h_a0) wm_Bijections_51 d_Bijections_mark_24 rfl ⟨by decide, by decide⟩ (Nat.le_of_ble_eq_true rfl) rfl (fun r24 μ_24 _ => ?_)
    refine r_iadd hg d_Bijections_mark_27 ?_
    refine r_iconst (v := 2) hg d_Bijections_mark_28 (by decide) ?_
    refine r_iadd hg d_Bijections_mark_29 ?_
    refine r_letI (fun v3_30 => ?_)
    refine r_istore_n (l' := [(3, .int v3_30), (0, .ref a0), (1, .ref a1), (2, .int v2)]) hg d_Bijections_mark_30 rfl (Nat.le_of_ble_eq_true rfl) rfl ?_
    refine r_bipush (v := -2) hg d_Bijections_mark_31 (by decide) ?_
    refine r_istore (l' := [(4, .int (-2)), (3, .int v3_30), (0, .ref a0), (1, .ref a1), (2, .int v2)]) hg d_Bijections_mark_33 (Nat.le_of_ble_eq_true rfl) rfl ?_
    refine r_sub [2, 3, 4, 1, 0] rfl ?_
    exact t_Bijections_mark_L35 hg hA (f_Bijections_mark_J60 rec_) (t_Bijections_mark_J60 hg hA rec_ hrec_) h_fuel a0 h_a0 a1 h_a1 v2 v3_30 (-2) μ_24
theorem t_Bijections_mark_L2 {cx : HCx} (hg : HGood cx R_Bijections b_Bijections_mark 5 3 none) (hA : h_own cx)  : ∀ (fuel : Nat) (a0 : Nat) (h_a0 : HIsG a0) (a1 : Nat) (h_a1 : HIsI a1) (v2 : Int32) (μ : HMem), HX cx (HQ cx h_eV) (f_Bijections_mark_L2  fuel a0 a1 v2 μ) 0 0 2 [(0, .ref a0), (1, .ref a1), (2, .int v2)] [] μ
  | 0, _, _, _, _, _, _ => by unfold f_Bijections_mark_L2; exact HX.none
  | fuel + 1, a0, h_a0, a1, h_a1, v2, μ => by
    rw [f_Bijections_mark_L2]
    exact t_Bijections_mark_L2_b hg hA   (f_Bijections_mark_L2  fuel) (t_Bijections_mark_L2 hg hA   fuel) a0 h_a0 a1 h_a1 v2 μ
theorem t_Bijections_mark_0 {cx : HCx} (hg : HGood cx R_Bijections b_Bijections_mark 5 3 none) (hA : h_own cx) (a0 : Nat) (h_a0 : HIsG a0) (a1 : Nat) (h_a1 : HIsI a1) (μ : HMem) : HX cx (HQ cx h_eV) (f_Bijections_mark a0 a1 μ) 0 0 0 [(0, .ref a0), (1, .ref a1)] [] μ := by
  unfold f_Bijections_mark
  refine r_iconst (v := 0) hg d_Bijections_mark_0 (by decide) ?_
  refine r_istore_n (l' := [(2, .int 0), (0, .ref a0), (1, .ref a1)]) hg d_Bijections_mark_1 rfl (Nat.le_of_ble_eq_true rfl) rfl ?_
  refine r_sub [1, 2, 0] rfl ?_
  exact t_Bijections_mark_L2 hg hA h_fuel a0 h_a0 a1 h_a1 0 μ
theorem t_Bijections_mark (a0 : Nat) (h_a0 : HIsG a0) (a1 : Nat) (h_a1 : HIsI a1) (μ : HMem) : HSpec y_Bijections_mark b_Bijections_mark 5 none 3 h_eV [.ref a0, .ref a1] μ (f_Bijections_mark a0 a1 μ) :=
  HSpec.of (by decide +kernel) (v_Bijections_mark.1 _ (by simp)) (Nat.le_of_ble_eq_true rfl) (fun cx hA hg => t_Bijections_mark_0 hg hA a0 h_a0 a1 h_a1 μ)
theorem t_Bijections_fits_L21_b {cx : HCx} (hg : HGood cx R_Bijections b_Bijections_fits 6 2 (some .boolean)) (hA : h_own cx)  (rec_ : Nat → Nat → Int32 → Int32 → Int32 → HMem → Option (Int32 × HMem)) (hrec_ : p_Bijections_fits_21 cx rec_) (a1 : Nat) (h_a1 : HIsG a1) (a2 : Nat) (h_a2 : HIsG a2) (v3 : Int32) (v4 : Int32) (v5 : Int32) (μ : HMem) : HX cx (HQ cx h_eI) (f_Bijections_fits_L21_b  rec_ a1 a2 v3 v4 v5 μ) 0 0 21 [(0, .ref 117), (1, .ref a1), (2, .ref a2), (3, .int v3), (4, .int v4), (5, .int v5)] [] μ := by
  unfold f_Bijections_fits_L21_b
  refine r_iload hg 5 d_Bijections_fits_21 rfl ?_
  refine r_iload_n hg 3 d_Bijections_fits_23 rfl rfl ?_
  refine r_icmp_ge (tgt := 58) hg d_Bijections_fits_24 (by decide) ?_ ?_
  · refine r_iconst (v := 1) hg d_Bijections_fits_58 (by decide) ?_
    exact r_zretB hg hA rfl d_Bijections_fits_59 rfl
  · refine r_aload_n hg 1 d_Bijections_fits_27 rfl rfl ?_
    refine r_iload hg 5 d_Bijections_fits_28 rfl ?_
    refine r_iload_n hg 3 d_Bijections_fits_30 rfl rfl ?_
    refine r_callV (As := [.int v5, .int v3]) hg (t_Graph_between a1 h_a1 v5 v3 μ) v_Graph_between c_Graph rfl (h_G_lt h_a1) (h_G_kd h_a1) wm_Bijections_51 d_Bijections_fits_31 rfl ⟨by decide, by decide⟩ (Nat.le_of_ble_eq_true rfl) rfl (fun r31 μ_31 _ => ?_)
    refine r_aload_n hg 2 d_Bijections_fits_34 rfl rfl ?_
    refine r_aload_n hg 0 d_Bijections_fits_35 rfl rfl ?_
    refine r_get (v := .ref 120) hg c_Bijections (by decide) rfl (Nat.le_of_ble_eq_true rfl) rfl wf_Bijections_18 d_Bijections_fits_36 rfl ?_
    refine r_iload hg 5 d_Bijections_fits_39 rfl ?_
    refine r_iald hg (by decide) rfl d_Bijections_fits_41 ?_
    refine r_iload hg 4 d_Bijections_fits_42 rfl ?_
    refine r_callV (As := [.int (μ_31.1 120 (Int32.toNatClampNeg (v5))), .int v4]) hg (t_Graph_between a2 h_a2 (μ_31.1 120 (Int32.toNatClampNeg (v5))) v4 μ_31) v_Graph_between c_Graph rfl (h_G_lt h_a2) (h_G_kd h_a2) wm_Bijections_51 d_Bijections_fits_44 rfl ⟨by decide, by decide⟩ (Nat.le_of_ble_eq_true rfl) rfl (fun r44 μ_44 _ => ?_)
    refine r_icmp_eq (tgt := 52) hg d_Bijections_fits_47 (by decide) ?_ ?_
    · refine r_letE (fun v5_52 he_52 => ?_)
      refine r_iinc (v := v5_52) (l' := [(5, .int v5_52), (0, .ref 117), (1, .ref a1), (2, .ref a2), (3, .int v3), (4, .int v4)]) hg 5 d_Bijections_fits_52 rfl he_52 (Nat.le_of_ble_eq_true rfl) rfl ?_
      refine r_goto (tgt := 21) hg d_Bijections_fits_55 (by decide) ?_
      refine r_sub [1, 2, 3, 4, 5, 0] rfl ?_
      exact hrec_ a1 h_a1 a2 h_a2 v3 v4 v5_52 μ_44
    · refine r_iconst (v := 0) hg d_Bijections_fits_50 (by decide) ?_
      exact r_zretB hg hA rfl d_Bijections_fits_51 rfl
theorem t_Bijections_fits_L21 {cx : HCx} (hg : HGood cx R_Bijections b_Bijections_fits 6 2 (some .boolean)) (hA : h_own cx)  : ∀ (fuel : Nat) (a1 : Nat) (h_a1 : HIsG a1) (a2 : Nat) (h_a2 : HIsG a2) (v3 : Int32) (v4 : Int32) (v5 : Int32) (μ : HMem), HX cx (HQ cx h_eI) (f_Bijections_fits_L21  fuel a1 a2 v3 v4 v5 μ) 0 0 21 [(0, .ref 117), (1, .ref a1), (2, .ref a2), (3, .int v3), (4, .int v4), (5, .int v5)] [] μ
  | 0, _, _, _, _, _, _, _, _ => by unfold f_Bijections_fits_L21; exact HX.none
  | fuel + 1, a1, h_a1, a2, h_a2, v3, v4, v5, μ => by
    rw [f_Bijections_fits_L21]
    exact t_Bijections_fits_L21_b hg hA   (f_Bijections_fits_L21  fuel) (t_Bijections_fits_L21 hg hA   fuel) a1 h_a1 a2 h_a2 v3 v4 v5 μ
theorem t_Bijections_fits_0 {cx : HCx} (hg : HGood cx R_Bijections b_Bijections_fits 6 2 (some .boolean)) (hA : h_own cx) (a1 : Nat) (h_a1 : HIsG a1) (a2 : Nat) (h_a2 : HIsG a2) (v3 : Int32) (v4 : Int32) (μ : HMem) : HX cx (HQ cx h_eI) (f_Bijections_fits a1 a2 v3 v4 μ) 0 0 0 [(0, .ref 117), (1, .ref a1), (2, .ref a2), (3, .int v3), (4, .int v4)] [] μ := by
  unfold f_Bijections_fits
  refine r_aload_n hg 0 d_Bijections_fits_0 rfl rfl ?_
  refine r_get (v := .ref 118) hg c_Bijections (by decide) rfl (Nat.le_of_ble_eq_true rfl) rfl wf_Bijections_9 d_Bijections_fits_1 rfl ?_
  refine r_iload_n hg 3 d_Bijections_fits_4 rfl rfl ?_
  refine r_iald hg (by decide) rfl d_Bijections_fits_5 ?_
  refine r_aload_n hg 0 d_Bijections_fits_6 rfl rfl ?_
  refine r_get (v := .ref 119) hg c_Bijections (by decide) rfl (Nat.le_of_ble_eq_true rfl) rfl wf_Bijections_15 d_Bijections_fits_7 rfl ?_
  refine r_iload hg 4 d_Bijections_fits_10 rfl ?_
  refine r_iald hg (by decide) rfl d_Bijections_fits_12 ?_
  refine r_icmp_eq (tgt := 18) hg d_Bijections_fits_13 (by decide) ?_ ?_
  · refine r_iconst (v := 0) hg d_Bijections_fits_18 (by decide) ?_
    refine r_istore (l' := [(5, .int 0), (0, .ref 117), (1, .ref a1), (2, .ref a2), (3, .int v3), (4, .int v4)]) hg d_Bijections_fits_19 (Nat.le_of_ble_eq_true rfl) rfl ?_
    refine r_sub [1, 2, 3, 4, 5, 0] rfl ?_
    exact t_Bijections_fits_L21 hg hA h_fuel a1 h_a1 a2 h_a2 v3 v4 0 μ
  · refine r_iconst (v := 0) hg d_Bijections_fits_16 (by decide) ?_
    exact r_zretB hg hA rfl d_Bijections_fits_17 rfl
theorem t_Bijections_fits (a1 : Nat) (h_a1 : HIsG a1) (a2 : Nat) (h_a2 : HIsG a2) (v3 : Int32) (v4 : Int32) (μ : HMem) : HSpec y_Bijections_fits b_Bijections_fits 6 (some .boolean) 2 h_eI [.ref 117, .ref a1, .ref a2, .int v3, .int v4] μ (f_Bijections_fits a1 a2 v3 v4 μ) :=
  HSpec.of (by decide +kernel) (v_Bijections_fits.1 _ (by simp)) (Nat.le_of_ble_eq_true rfl) (fun cx hA hg => t_Bijections_fits_0 hg hA a1 h_a1 a2 h_a2 v3 v4 μ)
theorem t_Bijections_extendable_J73 {rd : Nat} {cx : HCx} (hg : HGood cx R_Bijections b_Bijections_extendable 6 (3 + (rd + 1)) (some .boolean)) (hA : h_own cx) (fr_ : Nat → Nat → Int32 → Int32 → HMem → Option (Int32 × HMem)) (ih : ∀ (a1 : Nat) (h_a1 : HIsG a1) (a2 : Nat) (h_a2 : HIsG a2) (v3 : Int32) (v4 : Int32) (μ : HMem), HSpec y_Bijections_extendable b_Bijections_extendable 6 (some .boolean) (3 + rd) h_eI [.ref 117, .ref a1, .ref a2, .int v3, .int v4] μ (fr_ a1 a2 v3 v4 μ))  (rec_ : Nat → Nat → Int32 → Int32 → Int32 → HMem → Option (Int32 × HMem)) (hrec_ : p_Bijections_extendable_13 cx rec_) (a1 : Nat) (h_a1 : HIsG a1) (a2 : Nat) (h_a2 : HIsG a2) (v3 : Int32) (v4 : Int32) (v5 : Int32) (μ : HMem) : HX cx (HQ cx h_eI) (f_Bijections_extendable_J73 fr_  rec_ a1 a2 v3 v4 v5 μ) 0 0 73 [(0, .ref 117), (1, .ref a1), (2, .ref a2), (3, .int v3), (4, .int v4), (5, .int v5)] [] μ := by
  unfold f_Bijections_extendable_J73
  refine r_letE (fun v5_73 he_73 => ?_)
  refine r_iinc (v := v5_73) (l' := [(5, .int v5_73), (0, .ref 117), (1, .ref a1), (2, .ref a2), (3, .int v3), (4, .int v4)]) hg 5 d_Bijections_extendable_73 rfl he_73 (Nat.le_of_ble_eq_true rfl) rfl ?_
  refine r_goto (tgt := 13) hg d_Bijections_extendable_76 (by decide) ?_
  refine r_sub [1, 2, 3, 4, 5, 0] rfl ?_
  exact hrec_ a1 h_a1 a2 h_a2 v3 v4 v5_73 μ
theorem t_Bijections_extendable_L13_b {rd : Nat} {cx : HCx} (hg : HGood cx R_Bijections b_Bijections_extendable 6 (3 + (rd + 1)) (some .boolean)) (hA : h_own cx) (fr_ : Nat → Nat → Int32 → Int32 → HMem → Option (Int32 × HMem)) (ih : ∀ (a1 : Nat) (h_a1 : HIsG a1) (a2 : Nat) (h_a2 : HIsG a2) (v3 : Int32) (v4 : Int32) (μ : HMem), HSpec y_Bijections_extendable b_Bijections_extendable 6 (some .boolean) (3 + rd) h_eI [.ref 117, .ref a1, .ref a2, .int v3, .int v4] μ (fr_ a1 a2 v3 v4 μ))  (rec_ : Nat → Nat → Int32 → Int32 → Int32 → HMem → Option (Int32 × HMem)) (hrec_ : p_Bijections_extendable_13 cx rec_) (a1 : Nat) (h_a1 : HIsG a1) (a2 : Nat) (h_a2 : HIsG a2) (v3 : Int32) (v4 : Int32) (v5 : Int32) (μ : HMem) : HX cx (HQ cx h_eI) (f_Bijections_extendable_L13_b fr_  rec_ a1 a2 v3 v4 v5 μ) 0 0 13 [(0, .ref 117), (1, .ref a1), (2, .ref a2), (3, .int v3), (4, .int v4), (5, .int v5)] [] μ := by
  unfold f_Bijections_extendable_L13_b
  refine r_iload hg 5 d_Bijections_extendable_13 rfl ?_
  refine r_aload_n hg 2 d_Bijections_extendable_15 rfl rfl ?_
  refine r_get (v := .int (μ.1 a2 0)) hg c_Graph (h_G_lt h_a2) (h_G_kd h_a2) (Nat.le_of_ble_eq_true rfl) (h_G_fl0 h_a2) wf_Bijections_21 d_Bijections_extendable_16 rfl ?_
  refine r_icmp_ge (tgt := 79) hg d_Bijections_extendable_19 (by decide) ?_ ?_
  · refine r_iconst (v := 0) hg d_Bijections_extendable_79 (by decide) ?_
    exact r_zretB hg hA rfl d_Bijections_extendable_80 rfl
  · refine r_iload hg 4 d_Bijections_extendable_22 rfl ?_
    refine r_iload hg 5 d_Bijections_extendable_24 rfl ?_
    refine r_callN (As := [.int v4, .int v5]) (host := "HomBench") hg (t_Bench_has v4 v5 μ) v_Bench_has (by decide) d_Bijections_extendable_26 rfl ⟨by omega, by decide⟩ (Nat.le_of_ble_eq_true rfl) rfl (fun r26 μ_26 _ => ?_)
    refine r_if_ne (tgt := 73) hg d_Bijections_extendable_29 (by decide) ?_ ?_
    · exact t_Bijections_extendable_J73 hg hA fr_ ih rec_ hrec_ a1 h_a1 a2 h_a2 v3 v4 v5 μ_26
    · refine r_aload_n hg 0 d_Bijections_extendable_32 rfl rfl ?_
      refine r_aload_n hg 1 d_Bijections_extendable_33 rfl rfl ?_
      refine r_aload_n hg 2 d_Bijections_extendable_34 rfl rfl ?_
      refine r_iload_n hg 3 d_Bijections_extendable_35 rfl rfl ?_
      refine r_iload hg 5 d_Bijections_extendable_36 rfl ?_
      refine r_callV (As := [.ref a1, .ref a2, .int v3, .int v5]) hg (t_Bijections_fits a1 h_a1 a2 h_a2 v3 v5 μ_26) v_Bijections_fits c_Bijections rfl (by decide) rfl wm_Bijections_43 d_Bijections_extendable_38 rfl ⟨by omega, by decide⟩ (Nat.le_of_ble_eq_true rfl) rfl (fun r38 μ_38 _ => ?_)
      refine r_if_eq (tgt := 73) hg d_Bijections_extendable_41 (by decide) ?_ ?_
      · exact t_Bijections_extendable_J73 hg hA fr_ ih rec_ hrec_ a1 h_a1 a2 h_a2 v3 v4 v5 μ_38
      · refine r_aload_n hg 0 d_Bijections_extendable_44 rfl rfl ?_
        refine r_get (v := .ref 120) hg c_Bijections (by decide) rfl (Nat.le_of_ble_eq_true rfl) rfl wf_Bijections_18 d_Bijections_extendable_45 rfl ?_
        refine r_iload_n hg 3 d_Bijections_extendable_48 rfl rfl ?_
        refine r_iload hg 5 d_Bijections_extendable_49 rfl ?_
        refine r_iast hg (by decide) rfl d_Bijections_extendable_51 ?_
        refine r_letM (fun μ_51 => ?_)
        refine r_aload_n hg 0 d_Bijections_extendable_52 rfl rfl ?_
        refine r_aload_n hg 1 d_Bijections_extendable_53 rfl rfl ?_
        refine r_aload_n hg 2 d_Bijections_extendable_54 rfl rfl ?_
        refine r_iload_n hg 3 d_Bijections_extendable_55 rfl rfl ?_
        refine r_iconst (v := 1) hg d_Bijections_extendable_56 (by decide) ?_
        refine r_iadd hg d_Bijections_extendable_57 ?_
        refine r_iload hg 4 d_Bijections_extendable_58 rfl ?_
        refine r_iconst (v := 1) hg d_Bijections_extendable_60 (by decide) ?_
        refine r_iload hg 5 d_Bijections_extendable_61 rfl ?_
        refine r_ishl hg d_Bijections_extendable_63 ?_
        refine r_ior hg d_Bijections_extendable_64 ?_
        refine r_callS (As := [.ref 117, .ref a1, .ref a2, .int (v3 + 1), .int (v4 ||| (h_ishl 1 v5))]) hg (ih a1 h_a1 a2 h_a2 (v3 + 1) (v4 ||| (h_ishl 1 v5)) μ_51) v_Bijections_extendable wm_Bijections_35 d_Bijections_extendable_65 rfl ⟨by omega, by decide⟩ (Nat.le_of_ble_eq_true rfl) rfl (fun r65 μ_65 _ => ?_)
        refine r_if_eq (tgt := 73) hg d_Bijections_extendable_68 (by decide) ?_ ?_
        · exact t_Bijections_extendable_J73 hg hA fr_ ih rec_ hrec_ a1 h_a1 a2 h_a2 v3 v4 v5 μ_65
        · refine r_iconst (v := 1) hg d_Bijections_extendable_71 (by decide) ?_
          exact r_zretB hg hA rfl d_Bijections_extendable_72 rfl
theorem t_Bijections_extendable_L13 {rd : Nat} {cx : HCx} (hg : HGood cx R_Bijections b_Bijections_extendable 6 (3 + (rd + 1)) (some .boolean)) (hA : h_own cx) (fr_ : Nat → Nat → Int32 → Int32 → HMem → Option (Int32 × HMem)) (ih : ∀ (a1 : Nat) (h_a1 : HIsG a1) (a2 : Nat) (h_a2 : HIsG a2) (v3 : Int32) (v4 : Int32) (μ : HMem), HSpec y_Bijections_extendable b_Bijections_extendable 6 (some .boolean) (3 + rd) h_eI [.ref 117, .ref a1, .ref a2, .int v3, .int v4] μ (fr_ a1 a2 v3 v4 μ))  : ∀ (fuel : Nat) (a1 : Nat) (h_a1 : HIsG a1) (a2 : Nat) (h_a2 : HIsG a2) (v3 : Int32) (v4 : Int32) (v5 : Int32) (μ : HMem), HX cx (HQ cx h_eI) (f_Bijections_extendable_L13 fr_  fuel a1 a2 v3 v4 v5 μ) 0 0 13 [(0, .ref 117), (1, .ref a1), (2, .ref a2), (3, .int v3), (4, .int v4), (5, .int v5)] [] μ
  | 0, _, _, _, _, _, _, _, _ => by unfold f_Bijections_extendable_L13; exact HX.none
  | fuel + 1, a1, h_a1, a2, h_a2, v3, v4, v5, μ => by
    rw [f_Bijections_extendable_L13]
    exact t_Bijections_extendable_L13_b hg hA fr_ ih   (f_Bijections_extendable_L13 fr_  fuel) (t_Bijections_extendable_L13 hg hA fr_ ih   fuel) a1 h_a1 a2 h_a2 v3 v4 v5 μ
theorem t_Bijections_extendable_0 {rd : Nat} {cx : HCx} (hg : HGood cx R_Bijections b_Bijections_extendable 6 (3 + (rd + 1)) (some .boolean)) (hA : h_own cx) (fr_ : Nat → Nat → Int32 → Int32 → HMem → Option (Int32 × HMem)) (ih : ∀ (a1 : Nat) (h_a1 : HIsG a1) (a2 : Nat) (h_a2 : HIsG a2) (v3 : Int32) (v4 : Int32) (μ : HMem), HSpec y_Bijections_extendable b_Bijections_extendable 6 (some .boolean) (3 + rd) h_eI [.ref 117, .ref a1, .ref a2, .int v3, .int v4] μ (fr_ a1 a2 v3 v4 μ)) (a1 : Nat) (h_a1 : HIsG a1) (a2 : Nat) (h_a2 : HIsG a2) (v3 : Int32) (v4 : Int32) (μ : HMem) : HX cx (HQ cx h_eI) (f_Bijections_extendable_0 fr_ a1 a2 v3 v4 μ) 0 0 0 [(0, .ref 117), (1, .ref a1), (2, .ref a2), (3, .int v3), (4, .int v4)] [] μ := by
  unfold f_Bijections_extendable_0
  refine r_iload_n hg 3 d_Bijections_extendable_0 rfl rfl ?_
  refine r_aload_n hg 1 d_Bijections_extendable_1 rfl rfl ?_
  refine r_get (v := .int (μ.1 a1 0)) hg c_Graph (h_G_lt h_a1) (h_G_kd h_a1) (Nat.le_of_ble_eq_true rfl) (h_G_fl0 h_a1) wf_Bijections_21 d_Bijections_extendable_2 rfl ?_
  refine r_icmp_lt (tgt := 10) hg d_Bijections_extendable_5 (by decide) ?_ ?_
  · refine r_iconst (v := 0) hg d_Bijections_extendable_10 (by decide) ?_
    refine r_istore (l' := [(5, .int 0), (0, .ref 117), (1, .ref a1), (2, .ref a2), (3, .int v3), (4, .int v4)]) hg d_Bijections_extendable_11 (Nat.le_of_ble_eq_true rfl) rfl ?_
    refine r_sub [1, 2, 3, 4, 5, 0] rfl ?_
    exact t_Bijections_extendable_L13 hg hA fr_ ih h_fuel a1 h_a1 a2 h_a2 v3 v4 0 μ
  · refine r_iconst (v := 1) hg d_Bijections_extendable_8 (by decide) ?_
    exact r_zretB hg hA rfl d_Bijections_extendable_9 rfl
theorem t_Bijections_extendable : ∀ (rd : Nat) (a1 : Nat) (h_a1 : HIsG a1) (a2 : Nat) (h_a2 : HIsG a2) (v3 : Int32) (v4 : Int32) (μ : HMem), HSpec y_Bijections_extendable b_Bijections_extendable 6 (some .boolean) (3 + rd) h_eI [.ref 117, .ref a1, .ref a2, .int v3, .int v4] μ (f_Bijections_extendable rd a1 a2 v3 v4 μ)
  | 0, _, _, _, _, _, _, _ => fun r μ' h => by rw [f_Bijections_extendable] at h; cases h
  | rd + 1, a1, h_a1, a2, h_a2, v3, v4, μ => by
    rw [f_Bijections_extendable]
    exact HSpec.of (by decide +kernel) (v_Bijections_extendable.1 _ (by simp)) (Nat.le_of_ble_eq_true rfl) (fun cx hA hg => t_Bijections_extendable_0 hg hA (f_Bijections_extendable rd) (t_Bijections_extendable rd) a1 h_a1 a2 h_a2 v3 v4 μ)
theorem t_Bijections_imagesWithLowerFixed_J63 {cx : HCx} (hg : HGood cx R_Bijections b_Bijections_imagesWithLowerFixed 6 20 (some .int)) (hA : h_own cx)  (rec_ : Nat → Int32 → Int32 → Int32 → Int32 → HMem → Option (Int32 × HMem)) (hrec_ : p_Bijections_imagesWithLowerFixed_12 cx rec_) (a1 : Nat) (h_a1 : HIsG a1) (v2 : Int32) (v3 : Int32) (v4 : Int32) (v5 : Int32) (μ : HMem) : HX cx (HQ cx h_eI) (f_Bijections_imagesWithLowerFixed_J63  rec_ a1 v2 v3 v4 v5 μ) 0 0 63 [(0, .ref 117), (1, .ref a1), (2, .int v2), (3, .int v3), (4, .int v4), (5, .int v5)] [] μ := by
  unfold f_Bijections_imagesWithLowerFixed_J63
  refine r_letE (fun v5_63 he_63 => ?_)
  refine r_iinc (v := v5_63) (l' := [(5, .int v5_63), (0, .ref 117), (1, .ref a1), (2, .int v2), (3, .int v3), (4, .int v4)]) hg 5 d_Bijections_imagesWithLowerFixed_63 rfl he_63 (Nat.le_of_ble_eq_true rfl) rfl ?_
  refine r_goto (tgt := 12) hg d_Bijections_imagesWithLowerFixed_66 (by decide) ?_
  refine r_sub [1, 2, 3, 4, 5, 0] rfl ?_
  exact hrec_ a1 h_a1 v2 v3 v4 v5_63 μ
theorem t_Bijections_imagesWithLowerFixed_L12_b {cx : HCx} (hg : HGood cx R_Bijections b_Bijections_imagesWithLowerFixed 6 20 (some .int)) (hA : h_own cx)  (rec_ : Nat → Int32 → Int32 → Int32 → Int32 → HMem → Option (Int32 × HMem)) (hrec_ : p_Bijections_imagesWithLowerFixed_12 cx rec_) (a1 : Nat) (h_a1 : HIsG a1) (v2 : Int32) (v3 : Int32) (v4 : Int32) (v5 : Int32) (μ : HMem) : HX cx (HQ cx h_eI) (f_Bijections_imagesWithLowerFixed_L12_b  rec_ a1 v2 v3 v4 v5 μ) 0 0 12 [(0, .ref 117), (1, .ref a1), (2, .int v2), (3, .int v3), (4, .int v4), (5, .int v5)] [] μ := by
  unfold f_Bijections_imagesWithLowerFixed_L12_b
  refine r_iload hg 5 d_Bijections_imagesWithLowerFixed_12 rfl ?_
  refine r_aload_n hg 1 d_Bijections_imagesWithLowerFixed_14 rfl rfl ?_
  refine r_get (v := .int (μ.1 a1 0)) hg c_Graph (h_G_lt h_a1) (h_G_kd h_a1) (Nat.le_of_ble_eq_true rfl) (h_G_fl0 h_a1) wf_Bijections_21 d_Bijections_imagesWithLowerFixed_15 rfl ?_
  refine r_icmp_ge (tgt := 69) hg d_Bijections_imagesWithLowerFixed_18 (by decide) ?_ ?_
  · refine r_iload_n hg 3 d_Bijections_imagesWithLowerFixed_69 rfl rfl ?_
    exact r_iret hg hA rfl d_Bijections_imagesWithLowerFixed_70 rfl
  · refine r_aload_n hg 0 d_Bijections_imagesWithLowerFixed_21 rfl rfl ?_
    refine r_aload_n hg 1 d_Bijections_imagesWithLowerFixed_22 rfl rfl ?_
    refine r_aload_n hg 1 d_Bijections_imagesWithLowerFixed_23 rfl rfl ?_
    refine r_iload_n hg 2 d_Bijections_imagesWithLowerFixed_24 rfl rfl ?_
    refine r_iload hg 5 d_Bijections_imagesWithLowerFixed_25 rfl ?_
    refine r_callV (As := [.ref a1, .ref a1, .int v2, .int v5]) hg (t_Bijections_fits a1 h_a1 a1 h_a1 v2 v5 μ) v_Bijections_fits c_Bijections rfl (by decide) rfl wm_Bijections_43 d_Bijections_imagesWithLowerFixed_27 rfl ⟨by decide, by decide⟩ (Nat.le_of_ble_eq_true rfl) rfl (fun r27 μ_27 _ => ?_)
    refine r_if_eq (tgt := 63) hg d_Bijections_imagesWithLowerFixed_30 (by decide) ?_ ?_
    · exact t_Bijections_imagesWithLowerFixed_J63 hg hA rec_ hrec_ a1 h_a1 v2 v3 v4 v5 μ_27
    · refine r_aload_n hg 0 d_Bijections_imagesWithLowerFixed_33 rfl rfl ?_
      refine r_get (v := .ref 120) hg c_Bijections (by decide) rfl (Nat.le_of_ble_eq_true rfl) rfl wf_Bijections_18 d_Bijections_imagesWithLowerFixed_34 rfl ?_
      refine r_iload_n hg 2 d_Bijections_imagesWithLowerFixed_37 rfl rfl ?_
      refine r_iload hg 5 d_Bijections_imagesWithLowerFixed_38 rfl ?_
      refine r_iast hg (by decide) rfl d_Bijections_imagesWithLowerFixed_40 ?_
      refine r_letM (fun μ_40 => ?_)
      refine r_aload_n hg 0 d_Bijections_imagesWithLowerFixed_41 rfl rfl ?_
      refine r_aload_n hg 1 d_Bijections_imagesWithLowerFixed_42 rfl rfl ?_
      refine r_aload_n hg 1 d_Bijections_imagesWithLowerFixed_43 rfl rfl ?_
      refine r_iload_n hg 2 d_Bijections_imagesWithLowerFixed_44 rfl rfl ?_
      refine r_iconst (v := 1) hg d_Bijections_imagesWithLowerFixed_45 (by decide) ?_
      refine r_iadd hg d_Bijections_imagesWithLowerFixed_46 ?_
      refine r_iload hg 4 d_Bijections_imagesWithLowerFixed_47 rfl ?_
      refine r_iconst (v := 1) hg d_Bijections_imagesWithLowerFixed_49 (by decide) ?_
      refine r_iload hg 5 d_Bijections_imagesWithLowerFixed_50 rfl ?_
      refine r_ishl hg d_Bijections_imagesWithLowerFixed_52 ?_
      refine r_ior hg d_Bijections_imagesWithLowerFixed_53 ?_
      refine r_callS (As := [.ref 117, .ref a1, .ref a1, .int (v2 + 1), .int (v4 ||| (h_ishl 1 v5))]) hg (t_Bijections_extendable h_deep a1 h_a1 a1 h_a1 (v2 + 1) (v4 ||| (h_ishl 1 v5)) μ_40) v_Bijections_extendable wm_Bijections_35 d_Bijections_imagesWithLowerFixed_54 rfl ⟨by decide, by decide⟩ (Nat.le_of_ble_eq_true rfl) rfl (fun r54 μ_54 _ => ?_)
      refine r_if_eq (tgt := 63) hg d_Bijections_imagesWithLowerFixed_57 (by decide) ?_ ?_
      · exact t_Bijections_imagesWithLowerFixed_J63 hg hA rec_ hrec_ a1 h_a1 v2 v3 v4 v5 μ_54
      · refine r_letE (fun v3_60 he_60 => ?_)
        refine r_iinc (v := v3_60) (l' := [(3, .int v3_60), (0, .ref 117), (1, .ref a1), (2, .int v2), (4, .int v4), (5, .int v5)]) hg 3 d_Bijections_imagesWithLowerFixed_60 rfl he_60 (Nat.le_of_ble_eq_true rfl) rfl ?_
        refine r_sub [1, 2, 3, 0, 4, 5] rfl ?_
        exact t_Bijections_imagesWithLowerFixed_J63 hg hA rec_ hrec_ a1 h_a1 v2 v3_60 v4 v5 μ_54
theorem t_Bijections_imagesWithLowerFixed_L12 {cx : HCx} (hg : HGood cx R_Bijections b_Bijections_imagesWithLowerFixed 6 20 (some .int)) (hA : h_own cx)  : ∀ (fuel : Nat) (a1 : Nat) (h_a1 : HIsG a1) (v2 : Int32) (v3 : Int32) (v4 : Int32) (v5 : Int32) (μ : HMem), HX cx (HQ cx h_eI) (f_Bijections_imagesWithLowerFixed_L12  fuel a1 v2 v3 v4 v5 μ) 0 0 12 [(0, .ref 117), (1, .ref a1), (2, .int v2), (3, .int v3), (4, .int v4), (5, .int v5)] [] μ
  | 0, _, _, _, _, _, _, _ => by unfold f_Bijections_imagesWithLowerFixed_L12; exact HX.none
  | fuel + 1, a1, h_a1, v2, v3, v4, v5, μ => by
    rw [f_Bijections_imagesWithLowerFixed_L12]
    exact t_Bijections_imagesWithLowerFixed_L12_b hg hA   (f_Bijections_imagesWithLowerFixed_L12  fuel) (t_Bijections_imagesWithLowerFixed_L12 hg hA   fuel) a1 h_a1 v2 v3 v4 v5 μ
theorem t_Bijections_imagesWithLowerFixed_0 {cx : HCx} (hg : HGood cx R_Bijections b_Bijections_imagesWithLowerFixed 6 20 (some .int)) (hA : h_own cx) (a1 : Nat) (h_a1 : HIsG a1) (v2 : Int32) (μ : HMem) : HX cx (HQ cx h_eI) (f_Bijections_imagesWithLowerFixed a1 v2 μ) 0 0 0 [(0, .ref 117), (1, .ref a1), (2, .int v2)] [] μ := by
  unfold f_Bijections_imagesWithLowerFixed
  refine r_iconst (v := 0) hg d_Bijections_imagesWithLowerFixed_0 (by decide) ?_
  refine r_istore_n (l' := [(3, .int 0), (0, .ref 117), (1, .ref a1), (2, .int v2)]) hg d_Bijections_imagesWithLowerFixed_1 rfl (Nat.le_of_ble_eq_true rfl) rfl ?_
  refine r_iconst (v := 1) hg d_Bijections_imagesWithLowerFixed_2 (by decide) ?_
  refine r_iload_n hg 3 d_Bijections_imagesWithLowerFixed_3 rfl rfl ?_
  refine r_ishl hg d_Bijections_imagesWithLowerFixed_4 ?_
  refine r_iconst (v := 1) hg d_Bijections_imagesWithLowerFixed_5 (by decide) ?_
  refine r_isub hg d_Bijections_imagesWithLowerFixed_6 ?_
  refine r_letI (fun v4_7 => ?_)
  refine r_istore (l' := [(4, .int v4_7), (3, .int 0), (0, .ref 117), (1, .ref a1), (2, .int v2)]) hg d_Bijections_imagesWithLowerFixed_7 (Nat.le_of_ble_eq_true rfl) rfl ?_
  refine r_iload_n hg 4 d_Bijections_imagesWithLowerFixed_9 rfl rfl ?_
  refine r_istore (l' := [(5, .int v2), (4, .int v4_7), (3, .int 0), (0, .ref 117), (1, .ref a1), (2, .int v2)]) hg d_Bijections_imagesWithLowerFixed_10 (Nat.le_of_ble_eq_true rfl) rfl ?_
  refine r_sub [3, 4, 5, 2, 1, 0] rfl ?_
  exact t_Bijections_imagesWithLowerFixed_L12 hg hA h_fuel a1 h_a1 v2 0 v4_7 v2 μ
theorem t_Bijections_imagesWithLowerFixed (a1 : Nat) (h_a1 : HIsG a1) (v2 : Int32) (μ : HMem) : HSpec y_Bijections_imagesWithLowerFixed b_Bijections_imagesWithLowerFixed 6 (some .int) 20 h_eI [.ref 117, .ref a1, .int v2] μ (f_Bijections_imagesWithLowerFixed a1 v2 μ) :=
  HSpec.of (by decide +kernel) (v_Bijections_imagesWithLowerFixed.1 _ (by simp)) (Nat.le_of_ble_eq_true rfl) (fun cx hA hg => t_Bijections_imagesWithLowerFixed_0 hg hA a1 h_a1 v2 μ)
theorem t_Bijections_countOnto_L20_b {cx : HCx} (hg : HGood cx R_Bijections b_Bijections_countOnto 4 21 (some .int)) (hA : h_own cx)  (rec_ : Nat → Int32 → Int32 → HMem → Option (Int32 × HMem)) (hrec_ : p_Bijections_countOnto_20 cx rec_) (a1 : Nat) (h_a1 : HIsG a1) (v2 : Int32) (v3 : Int32) (μ : HMem) : HX cx (HQ cx h_eI) (f_Bijections_countOnto_L20_b  rec_ a1 v2 v3 μ) 0 0 20 [(0, .ref 117), (1, .ref a1), (2, .int v2), (3, .int v3)] [] μ := by
  unfold f_Bijections_countOnto_L20_b
  refine r_iload_n hg 3 d_Bijections_countOnto_20 rfl rfl ?_
  refine r_aload_n hg 1 d_Bijections_countOnto_21 rfl rfl ?_
  refine r_get (v := .int (μ.1 a1 0)) hg c_Graph (h_G_lt h_a1) (h_G_kd h_a1) (Nat.le_of_ble_eq_true rfl) (h_G_fl0 h_a1) wf_Bijections_21 d_Bijections_countOnto_22 rfl ?_
  refine r_icmp_ge (tgt := 50) hg d_Bijections_countOnto_25 (by decide) ?_ ?_
  · refine r_iload_n hg 2 d_Bijections_countOnto_50 rfl rfl ?_
    exact r_iret hg hA rfl d_Bijections_countOnto_51 rfl
  · refine r_iload_n hg 2 d_Bijections_countOnto_28 rfl rfl ?_
    refine r_aload_n hg 0 d_Bijections_countOnto_29 rfl rfl ?_
    refine r_aload_n hg 1 d_Bijections_countOnto_30 rfl rfl ?_
    refine r_iload_n hg 3 d_Bijections_countOnto_31 rfl rfl ?_
    refine r_callV (As := [.ref a1, .int v3]) hg (t_Bijections_imagesWithLowerFixed a1 h_a1 v3 μ) v_Bijections_imagesWithLowerFixed c_Bijections rfl (by decide) rfl wm_Bijections_39 d_Bijections_countOnto_32 rfl ⟨by decide, by decide⟩ (Nat.le_of_ble_eq_true rfl) rfl (fun r32 μ_32 _ => ?_)
    refine r_imul hg d_Bijections_countOnto_35 ?_
    refine r_letI (fun v2_36 => ?_)
    refine r_istore_n (l' := [(2, .int v2_36), (0, .ref 117), (1, .ref a1), (3, .int v3)]) hg d_Bijections_countOnto_36 rfl (Nat.le_of_ble_eq_true rfl) rfl ?_
    refine r_aload_n hg 1 d_Bijections_countOnto_37 rfl rfl ?_
    refine r_get (v := .ref 120) hg c_Bijections (by decide) rfl (Nat.le_of_ble_eq_true rfl) rfl wf_Bijections_18 d_Bijections_countOnto_38 rfl ?_
    refine r_iload_n hg 3 d_Bijections_countOnto_41 rfl rfl ?_
    refine r_iload_n hg 3 d_Bijections_countOnto_42 rfl rfl ?_
    refine r_iast hg (by decide) rfl d_Bijections_countOnto_43 ?_
    refine r_letM (fun μ_43 => ?_)
    refine r_letE (fun v3_44 he_44 => ?_)
    refine r_iinc (v := v3_44) (l' := [(3, .int v3_44), (2, .int v2_36), (0, .ref 117), (1, .ref a1)]) hg 3 d_Bijections_countOnto_44 rfl he_44 (Nat.le_of_ble_eq_true rfl) rfl ?_
    refine r_goto (tgt := 20) hg d_Bijections_countOnto_47 (by decide) ?_
    refine r_sub [2, 3, 1, 0] rfl ?_
    exact hrec_ a1 h_a1 v2_36 v3_44 μ_43
theorem t_Bijections_countOnto_L20 {cx : HCx} (hg : HGood cx R_Bijections b_Bijections_countOnto 4 21 (some .int)) (hA : h_own cx)  : ∀ (fuel : Nat) (a1 : Nat) (h_a1 : HIsG a1) (v2 : Int32) (v3 : Int32) (μ : HMem), HX cx (HQ cx h_eI) (f_Bijections_countOnto_L20  fuel a1 v2 v3 μ) 0 0 20 [(0, .ref 117), (1, .ref a1), (2, .int v2), (3, .int v3)] [] μ
  | 0, _, _, _, _, _ => by unfold f_Bijections_countOnto_L20; exact HX.none
  | fuel + 1, a1, h_a1, v2, v3, μ => by
    rw [f_Bijections_countOnto_L20]
    exact t_Bijections_countOnto_L20_b hg hA   (f_Bijections_countOnto_L20  fuel) (t_Bijections_countOnto_L20 hg hA   fuel) a1 h_a1 v2 v3 μ
theorem t_Bijections_countOnto_0 {cx : HCx} (hg : HGood cx R_Bijections b_Bijections_countOnto 4 21 (some .int)) (hA : h_own cx) (a1 : Nat) (h_a1 : HIsG a1) (μ : HMem) : HX cx (HQ cx h_eI) (f_Bijections_countOnto a1 μ) 0 0 0 [(0, .ref 117), (1, .ref a1)] [] μ := by
  unfold f_Bijections_countOnto
  refine r_aload_n hg 1 d_Bijections_countOnto_0 rfl rfl ?_
  refine r_aload_n hg 0 d_Bijections_countOnto_1 rfl rfl ?_
  refine r_get (v := .ref 118) hg c_Bijections (by decide) rfl (Nat.le_of_ble_eq_true rfl) rfl wf_Bijections_9 d_Bijections_countOnto_2 rfl ?_
  refine r_callS (As := [.ref a1, .ref 118]) hg (t_Bijections_mark a1 h_a1 118 ⟨(by decide), rfl⟩ μ) v_Bijections_mark wm_Bijections_27 d_Bijections_countOnto_5 rfl ⟨by decide, by decide⟩ (Nat.le_of_ble_eq_true rfl) rfl (fun r5 μ_5 _ => ?_)
  refine r_aload_n hg 1 d_Bijections_countOnto_8 rfl rfl ?_
  refine r_aload_n hg 0 d_Bijections_countOnto_9 rfl rfl ?_
  refine r_get (v := .ref 119) hg c_Bijections (by decide) rfl (Nat.le_of_ble_eq_true rfl) rfl wf_Bijections_15 d_Bijections_countOnto_10 rfl ?_
  refine r_callS (As := [.ref a1, .ref 119]) hg (t_Bijections_mark a1 h_a1 119 ⟨(by decide), rfl⟩ μ_5) v_Bijections_mark wm_Bijections_27 d_Bijections_countOnto_13 rfl ⟨by decide, by decide⟩ (Nat.le_of_ble_eq_true rfl) rfl (fun r13 μ_13 _ => ?_)
  refine r_iconst (v := 1) hg d_Bijections_countOnto_16 (by decide) ?_
  refine r_istore_n (l' := [(2, .int 1), (0, .ref 117), (1, .ref a1)]) hg d_Bijections_countOnto_17 rfl (Nat.le_of_ble_eq_true rfl) rfl ?_
  refine r_iconst (v := 0) hg d_Bijections_countOnto_18 (by decide) ?_
  refine r_istore_n (l' := [(3, .int 0), (2, .int 1), (0, .ref 117), (1, .ref a1)]) hg d_Bijections_countOnto_19 rfl (Nat.le_of_ble_eq_true rfl) rfl ?_
  refine r_sub [2, 3, 1, 0] rfl ?_
  exact t_Bijections_countOnto_L20 hg hA h_fuel a1 h_a1 1 0 μ_13
theorem t_Bijections_countOnto (a1 : Nat) (h_a1 : HIsG a1) (μ : HMem) : HSpec y_Bijections_countOnto b_Bijections_countOnto 4 (some .int) 21 h_eI [.ref 117, .ref a1] μ (f_Bijections_countOnto a1 μ) :=
  HSpec.of (by decide +kernel) (v_Bijections_countOnto.1 _ (by simp)) (Nat.le_of_ble_eq_true rfl) (fun cx hA hg => t_Bijections_countOnto_0 hg hA a1 h_a1 μ)
theorem t_Bijections_sameMarks_J64 {cx : HCx} (hg : HGood cx R_Bijections b_Bijections_sameMarks 5 1 (some .boolean)) (hA : h_own cx)  (rec_ : Int32 → Int32 → Int32 → Int32 → HMem → Option (Int32 × HMem)) (hrec_ : p_Bijections_sameMarks_12 cx rec_) (v1 : Int32) (v2 : Int32) (v4 : Int32) (s0 : Int32) (s1 : Int32) (μ : HMem) : HX cx (HQ cx h_eI) (f_Bijections_sameMarks_J64  rec_ v1 v2 v4 s0 s1 μ) 0 0 64 [(0, .ref 117), (1, .int v1), (2, .int v2), (4, .int v4)] [.int s0, .int s1] μ := by
  unfold f_Bijections_sameMarks_J64
  refine r_isub hg d_Bijections_sameMarks_64 ?_
  refine r_letI (fun v3_65 => ?_)
  refine r_istore_n (l' := [(3, .int v3_65), (0, .ref 117), (1, .int v1), (2, .int v2), (4, .int v4)]) hg d_Bijections_sameMarks_65 rfl (Nat.le_of_ble_eq_true rfl) rfl ?_
  refine r_letE (fun v4_66 he_66 => ?_)
  refine r_iinc (v := v4_66) (l' := [(4, .int v4_66), (3, .int v3_65), (0, .ref 117), (1, .int v1), (2, .int v2)]) hg 4 d_Bijections_sameMarks_66 rfl he_66 (Nat.le_of_ble_eq_true rfl) rfl ?_
  refine r_goto (tgt := 12) hg d_Bijections_sameMarks_69 (by decide) ?_
  refine r_sub [2, 3, 4, 1, 0] rfl ?_
  exact hrec_ v1 v2 v3_65 v4_66 μ
theorem t_Bijections_sameMarks_J40 {cx : HCx} (hg : HGood cx R_Bijections b_Bijections_sameMarks 5 1 (some .boolean)) (hA : h_own cx)  (rec_ : Int32 → Int32 → Int32 → Int32 → HMem → Option (Int32 × HMem)) (hrec_ : p_Bijections_sameMarks_12 cx rec_) (v1 : Int32) (v2 : Int32) (v4 : Int32) (s0 : Int32) (s1 : Int32) (μ : HMem) : HX cx (HQ cx h_eI) (f_Bijections_sameMarks_J40  rec_ v1 v2 v4 s0 s1 μ) 0 0 40 [(0, .ref 117), (1, .int v1), (2, .int v2), (4, .int v4)] [.int s0, .int s1] μ := by
  unfold f_Bijections_sameMarks_J40
  refine r_iadd hg d_Bijections_sameMarks_40 ?_
  refine r_letI (fun v3_41 => ?_)
  refine r_istore_n (l' := [(3, .int v3_41), (0, .ref 117), (1, .int v1), (2, .int v2), (4, .int v4)]) hg d_Bijections_sameMarks_41 rfl (Nat.le_of_ble_eq_true rfl) rfl ?_
  refine r_iload_n hg 0 d_Bijections_sameMarks_42 rfl rfl ?_
  refine r_aload_n hg 1 d_Bijections_sameMarks_43 rfl rfl ?_
  refine r_get (v := .ref 119) hg c_Bijections (by decide) rfl (Nat.le_of_ble_eq_true rfl) rfl wf_Bijections_15 d_Bijections_sameMarks_44 rfl ?_
  refine r_iload hg 4 d_Bijections_sameMarks_47 rfl ?_
  refine r_iald hg (by decide) rfl d_Bijections_sameMarks_49 ?_
  refine r_aload_n hg 1 d_Bijections_sameMarks_50 rfl rfl ?_
  refine r_get (v := .ref 118) hg c_Bijections (by decide) rfl (Nat.le_of_ble_eq_true rfl) rfl wf_Bijections_9 d_Bijections_sameMarks_51 rfl ?_
  refine r_iload_n hg 3 d_Bijections_sameMarks_54 rfl rfl ?_
  refine r_iald hg (by decide) rfl d_Bijections_sameMarks_55 ?_
  refine r_icmp_ne (tgt := 63) hg d_Bijections_sameMarks_56 (by decide) ?_ ?_
  · refine r_iconst (v := 0) hg d_Bijections_sameMarks_63 (by decide) ?_
    refine r_sub [1, 2, 3, 4] rfl ?_
    exact t_Bijections_sameMarks_J64 hg hA rec_ hrec_ v1 v2 v4 0 v3_41 μ
  · refine r_iconst (v := 1) hg d_Bijections_sameMarks_59 (by decide) ?_
    refine r_goto (tgt := 64) hg d_Bijections_sameMarks_60 (by decide) ?_
    refine r_sub [1, 2, 3, 4] rfl ?_
    exact t_Bijections_sameMarks_J64 hg hA rec_ hrec_ v1 v2 v4 1 v3_41 μ
theorem t_Bijections_sameMarks_L12_b {cx : HCx} (hg : HGood cx R_Bijections b_Bijections_sameMarks 5 1 (some .boolean)) (hA : h_own cx) (K72 : Int32 → Int32 → Int32 → HMem → Option (Int32 × HMem)) (hK72 : p_Bijections_sameMarks_72 cx K72) (rec_ : Int32 → Int32 → Int32 → Int32 → HMem → Option (Int32 × HMem)) (hrec_ : p_Bijections_sameMarks_12 cx rec_) (v1 : Int32) (v2 : Int32) (v3 : Int32) (v4 : Int32) (μ : HMem) : HX cx (HQ cx h_eI) (f_Bijections_sameMarks_L12_b K72 rec_ v1 v2 v3 v4 μ) 0 0 12 [(0, .ref 117), (1, .int v1), (2, .int v2), (3, .int v3), (4, .int v4)] [] μ := by
  unfold f_Bijections_sameMarks_L12_b
  refine r_iload hg 4 d_Bijections_sameMarks_12 rfl ?_
  refine r_iload_n hg 1 d_Bijections_sameMarks_14 rfl rfl ?_
  refine r_icmp_ge (tgt := 72) hg d_Bijections_sameMarks_15 (by decide) ?_ ?_
  · refine r_sub [0, 1, 2, 3] rfl ?_
    exact hK72 v1 v2 v3 μ
  · refine r_iload_n hg 3 d_Bijections_sameMarks_18 rfl rfl ?_
    refine r_aload_n hg 0 d_Bijections_sameMarks_19 rfl rfl ?_
    refine r_get (v := .ref 118) hg c_Bijections (by decide) rfl (Nat.le_of_ble_eq_true rfl) rfl wf_Bijections_9 d_Bijections_sameMarks_20 rfl ?_
    refine r_iload hg 4 d_Bijections_sameMarks_23 rfl ?_
    refine r_iald hg (by decide) rfl d_Bijections_sameMarks_25 ?_
    refine r_aload_n hg 0 d_Bijections_sameMarks_26 rfl rfl ?_
    refine r_get (v := .ref 118) hg c_Bijections (by decide) rfl (Nat.le_of_ble_eq_true rfl) rfl wf_Bijections_9 d_Bijections_sameMarks_27 rfl ?_
    refine r_iload_n hg 2 d_Bijections_sameMarks_30 rfl rfl ?_
    refine r_iald hg (by decide) rfl d_Bijections_sameMarks_31 ?_
    refine r_icmp_ne (tgt := 39) hg d_Bijections_sameMarks_32 (by decide) ?_ ?_
    · refine r_iconst (v := 0) hg d_Bijections_sameMarks_39 (by decide) ?_
      refine r_sub [0, 1, 2, 4] rfl ?_
      exact t_Bijections_sameMarks_J40 hg hA rec_ hrec_ v1 v2 v4 0 v3 μ
    · refine r_iconst (v := 1) hg d_Bijections_sameMarks_35 (by decide) ?_
      refine r_goto (tgt := 40) hg d_Bijections_sameMarks_36 (by decide) ?_
      refine r_sub [0, 1, 2, 4] rfl ?_
      exact t_Bijections_sameMarks_J40 hg hA rec_ hrec_ v1 v2 v4 1 v3 μ
theorem t_Bijections_sameMarks_L12 {cx : HCx} (hg : HGood cx R_Bijections b_Bijections_sameMarks 5 1 (some .boolean)) (hA : h_own cx) (K72 : Int32 → Int32 → Int32 → HMem → Option (Int32 × HMem)) (hK72 : p_Bijections_sameMarks_72 cx K72) : ∀ (fuel : Nat) (v1 : Int32) (v2 : Int32) (v3 : Int32) (v4 : Int32) (μ : HMem), HX cx (HQ cx h_eI) (f_Bijections_sameMarks_L12 K72 fuel v1 v2 v3 v4 μ) 0 0 12 [(0, .ref 117), (1, .int v1), (2, .int v2), (3, .int v3), (4, .int v4)] [] μ
  | 0, _, _, _, _, _ => by unfold f_Bijections_sameMarks_L12; exact HX.none
  | fuel + 1, v1, v2, v3, v4, μ => by
    rw [f_Bijections_sameMarks_L12]
    exact t_Bijections_sameMarks_L12_b hg hA  K72 hK72 (f_Bijections_sameMarks_L12 K72 fuel) (t_Bijections_sameMarks_L12 hg hA  K72 hK72 fuel) v1 v2 v3 v4 μ
theorem t_Bijections_sameMarks_J72 {cx : HCx} (hg : HGood cx R_Bijections b_Bijections_sameMarks 5 1 (some .boolean)) (hA : h_own cx)  (rec_ : Int32 → Int32 → HMem → Option (Int32 × HMem)) (hrec_ : p_Bijections_sameMarks_2 cx rec_) (v1 : Int32) (v2 : Int32) (v3 : Int32) (μ : HMem) : HX cx (HQ cx h_eI) (f_Bijections_sameMarks_J72  rec_ v1 v2 v3 μ) 0 0 72 [(0, .ref 117), (1, .int v1), (2, .int v2), (3, .int v3)] [] μ := by
  unfold f_Bijections_sameMarks_J72
  refine r_iload_n hg 3 d_Bijections_sameMarks_72 rfl rfl ?_
  refine r_if_eq (tgt := 78) hg d_Bijections_sameMarks_73 (by decide) ?_ ?_
  · refine r_letE (fun v2_78 he_78 => ?_)
    refine r_iinc (v := v2_78) (l' := [(2, .int v2_78), (0, .ref 117), (1, .int v1), (3, .int v3)]) hg 2 d_Bijections_sameMarks_78 rfl he_78 (Nat.le_of_ble_eq_true rfl) rfl ?_
    refine r_goto (tgt := 2) hg d_Bijections_sameMarks_81 (by decide) ?_
    refine r_sub [1, 2, 0] rfl ?_
    exact hrec_ v1 v2_78 μ
  · refine r_iconst (v := 0) hg d_Bijections_sameMarks_76 (by decide) ?_
    exact r_zretB hg hA rfl d_Bijections_sameMarks_77 rfl
theorem t_Bijections_sameMarks_L2_b {cx : HCx} (hg : HGood cx R_Bijections b_Bijections_sameMarks 5 1 (some .boolean)) (hA : h_own cx)  (rec_ : Int32 → Int32 → HMem → Option (Int32 × HMem)) (hrec_ : p_Bijections_sameMarks_2 cx rec_) (v1 : Int32) (v2 : Int32) (μ : HMem) : HX cx (HQ cx h_eI) (f_Bijections_sameMarks_L2_b  rec_ v1 v2 μ) 0 0 2 [(0, .ref 117), (1, .int v1), (2, .int v2)] [] μ := by
  unfold f_Bijections_sameMarks_L2_b
  refine r_iload_n hg 2 d_Bijections_sameMarks_2 rfl rfl ?_
  refine r_iload_n hg 1 d_Bijections_sameMarks_3 rfl rfl ?_
  refine r_icmp_ge (tgt := 84) hg d_Bijections_sameMarks_4 (by decide) ?_ ?_
  · refine r_iconst (v := 1) hg d_Bijections_sameMarks_84 (by decide) ?_
    exact r_zretB hg hA rfl d_Bijections_sameMarks_85 rfl
  · refine r_iconst (v := 0) hg d_Bijections_sameMarks_7 (by decide) ?_
    refine r_istore_n (l' := [(3, .int 0), (0, .ref 117), (1, .int v1), (2, .int v2)]) hg d_Bijections_sameMarks_8 rfl (Nat.le_of_ble_eq_true rfl) rfl ?_
    refine r_iconst (v := 0) hg d_Bijections_sameMarks_9 (by decide) ?_
    refine r_istore (l' := [(4, .int 0), (3, .int 0), (0, .ref 117), (1, .int v1), (2, .int v2)]) hg d_Bijections_sameMarks_10 (Nat.le_of_ble_eq_true rfl) rfl ?_
    refine r_sub [2, 3, 4, 1, 0] rfl ?_
    exact t_Bijections_sameMarks_L12 hg hA (f_Bijections_sameMarks_J72 rec_) (t_Bijections_sameMarks_J72 hg hA rec_ hrec_) h_fuel v1 v2 0 0 μ
theorem t_Bijections_sameMarks_L2 {cx : HCx} (hg : HGood cx R_Bijections b_Bijections_sameMarks 5 1 (some .boolean)) (hA : h_own cx)  : ∀ (fuel : Nat) (v1 : Int32) (v2 : Int32) (μ : HMem), HX cx (HQ cx h_eI) (f_Bijections_sameMarks_L2  fuel v1 v2 μ) 0 0 2 [(0, .ref 117), (1, .int v1), (2, .int v2)] [] μ
  | 0, _, _, _ => by unfold f_Bijections_sameMarks_L2; exact HX.none
  | fuel + 1, v1, v2, μ => by
    rw [f_Bijections_sameMarks_L2]
    exact t_Bijections_sameMarks_L2_b hg hA   (f_Bijections_sameMarks_L2  fuel) (t_Bijections_sameMarks_L2 hg hA   fuel) v1 v2 μ
theorem t_Bijections_sameMarks_0 {cx : HCx} (hg : HGood cx R_Bijections b_Bijections_sameMarks 5 1 (some .boolean)) (hA : h_own cx) (v1 : Int32) (μ : HMem) : HX cx (HQ cx h_eI) (f_Bijections_sameMarks v1 μ) 0 0 0 [(0, .ref 117), (1, .int v1)] [] μ := by
  unfold f_Bijections_sameMarks
  refine r_iconst (v := 0) hg d_Bijections_sameMarks_0 (by decide) ?_
  refine r_istore_n (l' := [(2, .int 0), (0, .ref 117), (1, .int v1)]) hg d_Bijections_sameMarks_1 rfl (Nat.le_of_ble_eq_true rfl) rfl ?_
  refine r_sub [1, 2, 0] rfl ?_
  exact t_Bijections_sameMarks_L2 hg hA h_fuel v1 0 μ
theorem t_Bijections_sameMarks (v1 : Int32) (μ : HMem) : HSpec y_Bijections_sameMarks b_Bijections_sameMarks 5 (some .boolean) 1 h_eI [.ref 117, .int v1] μ (f_Bijections_sameMarks v1 μ) :=
  HSpec.of (by decide +kernel) (v_Bijections_sameMarks.1 _ (by simp)) (Nat.le_of_ble_eq_true rfl) (fun cx hA hg => t_Bijections_sameMarks_0 hg hA v1 μ)
theorem t_Bijections_exist_J56 {cx : HCx} (hg : HGood cx R_Bijections b_Bijections_exist 3 20 (some .boolean)) (hA : h_own cx)   (s0 : Int32) (μ : HMem) : HX cx (HQ cx h_eI) (f_Bijections_exist_J56   s0 μ) 0 0 56 [] [.int s0] μ := by
  unfold f_Bijections_exist_J56
  exact r_zretB hg hA rfl d_Bijections_exist_56 rfl
theorem t_Bijections_exist_J55 {cx : HCx} (hg : HGood cx R_Bijections b_Bijections_exist 3 20 (some .boolean)) (hA : h_own cx)    (μ : HMem) : HX cx (HQ cx h_eI) (f_Bijections_exist_J55   μ) 0 0 55 [] [] μ := by
  unfold f_Bijections_exist_J55
  refine r_iconst (v := 0) hg d_Bijections_exist_55 (by decide) ?_
  exact t_Bijections_exist_J56 hg hA 0 μ
theorem t_Bijections_exist_0 {cx : HCx} (hg : HGood cx R_Bijections b_Bijections_exist 3 20 (some .boolean)) (hA : h_own cx) (a1 : Nat) (h_a1 : HIsG a1) (a2 : Nat) (h_a2 : HIsG a2) (μ : HMem) : HX cx (HQ cx h_eI) (f_Bijections_exist a1 a2 μ) 0 0 0 [(0, .ref 117), (1, .ref a1), (2, .ref a2)] [] μ := by
  unfold f_Bijections_exist
  refine r_aload_n hg 1 d_Bijections_exist_0 rfl rfl ?_
  refine r_get (v := .int (μ.1 a1 0)) hg c_Graph (h_G_lt h_a1) (h_G_kd h_a1) (Nat.le_of_ble_eq_true rfl) (h_G_fl0 h_a1) wf_Bijections_21 d_Bijections_exist_1 rfl ?_
  refine r_aload_n hg 2 d_Bijections_exist_4 rfl rfl ?_
  refine r_get (v := .int (μ.1 a2 0)) hg c_Graph (h_G_lt h_a2) (h_G_kd h_a2) (Nat.le_of_ble_eq_true rfl) (h_G_fl0 h_a2) wf_Bijections_21 d_Bijections_exist_5 rfl ?_
  refine r_icmp_eq (tgt := 13) hg d_Bijections_exist_8 (by decide) ?_ ?_
  · refine r_aload_n hg 1 d_Bijections_exist_13 rfl rfl ?_
    refine r_aload_n hg 0 d_Bijections_exist_14 rfl rfl ?_
    refine r_get (v := .ref 118) hg c_Bijections (by decide) rfl (Nat.le_of_ble_eq_true rfl) rfl wf_Bijections_9 d_Bijections_exist_15 rfl ?_
    refine r_callS (As := [.ref a1, .ref 118]) hg (t_Bijections_mark a1 h_a1 118 ⟨(by decide), rfl⟩ μ) v_Bijections_mark wm_Bijections_27 d_Bijections_exist_18 rfl ⟨by decide, by decide⟩ (Nat.le_of_ble_eq_true rfl) rfl (fun r18 μ_18 _ => ?_)
    refine r_aload_n hg 2 d_Bijections_exist_21 rfl rfl ?_
    refine r_aload_n hg 0 d_Bijections_exist_22 rfl rfl ?_
    refine r_get (v := .ref 119) hg c_Bijections (by decide) rfl (Nat.le_of_ble_eq_true rfl) rfl wf_Bijections_15 d_Bijections_exist_23 rfl ?_
    refine r_callS (As := [.ref a2, .ref 119]) hg (t_Bijections_mark a2 h_a2 119 ⟨(by decide), rfl⟩ μ_18) v_Bijections_mark wm_Bijections_27 d_Bijections_exist_26 rfl ⟨by decide, by decide⟩ (Nat.le_of_ble_eq_true rfl) rfl (fun r26 μ_26 _ => ?_)
    refine r_aload_n hg 0 d_Bijections_exist_29 rfl rfl ?_
    refine r_aload_n hg 1 d_Bijections_exist_30 rfl rfl ?_
    refine r_get (v := .int (μ_26.1 a1 0)) hg c_Graph (h_G_lt h_a1) (h_G_kd h_a1) (Nat.le_of_ble_eq_true rfl) (h_G_fl0 h_a1) wf_Bijections_21 d_Bijections_exist_31 rfl ?_
    refine r_callV (As := [.int (μ_26.1 a1 0)]) hg (t_Bijections_sameMarks (μ_26.1 a1 0) μ_26) v_Bijections_sameMarks c_Bijections rfl (by decide) rfl wm_Bijections_31 d_Bijections_exist_34 rfl ⟨by decide, by decide⟩ (Nat.le_of_ble_eq_true rfl) rfl (fun r34 μ_34 _ => ?_)
    refine r_if_eq (tgt := 55) hg d_Bijections_exist_37 (by decide) ?_ ?_
    · refine r_sub [] rfl ?_
      exact t_Bijections_exist_J55 hg hA μ_34
    · refine r_aload_n hg 0 d_Bijections_exist_40 rfl rfl ?_
      refine r_aload_n hg 1 d_Bijections_exist_41 rfl rfl ?_
      refine r_aload_n hg 2 d_Bijections_exist_42 rfl rfl ?_
      refine r_iconst (v := 0) hg d_Bijections_exist_43 (by decide) ?_
      refine r_iconst (v := 0) hg d_Bijections_exist_44 (by decide) ?_
      refine r_callS (As := [.ref 117, .ref a1, .ref a2, .int 0, .int 0]) hg (t_Bijections_extendable h_deep a1 h_a1 a2 h_a2 0 0 μ_34) v_Bijections_extendable wm_Bijections_35 d_Bijections_exist_45 rfl ⟨by decide, by decide⟩ (Nat.le_of_ble_eq_true rfl) rfl (fun r45 μ_45 _ => ?_)
      refine r_if_eq (tgt := 55) hg d_Bijections_exist_48 (by decide) ?_ ?_
      · refine r_sub [] rfl ?_
        exact t_Bijections_exist_J55 hg hA μ_45
      · refine r_iconst (v := 1) hg d_Bijections_exist_51 (by decide) ?_
        refine r_goto (tgt := 56) hg d_Bijections_exist_52 (by decide) ?_
        refine r_sub [] rfl ?_
        exact t_Bijections_exist_J56 hg hA 1 μ_45
  · refine r_iconst (v := 0) hg d_Bijections_exist_11 (by decide) ?_
    exact r_zretB hg hA rfl d_Bijections_exist_12 rfl
theorem t_Bijections_exist (a1 : Nat) (h_a1 : HIsG a1) (a2 : Nat) (h_a2 : HIsG a2) (μ : HMem) : HSpec y_Bijections_exist b_Bijections_exist 3 (some .boolean) 20 h_eI [.ref 117, .ref a1, .ref a2] μ (f_Bijections_exist a1 a2 μ) :=
  HSpec.of (by decide +kernel) (v_Bijections_exist.1 _ (by simp)) (Nat.le_of_ble_eq_true rfl) (fun cx hA hg => t_Bijections_exist_0 hg hA a1 h_a1 a2 h_a2 μ)
theorem t_Elimination_begin_L12_b {cx : HCx} (hg : HGood cx R_Elimination b_Elimination_begin 3 1 none) (hA : h_own cx)  (rec_ : Nat → Int32 → HMem → Option (Unit × HMem)) (hrec_ : p_Elimination_begin_12 cx rec_) (a1 : Nat) (h_a1 : HIsG a1) (v2 : Int32) (μ : HMem) : HX cx (HQ cx h_eV) (f_Elimination_begin_L12_b  rec_ a1 v2 μ) 0 0 12 [(0, .ref 92), (1, .ref a1), (2, .int v2)] [] μ := by
  unfold f_Elimination_begin_L12_b
  refine r_iload_n hg 2 d_Elimination_begin_12 rfl rfl ?_
  refine r_aload_n hg 1 d_Elimination_begin_13 rfl rfl ?_
  refine r_get (v := .int (μ.1 a1 0)) hg c_Graph (h_G_lt h_a1) (h_G_kd h_a1) (Nat.le_of_ble_eq_true rfl) (h_G_fl0 h_a1) wf_Elimination_31 d_Elimination_begin_14 rfl ?_
  refine r_icmp_ge (tgt := 44) hg d_Elimination_begin_17 (by decide) ?_ ?_
  · exact r_vret hg hA rfl d_Elimination_begin_44 rfl
  · refine r_aload_n hg 0 d_Elimination_begin_20 rfl rfl ?_
    refine r_get (v := .ref 95) hg c_Elimination (by decide) rfl (Nat.le_of_ble_eq_true rfl) rfl wf_Elimination_18 d_Elimination_begin_21 rfl ?_
    refine r_iload_n hg 2 d_Elimination_begin_24 rfl rfl ?_
    refine r_aload_n hg 1 d_Elimination_begin_25 rfl rfl ?_
    refine r_get (v := .ref (a1 + 3)) hg c_Graph (h_G_lt h_a1) (h_G_kd h_a1) (Nat.le_of_ble_eq_true rfl) (h_G_fl3 h_a1) wf_Elimination_36 d_Elimination_begin_26 rfl ?_
    refine r_iload_n hg 2 d_Elimination_begin_29 rfl rfl ?_
    refine r_iald hg (h_G_lt3 h_a1) (h_G_kd3 h_a1) d_Elimination_begin_30 ?_
    refine r_iconst (v := 1) hg d_Elimination_begin_31 (by decide) ?_
    refine r_iload_n hg 2 d_Elimination_begin_32 rfl rfl ?_
    refine r_ishl hg d_Elimination_begin_33 ?_
    refine r_iconst (v := -1) hg d_Elimination_begin_34 (by decide) ?_
    refine r_ixor hg d_Elimination_begin_35 ?_
    refine r_iand hg d_Elimination_begin_36 ?_
    refine r_iast hg (by decide) rfl d_Elimination_begin_37 ?_
    refine r_letM (fun μ_37 => ?_)
    refine r_letE (fun v2_38 he_38 => ?_)
    refine r_iinc (v := v2_38) (l' := [(2, .int v2_38), (0, .ref 92), (1, .ref a1)]) hg 2 d_Elimination_begin_38 rfl he_38 (Nat.le_of_ble_eq_true rfl) rfl ?_
    refine r_goto (tgt := 12) hg d_Elimination_begin_41 (by decide) ?_
    refine r_sub [1, 2, 0] rfl ?_
    exact hrec_ a1 h_a1 v2_38 μ_37
theorem t_Elimination_begin_L12 {cx : HCx} (hg : HGood cx R_Elimination b_Elimination_begin 3 1 none) (hA : h_own cx)  : ∀ (fuel : Nat) (a1 : Nat) (h_a1 : HIsG a1) (v2 : Int32) (μ : HMem), HX cx (HQ cx h_eV) (f_Elimination_begin_L12  fuel a1 v2 μ) 0 0 12 [(0, .ref 92), (1, .ref a1), (2, .int v2)] [] μ
  | 0, _, _, _, _ => by unfold f_Elimination_begin_L12; exact HX.none
  | fuel + 1, a1, h_a1, v2, μ => by
    rw [f_Elimination_begin_L12]
    exact t_Elimination_begin_L12_b hg hA   (f_Elimination_begin_L12  fuel) (t_Elimination_begin_L12 hg hA   fuel) a1 h_a1 v2 μ
theorem t_Elimination_begin_0 {cx : HCx} (hg : HGood cx R_Elimination b_Elimination_begin 3 1 none) (hA : h_own cx) (a1 : Nat) (h_a1 : HIsG a1) (μ : HMem) : HX cx (HQ cx h_eV) (f_Elimination_begin a1 μ) 0 0 0 [(0, .ref 92), (1, .ref a1)] [] μ := by
  unfold f_Elimination_begin
  refine r_aload_n hg 0 d_Elimination_begin_0 rfl rfl ?_
  refine r_iconst (v := -1) hg d_Elimination_begin_1 (by decide) ?_
  refine r_put hg c_Elimination t_Elimination_ok n_Elimination (by decide) rfl (Nat.le_of_ble_eq_true rfl) rfl rfl (by decide +kernel) wf_Elimination_24 d_Elimination_begin_2 ?_
  refine r_letM (fun μ_2 => ?_)
  refine r_aload_n hg 0 d_Elimination_begin_5 rfl rfl ?_
  refine r_iconst (v := 0) hg d_Elimination_begin_6 (by decide) ?_
  refine r_put hg c_Elimination t_Elimination_ok n_Elimination (by decide) rfl (Nat.le_of_ble_eq_true rfl) rfl rfl (by decide +kernel) wf_Elimination_28 d_Elimination_begin_7 ?_
  refine r_letM (fun μ_7 => ?_)
  refine r_iconst (v := 0) hg d_Elimination_begin_10 (by decide) ?_
  refine r_istore_n (l' := [(2, .int 0), (0, .ref 92), (1, .ref a1)]) hg d_Elimination_begin_11 rfl (Nat.le_of_ble_eq_true rfl) rfl ?_
  refine r_sub [1, 2, 0] rfl ?_
  exact t_Elimination_begin_L12 hg hA h_fuel a1 h_a1 0 μ_7
theorem t_Elimination_begin (a1 : Nat) (h_a1 : HIsG a1) (μ : HMem) : HSpec y_Elimination_begin b_Elimination_begin 3 none 1 h_eV [.ref 92, .ref a1] μ (f_Elimination_begin a1 μ) :=
  HSpec.of (by decide +kernel) (v_Elimination_begin.1 _ (by simp)) (Nat.le_of_ble_eq_true rfl) (fun cx hA hg => t_Elimination_begin_0 hg hA a1 h_a1 μ)
theorem t_Elimination_eliminate_J107 {cx : HCx} (hg : HGood cx R_Elimination b_Elimination_eliminate 7 2 none) (hA : h_own cx)  (rec_ : Int32 → Int32 → Int32 → Int32 → Int32 → HMem → Option (Unit × HMem)) (hrec_ : p_Elimination_eliminate_39 cx rec_) (v1 : Int32) (v2 : Int32) (v3 : Int32) (v4 : Int32) (v5 : Int32) (μ : HMem) : HX cx (HQ cx h_eV) (f_Elimination_eliminate_J107  rec_ v1 v2 v3 v4 v5 μ) 0 0 107 [(0, .ref 92), (1, .int v1), (2, .int v2), (3, .int v3), (4, .int v4), (5, .int v5)] [] μ := by
  unfold f_Elimination_eliminate_J107
  refine r_letE (fun v5_107 he_107 => ?_)
  refine r_iinc (v := v5_107) (l' := [(5, .int v5_107), (0, .ref 92), (1, .int v1), (2, .int v2), (3, .int v3), (4, .int v4)]) hg 5 d_Elimination_eliminate_107 rfl he_107 (Nat.le_of_ble_eq_true rfl) rfl ?_
  refine r_goto (tgt := 39) hg d_Elimination_eliminate_110 (by decide) ?_
  refine r_sub [1, 2, 3, 4, 5, 0] rfl ?_
  exact hrec_ v1 v2 v3 v4 v5_107 μ
theorem t_Elimination_eliminate_L39_b {cx : HCx} (hg : HGood cx R_Elimination b_Elimination_eliminate 7 2 none) (hA : h_own cx) (K113 : Int32 → HMem → Option (Unit × HMem)) (hK113 : p_Elimination_eliminate_113 cx K113) (rec_ : Int32 → Int32 → Int32 → Int32 → Int32 → HMem → Option (Unit × HMem)) (hrec_ : p_Elimination_eliminate_39 cx rec_) (v1 : Int32) (v2 : Int32) (v3 : Int32) (v4 : Int32) (v5 : Int32) (μ : HMem) : HX cx (HQ cx h_eV) (f_Elimination_eliminate_L39_b K113 rec_ v1 v2 v3 v4 v5 μ) 0 0 39 [(0, .ref 92), (1, .int v1), (2, .int v2), (3, .int v3), (4, .int v4), (5, .int v5)] [] μ := by
  unfold f_Elimination_eliminate_L39_b
  refine r_iload hg 5 d_Elimination_eliminate_39 rfl ?_
  refine r_iload_n hg 2 d_Elimination_eliminate_41 rfl rfl ?_
  refine r_icmp_ge (tgt := 113) hg d_Elimination_eliminate_42 (by decide) ?_ ?_
  · refine r_sub [0, 4] rfl ?_
    exact hK113 v4 μ
  · refine r_iload_n hg 3 d_Elimination_eliminate_45 rfl rfl ?_
    refine r_iload hg 5 d_Elimination_eliminate_46 rfl ?_
    refine r_callN (As := [.int v3, .int v5]) (host := "HomBench") hg (t_Bench_has v3 v5 μ) v_Bench_has (by decide) d_Elimination_eliminate_48 rfl ⟨by decide, by decide⟩ (Nat.le_of_ble_eq_true rfl) rfl (fun r48 μ_48 _ => ?_)
    refine r_if_eq (tgt := 107) hg d_Elimination_eliminate_51 (by decide) ?_ ?_
    · exact t_Elimination_eliminate_J107 hg hA rec_ hrec_ v1 v2 v3 v4 v5 μ_48
    · refine r_iload_n hg 3 d_Elimination_eliminate_54 rfl rfl ?_
      refine r_iconst (v := 1) hg d_Elimination_eliminate_55 (by decide) ?_
      refine r_iload hg 5 d_Elimination_eliminate_56 rfl ?_
      refine r_ishl hg d_Elimination_eliminate_58 ?_
      refine r_iconst (v := -1) hg d_Elimination_eliminate_59 (by decide) ?_
      refine r_ixor hg d_Elimination_eliminate_60 ?_
      refine r_iand hg d_Elimination_eliminate_61 ?_
      refine r_letI (fun v6_62 => ?_)
      refine r_istore (l' := [(6, .int v6_62), (0, .ref 92), (1, .int v1), (2, .int v2), (3, .int v3), (4, .int v4), (5, .int v5)]) hg d_Elimination_eliminate_62 (Nat.le_of_ble_eq_true rfl) rfl ?_
      refine r_iload hg 5 d_Elimination_eliminate_64 rfl ?_
      refine r_iload hg 0 d_Elimination_eliminate_66 rfl ?_
      refine r_aload_n hg 1 d_Elimination_eliminate_68 rfl rfl ?_
      refine r_get (v := .ref 95) hg c_Elimination (by decide) rfl (Nat.le_of_ble_eq_true rfl) rfl wf_Elimination_18 d_Elimination_eliminate_69 rfl ?_
      refine r_iload hg 6 d_Elimination_eliminate_72 rfl ?_
      refine r_iald hg (by decide) rfl d_Elimination_eliminate_74 ?_
      refine r_iconst (v := -1) hg d_Elimination_eliminate_75 (by decide) ?_
      refine r_ixor hg d_Elimination_eliminate_76 ?_
      refine r_iand hg d_Elimination_eliminate_77 ?_
      refine r_callS (As := [.int (v6_62 &&& ((μ_48.1 95 (Int32.toNatClampNeg (v5))) ^^^ (-1)))]) hg (t_Integer_bitCount (v6_62 &&& ((μ_48.1 95 (Int32.toNatClampNeg (v5))) ^^^ (-1))) μ_48) v_Integer_bitCount wm_Elimination_39 d_Elimination_eliminate_78 rfl ⟨by decide, by decide⟩ (Nat.le_of_ble_eq_true rfl) rfl (fun r78 μ_78 _ => ?_)
      refine r_iadd hg d_Elimination_eliminate_81 ?_
      refine r_letI (fun v4_82 => ?_)
      refine r_istore (l' := [(4, .int v4_82), (6, .int v6_62), (0, .ref 92), (1, .int v1), (2, .int v2), (3, .int v3), (5, .int v5)]) hg d_Elimination_eliminate_82 (Nat.le_of_ble_eq_true rfl) rfl ?_
      refine r_aload_n hg 2 d_Elimination_eliminate_84 rfl rfl ?_
      refine r_get (v := .ref 95) hg c_Elimination (by decide) rfl (Nat.le_of_ble_eq_true rfl) rfl wf_Elimination_18 d_Elimination_eliminate_85 rfl ?_
      refine r_iload hg 6 d_Elimination_eliminate_88 rfl ?_
      refine r_aload_n hg 2 d_Elimination_eliminate_90 rfl rfl ?_
      refine r_get (v := .ref 95) hg c_Elimination (by decide) rfl (Nat.le_of_ble_eq_true rfl) rfl wf_Elimination_18 d_Elimination_eliminate_91 rfl ?_
      refine r_iload hg 6 d_Elimination_eliminate_94 rfl ?_
      refine r_iald hg (by decide) rfl d_Elimination_eliminate_96 ?_
      refine r_iload hg 1 d_Elimination_eliminate_97 rfl ?_
      refine r_ior hg d_Elimination_eliminate_99 ?_
      refine r_iconst (v := 1) hg d_Elimination_eliminate_100 (by decide) ?_
      refine r_iload_n hg 3 d_Elimination_eliminate_101 rfl rfl ?_
      refine r_ishl hg d_Elimination_eliminate_102 ?_
      refine r_iconst (v := -1) hg d_Elimination_eliminate_103 (by decide) ?_
      refine r_ixor hg d_Elimination_eliminate_104 ?_
      refine r_iand hg d_Elimination_eliminate_105 ?_
      refine r_iast hg (by decide) rfl d_Elimination_eliminate_106 ?_
      refine r_letM (fun μ_106 => ?_)
      refine r_sub [2, 3, 4, 5, 0, 6] rfl ?_
      exact t_Elimination_eliminate_J107 hg hA rec_ hrec_ v1 v2 v3 v4_82 v5 μ_106
theorem t_Elimination_eliminate_L39 {cx : HCx} (hg : HGood cx R_Elimination b_Elimination_eliminate 7 2 none) (hA : h_own cx) (K113 : Int32 → HMem → Option (Unit × HMem)) (hK113 : p_Elimination_eliminate_113 cx K113) : ∀ (fuel : Nat) (v1 : Int32) (v2 : Int32) (v3 : Int32) (v4 : Int32) (v5 : Int32) (μ : HMem), HX cx (HQ cx h_eV) (f_Elimination_eliminate_L39 K113 fuel v1 v2 v3 v4 v5 μ) 0 0 39 [(0, .ref 92), (1, .int v1), (2, .int v2), (3, .int v3), (4, .int v4), (5, .int v5)] [] μ
  | 0, _, _, _, _, _, _ => by unfold f_Elimination_eliminate_L39; exact HX.none
  | fuel + 1, v1, v2, v3, v4, v5, μ => by
    rw [f_Elimination_eliminate_L39]
    exact t_Elimination_eliminate_L39_b hg hA  K113 hK113 (f_Elimination_eliminate_L39 K113 fuel) (t_Elimination_eliminate_L39 hg hA  K113 hK113 fuel) v1 v2 v3 v4 v5 μ
theorem t_Elimination_eliminate_J113 {cx : HCx} (hg : HGood cx R_Elimination b_Elimination_eliminate 7 2 none) (hA : h_own cx)   (v4 : Int32) (μ : HMem) : HX cx (HQ cx h_eV) (f_Elimination_eliminate_J113   v4 μ) 0 0 113 [(0, .ref 92), (4, .int v4)] [] μ := by
  unfold f_Elimination_eliminate_J113
  refine r_aload_n hg 0 d_Elimination_eliminate_113 rfl rfl ?_
  refine r_dup hg d_Elimination_eliminate_114 rfl ?_
  refine r_get (v := .int (μ.1 92 3)) hg c_Elimination (by decide) rfl (Nat.le_of_ble_eq_true rfl) rfl wf_Elimination_28 d_Elimination_eliminate_115 rfl ?_
  refine r_iload hg 1 d_Elimination_eliminate_118 rfl ?_
  refine r_iconst (v := 2) hg d_Elimination_eliminate_120 (by decide) ?_
  refine r_idiv hg d_Elimination_eliminate_121 ?_
  refine r_iadd hg d_Elimination_eliminate_122 ?_
  refine r_put hg c_Elimination t_Elimination_ok n_Elimination (by decide) rfl (Nat.le_of_ble_eq_true rfl) rfl rfl (by decide +kernel) wf_Elimination_28 d_Elimination_eliminate_123 ?_
  refine r_letM (fun μ_123 => ?_)
  exact r_vret hg hA rfl d_Elimination_eliminate_126 rfl
theorem t_Elimination_eliminate_0 {cx : HCx} (hg : HGood cx R_Elimination b_Elimination_eliminate 7 2 none) (hA : h_own cx) (v1 : Int32) (v2 : Int32) (μ : HMem) : HX cx (HQ cx h_eV) (f_Elimination_eliminate v1 v2 μ) 0 0 0 [(0, .ref 92), (1, .int v1), (2, .int v2)] [] μ := by
  unfold f_Elimination_eliminate
  refine r_aload_n hg 0 d_Elimination_eliminate_0 rfl rfl ?_
  refine r_get (v := .ref 95) hg c_Elimination (by decide) rfl (Nat.le_of_ble_eq_true rfl) rfl wf_Elimination_18 d_Elimination_eliminate_1 rfl ?_
  refine r_iload_n hg 1 d_Elimination_eliminate_4 rfl rfl ?_
  refine r_iald hg (by decide) rfl d_Elimination_eliminate_5 ?_
  refine r_letI (fun v3_6 => ?_)
  refine r_istore_n (l' := [(3, .int v3_6), (0, .ref 92), (1, .int v1), (2, .int v2)]) hg d_Elimination_eliminate_6 rfl (Nat.le_of_ble_eq_true rfl) rfl ?_
  refine r_aload_n hg 1 d_Elimination_eliminate_7 rfl rfl ?_
  refine r_get (v := .ref 94) hg c_Elimination (by decide) rfl (Nat.le_of_ble_eq_true rfl) rfl wf_Elimination_15 d_Elimination_eliminate_8 rfl ?_
  refine r_iload_n hg 2 d_Elimination_eliminate_11 rfl rfl ?_
  refine r_iload_n hg 0 d_Elimination_eliminate_12 rfl rfl ?_
  refine r_iconst (v := 1) hg d_Elimination_eliminate_13 (by decide) ?_
  refine r_iload_n hg 2 d_Elimination_eliminate_14 rfl rfl ?_
  refine r_ishl hg d_Elimination_eliminate_15 ?_
  refine r_ior hg d_Elimination_eliminate_16 ?_
  refine r_iast hg (by decide) rfl d_Elimination_eliminate_17 ?_
  refine r_letM (fun μ_17 => ?_)
  refine r_aload_n hg 1 d_Elimination_eliminate_18 rfl rfl ?_
  refine r_aload_n hg 1 d_Elimination_eliminate_19 rfl rfl ?_
  refine r_get (v := .int (μ_17.1 92 2)) hg c_Elimination (by decide) rfl (Nat.le_of_ble_eq_true rfl) rfl wf_Elimination_24 d_Elimination_eliminate_20 rfl ?_
  refine r_iload_n hg 0 d_Elimination_eliminate_23 rfl rfl ?_
  refine r_callS (As := [.int v3_6]) hg (t_Integer_bitCount v3_6 μ_17) v_Integer_bitCount wm_Elimination_39 d_Elimination_eliminate_24 rfl ⟨by decide, by decide⟩ (Nat.le_of_ble_eq_true rfl) rfl (fun r24 μ_24 _ => ?_)
  refine r_mmax hg (h_w4 wm_Elimination_45 ws_Math_max wi_Math wk_Math_max) d_Elimination_eliminate_27 (Nat.le_of_ble_eq_true rfl) (Nat.le_of_ble_eq_true rfl) ?_
  refine r_put hg c_Elimination t_Elimination_ok n_Elimination (by decide) rfl (Nat.le_of_ble_eq_true rfl) rfl rfl (by decide +kernel) wf_Elimination_24 d_Elimination_eliminate_30 ?_
  refine r_letM (fun μ_30 => ?_)
  refine r_iconst (v := 0) hg d_Elimination_eliminate_33 (by decide) ?_
  refine r_istore (l' := [(4, .int 0), (3, .int v3_6), (0, .ref 92), (1, .int v1), (2, .int v2)]) hg d_Elimination_eliminate_34 (Nat.le_of_ble_eq_true rfl) rfl ?_
  refine r_iconst (v := 0) hg d_Elimination_eliminate_36 (by decide) ?_
  refine r_istore (l' := [(5, .int 0), (4, .int 0), (3, .int v3_6), (0, .ref 92), (1, .int v1), (2, .int v2)]) hg d_Elimination_eliminate_37 (Nat.le_of_ble_eq_true rfl) rfl ?_
  refine r_sub [3, 4, 5, 2, 1, 0] rfl ?_
  exact t_Elimination_eliminate_L39 hg hA f_Elimination_eliminate_J113 (t_Elimination_eliminate_J113 hg hA) h_fuel v1 v2 v3_6 0 0 μ_30
theorem t_Elimination_eliminate (v1 : Int32) (v2 : Int32) (μ : HMem) : HSpec y_Elimination_eliminate b_Elimination_eliminate 7 none 2 h_eV [.ref 92, .int v1, .int v2] μ (f_Elimination_eliminate v1 v2 μ) :=
  HSpec.of (by decide +kernel) (v_Elimination_eliminate.1 _ (by simp)) (Nat.le_of_ble_eq_true rfl) (fun cx hA hg => t_Elimination_eliminate_0 hg hA v1 v2 μ)
theorem t_Elimination_fewestNeighbors_J50 {cx : HCx} (hg : HGood cx R_Elimination b_Elimination_fewestNeighbors 7 2 (some .int)) (hA : h_own cx)  (rec_ : Int32 → Int32 → Int32 → Int32 → Int32 → HMem → Option (Int32 × HMem)) (hrec_ : p_Elimination_fewestNeighbors_9 cx rec_) (v1 : Int32) (v2 : Int32) (v3 : Int32) (v4 : Int32) (v5 : Int32) (μ : HMem) : HX cx (HQ cx h_eI) (f_Elimination_fewestNeighbors_J50  rec_ v1 v2 v3 v4 v5 μ) 0 0 50 [(0, .ref 92), (1, .int v1), (2, .int v2), (3, .int v3), (4, .int v4), (5, .int v5)] [] μ := by
  unfold f_Elimination_fewestNeighbors_J50
  refine r_letE (fun v5_50 he_50 => ?_)
  refine r_iinc (v := v5_50) (l' := [(5, .int v5_50), (0, .ref 92), (1, .int v1), (2, .int v2), (3, .int v3), (4, .int v4)]) hg 5 d_Elimination_fewestNeighbors_50 rfl he_50 (Nat.le_of_ble_eq_true rfl) rfl ?_
  refine r_goto (tgt := 9) hg d_Elimination_fewestNeighbors_53 (by decide) ?_
  refine r_sub [1, 2, 3, 4, 5, 0] rfl ?_
  exact hrec_ v1 v2 v3 v4 v5_50 μ
theorem t_Elimination_fewestNeighbors_L9_b {cx : HCx} (hg : HGood cx R_Elimination b_Elimination_fewestNeighbors 7 2 (some .int)) (hA : h_own cx)  (rec_ : Int32 → Int32 → Int32 → Int32 → Int32 → HMem → Option (Int32 × HMem)) (hrec_ : p_Elimination_fewestNeighbors_9 cx rec_) (v1 : Int32) (v2 : Int32) (v3 : Int32) (v4 : Int32) (v5 : Int32) (μ : HMem) : HX cx (HQ cx h_eI) (f_Elimination_fewestNeighbors_L9_b  rec_ v1 v2 v3 v4 v5 μ) 0 0 9 [(0, .ref 92), (1, .int v1), (2, .int v2), (3, .int v3), (4, .int v4), (5, .int v5)] [] μ := by
  unfold f_Elimination_fewestNeighbors_L9_b
  refine r_iload hg 5 d_Elimination_fewestNeighbors_9 rfl ?_
  refine r_iload_n hg 2 d_Elimination_fewestNeighbors_11 rfl rfl ?_
  refine r_icmp_ge (tgt := 56) hg d_Elimination_fewestNeighbors_12 (by decide) ?_ ?_
  · refine r_iload_n hg 3 d_Elimination_fewestNeighbors_56 rfl rfl ?_
    exact r_iret hg hA rfl d_Elimination_fewestNeighbors_57 rfl
  · refine r_aload_n hg 0 d_Elimination_fewestNeighbors_15 rfl rfl ?_
    refine r_get (v := .ref 95) hg c_Elimination (by decide) rfl (Nat.le_of_ble_eq_true rfl) rfl wf_Elimination_18 d_Elimination_fewestNeighbors_16 rfl ?_
    refine r_iload hg 5 d_Elimination_fewestNeighbors_19 rfl ?_
    refine r_iald hg (by decide) rfl d_Elimination_fewestNeighbors_21 ?_
    refine r_callS (As := [.int (μ.1 95 (Int32.toNatClampNeg (v5)))]) hg (t_Integer_bitCount (μ.1 95 (Int32.toNatClampNeg (v5))) μ) v_Integer_bitCount wm_Elimination_39 d_Elimination_fewestNeighbors_22 rfl ⟨by decide, by decide⟩ (Nat.le_of_ble_eq_true rfl) rfl (fun r22 μ_22 _ => ?_)
    refine r_istore (l' := [(6, .int r22), (0, .ref 92), (1, .int v1), (2, .int v2), (3, .int v3), (4, .int v4), (5, .int v5)]) hg d_Elimination_fewestNeighbors_25 (Nat.le_of_ble_eq_true rfl) rfl ?_
    refine r_iload_n hg 2 d_Elimination_fewestNeighbors_27 rfl rfl ?_
    refine r_iload hg 6 d_Elimination_fewestNeighbors_28 rfl ?_
    refine r_callN (As := [.int v1, .int v5]) (host := "HomBench") hg (t_Bench_has v1 v5 μ_22) v_Bench_has (by decide) d_Elimination_fewestNeighbors_30 rfl ⟨by decide, by decide⟩ (Nat.le_of_ble_eq_true rfl) rfl (fun r30 μ_30 _ => ?_)
    refine r_if_eq (tgt := 50) hg d_Elimination_fewestNeighbors_33 (by decide) ?_ ?_
    · refine r_sub [1, 2, 3, 4, 5, 6] rfl ?_
      exact t_Elimination_fewestNeighbors_J50 hg hA rec_ hrec_ v1 v2 v3 v4 v5 μ_30
    · refine r_iload hg 0 d_Elimination_fewestNeighbors_36 rfl ?_
      refine r_iload hg 5 d_Elimination_fewestNeighbors_38 rfl ?_
      refine r_icmp_ge (tgt := 50) hg d_Elimination_fewestNeighbors_40 (by decide) ?_ ?_
      · refine r_sub [1, 2, 3, 4, 5, 6] rfl ?_
        exact t_Elimination_fewestNeighbors_J50 hg hA rec_ hrec_ v1 v2 v3 v4 v5 μ_30
      · refine r_iload hg 6 d_Elimination_fewestNeighbors_43 rfl ?_
        refine r_istore_n (l' := [(3, .int v5), (6, .int r22), (0, .ref 92), (1, .int v1), (2, .int v2), (4, .int v4), (5, .int v5)]) hg d_Elimination_fewestNeighbors_45 rfl (Nat.le_of_ble_eq_true rfl) rfl ?_
        refine r_iload hg 1 d_Elimination_fewestNeighbors_46 rfl ?_
        refine r_istore (l' := [(4, .int r22), (3, .int v5), (6, .int r22), (0, .ref 92), (1, .int v1), (2, .int v2), (5, .int v5)]) hg d_Elimination_fewestNeighbors_48 (Nat.le_of_ble_eq_true rfl) rfl ?_
        refine r_sub [3, 4, 5, 1, 0, 6] rfl ?_
        exact t_Elimination_fewestNeighbors_J50 hg hA rec_ hrec_ v1 v2 v5 r22 v5 μ_30
theorem t_Elimination_fewestNeighbors_L9 {cx : HCx} (hg : HGood cx R_Elimination b_Elimination_fewestNeighbors 7 2 (some .int)) (hA : h_own cx)  : ∀ (fuel : Nat) (v1 : Int32) (v2 : Int32) (v3 : Int32) (v4 : Int32) (v5 : Int32) (μ : HMem), HX cx (HQ cx h_eI) (f_Elimination_fewestNeighbors_L9  fuel v1 v2 v3 v4 v5 μ) 0 0 9 [(0, .ref 92), (1, .int v1), (2, .int v2), (3, .int v3), (4, .int v4), (5, .int v5)] [] μ
  | 0, _, _, _, _, _, _ => by unfold f_Elimination_fewestNeighbors_L9; exact HX.none
  | fuel + 1, v1, v2, v3, v4, v5, μ => by
    rw [f_Elimination_fewestNeighbors_L9]
    exact t_Elimination_fewestNeighbors_L9_b hg hA   (f_Elimination_fewestNeighbors_L9  fuel) (t_Elimination_fewestNeighbors_L9 hg hA   fuel) v1 v2 v3 v4 v5 μ
theorem t_Elimination_fewestNeighbors_0 {cx : HCx} (hg : HGood cx R_Elimination b_Elimination_fewestNeighbors 7 2 (some .int)) (hA : h_own cx) (v1 : Int32) (v2 : Int32) (μ : HMem) : HX cx (HQ cx h_eI) (f_Elimination_fewestNeighbors v1 v2 μ) 0 0 0 [(0, .ref 92), (1, .int v1), (2, .int v2)] [] μ := by
  unfold f_Elimination_fewestNeighbors
  refine r_iconst (v := 0) hg d_Elimination_fewestNeighbors_0 (by decide) ?_
  refine r_istore_n (l' := [(3, .int 0), (0, .ref 92), (1, .int v1), (2, .int v2)]) hg d_Elimination_fewestNeighbors_1 rfl (Nat.le_of_ble_eq_true rfl) rfl ?_
  refine r_bipush (v := 8) hg d_Elimination_fewestNeighbors_2 (by decide) ?_
  refine r_istore (l' := [(4, .int 8), (3, .int 0), (0, .ref 92), (1, .int v1), (2, .int v2)]) hg d_Elimination_fewestNeighbors_4 (Nat.le_of_ble_eq_true rfl) rfl ?_
  refine r_iconst (v := 0) hg d_Elimination_fewestNeighbors_6 (by decide) ?_
  refine r_istore (l' := [(5, .int 0), (4, .int 8), (3, .int 0), (0, .ref 92), (1, .int v1), (2, .int v2)]) hg d_Elimination_fewestNeighbors_7 (Nat.le_of_ble_eq_true rfl) rfl ?_
  refine r_sub [3, 4, 5, 2, 1, 0] rfl ?_
  exact t_Elimination_fewestNeighbors_L9 hg hA h_fuel v1 v2 0 8 0 μ
theorem t_Elimination_fewestNeighbors (v1 : Int32) (v2 : Int32) (μ : HMem) : HSpec y_Elimination_fewestNeighbors b_Elimination_fewestNeighbors 7 (some .int) 2 h_eI [.ref 92, .int v1, .int v2] μ (f_Elimination_fewestNeighbors v1 v2 μ) :=
  HSpec.of (by decide +kernel) (v_Elimination_fewestNeighbors.1 _ (by simp)) (Nat.le_of_ble_eq_true rfl) (fun cx hA hg => t_Elimination_fewestNeighbors_0 hg hA v1 v2 μ)
theorem t_Elimination_runGreedily_L12_b {cx : HCx} (hg : HGood cx R_Elimination b_Elimination_runGreedily 5 3 none) (hA : h_own cx)  (rec_ : Nat → Int32 → Int32 → HMem → Option (Unit × HMem)) (hrec_ : p_Elimination_runGreedily_12 cx rec_) (a1 : Nat) (h_a1 : HIsG a1) (v2 : Int32) (v3 : Int32) (μ : HMem) : HX cx (HQ cx h_eV) (f_Elimination_runGreedily_L12_b  rec_ a1 v2 v3 μ) 0 0 12 [(0, .ref 92), (1, .ref a1), (2, .int v2), (3, .int v3)] [] μ := by
  unfold f_Elimination_runGreedily_L12_b
  refine r_iload_n hg 3 d_Elimination_runGreedily_12 rfl rfl ?_
  refine r_aload_n hg 1 d_Elimination_runGreedily_13 rfl rfl ?_
  refine r_get (v := .int (μ.1 a1 0)) hg c_Graph (h_G_lt h_a1) (h_G_kd h_a1) (Nat.le_of_ble_eq_true rfl) (h_G_fl0 h_a1) wf_Elimination_31 d_Elimination_runGreedily_14 rfl ?_
  refine r_icmp_ge (tgt := 64) hg d_Elimination_runGreedily_17 (by decide) ?_ ?_
  · exact r_vret hg hA rfl d_Elimination_runGreedily_64 rfl
  · refine r_aload_n hg 0 d_Elimination_runGreedily_20 rfl rfl ?_
    refine r_iload_n hg 2 d_Elimination_runGreedily_21 rfl rfl ?_
    refine r_aload_n hg 1 d_Elimination_runGreedily_22 rfl rfl ?_
    refine r_get (v := .int (μ.1 a1 0)) hg c_Graph (h_G_lt h_a1) (h_G_kd h_a1) (Nat.le_of_ble_eq_true rfl) (h_G_fl0 h_a1) wf_Elimination_31 d_Elimination_runGreedily_23 rfl ?_
    refine r_callV (As := [.int v2, .int (μ.1 a1 0)]) hg (t_Elimination_fewestNeighbors v2 (μ.1 a1 0) μ) v_Elimination_fewestNeighbors c_Elimination rfl (by decide) rfl wm_Elimination_63 d_Elimination_runGreedily_26 rfl ⟨by decide, by decide⟩ (Nat.le_of_ble_eq_true rfl) rfl (fun r26 μ_26 _ => ?_)
    refine r_istore (l' := [(4, .int r26), (0, .ref 92), (1, .ref a1), (2, .int v2), (3, .int v3)]) hg d_Elimination_runGreedily_29 (Nat.le_of_ble_eq_true rfl) rfl ?_
    refine r_aload_n hg 1 d_Elimination_runGreedily_31 rfl rfl ?_
    refine r_get (v := .ref 93) hg c_Elimination (by decide) rfl (Nat.le_of_ble_eq_true rfl) rfl wf_Elimination_9 d_Elimination_runGreedily_32 rfl ?_
    refine r_iload_n hg 4 d_Elimination_runGreedily_35 rfl rfl ?_
    refine r_iload hg 0 d_Elimination_runGreedily_36 rfl ?_
    refine r_iast hg (by decide) rfl d_Elimination_runGreedily_38 ?_
    refine r_letM (fun μ_38 => ?_)
    refine r_iload_n hg 3 d_Elimination_runGreedily_39 rfl rfl ?_
    refine r_iconst (v := 1) hg d_Elimination_runGreedily_40 (by decide) ?_
    refine r_iload hg 0 d_Elimination_runGreedily_41 rfl ?_
    refine r_ishl hg d_Elimination_runGreedily_43 ?_
    refine r_iconst (v := -1) hg d_Elimination_runGreedily_44 (by decide) ?_
    refine r_ixor hg d_Elimination_runGreedily_45 ?_
    refine r_iand hg d_Elimination_runGreedily_46 ?_
    refine r_letI (fun v2_47 => ?_)
    refine r_istore_n (l' := [(2, .int v2_47), (4, .int r26), (0, .ref 92), (1, .ref a1), (3, .int v3)]) hg d_Elimination_runGreedily_47 rfl (Nat.le_of_ble_eq_true rfl) rfl ?_
    refine r_aload_n hg 2 d_Elimination_runGreedily_48 rfl rfl ?_
    refine r_iload hg 1 d_Elimination_runGreedily_49 rfl ?_
    refine r_aload_n hg 3 d_Elimination_runGreedily_51 rfl rfl ?_
    refine r_get (v := .int (μ_38.1 a1 0)) hg c_Graph (h_G_lt h_a1) (h_G_kd h_a1) (Nat.le_of_ble_eq_true rfl) (h_G_fl0 h_a1) wf_Elimination_31 d_Elimination_runGreedily_52 rfl ?_
    refine r_callV (As := [.int r26, .int (μ_38.1 a1 0)]) hg (t_Elimination_eliminate r26 (μ_38.1 a1 0) μ_38) v_Elimination_eliminate c_Elimination rfl (by decide) rfl wm_Elimination_66 d_Elimination_runGreedily_55 rfl ⟨by decide, by decide⟩ (Nat.le_of_ble_eq_true rfl) rfl (fun r55 μ_55 _ => ?_)
    refine r_letE (fun v3_58 he_58 => ?_)
    refine r_iinc (v := v3_58) (l' := [(3, .int v3_58), (2, .int v2_47), (4, .int r26), (0, .ref 92), (1, .ref a1)]) hg 4 d_Elimination_runGreedily_58 rfl he_58 (Nat.le_of_ble_eq_true rfl) rfl ?_
    refine r_goto (tgt := 12) hg d_Elimination_runGreedily_61 (by decide) ?_
    refine r_sub [3, 4, 1, 0] rfl ?_
    exact hrec_ a1 h_a1 v2_47 v3_58 μ_55
theorem t_Elimination_runGreedily_L12 {cx : HCx} (hg : HGood cx R_Elimination b_Elimination_runGreedily 5 3 none) (hA : h_own cx)  : ∀ (fuel : Nat) (a1 : Nat) (h_a1 : HIsG a1) (v2 : Int32) (v3 : Int32) (μ : HMem), HX cx (HQ cx h_eV) (f_Elimination_runGreedily_L12  fuel a1 v2 v3 μ) 0 0 12 [(0, .ref 92), (1, .ref a1), (2, .int v2), (3, .int v3)] [] μ
  | 0, _, _, _, _, _ => by unfold f_Elimination_runGreedily_L12; exact HX.none
  | fuel + 1, a1, h_a1, v2, v3, μ => by
    rw [f_Elimination_runGreedily_L12]
    exact t_Elimination_runGreedily_L12_b hg hA   (f_Elimination_runGreedily_L12  fuel) (t_Elimination_runGreedily_L12 hg hA   fuel) a1 h_a1 v2 v3 μ
theorem t_Elimination_runGreedily_0 {cx : HCx} (hg : HGood cx R_Elimination b_Elimination_runGreedily 5 3 none) (hA : h_own cx) (a1 : Nat) (h_a1 : HIsG a1) (μ : HMem) : HX cx (HQ cx h_eV) (f_Elimination_runGreedily a1 μ) 0 0 0 [(0, .ref 92), (1, .ref a1)] [] μ := by
  unfold f_Elimination_runGreedily
  refine r_aload_n hg 0 d_Elimination_runGreedily_0 rfl rfl ?_
  refine r_aload_n hg 1 d_Elimination_runGreedily_1 rfl rfl ?_
  refine r_callV (As := [.ref a1]) hg (t_Elimination_begin a1 h_a1 μ) v_Elimination_begin c_Elimination rfl (by decide) rfl wm_Elimination_55 d_Elimination_runGreedily_2 rfl ⟨by decide, by decide⟩ (Nat.le_of_ble_eq_true rfl) rfl (fun r2 μ_2 _ => ?_)
  refine r_aload_n hg 1 d_Elimination_runGreedily_5 rfl rfl ?_
  refine r_callV (As := []) hg (t_Graph_all a1 h_a1 μ_2) v_Graph_all c_Graph rfl (h_G_lt h_a1) (h_G_kd h_a1) wm_Elimination_59 d_Elimination_runGreedily_6 rfl ⟨by decide, by decide⟩ (Nat.le_of_ble_eq_true rfl) rfl (fun r6 μ_6 _ => ?_)
  refine r_istore_n (l' := [(2, .int r6), (0, .ref 92), (1, .ref a1)]) hg d_Elimination_runGreedily_9 rfl (Nat.le_of_ble_eq_true rfl) rfl ?_
  refine r_iconst (v := 0) hg d_Elimination_runGreedily_10 (by decide) ?_
  refine r_istore_n (l' := [(3, .int 0), (2, .int r6), (0, .ref 92), (1, .ref a1)]) hg d_Elimination_runGreedily_11 rfl (Nat.le_of_ble_eq_true rfl) rfl ?_
  refine r_sub [2, 3, 1, 0] rfl ?_
  exact t_Elimination_runGreedily_L12 hg hA h_fuel a1 h_a1 r6 0 μ_6
theorem t_Elimination_runGreedily (a1 : Nat) (h_a1 : HIsG a1) (μ : HMem) : HSpec y_Elimination_runGreedily b_Elimination_runGreedily 5 none 3 h_eV [.ref 92, .ref a1] μ (f_Elimination_runGreedily a1 μ) :=
  HSpec.of (by decide +kernel) (v_Elimination_runGreedily.1 _ (by simp)) (Nat.le_of_ble_eq_true rfl) (fun cx hA hg => t_Elimination_runGreedily_0 hg hA a1 h_a1 μ)
theorem t_Elimination_runInOrder_L7_b {cx : HCx} (hg : HGood cx R_Elimination b_Elimination_runInOrder 3 3 none) (hA : h_own cx)  (rec_ : Nat → Int32 → HMem → Option (Unit × HMem)) (hrec_ : p_Elimination_runInOrder_7 cx rec_) (a1 : Nat) (h_a1 : HIsG a1) (v2 : Int32) (μ : HMem) : HX cx (HQ cx h_eV) (f_Elimination_runInOrder_L7_b  rec_ a1 v2 μ) 0 0 7 [(0, .ref 92), (1, .ref a1), (2, .int v2)] [] μ := by
  unfold f_Elimination_runInOrder_L7_b
  refine r_iload_n hg 2 d_Elimination_runInOrder_7 rfl rfl ?_
  refine r_aload_n hg 1 d_Elimination_runInOrder_8 rfl rfl ?_
  refine r_get (v := .int (μ.1 a1 0)) hg c_Graph (h_G_lt h_a1) (h_G_kd h_a1) (Nat.le_of_ble_eq_true rfl) (h_G_fl0 h_a1) wf_Elimination_31 d_Elimination_runInOrder_9 rfl ?_
  refine r_icmp_ge (tgt := 35) hg d_Elimination_runInOrder_12 (by decide) ?_ ?_
  · exact r_vret hg hA rfl d_Elimination_runInOrder_35 rfl
  · refine r_aload_n hg 0 d_Elimination_runInOrder_15 rfl rfl ?_
    refine r_aload_n hg 0 d_Elimination_runInOrder_16 rfl rfl ?_
    refine r_get (v := .ref 93) hg c_Elimination (by decide) rfl (Nat.le_of_ble_eq_true rfl) rfl wf_Elimination_9 d_Elimination_runInOrder_17 rfl ?_
    refine r_iload_n hg 2 d_Elimination_runInOrder_20 rfl rfl ?_
    refine r_iald hg (by decide) rfl d_Elimination_runInOrder_21 ?_
    refine r_aload_n hg 1 d_Elimination_runInOrder_22 rfl rfl ?_
    refine r_get (v := .int (μ.1 a1 0)) hg c_Graph (h_G_lt h_a1) (h_G_kd h_a1) (Nat.le_of_ble_eq_true rfl) (h_G_fl0 h_a1) wf_Elimination_31 d_Elimination_runInOrder_23 rfl ?_
    refine r_callV (As := [.int (μ.1 93 (Int32.toNatClampNeg (v2))), .int (μ.1 a1 0)]) hg (t_Elimination_eliminate (μ.1 93 (Int32.toNatClampNeg (v2))) (μ.1 a1 0) μ) v_Elimination_eliminate c_Elimination rfl (by decide) rfl wm_Elimination_66 d_Elimination_runInOrder_26 rfl ⟨by decide, by decide⟩ (Nat.le_of_ble_eq_true rfl) rfl (fun r26 μ_26 _ => ?_)
    refine r_letE (fun v2_29 he_29 => ?_)
    refine r_iinc (v := v2_29) (l' := [(2, .int v2_29), (0, .ref 92), (1, .ref a1)]) hg 2 d_Elimination_runInOrder_29 rfl he_29 (Nat.le_of_ble_eq_true rfl) rfl ?_
    refine r_goto (tgt := 7) hg d_Elimination_runInOrder_32 (by decide) ?_
    refine r_sub [1, 2, 0] rfl ?_
    exact hrec_ a1 h_a1 v2_29 μ_26
theorem t_Elimination_runInOrder_L7 {cx : HCx} (hg : HGood cx R_Elimination b_Elimination_runInOrder 3 3 none) (hA : h_own cx)  : ∀ (fuel : Nat) (a1 : Nat) (h_a1 : HIsG a1) (v2 : Int32) (μ : HMem), HX cx (HQ cx h_eV) (f_Elimination_runInOrder_L7  fuel a1 v2 μ) 0 0 7 [(0, .ref 92), (1, .ref a1), (2, .int v2)] [] μ
  | 0, _, _, _, _ => by unfold f_Elimination_runInOrder_L7; exact HX.none
  | fuel + 1, a1, h_a1, v2, μ => by
    rw [f_Elimination_runInOrder_L7]
    exact t_Elimination_runInOrder_L7_b hg hA   (f_Elimination_runInOrder_L7  fuel) (t_Elimination_runInOrder_L7 hg hA   fuel) a1 h_a1 v2 μ
theorem t_Elimination_runInOrder_0 {cx : HCx} (hg : HGood cx R_Elimination b_Elimination_runInOrder 3 3 none) (hA : h_own cx) (a1 : Nat) (h_a1 : HIsG a1) (μ : HMem) : HX cx (HQ cx h_eV) (f_Elimination_runInOrder a1 μ) 0 0 0 [(0, .ref 92), (1, .ref a1)] [] μ := by
  unfold f_Elimination_runInOrder
  refine r_aload_n hg 0 d_Elimination_runInOrder_0 rfl rfl ?_
  refine r_aload_n hg 1 d_Elimination_runInOrder_1 rfl rfl ?_
  refine r_callV (As := [.ref a1]) hg (t_Elimination_begin a1 h_a1 μ) v_Elimination_begin c_Elimination rfl (by decide) rfl wm_Elimination_55 d_Elimination_runInOrder_2 rfl ⟨by decide, by decide⟩ (Nat.le_of_ble_eq_true rfl) rfl (fun r2 μ_2 _ => ?_)
  refine r_iconst (v := 0) hg d_Elimination_runInOrder_5 (by decide) ?_
  refine r_istore_n (l' := [(2, .int 0), (0, .ref 92), (1, .ref a1)]) hg d_Elimination_runInOrder_6 rfl (Nat.le_of_ble_eq_true rfl) rfl ?_
  refine r_sub [1, 2, 0] rfl ?_
  exact t_Elimination_runInOrder_L7 hg hA h_fuel a1 h_a1 0 μ_2
theorem t_Elimination_runInOrder (a1 : Nat) (h_a1 : HIsG a1) (μ : HMem) : HSpec y_Elimination_runInOrder b_Elimination_runInOrder 3 none 3 h_eV [.ref 92, .ref a1] μ (f_Elimination_runInOrder a1 μ) :=
  HSpec.of (by decide +kernel) (v_Elimination_runInOrder.1 _ (by simp)) (Nat.le_of_ble_eq_true rfl) (fun cx hA hg => t_Elimination_runInOrder_0 hg hA a1 h_a1 μ)
theorem t_Elimination_readOrder_L10_b {cx : HCx} (hg : HGood cx R_Elimination b_Elimination_readOrder 7 2 (some .boolean)) (hA : h_own cx) (K44 : HMem → Option (Int32 × HMem)) (hK44 : p_Elimination_readOrder_44 cx K44) (K75 : Int32 → HMem → Option (Int32 × HMem)) (hK75 : p_Elimination_readOrder_75 cx K75) (rec_ : Int32 → Int32 → Int32 → Int32 → HMem → Option (Int32 × HMem)) (hrec_ : p_Elimination_readOrder_10 cx rec_) (v2 : Int32) (v3 : Int32) (v4 : Int32) (v5 : Int32) (μ : HMem) : HX cx (HQ cx h_eI) (f_Elimination_readOrder_L10_b K44 K75 rec_ v2 v3 v4 v5 μ) 0 0 10 [(0, .ref 92), (2, .int v2), (3, .int v3), (4, .int v4), (5, .int v5)] [] μ := by
  unfold f_Elimination_readOrder_L10_b
  refine r_iload hg 4 d_Elimination_readOrder_10 rfl ?_
  refine r_if_lt (tgt := 75) hg d_Elimination_readOrder_12 (by decide) ?_ ?_
  · refine r_sub [2] rfl ?_
    exact hK75 v3 μ
  · refine r_iload_n hg 2 d_Elimination_readOrder_15 rfl rfl ?_
    refine r_bipush (v := 10) hg d_Elimination_readOrder_16 (by decide) ?_
    refine r_irem hg d_Elimination_readOrder_18 ?_
    refine r_iconst (v := 1) hg d_Elimination_readOrder_19 (by decide) ?_
    refine r_isub hg d_Elimination_readOrder_20 ?_
    refine r_letI (fun v6_21 => ?_)
    refine r_istore (l' := [(6, .int v6_21), (0, .ref 92), (2, .int v2), (3, .int v3), (4, .int v4), (5, .int v5)]) hg d_Elimination_readOrder_21 (Nat.le_of_ble_eq_true rfl) rfl ?_
    refine r_iload hg 0 d_Elimination_readOrder_23 rfl ?_
    refine r_if_lt (tgt := 44) hg d_Elimination_readOrder_25 (by decide) ?_ ?_
    · refine r_sub [] rfl ?_
      exact hK44 μ
    · refine r_iload hg 0 d_Elimination_readOrder_28 rfl ?_
      refine r_iload_n hg 2 d_Elimination_readOrder_30 rfl rfl ?_
      refine r_icmp_ge (tgt := 44) hg d_Elimination_readOrder_31 (by decide) ?_ ?_
      · refine r_sub [] rfl ?_
        exact hK44 μ
      · refine r_iload hg 4 d_Elimination_readOrder_34 rfl ?_
        refine r_iload hg 0 d_Elimination_readOrder_36 rfl ?_
        refine r_callN (As := [.int v4, .int v6_21]) (host := "HomBench") hg (t_Bench_has v4 v6_21 μ) v_Bench_has (by decide) d_Elimination_readOrder_38 rfl ⟨by decide, by decide⟩ (Nat.le_of_ble_eq_true rfl) rfl (fun r38 μ_38 _ => ?_)
        refine r_if_eq (tgt := 46) hg d_Elimination_readOrder_41 (by decide) ?_ ?_
        · refine r_aload_n hg 1 d_Elimination_readOrder_46 rfl rfl ?_
          refine r_get (v := .ref 93) hg c_Elimination (by decide) rfl (Nat.le_of_ble_eq_true rfl) rfl wf_Elimination_9 d_Elimination_readOrder_47 rfl ?_
          refine r_iload hg 5 d_Elimination_readOrder_50 rfl ?_
          refine r_iload hg 0 d_Elimination_readOrder_52 rfl ?_
          refine r_iast hg (by decide) rfl d_Elimination_readOrder_54 ?_
          refine r_letM (fun μ_54 => ?_)
          refine r_iload hg 4 d_Elimination_readOrder_55 rfl ?_
          refine r_iconst (v := 1) hg d_Elimination_readOrder_57 (by decide) ?_
          refine r_iload hg 0 d_Elimination_readOrder_58 rfl ?_
          refine r_ishl hg d_Elimination_readOrder_60 ?_
          refine r_ior hg d_Elimination_readOrder_61 ?_
          refine r_letI (fun v4_62 => ?_)
          refine r_istore (l' := [(4, .int v4_62), (6, .int v6_21), (0, .ref 92), (2, .int v2), (3, .int v3), (5, .int v5)]) hg d_Elimination_readOrder_62 (Nat.le_of_ble_eq_true rfl) rfl ?_
          refine r_iload_n hg 4 d_Elimination_readOrder_64 rfl rfl ?_
          refine r_bipush (v := 10) hg d_Elimination_readOrder_65 (by decide) ?_
          refine r_idiv hg d_Elimination_readOrder_67 ?_
          refine r_letI (fun v3_68 => ?_)
          refine r_istore_n (l' := [(3, .int v3_68), (4, .int v4_62), (6, .int v6_21), (0, .ref 92), (2, .int v2), (5, .int v5)]) hg d_Elimination_readOrder_68 rfl (Nat.le_of_ble_eq_true rfl) rfl ?_
          refine r_letE (fun v5_69 he_69 => ?_)
          refine r_iinc (v := v5_69) (l' := [(5, .int v5_69), (3, .int v3_68), (4, .int v4_62), (6, .int v6_21), (0, .ref 92), (2, .int v2)]) hg 5 d_Elimination_readOrder_69 rfl he_69 (Nat.le_of_ble_eq_true rfl) rfl ?_
          refine r_goto (tgt := 10) hg d_Elimination_readOrder_72 (by decide) ?_
          refine r_sub [4, 5, 1, 2, 0] rfl ?_
          exact hrec_ v2 v3_68 v4_62 v5_69 μ_54
        · refine r_sub [] rfl ?_
          exact hK44 μ_38
theorem t_Elimination_readOrder_L10 {cx : HCx} (hg : HGood cx R_Elimination b_Elimination_readOrder 7 2 (some .boolean)) (hA : h_own cx) (K44 : HMem → Option (Int32 × HMem)) (hK44 : p_Elimination_readOrder_44 cx K44) (K75 : Int32 → HMem → Option (Int32 × HMem)) (hK75 : p_Elimination_readOrder_75 cx K75) : ∀ (fuel : Nat) (v2 : Int32) (v3 : Int32) (v4 : Int32) (v5 : Int32) (μ : HMem), HX cx (HQ cx h_eI) (f_Elimination_readOrder_L10 K44 K75 fuel v2 v3 v4 v5 μ) 0 0 10 [(0, .ref 92), (2, .int v2), (3, .int v3), (4, .int v4), (5, .int v5)] [] μ
  | 0, _, _, _, _, _ => by unfold f_Elimination_readOrder_L10; exact HX.none
  | fuel + 1, v2, v3, v4, v5, μ => by
    rw [f_Elimination_readOrder_L10]
    exact t_Elimination_readOrder_L10_b hg hA  K44 hK44 K75 hK75 (f_Elimination_readOrder_L10 K44 K75 fuel) (t_Elimination_readOrder_L10 hg hA  K44 hK44 K75 hK75 fuel) v2 v3 v4 v5 μ
theorem t_Elimination_readOrder_J44 {cx : HCx} (hg : HGood cx R_Elimination b_Elimination_readOrder 7 2 (some .boolean)) (hA : h_own cx)    (μ : HMem) : HX cx (HQ cx h_eI) (f_Elimination_readOrder_J44   μ) 0 0 44 [] [] μ := by
  unfold f_Elimination_readOrder_J44
  refine r_iconst (v := 0) hg d_Elimination_readOrder_44 (by decide) ?_
  exact r_zretB hg hA rfl d_Elimination_readOrder_45 rfl
theorem t_Elimination_readOrder_J84 {cx : HCx} (hg : HGood cx R_Elimination b_Elimination_readOrder 7 2 (some .boolean)) (hA : h_own cx)   (s0 : Int32) (μ : HMem) : HX cx (HQ cx h_eI) (f_Elimination_readOrder_J84   s0 μ) 0 0 84 [] [.int s0] μ := by
  unfold f_Elimination_readOrder_J84
  exact r_zretB hg hA rfl d_Elimination_readOrder_84 rfl
theorem t_Elimination_readOrder_J75 {cx : HCx} (hg : HGood cx R_Elimination b_Elimination_readOrder 7 2 (some .boolean)) (hA : h_own cx)   (v3 : Int32) (μ : HMem) : HX cx (HQ cx h_eI) (f_Elimination_readOrder_J75   v3 μ) 0 0 75 [(3, .int v3)] [] μ := by
  unfold f_Elimination_readOrder_J75
  refine r_iload_n hg 0 d_Elimination_readOrder_75 rfl rfl ?_
  refine r_if_ne (tgt := 83) hg d_Elimination_readOrder_76 (by decide) ?_ ?_
  · refine r_iconst (v := 0) hg d_Elimination_readOrder_83 (by decide) ?_
    refine r_sub [] rfl ?_
    exact t_Elimination_readOrder_J84 hg hA 0 μ
  · refine r_iconst (v := 1) hg d_Elimination_readOrder_79 (by decide) ?_
    refine r_goto (tgt := 84) hg d_Elimination_readOrder_80 (by decide) ?_
    refine r_sub [] rfl ?_
    exact t_Elimination_readOrder_J84 hg hA 1 μ
theorem t_Elimination_readOrder_0 {cx : HCx} (hg : HGood cx R_Elimination b_Elimination_readOrder 7 2 (some .boolean)) (hA : h_own cx) (v1 : Int32) (v2 : Int32) (μ : HMem) : HX cx (HQ cx h_eI) (f_Elimination_readOrder v1 v2 μ) 0 0 0 [(0, .ref 92), (1, .int v1), (2, .int v2)] [] μ := by
  unfold f_Elimination_readOrder
  refine r_iload_n hg 1 d_Elimination_readOrder_0 rfl rfl ?_
  refine r_istore_n (l' := [(3, .int v1), (0, .ref 92), (1, .int v1), (2, .int v2)]) hg d_Elimination_readOrder_1 rfl (Nat.le_of_ble_eq_true rfl) rfl ?_
  refine r_iconst (v := 0) hg d_Elimination_readOrder_2 (by decide) ?_
  refine r_istore (l' := [(4, .int 0), (3, .int v1), (0, .ref 92), (1, .int v1), (2, .int v2)]) hg d_Elimination_readOrder_3 (Nat.le_of_ble_eq_true rfl) rfl ?_
  refine r_iload_n hg 4 d_Elimination_readOrder_5 rfl rfl ?_
  refine r_iconst (v := 1) hg d_Elimination_readOrder_6 (by decide) ?_
  refine r_isub hg d_Elimination_readOrder_7 ?_
  refine r_letI (fun v5_8 => ?_)
  refine r_istore (l' := [(5, .int v5_8), (4, .int 0), (3, .int v1), (0, .ref 92), (1, .int v1), (2, .int v2)]) hg d_Elimination_readOrder_8 (Nat.le_of_ble_eq_true rfl) rfl ?_
  refine r_sub [3, 5, 2, 1, 0] rfl ?_
  exact t_Elimination_readOrder_L10 hg hA f_Elimination_readOrder_J44 (t_Elimination_readOrder_J44 hg hA) f_Elimination_readOrder_J75 (t_Elimination_readOrder_J75 hg hA) h_fuel v2 v1 0 v5_8 μ
theorem t_Elimination_readOrder (v1 : Int32) (v2 : Int32) (μ : HMem) : HSpec y_Elimination_readOrder b_Elimination_readOrder 7 (some .boolean) 2 h_eI [.ref 92, .int v1, .int v2] μ (f_Elimination_readOrder v1 v2 μ) :=
  HSpec.of (by decide +kernel) (v_Elimination_readOrder.1 _ (by simp)) (Nat.le_of_ble_eq_true rfl) (fun cx hA hg => t_Elimination_readOrder_0 hg hA v1 v2 μ)
