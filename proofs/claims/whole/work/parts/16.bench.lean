/-! pure programs and their proofs: bench (written by gen.py) -/
def y_Bench_clearText : MethodName := ⟨R_Bench, "clearText", "()I"⟩
abbrev b_Bench_clearText : ByteArray := prog_1_method_31_code
theorem v_Bench_clearText : HVirt y_Bench_clearText b_Bench_clearText 2 (some .int) 0 := ⟨List.forall_mem_cons.mpr ⟨h_inI 368 (by decide +kernel) rfl, List.forall_mem_cons.mpr ⟨h_inI 369 (by decide +kernel) rfl, List.forall_mem_cons.mpr ⟨h_inI 100 (by decide +kernel) rfl, List.forall_mem_cons.mpr ⟨h_inI 370 (by decide +kernel) rfl, fun _ h => absurd h List.not_mem_nil⟩⟩⟩⟩, by decide, by decide, by decide +kernel⟩
def y_Bench_hashOfWeights : MethodName := ⟨R_Bench, "hashOfWeights", "(JLHomBench$Graph;)J"⟩
abbrev b_Bench_hashOfWeights : ByteArray := prog_1_method_36_code
theorem v_Bench_hashOfWeights : HStat y_Bench_hashOfWeights b_Bench_hashOfWeights 7 (some .long) 2 := ⟨List.forall_mem_cons.mpr ⟨h_inI 377 (by decide +kernel) rfl, List.forall_mem_cons.mpr ⟨h_inI 100 (by decide +kernel) rfl, List.forall_mem_cons.mpr ⟨h_inI 378 (by decide +kernel) rfl, fun _ h => absurd h List.not_mem_nil⟩⟩⟩, by decide, by decide, by decide +kernel⟩
def y_Bench_hashOfComparisons : MethodName := ⟨R_Bench, "hashOfComparisons", "(J)J"⟩
abbrev b_Bench_hashOfComparisons : ByteArray := prog_1_method_37_code
theorem v_Bench_hashOfComparisons : HVirt y_Bench_hashOfComparisons b_Bench_hashOfComparisons 10 (some .long) 1 := ⟨List.forall_mem_cons.mpr ⟨h_inI 485 (by decide +kernel) rfl, List.forall_mem_cons.mpr ⟨h_inI 8 (by decide +kernel) rfl, List.forall_mem_cons.mpr ⟨h_inI 100 (by decide +kernel) rfl, List.forall_mem_cons.mpr ⟨h_inI 486 (by decide +kernel) rfl, fun _ h => absurd h List.not_mem_nil⟩⟩⟩⟩, by decide, by decide, by decide +kernel⟩
def y_Bench_digest : MethodName := ⟨R_Bench, "digest", "()J"⟩
abbrev b_Bench_digest : ByteArray := prog_1_method_35_code
theorem v_Bench_digest : HVirt y_Bench_digest b_Bench_digest 4 (some .long) 0 := ⟨List.forall_mem_cons.mpr ⟨h_inI 372 (by decide +kernel) rfl, List.forall_mem_cons.mpr ⟨h_inI 373 (by decide +kernel) rfl, List.forall_mem_cons.mpr ⟨h_inI 100 (by decide +kernel) rfl, List.forall_mem_cons.mpr ⟨h_inI 374 (by decide +kernel) rfl, fun _ h => absurd h List.not_mem_nil⟩⟩⟩⟩, by decide, by decide, by decide +kernel⟩
def y_Bench_colorRest : MethodName := ⟨R_Bench, "colorRest", "(LHomBench$Graph;[IIII)J"⟩
abbrev b_Bench_colorRest : ByteArray := prog_1_method_46_code
theorem v_Bench_colorRest : HStat y_Bench_colorRest b_Bench_colorRest 8 (some .long) 5 := ⟨List.forall_mem_cons.mpr ⟨h_inI 962 (by decide +kernel) rfl, List.forall_mem_cons.mpr ⟨h_inI 100 (by decide +kernel) rfl, List.forall_mem_cons.mpr ⟨h_inI 963 (by decide +kernel) rfl, fun _ h => absurd h List.not_mem_nil⟩⟩⟩, by decide, by decide, by decide +kernel⟩
def y_Bench_properColorings : MethodName := ⟨R_Bench, "properColorings", "(LHomBench$Graph;I)J"⟩
abbrev b_Bench_properColorings : ByteArray := prog_1_method_45_code
theorem v_Bench_properColorings : HVirt y_Bench_properColorings b_Bench_properColorings 3 (some .long) 2 := ⟨List.forall_mem_cons.mpr ⟨h_inI 959 (by decide +kernel) rfl, List.forall_mem_cons.mpr ⟨h_inI 22 (by decide +kernel) rfl, List.forall_mem_cons.mpr ⟨h_inI 100 (by decide +kernel) rfl, List.forall_mem_cons.mpr ⟨h_inI 960 (by decide +kernel) rfl, fun _ h => absurd h List.not_mem_nil⟩⟩⟩⟩, by decide, by decide, by decide +kernel⟩
theorem wf_Bench_260 : Cond.fieldLink R_Bench 260 (F_Text 1).1 (F_Text 1).2.1 (F_Text 1).2.2.1 ∈ h_tb := h_inI 196 (by decide +kernel) rfl
theorem wf_Bench_30 : Cond.fieldLink R_Bench 30 (F_Bench 3).1 (F_Bench 3).2.1 (F_Bench 3).2.2.1 ∈ h_tb := h_inI 336 (by decide +kernel) rfl
theorem wc_Bench_294 : Cond.constantLong R_Bench 294 31 ∈ h_tb := h_inI 379 (by decide +kernel) rfl
theorem wf_Bench_104 : Cond.fieldLink R_Bench 104 (F_Graph 1).1 (F_Graph 1).2.1 (F_Graph 1).2.2.1 ∈ h_tb := h_inI 149 (by decide +kernel) rfl
theorem wf_Bench_92 : Cond.fieldLink R_Bench 92 (F_Graph 0).1 (F_Graph 0).2.1 (F_Graph 0).2.2.1 ∈ h_tb := h_inI 142 (by decide +kernel) rfl
theorem wm_Bench_107 : Cond.methodLink R_Bench 107 y_Graph_between ∈ h_tb := h_inI 380 (by decide +kernel) rfl
theorem wf_Bench_11 : Cond.fieldLink R_Bench 11 (F_Bench 0).1 (F_Bench 0).2.1 (F_Bench 0).2.2.1 ∈ h_tb := h_inI 333 (by decide +kernel) rfl
theorem wf_Bench_58 : Cond.fieldLink R_Bench 58 (F_Bench 7).1 (F_Bench 7).2.1 (F_Bench 7).2.2.1 ∈ h_tb := h_inI 340 (by decide +kernel) rfl
theorem wm_Bench_240 : Cond.methodLink R_Bench 240 y_HomSearch_maps ∈ h_tb := h_inI 487 (by decide +kernel) rfl
theorem wm_Bench_300 : Cond.methodLink R_Bench 300 y_Bench_has ∈ h_tb := h_inI 491 (by decide +kernel) rfl
theorem wc_Bench_288 : Cond.constantLong R_Bench 288 89249 ∈ h_tb := h_inI 375 (by decide +kernel) rfl
theorem wf_Bench_23 : Cond.fieldLink R_Bench 23 (F_Bench 2).1 (F_Bench 2).2.1 (F_Bench 2).2.2.1 ∈ h_tb := h_inI 335 (by decide +kernel) rfl
theorem wf_Bench_282 : Cond.fieldLink R_Bench 282 (F_History 2).1 (F_History 2).2.1 (F_History 2).2.2.1 ∈ h_tb := h_inI 179 (by decide +kernel) rfl
theorem wf_Bench_44 : Cond.fieldLink R_Bench 44 (F_Bench 5).1 (F_Bench 5).2.1 (F_Bench 5).2.2.1 ∈ h_tb := h_inI 338 (by decide +kernel) rfl
theorem wf_Bench_65 : Cond.fieldLink R_Bench 65 (F_Bench 8).1 (F_Bench 8).2.1 (F_Bench 8).2.2.1 ∈ h_tb := h_inI 341 (by decide +kernel) rfl
theorem wm_Bench_157 : Cond.methodLink R_Bench 157 y_HomSearch_coreOf ∈ h_tb := h_inI 441 (by decide +kernel) rfl
theorem wm_Bench_167 : Cond.methodLink R_Bench 167 y_Integer_bitCount ∈ h_tb := h_inI 482 (by decide +kernel) rfl
theorem wm_Bench_197 : Cond.methodLink R_Bench 197 y_Elimination_smallestWidth ∈ h_tb := h_inI 384 (by decide +kernel) rfl
theorem wm_Bench_229 : Cond.methodLink R_Bench 229 y_Bijections_countOnto ∈ h_tb := h_inI 418 (by decide +kernel) rfl
theorem wm_Bench_290 : Cond.methodLink R_Bench 290 y_Bench_hashOfWeights ∈ h_tb := h_inI 376 (by decide +kernel) rfl
theorem wm_Bench_296 : Cond.methodLink R_Bench 296 y_Bench_hashOfComparisons ∈ h_tb := h_inI 483 (by decide +kernel) rfl
theorem wf_Bench_164 : Cond.fieldLink R_Bench 164 (F_Graph 3).1 (F_Graph 3).2.1 (F_Graph 3).2.2.1 ∈ h_tb := h_inI 157 (by decide +kernel) rfl
theorem wm_Bench_322 : Cond.methodLink R_Bench 322 y_Bench_colorRest ∈ h_tb := h_inI 961 (by decide +kernel) rfl
theorem wf_Bench_69 : Cond.fieldLink R_Bench 69 (F_Bench 9).1 (F_Bench 9).2.1 (F_Bench 9).2.2.1 ∈ h_tb := h_inI 342 (by decide +kernel) rfl
theorem wm_Bench_121 : Cond.methodLink R_Bench 121 y_Graph_loopCount ∈ h_tb := h_inI 650 (by decide +kernel) rfl
theorem d_Bench_clearText_0 : decode b_Bench_clearText 0 = .ok (.aload_n 0, 1) := by decide +kernel
theorem d_Bench_clearText_1 : decode b_Bench_clearText 1 = .ok (.getfield 30, 3) := by decide +kernel
theorem d_Bench_clearText_4 : decode b_Bench_clearText 4 = .ok (.getfield 260, 3) := by decide +kernel
theorem d_Bench_clearText_7 : decode b_Bench_clearText 7 = .ok (.istore_n 1, 1) := by decide +kernel
theorem d_Bench_clearText_8 : decode b_Bench_clearText 8 = .ok (.aload_n 0, 1) := by decide +kernel
theorem d_Bench_clearText_9 : decode b_Bench_clearText 9 = .ok (.getfield 30, 3) := by decide +kernel
theorem d_Bench_clearText_12 : decode b_Bench_clearText 12 = .ok (.iconst 0, 1) := by decide +kernel
theorem d_Bench_clearText_13 : decode b_Bench_clearText 13 = .ok (.putfield 260, 3) := by decide +kernel
theorem d_Bench_clearText_16 : decode b_Bench_clearText 16 = .ok (.iload_n 1, 1) := by decide +kernel
theorem d_Bench_clearText_17 : decode b_Bench_clearText 17 = .ok (.ireturn, 1) := by decide +kernel
theorem d_Bench_hashOfWeights_0 : decode b_Bench_hashOfWeights 0 = .ok (.ldc2_w 294, 3) := by decide +kernel
theorem d_Bench_hashOfWeights_3 : decode b_Bench_hashOfWeights 3 = .ok (.lload_n 0, 1) := by decide +kernel
theorem d_Bench_hashOfWeights_4 : decode b_Bench_hashOfWeights 4 = .ok (.lmul, 1) := by decide +kernel
theorem d_Bench_hashOfWeights_5 : decode b_Bench_hashOfWeights 5 = .ok (.aload_n 2, 1) := by decide +kernel
theorem d_Bench_hashOfWeights_6 : decode b_Bench_hashOfWeights 6 = .ok (.getfield 92, 3) := by decide +kernel
theorem d_Bench_hashOfWeights_9 : decode b_Bench_hashOfWeights 9 = .ok (.i2l, 1) := by decide +kernel
theorem d_Bench_hashOfWeights_10 : decode b_Bench_hashOfWeights 10 = .ok (.ladd, 1) := by decide +kernel
theorem d_Bench_hashOfWeights_11 : decode b_Bench_hashOfWeights 11 = .ok (.lstore_n 3, 1) := by decide +kernel
theorem d_Bench_hashOfWeights_12 : decode b_Bench_hashOfWeights 12 = .ok (.iconst 0, 1) := by decide +kernel
theorem d_Bench_hashOfWeights_13 : decode b_Bench_hashOfWeights 13 = .ok (.istore 5, 2) := by decide +kernel
theorem d_Bench_hashOfWeights_15 : decode b_Bench_hashOfWeights 15 = .ok (.iload 5, 2) := by decide +kernel
theorem d_Bench_hashOfWeights_17 : decode b_Bench_hashOfWeights 17 = .ok (.aload_n 2, 1) := by decide +kernel
theorem d_Bench_hashOfWeights_18 : decode b_Bench_hashOfWeights 18 = .ok (.getfield 92, 3) := by decide +kernel
theorem d_Bench_hashOfWeights_21 : decode b_Bench_hashOfWeights 21 = .ok (.if_icmp .ge 24, 3) := by decide +kernel
theorem d_Bench_hashOfWeights_24 : decode b_Bench_hashOfWeights 24 = .ok (.ldc2_w 294, 3) := by decide +kernel
theorem d_Bench_hashOfWeights_27 : decode b_Bench_hashOfWeights 27 = .ok (.lload_n 3, 1) := by decide +kernel
theorem d_Bench_hashOfWeights_28 : decode b_Bench_hashOfWeights 28 = .ok (.lmul, 1) := by decide +kernel
theorem d_Bench_hashOfWeights_29 : decode b_Bench_hashOfWeights 29 = .ok (.aload_n 2, 1) := by decide +kernel
theorem d_Bench_hashOfWeights_30 : decode b_Bench_hashOfWeights 30 = .ok (.getfield 104, 3) := by decide +kernel
theorem d_Bench_hashOfWeights_33 : decode b_Bench_hashOfWeights 33 = .ok (.iload 5, 2) := by decide +kernel
theorem d_Bench_hashOfWeights_35 : decode b_Bench_hashOfWeights 35 = .ok (.iaload, 1) := by decide +kernel
theorem d_Bench_hashOfWeights_36 : decode b_Bench_hashOfWeights 36 = .ok (.i2l, 1) := by decide +kernel
theorem d_Bench_hashOfWeights_37 : decode b_Bench_hashOfWeights 37 = .ok (.ladd, 1) := by decide +kernel
theorem d_Bench_hashOfWeights_38 : decode b_Bench_hashOfWeights 38 = .ok (.lstore_n 3, 1) := by decide +kernel
theorem d_Bench_hashOfWeights_39 : decode b_Bench_hashOfWeights 39 = .ok (.iinc 5 1, 3) := by decide +kernel
theorem d_Bench_hashOfWeights_42 : decode b_Bench_hashOfWeights 42 = .ok (.goto (-27), 3) := by decide +kernel
theorem d_Bench_hashOfWeights_45 : decode b_Bench_hashOfWeights 45 = .ok (.iconst 0, 1) := by decide +kernel
theorem d_Bench_hashOfWeights_46 : decode b_Bench_hashOfWeights 46 = .ok (.istore 5, 2) := by decide +kernel
theorem d_Bench_hashOfWeights_48 : decode b_Bench_hashOfWeights 48 = .ok (.iload 5, 2) := by decide +kernel
theorem d_Bench_hashOfWeights_50 : decode b_Bench_hashOfWeights 50 = .ok (.aload_n 2, 1) := by decide +kernel
theorem d_Bench_hashOfWeights_51 : decode b_Bench_hashOfWeights 51 = .ok (.getfield 92, 3) := by decide +kernel
theorem d_Bench_hashOfWeights_54 : decode b_Bench_hashOfWeights 54 = .ok (.if_icmp .ge 44, 3) := by decide +kernel
theorem d_Bench_hashOfWeights_57 : decode b_Bench_hashOfWeights 57 = .ok (.iload 5, 2) := by decide +kernel
theorem d_Bench_hashOfWeights_59 : decode b_Bench_hashOfWeights 59 = .ok (.istore 6, 2) := by decide +kernel
theorem d_Bench_hashOfWeights_61 : decode b_Bench_hashOfWeights 61 = .ok (.iload 6, 2) := by decide +kernel
theorem d_Bench_hashOfWeights_63 : decode b_Bench_hashOfWeights 63 = .ok (.aload_n 2, 1) := by decide +kernel
theorem d_Bench_hashOfWeights_64 : decode b_Bench_hashOfWeights 64 = .ok (.getfield 92, 3) := by decide +kernel
theorem d_Bench_hashOfWeights_67 : decode b_Bench_hashOfWeights 67 = .ok (.if_icmp .ge 25, 3) := by decide +kernel
theorem d_Bench_hashOfWeights_70 : decode b_Bench_hashOfWeights 70 = .ok (.ldc2_w 294, 3) := by decide +kernel
theorem d_Bench_hashOfWeights_73 : decode b_Bench_hashOfWeights 73 = .ok (.lload_n 3, 1) := by decide +kernel
theorem d_Bench_hashOfWeights_74 : decode b_Bench_hashOfWeights 74 = .ok (.lmul, 1) := by decide +kernel
theorem d_Bench_hashOfWeights_75 : decode b_Bench_hashOfWeights 75 = .ok (.aload_n 2, 1) := by decide +kernel
theorem d_Bench_hashOfWeights_76 : decode b_Bench_hashOfWeights 76 = .ok (.iload 5, 2) := by decide +kernel
theorem d_Bench_hashOfWeights_78 : decode b_Bench_hashOfWeights 78 = .ok (.iload 6, 2) := by decide +kernel
theorem d_Bench_hashOfWeights_80 : decode b_Bench_hashOfWeights 80 = .ok (.invokevirtual 107, 3) := by decide +kernel
theorem d_Bench_hashOfWeights_83 : decode b_Bench_hashOfWeights 83 = .ok (.i2l, 1) := by decide +kernel
theorem d_Bench_hashOfWeights_84 : decode b_Bench_hashOfWeights 84 = .ok (.ladd, 1) := by decide +kernel
theorem d_Bench_hashOfWeights_85 : decode b_Bench_hashOfWeights 85 = .ok (.lstore_n 3, 1) := by decide +kernel
theorem d_Bench_hashOfWeights_86 : decode b_Bench_hashOfWeights 86 = .ok (.iinc 6 1, 3) := by decide +kernel
theorem d_Bench_hashOfWeights_89 : decode b_Bench_hashOfWeights 89 = .ok (.goto (-28), 3) := by decide +kernel
theorem d_Bench_hashOfWeights_92 : decode b_Bench_hashOfWeights 92 = .ok (.iinc 5 1, 3) := by decide +kernel
theorem d_Bench_hashOfWeights_95 : decode b_Bench_hashOfWeights 95 = .ok (.goto (-47), 3) := by decide +kernel
theorem d_Bench_hashOfWeights_98 : decode b_Bench_hashOfWeights 98 = .ok (.lload_n 3, 1) := by decide +kernel
theorem d_Bench_hashOfWeights_99 : decode b_Bench_hashOfWeights 99 = .ok (.lreturn, 1) := by decide +kernel
theorem d_Bench_hashOfComparisons_0 : decode b_Bench_hashOfComparisons 0 = .ok (.iconst 0, 1) := by decide +kernel
theorem d_Bench_hashOfComparisons_1 : decode b_Bench_hashOfComparisons 1 = .ok (.istore_n 3, 1) := by decide +kernel
theorem d_Bench_hashOfComparisons_2 : decode b_Bench_hashOfComparisons 2 = .ok (.iconst 0, 1) := by decide +kernel
theorem d_Bench_hashOfComparisons_3 : decode b_Bench_hashOfComparisons 3 = .ok (.istore 4, 2) := by decide +kernel
theorem d_Bench_hashOfComparisons_5 : decode b_Bench_hashOfComparisons 5 = .ok (.iload 4, 2) := by decide +kernel
theorem d_Bench_hashOfComparisons_7 : decode b_Bench_hashOfComparisons 7 = .ok (.iconst 4, 1) := by decide +kernel
theorem d_Bench_hashOfComparisons_8 : decode b_Bench_hashOfComparisons 8 = .ok (.if_icmp .ge 60, 3) := by decide +kernel
theorem d_Bench_hashOfComparisons_11 : decode b_Bench_hashOfComparisons 11 = .ok (.iconst 0, 1) := by decide +kernel
theorem d_Bench_hashOfComparisons_12 : decode b_Bench_hashOfComparisons 12 = .ok (.istore 5, 2) := by decide +kernel
theorem d_Bench_hashOfComparisons_14 : decode b_Bench_hashOfComparisons 14 = .ok (.iload 5, 2) := by decide +kernel
theorem d_Bench_hashOfComparisons_16 : decode b_Bench_hashOfComparisons 16 = .ok (.iconst 4, 1) := by decide +kernel
theorem d_Bench_hashOfComparisons_17 : decode b_Bench_hashOfComparisons 17 = .ok (.if_icmp .ge 45, 3) := by decide +kernel
theorem d_Bench_hashOfComparisons_20 : decode b_Bench_hashOfComparisons 20 = .ok (.aload_n 0, 1) := by decide +kernel
theorem d_Bench_hashOfComparisons_21 : decode b_Bench_hashOfComparisons 21 = .ok (.getfield 58, 3) := by decide +kernel
theorem d_Bench_hashOfComparisons_24 : decode b_Bench_hashOfComparisons 24 = .ok (.aload_n 0, 1) := by decide +kernel
theorem d_Bench_hashOfComparisons_25 : decode b_Bench_hashOfComparisons 25 = .ok (.getfield 11, 3) := by decide +kernel
theorem d_Bench_hashOfComparisons_28 : decode b_Bench_hashOfComparisons 28 = .ok (.iload 4, 2) := by decide +kernel
theorem d_Bench_hashOfComparisons_30 : decode b_Bench_hashOfComparisons 30 = .ok (.aaload, 1) := by decide +kernel
theorem d_Bench_hashOfComparisons_31 : decode b_Bench_hashOfComparisons 31 = .ok (.aload_n 0, 1) := by decide +kernel
theorem d_Bench_hashOfComparisons_32 : decode b_Bench_hashOfComparisons 32 = .ok (.getfield 11, 3) := by decide +kernel
theorem d_Bench_hashOfComparisons_35 : decode b_Bench_hashOfComparisons 35 = .ok (.iload 5, 2) := by decide +kernel
theorem d_Bench_hashOfComparisons_37 : decode b_Bench_hashOfComparisons 37 = .ok (.aaload, 1) := by decide +kernel
theorem d_Bench_hashOfComparisons_38 : decode b_Bench_hashOfComparisons 38 = .ok (.invokevirtual 240, 3) := by decide +kernel
theorem d_Bench_hashOfComparisons_41 : decode b_Bench_hashOfComparisons 41 = .ok (.ifCond .eq 15, 3) := by decide +kernel
theorem d_Bench_hashOfComparisons_44 : decode b_Bench_hashOfComparisons 44 = .ok (.iload_n 3, 1) := by decide +kernel
theorem d_Bench_hashOfComparisons_45 : decode b_Bench_hashOfComparisons 45 = .ok (.iconst 1, 1) := by decide +kernel
theorem d_Bench_hashOfComparisons_46 : decode b_Bench_hashOfComparisons 46 = .ok (.iconst 4, 1) := by decide +kernel
theorem d_Bench_hashOfComparisons_47 : decode b_Bench_hashOfComparisons 47 = .ok (.iload 4, 2) := by decide +kernel
theorem d_Bench_hashOfComparisons_49 : decode b_Bench_hashOfComparisons 49 = .ok (.imul, 1) := by decide +kernel
theorem d_Bench_hashOfComparisons_50 : decode b_Bench_hashOfComparisons 50 = .ok (.iload 5, 2) := by decide +kernel
theorem d_Bench_hashOfComparisons_52 : decode b_Bench_hashOfComparisons 52 = .ok (.iadd, 1) := by decide +kernel
theorem d_Bench_hashOfComparisons_53 : decode b_Bench_hashOfComparisons 53 = .ok (.ishl, 1) := by decide +kernel
theorem d_Bench_hashOfComparisons_54 : decode b_Bench_hashOfComparisons 54 = .ok (.ior, 1) := by decide +kernel
theorem d_Bench_hashOfComparisons_55 : decode b_Bench_hashOfComparisons 55 = .ok (.istore_n 3, 1) := by decide +kernel
theorem d_Bench_hashOfComparisons_56 : decode b_Bench_hashOfComparisons 56 = .ok (.iinc 5 1, 3) := by decide +kernel
theorem d_Bench_hashOfComparisons_59 : decode b_Bench_hashOfComparisons 59 = .ok (.goto (-45), 3) := by decide +kernel
theorem d_Bench_hashOfComparisons_62 : decode b_Bench_hashOfComparisons 62 = .ok (.iinc 4 1, 3) := by decide +kernel
theorem d_Bench_hashOfComparisons_65 : decode b_Bench_hashOfComparisons 65 = .ok (.goto (-60), 3) := by decide +kernel
theorem d_Bench_hashOfComparisons_68 : decode b_Bench_hashOfComparisons 68 = .ok (.lload_n 1, 1) := by decide +kernel
theorem d_Bench_hashOfComparisons_69 : decode b_Bench_hashOfComparisons 69 = .ok (.lstore 4, 2) := by decide +kernel
theorem d_Bench_hashOfComparisons_71 : decode b_Bench_hashOfComparisons 71 = .ok (.iconst 0, 1) := by decide +kernel
theorem d_Bench_hashOfComparisons_72 : decode b_Bench_hashOfComparisons 72 = .ok (.istore 6, 2) := by decide +kernel
theorem d_Bench_hashOfComparisons_74 : decode b_Bench_hashOfComparisons 74 = .ok (.iload 6, 2) := by decide +kernel
theorem d_Bench_hashOfComparisons_76 : decode b_Bench_hashOfComparisons 76 = .ok (.iconst 4, 1) := by decide +kernel
theorem d_Bench_hashOfComparisons_77 : decode b_Bench_hashOfComparisons 77 = .ok (.if_icmp .ge 82, 3) := by decide +kernel
theorem d_Bench_hashOfComparisons_80 : decode b_Bench_hashOfComparisons 80 = .ok (.iconst 0, 1) := by decide +kernel
theorem d_Bench_hashOfComparisons_81 : decode b_Bench_hashOfComparisons 81 = .ok (.istore 7, 2) := by decide +kernel
theorem d_Bench_hashOfComparisons_83 : decode b_Bench_hashOfComparisons 83 = .ok (.iload 7, 2) := by decide +kernel
theorem d_Bench_hashOfComparisons_85 : decode b_Bench_hashOfComparisons 85 = .ok (.iconst 4, 1) := by decide +kernel
theorem d_Bench_hashOfComparisons_86 : decode b_Bench_hashOfComparisons 86 = .ok (.if_icmp .ge 67, 3) := by decide +kernel
theorem d_Bench_hashOfComparisons_89 : decode b_Bench_hashOfComparisons 89 = .ok (.iload_n 3, 1) := by decide +kernel
theorem d_Bench_hashOfComparisons_90 : decode b_Bench_hashOfComparisons 90 = .ok (.iconst 4, 1) := by decide +kernel
theorem d_Bench_hashOfComparisons_91 : decode b_Bench_hashOfComparisons 91 = .ok (.iload 6, 2) := by decide +kernel
theorem d_Bench_hashOfComparisons_93 : decode b_Bench_hashOfComparisons 93 = .ok (.imul, 1) := by decide +kernel
theorem d_Bench_hashOfComparisons_94 : decode b_Bench_hashOfComparisons 94 = .ok (.iload 7, 2) := by decide +kernel
theorem d_Bench_hashOfComparisons_96 : decode b_Bench_hashOfComparisons 96 = .ok (.iadd, 1) := by decide +kernel
theorem d_Bench_hashOfComparisons_97 : decode b_Bench_hashOfComparisons 97 = .ok (.invokestatic 300, 3) := by decide +kernel
theorem d_Bench_hashOfComparisons_100 : decode b_Bench_hashOfComparisons 100 = .ok (.ifCond .eq 7, 3) := by decide +kernel
theorem d_Bench_hashOfComparisons_103 : decode b_Bench_hashOfComparisons 103 = .ok (.iconst 1, 1) := by decide +kernel
theorem d_Bench_hashOfComparisons_104 : decode b_Bench_hashOfComparisons 104 = .ok (.goto 4, 3) := by decide +kernel
theorem d_Bench_hashOfComparisons_107 : decode b_Bench_hashOfComparisons 107 = .ok (.iconst 0, 1) := by decide +kernel
theorem d_Bench_hashOfComparisons_108 : decode b_Bench_hashOfComparisons 108 = .ok (.istore 8, 2) := by decide +kernel
theorem d_Bench_hashOfComparisons_110 : decode b_Bench_hashOfComparisons 110 = .ok (.iload_n 3, 1) := by decide +kernel
theorem d_Bench_hashOfComparisons_111 : decode b_Bench_hashOfComparisons 111 = .ok (.iconst 4, 1) := by decide +kernel
theorem d_Bench_hashOfComparisons_112 : decode b_Bench_hashOfComparisons 112 = .ok (.iload 7, 2) := by decide +kernel
theorem d_Bench_hashOfComparisons_114 : decode b_Bench_hashOfComparisons 114 = .ok (.imul, 1) := by decide +kernel
theorem d_Bench_hashOfComparisons_115 : decode b_Bench_hashOfComparisons 115 = .ok (.iload 6, 2) := by decide +kernel
theorem d_Bench_hashOfComparisons_117 : decode b_Bench_hashOfComparisons 117 = .ok (.iadd, 1) := by decide +kernel
theorem d_Bench_hashOfComparisons_118 : decode b_Bench_hashOfComparisons 118 = .ok (.invokestatic 300, 3) := by decide +kernel
theorem d_Bench_hashOfComparisons_121 : decode b_Bench_hashOfComparisons 121 = .ok (.ifCond .eq 7, 3) := by decide +kernel
theorem d_Bench_hashOfComparisons_124 : decode b_Bench_hashOfComparisons 124 = .ok (.iconst 2, 1) := by decide +kernel
theorem d_Bench_hashOfComparisons_125 : decode b_Bench_hashOfComparisons 125 = .ok (.goto 4, 3) := by decide +kernel
theorem d_Bench_hashOfComparisons_128 : decode b_Bench_hashOfComparisons 128 = .ok (.iconst 0, 1) := by decide +kernel
theorem d_Bench_hashOfComparisons_129 : decode b_Bench_hashOfComparisons 129 = .ok (.istore 9, 2) := by decide +kernel
theorem d_Bench_hashOfComparisons_131 : decode b_Bench_hashOfComparisons 131 = .ok (.ldc2_w 294, 3) := by decide +kernel
theorem d_Bench_hashOfComparisons_134 : decode b_Bench_hashOfComparisons 134 = .ok (.lload 4, 2) := by decide +kernel
theorem d_Bench_hashOfComparisons_136 : decode b_Bench_hashOfComparisons 136 = .ok (.lmul, 1) := by decide +kernel
theorem d_Bench_hashOfComparisons_137 : decode b_Bench_hashOfComparisons 137 = .ok (.iload 8, 2) := by decide +kernel
theorem d_Bench_hashOfComparisons_139 : decode b_Bench_hashOfComparisons 139 = .ok (.i2l, 1) := by decide +kernel
theorem d_Bench_hashOfComparisons_140 : decode b_Bench_hashOfComparisons 140 = .ok (.ladd, 1) := by decide +kernel
theorem d_Bench_hashOfComparisons_141 : decode b_Bench_hashOfComparisons 141 = .ok (.iload 9, 2) := by decide +kernel
theorem d_Bench_hashOfComparisons_143 : decode b_Bench_hashOfComparisons 143 = .ok (.i2l, 1) := by decide +kernel
theorem d_Bench_hashOfComparisons_144 : decode b_Bench_hashOfComparisons 144 = .ok (.ladd, 1) := by decide +kernel
theorem d_Bench_hashOfComparisons_145 : decode b_Bench_hashOfComparisons 145 = .ok (.lstore 4, 2) := by decide +kernel
theorem d_Bench_hashOfComparisons_147 : decode b_Bench_hashOfComparisons 147 = .ok (.iinc 7 1, 3) := by decide +kernel
theorem d_Bench_hashOfComparisons_150 : decode b_Bench_hashOfComparisons 150 = .ok (.goto (-67), 3) := by decide +kernel
theorem d_Bench_hashOfComparisons_153 : decode b_Bench_hashOfComparisons 153 = .ok (.iinc 6 1, 3) := by decide +kernel
theorem d_Bench_hashOfComparisons_156 : decode b_Bench_hashOfComparisons 156 = .ok (.goto (-82), 3) := by decide +kernel
theorem d_Bench_hashOfComparisons_159 : decode b_Bench_hashOfComparisons 159 = .ok (.lload 4, 2) := by decide +kernel
theorem d_Bench_hashOfComparisons_161 : decode b_Bench_hashOfComparisons 161 = .ok (.lreturn, 1) := by decide +kernel
theorem d_Bench_digest_0 : decode b_Bench_digest 0 = .ok (.ldc2_w 288, 3) := by decide +kernel
theorem d_Bench_digest_3 : decode b_Bench_digest 3 = .ok (.aload_n 0, 1) := by decide +kernel
theorem d_Bench_digest_4 : decode b_Bench_digest 4 = .ok (.getfield 30, 3) := by decide +kernel
theorem d_Bench_digest_7 : decode b_Bench_digest 7 = .ok (.getfield 260, 3) := by decide +kernel
theorem d_Bench_digest_10 : decode b_Bench_digest 10 = .ok (.i2l, 1) := by decide +kernel
theorem d_Bench_digest_11 : decode b_Bench_digest 11 = .ok (.ladd, 1) := by decide +kernel
theorem d_Bench_digest_12 : decode b_Bench_digest 12 = .ok (.lstore_n 1, 1) := by decide +kernel
theorem d_Bench_digest_13 : decode b_Bench_digest 13 = .ok (.iconst 0, 1) := by decide +kernel
theorem d_Bench_digest_14 : decode b_Bench_digest 14 = .ok (.istore_n 3, 1) := by decide +kernel
theorem d_Bench_digest_15 : decode b_Bench_digest 15 = .ok (.iload_n 3, 1) := by decide +kernel
theorem d_Bench_digest_16 : decode b_Bench_digest 16 = .ok (.iconst 4, 1) := by decide +kernel
theorem d_Bench_digest_17 : decode b_Bench_digest 17 = .ok (.if_icmp .ge 86, 3) := by decide +kernel
theorem d_Bench_digest_20 : decode b_Bench_digest 20 = .ok (.lload_n 1, 1) := by decide +kernel
theorem d_Bench_digest_21 : decode b_Bench_digest 21 = .ok (.aload_n 0, 1) := by decide +kernel
theorem d_Bench_digest_22 : decode b_Bench_digest 22 = .ok (.getfield 11, 3) := by decide +kernel
theorem d_Bench_digest_25 : decode b_Bench_digest 25 = .ok (.iload_n 3, 1) := by decide +kernel
theorem d_Bench_digest_26 : decode b_Bench_digest 26 = .ok (.aaload, 1) := by decide +kernel
theorem d_Bench_digest_27 : decode b_Bench_digest 27 = .ok (.invokestatic 290, 3) := by decide +kernel
theorem d_Bench_digest_30 : decode b_Bench_digest 30 = .ok (.lstore_n 1, 1) := by decide +kernel
theorem d_Bench_digest_31 : decode b_Bench_digest 31 = .ok (.ldc2_w 294, 3) := by decide +kernel
theorem d_Bench_digest_34 : decode b_Bench_digest 34 = .ok (.lload_n 1, 1) := by decide +kernel
theorem d_Bench_digest_35 : decode b_Bench_digest 35 = .ok (.lmul, 1) := by decide +kernel
theorem d_Bench_digest_36 : decode b_Bench_digest 36 = .ok (.aload_n 0, 1) := by decide +kernel
theorem d_Bench_digest_37 : decode b_Bench_digest 37 = .ok (.getfield 44, 3) := by decide +kernel
theorem d_Bench_digest_40 : decode b_Bench_digest 40 = .ok (.aload_n 0, 1) := by decide +kernel
theorem d_Bench_digest_41 : decode b_Bench_digest 41 = .ok (.getfield 11, 3) := by decide +kernel
theorem d_Bench_digest_44 : decode b_Bench_digest 44 = .ok (.iload_n 3, 1) := by decide +kernel
theorem d_Bench_digest_45 : decode b_Bench_digest 45 = .ok (.aaload, 1) := by decide +kernel
theorem d_Bench_digest_46 : decode b_Bench_digest 46 = .ok (.invokevirtual 197, 3) := by decide +kernel
theorem d_Bench_digest_49 : decode b_Bench_digest 49 = .ok (.i2l, 1) := by decide +kernel
theorem d_Bench_digest_50 : decode b_Bench_digest 50 = .ok (.ladd, 1) := by decide +kernel
theorem d_Bench_digest_51 : decode b_Bench_digest 51 = .ok (.lstore_n 1, 1) := by decide +kernel
theorem d_Bench_digest_52 : decode b_Bench_digest 52 = .ok (.ldc2_w 294, 3) := by decide +kernel
theorem d_Bench_digest_55 : decode b_Bench_digest 55 = .ok (.lload_n 1, 1) := by decide +kernel
theorem d_Bench_digest_56 : decode b_Bench_digest 56 = .ok (.lmul, 1) := by decide +kernel
theorem d_Bench_digest_57 : decode b_Bench_digest 57 = .ok (.aload_n 0, 1) := by decide +kernel
theorem d_Bench_digest_58 : decode b_Bench_digest 58 = .ok (.getfield 65, 3) := by decide +kernel
theorem d_Bench_digest_61 : decode b_Bench_digest 61 = .ok (.aload_n 0, 1) := by decide +kernel
theorem d_Bench_digest_62 : decode b_Bench_digest 62 = .ok (.getfield 11, 3) := by decide +kernel
theorem d_Bench_digest_65 : decode b_Bench_digest 65 = .ok (.iload_n 3, 1) := by decide +kernel
theorem d_Bench_digest_66 : decode b_Bench_digest 66 = .ok (.aaload, 1) := by decide +kernel
theorem d_Bench_digest_67 : decode b_Bench_digest 67 = .ok (.invokevirtual 229, 3) := by decide +kernel
theorem d_Bench_digest_70 : decode b_Bench_digest 70 = .ok (.i2l, 1) := by decide +kernel
theorem d_Bench_digest_71 : decode b_Bench_digest 71 = .ok (.ladd, 1) := by decide +kernel
theorem d_Bench_digest_72 : decode b_Bench_digest 72 = .ok (.lstore_n 1, 1) := by decide +kernel
theorem d_Bench_digest_73 : decode b_Bench_digest 73 = .ok (.ldc2_w 294, 3) := by decide +kernel
theorem d_Bench_digest_76 : decode b_Bench_digest 76 = .ok (.lload_n 1, 1) := by decide +kernel
theorem d_Bench_digest_77 : decode b_Bench_digest 77 = .ok (.lmul, 1) := by decide +kernel
theorem d_Bench_digest_78 : decode b_Bench_digest 78 = .ok (.aload_n 0, 1) := by decide +kernel
theorem d_Bench_digest_79 : decode b_Bench_digest 79 = .ok (.getfield 58, 3) := by decide +kernel
theorem d_Bench_digest_82 : decode b_Bench_digest 82 = .ok (.aload_n 0, 1) := by decide +kernel
theorem d_Bench_digest_83 : decode b_Bench_digest 83 = .ok (.getfield 11, 3) := by decide +kernel
theorem d_Bench_digest_86 : decode b_Bench_digest 86 = .ok (.iload_n 3, 1) := by decide +kernel
theorem d_Bench_digest_87 : decode b_Bench_digest 87 = .ok (.aaload, 1) := by decide +kernel
theorem d_Bench_digest_88 : decode b_Bench_digest 88 = .ok (.invokevirtual 157, 3) := by decide +kernel
theorem d_Bench_digest_91 : decode b_Bench_digest 91 = .ok (.invokestatic 167, 3) := by decide +kernel
theorem d_Bench_digest_94 : decode b_Bench_digest 94 = .ok (.i2l, 1) := by decide +kernel
theorem d_Bench_digest_95 : decode b_Bench_digest 95 = .ok (.ladd, 1) := by decide +kernel
theorem d_Bench_digest_96 : decode b_Bench_digest 96 = .ok (.lstore_n 1, 1) := by decide +kernel
theorem d_Bench_digest_97 : decode b_Bench_digest 97 = .ok (.iinc 3 1, 3) := by decide +kernel
theorem d_Bench_digest_100 : decode b_Bench_digest 100 = .ok (.goto (-85), 3) := by decide +kernel
theorem d_Bench_digest_103 : decode b_Bench_digest 103 = .ok (.aload_n 0, 1) := by decide +kernel
theorem d_Bench_digest_104 : decode b_Bench_digest 104 = .ok (.lload_n 1, 1) := by decide +kernel
theorem d_Bench_digest_105 : decode b_Bench_digest 105 = .ok (.invokevirtual 296, 3) := by decide +kernel
theorem d_Bench_digest_108 : decode b_Bench_digest 108 = .ok (.lstore_n 1, 1) := by decide +kernel
theorem d_Bench_digest_109 : decode b_Bench_digest 109 = .ok (.ldc2_w 294, 3) := by decide +kernel
theorem d_Bench_digest_112 : decode b_Bench_digest 112 = .ok (.lload_n 1, 1) := by decide +kernel
theorem d_Bench_digest_113 : decode b_Bench_digest 113 = .ok (.lmul, 1) := by decide +kernel
theorem d_Bench_digest_114 : decode b_Bench_digest 114 = .ok (.aload_n 0, 1) := by decide +kernel
theorem d_Bench_digest_115 : decode b_Bench_digest 115 = .ok (.getfield 23, 3) := by decide +kernel
theorem d_Bench_digest_118 : decode b_Bench_digest 118 = .ok (.getfield 282, 3) := by decide +kernel
theorem d_Bench_digest_121 : decode b_Bench_digest 121 = .ok (.i2l, 1) := by decide +kernel
theorem d_Bench_digest_122 : decode b_Bench_digest 122 = .ok (.ladd, 1) := by decide +kernel
theorem d_Bench_digest_123 : decode b_Bench_digest 123 = .ok (.lreturn, 1) := by decide +kernel
theorem d_Bench_colorRest_0 : decode b_Bench_colorRest 0 = .ok (.iload_n 2, 1) := by decide +kernel
theorem d_Bench_colorRest_1 : decode b_Bench_colorRest 1 = .ok (.aload_n 0, 1) := by decide +kernel
theorem d_Bench_colorRest_2 : decode b_Bench_colorRest 2 = .ok (.getfield 92, 3) := by decide +kernel
theorem d_Bench_colorRest_5 : decode b_Bench_colorRest 5 = .ok (.if_icmp .lt 5, 3) := by decide +kernel
theorem d_Bench_colorRest_8 : decode b_Bench_colorRest 8 = .ok (.lconst 1, 1) := by decide +kernel
theorem d_Bench_colorRest_9 : decode b_Bench_colorRest 9 = .ok (.lreturn, 1) := by decide +kernel
theorem d_Bench_colorRest_10 : decode b_Bench_colorRest 10 = .ok (.lconst 0, 1) := by decide +kernel
theorem d_Bench_colorRest_11 : decode b_Bench_colorRest 11 = .ok (.lstore 5, 2) := by decide +kernel
theorem d_Bench_colorRest_13 : decode b_Bench_colorRest 13 = .ok (.iconst 0, 1) := by decide +kernel
theorem d_Bench_colorRest_14 : decode b_Bench_colorRest 14 = .ok (.istore 7, 2) := by decide +kernel
theorem d_Bench_colorRest_16 : decode b_Bench_colorRest 16 = .ok (.iload 7, 2) := by decide +kernel
theorem d_Bench_colorRest_18 : decode b_Bench_colorRest 18 = .ok (.iload_n 3, 1) := by decide +kernel
theorem d_Bench_colorRest_19 : decode b_Bench_colorRest 19 = .ok (.if_icmp .ge 61, 3) := by decide +kernel
theorem d_Bench_colorRest_22 : decode b_Bench_colorRest 22 = .ok (.aload_n 1, 1) := by decide +kernel
theorem d_Bench_colorRest_23 : decode b_Bench_colorRest 23 = .ok (.iload 7, 2) := by decide +kernel
theorem d_Bench_colorRest_25 : decode b_Bench_colorRest 25 = .ok (.iaload, 1) := by decide +kernel
theorem d_Bench_colorRest_26 : decode b_Bench_colorRest 26 = .ok (.aload_n 0, 1) := by decide +kernel
theorem d_Bench_colorRest_27 : decode b_Bench_colorRest 27 = .ok (.getfield 164, 3) := by decide +kernel
theorem d_Bench_colorRest_30 : decode b_Bench_colorRest 30 = .ok (.iload_n 2, 1) := by decide +kernel
theorem d_Bench_colorRest_31 : decode b_Bench_colorRest 31 = .ok (.iaload, 1) := by decide +kernel
theorem d_Bench_colorRest_32 : decode b_Bench_colorRest 32 = .ok (.iand, 1) := by decide +kernel
theorem d_Bench_colorRest_33 : decode b_Bench_colorRest 33 = .ok (.ifCond .ne 41, 3) := by decide +kernel
theorem d_Bench_colorRest_36 : decode b_Bench_colorRest 36 = .ok (.aload_n 1, 1) := by decide +kernel
theorem d_Bench_colorRest_37 : decode b_Bench_colorRest 37 = .ok (.iload 7, 2) := by decide +kernel
theorem d_Bench_colorRest_39 : decode b_Bench_colorRest 39 = .ok (.dup2, 1) := by decide +kernel
theorem d_Bench_colorRest_40 : decode b_Bench_colorRest 40 = .ok (.iaload, 1) := by decide +kernel
theorem d_Bench_colorRest_41 : decode b_Bench_colorRest 41 = .ok (.iconst 1, 1) := by decide +kernel
theorem d_Bench_colorRest_42 : decode b_Bench_colorRest 42 = .ok (.iload_n 2, 1) := by decide +kernel
theorem d_Bench_colorRest_43 : decode b_Bench_colorRest 43 = .ok (.ishl, 1) := by decide +kernel
theorem d_Bench_colorRest_44 : decode b_Bench_colorRest 44 = .ok (.ior, 1) := by decide +kernel
theorem d_Bench_colorRest_45 : decode b_Bench_colorRest 45 = .ok (.iastore, 1) := by decide +kernel
theorem d_Bench_colorRest_46 : decode b_Bench_colorRest 46 = .ok (.lload 5, 2) := by decide +kernel
theorem d_Bench_colorRest_48 : decode b_Bench_colorRest 48 = .ok (.aload_n 0, 1) := by decide +kernel
theorem d_Bench_colorRest_49 : decode b_Bench_colorRest 49 = .ok (.aload_n 1, 1) := by decide +kernel
theorem d_Bench_colorRest_50 : decode b_Bench_colorRest 50 = .ok (.iload_n 2, 1) := by decide +kernel
theorem d_Bench_colorRest_51 : decode b_Bench_colorRest 51 = .ok (.iconst 1, 1) := by decide +kernel
theorem d_Bench_colorRest_52 : decode b_Bench_colorRest 52 = .ok (.iadd, 1) := by decide +kernel
theorem d_Bench_colorRest_53 : decode b_Bench_colorRest 53 = .ok (.iload_n 3, 1) := by decide +kernel
theorem d_Bench_colorRest_54 : decode b_Bench_colorRest 54 = .ok (.iload 4, 2) := by decide +kernel
theorem d_Bench_colorRest_56 : decode b_Bench_colorRest 56 = .ok (.invokestatic 322, 3) := by decide +kernel
theorem d_Bench_colorRest_59 : decode b_Bench_colorRest 59 = .ok (.ladd, 1) := by decide +kernel
theorem d_Bench_colorRest_60 : decode b_Bench_colorRest 60 = .ok (.lstore 5, 2) := by decide +kernel
theorem d_Bench_colorRest_62 : decode b_Bench_colorRest 62 = .ok (.aload_n 1, 1) := by decide +kernel
theorem d_Bench_colorRest_63 : decode b_Bench_colorRest 63 = .ok (.iload 7, 2) := by decide +kernel
theorem d_Bench_colorRest_65 : decode b_Bench_colorRest 65 = .ok (.dup2, 1) := by decide +kernel
theorem d_Bench_colorRest_66 : decode b_Bench_colorRest 66 = .ok (.iaload, 1) := by decide +kernel
theorem d_Bench_colorRest_67 : decode b_Bench_colorRest 67 = .ok (.iconst 1, 1) := by decide +kernel
theorem d_Bench_colorRest_68 : decode b_Bench_colorRest 68 = .ok (.iload_n 2, 1) := by decide +kernel
theorem d_Bench_colorRest_69 : decode b_Bench_colorRest 69 = .ok (.ishl, 1) := by decide +kernel
theorem d_Bench_colorRest_70 : decode b_Bench_colorRest 70 = .ok (.iconst (-1), 1) := by decide +kernel
theorem d_Bench_colorRest_71 : decode b_Bench_colorRest 71 = .ok (.ixor, 1) := by decide +kernel
theorem d_Bench_colorRest_72 : decode b_Bench_colorRest 72 = .ok (.iand, 1) := by decide +kernel
theorem d_Bench_colorRest_73 : decode b_Bench_colorRest 73 = .ok (.iastore, 1) := by decide +kernel
theorem d_Bench_colorRest_74 : decode b_Bench_colorRest 74 = .ok (.iinc 7 1, 3) := by decide +kernel
theorem d_Bench_colorRest_77 : decode b_Bench_colorRest 77 = .ok (.goto (-61), 3) := by decide +kernel
theorem d_Bench_colorRest_80 : decode b_Bench_colorRest 80 = .ok (.iload_n 3, 1) := by decide +kernel
theorem d_Bench_colorRest_81 : decode b_Bench_colorRest 81 = .ok (.iload 4, 2) := by decide +kernel
theorem d_Bench_colorRest_83 : decode b_Bench_colorRest 83 = .ok (.if_icmp .ge 39, 3) := by decide +kernel
theorem d_Bench_colorRest_86 : decode b_Bench_colorRest 86 = .ok (.iload_n 3, 1) := by decide +kernel
theorem d_Bench_colorRest_87 : decode b_Bench_colorRest 87 = .ok (.aload_n 1, 1) := by decide +kernel
theorem d_Bench_colorRest_88 : decode b_Bench_colorRest 88 = .ok (.arraylength, 1) := by decide +kernel
theorem d_Bench_colorRest_89 : decode b_Bench_colorRest 89 = .ok (.if_icmp .ge 33, 3) := by decide +kernel
theorem d_Bench_colorRest_92 : decode b_Bench_colorRest 92 = .ok (.aload_n 1, 1) := by decide +kernel
theorem d_Bench_colorRest_93 : decode b_Bench_colorRest 93 = .ok (.iload_n 3, 1) := by decide +kernel
theorem d_Bench_colorRest_94 : decode b_Bench_colorRest 94 = .ok (.iconst 1, 1) := by decide +kernel
theorem d_Bench_colorRest_95 : decode b_Bench_colorRest 95 = .ok (.iload_n 2, 1) := by decide +kernel
theorem d_Bench_colorRest_96 : decode b_Bench_colorRest 96 = .ok (.ishl, 1) := by decide +kernel
theorem d_Bench_colorRest_97 : decode b_Bench_colorRest 97 = .ok (.iastore, 1) := by decide +kernel
theorem d_Bench_colorRest_98 : decode b_Bench_colorRest 98 = .ok (.lload 5, 2) := by decide +kernel
theorem d_Bench_colorRest_100 : decode b_Bench_colorRest 100 = .ok (.iload 4, 2) := by decide +kernel
theorem d_Bench_colorRest_102 : decode b_Bench_colorRest 102 = .ok (.iload_n 3, 1) := by decide +kernel
theorem d_Bench_colorRest_103 : decode b_Bench_colorRest 103 = .ok (.isub, 1) := by decide +kernel
theorem d_Bench_colorRest_104 : decode b_Bench_colorRest 104 = .ok (.i2l, 1) := by decide +kernel
theorem d_Bench_colorRest_105 : decode b_Bench_colorRest 105 = .ok (.aload_n 0, 1) := by decide +kernel
theorem d_Bench_colorRest_106 : decode b_Bench_colorRest 106 = .ok (.aload_n 1, 1) := by decide +kernel
theorem d_Bench_colorRest_107 : decode b_Bench_colorRest 107 = .ok (.iload_n 2, 1) := by decide +kernel
theorem d_Bench_colorRest_108 : decode b_Bench_colorRest 108 = .ok (.iconst 1, 1) := by decide +kernel
theorem d_Bench_colorRest_109 : decode b_Bench_colorRest 109 = .ok (.iadd, 1) := by decide +kernel
theorem d_Bench_colorRest_110 : decode b_Bench_colorRest 110 = .ok (.iload_n 3, 1) := by decide +kernel
theorem d_Bench_colorRest_111 : decode b_Bench_colorRest 111 = .ok (.iconst 1, 1) := by decide +kernel
theorem d_Bench_colorRest_112 : decode b_Bench_colorRest 112 = .ok (.iadd, 1) := by decide +kernel
theorem d_Bench_colorRest_113 : decode b_Bench_colorRest 113 = .ok (.iload 4, 2) := by decide +kernel
theorem d_Bench_colorRest_115 : decode b_Bench_colorRest 115 = .ok (.invokestatic 322, 3) := by decide +kernel
theorem d_Bench_colorRest_118 : decode b_Bench_colorRest 118 = .ok (.lmul, 1) := by decide +kernel
theorem d_Bench_colorRest_119 : decode b_Bench_colorRest 119 = .ok (.ladd, 1) := by decide +kernel
theorem d_Bench_colorRest_120 : decode b_Bench_colorRest 120 = .ok (.lstore 5, 2) := by decide +kernel
theorem d_Bench_colorRest_122 : decode b_Bench_colorRest 122 = .ok (.lload 5, 2) := by decide +kernel
theorem d_Bench_colorRest_124 : decode b_Bench_colorRest 124 = .ok (.lreturn, 1) := by decide +kernel
theorem d_Bench_properColorings_0 : decode b_Bench_properColorings 0 = .ok (.aload_n 1, 1) := by decide +kernel
theorem d_Bench_properColorings_1 : decode b_Bench_properColorings 1 = .ok (.invokevirtual 121, 3) := by decide +kernel
theorem d_Bench_properColorings_4 : decode b_Bench_properColorings 4 = .ok (.ifCond .le 7, 3) := by decide +kernel
theorem d_Bench_properColorings_7 : decode b_Bench_properColorings 7 = .ok (.lconst 0, 1) := by decide +kernel
theorem d_Bench_properColorings_8 : decode b_Bench_properColorings 8 = .ok (.goto 14, 3) := by decide +kernel
theorem d_Bench_properColorings_11 : decode b_Bench_properColorings 11 = .ok (.aload_n 1, 1) := by decide +kernel
theorem d_Bench_properColorings_12 : decode b_Bench_properColorings 12 = .ok (.aload_n 0, 1) := by decide +kernel
theorem d_Bench_properColorings_13 : decode b_Bench_properColorings 13 = .ok (.getfield 69, 3) := by decide +kernel
theorem d_Bench_properColorings_16 : decode b_Bench_properColorings 16 = .ok (.iconst 0, 1) := by decide +kernel
theorem d_Bench_properColorings_17 : decode b_Bench_properColorings 17 = .ok (.iconst 0, 1) := by decide +kernel
theorem d_Bench_properColorings_18 : decode b_Bench_properColorings 18 = .ok (.iload_n 2, 1) := by decide +kernel
theorem d_Bench_properColorings_19 : decode b_Bench_properColorings 19 = .ok (.invokestatic 322, 3) := by decide +kernel
theorem d_Bench_properColorings_22 : decode b_Bench_properColorings 22 = .ok (.lreturn, 1) := by decide +kernel
def f_Bench_clearText  (μ : HMem) : Option (Int32 × HMem) :=
  h_let (μ.1 88 1) (fun v1_7 =>
  h_let (h_wi μ 88 1 0) (fun μ_13 =>
  some (v1_7, μ_13)))
def f_Bench_hashOfWeights_L15_b (K45 : Nat → Int64 → HMem → Option (Int64 × HMem)) (rec_ : Nat → Int64 → Int32 → HMem → Option (Int64 × HMem)) (a2 : Nat) (v3 : Int64) (v5 : Int32) (μ : HMem) : Option (Int64 × HMem) :=
if (μ.1 a2 0) ≤ v5 then
  K45 a2 v3 μ
else
  h_chk v5 (h_len (a2 + 1)) (
  h_let ((31 * v3) + (Int32.toInt64 (μ.1 (a2 + 1) (Int32.toNatClampNeg (v5))))) (fun v3_38 =>
  h_let (v5 + 1) (fun v5_39 =>
  rec_ a2 v3_38 v5_39 μ)))
def f_Bench_hashOfWeights_L15 (K45 : Nat → Int64 → HMem → Option (Int64 × HMem)) : Nat → Nat → Int64 → Int32 → HMem → Option (Int64 × HMem)
  | 0, _, _, _, _ => none
  | fuel + 1, a2, v3, v5, μ => f_Bench_hashOfWeights_L15_b K45 (f_Bench_hashOfWeights_L15 K45 fuel) a2 v3 v5 μ
def f_Bench_hashOfWeights_L61_b (K92 : Nat → Int64 → Int32 → HMem → Option (Int64 × HMem)) (rec_ : Nat → Int64 → Int32 → Int32 → HMem → Option (Int64 × HMem)) (a2 : Nat) (v3 : Int64) (v5 : Int32) (v6 : Int32) (μ : HMem) : Option (Int64 × HMem) :=
if (μ.1 a2 0) ≤ v6 then
  K92 a2 v3 v5 μ
else
  h_bd (f_Graph_between a2 v5 v6 μ) (fun r80 μ_80 =>
  h_let ((31 * v3) + (Int32.toInt64 r80)) (fun v3_85 =>
  h_let (v6 + 1) (fun v6_86 =>
  rec_ a2 v3_85 v5 v6_86 μ_80)))
def f_Bench_hashOfWeights_L61 (K92 : Nat → Int64 → Int32 → HMem → Option (Int64 × HMem)) : Nat → Nat → Int64 → Int32 → Int32 → HMem → Option (Int64 × HMem)
  | 0, _, _, _, _, _ => none
  | fuel + 1, a2, v3, v5, v6, μ => f_Bench_hashOfWeights_L61_b K92 (f_Bench_hashOfWeights_L61 K92 fuel) a2 v3 v5 v6 μ
def f_Bench_hashOfWeights_J92  (rec_ : Nat → Int64 → Int32 → HMem → Option (Int64 × HMem)) (a2 : Nat) (v3 : Int64) (v5 : Int32) (μ : HMem) : Option (Int64 × HMem) :=
h_let (v5 + 1) (fun v5_92 =>
rec_ a2 v3 v5_92 μ)
def f_Bench_hashOfWeights_L48_b  (rec_ : Nat → Int64 → Int32 → HMem → Option (Int64 × HMem)) (a2 : Nat) (v3 : Int64) (v5 : Int32) (μ : HMem) : Option (Int64 × HMem) :=
if (μ.1 a2 0) ≤ v5 then
  some (v3, μ)
else
  f_Bench_hashOfWeights_L61 (f_Bench_hashOfWeights_J92 rec_) h_fuel a2 v3 v5 v5 μ
def f_Bench_hashOfWeights_L48  : Nat → Nat → Int64 → Int32 → HMem → Option (Int64 × HMem)
  | 0, _, _, _, _ => none
  | fuel + 1, a2, v3, v5, μ => f_Bench_hashOfWeights_L48_b  (f_Bench_hashOfWeights_L48  fuel) a2 v3 v5 μ
def f_Bench_hashOfWeights_J45   (a2 : Nat) (v3 : Int64) (μ : HMem) : Option (Int64 × HMem) :=
f_Bench_hashOfWeights_L48 h_fuel a2 v3 0 μ
def f_Bench_hashOfWeights (v0 : Int64) (a2 : Nat) (μ : HMem) : Option (Int64 × HMem) :=
  h_let ((31 * v0) + (Int32.toInt64 (μ.1 a2 0))) (fun v3_11 =>
  f_Bench_hashOfWeights_L15 f_Bench_hashOfWeights_J45 h_fuel a2 v3_11 0 μ)
def f_Bench_hashOfComparisons_J56  (rec_ : Int64 → Int32 → Int32 → Int32 → HMem → Option (Int64 × HMem)) (v1 : Int64) (v3 : Int32) (v4 : Int32) (v5 : Int32) (μ : HMem) : Option (Int64 × HMem) :=
h_let (v5 + 1) (fun v5_56 =>
rec_ v1 v3 v4 v5_56 μ)
def f_Bench_hashOfComparisons_L14_b (K62 : Int64 → Int32 → Int32 → HMem → Option (Int64 × HMem)) (rec_ : Int64 → Int32 → Int32 → Int32 → HMem → Option (Int64 × HMem)) (v1 : Int64) (v3 : Int32) (v4 : Int32) (v5 : Int32) (μ : HMem) : Option (Int64 × HMem) :=
if (4 : Int32) ≤ v5 then
  K62 v1 v3 v4 μ
else
  h_chk v4 (h_len 85) (
  h_chk v5 (h_len 85) (
  h_bd (f_HomSearch_maps (h_el 85 (Int32.toNatClampNeg (v4))) (h_el 85 (Int32.toNatClampNeg (v5))) μ) (fun r38 μ_38 =>
  if r38 = 0 then
    f_Bench_hashOfComparisons_J56 rec_ v1 v3 v4 v5 μ_38
  else
    h_let (v3 ||| (h_ishl 1 ((4 * v4) + v5))) (fun v3_55 =>
    f_Bench_hashOfComparisons_J56 rec_ v1 v3_55 v4 v5 μ_38))))
def f_Bench_hashOfComparisons_L14 (K62 : Int64 → Int32 → Int32 → HMem → Option (Int64 × HMem)) : Nat → Int64 → Int32 → Int32 → Int32 → HMem → Option (Int64 × HMem)
  | 0, _, _, _, _, _ => none
  | fuel + 1, v1, v3, v4, v5, μ => f_Bench_hashOfComparisons_L14_b K62 (f_Bench_hashOfComparisons_L14 K62 fuel) v1 v3 v4 v5 μ
def f_Bench_hashOfComparisons_J62  (rec_ : Int64 → Int32 → Int32 → HMem → Option (Int64 × HMem)) (v1 : Int64) (v3 : Int32) (v4 : Int32) (μ : HMem) : Option (Int64 × HMem) :=
h_let (v4 + 1) (fun v4_62 =>
rec_ v1 v3 v4_62 μ)
def f_Bench_hashOfComparisons_L5_b (K68 : Int64 → Int32 → HMem → Option (Int64 × HMem)) (rec_ : Int64 → Int32 → Int32 → HMem → Option (Int64 × HMem)) (v1 : Int64) (v3 : Int32) (v4 : Int32) (μ : HMem) : Option (Int64 × HMem) :=
if (4 : Int32) ≤ v4 then
  K68 v1 v3 μ
else
  f_Bench_hashOfComparisons_L14 (f_Bench_hashOfComparisons_J62 rec_) h_fuel v1 v3 v4 0 μ
def f_Bench_hashOfComparisons_L5 (K68 : Int64 → Int32 → HMem → Option (Int64 × HMem)) : Nat → Int64 → Int32 → Int32 → HMem → Option (Int64 × HMem)
  | 0, _, _, _, _ => none
  | fuel + 1, v1, v3, v4, μ => f_Bench_hashOfComparisons_L5_b K68 (f_Bench_hashOfComparisons_L5 K68 fuel) v1 v3 v4 μ
def f_Bench_hashOfComparisons_J129  (rec_ : Int32 → Int64 → Int32 → Int32 → HMem → Option (Int64 × HMem)) (v3 : Int32) (v4 : Int64) (v6 : Int32) (v7 : Int32) (v8 : Int32) (s0 : Int32) (μ : HMem) : Option (Int64 × HMem) :=
h_let (((31 * v4) + (Int32.toInt64 v8)) + (Int32.toInt64 s0)) (fun v4_145 =>
h_let (v7 + 1) (fun v7_147 =>
rec_ v3 v4_145 v6 v7_147 μ))
def f_Bench_hashOfComparisons_J108  (rec_ : Int32 → Int64 → Int32 → Int32 → HMem → Option (Int64 × HMem)) (v3 : Int32) (v4 : Int64) (v6 : Int32) (v7 : Int32) (s0 : Int32) (μ : HMem) : Option (Int64 × HMem) :=
h_bd (f_Bench_has v3 ((4 * v7) + v6) μ) (fun r118 μ_118 =>
if r118 = 0 then
  f_Bench_hashOfComparisons_J129 rec_ v3 v4 v6 v7 s0 0 μ_118
else
  f_Bench_hashOfComparisons_J129 rec_ v3 v4 v6 v7 s0 2 μ_118)
def f_Bench_hashOfComparisons_L83_b (K153 : Int32 → Int64 → Int32 → HMem → Option (Int64 × HMem)) (rec_ : Int32 → Int64 → Int32 → Int32 → HMem → Option (Int64 × HMem)) (v3 : Int32) (v4 : Int64) (v6 : Int32) (v7 : Int32) (μ : HMem) : Option (Int64 × HMem) :=
if (4 : Int32) ≤ v7 then
  K153 v3 v4 v6 μ
else
  h_bd (f_Bench_has v3 ((4 * v6) + v7) μ) (fun r97 μ_97 =>
  if r97 = 0 then
    f_Bench_hashOfComparisons_J108 rec_ v3 v4 v6 v7 0 μ_97
  else
    f_Bench_hashOfComparisons_J108 rec_ v3 v4 v6 v7 1 μ_97)
def f_Bench_hashOfComparisons_L83 (K153 : Int32 → Int64 → Int32 → HMem → Option (Int64 × HMem)) : Nat → Int32 → Int64 → Int32 → Int32 → HMem → Option (Int64 × HMem)
  | 0, _, _, _, _, _ => none
  | fuel + 1, v3, v4, v6, v7, μ => f_Bench_hashOfComparisons_L83_b K153 (f_Bench_hashOfComparisons_L83 K153 fuel) v3 v4 v6 v7 μ
def f_Bench_hashOfComparisons_J153  (rec_ : Int32 → Int64 → Int32 → HMem → Option (Int64 × HMem)) (v3 : Int32) (v4 : Int64) (v6 : Int32) (μ : HMem) : Option (Int64 × HMem) :=
h_let (v6 + 1) (fun v6_153 =>
rec_ v3 v4 v6_153 μ)
def f_Bench_hashOfComparisons_L74_b  (rec_ : Int32 → Int64 → Int32 → HMem → Option (Int64 × HMem)) (v3 : Int32) (v4 : Int64) (v6 : Int32) (μ : HMem) : Option (Int64 × HMem) :=
if (4 : Int32) ≤ v6 then
  some (v4, μ)
else
  f_Bench_hashOfComparisons_L83 (f_Bench_hashOfComparisons_J153 rec_) h_fuel v3 v4 v6 0 μ
def f_Bench_hashOfComparisons_L74  : Nat → Int32 → Int64 → Int32 → HMem → Option (Int64 × HMem)
  | 0, _, _, _, _ => none
  | fuel + 1, v3, v4, v6, μ => f_Bench_hashOfComparisons_L74_b  (f_Bench_hashOfComparisons_L74  fuel) v3 v4 v6 μ
def f_Bench_hashOfComparisons_J68   (v1 : Int64) (v3 : Int32) (μ : HMem) : Option (Int64 × HMem) :=
f_Bench_hashOfComparisons_L74 h_fuel v3 v1 0 μ
def f_Bench_hashOfComparisons (v1 : Int64) (μ : HMem) : Option (Int64 × HMem) :=
  f_Bench_hashOfComparisons_L5 f_Bench_hashOfComparisons_J68 h_fuel v1 0 0 μ
def f_Bench_digest_L15_b (K103 : Int64 → HMem → Option (Int64 × HMem)) (rec_ : Int64 → Int32 → HMem → Option (Int64 × HMem)) (v1 : Int64) (v3 : Int32) (μ : HMem) : Option (Int64 × HMem) :=
if (4 : Int32) ≤ v3 then
  K103 v1 μ
else
  h_chk v3 (h_len 85) (
  h_bd (f_Bench_hashOfWeights v1 (h_el 85 (Int32.toNatClampNeg (v3))) μ) (fun r27 μ_27 =>
  h_chk v3 (h_len 85) (
  h_bd (f_Elimination_smallestWidth (h_el 85 (Int32.toNatClampNeg (v3))) μ_27) (fun r46 μ_46 =>
  h_let ((31 * r27) + (Int32.toInt64 r46)) (fun v1_51 =>
  h_chk v3 (h_len 85) (
  h_bd (f_Bijections_countOnto (h_el 85 (Int32.toNatClampNeg (v3))) μ_46) (fun r67 μ_67 =>
  h_let ((31 * v1_51) + (Int32.toInt64 r67)) (fun v1_72 =>
  h_chk v3 (h_len 85) (
  h_bd (f_HomSearch_coreOf (h_el 85 (Int32.toNatClampNeg (v3))) μ_67) (fun r88 μ_88 =>
  h_bd (f_Integer_bitCount r88 μ_88) (fun r91 μ_91 =>
  h_let ((31 * v1_72) + (Int32.toInt64 r91)) (fun v1_96 =>
  h_let (v3 + 1) (fun v3_97 =>
  rec_ v1_96 v3_97 μ_91)))))))))))))
def f_Bench_digest_L15 (K103 : Int64 → HMem → Option (Int64 × HMem)) : Nat → Int64 → Int32 → HMem → Option (Int64 × HMem)
  | 0, _, _, _ => none
  | fuel + 1, v1, v3, μ => f_Bench_digest_L15_b K103 (f_Bench_digest_L15 K103 fuel) v1 v3 μ
def f_Bench_digest_J103   (v1 : Int64) (μ : HMem) : Option (Int64 × HMem) :=
h_bd (f_Bench_hashOfComparisons v1 μ) (fun r105 μ_105 =>
some (((31 * r105) + (Int32.toInt64 (μ_105.1 86 2))), μ_105))
def f_Bench_digest  (μ : HMem) : Option (Int64 × HMem) :=
  h_let (89249 + (Int32.toInt64 (μ.1 88 1))) (fun v1_12 =>
  f_Bench_digest_L15 f_Bench_digest_J103 h_fuel v1_12 0 μ)
def f_Bench_colorRest_J74 (fr_ : Nat → Nat → Int32 → Int32 → Int32 → HMem → Option (Int64 × HMem))  (rec_ : Nat → Nat → Int32 → Int32 → Int32 → Int64 → Int32 → HMem → Option (Int64 × HMem)) (a0 : Nat) (a1 : Nat) (v2 : Int32) (v3 : Int32) (v4 : Int32) (v5 : Int64) (v7 : Int32) (μ : HMem) : Option (Int64 × HMem) :=
h_let (v7 + 1) (fun v7_74 =>
rec_ a0 a1 v2 v3 v4 v5 v7_74 μ)
def f_Bench_colorRest_L16_b (fr_ : Nat → Nat → Int32 → Int32 → Int32 → HMem → Option (Int64 × HMem)) (K80 : Nat → Nat → Int32 → Int32 → Int32 → Int64 → HMem → Option (Int64 × HMem)) (rec_ : Nat → Nat → Int32 → Int32 → Int32 → Int64 → Int32 → HMem → Option (Int64 × HMem)) (a0 : Nat) (a1 : Nat) (v2 : Int32) (v3 : Int32) (v4 : Int32) (v5 : Int64) (v7 : Int32) (μ : HMem) : Option (Int64 × HMem) :=
if v3 ≤ v7 then
  K80 a0 a1 v2 v3 v4 v5 μ
else
  h_chk v7 (h_len a1) (
  h_chk v2 (h_len (a0 + 3)) (
  if ¬ ((μ.1 a1 (Int32.toNatClampNeg (v7))) &&& (μ.1 (a0 + 3) (Int32.toNatClampNeg (v2)))) = 0 then
    f_Bench_colorRest_J74 fr_ rec_ a0 a1 v2 v3 v4 v5 v7 μ
  else
    h_chk v7 (h_len a1) (
    h_chk v7 (h_len a1) (h_let (h_wi μ a1 (Int32.toNatClampNeg (v7)) ((μ.1 a1 (Int32.toNatClampNeg (v7))) ||| (h_ishl 1 v2))) (fun μ_45 =>
    h_bd (fr_ a0 a1 (v2 + 1) v3 v4 μ_45) (fun r56 μ_56 =>
    h_let (v5 + r56) (fun v5_60 =>
    h_chk v7 (h_len a1) (
    h_chk v7 (h_len a1) (h_let (h_wi μ_56 a1 (Int32.toNatClampNeg (v7)) ((μ_56.1 a1 (Int32.toNatClampNeg (v7))) &&& ((h_ishl 1 v2) ^^^ (-1)))) (fun μ_73 =>
    f_Bench_colorRest_J74 fr_ rec_ a0 a1 v2 v3 v4 v5_60 v7 μ_73))))))))))
def f_Bench_colorRest_L16 (fr_ : Nat → Nat → Int32 → Int32 → Int32 → HMem → Option (Int64 × HMem)) (K80 : Nat → Nat → Int32 → Int32 → Int32 → Int64 → HMem → Option (Int64 × HMem)) : Nat → Nat → Nat → Int32 → Int32 → Int32 → Int64 → Int32 → HMem → Option (Int64 × HMem)
  | 0, _, _, _, _, _, _, _, _ => none
  | fuel + 1, a0, a1, v2, v3, v4, v5, v7, μ => f_Bench_colorRest_L16_b fr_ K80 (f_Bench_colorRest_L16 fr_ K80 fuel) a0 a1 v2 v3 v4 v5 v7 μ
def f_Bench_colorRest_J122 (fr_ : Nat → Nat → Int32 → Int32 → Int32 → HMem → Option (Int64 × HMem))   (v5 : Int64) (μ : HMem) : Option (Int64 × HMem) :=
some (v5, μ)
def f_Bench_colorRest_J80 (fr_ : Nat → Nat → Int32 → Int32 → Int32 → HMem → Option (Int64 × HMem))   (a0 : Nat) (a1 : Nat) (v2 : Int32) (v3 : Int32) (v4 : Int32) (v5 : Int64) (μ : HMem) : Option (Int64 × HMem) :=
if v4 ≤ v3 then
  f_Bench_colorRest_J122 fr_ v5 μ
else
  if (nI (h_len a1)) ≤ v3 then
    f_Bench_colorRest_J122 fr_ v5 μ
  else
    h_chk v3 (h_len a1) (h_let (h_wi μ a1 (Int32.toNatClampNeg (v3)) (h_ishl 1 v2)) (fun μ_97 =>
    h_bd (fr_ a0 a1 (v2 + 1) (v3 + 1) v4 μ_97) (fun r115 μ_115 =>
    h_let (v5 + ((Int32.toInt64 (v4 - v3)) * r115)) (fun v5_120 =>
    f_Bench_colorRest_J122 fr_ v5_120 μ_115))))
def f_Bench_colorRest_0 (fr_ : Nat → Nat → Int32 → Int32 → Int32 → HMem → Option (Int64 × HMem)) (a0 : Nat) (a1 : Nat) (v2 : Int32) (v3 : Int32) (v4 : Int32) (μ : HMem) : Option (Int64 × HMem) :=
  if v2 < (μ.1 a0 0) then
    f_Bench_colorRest_L16 fr_ (f_Bench_colorRest_J80 fr_) h_fuel a0 a1 v2 v3 v4 0 0 μ
  else
    some (1, μ)
def f_Bench_colorRest : Nat → Nat → Nat → Int32 → Int32 → Int32 → HMem → Option (Int64 × HMem)
  | 0, _, _, _, _, _, _ => none
  | rd + 1, a0, a1, v2, v3, v4, μ => f_Bench_colorRest_0 (f_Bench_colorRest rd) a0 a1 v2 v3 v4 μ
def f_Bench_properColorings_J22   (s0 : Int64) (μ : HMem) : Option (Int64 × HMem) :=
some (s0, μ)
def f_Bench_properColorings (a1 : Nat) (v2 : Int32) (μ : HMem) : Option (Int64 × HMem) :=
  h_bd (f_Graph_loopCount a1 μ) (fun r1 μ_1 =>
  if r1 ≤ 0 then
    h_bd (f_Bench_colorRest h_deep a1 121 0 0 v2 μ_1) (fun r19 μ_19 =>
    f_Bench_properColorings_J22 r19 μ_19)
  else
    f_Bench_properColorings_J22 0 μ_1)
def p_Bench_hashOfWeights_45 (cx : HCx) (F_ : Nat → Int64 → HMem → Option (Int64 × HMem)) : Prop := ∀ (a2 : Nat) (h_a2 : HIsG a2) (v3 : Int64) (μ : HMem), HX cx (HQ cx h_eJ) (F_ a2 v3 μ) 0 0 45 [(2, .ref a2), (3, .long v3)] [] μ
def p_Bench_hashOfWeights_15 (cx : HCx) (F_ : Nat → Int64 → Int32 → HMem → Option (Int64 × HMem)) : Prop := ∀ (a2 : Nat) (h_a2 : HIsG a2) (v3 : Int64) (v5 : Int32) (μ : HMem), HX cx (HQ cx h_eJ) (F_ a2 v3 v5 μ) 0 0 15 [(2, .ref a2), (3, .long v3), (5, .int v5)] [] μ
def p_Bench_hashOfWeights_92 (cx : HCx) (F_ : Nat → Int64 → Int32 → HMem → Option (Int64 × HMem)) : Prop := ∀ (a2 : Nat) (h_a2 : HIsG a2) (v3 : Int64) (v5 : Int32) (μ : HMem), HX cx (HQ cx h_eJ) (F_ a2 v3 v5 μ) 0 0 92 [(2, .ref a2), (3, .long v3), (5, .int v5)] [] μ
def p_Bench_hashOfWeights_61 (cx : HCx) (F_ : Nat → Int64 → Int32 → Int32 → HMem → Option (Int64 × HMem)) : Prop := ∀ (a2 : Nat) (h_a2 : HIsG a2) (v3 : Int64) (v5 : Int32) (v6 : Int32) (μ : HMem), HX cx (HQ cx h_eJ) (F_ a2 v3 v5 v6 μ) 0 0 61 [(2, .ref a2), (3, .long v3), (5, .int v5), (6, .int v6)] [] μ
def p_Bench_hashOfWeights_48 (cx : HCx) (F_ : Nat → Int64 → Int32 → HMem → Option (Int64 × HMem)) : Prop := ∀ (a2 : Nat) (h_a2 : HIsG a2) (v3 : Int64) (v5 : Int32) (μ : HMem), HX cx (HQ cx h_eJ) (F_ a2 v3 v5 μ) 0 0 48 [(2, .ref a2), (3, .long v3), (5, .int v5)] [] μ
def p_Bench_hashOfComparisons_14 (cx : HCx) (F_ : Int64 → Int32 → Int32 → Int32 → HMem → Option (Int64 × HMem)) : Prop := ∀ (v1 : Int64) (v3 : Int32) (v4 : Int32) (v5 : Int32) (μ : HMem), HX cx (HQ cx h_eJ) (F_ v1 v3 v4 v5 μ) 0 0 14 [(0, .ref 84), (1, .long v1), (3, .int v3), (4, .int v4), (5, .int v5)] [] μ
def p_Bench_hashOfComparisons_62 (cx : HCx) (F_ : Int64 → Int32 → Int32 → HMem → Option (Int64 × HMem)) : Prop := ∀ (v1 : Int64) (v3 : Int32) (v4 : Int32) (μ : HMem), HX cx (HQ cx h_eJ) (F_ v1 v3 v4 μ) 0 0 62 [(0, .ref 84), (1, .long v1), (3, .int v3), (4, .int v4)] [] μ
def p_Bench_hashOfComparisons_5 (cx : HCx) (F_ : Int64 → Int32 → Int32 → HMem → Option (Int64 × HMem)) : Prop := ∀ (v1 : Int64) (v3 : Int32) (v4 : Int32) (μ : HMem), HX cx (HQ cx h_eJ) (F_ v1 v3 v4 μ) 0 0 5 [(0, .ref 84), (1, .long v1), (3, .int v3), (4, .int v4)] [] μ
def p_Bench_hashOfComparisons_68 (cx : HCx) (F_ : Int64 → Int32 → HMem → Option (Int64 × HMem)) : Prop := ∀ (v1 : Int64) (v3 : Int32) (μ : HMem), HX cx (HQ cx h_eJ) (F_ v1 v3 μ) 0 0 68 [(1, .long v1), (3, .int v3)] [] μ
def p_Bench_hashOfComparisons_83 (cx : HCx) (F_ : Int32 → Int64 → Int32 → Int32 → HMem → Option (Int64 × HMem)) : Prop := ∀ (v3 : Int32) (v4 : Int64) (v6 : Int32) (v7 : Int32) (μ : HMem), HX cx (HQ cx h_eJ) (F_ v3 v4 v6 v7 μ) 0 0 83 [(3, .int v3), (4, .long v4), (6, .int v6), (7, .int v7)] [] μ
def p_Bench_hashOfComparisons_153 (cx : HCx) (F_ : Int32 → Int64 → Int32 → HMem → Option (Int64 × HMem)) : Prop := ∀ (v3 : Int32) (v4 : Int64) (v6 : Int32) (μ : HMem), HX cx (HQ cx h_eJ) (F_ v3 v4 v6 μ) 0 0 153 [(3, .int v3), (4, .long v4), (6, .int v6)] [] μ
def p_Bench_hashOfComparisons_74 (cx : HCx) (F_ : Int32 → Int64 → Int32 → HMem → Option (Int64 × HMem)) : Prop := ∀ (v3 : Int32) (v4 : Int64) (v6 : Int32) (μ : HMem), HX cx (HQ cx h_eJ) (F_ v3 v4 v6 μ) 0 0 74 [(3, .int v3), (4, .long v4), (6, .int v6)] [] μ
def p_Bench_digest_103 (cx : HCx) (F_ : Int64 → HMem → Option (Int64 × HMem)) : Prop := ∀ (v1 : Int64) (μ : HMem), HX cx (HQ cx h_eJ) (F_ v1 μ) 0 0 103 [(0, .ref 84), (1, .long v1)] [] μ
def p_Bench_digest_15 (cx : HCx) (F_ : Int64 → Int32 → HMem → Option (Int64 × HMem)) : Prop := ∀ (v1 : Int64) (v3 : Int32) (μ : HMem), HX cx (HQ cx h_eJ) (F_ v1 v3 μ) 0 0 15 [(0, .ref 84), (1, .long v1), (3, .int v3)] [] μ
def p_Bench_colorRest_16 (cx : HCx) (F_ : Nat → Nat → Int32 → Int32 → Int32 → Int64 → Int32 → HMem → Option (Int64 × HMem)) : Prop := ∀ (a0 : Nat) (h_a0 : HIsG a0) (a1 : Nat) (h_a1 : HIsI a1) (v2 : Int32) (v3 : Int32) (v4 : Int32) (v5 : Int64) (v7 : Int32) (μ : HMem), HX cx (HQ cx h_eJ) (F_ a0 a1 v2 v3 v4 v5 v7 μ) 0 0 16 [(0, .ref a0), (1, .ref a1), (2, .int v2), (3, .int v3), (4, .int v4), (5, .long v5), (7, .int v7)] [] μ
def p_Bench_colorRest_80 (cx : HCx) (F_ : Nat → Nat → Int32 → Int32 → Int32 → Int64 → HMem → Option (Int64 × HMem)) : Prop := ∀ (a0 : Nat) (h_a0 : HIsG a0) (a1 : Nat) (h_a1 : HIsI a1) (v2 : Int32) (v3 : Int32) (v4 : Int32) (v5 : Int64) (μ : HMem), HX cx (HQ cx h_eJ) (F_ a0 a1 v2 v3 v4 v5 μ) 0 0 80 [(0, .ref a0), (1, .ref a1), (2, .int v2), (3, .int v3), (4, .int v4), (5, .long v5)] [] μ
theorem t_Bench_clearText_0 {cx : HCx} (hg : HGood cx R_Bench b_Bench_clearText 2 1 (some .int)) (hA : h_own cx)  (μ : HMem) : HX cx (HQ cx h_eI) (f_Bench_clearText μ) 0 0 0 [(0, .ref 84)] [] μ := by
  unfold f_Bench_clearText
  refine r_aload_n hg 0 d_Bench_clearText_0 rfl rfl ?_
  refine r_get (v := .ref 88) hg c_Bench (by decide) rfl (Nat.le_of_ble_eq_true rfl) rfl wf_Bench_30 d_Bench_clearText_1 rfl ?_
  refine r_get (v := .int (μ.1 88 1)) hg c_Text (by decide) rfl (Nat.le_of_ble_eq_true rfl) rfl wf_Bench_260 d_Bench_clearText_4 rfl ?_
  refine r_letI (fun v1_7 => ?_)
  refine r_istore_n (l' := [(1, .int v1_7), (0, .ref 84)]) hg d_Bench_clearText_7 rfl (Nat.le_of_ble_eq_true rfl) rfl ?_
  refine r_aload_n hg 1 d_Bench_clearText_8 rfl rfl ?_
  refine r_get (v := .ref 88) hg c_Bench (by decide) rfl (Nat.le_of_ble_eq_true rfl) rfl wf_Bench_30 d_Bench_clearText_9 rfl ?_
  refine r_iconst (v := 0) hg d_Bench_clearText_12 (by decide) ?_
  refine r_put hg c_Text t_Text_ok n_Text (by decide) rfl (Nat.le_of_ble_eq_true rfl) rfl rfl (by decide +kernel) wf_Bench_260 d_Bench_clearText_13 ?_
  refine r_letM (fun μ_13 => ?_)
  refine r_iload_n hg 0 d_Bench_clearText_16 rfl rfl ?_
  exact r_iret hg hA rfl d_Bench_clearText_17 rfl
theorem t_Bench_clearText  (μ : HMem) : HSpec y_Bench_clearText b_Bench_clearText 2 (some .int) 1 h_eI [.ref 84] μ (f_Bench_clearText μ) :=
  HSpec.of (by decide +kernel) (v_Bench_clearText.1 _ (by simp)) (Nat.le_of_ble_eq_true rfl) (fun cx hA hg => t_Bench_clearText_0 hg hA  μ)
theorem t_Bench_hashOfWeights_L15_b {cx : HCx} (hg : HGood cx R_Bench b_Bench_hashOfWeights 7 2 (some .long)) (hA : h_own cx) (K45 : Nat → Int64 → HMem → Option (Int64 × HMem)) (hK45 : p_Bench_hashOfWeights_45 cx K45) (rec_ : Nat → Int64 → Int32 → HMem → Option (Int64 × HMem)) (hrec_ : p_Bench_hashOfWeights_15 cx rec_) (a2 : Nat) (h_a2 : HIsG a2) (v3 : Int64) (v5 : Int32) (μ : HMem) : HX cx (HQ cx h_eJ) (f_Bench_hashOfWeights_L15_b K45 rec_ a2 v3 v5 μ) 0 0 15 [(2, .ref a2), (3, .long v3), (5, .int v5)] [] μ := by
  unfold f_Bench_hashOfWeights_L15_b
  refine r_iload hg 2 d_Bench_hashOfWeights_15 rfl ?_
  refine r_aload_n hg 0 d_Bench_hashOfWeights_17 rfl rfl ?_
  refine r_get (v := .int (μ.1 a2 0)) hg c_Graph (h_G_lt h_a2) (h_G_kd h_a2) (Nat.le_of_ble_eq_true rfl) (h_G_fl0 h_a2) wf_Bench_92 d_Bench_hashOfWeights_18 rfl ?_
  refine r_icmp_ge (tgt := 45) hg d_Bench_hashOfWeights_21 (by decide) ?_ ?_
  · refine r_sub [0, 1] rfl ?_
    exact hK45 a2 h_a2 v3 μ
  · refine r_ldc2 hg wc_Bench_294 d_Bench_hashOfWeights_24 ?_
    refine r_lload_n hg 1 d_Bench_hashOfWeights_27 rfl rfl ?_
    refine r_lmul hg d_Bench_hashOfWeights_28 ?_
    refine r_aload_n hg 0 d_Bench_hashOfWeights_29 rfl rfl ?_
    refine r_get (v := .ref (a2 + 1)) hg c_Graph (h_G_lt h_a2) (h_G_kd h_a2) (Nat.le_of_ble_eq_true rfl) (h_G_fl1 h_a2) wf_Bench_104 d_Bench_hashOfWeights_30 rfl ?_
    refine r_iload hg 2 d_Bench_hashOfWeights_33 rfl ?_
    refine r_iald hg (h_G_lt1 h_a2) (h_G_kd1 h_a2) d_Bench_hashOfWeights_35 ?_
    refine r_i2l hg d_Bench_hashOfWeights_36 ?_
    refine r_ladd hg d_Bench_hashOfWeights_37 ?_
    refine r_letJ (fun v3_38 => ?_)
    refine r_lstore_n (l' := [(3, .long v3_38), (2, .ref a2), (5, .int v5)]) hg d_Bench_hashOfWeights_38 rfl (Nat.le_of_ble_eq_true rfl) rfl ?_
    refine r_letE (fun v5_39 he_39 => ?_)
    refine r_iinc (v := v5_39) (l' := [(5, .int v5_39), (3, .long v3_38), (2, .ref a2)]) hg 2 d_Bench_hashOfWeights_39 rfl he_39 (Nat.le_of_ble_eq_true rfl) rfl ?_
    refine r_goto (tgt := 15) hg d_Bench_hashOfWeights_42 (by decide) ?_
    refine r_sub [2, 1, 0] rfl ?_
    exact hrec_ a2 h_a2 v3_38 v5_39 μ
theorem t_Bench_hashOfWeights_L15 {cx : HCx} (hg : HGood cx R_Bench b_Bench_hashOfWeights 7 2 (some .long)) (hA : h_own cx) (K45 : Nat → Int64 → HMem → Option (Int64 × HMem)) (hK45 : p_Bench_hashOfWeights_45 cx K45) : ∀ (fuel : Nat) (a2 : Nat) (h_a2 : HIsG a2) (v3 : Int64) (v5 : Int32) (μ : HMem), HX cx (HQ cx h_eJ) (f_Bench_hashOfWeights_L15 K45 fuel a2 v3 v5 μ) 0 0 15 [(2, .ref a2), (3, .long v3), (5, .int v5)] [] μ
  | 0, _, _, _, _, _ => by unfold f_Bench_hashOfWeights_L15; exact HX.none
  | fuel + 1, a2, h_a2, v3, v5, μ => by
    rw [f_Bench_hashOfWeights_L15]
    exact t_Bench_hashOfWeights_L15_b hg hA  K45 hK45 (f_Bench_hashOfWeights_L15 K45 fuel) (t_Bench_hashOfWeights_L15 hg hA  K45 hK45 fuel) a2 h_a2 v3 v5 μ
theorem t_Bench_hashOfWeights_L61_b {cx : HCx} (hg : HGood cx R_Bench b_Bench_hashOfWeights 7 2 (some .long)) (hA : h_own cx) (K92 : Nat → Int64 → Int32 → HMem → Option (Int64 × HMem)) (hK92 : p_Bench_hashOfWeights_92 cx K92) (rec_ : Nat → Int64 → Int32 → Int32 → HMem → Option (Int64 × HMem)) (hrec_ : p_Bench_hashOfWeights_61 cx rec_) (a2 : Nat) (h_a2 : HIsG a2) (v3 : Int64) (v5 : Int32) (v6 : Int32) (μ : HMem) : HX cx (HQ cx h_eJ) (f_Bench_hashOfWeights_L61_b K92 rec_ a2 v3 v5 v6 μ) 0 0 61 [(2, .ref a2), (3, .long v3), (5, .int v5), (6, .int v6)] [] μ := by
  unfold f_Bench_hashOfWeights_L61_b
  refine r_iload hg 3 d_Bench_hashOfWeights_61 rfl ?_
  refine r_aload_n hg 0 d_Bench_hashOfWeights_63 rfl rfl ?_
  refine r_get (v := .int (μ.1 a2 0)) hg c_Graph (h_G_lt h_a2) (h_G_kd h_a2) (Nat.le_of_ble_eq_true rfl) (h_G_fl0 h_a2) wf_Bench_92 d_Bench_hashOfWeights_64 rfl ?_
  refine r_icmp_ge (tgt := 92) hg d_Bench_hashOfWeights_67 (by decide) ?_ ?_
  · refine r_sub [0, 1, 2] rfl ?_
    exact hK92 a2 h_a2 v3 v5 μ
  · refine r_ldc2 hg wc_Bench_294 d_Bench_hashOfWeights_70 ?_
    refine r_lload_n hg 1 d_Bench_hashOfWeights_73 rfl rfl ?_
    refine r_lmul hg d_Bench_hashOfWeights_74 ?_
    refine r_aload_n hg 0 d_Bench_hashOfWeights_75 rfl rfl ?_
    refine r_iload hg 2 d_Bench_hashOfWeights_76 rfl ?_
    refine r_iload hg 3 d_Bench_hashOfWeights_78 rfl ?_
    refine r_callV (As := [.int v5, .int v6]) hg (t_Graph_between a2 h_a2 v5 v6 μ) v_Graph_between c_Graph rfl (h_G_lt h_a2) (h_G_kd h_a2) wm_Bench_107 d_Bench_hashOfWeights_80 rfl ⟨by decide, by decide⟩ (Nat.le_of_ble_eq_true rfl) rfl (fun r80 μ_80 _ => ?_)
    refine r_i2l hg d_Bench_hashOfWeights_83 ?_
    refine r_ladd hg d_Bench_hashOfWeights_84 ?_
    refine r_letJ (fun v3_85 => ?_)
    refine r_lstore_n (l' := [(3, .long v3_85), (2, .ref a2), (5, .int v5), (6, .int v6)]) hg d_Bench_hashOfWeights_85 rfl (Nat.le_of_ble_eq_true rfl) rfl ?_
    refine r_letE (fun v6_86 he_86 => ?_)
    refine r_iinc (v := v6_86) (l' := [(6, .int v6_86), (3, .long v3_85), (2, .ref a2), (5, .int v5)]) hg 3 d_Bench_hashOfWeights_86 rfl he_86 (Nat.le_of_ble_eq_true rfl) rfl ?_
    refine r_goto (tgt := 61) hg d_Bench_hashOfWeights_89 (by decide) ?_
    refine r_sub [2, 1, 3, 0] rfl ?_
    exact hrec_ a2 h_a2 v3_85 v5 v6_86 μ_80
theorem t_Bench_hashOfWeights_L61 {cx : HCx} (hg : HGood cx R_Bench b_Bench_hashOfWeights 7 2 (some .long)) (hA : h_own cx) (K92 : Nat → Int64 → Int32 → HMem → Option (Int64 × HMem)) (hK92 : p_Bench_hashOfWeights_92 cx K92) : ∀ (fuel : Nat) (a2 : Nat) (h_a2 : HIsG a2) (v3 : Int64) (v5 : Int32) (v6 : Int32) (μ : HMem), HX cx (HQ cx h_eJ) (f_Bench_hashOfWeights_L61 K92 fuel a2 v3 v5 v6 μ) 0 0 61 [(2, .ref a2), (3, .long v3), (5, .int v5), (6, .int v6)] [] μ
  | 0, _, _, _, _, _, _ => by unfold f_Bench_hashOfWeights_L61; exact HX.none
  | fuel + 1, a2, h_a2, v3, v5, v6, μ => by
    rw [f_Bench_hashOfWeights_L61]
    exact t_Bench_hashOfWeights_L61_b hg hA  K92 hK92 (f_Bench_hashOfWeights_L61 K92 fuel) (t_Bench_hashOfWeights_L61 hg hA  K92 hK92 fuel) a2 h_a2 v3 v5 v6 μ
theorem t_Bench_hashOfWeights_J92 {cx : HCx} (hg : HGood cx R_Bench b_Bench_hashOfWeights 7 2 (some .long)) (hA : h_own cx)  (rec_ : Nat → Int64 → Int32 → HMem → Option (Int64 × HMem)) (hrec_ : p_Bench_hashOfWeights_48 cx rec_) (a2 : Nat) (h_a2 : HIsG a2) (v3 : Int64) (v5 : Int32) (μ : HMem) : HX cx (HQ cx h_eJ) (f_Bench_hashOfWeights_J92  rec_ a2 v3 v5 μ) 0 0 92 [(2, .ref a2), (3, .long v3), (5, .int v5)] [] μ := by
  unfold f_Bench_hashOfWeights_J92
  refine r_letE (fun v5_92 he_92 => ?_)
  refine r_iinc (v := v5_92) (l' := [(5, .int v5_92), (2, .ref a2), (3, .long v3)]) hg 2 d_Bench_hashOfWeights_92 rfl he_92 (Nat.le_of_ble_eq_true rfl) rfl ?_
  refine r_goto (tgt := 48) hg d_Bench_hashOfWeights_95 (by decide) ?_
  refine r_sub [1, 2, 0] rfl ?_
  exact hrec_ a2 h_a2 v3 v5_92 μ
theorem t_Bench_hashOfWeights_L48_b {cx : HCx} (hg : HGood cx R_Bench b_Bench_hashOfWeights 7 2 (some .long)) (hA : h_own cx)  (rec_ : Nat → Int64 → Int32 → HMem → Option (Int64 × HMem)) (hrec_ : p_Bench_hashOfWeights_48 cx rec_) (a2 : Nat) (h_a2 : HIsG a2) (v3 : Int64) (v5 : Int32) (μ : HMem) : HX cx (HQ cx h_eJ) (f_Bench_hashOfWeights_L48_b  rec_ a2 v3 v5 μ) 0 0 48 [(2, .ref a2), (3, .long v3), (5, .int v5)] [] μ := by
  unfold f_Bench_hashOfWeights_L48_b
  refine r_iload hg 2 d_Bench_hashOfWeights_48 rfl ?_
  refine r_aload_n hg 0 d_Bench_hashOfWeights_50 rfl rfl ?_
  refine r_get (v := .int (μ.1 a2 0)) hg c_Graph (h_G_lt h_a2) (h_G_kd h_a2) (Nat.le_of_ble_eq_true rfl) (h_G_fl0 h_a2) wf_Bench_92 d_Bench_hashOfWeights_51 rfl ?_
  refine r_icmp_ge (tgt := 98) hg d_Bench_hashOfWeights_54 (by decide) ?_ ?_
  · refine r_lload_n hg 1 d_Bench_hashOfWeights_98 rfl rfl ?_
    exact r_lret hg hA rfl d_Bench_hashOfWeights_99 rfl
  · refine r_iload hg 2 d_Bench_hashOfWeights_57 rfl ?_
    refine r_istore (l' := [(6, .int v5), (2, .ref a2), (3, .long v3), (5, .int v5)]) hg d_Bench_hashOfWeights_59 (Nat.le_of_ble_eq_true rfl) rfl ?_
    refine r_sub [1, 2, 3, 0] rfl ?_
    exact t_Bench_hashOfWeights_L61 hg hA (f_Bench_hashOfWeights_J92 rec_) (t_Bench_hashOfWeights_J92 hg hA rec_ hrec_) h_fuel a2 h_a2 v3 v5 v5 μ
theorem t_Bench_hashOfWeights_L48 {cx : HCx} (hg : HGood cx R_Bench b_Bench_hashOfWeights 7 2 (some .long)) (hA : h_own cx)  : ∀ (fuel : Nat) (a2 : Nat) (h_a2 : HIsG a2) (v3 : Int64) (v5 : Int32) (μ : HMem), HX cx (HQ cx h_eJ) (f_Bench_hashOfWeights_L48  fuel a2 v3 v5 μ) 0 0 48 [(2, .ref a2), (3, .long v3), (5, .int v5)] [] μ
  | 0, _, _, _, _, _ => by unfold f_Bench_hashOfWeights_L48; exact HX.none
  | fuel + 1, a2, h_a2, v3, v5, μ => by
    rw [f_Bench_hashOfWeights_L48]
    exact t_Bench_hashOfWeights_L48_b hg hA   (f_Bench_hashOfWeights_L48  fuel) (t_Bench_hashOfWeights_L48 hg hA   fuel) a2 h_a2 v3 v5 μ
theorem t_Bench_hashOfWeights_J45 {cx : HCx} (hg : HGood cx R_Bench b_Bench_hashOfWeights 7 2 (some .long)) (hA : h_own cx)   (a2 : Nat) (h_a2 : HIsG a2) (v3 : Int64) (μ : HMem) : HX cx (HQ cx h_eJ) (f_Bench_hashOfWeights_J45   a2 v3 μ) 0 0 45 [(2, .ref a2), (3, .long v3)] [] μ := by
  unfold f_Bench_hashOfWeights_J45
  refine r_iconst (v := 0) hg d_Bench_hashOfWeights_45 (by decide) ?_
  refine r_istore (l' := [(5, .int 0), (2, .ref a2), (3, .long v3)]) hg d_Bench_hashOfWeights_46 (Nat.le_of_ble_eq_true rfl) rfl ?_
  refine r_sub [1, 2, 0] rfl ?_
  exact t_Bench_hashOfWeights_L48 hg hA h_fuel a2 h_a2 v3 0 μ
theorem t_Bench_hashOfWeights_0 {cx : HCx} (hg : HGood cx R_Bench b_Bench_hashOfWeights 7 2 (some .long)) (hA : h_own cx) (v0 : Int64) (a2 : Nat) (h_a2 : HIsG a2) (μ : HMem) : HX cx (HQ cx h_eJ) (f_Bench_hashOfWeights v0 a2 μ) 0 0 0 [(0, .long v0), (2, .ref a2)] [] μ := by
  unfold f_Bench_hashOfWeights
  refine r_ldc2 hg wc_Bench_294 d_Bench_hashOfWeights_0 ?_
  refine r_lload_n hg 0 d_Bench_hashOfWeights_3 rfl rfl ?_
  refine r_lmul hg d_Bench_hashOfWeights_4 ?_
  refine r_aload_n hg 1 d_Bench_hashOfWeights_5 rfl rfl ?_
  refine r_get (v := .int (μ.1 a2 0)) hg c_Graph (h_G_lt h_a2) (h_G_kd h_a2) (Nat.le_of_ble_eq_true rfl) (h_G_fl0 h_a2) wf_Bench_92 d_Bench_hashOfWeights_6 rfl ?_
  refine r_i2l hg d_Bench_hashOfWeights_9 ?_
  refine r_ladd hg d_Bench_hashOfWeights_10 ?_
  refine r_letJ (fun v3_11 => ?_)
  refine r_lstore_n (l' := [(3, .long v3_11), (0, .long v0), (2, .ref a2)]) hg d_Bench_hashOfWeights_11 rfl (Nat.le_of_ble_eq_true rfl) rfl ?_
  refine r_iconst (v := 0) hg d_Bench_hashOfWeights_12 (by decide) ?_
  refine r_istore (l' := [(5, .int 0), (3, .long v3_11), (0, .long v0), (2, .ref a2)]) hg d_Bench_hashOfWeights_13 (Nat.le_of_ble_eq_true rfl) rfl ?_
  refine r_sub [3, 1, 0] rfl ?_
  exact t_Bench_hashOfWeights_L15 hg hA f_Bench_hashOfWeights_J45 (t_Bench_hashOfWeights_J45 hg hA) h_fuel a2 h_a2 v3_11 0 μ
theorem t_Bench_hashOfWeights (v0 : Int64) (a2 : Nat) (h_a2 : HIsG a2) (μ : HMem) : HSpec y_Bench_hashOfWeights b_Bench_hashOfWeights 7 (some .long) 2 h_eJ [.long v0, .ref a2] μ (f_Bench_hashOfWeights v0 a2 μ) :=
  HSpec.of (by decide +kernel) (v_Bench_hashOfWeights.1 _ (by simp)) (Nat.le_of_ble_eq_true rfl) (fun cx hA hg => t_Bench_hashOfWeights_0 hg hA v0 a2 h_a2 μ)
theorem t_Bench_hashOfComparisons_J56 {cx : HCx} (hg : HGood cx R_Bench b_Bench_hashOfComparisons 10 22 (some .long)) (hA : h_own cx)  (rec_ : Int64 → Int32 → Int32 → Int32 → HMem → Option (Int64 × HMem)) (hrec_ : p_Bench_hashOfComparisons_14 cx rec_) (v1 : Int64) (v3 : Int32) (v4 : Int32) (v5 : Int32) (μ : HMem) : HX cx (HQ cx h_eJ) (f_Bench_hashOfComparisons_J56  rec_ v1 v3 v4 v5 μ) 0 0 56 [(0, .ref 84), (1, .long v1), (3, .int v3), (4, .int v4), (5, .int v5)] [] μ := by
  unfold f_Bench_hashOfComparisons_J56
  refine r_letE (fun v5_56 he_56 => ?_)
  refine r_iinc (v := v5_56) (l' := [(5, .int v5_56), (0, .ref 84), (1, .long v1), (3, .int v3), (4, .int v4)]) hg 4 d_Bench_hashOfComparisons_56 rfl he_56 (Nat.le_of_ble_eq_true rfl) rfl ?_
  refine r_goto (tgt := 14) hg d_Bench_hashOfComparisons_59 (by decide) ?_
  refine r_sub [1, 2, 3, 4, 0] rfl ?_
  exact hrec_ v1 v3 v4 v5_56 μ
theorem t_Bench_hashOfComparisons_L14_b {cx : HCx} (hg : HGood cx R_Bench b_Bench_hashOfComparisons 10 22 (some .long)) (hA : h_own cx) (K62 : Int64 → Int32 → Int32 → HMem → Option (Int64 × HMem)) (hK62 : p_Bench_hashOfComparisons_62 cx K62) (rec_ : Int64 → Int32 → Int32 → Int32 → HMem → Option (Int64 × HMem)) (hrec_ : p_Bench_hashOfComparisons_14 cx rec_) (v1 : Int64) (v3 : Int32) (v4 : Int32) (v5 : Int32) (μ : HMem) : HX cx (HQ cx h_eJ) (f_Bench_hashOfComparisons_L14_b K62 rec_ v1 v3 v4 v5 μ) 0 0 14 [(0, .ref 84), (1, .long v1), (3, .int v3), (4, .int v4), (5, .int v5)] [] μ := by
  unfold f_Bench_hashOfComparisons_L14_b
  refine r_iload hg 4 d_Bench_hashOfComparisons_14 rfl ?_
  refine r_iconst (v := 4) hg d_Bench_hashOfComparisons_16 (by decide) ?_
  refine r_icmp_ge (tgt := 62) hg d_Bench_hashOfComparisons_17 (by decide) ?_ ?_
  · refine r_sub [0, 1, 2, 3] rfl ?_
    exact hK62 v1 v3 v4 μ
  · refine r_aload_n hg 0 d_Bench_hashOfComparisons_20 rfl rfl ?_
    refine r_get (v := .ref 103) hg c_Bench (by decide) rfl (Nat.le_of_ble_eq_true rfl) rfl wf_Bench_58 d_Bench_hashOfComparisons_21 rfl ?_
    refine r_aload_n hg 0 d_Bench_hashOfComparisons_24 rfl rfl ?_
    refine r_get (v := .ref 85) hg c_Bench (by decide) rfl (Nat.le_of_ble_eq_true rfl) rfl wf_Bench_11 d_Bench_hashOfComparisons_25 rfl ?_
    refine r_iload hg 3 d_Bench_hashOfComparisons_28 rfl ?_
    refine r_gald hg (by decide) rfl d_Bench_hashOfComparisons_30 (fun hb_30 => ?_)
    refine r_aload_n hg 0 d_Bench_hashOfComparisons_31 rfl rfl ?_
    refine r_get (v := .ref 85) hg c_Bench (by decide) rfl (Nat.le_of_ble_eq_true rfl) rfl wf_Bench_11 d_Bench_hashOfComparisons_32 rfl ?_
    refine r_iload hg 4 d_Bench_hashOfComparisons_35 rfl ?_
    refine r_gald hg (by decide) rfl d_Bench_hashOfComparisons_37 (fun hb_37 => ?_)
    refine r_callV (As := [.ref (h_el 85 (Int32.toNatClampNeg (v4))), .ref (h_el 85 (Int32.toNatClampNeg (v5)))]) hg (t_HomSearch_maps (h_el 85 (Int32.toNatClampNeg (v4))) (h_el_G85 hb_30) (h_el 85 (Int32.toNatClampNeg (v5))) (h_el_G85 hb_37) μ) v_HomSearch_maps c_HomSearch rfl (by decide) rfl wm_Bench_240 d_Bench_hashOfComparisons_38 rfl ⟨by decide, by decide⟩ (Nat.le_of_ble_eq_true rfl) rfl (fun r38 μ_38 _ => ?_)
    refine r_if_eq (tgt := 56) hg d_Bench_hashOfComparisons_41 (by decide) ?_ ?_
    · exact t_Bench_hashOfComparisons_J56 hg hA rec_ hrec_ v1 v3 v4 v5 μ_38
    · refine r_iload_n hg 2 d_Bench_hashOfComparisons_44 rfl rfl ?_
      refine r_iconst (v := 1) hg d_Bench_hashOfComparisons_45 (by decide) ?_
      refine r_iconst (v := 4) hg d_Bench_hashOfComparisons_46 (by decide) ?_
      refine r_iload hg 3 d_Bench_hashOfComparisons_47 rfl ?_
      refine r_imul hg d_Bench_hashOfComparisons_49 ?_
      refine r_iload hg 4 d_Bench_hashOfComparisons_50 rfl ?_
      refine r_iadd hg d_Bench_hashOfComparisons_52 ?_
      refine r_ishl hg d_Bench_hashOfComparisons_53 ?_
      refine r_ior hg d_Bench_hashOfComparisons_54 ?_
      refine r_letI (fun v3_55 => ?_)
      refine r_istore_n (l' := [(3, .int v3_55), (0, .ref 84), (1, .long v1), (4, .int v4), (5, .int v5)]) hg d_Bench_hashOfComparisons_55 rfl (Nat.le_of_ble_eq_true rfl) rfl ?_
      refine r_sub [1, 2, 0, 3, 4] rfl ?_
      exact t_Bench_hashOfComparisons_J56 hg hA rec_ hrec_ v1 v3_55 v4 v5 μ_38
theorem t_Bench_hashOfComparisons_L14 {cx : HCx} (hg : HGood cx R_Bench b_Bench_hashOfComparisons 10 22 (some .long)) (hA : h_own cx) (K62 : Int64 → Int32 → Int32 → HMem → Option (Int64 × HMem)) (hK62 : p_Bench_hashOfComparisons_62 cx K62) : ∀ (fuel : Nat) (v1 : Int64) (v3 : Int32) (v4 : Int32) (v5 : Int32) (μ : HMem), HX cx (HQ cx h_eJ) (f_Bench_hashOfComparisons_L14 K62 fuel v1 v3 v4 v5 μ) 0 0 14 [(0, .ref 84), (1, .long v1), (3, .int v3), (4, .int v4), (5, .int v5)] [] μ
  | 0, _, _, _, _, _ => by unfold f_Bench_hashOfComparisons_L14; exact HX.none
  | fuel + 1, v1, v3, v4, v5, μ => by
    rw [f_Bench_hashOfComparisons_L14]
    exact t_Bench_hashOfComparisons_L14_b hg hA  K62 hK62 (f_Bench_hashOfComparisons_L14 K62 fuel) (t_Bench_hashOfComparisons_L14 hg hA  K62 hK62 fuel) v1 v3 v4 v5 μ
theorem t_Bench_hashOfComparisons_J62 {cx : HCx} (hg : HGood cx R_Bench b_Bench_hashOfComparisons 10 22 (some .long)) (hA : h_own cx)  (rec_ : Int64 → Int32 → Int32 → HMem → Option (Int64 × HMem)) (hrec_ : p_Bench_hashOfComparisons_5 cx rec_) (v1 : Int64) (v3 : Int32) (v4 : Int32) (μ : HMem) : HX cx (HQ cx h_eJ) (f_Bench_hashOfComparisons_J62  rec_ v1 v3 v4 μ) 0 0 62 [(0, .ref 84), (1, .long v1), (3, .int v3), (4, .int v4)] [] μ := by
  unfold f_Bench_hashOfComparisons_J62
  refine r_letE (fun v4_62 he_62 => ?_)
  refine r_iinc (v := v4_62) (l' := [(4, .int v4_62), (0, .ref 84), (1, .long v1), (3, .int v3)]) hg 3 d_Bench_hashOfComparisons_62 rfl he_62 (Nat.le_of_ble_eq_true rfl) rfl ?_
  refine r_goto (tgt := 5) hg d_Bench_hashOfComparisons_65 (by decide) ?_
  refine r_sub [1, 2, 3, 0] rfl ?_
  exact hrec_ v1 v3 v4_62 μ
theorem t_Bench_hashOfComparisons_L5_b {cx : HCx} (hg : HGood cx R_Bench b_Bench_hashOfComparisons 10 22 (some .long)) (hA : h_own cx) (K68 : Int64 → Int32 → HMem → Option (Int64 × HMem)) (hK68 : p_Bench_hashOfComparisons_68 cx K68) (rec_ : Int64 → Int32 → Int32 → HMem → Option (Int64 × HMem)) (hrec_ : p_Bench_hashOfComparisons_5 cx rec_) (v1 : Int64) (v3 : Int32) (v4 : Int32) (μ : HMem) : HX cx (HQ cx h_eJ) (f_Bench_hashOfComparisons_L5_b K68 rec_ v1 v3 v4 μ) 0 0 5 [(0, .ref 84), (1, .long v1), (3, .int v3), (4, .int v4)] [] μ := by
  unfold f_Bench_hashOfComparisons_L5_b
  refine r_iload hg 3 d_Bench_hashOfComparisons_5 rfl ?_
  refine r_iconst (v := 4) hg d_Bench_hashOfComparisons_7 (by decide) ?_
  refine r_icmp_ge (tgt := 68) hg d_Bench_hashOfComparisons_8 (by decide) ?_ ?_
  · refine r_sub [1, 2] rfl ?_
    exact hK68 v1 v3 μ
  · refine r_iconst (v := 0) hg d_Bench_hashOfComparisons_11 (by decide) ?_
    refine r_istore (l' := [(5, .int 0), (0, .ref 84), (1, .long v1), (3, .int v3), (4, .int v4)]) hg d_Bench_hashOfComparisons_12 (Nat.le_of_ble_eq_true rfl) rfl ?_
    refine r_sub [1, 2, 3, 4, 0] rfl ?_
    exact t_Bench_hashOfComparisons_L14 hg hA (f_Bench_hashOfComparisons_J62 rec_) (t_Bench_hashOfComparisons_J62 hg hA rec_ hrec_) h_fuel v1 v3 v4 0 μ
theorem t_Bench_hashOfComparisons_L5 {cx : HCx} (hg : HGood cx R_Bench b_Bench_hashOfComparisons 10 22 (some .long)) (hA : h_own cx) (K68 : Int64 → Int32 → HMem → Option (Int64 × HMem)) (hK68 : p_Bench_hashOfComparisons_68 cx K68) : ∀ (fuel : Nat) (v1 : Int64) (v3 : Int32) (v4 : Int32) (μ : HMem), HX cx (HQ cx h_eJ) (f_Bench_hashOfComparisons_L5 K68 fuel v1 v3 v4 μ) 0 0 5 [(0, .ref 84), (1, .long v1), (3, .int v3), (4, .int v4)] [] μ
  | 0, _, _, _, _ => by unfold f_Bench_hashOfComparisons_L5; exact HX.none
  | fuel + 1, v1, v3, v4, μ => by
    rw [f_Bench_hashOfComparisons_L5]
    exact t_Bench_hashOfComparisons_L5_b hg hA  K68 hK68 (f_Bench_hashOfComparisons_L5 K68 fuel) (t_Bench_hashOfComparisons_L5 hg hA  K68 hK68 fuel) v1 v3 v4 μ
theorem t_Bench_hashOfComparisons_J129 {cx : HCx} (hg : HGood cx R_Bench b_Bench_hashOfComparisons 10 22 (some .long)) (hA : h_own cx)  (rec_ : Int32 → Int64 → Int32 → Int32 → HMem → Option (Int64 × HMem)) (hrec_ : p_Bench_hashOfComparisons_83 cx rec_) (v3 : Int32) (v4 : Int64) (v6 : Int32) (v7 : Int32) (v8 : Int32) (s0 : Int32) (μ : HMem) : HX cx (HQ cx h_eJ) (f_Bench_hashOfComparisons_J129  rec_ v3 v4 v6 v7 v8 s0 μ) 0 0 129 [(3, .int v3), (4, .long v4), (6, .int v6), (7, .int v7), (8, .int v8)] [.int s0] μ := by
  unfold f_Bench_hashOfComparisons_J129
  refine r_istore (l' := [(9, .int s0), (3, .int v3), (4, .long v4), (6, .int v6), (7, .int v7), (8, .int v8)]) hg d_Bench_hashOfComparisons_129 (Nat.le_of_ble_eq_true rfl) rfl ?_
  refine r_ldc2 hg wc_Bench_294 d_Bench_hashOfComparisons_131 ?_
  refine r_lload hg 2 d_Bench_hashOfComparisons_134 rfl ?_
  refine r_lmul hg d_Bench_hashOfComparisons_136 ?_
  refine r_iload hg 5 d_Bench_hashOfComparisons_137 rfl ?_
  refine r_i2l hg d_Bench_hashOfComparisons_139 ?_
  refine r_ladd hg d_Bench_hashOfComparisons_140 ?_
  refine r_iload hg 0 d_Bench_hashOfComparisons_141 rfl ?_
  refine r_i2l hg d_Bench_hashOfComparisons_143 ?_
  refine r_ladd hg d_Bench_hashOfComparisons_144 ?_
  refine r_letJ (fun v4_145 => ?_)
  refine r_lstore (l' := [(4, .long v4_145), (9, .int s0), (3, .int v3), (6, .int v6), (7, .int v7), (8, .int v8)]) hg d_Bench_hashOfComparisons_145 (Nat.le_of_ble_eq_true rfl) rfl ?_
  refine r_letE (fun v7_147 he_147 => ?_)
  refine r_iinc (v := v7_147) (l' := [(7, .int v7_147), (4, .long v4_145), (9, .int s0), (3, .int v3), (6, .int v6), (8, .int v8)]) hg 4 d_Bench_hashOfComparisons_147 rfl he_147 (Nat.le_of_ble_eq_true rfl) rfl ?_
  refine r_goto (tgt := 83) hg d_Bench_hashOfComparisons_150 (by decide) ?_
  refine r_sub [3, 1, 4, 0] rfl ?_
  exact hrec_ v3 v4_145 v6 v7_147 μ
theorem t_Bench_hashOfComparisons_J108 {cx : HCx} (hg : HGood cx R_Bench b_Bench_hashOfComparisons 10 22 (some .long)) (hA : h_own cx)  (rec_ : Int32 → Int64 → Int32 → Int32 → HMem → Option (Int64 × HMem)) (hrec_ : p_Bench_hashOfComparisons_83 cx rec_) (v3 : Int32) (v4 : Int64) (v6 : Int32) (v7 : Int32) (s0 : Int32) (μ : HMem) : HX cx (HQ cx h_eJ) (f_Bench_hashOfComparisons_J108  rec_ v3 v4 v6 v7 s0 μ) 0 0 108 [(3, .int v3), (4, .long v4), (6, .int v6), (7, .int v7)] [.int s0] μ := by
  unfold f_Bench_hashOfComparisons_J108
  refine r_istore (l' := [(8, .int s0), (3, .int v3), (4, .long v4), (6, .int v6), (7, .int v7)]) hg d_Bench_hashOfComparisons_108 (Nat.le_of_ble_eq_true rfl) rfl ?_
  refine r_iload_n hg 1 d_Bench_hashOfComparisons_110 rfl rfl ?_
  refine r_iconst (v := 4) hg d_Bench_hashOfComparisons_111 (by decide) ?_
  refine r_iload hg 4 d_Bench_hashOfComparisons_112 rfl ?_
  refine r_imul hg d_Bench_hashOfComparisons_114 ?_
  refine r_iload hg 3 d_Bench_hashOfComparisons_115 rfl ?_
  refine r_iadd hg d_Bench_hashOfComparisons_117 ?_
  refine r_callS (As := [.int v3, .int ((4 * v7) + v6)]) hg (t_Bench_has v3 ((4 * v7) + v6) μ) v_Bench_has wm_Bench_300 d_Bench_hashOfComparisons_118 rfl ⟨by decide, by decide⟩ (Nat.le_of_ble_eq_true rfl) rfl (fun r118 μ_118 _ => ?_)
  refine r_if_eq (tgt := 128) hg d_Bench_hashOfComparisons_121 (by decide) ?_ ?_
  · refine r_iconst (v := 0) hg d_Bench_hashOfComparisons_128 (by decide) ?_
    refine r_sub [1, 2, 3, 4, 0] rfl ?_
    exact t_Bench_hashOfComparisons_J129 hg hA rec_ hrec_ v3 v4 v6 v7 s0 0 μ_118
  · refine r_iconst (v := 2) hg d_Bench_hashOfComparisons_124 (by decide) ?_
    refine r_goto (tgt := 129) hg d_Bench_hashOfComparisons_125 (by decide) ?_
    refine r_sub [1, 2, 3, 4, 0] rfl ?_
    exact t_Bench_hashOfComparisons_J129 hg hA rec_ hrec_ v3 v4 v6 v7 s0 2 μ_118
theorem t_Bench_hashOfComparisons_L83_b {cx : HCx} (hg : HGood cx R_Bench b_Bench_hashOfComparisons 10 22 (some .long)) (hA : h_own cx) (K153 : Int32 → Int64 → Int32 → HMem → Option (Int64 × HMem)) (hK153 : p_Bench_hashOfComparisons_153 cx K153) (rec_ : Int32 → Int64 → Int32 → Int32 → HMem → Option (Int64 × HMem)) (hrec_ : p_Bench_hashOfComparisons_83 cx rec_) (v3 : Int32) (v4 : Int64) (v6 : Int32) (v7 : Int32) (μ : HMem) : HX cx (HQ cx h_eJ) (f_Bench_hashOfComparisons_L83_b K153 rec_ v3 v4 v6 v7 μ) 0 0 83 [(3, .int v3), (4, .long v4), (6, .int v6), (7, .int v7)] [] μ := by
  unfold f_Bench_hashOfComparisons_L83_b
  refine r_iload hg 3 d_Bench_hashOfComparisons_83 rfl ?_
  refine r_iconst (v := 4) hg d_Bench_hashOfComparisons_85 (by decide) ?_
  refine r_icmp_ge (tgt := 153) hg d_Bench_hashOfComparisons_86 (by decide) ?_ ?_
  · refine r_sub [0, 1, 2] rfl ?_
    exact hK153 v3 v4 v6 μ
  · refine r_iload_n hg 0 d_Bench_hashOfComparisons_89 rfl rfl ?_
    refine r_iconst (v := 4) hg d_Bench_hashOfComparisons_90 (by decide) ?_
    refine r_iload hg 2 d_Bench_hashOfComparisons_91 rfl ?_
    refine r_imul hg d_Bench_hashOfComparisons_93 ?_
    refine r_iload hg 3 d_Bench_hashOfComparisons_94 rfl ?_
    refine r_iadd hg d_Bench_hashOfComparisons_96 ?_
    refine r_callS (As := [.int v3, .int ((4 * v6) + v7)]) hg (t_Bench_has v3 ((4 * v6) + v7) μ) v_Bench_has wm_Bench_300 d_Bench_hashOfComparisons_97 rfl ⟨by decide, by decide⟩ (Nat.le_of_ble_eq_true rfl) rfl (fun r97 μ_97 _ => ?_)
    refine r_if_eq (tgt := 107) hg d_Bench_hashOfComparisons_100 (by decide) ?_ ?_
    · refine r_iconst (v := 0) hg d_Bench_hashOfComparisons_107 (by decide) ?_
      exact t_Bench_hashOfComparisons_J108 hg hA rec_ hrec_ v3 v4 v6 v7 0 μ_97
    · refine r_iconst (v := 1) hg d_Bench_hashOfComparisons_103 (by decide) ?_
      refine r_goto (tgt := 108) hg d_Bench_hashOfComparisons_104 (by decide) ?_
      exact t_Bench_hashOfComparisons_J108 hg hA rec_ hrec_ v3 v4 v6 v7 1 μ_97
theorem t_Bench_hashOfComparisons_L83 {cx : HCx} (hg : HGood cx R_Bench b_Bench_hashOfComparisons 10 22 (some .long)) (hA : h_own cx) (K153 : Int32 → Int64 → Int32 → HMem → Option (Int64 × HMem)) (hK153 : p_Bench_hashOfComparisons_153 cx K153) : ∀ (fuel : Nat) (v3 : Int32) (v4 : Int64) (v6 : Int32) (v7 : Int32) (μ : HMem), HX cx (HQ cx h_eJ) (f_Bench_hashOfComparisons_L83 K153 fuel v3 v4 v6 v7 μ) 0 0 83 [(3, .int v3), (4, .long v4), (6, .int v6), (7, .int v7)] [] μ
  | 0, _, _, _, _, _ => by unfold f_Bench_hashOfComparisons_L83; exact HX.none
  | fuel + 1, v3, v4, v6, v7, μ => by
    rw [f_Bench_hashOfComparisons_L83]
    exact t_Bench_hashOfComparisons_L83_b hg hA  K153 hK153 (f_Bench_hashOfComparisons_L83 K153 fuel) (t_Bench_hashOfComparisons_L83 hg hA  K153 hK153 fuel) v3 v4 v6 v7 μ
theorem t_Bench_hashOfComparisons_J153 {cx : HCx} (hg : HGood cx R_Bench b_Bench_hashOfComparisons 10 22 (some .long)) (hA : h_own cx)  (rec_ : Int32 → Int64 → Int32 → HMem → Option (Int64 × HMem)) (hrec_ : p_Bench_hashOfComparisons_74 cx rec_) (v3 : Int32) (v4 : Int64) (v6 : Int32) (μ : HMem) : HX cx (HQ cx h_eJ) (f_Bench_hashOfComparisons_J153  rec_ v3 v4 v6 μ) 0 0 153 [(3, .int v3), (4, .long v4), (6, .int v6)] [] μ := by
  unfold f_Bench_hashOfComparisons_J153
  refine r_letE (fun v6_153 he_153 => ?_)
  refine r_iinc (v := v6_153) (l' := [(6, .int v6_153), (3, .int v3), (4, .long v4)]) hg 2 d_Bench_hashOfComparisons_153 rfl he_153 (Nat.le_of_ble_eq_true rfl) rfl ?_
  refine r_goto (tgt := 74) hg d_Bench_hashOfComparisons_156 (by decide) ?_
  refine r_sub [1, 2, 0] rfl ?_
  exact hrec_ v3 v4 v6_153 μ
theorem t_Bench_hashOfComparisons_L74_b {cx : HCx} (hg : HGood cx R_Bench b_Bench_hashOfComparisons 10 22 (some .long)) (hA : h_own cx)  (rec_ : Int32 → Int64 → Int32 → HMem → Option (Int64 × HMem)) (hrec_ : p_Bench_hashOfComparisons_74 cx rec_) (v3 : Int32) (v4 : Int64) (v6 : Int32) (μ : HMem) : HX cx (HQ cx h_eJ) (f_Bench_hashOfComparisons_L74_b  rec_ v3 v4 v6 μ) 0 0 74 [(3, .int v3), (4, .long v4), (6, .int v6)] [] μ := by
  unfold f_Bench_hashOfComparisons_L74_b
  refine r_iload hg 2 d_Bench_hashOfComparisons_74 rfl ?_
  refine r_iconst (v := 4) hg d_Bench_hashOfComparisons_76 (by decide) ?_
  refine r_icmp_ge (tgt := 159) hg d_Bench_hashOfComparisons_77 (by decide) ?_ ?_
  · refine r_lload hg 1 d_Bench_hashOfComparisons_159 rfl ?_
    exact r_lret hg hA rfl d_Bench_hashOfComparisons_161 rfl
  · refine r_iconst (v := 0) hg d_Bench_hashOfComparisons_80 (by decide) ?_
    refine r_istore (l' := [(7, .int 0), (3, .int v3), (4, .long v4), (6, .int v6)]) hg d_Bench_hashOfComparisons_81 (Nat.le_of_ble_eq_true rfl) rfl ?_
    refine r_sub [1, 2, 3, 0] rfl ?_
    exact t_Bench_hashOfComparisons_L83 hg hA (f_Bench_hashOfComparisons_J153 rec_) (t_Bench_hashOfComparisons_J153 hg hA rec_ hrec_) h_fuel v3 v4 v6 0 μ
theorem t_Bench_hashOfComparisons_L74 {cx : HCx} (hg : HGood cx R_Bench b_Bench_hashOfComparisons 10 22 (some .long)) (hA : h_own cx)  : ∀ (fuel : Nat) (v3 : Int32) (v4 : Int64) (v6 : Int32) (μ : HMem), HX cx (HQ cx h_eJ) (f_Bench_hashOfComparisons_L74  fuel v3 v4 v6 μ) 0 0 74 [(3, .int v3), (4, .long v4), (6, .int v6)] [] μ
  | 0, _, _, _, _ => by unfold f_Bench_hashOfComparisons_L74; exact HX.none
  | fuel + 1, v3, v4, v6, μ => by
    rw [f_Bench_hashOfComparisons_L74]
    exact t_Bench_hashOfComparisons_L74_b hg hA   (f_Bench_hashOfComparisons_L74  fuel) (t_Bench_hashOfComparisons_L74 hg hA   fuel) v3 v4 v6 μ
theorem t_Bench_hashOfComparisons_J68 {cx : HCx} (hg : HGood cx R_Bench b_Bench_hashOfComparisons 10 22 (some .long)) (hA : h_own cx)   (v1 : Int64) (v3 : Int32) (μ : HMem) : HX cx (HQ cx h_eJ) (f_Bench_hashOfComparisons_J68   v1 v3 μ) 0 0 68 [(1, .long v1), (3, .int v3)] [] μ := by
  unfold f_Bench_hashOfComparisons_J68
  refine r_lload_n hg 0 d_Bench_hashOfComparisons_68 rfl rfl ?_
  refine r_lstore (l' := [(4, .long v1), (1, .long v1), (3, .int v3)]) hg d_Bench_hashOfComparisons_69 (Nat.le_of_ble_eq_true rfl) rfl ?_
  refine r_iconst (v := 0) hg d_Bench_hashOfComparisons_71 (by decide) ?_
  refine r_istore (l' := [(6, .int 0), (4, .long v1), (1, .long v1), (3, .int v3)]) hg d_Bench_hashOfComparisons_72 (Nat.le_of_ble_eq_true rfl) rfl ?_
  refine r_sub [3, 1, 0] rfl ?_
  exact t_Bench_hashOfComparisons_L74 hg hA h_fuel v3 v1 0 μ
theorem t_Bench_hashOfComparisons_0 {cx : HCx} (hg : HGood cx R_Bench b_Bench_hashOfComparisons 10 22 (some .long)) (hA : h_own cx) (v1 : Int64) (μ : HMem) : HX cx (HQ cx h_eJ) (f_Bench_hashOfComparisons v1 μ) 0 0 0 [(0, .ref 84), (1, .long v1)] [] μ := by
  unfold f_Bench_hashOfComparisons
  refine r_iconst (v := 0) hg d_Bench_hashOfComparisons_0 (by decide) ?_
  refine r_istore_n (l' := [(3, .int 0), (0, .ref 84), (1, .long v1)]) hg d_Bench_hashOfComparisons_1 rfl (Nat.le_of_ble_eq_true rfl) rfl ?_
  refine r_iconst (v := 0) hg d_Bench_hashOfComparisons_2 (by decide) ?_
  refine r_istore (l' := [(4, .int 0), (3, .int 0), (0, .ref 84), (1, .long v1)]) hg d_Bench_hashOfComparisons_3 (Nat.le_of_ble_eq_true rfl) rfl ?_
  refine r_sub [2, 3, 1, 0] rfl ?_
  exact t_Bench_hashOfComparisons_L5 hg hA f_Bench_hashOfComparisons_J68 (t_Bench_hashOfComparisons_J68 hg hA) h_fuel v1 0 0 μ
theorem t_Bench_hashOfComparisons (v1 : Int64) (μ : HMem) : HSpec y_Bench_hashOfComparisons b_Bench_hashOfComparisons 10 (some .long) 22 h_eJ [.ref 84, .long v1] μ (f_Bench_hashOfComparisons v1 μ) :=
  HSpec.of (by decide +kernel) (v_Bench_hashOfComparisons.1 _ (by simp)) (Nat.le_of_ble_eq_true rfl) (fun cx hA hg => t_Bench_hashOfComparisons_0 hg hA v1 μ)
theorem t_Bench_digest_L15_b {cx : HCx} (hg : HGood cx R_Bench b_Bench_digest 4 23 (some .long)) (hA : h_own cx) (K103 : Int64 → HMem → Option (Int64 × HMem)) (hK103 : p_Bench_digest_103 cx K103) (rec_ : Int64 → Int32 → HMem → Option (Int64 × HMem)) (hrec_ : p_Bench_digest_15 cx rec_) (v1 : Int64) (v3 : Int32) (μ : HMem) : HX cx (HQ cx h_eJ) (f_Bench_digest_L15_b K103 rec_ v1 v3 μ) 0 0 15 [(0, .ref 84), (1, .long v1), (3, .int v3)] [] μ := by
  unfold f_Bench_digest_L15_b
  refine r_iload_n hg 2 d_Bench_digest_15 rfl rfl ?_
  refine r_iconst (v := 4) hg d_Bench_digest_16 (by decide) ?_
  refine r_icmp_ge (tgt := 103) hg d_Bench_digest_17 (by decide) ?_ ?_
  · refine r_sub [0, 1] rfl ?_
    exact hK103 v1 μ
  · refine r_lload_n hg 1 d_Bench_digest_20 rfl rfl ?_
    refine r_aload_n hg 0 d_Bench_digest_21 rfl rfl ?_
    refine r_get (v := .ref 85) hg c_Bench (by decide) rfl (Nat.le_of_ble_eq_true rfl) rfl wf_Bench_11 d_Bench_digest_22 rfl ?_
    refine r_iload_n hg 2 d_Bench_digest_25 rfl rfl ?_
    refine r_gald hg (by decide) rfl d_Bench_digest_26 (fun hb_26 => ?_)
    refine r_callS (As := [.long v1, .ref (h_el 85 (Int32.toNatClampNeg (v3)))]) hg (t_Bench_hashOfWeights v1 (h_el 85 (Int32.toNatClampNeg (v3))) (h_el_G85 hb_26) μ) v_Bench_hashOfWeights wm_Bench_290 d_Bench_digest_27 rfl ⟨by decide, by decide⟩ (Nat.le_of_ble_eq_true rfl) rfl (fun r27 μ_27 _ => ?_)
    refine r_lstore_n (l' := [(1, .long r27), (0, .ref 84), (3, .int v3)]) hg d_Bench_digest_30 rfl (Nat.le_of_ble_eq_true rfl) rfl ?_
    refine r_ldc2 hg wc_Bench_294 d_Bench_digest_31 ?_
    refine r_lload_n hg 0 d_Bench_digest_34 rfl rfl ?_
    refine r_lmul hg d_Bench_digest_35 ?_
    refine r_aload_n hg 1 d_Bench_digest_36 rfl rfl ?_
    refine r_get (v := .ref 92) hg c_Bench (by decide) rfl (Nat.le_of_ble_eq_true rfl) rfl wf_Bench_44 d_Bench_digest_37 rfl ?_
    refine r_aload_n hg 1 d_Bench_digest_40 rfl rfl ?_
    refine r_get (v := .ref 85) hg c_Bench (by decide) rfl (Nat.le_of_ble_eq_true rfl) rfl wf_Bench_11 d_Bench_digest_41 rfl ?_
    refine r_iload_n hg 2 d_Bench_digest_44 rfl rfl ?_
    refine r_gald hg (by decide) rfl d_Bench_digest_45 (fun hb_45 => ?_)
    refine r_callV (As := [.ref (h_el 85 (Int32.toNatClampNeg (v3)))]) hg (t_Elimination_smallestWidth (h_el 85 (Int32.toNatClampNeg (v3))) (h_el_G85 hb_45) μ_27) v_Elimination_smallestWidth c_Elimination rfl (by decide) rfl wm_Bench_197 d_Bench_digest_46 rfl ⟨by decide, by decide⟩ (Nat.le_of_ble_eq_true rfl) rfl (fun r46 μ_46 _ => ?_)
    refine r_i2l hg d_Bench_digest_49 ?_
    refine r_ladd hg d_Bench_digest_50 ?_
    refine r_letJ (fun v1_51 => ?_)
    refine r_lstore_n (l' := [(1, .long v1_51), (0, .ref 84), (3, .int v3)]) hg d_Bench_digest_51 rfl (Nat.le_of_ble_eq_true rfl) rfl ?_
    refine r_ldc2 hg wc_Bench_294 d_Bench_digest_52 ?_
    refine r_lload_n hg 0 d_Bench_digest_55 rfl rfl ?_
    refine r_lmul hg d_Bench_digest_56 ?_
    refine r_aload_n hg 1 d_Bench_digest_57 rfl rfl ?_
    refine r_get (v := .ref 117) hg c_Bench (by decide) rfl (Nat.le_of_ble_eq_true rfl) rfl wf_Bench_65 d_Bench_digest_58 rfl ?_
    refine r_aload_n hg 1 d_Bench_digest_61 rfl rfl ?_
    refine r_get (v := .ref 85) hg c_Bench (by decide) rfl (Nat.le_of_ble_eq_true rfl) rfl wf_Bench_11 d_Bench_digest_62 rfl ?_
    refine r_iload_n hg 2 d_Bench_digest_65 rfl rfl ?_
    refine r_gald hg (by decide) rfl d_Bench_digest_66 (fun hb_66 => ?_)
    refine r_callV (As := [.ref (h_el 85 (Int32.toNatClampNeg (v3)))]) hg (t_Bijections_countOnto (h_el 85 (Int32.toNatClampNeg (v3))) (h_el_G85 hb_66) μ_46) v_Bijections_countOnto c_Bijections rfl (by decide) rfl wm_Bench_229 d_Bench_digest_67 rfl ⟨by decide, by decide⟩ (Nat.le_of_ble_eq_true rfl) rfl (fun r67 μ_67 _ => ?_)
    refine r_i2l hg d_Bench_digest_70 ?_
    refine r_ladd hg d_Bench_digest_71 ?_
    refine r_letJ (fun v1_72 => ?_)
    refine r_lstore_n (l' := [(1, .long v1_72), (0, .ref 84), (3, .int v3)]) hg d_Bench_digest_72 rfl (Nat.le_of_ble_eq_true rfl) rfl ?_
    refine r_ldc2 hg wc_Bench_294 d_Bench_digest_73 ?_
    refine r_lload_n hg 0 d_Bench_digest_76 rfl rfl ?_
    refine r_lmul hg d_Bench_digest_77 ?_
    refine r_aload_n hg 1 d_Bench_digest_78 rfl rfl ?_
    refine r_get (v := .ref 103) hg c_Bench (by decide) rfl (Nat.le_of_ble_eq_true rfl) rfl wf_Bench_58 d_Bench_digest_79 rfl ?_
    refine r_aload_n hg 1 d_Bench_digest_82 rfl rfl ?_
    refine r_get (v := .ref 85) hg c_Bench (by decide) rfl (Nat.le_of_ble_eq_true rfl) rfl wf_Bench_11 d_Bench_digest_83 rfl ?_
    refine r_iload_n hg 2 d_Bench_digest_86 rfl rfl ?_
    refine r_gald hg (by decide) rfl d_Bench_digest_87 (fun hb_87 => ?_)
    refine r_callV (As := [.ref (h_el 85 (Int32.toNatClampNeg (v3)))]) hg (t_HomSearch_coreOf (h_el 85 (Int32.toNatClampNeg (v3))) (h_el_G85 hb_87) μ_67) v_HomSearch_coreOf c_HomSearch rfl (by decide) rfl wm_Bench_157 d_Bench_digest_88 rfl ⟨by decide, by decide⟩ (Nat.le_of_ble_eq_true rfl) rfl (fun r88 μ_88 _ => ?_)
    refine r_callS (As := [.int r88]) hg (t_Integer_bitCount r88 μ_88) v_Integer_bitCount wm_Bench_167 d_Bench_digest_91 rfl ⟨by decide, by decide⟩ (Nat.le_of_ble_eq_true rfl) rfl (fun r91 μ_91 _ => ?_)
    refine r_i2l hg d_Bench_digest_94 ?_
    refine r_ladd hg d_Bench_digest_95 ?_
    refine r_letJ (fun v1_96 => ?_)
    refine r_lstore_n (l' := [(1, .long v1_96), (0, .ref 84), (3, .int v3)]) hg d_Bench_digest_96 rfl (Nat.le_of_ble_eq_true rfl) rfl ?_
    refine r_letE (fun v3_97 he_97 => ?_)
    refine r_iinc (v := v3_97) (l' := [(3, .int v3_97), (1, .long v1_96), (0, .ref 84)]) hg 2 d_Bench_digest_97 rfl he_97 (Nat.le_of_ble_eq_true rfl) rfl ?_
    refine r_goto (tgt := 15) hg d_Bench_digest_100 (by decide) ?_
    refine r_sub [2, 1, 0] rfl ?_
    exact hrec_ v1_96 v3_97 μ_91
theorem t_Bench_digest_L15 {cx : HCx} (hg : HGood cx R_Bench b_Bench_digest 4 23 (some .long)) (hA : h_own cx) (K103 : Int64 → HMem → Option (Int64 × HMem)) (hK103 : p_Bench_digest_103 cx K103) : ∀ (fuel : Nat) (v1 : Int64) (v3 : Int32) (μ : HMem), HX cx (HQ cx h_eJ) (f_Bench_digest_L15 K103 fuel v1 v3 μ) 0 0 15 [(0, .ref 84), (1, .long v1), (3, .int v3)] [] μ
  | 0, _, _, _ => by unfold f_Bench_digest_L15; exact HX.none
  | fuel + 1, v1, v3, μ => by
    rw [f_Bench_digest_L15]
    exact t_Bench_digest_L15_b hg hA  K103 hK103 (f_Bench_digest_L15 K103 fuel) (t_Bench_digest_L15 hg hA  K103 hK103 fuel) v1 v3 μ
theorem t_Bench_digest_J103 {cx : HCx} (hg : HGood cx R_Bench b_Bench_digest 4 23 (some .long)) (hA : h_own cx)   (v1 : Int64) (μ : HMem) : HX cx (HQ cx h_eJ) (f_Bench_digest_J103   v1 μ) 0 0 103 [(0, .ref 84), (1, .long v1)] [] μ := by
  unfold f_Bench_digest_J103
  refine r_aload_n hg 0 d_Bench_digest_103 rfl rfl ?_
  refine r_lload_n hg 1 d_Bench_digest_104 rfl rfl ?_
  refine r_callV (As := [.long v1]) hg (t_Bench_hashOfComparisons v1 μ) v_Bench_hashOfComparisons c_Bench rfl (by decide) rfl wm_Bench_296 d_Bench_digest_105 rfl ⟨by decide, by decide⟩ (Nat.le_of_ble_eq_true rfl) rfl (fun r105 μ_105 _ => ?_)
  refine r_lstore_n (l' := [(1, .long r105), (0, .ref 84)]) hg d_Bench_digest_108 rfl (Nat.le_of_ble_eq_true rfl) rfl ?_
  refine r_ldc2 hg wc_Bench_294 d_Bench_digest_109 ?_
  refine r_lload_n hg 0 d_Bench_digest_112 rfl rfl ?_
  refine r_lmul hg d_Bench_digest_113 ?_
  refine r_aload_n hg 1 d_Bench_digest_114 rfl rfl ?_
  refine r_get (v := .ref 86) hg c_Bench (by decide) rfl (Nat.le_of_ble_eq_true rfl) rfl wf_Bench_23 d_Bench_digest_115 rfl ?_
  refine r_get (v := .int (μ_105.1 86 2)) hg c_History (by decide) rfl (Nat.le_of_ble_eq_true rfl) rfl wf_Bench_282 d_Bench_digest_118 rfl ?_
  refine r_i2l hg d_Bench_digest_121 ?_
  refine r_ladd hg d_Bench_digest_122 ?_
  exact r_lret hg hA rfl d_Bench_digest_123 rfl
theorem t_Bench_digest_0 {cx : HCx} (hg : HGood cx R_Bench b_Bench_digest 4 23 (some .long)) (hA : h_own cx)  (μ : HMem) : HX cx (HQ cx h_eJ) (f_Bench_digest μ) 0 0 0 [(0, .ref 84)] [] μ := by
  unfold f_Bench_digest
  refine r_ldc2 hg wc_Bench_288 d_Bench_digest_0 ?_
  refine r_aload_n hg 0 d_Bench_digest_3 rfl rfl ?_
  refine r_get (v := .ref 88) hg c_Bench (by decide) rfl (Nat.le_of_ble_eq_true rfl) rfl wf_Bench_30 d_Bench_digest_4 rfl ?_
  refine r_get (v := .int (μ.1 88 1)) hg c_Text (by decide) rfl (Nat.le_of_ble_eq_true rfl) rfl wf_Bench_260 d_Bench_digest_7 rfl ?_
  refine r_i2l hg d_Bench_digest_10 ?_
  refine r_ladd hg d_Bench_digest_11 ?_
  refine r_letJ (fun v1_12 => ?_)
  refine r_lstore_n (l' := [(1, .long v1_12), (0, .ref 84)]) hg d_Bench_digest_12 rfl (Nat.le_of_ble_eq_true rfl) rfl ?_
  refine r_iconst (v := 0) hg d_Bench_digest_13 (by decide) ?_
  refine r_istore_n (l' := [(3, .int 0), (1, .long v1_12), (0, .ref 84)]) hg d_Bench_digest_14 rfl (Nat.le_of_ble_eq_true rfl) rfl ?_
  refine r_sub [2, 1, 0] rfl ?_
  exact t_Bench_digest_L15 hg hA f_Bench_digest_J103 (t_Bench_digest_J103 hg hA) h_fuel v1_12 0 μ
theorem t_Bench_digest  (μ : HMem) : HSpec y_Bench_digest b_Bench_digest 4 (some .long) 23 h_eJ [.ref 84] μ (f_Bench_digest μ) :=
  HSpec.of (by decide +kernel) (v_Bench_digest.1 _ (by simp)) (Nat.le_of_ble_eq_true rfl) (fun cx hA hg => t_Bench_digest_0 hg hA  μ)
theorem t_Bench_colorRest_J74 {rd : Nat} {cx : HCx} (hg : HGood cx R_Bench b_Bench_colorRest 8 (1 + (rd + 1)) (some .long)) (hA : h_own cx) (fr_ : Nat → Nat → Int32 → Int32 → Int32 → HMem → Option (Int64 × HMem)) (ih : ∀ (a0 : Nat) (h_a0 : HIsG a0) (a1 : Nat) (h_a1 : HIsI a1) (v2 : Int32) (v3 : Int32) (v4 : Int32) (μ : HMem), HSpec y_Bench_colorRest b_Bench_colorRest 8 (some .long) (1 + rd) h_eJ [.ref a0, .ref a1, .int v2, .int v3, .int v4] μ (fr_ a0 a1 v2 v3 v4 μ))  (rec_ : Nat → Nat → Int32 → Int32 → Int32 → Int64 → Int32 → HMem → Option (Int64 × HMem)) (hrec_ : p_Bench_colorRest_16 cx rec_) (a0 : Nat) (h_a0 : HIsG a0) (a1 : Nat) (h_a1 : HIsI a1) (v2 : Int32) (v3 : Int32) (v4 : Int32) (v5 : Int64) (v7 : Int32) (μ : HMem) : HX cx (HQ cx h_eJ) (f_Bench_colorRest_J74 fr_  rec_ a0 a1 v2 v3 v4 v5 v7 μ) 0 0 74 [(0, .ref a0), (1, .ref a1), (2, .int v2), (3, .int v3), (4, .int v4), (5, .long v5), (7, .int v7)] [] μ := by
  unfold f_Bench_colorRest_J74
  refine r_letE (fun v7_74 he_74 => ?_)
  refine r_iinc (v := v7_74) (l' := [(7, .int v7_74), (0, .ref a0), (1, .ref a1), (2, .int v2), (3, .int v3), (4, .int v4), (5, .long v5)]) hg 6 d_Bench_colorRest_74 rfl he_74 (Nat.le_of_ble_eq_true rfl) rfl ?_
  refine r_goto (tgt := 16) hg d_Bench_colorRest_77 (by decide) ?_
  refine r_sub [1, 2, 3, 4, 5, 6, 0] rfl ?_
  exact hrec_ a0 h_a0 a1 h_a1 v2 v3 v4 v5 v7_74 μ
theorem t_Bench_colorRest_L16_b {rd : Nat} {cx : HCx} (hg : HGood cx R_Bench b_Bench_colorRest 8 (1 + (rd + 1)) (some .long)) (hA : h_own cx) (fr_ : Nat → Nat → Int32 → Int32 → Int32 → HMem → Option (Int64 × HMem)) (ih : ∀ (a0 : Nat) (h_a0 : HIsG a0) (a1 : Nat) (h_a1 : HIsI a1) (v2 : Int32) (v3 : Int32) (v4 : Int32) (μ : HMem), HSpec y_Bench_colorRest b_Bench_colorRest 8 (some .long) (1 + rd) h_eJ [.ref a0, .ref a1, .int v2, .int v3, .int v4] μ (fr_ a0 a1 v2 v3 v4 μ)) (K80 : Nat → Nat → Int32 → Int32 → Int32 → Int64 → HMem → Option (Int64 × HMem)) (hK80 : p_Bench_colorRest_80 cx K80) (rec_ : Nat → Nat → Int32 → Int32 → Int32 → Int64 → Int32 → HMem → Option (Int64 × HMem)) (hrec_ : p_Bench_colorRest_16 cx rec_) (a0 : Nat) (h_a0 : HIsG a0) (a1 : Nat) (h_a1 : HIsI a1) (v2 : Int32) (v3 : Int32) (v4 : Int32) (v5 : Int64) (v7 : Int32) (μ : HMem) : HX cx (HQ cx h_eJ) (f_Bench_colorRest_L16_b fr_ K80 rec_ a0 a1 v2 v3 v4 v5 v7 μ) 0 0 16 [(0, .ref a0), (1, .ref a1), (2, .int v2), (3, .int v3), (4, .int v4), (5, .long v5), (7, .int v7)] [] μ := by
  unfold f_Bench_colorRest_L16_b
  refine r_iload hg 6 d_Bench_colorRest_16 rfl ?_
  refine r_iload_n hg 3 d_Bench_colorRest_18 rfl rfl ?_
  refine r_icmp_ge (tgt := 80) hg d_Bench_colorRest_19 (by decide) ?_ ?_
  · refine r_sub [0, 1, 2, 3, 4, 5] rfl ?_
    exact hK80 a0 h_a0 a1 h_a1 v2 v3 v4 v5 μ
  · refine r_aload_n hg 1 d_Bench_colorRest_22 rfl rfl ?_
    refine r_iload hg 6 d_Bench_colorRest_23 rfl ?_
    refine r_iald hg (h_a1).1 (h_a1).2 d_Bench_colorRest_25 ?_
    refine r_aload_n hg 0 d_Bench_colorRest_26 rfl rfl ?_
    refine r_get (v := .ref (a0 + 3)) hg c_Graph (h_G_lt h_a0) (h_G_kd h_a0) (Nat.le_of_ble_eq_true rfl) (h_G_fl3 h_a0) wf_Bench_164 d_Bench_colorRest_27 rfl ?_
    refine r_iload_n hg 2 d_Bench_colorRest_30 rfl rfl ?_
    refine r_iald hg (h_G_lt3 h_a0) (h_G_kd3 h_a0) d_Bench_colorRest_31 ?_
    refine r_iand hg d_Bench_colorRest_32 ?_
    refine r_if_ne (tgt := 74) hg d_Bench_colorRest_33 (by decide) ?_ ?_
    · exact t_Bench_colorRest_J74 hg hA fr_ ih rec_ hrec_ a0 h_a0 a1 h_a1 v2 v3 v4 v5 v7 μ
    · refine r_aload_n hg 1 d_Bench_colorRest_36 rfl rfl ?_
      refine r_iload hg 6 d_Bench_colorRest_37 rfl ?_
      refine r_dup2 hg d_Bench_colorRest_39 rfl rfl ?_
      refine r_iald hg (h_a1).1 (h_a1).2 d_Bench_colorRest_40 ?_
      refine r_iconst (v := 1) hg d_Bench_colorRest_41 (by decide) ?_
      refine r_iload_n hg 2 d_Bench_colorRest_42 rfl rfl ?_
      refine r_ishl hg d_Bench_colorRest_43 ?_
      refine r_ior hg d_Bench_colorRest_44 ?_
      refine r_iast hg (h_a1).1 (h_a1).2 d_Bench_colorRest_45 ?_
      refine r_letM (fun μ_45 => ?_)
      refine r_lload hg 5 d_Bench_colorRest_46 rfl ?_
      refine r_aload_n hg 0 d_Bench_colorRest_48 rfl rfl ?_
      refine r_aload_n hg 1 d_Bench_colorRest_49 rfl rfl ?_
      refine r_iload_n hg 2 d_Bench_colorRest_50 rfl rfl ?_
      refine r_iconst (v := 1) hg d_Bench_colorRest_51 (by decide) ?_
      refine r_iadd hg d_Bench_colorRest_52 ?_
      refine r_iload_n hg 3 d_Bench_colorRest_53 rfl rfl ?_
      refine r_iload hg 4 d_Bench_colorRest_54 rfl ?_
      refine r_callS (As := [.ref a0, .ref a1, .int (v2 + 1), .int v3, .int v4]) hg (ih a0 h_a0 a1 h_a1 (v2 + 1) v3 v4 μ_45) v_Bench_colorRest wm_Bench_322 d_Bench_colorRest_56 rfl ⟨by omega, by decide⟩ (Nat.le_of_ble_eq_true rfl) rfl (fun r56 μ_56 _ => ?_)
      refine r_ladd hg d_Bench_colorRest_59 ?_
      refine r_letJ (fun v5_60 => ?_)
      refine r_lstore (l' := [(5, .long v5_60), (0, .ref a0), (1, .ref a1), (2, .int v2), (3, .int v3), (4, .int v4), (7, .int v7)]) hg d_Bench_colorRest_60 (Nat.le_of_ble_eq_true rfl) rfl ?_
      refine r_aload_n hg 2 d_Bench_colorRest_62 rfl rfl ?_
      refine r_iload hg 6 d_Bench_colorRest_63 rfl ?_
      refine r_dup2 hg d_Bench_colorRest_65 rfl rfl ?_
      refine r_iald hg (h_a1).1 (h_a1).2 d_Bench_colorRest_66 ?_
      refine r_iconst (v := 1) hg d_Bench_colorRest_67 (by decide) ?_
      refine r_iload_n hg 3 d_Bench_colorRest_68 rfl rfl ?_
      refine r_ishl hg d_Bench_colorRest_69 ?_
      refine r_iconst (v := -1) hg d_Bench_colorRest_70 (by decide) ?_
      refine r_ixor hg d_Bench_colorRest_71 ?_
      refine r_iand hg d_Bench_colorRest_72 ?_
      refine r_iast hg (h_a1).1 (h_a1).2 d_Bench_colorRest_73 ?_
      refine r_letM (fun μ_73 => ?_)
      refine r_sub [1, 2, 3, 4, 5, 0, 6] rfl ?_
      exact t_Bench_colorRest_J74 hg hA fr_ ih rec_ hrec_ a0 h_a0 a1 h_a1 v2 v3 v4 v5_60 v7 μ_73
theorem t_Bench_colorRest_L16 {rd : Nat} {cx : HCx} (hg : HGood cx R_Bench b_Bench_colorRest 8 (1 + (rd + 1)) (some .long)) (hA : h_own cx) (fr_ : Nat → Nat → Int32 → Int32 → Int32 → HMem → Option (Int64 × HMem)) (ih : ∀ (a0 : Nat) (h_a0 : HIsG a0) (a1 : Nat) (h_a1 : HIsI a1) (v2 : Int32) (v3 : Int32) (v4 : Int32) (μ : HMem), HSpec y_Bench_colorRest b_Bench_colorRest 8 (some .long) (1 + rd) h_eJ [.ref a0, .ref a1, .int v2, .int v3, .int v4] μ (fr_ a0 a1 v2 v3 v4 μ)) (K80 : Nat → Nat → Int32 → Int32 → Int32 → Int64 → HMem → Option (Int64 × HMem)) (hK80 : p_Bench_colorRest_80 cx K80) : ∀ (fuel : Nat) (a0 : Nat) (h_a0 : HIsG a0) (a1 : Nat) (h_a1 : HIsI a1) (v2 : Int32) (v3 : Int32) (v4 : Int32) (v5 : Int64) (v7 : Int32) (μ : HMem), HX cx (HQ cx h_eJ) (f_Bench_colorRest_L16 fr_ K80 fuel a0 a1 v2 v3 v4 v5 v7 μ) 0 0 16 [(0, .ref a0), (1, .ref a1), (2, .int v2), (3, .int v3), (4, .int v4), (5, .long v5), (7, .int v7)] [] μ
  | 0, _, _, _, _, _, _, _, _, _, _ => by unfold f_Bench_colorRest_L16; exact HX.none
  | fuel + 1, a0, h_a0, a1, h_a1, v2, v3, v4, v5, v7, μ => by
    rw [f_Bench_colorRest_L16]
    exact t_Bench_colorRest_L16_b hg hA fr_ ih  K80 hK80 (f_Bench_colorRest_L16 fr_ K80 fuel) (t_Bench_colorRest_L16 hg hA fr_ ih  K80 hK80 fuel) a0 h_a0 a1 h_a1 v2 v3 v4 v5 v7 μ
theorem t_Bench_colorRest_J122 {rd : Nat} {cx : HCx} (hg : HGood cx R_Bench b_Bench_colorRest 8 (1 + (rd + 1)) (some .long)) (hA : h_own cx) (fr_ : Nat → Nat → Int32 → Int32 → Int32 → HMem → Option (Int64 × HMem)) (ih : ∀ (a0 : Nat) (h_a0 : HIsG a0) (a1 : Nat) (h_a1 : HIsI a1) (v2 : Int32) (v3 : Int32) (v4 : Int32) (μ : HMem), HSpec y_Bench_colorRest b_Bench_colorRest 8 (some .long) (1 + rd) h_eJ [.ref a0, .ref a1, .int v2, .int v3, .int v4] μ (fr_ a0 a1 v2 v3 v4 μ))   (v5 : Int64) (μ : HMem) : HX cx (HQ cx h_eJ) (f_Bench_colorRest_J122 fr_   v5 μ) 0 0 122 [(5, .long v5)] [] μ := by
  unfold f_Bench_colorRest_J122
  refine r_lload hg 0 d_Bench_colorRest_122 rfl ?_
  exact r_lret hg hA rfl d_Bench_colorRest_124 rfl
theorem t_Bench_colorRest_J80 {rd : Nat} {cx : HCx} (hg : HGood cx R_Bench b_Bench_colorRest 8 (1 + (rd + 1)) (some .long)) (hA : h_own cx) (fr_ : Nat → Nat → Int32 → Int32 → Int32 → HMem → Option (Int64 × HMem)) (ih : ∀ (a0 : Nat) (h_a0 : HIsG a0) (a1 : Nat) (h_a1 : HIsI a1) (v2 : Int32) (v3 : Int32) (v4 : Int32) (μ : HMem), HSpec y_Bench_colorRest b_Bench_colorRest 8 (some .long) (1 + rd) h_eJ [.ref a0, .ref a1, .int v2, .int v3, .int v4] μ (fr_ a0 a1 v2 v3 v4 μ))   (a0 : Nat) (h_a0 : HIsG a0) (a1 : Nat) (h_a1 : HIsI a1) (v2 : Int32) (v3 : Int32) (v4 : Int32) (v5 : Int64) (μ : HMem) : HX cx (HQ cx h_eJ) (f_Bench_colorRest_J80 fr_   a0 a1 v2 v3 v4 v5 μ) 0 0 80 [(0, .ref a0), (1, .ref a1), (2, .int v2), (3, .int v3), (4, .int v4), (5, .long v5)] [] μ := by
  unfold f_Bench_colorRest_J80
  refine r_iload_n hg 3 d_Bench_colorRest_80 rfl rfl ?_
  refine r_iload hg 4 d_Bench_colorRest_81 rfl ?_
  refine r_icmp_ge (tgt := 122) hg d_Bench_colorRest_83 (by decide) ?_ ?_
  · refine r_sub [5] rfl ?_
    exact t_Bench_colorRest_J122 hg hA fr_ ih v5 μ
  · refine r_iload_n hg 3 d_Bench_colorRest_86 rfl rfl ?_
    refine r_aload_n hg 1 d_Bench_colorRest_87 rfl rfl ?_
    refine r_alen1 hg (h_a1).1 (h_a1).2 d_Bench_colorRest_88 ?_
    refine r_icmp_ge (tgt := 122) hg d_Bench_colorRest_89 (by decide) ?_ ?_
    · refine r_sub [5] rfl ?_
      exact t_Bench_colorRest_J122 hg hA fr_ ih v5 μ
    · refine r_aload_n hg 1 d_Bench_colorRest_92 rfl rfl ?_
      refine r_iload_n hg 3 d_Bench_colorRest_93 rfl rfl ?_
      refine r_iconst (v := 1) hg d_Bench_colorRest_94 (by decide) ?_
      refine r_iload_n hg 2 d_Bench_colorRest_95 rfl rfl ?_
      refine r_ishl hg d_Bench_colorRest_96 ?_
      refine r_iast hg (h_a1).1 (h_a1).2 d_Bench_colorRest_97 ?_
      refine r_letM (fun μ_97 => ?_)
      refine r_lload hg 5 d_Bench_colorRest_98 rfl ?_
      refine r_iload hg 4 d_Bench_colorRest_100 rfl ?_
      refine r_iload_n hg 3 d_Bench_colorRest_102 rfl rfl ?_
      refine r_isub hg d_Bench_colorRest_103 ?_
      refine r_i2l hg d_Bench_colorRest_104 ?_
      refine r_aload_n hg 0 d_Bench_colorRest_105 rfl rfl ?_
      refine r_aload_n hg 1 d_Bench_colorRest_106 rfl rfl ?_
      refine r_iload_n hg 2 d_Bench_colorRest_107 rfl rfl ?_
      refine r_iconst (v := 1) hg d_Bench_colorRest_108 (by decide) ?_
      refine r_iadd hg d_Bench_colorRest_109 ?_
      refine r_iload_n hg 3 d_Bench_colorRest_110 rfl rfl ?_
      refine r_iconst (v := 1) hg d_Bench_colorRest_111 (by decide) ?_
      refine r_iadd hg d_Bench_colorRest_112 ?_
      refine r_iload hg 4 d_Bench_colorRest_113 rfl ?_
      refine r_callS (As := [.ref a0, .ref a1, .int (v2 + 1), .int (v3 + 1), .int v4]) hg (ih a0 h_a0 a1 h_a1 (v2 + 1) (v3 + 1) v4 μ_97) v_Bench_colorRest wm_Bench_322 d_Bench_colorRest_115 rfl ⟨by omega, by decide⟩ (Nat.le_of_ble_eq_true rfl) rfl (fun r115 μ_115 _ => ?_)
      refine r_lmul hg d_Bench_colorRest_118 ?_
      refine r_ladd hg d_Bench_colorRest_119 ?_
      refine r_letJ (fun v5_120 => ?_)
      refine r_lstore (l' := [(5, .long v5_120), (0, .ref a0), (1, .ref a1), (2, .int v2), (3, .int v3), (4, .int v4)]) hg d_Bench_colorRest_120 (Nat.le_of_ble_eq_true rfl) rfl ?_
      refine r_sub [0] rfl ?_
      exact t_Bench_colorRest_J122 hg hA fr_ ih v5_120 μ_115
theorem t_Bench_colorRest_0 {rd : Nat} {cx : HCx} (hg : HGood cx R_Bench b_Bench_colorRest 8 (1 + (rd + 1)) (some .long)) (hA : h_own cx) (fr_ : Nat → Nat → Int32 → Int32 → Int32 → HMem → Option (Int64 × HMem)) (ih : ∀ (a0 : Nat) (h_a0 : HIsG a0) (a1 : Nat) (h_a1 : HIsI a1) (v2 : Int32) (v3 : Int32) (v4 : Int32) (μ : HMem), HSpec y_Bench_colorRest b_Bench_colorRest 8 (some .long) (1 + rd) h_eJ [.ref a0, .ref a1, .int v2, .int v3, .int v4] μ (fr_ a0 a1 v2 v3 v4 μ)) (a0 : Nat) (h_a0 : HIsG a0) (a1 : Nat) (h_a1 : HIsI a1) (v2 : Int32) (v3 : Int32) (v4 : Int32) (μ : HMem) : HX cx (HQ cx h_eJ) (f_Bench_colorRest_0 fr_ a0 a1 v2 v3 v4 μ) 0 0 0 [(0, .ref a0), (1, .ref a1), (2, .int v2), (3, .int v3), (4, .int v4)] [] μ := by
  unfold f_Bench_colorRest_0
  refine r_iload_n hg 2 d_Bench_colorRest_0 rfl rfl ?_
  refine r_aload_n hg 0 d_Bench_colorRest_1 rfl rfl ?_
  refine r_get (v := .int (μ.1 a0 0)) hg c_Graph (h_G_lt h_a0) (h_G_kd h_a0) (Nat.le_of_ble_eq_true rfl) (h_G_fl0 h_a0) wf_Bench_92 d_Bench_colorRest_2 rfl ?_
  refine r_icmp_lt (tgt := 10) hg d_Bench_colorRest_5 (by decide) ?_ ?_
  · refine r_lconst (v := 0) hg d_Bench_colorRest_10 (by decide) ?_
    refine r_lstore (l' := [(5, .long 0), (0, .ref a0), (1, .ref a1), (2, .int v2), (3, .int v3), (4, .int v4)]) hg d_Bench_colorRest_11 (Nat.le_of_ble_eq_true rfl) rfl ?_
    refine r_iconst (v := 0) hg d_Bench_colorRest_13 (by decide) ?_
    refine r_istore (l' := [(7, .int 0), (5, .long 0), (0, .ref a0), (1, .ref a1), (2, .int v2), (3, .int v3), (4, .int v4)]) hg d_Bench_colorRest_14 (Nat.le_of_ble_eq_true rfl) rfl ?_
    refine r_sub [2, 3, 4, 5, 6, 1, 0] rfl ?_
    exact t_Bench_colorRest_L16 hg hA fr_ ih (f_Bench_colorRest_J80 fr_) (t_Bench_colorRest_J80 hg hA fr_ ih) h_fuel a0 h_a0 a1 h_a1 v2 v3 v4 0 0 μ
  · refine r_lconst (v := 1) hg d_Bench_colorRest_8 (by decide) ?_
    exact r_lret hg hA rfl d_Bench_colorRest_9 rfl
theorem t_Bench_colorRest : ∀ (rd : Nat) (a0 : Nat) (h_a0 : HIsG a0) (a1 : Nat) (h_a1 : HIsI a1) (v2 : Int32) (v3 : Int32) (v4 : Int32) (μ : HMem), HSpec y_Bench_colorRest b_Bench_colorRest 8 (some .long) (1 + rd) h_eJ [.ref a0, .ref a1, .int v2, .int v3, .int v4] μ (f_Bench_colorRest rd a0 a1 v2 v3 v4 μ)
  | 0, _, _, _, _, _, _, _, _ => fun r μ' h => by rw [f_Bench_colorRest] at h; cases h
  | rd + 1, a0, h_a0, a1, h_a1, v2, v3, v4, μ => by
    rw [f_Bench_colorRest]
    exact HSpec.of (by decide +kernel) (v_Bench_colorRest.1 _ (by simp)) (Nat.le_of_ble_eq_true rfl) (fun cx hA hg => t_Bench_colorRest_0 hg hA (f_Bench_colorRest rd) (t_Bench_colorRest rd) a0 h_a0 a1 h_a1 v2 v3 v4 μ)
theorem t_Bench_properColorings_J22 {cx : HCx} (hg : HGood cx R_Bench b_Bench_properColorings 3 18 (some .long)) (hA : h_own cx)   (s0 : Int64) (μ : HMem) : HX cx (HQ cx h_eJ) (f_Bench_properColorings_J22   s0 μ) 0 0 22 [] [.long s0] μ := by
  unfold f_Bench_properColorings_J22
  exact r_lret hg hA rfl d_Bench_properColorings_22 rfl
theorem t_Bench_properColorings_0 {cx : HCx} (hg : HGood cx R_Bench b_Bench_properColorings 3 18 (some .long)) (hA : h_own cx) (a1 : Nat) (h_a1 : HIsG a1) (v2 : Int32) (μ : HMem) : HX cx (HQ cx h_eJ) (f_Bench_properColorings a1 v2 μ) 0 0 0 [(0, .ref 84), (1, .ref a1), (2, .int v2)] [] μ := by
  unfold f_Bench_properColorings
  refine r_aload_n hg 1 d_Bench_properColorings_0 rfl rfl ?_
  refine r_callV (As := []) hg (t_Graph_loopCount a1 h_a1 μ) v_Graph_loopCount c_Graph rfl (h_G_lt h_a1) (h_G_kd h_a1) wm_Bench_121 d_Bench_properColorings_1 rfl ⟨by decide, by decide⟩ (Nat.le_of_ble_eq_true rfl) rfl (fun r1 μ_1 _ => ?_)
  refine r_if_le (tgt := 11) hg d_Bench_properColorings_4 (by decide) ?_ ?_
  · refine r_aload_n hg 1 d_Bench_properColorings_11 rfl rfl ?_
    refine r_aload_n hg 0 d_Bench_properColorings_12 rfl rfl ?_
    refine r_get (v := .ref 121) hg c_Bench (by decide) rfl (Nat.le_of_ble_eq_true rfl) rfl wf_Bench_69 d_Bench_properColorings_13 rfl ?_
    refine r_iconst (v := 0) hg d_Bench_properColorings_16 (by decide) ?_
    refine r_iconst (v := 0) hg d_Bench_properColorings_17 (by decide) ?_
    refine r_iload_n hg 2 d_Bench_properColorings_18 rfl rfl ?_
    refine r_callS (As := [.ref a1, .ref 121, .int 0, .int 0, .int v2]) hg (t_Bench_colorRest h_deep a1 h_a1 121 ⟨(by decide), rfl⟩ 0 0 v2 μ_1) v_Bench_colorRest wm_Bench_322 d_Bench_properColorings_19 rfl ⟨by decide, by decide⟩ (Nat.le_of_ble_eq_true rfl) rfl (fun r19 μ_19 _ => ?_)
    refine r_sub [] rfl ?_
    exact t_Bench_properColorings_J22 hg hA r19 μ_19
  · refine r_lconst (v := 0) hg d_Bench_properColorings_7 (by decide) ?_
    refine r_goto (tgt := 22) hg d_Bench_properColorings_8 (by decide) ?_
    refine r_sub [] rfl ?_
    exact t_Bench_properColorings_J22 hg hA 0 μ_1
theorem t_Bench_properColorings (a1 : Nat) (h_a1 : HIsG a1) (v2 : Int32) (μ : HMem) : HSpec y_Bench_properColorings b_Bench_properColorings 3 (some .long) 18 h_eJ [.ref 84, .ref a1, .int v2] μ (f_Bench_properColorings a1 v2 μ) :=
  HSpec.of (by decide +kernel) (v_Bench_properColorings.1 _ (by simp)) (Nat.le_of_ble_eq_true rfl) (fun cx hA hg => t_Bench_properColorings_0 hg hA a1 h_a1 v2 μ)
