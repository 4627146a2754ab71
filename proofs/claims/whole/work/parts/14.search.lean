/-! pure programs and their proofs: search (written by gen.py) -/
def y_HomSearch_load : MethodName := ⟨R_HomSearch, "load", "(LHomBench$Graph;ILHomBench$Graph;I)V"⟩
abbrev b_HomSearch_load : ByteArray := prog_6_method_2_code
theorem v_HomSearch_load : HVirt y_HomSearch_load b_HomSearch_load 7 none 4 := ⟨List.forall_mem_cons.mpr ⟨h_inI 448 (by decide +kernel) rfl, List.forall_mem_cons.mpr ⟨h_inI 2 (by decide +kernel) rfl, List.forall_mem_cons.mpr ⟨h_inI 107 (by decide +kernel) rfl, List.forall_mem_cons.mpr ⟨h_inI 449 (by decide +kernel) rfl, fun _ h => absurd h List.not_mem_nil⟩⟩⟩⟩, by decide, by decide, by decide +kernel⟩
def y_HomSearch_narrowNeighbors : MethodName := ⟨R_HomSearch, "narrowNeighbors", "([II)Z"⟩
abbrev b_HomSearch_narrowNeighbors : ByteArray := prog_6_method_9_code
theorem v_HomSearch_narrowNeighbors : HVirt y_HomSearch_narrowNeighbors b_HomSearch_narrowNeighbors 6 (some .boolean) 2 := ⟨List.forall_mem_cons.mpr ⟨h_inI 467 (by decide +kernel) rfl, List.forall_mem_cons.mpr ⟨h_inI 4 (by decide +kernel) rfl, List.forall_mem_cons.mpr ⟨h_inI 107 (by decide +kernel) rfl, List.forall_mem_cons.mpr ⟨h_inI 468 (by decide +kernel) rfl, fun _ h => absurd h List.not_mem_nil⟩⟩⟩⟩, by decide, by decide, by decide +kernel⟩
def y_HomSearch_narrow : MethodName := ⟨R_HomSearch, "narrow", "([I)Z"⟩
abbrev b_HomSearch_narrow : ByteArray := prog_6_method_8_code
theorem v_HomSearch_narrow : HVirt y_HomSearch_narrow b_HomSearch_narrow 5 (some .boolean) 1 := ⟨List.forall_mem_cons.mpr ⟨h_inI 463 (by decide +kernel) rfl, List.forall_mem_cons.mpr ⟨h_inI 3 (by decide +kernel) rfl, List.forall_mem_cons.mpr ⟨h_inI 107 (by decide +kernel) rfl, List.forall_mem_cons.mpr ⟨h_inI 464 (by decide +kernel) rfl, fun _ h => absurd h List.not_mem_nil⟩⟩⟩⟩, by decide, by decide, by decide +kernel⟩
def y_HomSearch_openSource : MethodName := ⟨R_HomSearch, "openSource", "([I)I"⟩
abbrev b_HomSearch_openSource : ByteArray := prog_6_method_10_code
theorem v_HomSearch_openSource : HVirt y_HomSearch_openSource b_HomSearch_openSource 7 (some .int) 1 := ⟨List.forall_mem_cons.mpr ⟨h_inI 471 (by decide +kernel) rfl, List.forall_mem_cons.mpr ⟨h_inI 5 (by decide +kernel) rfl, List.forall_mem_cons.mpr ⟨h_inI 107 (by decide +kernel) rfl, List.forall_mem_cons.mpr ⟨h_inI 472 (by decide +kernel) rfl, fun _ h => absurd h List.not_mem_nil⟩⟩⟩⟩, by decide, by decide, by decide +kernel⟩
def y_HomSearch_interchangeable : MethodName := ⟨R_HomSearch, "interchangeable", "([III)Z"⟩
abbrev b_HomSearch_interchangeable : ByteArray := prog_6_method_12_code
theorem v_HomSearch_interchangeable : HVirt y_HomSearch_interchangeable b_HomSearch_interchangeable 6 (some .boolean) 3 := ⟨List.forall_mem_cons.mpr ⟨h_inI 480 (by decide +kernel) rfl, List.forall_mem_cons.mpr ⟨h_inI 7 (by decide +kernel) rfl, List.forall_mem_cons.mpr ⟨h_inI 107 (by decide +kernel) rfl, List.forall_mem_cons.mpr ⟨h_inI 481 (by decide +kernel) rfl, fun _ h => absurd h List.not_mem_nil⟩⟩⟩⟩, by decide, by decide, by decide +kernel⟩
def y_HomSearch_likeOneOf : MethodName := ⟨R_HomSearch, "likeOneOf", "([III)Z"⟩
abbrev b_HomSearch_likeOneOf : ByteArray := prog_6_method_11_code
theorem v_HomSearch_likeOneOf : HVirt y_HomSearch_likeOneOf b_HomSearch_likeOneOf 5 (some .boolean) 3 := ⟨List.forall_mem_cons.mpr ⟨h_inI 476 (by decide +kernel) rfl, List.forall_mem_cons.mpr ⟨h_inI 6 (by decide +kernel) rfl, List.forall_mem_cons.mpr ⟨h_inI 107 (by decide +kernel) rfl, List.forall_mem_cons.mpr ⟨h_inI 477 (by decide +kernel) rfl, fun _ h => absurd h List.not_mem_nil⟩⟩⟩⟩, by decide, by decide, by decide +kernel⟩
def y_HomSearch_extendable : MethodName := ⟨R_HomSearch, "extendable", "(LHomBench$HomSearch;[II)Z"⟩
abbrev b_HomSearch_extendable : ByteArray := prog_6_method_7_code
theorem v_HomSearch_extendable : HStat y_HomSearch_extendable b_HomSearch_extendable 8 (some .boolean) 3 := ⟨List.forall_mem_cons.mpr ⟨h_inI 456 (by decide +kernel) rfl, List.forall_mem_cons.mpr ⟨h_inI 107 (by decide +kernel) rfl, List.forall_mem_cons.mpr ⟨h_inI 457 (by decide +kernel) rfl, fun _ h => absurd h List.not_mem_nil⟩⟩⟩, by decide, by decide, by decide +kernel⟩
def y_HomSearch_coreOf : MethodName := ⟨R_HomSearch, "coreOf", "(LHomBench$Graph;)I"⟩
abbrev b_HomSearch_coreOf : ByteArray := prog_6_method_6_code
theorem v_HomSearch_coreOf : HVirt y_HomSearch_coreOf b_HomSearch_coreOf 4 (some .int) 1 := ⟨List.forall_mem_cons.mpr ⟨h_inI 442 (by decide +kernel) rfl, List.forall_mem_cons.mpr ⟨h_inI 443 (by decide +kernel) rfl, List.forall_mem_cons.mpr ⟨h_inI 107 (by decide +kernel) rfl, List.forall_mem_cons.mpr ⟨h_inI 444 (by decide +kernel) rfl, fun _ h => absurd h List.not_mem_nil⟩⟩⟩⟩, by decide, by decide, by decide +kernel⟩
def y_HomSearch_maps : MethodName := ⟨R_HomSearch, "maps", "(LHomBench$Graph;LHomBench$Graph;)Z"⟩
abbrev b_HomSearch_maps : ByteArray := prog_6_method_3_code
theorem v_HomSearch_maps : HVirt y_HomSearch_maps b_HomSearch_maps 3 (some .boolean) 2 := ⟨List.forall_mem_cons.mpr ⟨h_inI 488 (by decide +kernel) rfl, List.forall_mem_cons.mpr ⟨h_inI 489 (by decide +kernel) rfl, List.forall_mem_cons.mpr ⟨h_inI 107 (by decide +kernel) rfl, List.forall_mem_cons.mpr ⟨h_inI 490 (by decide +kernel) rfl, fun _ h => absurd h List.not_mem_nil⟩⟩⟩⟩, by decide, by decide, by decide +kernel⟩
def y_HomSearch_fixFirst : MethodName := ⟨R_HomSearch, "fixFirst", "(I)I"⟩
abbrev b_HomSearch_fixFirst : ByteArray := prog_6_method_5_code
theorem v_HomSearch_fixFirst : HVirt y_HomSearch_fixFirst b_HomSearch_fixFirst 4 (some .int) 1 := ⟨List.forall_mem_cons.mpr ⟨h_inI 941 (by decide +kernel) rfl, List.forall_mem_cons.mpr ⟨h_inI 21 (by decide +kernel) rfl, List.forall_mem_cons.mpr ⟨h_inI 107 (by decide +kernel) rfl, List.forall_mem_cons.mpr ⟨h_inI 942 (by decide +kernel) rfl, fun _ h => absurd h List.not_mem_nil⟩⟩⟩⟩, by decide, by decide, by decide +kernel⟩
def y_HomSearch_firstImage : MethodName := ⟨R_HomSearch, "firstImage", "(LHomBench$Graph;LHomBench$Graph;I)I"⟩
abbrev b_HomSearch_firstImage : ByteArray := prog_6_method_4_code
theorem v_HomSearch_firstImage : HVirt y_HomSearch_firstImage b_HomSearch_firstImage 6 (some .int) 3 := ⟨List.forall_mem_cons.mpr ⟨h_inI 936 (by decide +kernel) rfl, List.forall_mem_cons.mpr ⟨h_inI 937 (by decide +kernel) rfl, List.forall_mem_cons.mpr ⟨h_inI 107 (by decide +kernel) rfl, List.forall_mem_cons.mpr ⟨h_inI 938 (by decide +kernel) rfl, fun _ h => absurd h List.not_mem_nil⟩⟩⟩⟩, by decide, by decide, by decide +kernel⟩
theorem wf_HomSearch_15 : Cond.fieldLink R_HomSearch 15 (F_HomSearch 2).1 (F_HomSearch 2).2.1 (F_HomSearch 2).2.2.1 ∈ h_tb := h_inI 289 (by decide +kernel) rfl
theorem wf_HomSearch_18 : Cond.fieldLink R_HomSearch 18 (F_HomSearch 3).1 (F_HomSearch 3).2.1 (F_HomSearch 3).2.2.1 ∈ h_tb := h_inI 290 (by decide +kernel) rfl
theorem wf_HomSearch_26 : Cond.fieldLink R_HomSearch 26 (F_HomSearch 0).1 (F_HomSearch 0).2.1 (F_HomSearch 0).2.2.1 ∈ h_tb := h_inI 287 (by decide +kernel) rfl
theorem wf_HomSearch_36 : Cond.fieldLink R_HomSearch 36 (F_Graph 3).1 (F_Graph 3).2.1 (F_Graph 3).2.2.1 ∈ h_tb := h_inI 155 (by decide +kernel) rfl
theorem wf_HomSearch_9 : Cond.fieldLink R_HomSearch 9 (F_HomSearch 1).1 (F_HomSearch 1).2.1 (F_HomSearch 1).2.2.1 ∈ h_tb := h_inI 288 (by decide +kernel) rfl
theorem wm_HomSearch_30 : Cond.methodLink R_HomSearch 30 y_Graph_loops ∈ h_tb := h_inI 450 (by decide +kernel) rfl
theorem wm_HomSearch_79 : Cond.methodLink R_HomSearch 79 y_HomSearch_narrowNeighbors ∈ h_tb := h_inI 465 (by decide +kernel) rfl
theorem wm_HomSearch_83 : Cond.methodLink R_HomSearch 83 y_Integer_bitCount ∈ h_tb := h_inI 473 (by decide +kernel) rfl
theorem wm_HomSearch_88 : Cond.methodLink R_HomSearch 88 y_HomSearch_interchangeable ∈ h_tb := h_inI 478 (by decide +kernel) rfl
theorem wf_HomSearch_23 : Cond.fieldLink R_HomSearch 23 (F_HomSearch 4).1 (F_HomSearch 4).2.1 (F_HomSearch 4).2.2.1 ∈ h_tb := h_inI 291 (by decide +kernel) rfl
theorem wm_HomSearch_50 : Cond.methodLink R_HomSearch 50 y_HomSearch_extendable ∈ h_tb := h_inI 455 (by decide +kernel) rfl
theorem wm_HomSearch_61 : Cond.methodLink R_HomSearch 61 arraycopyName ∈ h_tb := h_inI 458 (by decide +kernel) rfl
theorem wm_HomSearch_67 : Cond.methodLink R_HomSearch 67 y_HomSearch_narrow ∈ h_tb := h_inI 461 (by decide +kernel) rfl
theorem wm_HomSearch_71 : Cond.methodLink R_HomSearch 71 y_HomSearch_openSource ∈ h_tb := h_inI 469 (by decide +kernel) rfl
theorem wm_HomSearch_75 : Cond.methodLink R_HomSearch 75 y_HomSearch_likeOneOf ∈ h_tb := h_inI 474 (by decide +kernel) rfl
theorem wf_HomSearch_58 : Cond.fieldLink R_HomSearch 58 (F_Graph 0).1 (F_Graph 0).2.1 (F_Graph 0).2.2.1 ∈ h_tb := h_inI 145 (by decide +kernel) rfl
theorem wm_HomSearch_43 : Cond.methodLink R_HomSearch 43 y_Graph_all ∈ h_tb := h_inI 445 (by decide +kernel) rfl
theorem wm_HomSearch_46 : Cond.methodLink R_HomSearch 46 y_HomSearch_load ∈ h_tb := h_inI 446 (by decide +kernel) rfl
theorem wm_HomSearch_54 : Cond.methodLink R_HomSearch 54 y_HomSearch_fixFirst ∈ h_tb := h_inI 939 (by decide +kernel) rfl
theorem d_HomSearch_load_0 : decode b_HomSearch_load 0 = .ok (.aload_n 0, 1) := by decide +kernel
theorem d_HomSearch_load_1 : decode b_HomSearch_load 1 = .ok (.iload_n 2, 1) := by decide +kernel
theorem d_HomSearch_load_2 : decode b_HomSearch_load 2 = .ok (.putfield 26, 3) := by decide +kernel
theorem d_HomSearch_load_5 : decode b_HomSearch_load 5 = .ok (.aload_n 3, 1) := by decide +kernel
theorem d_HomSearch_load_6 : decode b_HomSearch_load 6 = .ok (.invokevirtual 30, 3) := by decide +kernel
theorem d_HomSearch_load_9 : decode b_HomSearch_load 9 = .ok (.iload 4, 2) := by decide +kernel
theorem d_HomSearch_load_11 : decode b_HomSearch_load 11 = .ok (.iand, 1) := by decide +kernel
theorem d_HomSearch_load_12 : decode b_HomSearch_load 12 = .ok (.istore 5, 2) := by decide +kernel
theorem d_HomSearch_load_14 : decode b_HomSearch_load 14 = .ok (.iconst 0, 1) := by decide +kernel
theorem d_HomSearch_load_15 : decode b_HomSearch_load 15 = .ok (.istore 6, 2) := by decide +kernel
theorem d_HomSearch_load_17 : decode b_HomSearch_load 17 = .ok (.iload 6, 2) := by decide +kernel
theorem d_HomSearch_load_19 : decode b_HomSearch_load 19 = .ok (.bipush 8, 2) := by decide +kernel
theorem d_HomSearch_load_21 : decode b_HomSearch_load 21 = .ok (.if_icmp .ge 78, 3) := by decide +kernel
theorem d_HomSearch_load_24 : decode b_HomSearch_load 24 = .ok (.aload_n 0, 1) := by decide +kernel
theorem d_HomSearch_load_25 : decode b_HomSearch_load 25 = .ok (.getfield 9, 3) := by decide +kernel
theorem d_HomSearch_load_28 : decode b_HomSearch_load 28 = .ok (.iload 6, 2) := by decide +kernel
theorem d_HomSearch_load_30 : decode b_HomSearch_load 30 = .ok (.aload_n 1, 1) := by decide +kernel
theorem d_HomSearch_load_31 : decode b_HomSearch_load 31 = .ok (.getfield 36, 3) := by decide +kernel
theorem d_HomSearch_load_34 : decode b_HomSearch_load 34 = .ok (.iload 6, 2) := by decide +kernel
theorem d_HomSearch_load_36 : decode b_HomSearch_load 36 = .ok (.iaload, 1) := by decide +kernel
theorem d_HomSearch_load_37 : decode b_HomSearch_load 37 = .ok (.iload_n 2, 1) := by decide +kernel
theorem d_HomSearch_load_38 : decode b_HomSearch_load 38 = .ok (.iand, 1) := by decide +kernel
theorem d_HomSearch_load_39 : decode b_HomSearch_load 39 = .ok (.iconst 1, 1) := by decide +kernel
theorem d_HomSearch_load_40 : decode b_HomSearch_load 40 = .ok (.iload 6, 2) := by decide +kernel
theorem d_HomSearch_load_42 : decode b_HomSearch_load 42 = .ok (.ishl, 1) := by decide +kernel
theorem d_HomSearch_load_43 : decode b_HomSearch_load 43 = .ok (.iconst (-1), 1) := by decide +kernel
theorem d_HomSearch_load_44 : decode b_HomSearch_load 44 = .ok (.ixor, 1) := by decide +kernel
theorem d_HomSearch_load_45 : decode b_HomSearch_load 45 = .ok (.iand, 1) := by decide +kernel
theorem d_HomSearch_load_46 : decode b_HomSearch_load 46 = .ok (.iastore, 1) := by decide +kernel
theorem d_HomSearch_load_47 : decode b_HomSearch_load 47 = .ok (.aload_n 0, 1) := by decide +kernel
theorem d_HomSearch_load_48 : decode b_HomSearch_load 48 = .ok (.getfield 15, 3) := by decide +kernel
theorem d_HomSearch_load_51 : decode b_HomSearch_load 51 = .ok (.iload 6, 2) := by decide +kernel
theorem d_HomSearch_load_53 : decode b_HomSearch_load 53 = .ok (.aload_n 3, 1) := by decide +kernel
theorem d_HomSearch_load_54 : decode b_HomSearch_load 54 = .ok (.getfield 36, 3) := by decide +kernel
theorem d_HomSearch_load_57 : decode b_HomSearch_load 57 = .ok (.iload 6, 2) := by decide +kernel
theorem d_HomSearch_load_59 : decode b_HomSearch_load 59 = .ok (.iaload, 1) := by decide +kernel
theorem d_HomSearch_load_60 : decode b_HomSearch_load 60 = .ok (.iload 4, 2) := by decide +kernel
theorem d_HomSearch_load_62 : decode b_HomSearch_load 62 = .ok (.iand, 1) := by decide +kernel
theorem d_HomSearch_load_63 : decode b_HomSearch_load 63 = .ok (.iastore, 1) := by decide +kernel
theorem d_HomSearch_load_64 : decode b_HomSearch_load 64 = .ok (.aload_n 0, 1) := by decide +kernel
theorem d_HomSearch_load_65 : decode b_HomSearch_load 65 = .ok (.getfield 18, 3) := by decide +kernel
theorem d_HomSearch_load_68 : decode b_HomSearch_load 68 = .ok (.iload 6, 2) := by decide +kernel
theorem d_HomSearch_load_70 : decode b_HomSearch_load 70 = .ok (.aload_n 1, 1) := by decide +kernel
theorem d_HomSearch_load_71 : decode b_HomSearch_load 71 = .ok (.getfield 36, 3) := by decide +kernel
theorem d_HomSearch_load_74 : decode b_HomSearch_load 74 = .ok (.iload 6, 2) := by decide +kernel
theorem d_HomSearch_load_76 : decode b_HomSearch_load 76 = .ok (.iaload, 1) := by decide +kernel
theorem d_HomSearch_load_77 : decode b_HomSearch_load 77 = .ok (.iload 6, 2) := by decide +kernel
theorem d_HomSearch_load_79 : decode b_HomSearch_load 79 = .ok (.invokestatic 39, 3) := by decide +kernel
theorem d_HomSearch_load_82 : decode b_HomSearch_load 82 = .ok (.ifCond .eq 8, 3) := by decide +kernel
theorem d_HomSearch_load_85 : decode b_HomSearch_load 85 = .ok (.iload 5, 2) := by decide +kernel
theorem d_HomSearch_load_87 : decode b_HomSearch_load 87 = .ok (.goto 5, 3) := by decide +kernel
theorem d_HomSearch_load_90 : decode b_HomSearch_load 90 = .ok (.iload 4, 2) := by decide +kernel
theorem d_HomSearch_load_92 : decode b_HomSearch_load 92 = .ok (.iastore, 1) := by decide +kernel
theorem d_HomSearch_load_93 : decode b_HomSearch_load 93 = .ok (.iinc 6 1, 3) := by decide +kernel
theorem d_HomSearch_load_96 : decode b_HomSearch_load 96 = .ok (.goto (-79), 3) := by decide +kernel
theorem d_HomSearch_load_99 : decode b_HomSearch_load 99 = .ok (.return_, 1) := by decide +kernel
theorem d_HomSearch_narrowNeighbors_0 : decode b_HomSearch_narrowNeighbors 0 = .ok (.iconst 0, 1) := by decide +kernel
theorem d_HomSearch_narrowNeighbors_1 : decode b_HomSearch_narrowNeighbors 1 = .ok (.istore_n 3, 1) := by decide +kernel
theorem d_HomSearch_narrowNeighbors_2 : decode b_HomSearch_narrowNeighbors 2 = .ok (.iconst 0, 1) := by decide +kernel
theorem d_HomSearch_narrowNeighbors_3 : decode b_HomSearch_narrowNeighbors 3 = .ok (.istore 4, 2) := by decide +kernel
theorem d_HomSearch_narrowNeighbors_5 : decode b_HomSearch_narrowNeighbors 5 = .ok (.iload 4, 2) := by decide +kernel
theorem d_HomSearch_narrowNeighbors_7 : decode b_HomSearch_narrowNeighbors 7 = .ok (.bipush 8, 2) := by decide +kernel
theorem d_HomSearch_narrowNeighbors_9 : decode b_HomSearch_narrowNeighbors 9 = .ok (.if_icmp .ge 30, 3) := by decide +kernel
theorem d_HomSearch_narrowNeighbors_12 : decode b_HomSearch_narrowNeighbors 12 = .ok (.aload_n 1, 1) := by decide +kernel
theorem d_HomSearch_narrowNeighbors_13 : decode b_HomSearch_narrowNeighbors 13 = .ok (.iload_n 2, 1) := by decide +kernel
theorem d_HomSearch_narrowNeighbors_14 : decode b_HomSearch_narrowNeighbors 14 = .ok (.iaload, 1) := by decide +kernel
theorem d_HomSearch_narrowNeighbors_15 : decode b_HomSearch_narrowNeighbors 15 = .ok (.iload 4, 2) := by decide +kernel
theorem d_HomSearch_narrowNeighbors_17 : decode b_HomSearch_narrowNeighbors 17 = .ok (.invokestatic 39, 3) := by decide +kernel
theorem d_HomSearch_narrowNeighbors_20 : decode b_HomSearch_narrowNeighbors 20 = .ok (.ifCond .eq 13, 3) := by decide +kernel
theorem d_HomSearch_narrowNeighbors_23 : decode b_HomSearch_narrowNeighbors 23 = .ok (.iload_n 3, 1) := by decide +kernel
theorem d_HomSearch_narrowNeighbors_24 : decode b_HomSearch_narrowNeighbors 24 = .ok (.aload_n 0, 1) := by decide +kernel
theorem d_HomSearch_narrowNeighbors_25 : decode b_HomSearch_narrowNeighbors 25 = .ok (.getfield 15, 3) := by decide +kernel
theorem d_HomSearch_narrowNeighbors_28 : decode b_HomSearch_narrowNeighbors 28 = .ok (.iload 4, 2) := by decide +kernel
theorem d_HomSearch_narrowNeighbors_30 : decode b_HomSearch_narrowNeighbors 30 = .ok (.iaload, 1) := by decide +kernel
theorem d_HomSearch_narrowNeighbors_31 : decode b_HomSearch_narrowNeighbors 31 = .ok (.ior, 1) := by decide +kernel
theorem d_HomSearch_narrowNeighbors_32 : decode b_HomSearch_narrowNeighbors 32 = .ok (.istore_n 3, 1) := by decide +kernel
theorem d_HomSearch_narrowNeighbors_33 : decode b_HomSearch_narrowNeighbors 33 = .ok (.iinc 4 1, 3) := by decide +kernel
theorem d_HomSearch_narrowNeighbors_36 : decode b_HomSearch_narrowNeighbors 36 = .ok (.goto (-31), 3) := by decide +kernel
theorem d_HomSearch_narrowNeighbors_39 : decode b_HomSearch_narrowNeighbors 39 = .ok (.iconst 0, 1) := by decide +kernel
theorem d_HomSearch_narrowNeighbors_40 : decode b_HomSearch_narrowNeighbors 40 = .ok (.istore 4, 2) := by decide +kernel
theorem d_HomSearch_narrowNeighbors_42 : decode b_HomSearch_narrowNeighbors 42 = .ok (.iconst 0, 1) := by decide +kernel
theorem d_HomSearch_narrowNeighbors_43 : decode b_HomSearch_narrowNeighbors 43 = .ok (.istore 5, 2) := by decide +kernel
theorem d_HomSearch_narrowNeighbors_45 : decode b_HomSearch_narrowNeighbors 45 = .ok (.iload 5, 2) := by decide +kernel
theorem d_HomSearch_narrowNeighbors_47 : decode b_HomSearch_narrowNeighbors 47 = .ok (.bipush 8, 2) := by decide +kernel
theorem d_HomSearch_narrowNeighbors_49 : decode b_HomSearch_narrowNeighbors 49 = .ok (.if_icmp .ge 45, 3) := by decide +kernel
theorem d_HomSearch_narrowNeighbors_52 : decode b_HomSearch_narrowNeighbors 52 = .ok (.aload_n 0, 1) := by decide +kernel
theorem d_HomSearch_narrowNeighbors_53 : decode b_HomSearch_narrowNeighbors 53 = .ok (.getfield 9, 3) := by decide +kernel
theorem d_HomSearch_narrowNeighbors_56 : decode b_HomSearch_narrowNeighbors 56 = .ok (.iload_n 2, 1) := by decide +kernel
theorem d_HomSearch_narrowNeighbors_57 : decode b_HomSearch_narrowNeighbors 57 = .ok (.iaload, 1) := by decide +kernel
theorem d_HomSearch_narrowNeighbors_58 : decode b_HomSearch_narrowNeighbors 58 = .ok (.iload 5, 2) := by decide +kernel
theorem d_HomSearch_narrowNeighbors_60 : decode b_HomSearch_narrowNeighbors 60 = .ok (.invokestatic 39, 3) := by decide +kernel
theorem d_HomSearch_narrowNeighbors_63 : decode b_HomSearch_narrowNeighbors 63 = .ok (.ifCond .eq 25, 3) := by decide +kernel
theorem d_HomSearch_narrowNeighbors_66 : decode b_HomSearch_narrowNeighbors 66 = .ok (.aload_n 1, 1) := by decide +kernel
theorem d_HomSearch_narrowNeighbors_67 : decode b_HomSearch_narrowNeighbors 67 = .ok (.iload 5, 2) := by decide +kernel
theorem d_HomSearch_narrowNeighbors_69 : decode b_HomSearch_narrowNeighbors 69 = .ok (.iaload, 1) := by decide +kernel
theorem d_HomSearch_narrowNeighbors_70 : decode b_HomSearch_narrowNeighbors 70 = .ok (.iload_n 3, 1) := by decide +kernel
theorem d_HomSearch_narrowNeighbors_71 : decode b_HomSearch_narrowNeighbors 71 = .ok (.iconst (-1), 1) := by decide +kernel
theorem d_HomSearch_narrowNeighbors_72 : decode b_HomSearch_narrowNeighbors 72 = .ok (.ixor, 1) := by decide +kernel
theorem d_HomSearch_narrowNeighbors_73 : decode b_HomSearch_narrowNeighbors 73 = .ok (.iand, 1) := by decide +kernel
theorem d_HomSearch_narrowNeighbors_74 : decode b_HomSearch_narrowNeighbors 74 = .ok (.ifCond .eq 14, 3) := by decide +kernel
theorem d_HomSearch_narrowNeighbors_77 : decode b_HomSearch_narrowNeighbors 77 = .ok (.aload_n 1, 1) := by decide +kernel
theorem d_HomSearch_narrowNeighbors_78 : decode b_HomSearch_narrowNeighbors 78 = .ok (.iload 5, 2) := by decide +kernel
theorem d_HomSearch_narrowNeighbors_80 : decode b_HomSearch_narrowNeighbors 80 = .ok (.dup2, 1) := by decide +kernel
theorem d_HomSearch_narrowNeighbors_81 : decode b_HomSearch_narrowNeighbors 81 = .ok (.iaload, 1) := by decide +kernel
theorem d_HomSearch_narrowNeighbors_82 : decode b_HomSearch_narrowNeighbors 82 = .ok (.iload_n 3, 1) := by decide +kernel
theorem d_HomSearch_narrowNeighbors_83 : decode b_HomSearch_narrowNeighbors 83 = .ok (.iand, 1) := by decide +kernel
theorem d_HomSearch_narrowNeighbors_84 : decode b_HomSearch_narrowNeighbors 84 = .ok (.iastore, 1) := by decide +kernel
theorem d_HomSearch_narrowNeighbors_85 : decode b_HomSearch_narrowNeighbors 85 = .ok (.iconst 1, 1) := by decide +kernel
theorem d_HomSearch_narrowNeighbors_86 : decode b_HomSearch_narrowNeighbors 86 = .ok (.istore 4, 2) := by decide +kernel
theorem d_HomSearch_narrowNeighbors_88 : decode b_HomSearch_narrowNeighbors 88 = .ok (.iinc 5 1, 3) := by decide +kernel
theorem d_HomSearch_narrowNeighbors_91 : decode b_HomSearch_narrowNeighbors 91 = .ok (.goto (-46), 3) := by decide +kernel
theorem d_HomSearch_narrowNeighbors_94 : decode b_HomSearch_narrowNeighbors 94 = .ok (.iload 4, 2) := by decide +kernel
theorem d_HomSearch_narrowNeighbors_96 : decode b_HomSearch_narrowNeighbors 96 = .ok (.ireturn, 1) := by decide +kernel
theorem d_HomSearch_narrow_0 : decode b_HomSearch_narrow 0 = .ok (.iconst 1, 1) := by decide +kernel
theorem d_HomSearch_narrow_1 : decode b_HomSearch_narrow 1 = .ok (.istore_n 2, 1) := by decide +kernel
theorem d_HomSearch_narrow_2 : decode b_HomSearch_narrow 2 = .ok (.iconst 0, 1) := by decide +kernel
theorem d_HomSearch_narrow_3 : decode b_HomSearch_narrow 3 = .ok (.istore_n 3, 1) := by decide +kernel
theorem d_HomSearch_narrow_4 : decode b_HomSearch_narrow 4 = .ok (.iload_n 2, 1) := by decide +kernel
theorem d_HomSearch_narrow_5 : decode b_HomSearch_narrow 5 = .ok (.ifCond .eq 64, 3) := by decide +kernel
theorem d_HomSearch_narrow_8 : decode b_HomSearch_narrow 8 = .ok (.iload_n 3, 1) := by decide +kernel
theorem d_HomSearch_narrow_9 : decode b_HomSearch_narrow 9 = .ok (.bipush 64, 2) := by decide +kernel
theorem d_HomSearch_narrow_11 : decode b_HomSearch_narrow 11 = .ok (.if_icmp .gt 58, 3) := by decide +kernel
theorem d_HomSearch_narrow_14 : decode b_HomSearch_narrow 14 = .ok (.iconst 0, 1) := by decide +kernel
theorem d_HomSearch_narrow_15 : decode b_HomSearch_narrow 15 = .ok (.istore_n 2, 1) := by decide +kernel
theorem d_HomSearch_narrow_16 : decode b_HomSearch_narrow 16 = .ok (.iconst 0, 1) := by decide +kernel
theorem d_HomSearch_narrow_17 : decode b_HomSearch_narrow 17 = .ok (.istore 4, 2) := by decide +kernel
theorem d_HomSearch_narrow_19 : decode b_HomSearch_narrow 19 = .ok (.iload 4, 2) := by decide +kernel
theorem d_HomSearch_narrow_21 : decode b_HomSearch_narrow 21 = .ok (.bipush 8, 2) := by decide +kernel
theorem d_HomSearch_narrow_23 : decode b_HomSearch_narrow 23 = .ok (.if_icmp .ge 40, 3) := by decide +kernel
theorem d_HomSearch_narrow_26 : decode b_HomSearch_narrow 26 = .ok (.aload_n 0, 1) := by decide +kernel
theorem d_HomSearch_narrow_27 : decode b_HomSearch_narrow 27 = .ok (.getfield 26, 3) := by decide +kernel
theorem d_HomSearch_narrow_30 : decode b_HomSearch_narrow 30 = .ok (.iload 4, 2) := by decide +kernel
theorem d_HomSearch_narrow_32 : decode b_HomSearch_narrow 32 = .ok (.invokestatic 39, 3) := by decide +kernel
theorem d_HomSearch_narrow_35 : decode b_HomSearch_narrow 35 = .ok (.ifCond .eq 22, 3) := by decide +kernel
theorem d_HomSearch_narrow_38 : decode b_HomSearch_narrow 38 = .ok (.aload_n 1, 1) := by decide +kernel
theorem d_HomSearch_narrow_39 : decode b_HomSearch_narrow 39 = .ok (.iload 4, 2) := by decide +kernel
theorem d_HomSearch_narrow_41 : decode b_HomSearch_narrow 41 = .ok (.iaload, 1) := by decide +kernel
theorem d_HomSearch_narrow_42 : decode b_HomSearch_narrow 42 = .ok (.ifCond .ne 5, 3) := by decide +kernel
theorem d_HomSearch_narrow_45 : decode b_HomSearch_narrow 45 = .ok (.iconst 0, 1) := by decide +kernel
theorem d_HomSearch_narrow_46 : decode b_HomSearch_narrow 46 = .ok (.ireturn, 1) := by decide +kernel
theorem d_HomSearch_narrow_47 : decode b_HomSearch_narrow 47 = .ok (.iload_n 2, 1) := by decide +kernel
theorem d_HomSearch_narrow_48 : decode b_HomSearch_narrow 48 = .ok (.aload_n 0, 1) := by decide +kernel
theorem d_HomSearch_narrow_49 : decode b_HomSearch_narrow 49 = .ok (.aload_n 1, 1) := by decide +kernel
theorem d_HomSearch_narrow_50 : decode b_HomSearch_narrow 50 = .ok (.iload 4, 2) := by decide +kernel
theorem d_HomSearch_narrow_52 : decode b_HomSearch_narrow 52 = .ok (.invokevirtual 79, 3) := by decide +kernel
theorem d_HomSearch_narrow_55 : decode b_HomSearch_narrow 55 = .ok (.ior, 1) := by decide +kernel
theorem d_HomSearch_narrow_56 : decode b_HomSearch_narrow 56 = .ok (.istore_n 2, 1) := by decide +kernel
theorem d_HomSearch_narrow_57 : decode b_HomSearch_narrow 57 = .ok (.iinc 4 1, 3) := by decide +kernel
theorem d_HomSearch_narrow_60 : decode b_HomSearch_narrow 60 = .ok (.goto (-41), 3) := by decide +kernel
theorem d_HomSearch_narrow_63 : decode b_HomSearch_narrow 63 = .ok (.iinc 3 1, 3) := by decide +kernel
theorem d_HomSearch_narrow_66 : decode b_HomSearch_narrow 66 = .ok (.goto (-62), 3) := by decide +kernel
theorem d_HomSearch_narrow_69 : decode b_HomSearch_narrow 69 = .ok (.iconst 1, 1) := by decide +kernel
theorem d_HomSearch_narrow_70 : decode b_HomSearch_narrow 70 = .ok (.ireturn, 1) := by decide +kernel
theorem d_HomSearch_openSource_0 : decode b_HomSearch_openSource 0 = .ok (.iconst (-1), 1) := by decide +kernel
theorem d_HomSearch_openSource_1 : decode b_HomSearch_openSource 1 = .ok (.istore_n 2, 1) := by decide +kernel
theorem d_HomSearch_openSource_2 : decode b_HomSearch_openSource 2 = .ok (.bipush 81, 2) := by decide +kernel
theorem d_HomSearch_openSource_4 : decode b_HomSearch_openSource 4 = .ok (.istore_n 3, 1) := by decide +kernel
theorem d_HomSearch_openSource_5 : decode b_HomSearch_openSource 5 = .ok (.iconst 0, 1) := by decide +kernel
theorem d_HomSearch_openSource_6 : decode b_HomSearch_openSource 6 = .ok (.istore 4, 2) := by decide +kernel
theorem d_HomSearch_openSource_8 : decode b_HomSearch_openSource 8 = .ok (.iload 4, 2) := by decide +kernel
theorem d_HomSearch_openSource_10 : decode b_HomSearch_openSource 10 = .ok (.bipush 8, 2) := by decide +kernel
theorem d_HomSearch_openSource_12 : decode b_HomSearch_openSource 12 = .ok (.if_icmp .ge 66, 3) := by decide +kernel
theorem d_HomSearch_openSource_15 : decode b_HomSearch_openSource 15 = .ok (.aload_n 1, 1) := by decide +kernel
theorem d_HomSearch_openSource_16 : decode b_HomSearch_openSource 16 = .ok (.iload 4, 2) := by decide +kernel
theorem d_HomSearch_openSource_18 : decode b_HomSearch_openSource 18 = .ok (.iaload, 1) := by decide +kernel
theorem d_HomSearch_openSource_19 : decode b_HomSearch_openSource 19 = .ok (.invokestatic 83, 3) := by decide +kernel
theorem d_HomSearch_openSource_22 : decode b_HomSearch_openSource 22 = .ok (.istore 5, 2) := by decide +kernel
theorem d_HomSearch_openSource_24 : decode b_HomSearch_openSource 24 = .ok (.bipush 9, 2) := by decide +kernel
theorem d_HomSearch_openSource_26 : decode b_HomSearch_openSource 26 = .ok (.iload 5, 2) := by decide +kernel
theorem d_HomSearch_openSource_28 : decode b_HomSearch_openSource 28 = .ok (.imul, 1) := by decide +kernel
theorem d_HomSearch_openSource_29 : decode b_HomSearch_openSource 29 = .ok (.aload_n 0, 1) := by decide +kernel
theorem d_HomSearch_openSource_30 : decode b_HomSearch_openSource 30 = .ok (.getfield 9, 3) := by decide +kernel
theorem d_HomSearch_openSource_33 : decode b_HomSearch_openSource 33 = .ok (.iload 4, 2) := by decide +kernel
theorem d_HomSearch_openSource_35 : decode b_HomSearch_openSource 35 = .ok (.iaload, 1) := by decide +kernel
theorem d_HomSearch_openSource_36 : decode b_HomSearch_openSource 36 = .ok (.invokestatic 83, 3) := by decide +kernel
theorem d_HomSearch_openSource_39 : decode b_HomSearch_openSource 39 = .ok (.isub, 1) := by decide +kernel
theorem d_HomSearch_openSource_40 : decode b_HomSearch_openSource 40 = .ok (.istore 6, 2) := by decide +kernel
theorem d_HomSearch_openSource_42 : decode b_HomSearch_openSource 42 = .ok (.aload_n 0, 1) := by decide +kernel
theorem d_HomSearch_openSource_43 : decode b_HomSearch_openSource 43 = .ok (.getfield 26, 3) := by decide +kernel
theorem d_HomSearch_openSource_46 : decode b_HomSearch_openSource 46 = .ok (.iload 4, 2) := by decide +kernel
theorem d_HomSearch_openSource_48 : decode b_HomSearch_openSource 48 = .ok (.invokestatic 39, 3) := by decide +kernel
theorem d_HomSearch_openSource_51 : decode b_HomSearch_openSource 51 = .ok (.ifCond .eq 21, 3) := by decide +kernel
theorem d_HomSearch_openSource_54 : decode b_HomSearch_openSource 54 = .ok (.iload 5, 2) := by decide +kernel
theorem d_HomSearch_openSource_56 : decode b_HomSearch_openSource 56 = .ok (.iconst 1, 1) := by decide +kernel
theorem d_HomSearch_openSource_57 : decode b_HomSearch_openSource 57 = .ok (.if_icmp .le 15, 3) := by decide +kernel
theorem d_HomSearch_openSource_60 : decode b_HomSearch_openSource 60 = .ok (.iload 6, 2) := by decide +kernel
theorem d_HomSearch_openSource_62 : decode b_HomSearch_openSource 62 = .ok (.iload_n 3, 1) := by decide +kernel
theorem d_HomSearch_openSource_63 : decode b_HomSearch_openSource 63 = .ok (.if_icmp .ge 9, 3) := by decide +kernel
theorem d_HomSearch_openSource_66 : decode b_HomSearch_openSource 66 = .ok (.iload 4, 2) := by decide +kernel
theorem d_HomSearch_openSource_68 : decode b_HomSearch_openSource 68 = .ok (.istore_n 2, 1) := by decide +kernel
theorem d_HomSearch_openSource_69 : decode b_HomSearch_openSource 69 = .ok (.iload 6, 2) := by decide +kernel
theorem d_HomSearch_openSource_71 : decode b_HomSearch_openSource 71 = .ok (.istore_n 3, 1) := by decide +kernel
theorem d_HomSearch_openSource_72 : decode b_HomSearch_openSource 72 = .ok (.iinc 4 1, 3) := by decide +kernel
theorem d_HomSearch_openSource_75 : decode b_HomSearch_openSource 75 = .ok (.goto (-67), 3) := by decide +kernel
theorem d_HomSearch_openSource_78 : decode b_HomSearch_openSource 78 = .ok (.iload_n 2, 1) := by decide +kernel
theorem d_HomSearch_openSource_79 : decode b_HomSearch_openSource 79 = .ok (.ireturn, 1) := by decide +kernel
theorem d_HomSearch_interchangeable_0 : decode b_HomSearch_interchangeable 0 = .ok (.iconst 1, 1) := by decide +kernel
theorem d_HomSearch_interchangeable_1 : decode b_HomSearch_interchangeable 1 = .ok (.iload_n 2, 1) := by decide +kernel
theorem d_HomSearch_interchangeable_2 : decode b_HomSearch_interchangeable 2 = .ok (.ishl, 1) := by decide +kernel
theorem d_HomSearch_interchangeable_3 : decode b_HomSearch_interchangeable 3 = .ok (.iconst 1, 1) := by decide +kernel
theorem d_HomSearch_interchangeable_4 : decode b_HomSearch_interchangeable 4 = .ok (.iload_n 3, 1) := by decide +kernel
theorem d_HomSearch_interchangeable_5 : decode b_HomSearch_interchangeable 5 = .ok (.ishl, 1) := by decide +kernel
theorem d_HomSearch_interchangeable_6 : decode b_HomSearch_interchangeable 6 = .ok (.ior, 1) := by decide +kernel
theorem d_HomSearch_interchangeable_7 : decode b_HomSearch_interchangeable 7 = .ok (.istore 4, 2) := by decide +kernel
theorem d_HomSearch_interchangeable_9 : decode b_HomSearch_interchangeable 9 = .ok (.aload_n 0, 1) := by decide +kernel
theorem d_HomSearch_interchangeable_10 : decode b_HomSearch_interchangeable 10 = .ok (.getfield 15, 3) := by decide +kernel
theorem d_HomSearch_interchangeable_13 : decode b_HomSearch_interchangeable 13 = .ok (.iload_n 2, 1) := by decide +kernel
theorem d_HomSearch_interchangeable_14 : decode b_HomSearch_interchangeable 14 = .ok (.iaload, 1) := by decide +kernel
theorem d_HomSearch_interchangeable_15 : decode b_HomSearch_interchangeable 15 = .ok (.aload_n 0, 1) := by decide +kernel
theorem d_HomSearch_interchangeable_16 : decode b_HomSearch_interchangeable 16 = .ok (.getfield 15, 3) := by decide +kernel
theorem d_HomSearch_interchangeable_19 : decode b_HomSearch_interchangeable 19 = .ok (.iload_n 3, 1) := by decide +kernel
theorem d_HomSearch_interchangeable_20 : decode b_HomSearch_interchangeable 20 = .ok (.iaload, 1) := by decide +kernel
theorem d_HomSearch_interchangeable_21 : decode b_HomSearch_interchangeable 21 = .ok (.ixor, 1) := by decide +kernel
theorem d_HomSearch_interchangeable_22 : decode b_HomSearch_interchangeable 22 = .ok (.iload 4, 2) := by decide +kernel
theorem d_HomSearch_interchangeable_24 : decode b_HomSearch_interchangeable 24 = .ok (.iconst (-1), 1) := by decide +kernel
theorem d_HomSearch_interchangeable_25 : decode b_HomSearch_interchangeable 25 = .ok (.ixor, 1) := by decide +kernel
theorem d_HomSearch_interchangeable_26 : decode b_HomSearch_interchangeable 26 = .ok (.iand, 1) := by decide +kernel
theorem d_HomSearch_interchangeable_27 : decode b_HomSearch_interchangeable 27 = .ok (.ifCond .ne 26, 3) := by decide +kernel
theorem d_HomSearch_interchangeable_30 : decode b_HomSearch_interchangeable 30 = .ok (.aload_n 0, 1) := by decide +kernel
theorem d_HomSearch_interchangeable_31 : decode b_HomSearch_interchangeable 31 = .ok (.getfield 15, 3) := by decide +kernel
theorem d_HomSearch_interchangeable_34 : decode b_HomSearch_interchangeable 34 = .ok (.iload_n 2, 1) := by decide +kernel
theorem d_HomSearch_interchangeable_35 : decode b_HomSearch_interchangeable 35 = .ok (.iaload, 1) := by decide +kernel
theorem d_HomSearch_interchangeable_36 : decode b_HomSearch_interchangeable 36 = .ok (.iload_n 2, 1) := by decide +kernel
theorem d_HomSearch_interchangeable_37 : decode b_HomSearch_interchangeable 37 = .ok (.invokestatic 39, 3) := by decide +kernel
theorem d_HomSearch_interchangeable_40 : decode b_HomSearch_interchangeable 40 = .ok (.aload_n 0, 1) := by decide +kernel
theorem d_HomSearch_interchangeable_41 : decode b_HomSearch_interchangeable 41 = .ok (.getfield 15, 3) := by decide +kernel
theorem d_HomSearch_interchangeable_44 : decode b_HomSearch_interchangeable 44 = .ok (.iload_n 3, 1) := by decide +kernel
theorem d_HomSearch_interchangeable_45 : decode b_HomSearch_interchangeable 45 = .ok (.iaload, 1) := by decide +kernel
theorem d_HomSearch_interchangeable_46 : decode b_HomSearch_interchangeable 46 = .ok (.iload_n 3, 1) := by decide +kernel
theorem d_HomSearch_interchangeable_47 : decode b_HomSearch_interchangeable 47 = .ok (.invokestatic 39, 3) := by decide +kernel
theorem d_HomSearch_interchangeable_50 : decode b_HomSearch_interchangeable 50 = .ok (.if_icmp .eq 5, 3) := by decide +kernel
theorem d_HomSearch_interchangeable_53 : decode b_HomSearch_interchangeable 53 = .ok (.iconst 0, 1) := by decide +kernel
theorem d_HomSearch_interchangeable_54 : decode b_HomSearch_interchangeable 54 = .ok (.ireturn, 1) := by decide +kernel
theorem d_HomSearch_interchangeable_55 : decode b_HomSearch_interchangeable 55 = .ok (.iconst 0, 1) := by decide +kernel
theorem d_HomSearch_interchangeable_56 : decode b_HomSearch_interchangeable 56 = .ok (.istore 5, 2) := by decide +kernel
theorem d_HomSearch_interchangeable_58 : decode b_HomSearch_interchangeable 58 = .ok (.iload 5, 2) := by decide +kernel
theorem d_HomSearch_interchangeable_60 : decode b_HomSearch_interchangeable 60 = .ok (.bipush 8, 2) := by decide +kernel
theorem d_HomSearch_interchangeable_62 : decode b_HomSearch_interchangeable 62 = .ok (.if_icmp .ge 42, 3) := by decide +kernel
theorem d_HomSearch_interchangeable_65 : decode b_HomSearch_interchangeable 65 = .ok (.aload_n 0, 1) := by decide +kernel
theorem d_HomSearch_interchangeable_66 : decode b_HomSearch_interchangeable 66 = .ok (.getfield 26, 3) := by decide +kernel
theorem d_HomSearch_interchangeable_69 : decode b_HomSearch_interchangeable 69 = .ok (.iload 5, 2) := by decide +kernel
theorem d_HomSearch_interchangeable_71 : decode b_HomSearch_interchangeable 71 = .ok (.invokestatic 39, 3) := by decide +kernel
theorem d_HomSearch_interchangeable_74 : decode b_HomSearch_interchangeable 74 = .ok (.ifCond .eq 24, 3) := by decide +kernel
theorem d_HomSearch_interchangeable_77 : decode b_HomSearch_interchangeable 77 = .ok (.aload_n 1, 1) := by decide +kernel
theorem d_HomSearch_interchangeable_78 : decode b_HomSearch_interchangeable 78 = .ok (.iload 5, 2) := by decide +kernel
theorem d_HomSearch_interchangeable_80 : decode b_HomSearch_interchangeable 80 = .ok (.iaload, 1) := by decide +kernel
theorem d_HomSearch_interchangeable_81 : decode b_HomSearch_interchangeable 81 = .ok (.iload_n 2, 1) := by decide +kernel
theorem d_HomSearch_interchangeable_82 : decode b_HomSearch_interchangeable 82 = .ok (.invokestatic 39, 3) := by decide +kernel
theorem d_HomSearch_interchangeable_85 : decode b_HomSearch_interchangeable 85 = .ok (.aload_n 1, 1) := by decide +kernel
theorem d_HomSearch_interchangeable_86 : decode b_HomSearch_interchangeable 86 = .ok (.iload 5, 2) := by decide +kernel
theorem d_HomSearch_interchangeable_88 : decode b_HomSearch_interchangeable 88 = .ok (.iaload, 1) := by decide +kernel
theorem d_HomSearch_interchangeable_89 : decode b_HomSearch_interchangeable 89 = .ok (.iload_n 3, 1) := by decide +kernel
theorem d_HomSearch_interchangeable_90 : decode b_HomSearch_interchangeable 90 = .ok (.invokestatic 39, 3) := by decide +kernel
theorem d_HomSearch_interchangeable_93 : decode b_HomSearch_interchangeable 93 = .ok (.if_icmp .eq 5, 3) := by decide +kernel
theorem d_HomSearch_interchangeable_96 : decode b_HomSearch_interchangeable 96 = .ok (.iconst 0, 1) := by decide +kernel
theorem d_HomSearch_interchangeable_97 : decode b_HomSearch_interchangeable 97 = .ok (.ireturn, 1) := by decide +kernel
theorem d_HomSearch_interchangeable_98 : decode b_HomSearch_interchangeable 98 = .ok (.iinc 5 1, 3) := by decide +kernel
theorem d_HomSearch_interchangeable_101 : decode b_HomSearch_interchangeable 101 = .ok (.goto (-43), 3) := by decide +kernel
theorem d_HomSearch_interchangeable_104 : decode b_HomSearch_interchangeable 104 = .ok (.iconst 1, 1) := by decide +kernel
theorem d_HomSearch_interchangeable_105 : decode b_HomSearch_interchangeable 105 = .ok (.ireturn, 1) := by decide +kernel
theorem d_HomSearch_likeOneOf_0 : decode b_HomSearch_likeOneOf 0 = .ok (.iconst 0, 1) := by decide +kernel
theorem d_HomSearch_likeOneOf_1 : decode b_HomSearch_likeOneOf 1 = .ok (.istore 4, 2) := by decide +kernel
theorem d_HomSearch_likeOneOf_3 : decode b_HomSearch_likeOneOf 3 = .ok (.iload 4, 2) := by decide +kernel
theorem d_HomSearch_likeOneOf_5 : decode b_HomSearch_likeOneOf 5 = .ok (.iload_n 2, 1) := by decide +kernel
theorem d_HomSearch_likeOneOf_6 : decode b_HomSearch_likeOneOf 6 = .ok (.if_icmp .ge 31, 3) := by decide +kernel
theorem d_HomSearch_likeOneOf_9 : decode b_HomSearch_likeOneOf 9 = .ok (.iload_n 3, 1) := by decide +kernel
theorem d_HomSearch_likeOneOf_10 : decode b_HomSearch_likeOneOf 10 = .ok (.iload 4, 2) := by decide +kernel
theorem d_HomSearch_likeOneOf_12 : decode b_HomSearch_likeOneOf 12 = .ok (.invokestatic 39, 3) := by decide +kernel
theorem d_HomSearch_likeOneOf_15 : decode b_HomSearch_likeOneOf 15 = .ok (.ifCond .eq 16, 3) := by decide +kernel
theorem d_HomSearch_likeOneOf_18 : decode b_HomSearch_likeOneOf 18 = .ok (.aload_n 0, 1) := by decide +kernel
theorem d_HomSearch_likeOneOf_19 : decode b_HomSearch_likeOneOf 19 = .ok (.aload_n 1, 1) := by decide +kernel
theorem d_HomSearch_likeOneOf_20 : decode b_HomSearch_likeOneOf 20 = .ok (.iload_n 2, 1) := by decide +kernel
theorem d_HomSearch_likeOneOf_21 : decode b_HomSearch_likeOneOf 21 = .ok (.iload 4, 2) := by decide +kernel
theorem d_HomSearch_likeOneOf_23 : decode b_HomSearch_likeOneOf 23 = .ok (.invokevirtual 88, 3) := by decide +kernel
theorem d_HomSearch_likeOneOf_26 : decode b_HomSearch_likeOneOf 26 = .ok (.ifCond .eq 5, 3) := by decide +kernel
theorem d_HomSearch_likeOneOf_29 : decode b_HomSearch_likeOneOf 29 = .ok (.iconst 1, 1) := by decide +kernel
theorem d_HomSearch_likeOneOf_30 : decode b_HomSearch_likeOneOf 30 = .ok (.ireturn, 1) := by decide +kernel
theorem d_HomSearch_likeOneOf_31 : decode b_HomSearch_likeOneOf 31 = .ok (.iinc 4 1, 3) := by decide +kernel
theorem d_HomSearch_likeOneOf_34 : decode b_HomSearch_likeOneOf 34 = .ok (.goto (-31), 3) := by decide +kernel
theorem d_HomSearch_likeOneOf_37 : decode b_HomSearch_likeOneOf 37 = .ok (.iconst 0, 1) := by decide +kernel
theorem d_HomSearch_likeOneOf_38 : decode b_HomSearch_likeOneOf 38 = .ok (.ireturn, 1) := by decide +kernel
theorem d_HomSearch_extendable_0 : decode b_HomSearch_extendable 0 = .ok (.iload_n 2, 1) := by decide +kernel
theorem d_HomSearch_extendable_1 : decode b_HomSearch_extendable 1 = .ok (.aload_n 0, 1) := by decide +kernel
theorem d_HomSearch_extendable_2 : decode b_HomSearch_extendable 2 = .ok (.getfield 23, 3) := by decide +kernel
theorem d_HomSearch_extendable_5 : decode b_HomSearch_extendable 5 = .ok (.arraylength, 1) := by decide +kernel
theorem d_HomSearch_extendable_6 : decode b_HomSearch_extendable 6 = .ok (.if_icmp .lt 5, 3) := by decide +kernel
theorem d_HomSearch_extendable_9 : decode b_HomSearch_extendable 9 = .ok (.iconst 0, 1) := by decide +kernel
theorem d_HomSearch_extendable_10 : decode b_HomSearch_extendable 10 = .ok (.ireturn, 1) := by decide +kernel
theorem d_HomSearch_extendable_11 : decode b_HomSearch_extendable 11 = .ok (.aload_n 0, 1) := by decide +kernel
theorem d_HomSearch_extendable_12 : decode b_HomSearch_extendable 12 = .ok (.getfield 23, 3) := by decide +kernel
theorem d_HomSearch_extendable_15 : decode b_HomSearch_extendable 15 = .ok (.iload_n 2, 1) := by decide +kernel
theorem d_HomSearch_extendable_16 : decode b_HomSearch_extendable 16 = .ok (.aaload, 1) := by decide +kernel
theorem d_HomSearch_extendable_17 : decode b_HomSearch_extendable 17 = .ok (.astore_n 3, 1) := by decide +kernel
theorem d_HomSearch_extendable_18 : decode b_HomSearch_extendable 18 = .ok (.aload_n 1, 1) := by decide +kernel
theorem d_HomSearch_extendable_19 : decode b_HomSearch_extendable 19 = .ok (.iconst 0, 1) := by decide +kernel
theorem d_HomSearch_extendable_20 : decode b_HomSearch_extendable 20 = .ok (.aload_n 3, 1) := by decide +kernel
theorem d_HomSearch_extendable_21 : decode b_HomSearch_extendable 21 = .ok (.iconst 0, 1) := by decide +kernel
theorem d_HomSearch_extendable_22 : decode b_HomSearch_extendable 22 = .ok (.bipush 8, 2) := by decide +kernel
theorem d_HomSearch_extendable_24 : decode b_HomSearch_extendable 24 = .ok (.invokestatic 61, 3) := by decide +kernel
theorem d_HomSearch_extendable_27 : decode b_HomSearch_extendable 27 = .ok (.aload_n 0, 1) := by decide +kernel
theorem d_HomSearch_extendable_28 : decode b_HomSearch_extendable 28 = .ok (.aload_n 3, 1) := by decide +kernel
theorem d_HomSearch_extendable_29 : decode b_HomSearch_extendable 29 = .ok (.invokevirtual 67, 3) := by decide +kernel
theorem d_HomSearch_extendable_32 : decode b_HomSearch_extendable 32 = .ok (.ifCond .ne 5, 3) := by decide +kernel
theorem d_HomSearch_extendable_35 : decode b_HomSearch_extendable 35 = .ok (.iconst 0, 1) := by decide +kernel
theorem d_HomSearch_extendable_36 : decode b_HomSearch_extendable 36 = .ok (.ireturn, 1) := by decide +kernel
theorem d_HomSearch_extendable_37 : decode b_HomSearch_extendable 37 = .ok (.aload_n 0, 1) := by decide +kernel
theorem d_HomSearch_extendable_38 : decode b_HomSearch_extendable 38 = .ok (.aload_n 3, 1) := by decide +kernel
theorem d_HomSearch_extendable_39 : decode b_HomSearch_extendable 39 = .ok (.invokevirtual 71, 3) := by decide +kernel
theorem d_HomSearch_extendable_42 : decode b_HomSearch_extendable 42 = .ok (.istore 4, 2) := by decide +kernel
theorem d_HomSearch_extendable_44 : decode b_HomSearch_extendable 44 = .ok (.iload 4, 2) := by decide +kernel
theorem d_HomSearch_extendable_46 : decode b_HomSearch_extendable 46 = .ok (.iconst (-1), 1) := by decide +kernel
theorem d_HomSearch_extendable_47 : decode b_HomSearch_extendable 47 = .ok (.if_icmp .ne 5, 3) := by decide +kernel
theorem d_HomSearch_extendable_50 : decode b_HomSearch_extendable 50 = .ok (.iconst 1, 1) := by decide +kernel
theorem d_HomSearch_extendable_51 : decode b_HomSearch_extendable 51 = .ok (.ireturn, 1) := by decide +kernel
theorem d_HomSearch_extendable_52 : decode b_HomSearch_extendable 52 = .ok (.aload_n 3, 1) := by decide +kernel
theorem d_HomSearch_extendable_53 : decode b_HomSearch_extendable 53 = .ok (.iload 4, 2) := by decide +kernel
theorem d_HomSearch_extendable_55 : decode b_HomSearch_extendable 55 = .ok (.iaload, 1) := by decide +kernel
theorem d_HomSearch_extendable_56 : decode b_HomSearch_extendable 56 = .ok (.istore 5, 2) := by decide +kernel
theorem d_HomSearch_extendable_58 : decode b_HomSearch_extendable 58 = .ok (.iconst 0, 1) := by decide +kernel
theorem d_HomSearch_extendable_59 : decode b_HomSearch_extendable 59 = .ok (.istore 6, 2) := by decide +kernel
theorem d_HomSearch_extendable_61 : decode b_HomSearch_extendable 61 = .ok (.iconst 0, 1) := by decide +kernel
theorem d_HomSearch_extendable_62 : decode b_HomSearch_extendable 62 = .ok (.istore 7, 2) := by decide +kernel
theorem d_HomSearch_extendable_64 : decode b_HomSearch_extendable 64 = .ok (.iload 7, 2) := by decide +kernel
theorem d_HomSearch_extendable_66 : decode b_HomSearch_extendable 66 = .ok (.bipush 8, 2) := by decide +kernel
theorem d_HomSearch_extendable_68 : decode b_HomSearch_extendable 68 = .ok (.if_icmp .ge 67, 3) := by decide +kernel
theorem d_HomSearch_extendable_71 : decode b_HomSearch_extendable 71 = .ok (.iload 5, 2) := by decide +kernel
theorem d_HomSearch_extendable_73 : decode b_HomSearch_extendable 73 = .ok (.iload 7, 2) := by decide +kernel
theorem d_HomSearch_extendable_75 : decode b_HomSearch_extendable 75 = .ok (.invokestatic 39, 3) := by decide +kernel
theorem d_HomSearch_extendable_78 : decode b_HomSearch_extendable 78 = .ok (.ifCond .eq 51, 3) := by decide +kernel
theorem d_HomSearch_extendable_81 : decode b_HomSearch_extendable 81 = .ok (.aload_n 0, 1) := by decide +kernel
theorem d_HomSearch_extendable_82 : decode b_HomSearch_extendable 82 = .ok (.aload_n 3, 1) := by decide +kernel
theorem d_HomSearch_extendable_83 : decode b_HomSearch_extendable 83 = .ok (.iload 7, 2) := by decide +kernel
theorem d_HomSearch_extendable_85 : decode b_HomSearch_extendable 85 = .ok (.iload 6, 2) := by decide +kernel
theorem d_HomSearch_extendable_87 : decode b_HomSearch_extendable 87 = .ok (.invokevirtual 75, 3) := by decide +kernel
theorem d_HomSearch_extendable_90 : decode b_HomSearch_extendable 90 = .ok (.ifCond .ne 39, 3) := by decide +kernel
theorem d_HomSearch_extendable_93 : decode b_HomSearch_extendable 93 = .ok (.aload_n 3, 1) := by decide +kernel
theorem d_HomSearch_extendable_94 : decode b_HomSearch_extendable 94 = .ok (.iload 4, 2) := by decide +kernel
theorem d_HomSearch_extendable_96 : decode b_HomSearch_extendable 96 = .ok (.iconst 1, 1) := by decide +kernel
theorem d_HomSearch_extendable_97 : decode b_HomSearch_extendable 97 = .ok (.iload 7, 2) := by decide +kernel
theorem d_HomSearch_extendable_99 : decode b_HomSearch_extendable 99 = .ok (.ishl, 1) := by decide +kernel
theorem d_HomSearch_extendable_100 : decode b_HomSearch_extendable 100 = .ok (.iastore, 1) := by decide +kernel
theorem d_HomSearch_extendable_101 : decode b_HomSearch_extendable 101 = .ok (.aload_n 0, 1) := by decide +kernel
theorem d_HomSearch_extendable_102 : decode b_HomSearch_extendable 102 = .ok (.aload_n 3, 1) := by decide +kernel
theorem d_HomSearch_extendable_103 : decode b_HomSearch_extendable 103 = .ok (.iload_n 2, 1) := by decide +kernel
theorem d_HomSearch_extendable_104 : decode b_HomSearch_extendable 104 = .ok (.iconst 1, 1) := by decide +kernel
theorem d_HomSearch_extendable_105 : decode b_HomSearch_extendable 105 = .ok (.iadd, 1) := by decide +kernel
theorem d_HomSearch_extendable_106 : decode b_HomSearch_extendable 106 = .ok (.invokestatic 50, 3) := by decide +kernel
theorem d_HomSearch_extendable_109 : decode b_HomSearch_extendable 109 = .ok (.ifCond .eq 5, 3) := by decide +kernel
theorem d_HomSearch_extendable_112 : decode b_HomSearch_extendable 112 = .ok (.iconst 1, 1) := by decide +kernel
theorem d_HomSearch_extendable_113 : decode b_HomSearch_extendable 113 = .ok (.ireturn, 1) := by decide +kernel
theorem d_HomSearch_extendable_114 : decode b_HomSearch_extendable 114 = .ok (.aload_n 3, 1) := by decide +kernel
theorem d_HomSearch_extendable_115 : decode b_HomSearch_extendable 115 = .ok (.iload 4, 2) := by decide +kernel
theorem d_HomSearch_extendable_117 : decode b_HomSearch_extendable 117 = .ok (.iload 5, 2) := by decide +kernel
theorem d_HomSearch_extendable_119 : decode b_HomSearch_extendable 119 = .ok (.iastore, 1) := by decide +kernel
theorem d_HomSearch_extendable_120 : decode b_HomSearch_extendable 120 = .ok (.iload 6, 2) := by decide +kernel
theorem d_HomSearch_extendable_122 : decode b_HomSearch_extendable 122 = .ok (.iconst 1, 1) := by decide +kernel
theorem d_HomSearch_extendable_123 : decode b_HomSearch_extendable 123 = .ok (.iload 7, 2) := by decide +kernel
theorem d_HomSearch_extendable_125 : decode b_HomSearch_extendable 125 = .ok (.ishl, 1) := by decide +kernel
theorem d_HomSearch_extendable_126 : decode b_HomSearch_extendable 126 = .ok (.ior, 1) := by decide +kernel
theorem d_HomSearch_extendable_127 : decode b_HomSearch_extendable 127 = .ok (.istore 6, 2) := by decide +kernel
theorem d_HomSearch_extendable_129 : decode b_HomSearch_extendable 129 = .ok (.iinc 7 1, 3) := by decide +kernel
theorem d_HomSearch_extendable_132 : decode b_HomSearch_extendable 132 = .ok (.goto (-68), 3) := by decide +kernel
theorem d_HomSearch_extendable_135 : decode b_HomSearch_extendable 135 = .ok (.iconst 0, 1) := by decide +kernel
theorem d_HomSearch_extendable_136 : decode b_HomSearch_extendable 136 = .ok (.ireturn, 1) := by decide +kernel
theorem d_HomSearch_coreOf_0 : decode b_HomSearch_coreOf 0 = .ok (.aload_n 1, 1) := by decide +kernel
theorem d_HomSearch_coreOf_1 : decode b_HomSearch_coreOf 1 = .ok (.invokevirtual 43, 3) := by decide +kernel
theorem d_HomSearch_coreOf_4 : decode b_HomSearch_coreOf 4 = .ok (.istore_n 2, 1) := by decide +kernel
theorem d_HomSearch_coreOf_5 : decode b_HomSearch_coreOf 5 = .ok (.iconst 0, 1) := by decide +kernel
theorem d_HomSearch_coreOf_6 : decode b_HomSearch_coreOf 6 = .ok (.istore_n 3, 1) := by decide +kernel
theorem d_HomSearch_coreOf_7 : decode b_HomSearch_coreOf 7 = .ok (.iload_n 3, 1) := by decide +kernel
theorem d_HomSearch_coreOf_8 : decode b_HomSearch_coreOf 8 = .ok (.aload_n 1, 1) := by decide +kernel
theorem d_HomSearch_coreOf_9 : decode b_HomSearch_coreOf 9 = .ok (.getfield 58, 3) := by decide +kernel
theorem d_HomSearch_coreOf_12 : decode b_HomSearch_coreOf 12 = .ok (.if_icmp .ge 51, 3) := by decide +kernel
theorem d_HomSearch_coreOf_15 : decode b_HomSearch_coreOf 15 = .ok (.aload_n 0, 1) := by decide +kernel
theorem d_HomSearch_coreOf_16 : decode b_HomSearch_coreOf 16 = .ok (.aload_n 1, 1) := by decide +kernel
theorem d_HomSearch_coreOf_17 : decode b_HomSearch_coreOf 17 = .ok (.iload_n 2, 1) := by decide +kernel
theorem d_HomSearch_coreOf_18 : decode b_HomSearch_coreOf 18 = .ok (.aload_n 1, 1) := by decide +kernel
theorem d_HomSearch_coreOf_19 : decode b_HomSearch_coreOf 19 = .ok (.iload_n 2, 1) := by decide +kernel
theorem d_HomSearch_coreOf_20 : decode b_HomSearch_coreOf 20 = .ok (.iconst 1, 1) := by decide +kernel
theorem d_HomSearch_coreOf_21 : decode b_HomSearch_coreOf 21 = .ok (.iload_n 3, 1) := by decide +kernel
theorem d_HomSearch_coreOf_22 : decode b_HomSearch_coreOf 22 = .ok (.ishl, 1) := by decide +kernel
theorem d_HomSearch_coreOf_23 : decode b_HomSearch_coreOf 23 = .ok (.iconst (-1), 1) := by decide +kernel
theorem d_HomSearch_coreOf_24 : decode b_HomSearch_coreOf 24 = .ok (.ixor, 1) := by decide +kernel
theorem d_HomSearch_coreOf_25 : decode b_HomSearch_coreOf 25 = .ok (.iand, 1) := by decide +kernel
theorem d_HomSearch_coreOf_26 : decode b_HomSearch_coreOf 26 = .ok (.invokevirtual 46, 3) := by decide +kernel
theorem d_HomSearch_coreOf_29 : decode b_HomSearch_coreOf 29 = .ok (.iload_n 2, 1) := by decide +kernel
theorem d_HomSearch_coreOf_30 : decode b_HomSearch_coreOf 30 = .ok (.iload_n 3, 1) := by decide +kernel
theorem d_HomSearch_coreOf_31 : decode b_HomSearch_coreOf 31 = .ok (.invokestatic 39, 3) := by decide +kernel
theorem d_HomSearch_coreOf_34 : decode b_HomSearch_coreOf 34 = .ok (.ifCond .eq 23, 3) := by decide +kernel
theorem d_HomSearch_coreOf_37 : decode b_HomSearch_coreOf 37 = .ok (.aload_n 0, 1) := by decide +kernel
theorem d_HomSearch_coreOf_38 : decode b_HomSearch_coreOf 38 = .ok (.aload_n 0, 1) := by decide +kernel
theorem d_HomSearch_coreOf_39 : decode b_HomSearch_coreOf 39 = .ok (.getfield 18, 3) := by decide +kernel
theorem d_HomSearch_coreOf_42 : decode b_HomSearch_coreOf 42 = .ok (.iconst 0, 1) := by decide +kernel
theorem d_HomSearch_coreOf_43 : decode b_HomSearch_coreOf 43 = .ok (.invokestatic 50, 3) := by decide +kernel
theorem d_HomSearch_coreOf_46 : decode b_HomSearch_coreOf 46 = .ok (.ifCond .eq 11, 3) := by decide +kernel
theorem d_HomSearch_coreOf_49 : decode b_HomSearch_coreOf 49 = .ok (.iload_n 2, 1) := by decide +kernel
theorem d_HomSearch_coreOf_50 : decode b_HomSearch_coreOf 50 = .ok (.iconst 1, 1) := by decide +kernel
theorem d_HomSearch_coreOf_51 : decode b_HomSearch_coreOf 51 = .ok (.iload_n 3, 1) := by decide +kernel
theorem d_HomSearch_coreOf_52 : decode b_HomSearch_coreOf 52 = .ok (.ishl, 1) := by decide +kernel
theorem d_HomSearch_coreOf_53 : decode b_HomSearch_coreOf 53 = .ok (.iconst (-1), 1) := by decide +kernel
theorem d_HomSearch_coreOf_54 : decode b_HomSearch_coreOf 54 = .ok (.ixor, 1) := by decide +kernel
theorem d_HomSearch_coreOf_55 : decode b_HomSearch_coreOf 55 = .ok (.iand, 1) := by decide +kernel
theorem d_HomSearch_coreOf_56 : decode b_HomSearch_coreOf 56 = .ok (.istore_n 2, 1) := by decide +kernel
theorem d_HomSearch_coreOf_57 : decode b_HomSearch_coreOf 57 = .ok (.iinc 3 1, 3) := by decide +kernel
theorem d_HomSearch_coreOf_60 : decode b_HomSearch_coreOf 60 = .ok (.goto (-53), 3) := by decide +kernel
theorem d_HomSearch_coreOf_63 : decode b_HomSearch_coreOf 63 = .ok (.iload_n 2, 1) := by decide +kernel
theorem d_HomSearch_coreOf_64 : decode b_HomSearch_coreOf 64 = .ok (.ireturn, 1) := by decide +kernel
theorem d_HomSearch_maps_0 : decode b_HomSearch_maps 0 = .ok (.aload_n 0, 1) := by decide +kernel
theorem d_HomSearch_maps_1 : decode b_HomSearch_maps 1 = .ok (.aload_n 1, 1) := by decide +kernel
theorem d_HomSearch_maps_2 : decode b_HomSearch_maps 2 = .ok (.aload_n 1, 1) := by decide +kernel
theorem d_HomSearch_maps_3 : decode b_HomSearch_maps 3 = .ok (.invokevirtual 43, 3) := by decide +kernel
theorem d_HomSearch_maps_6 : decode b_HomSearch_maps 6 = .ok (.aload_n 2, 1) := by decide +kernel
theorem d_HomSearch_maps_7 : decode b_HomSearch_maps 7 = .ok (.aload_n 2, 1) := by decide +kernel
theorem d_HomSearch_maps_8 : decode b_HomSearch_maps 8 = .ok (.invokevirtual 43, 3) := by decide +kernel
theorem d_HomSearch_maps_11 : decode b_HomSearch_maps 11 = .ok (.invokevirtual 46, 3) := by decide +kernel
theorem d_HomSearch_maps_14 : decode b_HomSearch_maps 14 = .ok (.aload_n 0, 1) := by decide +kernel
theorem d_HomSearch_maps_15 : decode b_HomSearch_maps 15 = .ok (.aload_n 0, 1) := by decide +kernel
theorem d_HomSearch_maps_16 : decode b_HomSearch_maps 16 = .ok (.getfield 18, 3) := by decide +kernel
theorem d_HomSearch_maps_19 : decode b_HomSearch_maps 19 = .ok (.iconst 0, 1) := by decide +kernel
theorem d_HomSearch_maps_20 : decode b_HomSearch_maps 20 = .ok (.invokestatic 50, 3) := by decide +kernel
theorem d_HomSearch_maps_23 : decode b_HomSearch_maps 23 = .ok (.ireturn, 1) := by decide +kernel
theorem d_HomSearch_fixFirst_0 : decode b_HomSearch_fixFirst 0 = .ok (.aload_n 0, 1) := by decide +kernel
theorem d_HomSearch_fixFirst_1 : decode b_HomSearch_fixFirst 1 = .ok (.getfield 18, 3) := by decide +kernel
theorem d_HomSearch_fixFirst_4 : decode b_HomSearch_fixFirst 4 = .ok (.iload_n 1, 1) := by decide +kernel
theorem d_HomSearch_fixFirst_5 : decode b_HomSearch_fixFirst 5 = .ok (.iaload, 1) := by decide +kernel
theorem d_HomSearch_fixFirst_6 : decode b_HomSearch_fixFirst 6 = .ok (.istore_n 2, 1) := by decide +kernel
theorem d_HomSearch_fixFirst_7 : decode b_HomSearch_fixFirst 7 = .ok (.iconst 0, 1) := by decide +kernel
theorem d_HomSearch_fixFirst_8 : decode b_HomSearch_fixFirst 8 = .ok (.istore_n 3, 1) := by decide +kernel
theorem d_HomSearch_fixFirst_9 : decode b_HomSearch_fixFirst 9 = .ok (.iload_n 3, 1) := by decide +kernel
theorem d_HomSearch_fixFirst_10 : decode b_HomSearch_fixFirst 10 = .ok (.bipush 8, 2) := by decide +kernel
theorem d_HomSearch_fixFirst_12 : decode b_HomSearch_fixFirst 12 = .ok (.if_icmp .ge 40, 3) := by decide +kernel
theorem d_HomSearch_fixFirst_15 : decode b_HomSearch_fixFirst 15 = .ok (.iload_n 2, 1) := by decide +kernel
theorem d_HomSearch_fixFirst_16 : decode b_HomSearch_fixFirst 16 = .ok (.iload_n 3, 1) := by decide +kernel
theorem d_HomSearch_fixFirst_17 : decode b_HomSearch_fixFirst 17 = .ok (.invokestatic 39, 3) := by decide +kernel
theorem d_HomSearch_fixFirst_20 : decode b_HomSearch_fixFirst 20 = .ok (.ifCond .eq 26, 3) := by decide +kernel
theorem d_HomSearch_fixFirst_23 : decode b_HomSearch_fixFirst 23 = .ok (.aload_n 0, 1) := by decide +kernel
theorem d_HomSearch_fixFirst_24 : decode b_HomSearch_fixFirst 24 = .ok (.getfield 18, 3) := by decide +kernel
theorem d_HomSearch_fixFirst_27 : decode b_HomSearch_fixFirst 27 = .ok (.iload_n 1, 1) := by decide +kernel
theorem d_HomSearch_fixFirst_28 : decode b_HomSearch_fixFirst 28 = .ok (.iconst 1, 1) := by decide +kernel
theorem d_HomSearch_fixFirst_29 : decode b_HomSearch_fixFirst 29 = .ok (.iload_n 3, 1) := by decide +kernel
theorem d_HomSearch_fixFirst_30 : decode b_HomSearch_fixFirst 30 = .ok (.ishl, 1) := by decide +kernel
theorem d_HomSearch_fixFirst_31 : decode b_HomSearch_fixFirst 31 = .ok (.iastore, 1) := by decide +kernel
theorem d_HomSearch_fixFirst_32 : decode b_HomSearch_fixFirst 32 = .ok (.aload_n 0, 1) := by decide +kernel
theorem d_HomSearch_fixFirst_33 : decode b_HomSearch_fixFirst 33 = .ok (.aload_n 0, 1) := by decide +kernel
theorem d_HomSearch_fixFirst_34 : decode b_HomSearch_fixFirst 34 = .ok (.getfield 18, 3) := by decide +kernel
theorem d_HomSearch_fixFirst_37 : decode b_HomSearch_fixFirst 37 = .ok (.iconst 0, 1) := by decide +kernel
theorem d_HomSearch_fixFirst_38 : decode b_HomSearch_fixFirst 38 = .ok (.invokestatic 50, 3) := by decide +kernel
theorem d_HomSearch_fixFirst_41 : decode b_HomSearch_fixFirst 41 = .ok (.ifCond .eq 5, 3) := by decide +kernel
theorem d_HomSearch_fixFirst_44 : decode b_HomSearch_fixFirst 44 = .ok (.iload_n 3, 1) := by decide +kernel
theorem d_HomSearch_fixFirst_45 : decode b_HomSearch_fixFirst 45 = .ok (.ireturn, 1) := by decide +kernel
theorem d_HomSearch_fixFirst_46 : decode b_HomSearch_fixFirst 46 = .ok (.iinc 3 1, 3) := by decide +kernel
theorem d_HomSearch_fixFirst_49 : decode b_HomSearch_fixFirst 49 = .ok (.goto (-40), 3) := by decide +kernel
theorem d_HomSearch_fixFirst_52 : decode b_HomSearch_fixFirst 52 = .ok (.iconst (-1), 1) := by decide +kernel
theorem d_HomSearch_fixFirst_53 : decode b_HomSearch_fixFirst 53 = .ok (.ireturn, 1) := by decide +kernel
theorem d_HomSearch_firstImage_0 : decode b_HomSearch_firstImage 0 = .ok (.aload_n 0, 1) := by decide +kernel
theorem d_HomSearch_firstImage_1 : decode b_HomSearch_firstImage 1 = .ok (.aload_n 1, 1) := by decide +kernel
theorem d_HomSearch_firstImage_2 : decode b_HomSearch_firstImage 2 = .ok (.aload_n 1, 1) := by decide +kernel
theorem d_HomSearch_firstImage_3 : decode b_HomSearch_firstImage 3 = .ok (.invokevirtual 43, 3) := by decide +kernel
theorem d_HomSearch_firstImage_6 : decode b_HomSearch_firstImage 6 = .ok (.aload_n 2, 1) := by decide +kernel
theorem d_HomSearch_firstImage_7 : decode b_HomSearch_firstImage 7 = .ok (.aload_n 2, 1) := by decide +kernel
theorem d_HomSearch_firstImage_8 : decode b_HomSearch_firstImage 8 = .ok (.invokevirtual 43, 3) := by decide +kernel
theorem d_HomSearch_firstImage_11 : decode b_HomSearch_firstImage 11 = .ok (.invokevirtual 46, 3) := by decide +kernel
theorem d_HomSearch_firstImage_14 : decode b_HomSearch_firstImage 14 = .ok (.aload_n 0, 1) := by decide +kernel
theorem d_HomSearch_firstImage_15 : decode b_HomSearch_firstImage 15 = .ok (.aload_n 0, 1) := by decide +kernel
theorem d_HomSearch_firstImage_16 : decode b_HomSearch_firstImage 16 = .ok (.getfield 18, 3) := by decide +kernel
theorem d_HomSearch_firstImage_19 : decode b_HomSearch_firstImage 19 = .ok (.iconst 0, 1) := by decide +kernel
theorem d_HomSearch_firstImage_20 : decode b_HomSearch_firstImage 20 = .ok (.invokestatic 50, 3) := by decide +kernel
theorem d_HomSearch_firstImage_23 : decode b_HomSearch_firstImage 23 = .ok (.ifCond .ne 5, 3) := by decide +kernel
theorem d_HomSearch_firstImage_26 : decode b_HomSearch_firstImage 26 = .ok (.iconst (-1), 1) := by decide +kernel
theorem d_HomSearch_firstImage_27 : decode b_HomSearch_firstImage 27 = .ok (.ireturn, 1) := by decide +kernel
theorem d_HomSearch_firstImage_28 : decode b_HomSearch_firstImage 28 = .ok (.iconst (-1), 1) := by decide +kernel
theorem d_HomSearch_firstImage_29 : decode b_HomSearch_firstImage 29 = .ok (.istore 4, 2) := by decide +kernel
theorem d_HomSearch_firstImage_31 : decode b_HomSearch_firstImage 31 = .ok (.iconst 0, 1) := by decide +kernel
theorem d_HomSearch_firstImage_32 : decode b_HomSearch_firstImage 32 = .ok (.istore 5, 2) := by decide +kernel
theorem d_HomSearch_firstImage_34 : decode b_HomSearch_firstImage 34 = .ok (.iload 5, 2) := by decide +kernel
theorem d_HomSearch_firstImage_36 : decode b_HomSearch_firstImage 36 = .ok (.iload_n 3, 1) := by decide +kernel
theorem d_HomSearch_firstImage_37 : decode b_HomSearch_firstImage 37 = .ok (.if_icmp .gt 17, 3) := by decide +kernel
theorem d_HomSearch_firstImage_40 : decode b_HomSearch_firstImage 40 = .ok (.aload_n 0, 1) := by decide +kernel
theorem d_HomSearch_firstImage_41 : decode b_HomSearch_firstImage 41 = .ok (.iload 5, 2) := by decide +kernel
theorem d_HomSearch_firstImage_43 : decode b_HomSearch_firstImage 43 = .ok (.invokevirtual 54, 3) := by decide +kernel
theorem d_HomSearch_firstImage_46 : decode b_HomSearch_firstImage 46 = .ok (.istore 4, 2) := by decide +kernel
theorem d_HomSearch_firstImage_48 : decode b_HomSearch_firstImage 48 = .ok (.iinc 5 1, 3) := by decide +kernel
theorem d_HomSearch_firstImage_51 : decode b_HomSearch_firstImage 51 = .ok (.goto (-17), 3) := by decide +kernel
theorem d_HomSearch_firstImage_54 : decode b_HomSearch_firstImage 54 = .ok (.iload 4, 2) := by decide +kernel
theorem d_HomSearch_firstImage_56 : decode b_HomSearch_firstImage 56 = .ok (.ireturn, 1) := by decide +kernel
def f_HomSearch_load_J92  (rec_ : Nat → Int32 → Nat → Int32 → Int32 → Int32 → HMem → Option (Unit × HMem)) (a1 : Nat) (v2 : Int32) (a3 : Nat) (v4 : Int32) (v5 : Int32) (v6 : Int32) (s0 : Int32) (s1 : Int32) (μ : HMem) : Option (Unit × HMem) :=
h_chk s1 (h_len 106) (h_let (h_wi μ 106 (Int32.toNatClampNeg (s1)) s0) (fun μ_92 =>
h_let (v6 + 1) (fun v6_93 =>
rec_ a1 v2 a3 v4 v5 v6_93 μ_92)))
def f_HomSearch_load_L17_b  (rec_ : Nat → Int32 → Nat → Int32 → Int32 → Int32 → HMem → Option (Unit × HMem)) (a1 : Nat) (v2 : Int32) (a3 : Nat) (v4 : Int32) (v5 : Int32) (v6 : Int32) (μ : HMem) : Option (Unit × HMem) :=
if (8 : Int32) ≤ v6 then
  some ((), μ)
else
  h_chk v6 (h_len (a1 + 3)) (
  h_chk v6 (h_len 104) (h_let (h_wi μ 104 (Int32.toNatClampNeg (v6)) (((μ.1 (a1 + 3) (Int32.toNatClampNeg (v6))) &&& v2) &&& ((h_ishl 1 v6) ^^^ (-1)))) (fun μ_46 =>
  h_chk v6 (h_len (a3 + 3)) (
  h_chk v6 (h_len 105) (h_let (h_wi μ_46 105 (Int32.toNatClampNeg (v6)) ((μ_46.1 (a3 + 3) (Int32.toNatClampNeg (v6))) &&& v4)) (fun μ_63 =>
  h_chk v6 (h_len (a1 + 3)) (
  h_bd (f_Bench_has (μ_63.1 (a1 + 3) (Int32.toNatClampNeg (v6))) v6 μ_63) (fun r79 μ_79 =>
  if r79 = 0 then
    f_HomSearch_load_J92 rec_ a1 v2 a3 v4 v5 v6 v4 v6 μ_79
  else
    f_HomSearch_load_J92 rec_ a1 v2 a3 v4 v5 v6 v5 v6 μ_79))))))))
def f_HomSearch_load_L17  : Nat → Nat → Int32 → Nat → Int32 → Int32 → Int32 → HMem → Option (Unit × HMem)
  | 0, _, _, _, _, _, _, _ => none
  | fuel + 1, a1, v2, a3, v4, v5, v6, μ => f_HomSearch_load_L17_b  (f_HomSearch_load_L17  fuel) a1 v2 a3 v4 v5 v6 μ
def f_HomSearch_load (a1 : Nat) (v2 : Int32) (a3 : Nat) (v4 : Int32) (μ : HMem) : Option (Unit × HMem) :=
  h_let (h_wi μ 103 0 v2) (fun μ_2 =>
  h_bd (f_Graph_loops a3 μ_2) (fun r6 μ_6 =>
  h_let (r6 &&& v4) (fun v5_12 =>
  f_HomSearch_load_L17 h_fuel a1 v2 a3 v4 v5_12 0 μ_6)))
def f_HomSearch_narrowNeighbors_J33  (rec_ : Nat → Int32 → Int32 → Int32 → HMem → Option (Int32 × HMem)) (a1 : Nat) (v2 : Int32) (v3 : Int32) (v4 : Int32) (μ : HMem) : Option (Int32 × HMem) :=
h_let (v4 + 1) (fun v4_33 =>
rec_ a1 v2 v3 v4_33 μ)
def f_HomSearch_narrowNeighbors_L5_b (K39 : Nat → Int32 → Int32 → HMem → Option (Int32 × HMem)) (rec_ : Nat → Int32 → Int32 → Int32 → HMem → Option (Int32 × HMem)) (a1 : Nat) (v2 : Int32) (v3 : Int32) (v4 : Int32) (μ : HMem) : Option (Int32 × HMem) :=
if (8 : Int32) ≤ v4 then
  K39 a1 v2 v3 μ
else
  h_chk v2 (h_len a1) (
  h_bd (f_Bench_has (μ.1 a1 (Int32.toNatClampNeg (v2))) v4 μ) (fun r17 μ_17 =>
  if r17 = 0 then
    f_HomSearch_narrowNeighbors_J33 rec_ a1 v2 v3 v4 μ_17
  else
    h_chk v4 (h_len 105) (
    h_let (v3 ||| (μ_17.1 105 (Int32.toNatClampNeg (v4)))) (fun v3_32 =>
    f_HomSearch_narrowNeighbors_J33 rec_ a1 v2 v3_32 v4 μ_17))))
def f_HomSearch_narrowNeighbors_L5 (K39 : Nat → Int32 → Int32 → HMem → Option (Int32 × HMem)) : Nat → Nat → Int32 → Int32 → Int32 → HMem → Option (Int32 × HMem)
  | 0, _, _, _, _, _ => none
  | fuel + 1, a1, v2, v3, v4, μ => f_HomSearch_narrowNeighbors_L5_b K39 (f_HomSearch_narrowNeighbors_L5 K39 fuel) a1 v2 v3 v4 μ
def f_HomSearch_narrowNeighbors_J88  (rec_ : Nat → Int32 → Int32 → Int32 → Int32 → HMem → Option (Int32 × HMem)) (a1 : Nat) (v2 : Int32) (v3 : Int32) (v4 : Int32) (v5 : Int32) (μ : HMem) : Option (Int32 × HMem) :=
h_let (v5 + 1) (fun v5_88 =>
rec_ a1 v2 v3 v4 v5_88 μ)
def f_HomSearch_narrowNeighbors_L45_b  (rec_ : Nat → Int32 → Int32 → Int32 → Int32 → HMem → Option (Int32 × HMem)) (a1 : Nat) (v2 : Int32) (v3 : Int32) (v4 : Int32) (v5 : Int32) (μ : HMem) : Option (Int32 × HMem) :=
if (8 : Int32) ≤ v5 then
  if v4 &&& 1 = v4 then some (v4, μ) else none
else
  h_chk v2 (h_len 104) (
  h_bd (f_Bench_has (μ.1 104 (Int32.toNatClampNeg (v2))) v5 μ) (fun r60 μ_60 =>
  if r60 = 0 then
    f_HomSearch_narrowNeighbors_J88 rec_ a1 v2 v3 v4 v5 μ_60
  else
    h_chk v5 (h_len a1) (
    if ((μ_60.1 a1 (Int32.toNatClampNeg (v5))) &&& (v3 ^^^ (-1))) = 0 then
      f_HomSearch_narrowNeighbors_J88 rec_ a1 v2 v3 v4 v5 μ_60
    else
      h_chk v5 (h_len a1) (
      h_chk v5 (h_len a1) (h_let (h_wi μ_60 a1 (Int32.toNatClampNeg (v5)) ((μ_60.1 a1 (Int32.toNatClampNeg (v5))) &&& v3)) (fun μ_84 =>
      f_HomSearch_narrowNeighbors_J88 rec_ a1 v2 v3 1 v5 μ_84))))))
def f_HomSearch_narrowNeighbors_L45  : Nat → Nat → Int32 → Int32 → Int32 → Int32 → HMem → Option (Int32 × HMem)
  | 0, _, _, _, _, _, _ => none
  | fuel + 1, a1, v2, v3, v4, v5, μ => f_HomSearch_narrowNeighbors_L45_b  (f_HomSearch_narrowNeighbors_L45  fuel) a1 v2 v3 v4 v5 μ
def f_HomSearch_narrowNeighbors_J39   (a1 : Nat) (v2 : Int32) (v3 : Int32) (μ : HMem) : Option (Int32 × HMem) :=
f_HomSearch_narrowNeighbors_L45 h_fuel a1 v2 v3 0 0 μ
def f_HomSearch_narrowNeighbors (a1 : Nat) (v2 : Int32) (μ : HMem) : Option (Int32 × HMem) :=
  f_HomSearch_narrowNeighbors_L5 f_HomSearch_narrowNeighbors_J39 h_fuel a1 v2 0 0 μ
def f_HomSearch_narrow_J57  (rec_ : Nat → Int32 → Int32 → Int32 → HMem → Option (Int32 × HMem)) (a1 : Nat) (v2 : Int32) (v3 : Int32) (v4 : Int32) (μ : HMem) : Option (Int32 × HMem) :=
h_let (v4 + 1) (fun v4_57 =>
rec_ a1 v2 v3 v4_57 μ)
def f_HomSearch_narrow_L19_b (K63 : Nat → Int32 → Int32 → HMem → Option (Int32 × HMem)) (rec_ : Nat → Int32 → Int32 → Int32 → HMem → Option (Int32 × HMem)) (a1 : Nat) (v2 : Int32) (v3 : Int32) (v4 : Int32) (μ : HMem) : Option (Int32 × HMem) :=
if (8 : Int32) ≤ v4 then
  K63 a1 v2 v3 μ
else
  h_bd (f_Bench_has (μ.1 103 0) v4 μ) (fun r32 μ_32 =>
  if r32 = 0 then
    f_HomSearch_narrow_J57 rec_ a1 v2 v3 v4 μ_32
  else
    h_chk v4 (h_len a1) (
    if ¬ (μ_32.1 a1 (Int32.toNatClampNeg (v4))) = 0 then
      h_bd (f_HomSearch_narrowNeighbors a1 v4 μ_32) (fun r52 μ_52 =>
      h_let (v2 ||| r52) (fun v2_56 =>
      f_HomSearch_narrow_J57 rec_ a1 v2_56 v3 v4 μ_52))
    else
      if (0 : Int32) &&& 1 = 0 then some (0, μ_32) else none))
def f_HomSearch_narrow_L19 (K63 : Nat → Int32 → Int32 → HMem → Option (Int32 × HMem)) : Nat → Nat → Int32 → Int32 → Int32 → HMem → Option (Int32 × HMem)
  | 0, _, _, _, _, _ => none
  | fuel + 1, a1, v2, v3, v4, μ => f_HomSearch_narrow_L19_b K63 (f_HomSearch_narrow_L19 K63 fuel) a1 v2 v3 v4 μ
def f_HomSearch_narrow_J63  (rec_ : Nat → Int32 → Int32 → HMem → Option (Int32 × HMem)) (a1 : Nat) (v2 : Int32) (v3 : Int32) (μ : HMem) : Option (Int32 × HMem) :=
h_let (v3 + 1) (fun v3_63 =>
rec_ a1 v2 v3_63 μ)
def f_HomSearch_narrow_L4_b (K69 : HMem → Option (Int32 × HMem)) (rec_ : Nat → Int32 → Int32 → HMem → Option (Int32 × HMem)) (a1 : Nat) (v2 : Int32) (v3 : Int32) (μ : HMem) : Option (Int32 × HMem) :=
if v2 = 0 then
  K69 μ
else
  if (64 : Int32) < v3 then
    K69 μ
  else
    f_HomSearch_narrow_L19 (f_HomSearch_narrow_J63 rec_) h_fuel a1 0 v3 0 μ
def f_HomSearch_narrow_L4 (K69 : HMem → Option (Int32 × HMem)) : Nat → Nat → Int32 → Int32 → HMem → Option (Int32 × HMem)
  | 0, _, _, _, _ => none
  | fuel + 1, a1, v2, v3, μ => f_HomSearch_narrow_L4_b K69 (f_HomSearch_narrow_L4 K69 fuel) a1 v2 v3 μ
def f_HomSearch_narrow_J69    (μ : HMem) : Option (Int32 × HMem) :=
if (1 : Int32) &&& 1 = 1 then some (1, μ) else none
def f_HomSearch_narrow (a1 : Nat) (μ : HMem) : Option (Int32 × HMem) :=
  f_HomSearch_narrow_L4 f_HomSearch_narrow_J69 h_fuel a1 1 0 μ
def f_HomSearch_openSource_J72  (rec_ : Nat → Int32 → Int32 → Int32 → HMem → Option (Int32 × HMem)) (a1 : Nat) (v2 : Int32) (v3 : Int32) (v4 : Int32) (μ : HMem) : Option (Int32 × HMem) :=
h_let (v4 + 1) (fun v4_72 =>
rec_ a1 v2 v3 v4_72 μ)
def f_HomSearch_openSource_L8_b  (rec_ : Nat → Int32 → Int32 → Int32 → HMem → Option (Int32 × HMem)) (a1 : Nat) (v2 : Int32) (v3 : Int32) (v4 : Int32) (μ : HMem) : Option (Int32 × HMem) :=
if (8 : Int32) ≤ v4 then
  some (v2, μ)
else
  h_chk v4 (h_len a1) (
  h_bd (f_Integer_bitCount (μ.1 a1 (Int32.toNatClampNeg (v4))) μ) (fun r19 μ_19 =>
  h_chk v4 (h_len 104) (
  h_bd (f_Integer_bitCount (μ_19.1 104 (Int32.toNatClampNeg (v4))) μ_19) (fun r36 μ_36 =>
  h_let ((9 * r19) - r36) (fun v6_40 =>
  h_bd (f_Bench_has (μ_36.1 103 0) v4 μ_36) (fun r48 μ_48 =>
  if r48 = 0 then
    f_HomSearch_openSource_J72 rec_ a1 v2 v3 v4 μ_48
  else
    if r19 ≤ (1 : Int32) then
      f_HomSearch_openSource_J72 rec_ a1 v2 v3 v4 μ_48
    else
      if v3 ≤ v6_40 then
        f_HomSearch_openSource_J72 rec_ a1 v2 v3 v4 μ_48
      else
        f_HomSearch_openSource_J72 rec_ a1 v4 v6_40 v4 μ_48))))))
def f_HomSearch_openSource_L8  : Nat → Nat → Int32 → Int32 → Int32 → HMem → Option (Int32 × HMem)
  | 0, _, _, _, _, _ => none
  | fuel + 1, a1, v2, v3, v4, μ => f_HomSearch_openSource_L8_b  (f_HomSearch_openSource_L8  fuel) a1 v2 v3 v4 μ
def f_HomSearch_openSource (a1 : Nat) (μ : HMem) : Option (Int32 × HMem) :=
  f_HomSearch_openSource_L8 h_fuel a1 (-1) 81 0 μ
def f_HomSearch_interchangeable_J53    (μ : HMem) : Option (Int32 × HMem) :=
if (0 : Int32) &&& 1 = 0 then some (0, μ) else none
def f_HomSearch_interchangeable_J98  (rec_ : Nat → Int32 → Int32 → Int32 → HMem → Option (Int32 × HMem)) (a1 : Nat) (v2 : Int32) (v3 : Int32) (v5 : Int32) (μ : HMem) : Option (Int32 × HMem) :=
h_let (v5 + 1) (fun v5_98 =>
rec_ a1 v2 v3 v5_98 μ)
def f_HomSearch_interchangeable_L58_b  (rec_ : Nat → Int32 → Int32 → Int32 → HMem → Option (Int32 × HMem)) (a1 : Nat) (v2 : Int32) (v3 : Int32) (v5 : Int32) (μ : HMem) : Option (Int32 × HMem) :=
if (8 : Int32) ≤ v5 then
  if (1 : Int32) &&& 1 = 1 then some (1, μ) else none
else
  h_bd (f_Bench_has (μ.1 103 0) v5 μ) (fun r71 μ_71 =>
  if r71 = 0 then
    f_HomSearch_interchangeable_J98 rec_ a1 v2 v3 v5 μ_71
  else
    h_chk v5 (h_len a1) (
    h_bd (f_Bench_has (μ_71.1 a1 (Int32.toNatClampNeg (v5))) v2 μ_71) (fun r82 μ_82 =>
    h_chk v5 (h_len a1) (
    h_bd (f_Bench_has (μ_82.1 a1 (Int32.toNatClampNeg (v5))) v3 μ_82) (fun r90 μ_90 =>
    if r82 = r90 then
      f_HomSearch_interchangeable_J98 rec_ a1 v2 v3 v5 μ_90
    else
      if (0 : Int32) &&& 1 = 0 then some (0, μ_90) else none)))))
def f_HomSearch_interchangeable_L58  : Nat → Nat → Int32 → Int32 → Int32 → HMem → Option (Int32 × HMem)
  | 0, _, _, _, _, _ => none
  | fuel + 1, a1, v2, v3, v5, μ => f_HomSearch_interchangeable_L58_b  (f_HomSearch_interchangeable_L58  fuel) a1 v2 v3 v5 μ
def f_HomSearch_interchangeable (a1 : Nat) (v2 : Int32) (v3 : Int32) (μ : HMem) : Option (Int32 × HMem) :=
  h_let ((h_ishl 1 v2) ||| (h_ishl 1 v3)) (fun v4_7 =>
  h_chk v2 (h_len 105) (
  h_chk v3 (h_len 105) (
  if ¬ (((μ.1 105 (Int32.toNatClampNeg (v2))) ^^^ (μ.1 105 (Int32.toNatClampNeg (v3)))) &&& (v4_7 ^^^ (-1))) = 0 then
    f_HomSearch_interchangeable_J53 μ
  else
    h_chk v2 (h_len 105) (
    h_bd (f_Bench_has (μ.1 105 (Int32.toNatClampNeg (v2))) v2 μ) (fun r37 μ_37 =>
    h_chk v3 (h_len 105) (
    h_bd (f_Bench_has (μ_37.1 105 (Int32.toNatClampNeg (v3))) v3 μ_37) (fun r47 μ_47 =>
    if r37 = r47 then
      f_HomSearch_interchangeable_L58 h_fuel a1 v2 v3 0 μ_47
    else
      f_HomSearch_interchangeable_J53 μ_47)))))))
def f_HomSearch_likeOneOf_J31  (rec_ : Nat → Int32 → Int32 → Int32 → HMem → Option (Int32 × HMem)) (a1 : Nat) (v2 : Int32) (v3 : Int32) (v4 : Int32) (μ : HMem) : Option (Int32 × HMem) :=
h_let (v4 + 1) (fun v4_31 =>
rec_ a1 v2 v3 v4_31 μ)
def f_HomSearch_likeOneOf_L3_b  (rec_ : Nat → Int32 → Int32 → Int32 → HMem → Option (Int32 × HMem)) (a1 : Nat) (v2 : Int32) (v3 : Int32) (v4 : Int32) (μ : HMem) : Option (Int32 × HMem) :=
if v2 ≤ v4 then
  if (0 : Int32) &&& 1 = 0 then some (0, μ) else none
else
  h_bd (f_Bench_has v3 v4 μ) (fun r12 μ_12 =>
  if r12 = 0 then
    f_HomSearch_likeOneOf_J31 rec_ a1 v2 v3 v4 μ_12
  else
    h_bd (f_HomSearch_interchangeable a1 v2 v4 μ_12) (fun r23 μ_23 =>
    if r23 = 0 then
      f_HomSearch_likeOneOf_J31 rec_ a1 v2 v3 v4 μ_23
    else
      if (1 : Int32) &&& 1 = 1 then some (1, μ_23) else none))
def f_HomSearch_likeOneOf_L3  : Nat → Nat → Int32 → Int32 → Int32 → HMem → Option (Int32 × HMem)
  | 0, _, _, _, _, _ => none
  | fuel + 1, a1, v2, v3, v4, μ => f_HomSearch_likeOneOf_L3_b  (f_HomSearch_likeOneOf_L3  fuel) a1 v2 v3 v4 μ
def f_HomSearch_likeOneOf (a1 : Nat) (v2 : Int32) (v3 : Int32) (μ : HMem) : Option (Int32 × HMem) :=
  f_HomSearch_likeOneOf_L3 h_fuel a1 v2 v3 0 μ
def f_HomSearch_extendable_J129 (fr_ : Nat → Int32 → HMem → Option (Int32 × HMem))  (rec_ : Int32 → Nat → Int32 → Int32 → Int32 → Int32 → HMem → Option (Int32 × HMem)) (v2 : Int32) (a3 : Nat) (v4 : Int32) (v5 : Int32) (v6 : Int32) (v7 : Int32) (μ : HMem) : Option (Int32 × HMem) :=
h_let (v7 + 1) (fun v7_129 =>
rec_ v2 a3 v4 v5 v6 v7_129 μ)
def f_HomSearch_extendable_L64_b (fr_ : Nat → Int32 → HMem → Option (Int32 × HMem))  (rec_ : Int32 → Nat → Int32 → Int32 → Int32 → Int32 → HMem → Option (Int32 × HMem)) (v2 : Int32) (a3 : Nat) (v4 : Int32) (v5 : Int32) (v6 : Int32) (v7 : Int32) (μ : HMem) : Option (Int32 × HMem) :=
if (8 : Int32) ≤ v7 then
  if (0 : Int32) &&& 1 = 0 then some (0, μ) else none
else
  h_bd (f_Bench_has v5 v7 μ) (fun r75 μ_75 =>
  if r75 = 0 then
    f_HomSearch_extendable_J129 fr_ rec_ v2 a3 v4 v5 v6 v7 μ_75
  else
    h_bd (f_HomSearch_likeOneOf a3 v7 v6 μ_75) (fun r87 μ_87 =>
    if ¬ r87 = 0 then
      f_HomSearch_extendable_J129 fr_ rec_ v2 a3 v4 v5 v6 v7 μ_87
    else
      h_chk v4 (h_len a3) (h_let (h_wi μ_87 a3 (Int32.toNatClampNeg (v4)) (h_ishl 1 v7)) (fun μ_100 =>
      h_bd (fr_ a3 (v2 + 1) μ_100) (fun r106 μ_106 =>
      if r106 = 0 then
        h_chk v4 (h_len a3) (h_let (h_wi μ_106 a3 (Int32.toNatClampNeg (v4)) v5) (fun μ_119 =>
        h_let (v6 ||| (h_ishl 1 v7)) (fun v6_127 =>
        f_HomSearch_extendable_J129 fr_ rec_ v2 a3 v4 v5 v6_127 v7 μ_119)))
      else
        if (1 : Int32) &&& 1 = 1 then some (1, μ_106) else none)))))
def f_HomSearch_extendable_L64 (fr_ : Nat → Int32 → HMem → Option (Int32 × HMem))  : Nat → Int32 → Nat → Int32 → Int32 → Int32 → Int32 → HMem → Option (Int32 × HMem)
  | 0, _, _, _, _, _, _, _ => none
  | fuel + 1, v2, a3, v4, v5, v6, v7, μ => f_HomSearch_extendable_L64_b fr_  (f_HomSearch_extendable_L64 fr_  fuel) v2 a3 v4 v5 v6 v7 μ
def f_HomSearch_extendable_0 (fr_ : Nat → Int32 → HMem → Option (Int32 × HMem)) (a1 : Nat) (v2 : Int32) (μ : HMem) : Option (Int32 × HMem) :=
  if v2 < (nI (h_len 107)) then
    h_chk v2 (h_len 107) (
    h_chk2 0 0 8 (h_len a1) (h_len (h_el 107 (Int32.toNatClampNeg (v2)))) (h_let (h_cpi μ a1 (Int32.toNatClampNeg (0)) (h_el 107 (Int32.toNatClampNeg (v2))) (Int32.toNatClampNeg (0)) (Int32.toNatClampNeg (8))) (fun μ_24 =>
    h_bd (f_HomSearch_narrow (h_el 107 (Int32.toNatClampNeg (v2))) μ_24) (fun r29 μ_29 =>
    if ¬ r29 = 0 then
      h_bd (f_HomSearch_openSource (h_el 107 (Int32.toNatClampNeg (v2))) μ_29) (fun r39 μ_39 =>
      if ¬ r39 = (-1 : Int32) then
        h_chk r39 (h_len (h_el 107 (Int32.toNatClampNeg (v2)))) (
        h_let (μ_39.1 (h_el 107 (Int32.toNatClampNeg (v2))) (Int32.toNatClampNeg (r39))) (fun v5_56 =>
        f_HomSearch_extendable_L64 fr_ h_fuel v2 (h_el 107 (Int32.toNatClampNeg (v2))) r39 v5_56 0 0 μ_39))
      else
        if (1 : Int32) &&& 1 = 1 then some (1, μ_39) else none)
    else
      if (0 : Int32) &&& 1 = 0 then some (0, μ_29) else none))))
  else
    if (0 : Int32) &&& 1 = 0 then some (0, μ) else none
def f_HomSearch_extendable : Nat → Nat → Int32 → HMem → Option (Int32 × HMem)
  | 0, _, _, _ => none
  | rd + 1, a1, v2, μ => f_HomSearch_extendable_0 (f_HomSearch_extendable rd) a1 v2 μ
def f_HomSearch_coreOf_J57  (rec_ : Nat → Int32 → Int32 → HMem → Option (Int32 × HMem)) (a1 : Nat) (v2 : Int32) (v3 : Int32) (μ : HMem) : Option (Int32 × HMem) :=
h_let (v3 + 1) (fun v3_57 =>
rec_ a1 v2 v3_57 μ)
def f_HomSearch_coreOf_L7_b  (rec_ : Nat → Int32 → Int32 → HMem → Option (Int32 × HMem)) (a1 : Nat) (v2 : Int32) (v3 : Int32) (μ : HMem) : Option (Int32 × HMem) :=
if (μ.1 a1 0) ≤ v3 then
  some (v2, μ)
else
  h_bd (f_HomSearch_load a1 v2 a1 (v2 &&& ((h_ishl 1 v3) ^^^ (-1))) μ) (fun _ μ_26 =>
  h_bd (f_Bench_has v2 v3 μ_26) (fun r31 μ_31 =>
  if r31 = 0 then
    f_HomSearch_coreOf_J57 rec_ a1 v2 v3 μ_31
  else
    h_bd (f_HomSearch_extendable h_deep 106 0 μ_31) (fun r43 μ_43 =>
    if r43 = 0 then
      f_HomSearch_coreOf_J57 rec_ a1 v2 v3 μ_43
    else
      h_let (v2 &&& ((h_ishl 1 v3) ^^^ (-1))) (fun v2_56 =>
      f_HomSearch_coreOf_J57 rec_ a1 v2_56 v3 μ_43))))
def f_HomSearch_coreOf_L7  : Nat → Nat → Int32 → Int32 → HMem → Option (Int32 × HMem)
  | 0, _, _, _, _ => none
  | fuel + 1, a1, v2, v3, μ => f_HomSearch_coreOf_L7_b  (f_HomSearch_coreOf_L7  fuel) a1 v2 v3 μ
def f_HomSearch_coreOf (a1 : Nat) (μ : HMem) : Option (Int32 × HMem) :=
  h_bd (f_Graph_all a1 μ) (fun r1 μ_1 =>
  f_HomSearch_coreOf_L7 h_fuel a1 r1 0 μ_1)
def f_HomSearch_maps (a1 : Nat) (a2 : Nat) (μ : HMem) : Option (Int32 × HMem) :=
  h_bd (f_Graph_all a1 μ) (fun r3 μ_3 =>
  h_bd (f_Graph_all a2 μ_3) (fun r8 μ_8 =>
  h_bd (f_HomSearch_load a1 r3 a2 r8 μ_8) (fun _ μ_11 =>
  h_bd (f_HomSearch_extendable h_deep 106 0 μ_11) (fun r20 μ_20 =>
  if r20 &&& 1 = r20 then some (r20, μ_20) else none))))
def f_HomSearch_fixFirst_J46  (rec_ : Int32 → Int32 → Int32 → HMem → Option (Int32 × HMem)) (v1 : Int32) (v2 : Int32) (v3 : Int32) (μ : HMem) : Option (Int32 × HMem) :=
h_let (v3 + 1) (fun v3_46 =>
rec_ v1 v2 v3_46 μ)
def f_HomSearch_fixFirst_L9_b  (rec_ : Int32 → Int32 → Int32 → HMem → Option (Int32 × HMem)) (v1 : Int32) (v2 : Int32) (v3 : Int32) (μ : HMem) : Option (Int32 × HMem) :=
if (8 : Int32) ≤ v3 then
  some ((-1), μ)
else
  h_bd (f_Bench_has v2 v3 μ) (fun r17 μ_17 =>
  if r17 = 0 then
    f_HomSearch_fixFirst_J46 rec_ v1 v2 v3 μ_17
  else
    h_chk v1 (h_len 106) (h_let (h_wi μ_17 106 (Int32.toNatClampNeg (v1)) (h_ishl 1 v3)) (fun μ_31 =>
    h_bd (f_HomSearch_extendable h_deep 106 0 μ_31) (fun r38 μ_38 =>
    if r38 = 0 then
      f_HomSearch_fixFirst_J46 rec_ v1 v2 v3 μ_38
    else
      some (v3, μ_38)))))
def f_HomSearch_fixFirst_L9  : Nat → Int32 → Int32 → Int32 → HMem → Option (Int32 × HMem)
  | 0, _, _, _, _ => none
  | fuel + 1, v1, v2, v3, μ => f_HomSearch_fixFirst_L9_b  (f_HomSearch_fixFirst_L9  fuel) v1 v2 v3 μ
def f_HomSearch_fixFirst (v1 : Int32) (μ : HMem) : Option (Int32 × HMem) :=
  h_chk v1 (h_len 106) (
  h_let (μ.1 106 (Int32.toNatClampNeg (v1))) (fun v2_6 =>
  f_HomSearch_fixFirst_L9 h_fuel v1 v2_6 0 μ))
def f_HomSearch_firstImage_L34_b  (rec_ : Int32 → Int32 → Int32 → HMem → Option (Int32 × HMem)) (v3 : Int32) (v4 : Int32) (v5 : Int32) (μ : HMem) : Option (Int32 × HMem) :=
if v3 < v5 then
  some (v4, μ)
else
  h_bd (f_HomSearch_fixFirst v5 μ) (fun r43 μ_43 =>
  h_let (v5 + 1) (fun v5_48 =>
  rec_ v3 r43 v5_48 μ_43))
def f_HomSearch_firstImage_L34  : Nat → Int32 → Int32 → Int32 → HMem → Option (Int32 × HMem)
  | 0, _, _, _, _ => none
  | fuel + 1, v3, v4, v5, μ => f_HomSearch_firstImage_L34_b  (f_HomSearch_firstImage_L34  fuel) v3 v4 v5 μ
def f_HomSearch_firstImage (a1 : Nat) (a2 : Nat) (v3 : Int32) (μ : HMem) : Option (Int32 × HMem) :=
  h_bd (f_Graph_all a1 μ) (fun r3 μ_3 =>
  h_bd (f_Graph_all a2 μ_3) (fun r8 μ_8 =>
  h_bd (f_HomSearch_load a1 r3 a2 r8 μ_8) (fun _ μ_11 =>
  h_bd (f_HomSearch_extendable h_deep 106 0 μ_11) (fun r20 μ_20 =>
  if ¬ r20 = 0 then
    f_HomSearch_firstImage_L34 h_fuel v3 (-1) 0 μ_20
  else
    some ((-1), μ_20)))))
def p_HomSearch_load_17 (cx : HCx) (F_ : Nat → Int32 → Nat → Int32 → Int32 → Int32 → HMem → Option (Unit × HMem)) : Prop := ∀ (a1 : Nat) (h_a1 : HIsG a1) (v2 : Int32) (a3 : Nat) (h_a3 : HIsG a3) (v4 : Int32) (v5 : Int32) (v6 : Int32) (μ : HMem), HX cx (HQ cx h_eV) (F_ a1 v2 a3 v4 v5 v6 μ) 0 0 17 [(0, .ref 103), (1, .ref a1), (2, .int v2), (3, .ref a3), (4, .int v4), (5, .int v5), (6, .int v6)] [] μ
def p_HomSearch_narrowNeighbors_5 (cx : HCx) (F_ : Nat → Int32 → Int32 → Int32 → HMem → Option (Int32 × HMem)) : Prop := ∀ (a1 : Nat) (h_a1 : HIsI a1) (v2 : Int32) (v3 : Int32) (v4 : Int32) (μ : HMem), HX cx (HQ cx h_eI) (F_ a1 v2 v3 v4 μ) 0 0 5 [(0, .ref 103), (1, .ref a1), (2, .int v2), (3, .int v3), (4, .int v4)] [] μ
def p_HomSearch_narrowNeighbors_39 (cx : HCx) (F_ : Nat → Int32 → Int32 → HMem → Option (Int32 × HMem)) : Prop := ∀ (a1 : Nat) (h_a1 : HIsI a1) (v2 : Int32) (v3 : Int32) (μ : HMem), HX cx (HQ cx h_eI) (F_ a1 v2 v3 μ) 0 0 39 [(0, .ref 103), (1, .ref a1), (2, .int v2), (3, .int v3)] [] μ
def p_HomSearch_narrowNeighbors_45 (cx : HCx) (F_ : Nat → Int32 → Int32 → Int32 → Int32 → HMem → Option (Int32 × HMem)) : Prop := ∀ (a1 : Nat) (h_a1 : HIsI a1) (v2 : Int32) (v3 : Int32) (v4 : Int32) (v5 : Int32) (μ : HMem), HX cx (HQ cx h_eI) (F_ a1 v2 v3 v4 v5 μ) 0 0 45 [(0, .ref 103), (1, .ref a1), (2, .int v2), (3, .int v3), (4, .int v4), (5, .int v5)] [] μ
def p_HomSearch_narrow_19 (cx : HCx) (F_ : Nat → Int32 → Int32 → Int32 → HMem → Option (Int32 × HMem)) : Prop := ∀ (a1 : Nat) (h_a1 : HIsI a1) (v2 : Int32) (v3 : Int32) (v4 : Int32) (μ : HMem), HX cx (HQ cx h_eI) (F_ a1 v2 v3 v4 μ) 0 0 19 [(0, .ref 103), (1, .ref a1), (2, .int v2), (3, .int v3), (4, .int v4)] [] μ
def p_HomSearch_narrow_63 (cx : HCx) (F_ : Nat → Int32 → Int32 → HMem → Option (Int32 × HMem)) : Prop := ∀ (a1 : Nat) (h_a1 : HIsI a1) (v2 : Int32) (v3 : Int32) (μ : HMem), HX cx (HQ cx h_eI) (F_ a1 v2 v3 μ) 0 0 63 [(0, .ref 103), (1, .ref a1), (2, .int v2), (3, .int v3)] [] μ
def p_HomSearch_narrow_4 (cx : HCx) (F_ : Nat → Int32 → Int32 → HMem → Option (Int32 × HMem)) : Prop := ∀ (a1 : Nat) (h_a1 : HIsI a1) (v2 : Int32) (v3 : Int32) (μ : HMem), HX cx (HQ cx h_eI) (F_ a1 v2 v3 μ) 0 0 4 [(0, .ref 103), (1, .ref a1), (2, .int v2), (3, .int v3)] [] μ
def p_HomSearch_narrow_69 (cx : HCx) (F_ : HMem → Option (Int32 × HMem)) : Prop := ∀  (μ : HMem), HX cx (HQ cx h_eI) (F_ μ) 0 0 69 [] [] μ
def p_HomSearch_openSource_8 (cx : HCx) (F_ : Nat → Int32 → Int32 → Int32 → HMem → Option (Int32 × HMem)) : Prop := ∀ (a1 : Nat) (h_a1 : HIsI a1) (v2 : Int32) (v3 : Int32) (v4 : Int32) (μ : HMem), HX cx (HQ cx h_eI) (F_ a1 v2 v3 v4 μ) 0 0 8 [(0, .ref 103), (1, .ref a1), (2, .int v2), (3, .int v3), (4, .int v4)] [] μ
def p_HomSearch_interchangeable_58 (cx : HCx) (F_ : Nat → Int32 → Int32 → Int32 → HMem → Option (Int32 × HMem)) : Prop := ∀ (a1 : Nat) (h_a1 : HIsI a1) (v2 : Int32) (v3 : Int32) (v5 : Int32) (μ : HMem), HX cx (HQ cx h_eI) (F_ a1 v2 v3 v5 μ) 0 0 58 [(0, .ref 103), (1, .ref a1), (2, .int v2), (3, .int v3), (5, .int v5)] [] μ
def p_HomSearch_likeOneOf_3 (cx : HCx) (F_ : Nat → Int32 → Int32 → Int32 → HMem → Option (Int32 × HMem)) : Prop := ∀ (a1 : Nat) (h_a1 : HIsI a1) (v2 : Int32) (v3 : Int32) (v4 : Int32) (μ : HMem), HX cx (HQ cx h_eI) (F_ a1 v2 v3 v4 μ) 0 0 3 [(0, .ref 103), (1, .ref a1), (2, .int v2), (3, .int v3), (4, .int v4)] [] μ
def p_HomSearch_extendable_64 (cx : HCx) (F_ : Int32 → Nat → Int32 → Int32 → Int32 → Int32 → HMem → Option (Int32 × HMem)) : Prop := ∀ (v2 : Int32) (a3 : Nat) (h_a3 : HIsI a3) (v4 : Int32) (v5 : Int32) (v6 : Int32) (v7 : Int32) (μ : HMem), HX cx (HQ cx h_eI) (F_ v2 a3 v4 v5 v6 v7 μ) 0 0 64 [(0, .ref 103), (2, .int v2), (3, .ref a3), (4, .int v4), (5, .int v5), (6, .int v6), (7, .int v7)] [] μ
def p_HomSearch_coreOf_7 (cx : HCx) (F_ : Nat → Int32 → Int32 → HMem → Option (Int32 × HMem)) : Prop := ∀ (a1 : Nat) (h_a1 : HIsG a1) (v2 : Int32) (v3 : Int32) (μ : HMem), HX cx (HQ cx h_eI) (F_ a1 v2 v3 μ) 0 0 7 [(0, .ref 103), (1, .ref a1), (2, .int v2), (3, .int v3)] [] μ
def p_HomSearch_fixFirst_9 (cx : HCx) (F_ : Int32 → Int32 → Int32 → HMem → Option (Int32 × HMem)) : Prop := ∀ (v1 : Int32) (v2 : Int32) (v3 : Int32) (μ : HMem), HX cx (HQ cx h_eI) (F_ v1 v2 v3 μ) 0 0 9 [(0, .ref 103), (1, .int v1), (2, .int v2), (3, .int v3)] [] μ
def p_HomSearch_firstImage_34 (cx : HCx) (F_ : Int32 → Int32 → Int32 → HMem → Option (Int32 × HMem)) : Prop := ∀ (v3 : Int32) (v4 : Int32) (v5 : Int32) (μ : HMem), HX cx (HQ cx h_eI) (F_ v3 v4 v5 μ) 0 0 34 [(0, .ref 103), (3, .int v3), (4, .int v4), (5, .int v5)] [] μ
theorem t_HomSearch_load_J92 {cx : HCx} (hg : HGood cx R_HomSearch b_HomSearch_load 7 2 none) (hA : h_own cx)  (rec_ : Nat → Int32 → Nat → Int32 → Int32 → Int32 → HMem → Option (Unit × HMem)) (hrec_ : p_HomSearch_load_17 cx rec_) (a1 : Nat) (h_a1 : HIsG a1) (v2 : Int32) (a3 : Nat) (h_a3 : HIsG a3) (v4 : Int32) (v5 : Int32) (v6 : Int32) (s0 : Int32) (s1 : Int32) (μ : HMem) : HX cx (HQ cx h_eV) (f_HomSearch_load_J92  rec_ a1 v2 a3 v4 v5 v6 s0 s1 μ) 0 0 92 [(0, .ref 103), (1, .ref a1), (2, .int v2), (3, .ref a3), (4, .int v4), (5, .int v5), (6, .int v6)] [.int s0, .int s1, .ref 106] μ := by
  unfold f_HomSearch_load_J92
  refine r_iast hg (by decide) rfl d_HomSearch_load_92 ?_
  refine r_letM (fun μ_92 => ?_)
  refine r_letE (fun v6_93 he_93 => ?_)
  refine r_iinc (v := v6_93) (l' := [(6, .int v6_93), (0, .ref 103), (1, .ref a1), (2, .int v2), (3, .ref a3), (4, .int v4), (5, .int v5)]) hg 6 d_HomSearch_load_93 rfl he_93 (Nat.le_of_ble_eq_true rfl) rfl ?_
  refine r_goto (tgt := 17) hg d_HomSearch_load_96 (by decide) ?_
  refine r_sub [1, 2, 3, 4, 5, 6, 0] rfl ?_
  exact hrec_ a1 h_a1 v2 a3 h_a3 v4 v5 v6_93 μ_92
theorem t_HomSearch_load_L17_b {cx : HCx} (hg : HGood cx R_HomSearch b_HomSearch_load 7 2 none) (hA : h_own cx)  (rec_ : Nat → Int32 → Nat → Int32 → Int32 → Int32 → HMem → Option (Unit × HMem)) (hrec_ : p_HomSearch_load_17 cx rec_) (a1 : Nat) (h_a1 : HIsG a1) (v2 : Int32) (a3 : Nat) (h_a3 : HIsG a3) (v4 : Int32) (v5 : Int32) (v6 : Int32) (μ : HMem) : HX cx (HQ cx h_eV) (f_HomSearch_load_L17_b  rec_ a1 v2 a3 v4 v5 v6 μ) 0 0 17 [(0, .ref 103), (1, .ref a1), (2, .int v2), (3, .ref a3), (4, .int v4), (5, .int v5), (6, .int v6)] [] μ := by
  unfold f_HomSearch_load_L17_b
  refine r_iload hg 6 d_HomSearch_load_17 rfl ?_
  refine r_bipush (v := 8) hg d_HomSearch_load_19 (by decide) ?_
  refine r_icmp_ge (tgt := 99) hg d_HomSearch_load_21 (by decide) ?_ ?_
  · exact r_vret hg hA rfl d_HomSearch_load_99 rfl
  · refine r_aload_n hg 0 d_HomSearch_load_24 rfl rfl ?_
    refine r_get (v := .ref 104) hg c_HomSearch (by decide) rfl (Nat.le_of_ble_eq_true rfl) rfl wf_HomSearch_9 d_HomSearch_load_25 rfl ?_
    refine r_iload hg 6 d_HomSearch_load_28 rfl ?_
    refine r_aload_n hg 1 d_HomSearch_load_30 rfl rfl ?_
    refine r_get (v := .ref (a1 + 3)) hg c_Graph (h_G_lt h_a1) (h_G_kd h_a1) (Nat.le_of_ble_eq_true rfl) (h_G_fl3 h_a1) wf_HomSearch_36 d_HomSearch_load_31 rfl ?_
    refine r_iload hg 6 d_HomSearch_load_34 rfl ?_
    refine r_iald hg (h_G_lt3 h_a1) (h_G_kd3 h_a1) d_HomSearch_load_36 ?_
    refine r_iload_n hg 2 d_HomSearch_load_37 rfl rfl ?_
    refine r_iand hg d_HomSearch_load_38 ?_
    refine r_iconst (v := 1) hg d_HomSearch_load_39 (by decide) ?_
    refine r_iload hg 6 d_HomSearch_load_40 rfl ?_
    refine r_ishl hg d_HomSearch_load_42 ?_
    refine r_iconst (v := -1) hg d_HomSearch_load_43 (by decide) ?_
    refine r_ixor hg d_HomSearch_load_44 ?_
    refine r_iand hg d_HomSearch_load_45 ?_
    refine r_iast hg (by decide) rfl d_HomSearch_load_46 ?_
    refine r_letM (fun μ_46 => ?_)
    refine r_aload_n hg 0 d_HomSearch_load_47 rfl rfl ?_
    refine r_get (v := .ref 105) hg c_HomSearch (by decide) rfl (Nat.le_of_ble_eq_true rfl) rfl wf_HomSearch_15 d_HomSearch_load_48 rfl ?_
    refine r_iload hg 6 d_HomSearch_load_51 rfl ?_
    refine r_aload_n hg 3 d_HomSearch_load_53 rfl rfl ?_
    refine r_get (v := .ref (a3 + 3)) hg c_Graph (h_G_lt h_a3) (h_G_kd h_a3) (Nat.le_of_ble_eq_true rfl) (h_G_fl3 h_a3) wf_HomSearch_36 d_HomSearch_load_54 rfl ?_
    refine r_iload hg 6 d_HomSearch_load_57 rfl ?_
    refine r_iald hg (h_G_lt3 h_a3) (h_G_kd3 h_a3) d_HomSearch_load_59 ?_
    refine r_iload hg 4 d_HomSearch_load_60 rfl ?_
    refine r_iand hg d_HomSearch_load_62 ?_
    refine r_iast hg (by decide) rfl d_HomSearch_load_63 ?_
    refine r_letM (fun μ_63 => ?_)
    refine r_aload_n hg 0 d_HomSearch_load_64 rfl rfl ?_
    refine r_get (v := .ref 106) hg c_HomSearch (by decide) rfl (Nat.le_of_ble_eq_true rfl) rfl wf_HomSearch_18 d_HomSearch_load_65 rfl ?_
    refine r_iload hg 6 d_HomSearch_load_68 rfl ?_
    refine r_aload_n hg 1 d_HomSearch_load_70 rfl rfl ?_
    refine r_get (v := .ref (a1 + 3)) hg c_Graph (h_G_lt h_a1) (h_G_kd h_a1) (Nat.le_of_ble_eq_true rfl) (h_G_fl3 h_a1) wf_HomSearch_36 d_HomSearch_load_71 rfl ?_
    refine r_iload hg 6 d_HomSearch_load_74 rfl ?_
    refine r_iald hg (h_G_lt3 h_a1) (h_G_kd3 h_a1) d_HomSearch_load_76 ?_
    refine r_iload hg 6 d_HomSearch_load_77 rfl ?_
    refine r_callN (As := [.int (μ_63.1 (a1 + 3) (Int32.toNatClampNeg (v6))), .int v6]) (host := "HomBench") hg (t_Bench_has (μ_63.1 (a1 + 3) (Int32.toNatClampNeg (v6))) v6 μ_63) v_Bench_has (by decide) d_HomSearch_load_79 rfl ⟨by decide, by decide⟩ (Nat.le_of_ble_eq_true rfl) rfl (fun r79 μ_79 _ => ?_)
    refine r_if_eq (tgt := 90) hg d_HomSearch_load_82 (by decide) ?_ ?_
    · refine r_iload hg 4 d_HomSearch_load_90 rfl ?_
      exact t_HomSearch_load_J92 hg hA rec_ hrec_ a1 h_a1 v2 a3 h_a3 v4 v5 v6 v4 v6 μ_79
    · refine r_iload hg 5 d_HomSearch_load_85 rfl ?_
      refine r_goto (tgt := 92) hg d_HomSearch_load_87 (by decide) ?_
      exact t_HomSearch_load_J92 hg hA rec_ hrec_ a1 h_a1 v2 a3 h_a3 v4 v5 v6 v5 v6 μ_79
theorem t_HomSearch_load_L17 {cx : HCx} (hg : HGood cx R_HomSearch b_HomSearch_load 7 2 none) (hA : h_own cx)  : ∀ (fuel : Nat) (a1 : Nat) (h_a1 : HIsG a1) (v2 : Int32) (a3 : Nat) (h_a3 : HIsG a3) (v4 : Int32) (v5 : Int32) (v6 : Int32) (μ : HMem), HX cx (HQ cx h_eV) (f_HomSearch_load_L17  fuel a1 v2 a3 v4 v5 v6 μ) 0 0 17 [(0, .ref 103), (1, .ref a1), (2, .int v2), (3, .ref a3), (4, .int v4), (5, .int v5), (6, .int v6)] [] μ
  | 0, _, _, _, _, _, _, _, _, _ => by unfold f_HomSearch_load_L17; exact HX.none
  | fuel + 1, a1, h_a1, v2, a3, h_a3, v4, v5, v6, μ => by
    rw [f_HomSearch_load_L17]
    exact t_HomSearch_load_L17_b hg hA   (f_HomSearch_load_L17  fuel) (t_HomSearch_load_L17 hg hA   fuel) a1 h_a1 v2 a3 h_a3 v4 v5 v6 μ
theorem t_HomSearch_load_0 {cx : HCx} (hg : HGood cx R_HomSearch b_HomSearch_load 7 2 none) (hA : h_own cx) (a1 : Nat) (h_a1 : HIsG a1) (v2 : Int32) (a3 : Nat) (h_a3 : HIsG a3) (v4 : Int32) (μ : HMem) : HX cx (HQ cx h_eV) (f_HomSearch_load a1 v2 a3 v4 μ) 0 0 0 [(0, .ref 103), (1, .ref a1), (2, .int v2), (3, .ref a3), (4, .int v4)] [] μ := by
  unfold f_HomSearch_load
  refine r_aload_n hg 0 d_HomSearch_load_0 rfl rfl ?_
  refine r_iload_n hg 2 d_HomSearch_load_1 rfl rfl ?_
  refine r_put hg c_HomSearch t_HomSearch_ok n_HomSearch (by decide) rfl (Nat.le_of_ble_eq_true rfl) rfl rfl (by decide +kernel) wf_HomSearch_26 d_HomSearch_load_2 ?_
  refine r_letM (fun μ_2 => ?_)
  refine r_aload_n hg 3 d_HomSearch_load_5 rfl rfl ?_
  refine r_callV (As := []) hg (t_Graph_loops a3 h_a3 μ_2) v_Graph_loops c_Graph rfl (h_G_lt h_a3) (h_G_kd h_a3) wm_HomSearch_30 d_HomSearch_load_6 rfl ⟨by decide, by decide⟩ (Nat.le_of_ble_eq_true rfl) rfl (fun r6 μ_6 _ => ?_)
  refine r_iload hg 4 d_HomSearch_load_9 rfl ?_
  refine r_iand hg d_HomSearch_load_11 ?_
  refine r_letI (fun v5_12 => ?_)
  refine r_istore (l' := [(5, .int v5_12), (0, .ref 103), (1, .ref a1), (2, .int v2), (3, .ref a3), (4, .int v4)]) hg d_HomSearch_load_12 (Nat.le_of_ble_eq_true rfl) rfl ?_
  refine r_iconst (v := 0) hg d_HomSearch_load_14 (by decide) ?_
  refine r_istore (l' := [(6, .int 0), (5, .int v5_12), (0, .ref 103), (1, .ref a1), (2, .int v2), (3, .ref a3), (4, .int v4)]) hg d_HomSearch_load_15 (Nat.le_of_ble_eq_true rfl) rfl ?_
  refine r_sub [2, 3, 4, 5, 6, 1, 0] rfl ?_
  exact t_HomSearch_load_L17 hg hA h_fuel a1 h_a1 v2 a3 h_a3 v4 v5_12 0 μ_6
theorem t_HomSearch_load (a1 : Nat) (h_a1 : HIsG a1) (v2 : Int32) (a3 : Nat) (h_a3 : HIsG a3) (v4 : Int32) (μ : HMem) : HSpec y_HomSearch_load b_HomSearch_load 7 none 2 h_eV [.ref 103, .ref a1, .int v2, .ref a3, .int v4] μ (f_HomSearch_load a1 v2 a3 v4 μ) :=
  HSpec.of (by decide +kernel) (v_HomSearch_load.1 _ (by simp)) (Nat.le_of_ble_eq_true rfl) (fun cx hA hg => t_HomSearch_load_0 hg hA a1 h_a1 v2 a3 h_a3 v4 μ)
theorem t_HomSearch_narrowNeighbors_J33 {cx : HCx} (hg : HGood cx R_HomSearch b_HomSearch_narrowNeighbors 6 2 (some .boolean)) (hA : h_own cx)  (rec_ : Nat → Int32 → Int32 → Int32 → HMem → Option (Int32 × HMem)) (hrec_ : p_HomSearch_narrowNeighbors_5 cx rec_) (a1 : Nat) (h_a1 : HIsI a1) (v2 : Int32) (v3 : Int32) (v4 : Int32) (μ : HMem) : HX cx (HQ cx h_eI) (f_HomSearch_narrowNeighbors_J33  rec_ a1 v2 v3 v4 μ) 0 0 33 [(0, .ref 103), (1, .ref a1), (2, .int v2), (3, .int v3), (4, .int v4)] [] μ := by
  unfold f_HomSearch_narrowNeighbors_J33
  refine r_letE (fun v4_33 he_33 => ?_)
  refine r_iinc (v := v4_33) (l' := [(4, .int v4_33), (0, .ref 103), (1, .ref a1), (2, .int v2), (3, .int v3)]) hg 4 d_HomSearch_narrowNeighbors_33 rfl he_33 (Nat.le_of_ble_eq_true rfl) rfl ?_
  refine r_goto (tgt := 5) hg d_HomSearch_narrowNeighbors_36 (by decide) ?_
  refine r_sub [1, 2, 3, 4, 0] rfl ?_
  exact hrec_ a1 h_a1 v2 v3 v4_33 μ
theorem t_HomSearch_narrowNeighbors_L5_b {cx : HCx} (hg : HGood cx R_HomSearch b_HomSearch_narrowNeighbors 6 2 (some .boolean)) (hA : h_own cx) (K39 : Nat → Int32 → Int32 → HMem → Option (Int32 × HMem)) (hK39 : p_HomSearch_narrowNeighbors_39 cx K39) (rec_ : Nat → Int32 → Int32 → Int32 → HMem → Option (Int32 × HMem)) (hrec_ : p_HomSearch_narrowNeighbors_5 cx rec_) (a1 : Nat) (h_a1 : HIsI a1) (v2 : Int32) (v3 : Int32) (v4 : Int32) (μ : HMem) : HX cx (HQ cx h_eI) (f_HomSearch_narrowNeighbors_L5_b K39 rec_ a1 v2 v3 v4 μ) 0 0 5 [(0, .ref 103), (1, .ref a1), (2, .int v2), (3, .int v3), (4, .int v4)] [] μ := by
  unfold f_HomSearch_narrowNeighbors_L5_b
  refine r_iload hg 4 d_HomSearch_narrowNeighbors_5 rfl ?_
  refine r_bipush (v := 8) hg d_HomSearch_narrowNeighbors_7 (by decide) ?_
  refine r_icmp_ge (tgt := 39) hg d_HomSearch_narrowNeighbors_9 (by decide) ?_ ?_
  · refine r_sub [0, 1, 2, 3] rfl ?_
    exact hK39 a1 h_a1 v2 v3 μ
  · refine r_aload_n hg 1 d_HomSearch_narrowNeighbors_12 rfl rfl ?_
    refine r_iload_n hg 2 d_HomSearch_narrowNeighbors_13 rfl rfl ?_
    refine r_iald hg (h_a1).1 (h_a1).2 d_HomSearch_narrowNeighbors_14 ?_
    refine r_iload hg 4 d_HomSearch_narrowNeighbors_15 rfl ?_
    refine r_callN (As := [.int (μ.1 a1 (Int32.toNatClampNeg (v2))), .int v4]) (host := "HomBench") hg (t_Bench_has (μ.1 a1 (Int32.toNatClampNeg (v2))) v4 μ) v_Bench_has (by decide) d_HomSearch_narrowNeighbors_17 rfl ⟨by decide, by decide⟩ (Nat.le_of_ble_eq_true rfl) rfl (fun r17 μ_17 _ => ?_)
    refine r_if_eq (tgt := 33) hg d_HomSearch_narrowNeighbors_20 (by decide) ?_ ?_
    · exact t_HomSearch_narrowNeighbors_J33 hg hA rec_ hrec_ a1 h_a1 v2 v3 v4 μ_17
    · refine r_iload_n hg 3 d_HomSearch_narrowNeighbors_23 rfl rfl ?_
      refine r_aload_n hg 0 d_HomSearch_narrowNeighbors_24 rfl rfl ?_
      refine r_get (v := .ref 105) hg c_HomSearch (by decide) rfl (Nat.le_of_ble_eq_true rfl) rfl wf_HomSearch_15 d_HomSearch_narrowNeighbors_25 rfl ?_
      refine r_iload hg 4 d_HomSearch_narrowNeighbors_28 rfl ?_
      refine r_iald hg (by decide) rfl d_HomSearch_narrowNeighbors_30 ?_
      refine r_ior hg d_HomSearch_narrowNeighbors_31 ?_
      refine r_letI (fun v3_32 => ?_)
      refine r_istore_n (l' := [(3, .int v3_32), (0, .ref 103), (1, .ref a1), (2, .int v2), (4, .int v4)]) hg d_HomSearch_narrowNeighbors_32 rfl (Nat.le_of_ble_eq_true rfl) rfl ?_
      refine r_sub [1, 2, 3, 0, 4] rfl ?_
      exact t_HomSearch_narrowNeighbors_J33 hg hA rec_ hrec_ a1 h_a1 v2 v3_32 v4 μ_17
theorem t_HomSearch_narrowNeighbors_L5 {cx : HCx} (hg : HGood cx R_HomSearch b_HomSearch_narrowNeighbors 6 2 (some .boolean)) (hA : h_own cx) (K39 : Nat → Int32 → Int32 → HMem → Option (Int32 × HMem)) (hK39 : p_HomSearch_narrowNeighbors_39 cx K39) : ∀ (fuel : Nat) (a1 : Nat) (h_a1 : HIsI a1) (v2 : Int32) (v3 : Int32) (v4 : Int32) (μ : HMem), HX cx (HQ cx h_eI) (f_HomSearch_narrowNeighbors_L5 K39 fuel a1 v2 v3 v4 μ) 0 0 5 [(0, .ref 103), (1, .ref a1), (2, .int v2), (3, .int v3), (4, .int v4)] [] μ
  | 0, _, _, _, _, _, _ => by unfold f_HomSearch_narrowNeighbors_L5; exact HX.none
  | fuel + 1, a1, h_a1, v2, v3, v4, μ => by
    rw [f_HomSearch_narrowNeighbors_L5]
    exact t_HomSearch_narrowNeighbors_L5_b hg hA  K39 hK39 (f_HomSearch_narrowNeighbors_L5 K39 fuel) (t_HomSearch_narrowNeighbors_L5 hg hA  K39 hK39 fuel) a1 h_a1 v2 v3 v4 μ
theorem t_HomSearch_narrowNeighbors_J88 {cx : HCx} (hg : HGood cx R_HomSearch b_HomSearch_narrowNeighbors 6 2 (some .boolean)) (hA : h_own cx)  (rec_ : Nat → Int32 → Int32 → Int32 → Int32 → HMem → Option (Int32 × HMem)) (hrec_ : p_HomSearch_narrowNeighbors_45 cx rec_) (a1 : Nat) (h_a1 : HIsI a1) (v2 : Int32) (v3 : Int32) (v4 : Int32) (v5 : Int32) (μ : HMem) : HX cx (HQ cx h_eI) (f_HomSearch_narrowNeighbors_J88  rec_ a1 v2 v3 v4 v5 μ) 0 0 88 [(0, .ref 103), (1, .ref a1), (2, .int v2), (3, .int v3), (4, .int v4), (5, .int v5)] [] μ := by
  unfold f_HomSearch_narrowNeighbors_J88
  refine r_letE (fun v5_88 he_88 => ?_)
  refine r_iinc (v := v5_88) (l' := [(5, .int v5_88), (0, .ref 103), (1, .ref a1), (2, .int v2), (3, .int v3), (4, .int v4)]) hg 5 d_HomSearch_narrowNeighbors_88 rfl he_88 (Nat.le_of_ble_eq_true rfl) rfl ?_
  refine r_goto (tgt := 45) hg d_HomSearch_narrowNeighbors_91 (by decide) ?_
  refine r_sub [1, 2, 3, 4, 5, 0] rfl ?_
  exact hrec_ a1 h_a1 v2 v3 v4 v5_88 μ
theorem t_HomSearch_narrowNeighbors_L45_b {cx : HCx} (hg : HGood cx R_HomSearch b_HomSearch_narrowNeighbors 6 2 (some .boolean)) (hA : h_own cx)  (rec_ : Nat → Int32 → Int32 → Int32 → Int32 → HMem → Option (Int32 × HMem)) (hrec_ : p_HomSearch_narrowNeighbors_45 cx rec_) (a1 : Nat) (h_a1 : HIsI a1) (v2 : Int32) (v3 : Int32) (v4 : Int32) (v5 : Int32) (μ : HMem) : HX cx (HQ cx h_eI) (f_HomSearch_narrowNeighbors_L45_b  rec_ a1 v2 v3 v4 v5 μ) 0 0 45 [(0, .ref 103), (1, .ref a1), (2, .int v2), (3, .int v3), (4, .int v4), (5, .int v5)] [] μ := by
  unfold f_HomSearch_narrowNeighbors_L45_b
  refine r_iload hg 5 d_HomSearch_narrowNeighbors_45 rfl ?_
  refine r_bipush (v := 8) hg d_HomSearch_narrowNeighbors_47 (by decide) ?_
  refine r_icmp_ge (tgt := 94) hg d_HomSearch_narrowNeighbors_49 (by decide) ?_ ?_
  · refine r_iload hg 4 d_HomSearch_narrowNeighbors_94 rfl ?_
    exact r_zretB hg hA rfl d_HomSearch_narrowNeighbors_96 rfl
  · refine r_aload_n hg 0 d_HomSearch_narrowNeighbors_52 rfl rfl ?_
    refine r_get (v := .ref 104) hg c_HomSearch (by decide) rfl (Nat.le_of_ble_eq_true rfl) rfl wf_HomSearch_9 d_HomSearch_narrowNeighbors_53 rfl ?_
    refine r_iload_n hg 2 d_HomSearch_narrowNeighbors_56 rfl rfl ?_
    refine r_iald hg (by decide) rfl d_HomSearch_narrowNeighbors_57 ?_
    refine r_iload hg 5 d_HomSearch_narrowNeighbors_58 rfl ?_
    refine r_callN (As := [.int (μ.1 104 (Int32.toNatClampNeg (v2))), .int v5]) (host := "HomBench") hg (t_Bench_has (μ.1 104 (Int32.toNatClampNeg (v2))) v5 μ) v_Bench_has (by decide) d_HomSearch_narrowNeighbors_60 rfl ⟨by decide, by decide⟩ (Nat.le_of_ble_eq_true rfl) rfl (fun r60 μ_60 _ => ?_)
    refine r_if_eq (tgt := 88) hg d_HomSearch_narrowNeighbors_63 (by decide) ?_ ?_
    · exact t_HomSearch_narrowNeighbors_J88 hg hA rec_ hrec_ a1 h_a1 v2 v3 v4 v5 μ_60
    · refine r_aload_n hg 1 d_HomSearch_narrowNeighbors_66 rfl rfl ?_
      refine r_iload hg 5 d_HomSearch_narrowNeighbors_67 rfl ?_
      refine r_iald hg (h_a1).1 (h_a1).2 d_HomSearch_narrowNeighbors_69 ?_
      refine r_iload_n hg 3 d_HomSearch_narrowNeighbors_70 rfl rfl ?_
      refine r_iconst (v := -1) hg d_HomSearch_narrowNeighbors_71 (by decide) ?_
      refine r_ixor hg d_HomSearch_narrowNeighbors_72 ?_
      refine r_iand hg d_HomSearch_narrowNeighbors_73 ?_
      refine r_if_eq (tgt := 88) hg d_HomSearch_narrowNeighbors_74 (by decide) ?_ ?_
      · exact t_HomSearch_narrowNeighbors_J88 hg hA rec_ hrec_ a1 h_a1 v2 v3 v4 v5 μ_60
      · refine r_aload_n hg 1 d_HomSearch_narrowNeighbors_77 rfl rfl ?_
        refine r_iload hg 5 d_HomSearch_narrowNeighbors_78 rfl ?_
        refine r_dup2 hg d_HomSearch_narrowNeighbors_80 rfl rfl ?_
        refine r_iald hg (h_a1).1 (h_a1).2 d_HomSearch_narrowNeighbors_81 ?_
        refine r_iload_n hg 3 d_HomSearch_narrowNeighbors_82 rfl rfl ?_
        refine r_iand hg d_HomSearch_narrowNeighbors_83 ?_
        refine r_iast hg (h_a1).1 (h_a1).2 d_HomSearch_narrowNeighbors_84 ?_
        refine r_letM (fun μ_84 => ?_)
        refine r_iconst (v := 1) hg d_HomSearch_narrowNeighbors_85 (by decide) ?_
        refine r_istore (l' := [(4, .int 1), (0, .ref 103), (1, .ref a1), (2, .int v2), (3, .int v3), (5, .int v5)]) hg d_HomSearch_narrowNeighbors_86 (Nat.le_of_ble_eq_true rfl) rfl ?_
        refine r_sub [1, 2, 3, 4, 0, 5] rfl ?_
        exact t_HomSearch_narrowNeighbors_J88 hg hA rec_ hrec_ a1 h_a1 v2 v3 1 v5 μ_84
theorem t_HomSearch_narrowNeighbors_L45 {cx : HCx} (hg : HGood cx R_HomSearch b_HomSearch_narrowNeighbors 6 2 (some .boolean)) (hA : h_own cx)  : ∀ (fuel : Nat) (a1 : Nat) (h_a1 : HIsI a1) (v2 : Int32) (v3 : Int32) (v4 : Int32) (v5 : Int32) (μ : HMem), HX cx (HQ cx h_eI) (f_HomSearch_narrowNeighbors_L45  fuel a1 v2 v3 v4 v5 μ) 0 0 45 [(0, .ref 103), (1, .ref a1), (2, .int v2), (3, .int v3), (4, .int v4), (5, .int v5)] [] μ
  | 0, _, _, _, _, _, _, _ => by unfold f_HomSearch_narrowNeighbors_L45; exact HX.none
  | fuel + 1, a1, h_a1, v2, v3, v4, v5, μ => by
    rw [f_HomSearch_narrowNeighbors_L45]
    exact t_HomSearch_narrowNeighbors_L45_b hg hA   (f_HomSearch_narrowNeighbors_L45  fuel) (t_HomSearch_narrowNeighbors_L45 hg hA   fuel) a1 h_a1 v2 v3 v4 v5 μ
theorem t_HomSearch_narrowNeighbors_J39 {cx : HCx} (hg : HGood cx R_HomSearch b_HomSearch_narrowNeighbors 6 2 (some .boolean)) (hA : h_own cx)   (a1 : Nat) (h_a1 : HIsI a1) (v2 : Int32) (v3 : Int32) (μ : HMem) : HX cx (HQ cx h_eI) (f_HomSearch_narrowNeighbors_J39   a1 v2 v3 μ) 0 0 39 [(0, .ref 103), (1, .ref a1), (2, .int v2), (3, .int v3)] [] μ := by
  unfold f_HomSearch_narrowNeighbors_J39
  refine r_iconst (v := 0) hg d_HomSearch_narrowNeighbors_39 (by decide) ?_
  refine r_istore (l' := [(4, .int 0), (0, .ref 103), (1, .ref a1), (2, .int v2), (3, .int v3)]) hg d_HomSearch_narrowNeighbors_40 (Nat.le_of_ble_eq_true rfl) rfl ?_
  refine r_iconst (v := 0) hg d_HomSearch_narrowNeighbors_42 (by decide) ?_
  refine r_istore (l' := [(5, .int 0), (4, .int 0), (0, .ref 103), (1, .ref a1), (2, .int v2), (3, .int v3)]) hg d_HomSearch_narrowNeighbors_43 (Nat.le_of_ble_eq_true rfl) rfl ?_
  refine r_sub [2, 3, 4, 5, 1, 0] rfl ?_
  exact t_HomSearch_narrowNeighbors_L45 hg hA h_fuel a1 h_a1 v2 v3 0 0 μ
theorem t_HomSearch_narrowNeighbors_0 {cx : HCx} (hg : HGood cx R_HomSearch b_HomSearch_narrowNeighbors 6 2 (some .boolean)) (hA : h_own cx) (a1 : Nat) (h_a1 : HIsI a1) (v2 : Int32) (μ : HMem) : HX cx (HQ cx h_eI) (f_HomSearch_narrowNeighbors a1 v2 μ) 0 0 0 [(0, .ref 103), (1, .ref a1), (2, .int v2)] [] μ := by
  unfold f_HomSearch_narrowNeighbors
  refine r_iconst (v := 0) hg d_HomSearch_narrowNeighbors_0 (by decide) ?_
  refine r_istore_n (l' := [(3, .int 0), (0, .ref 103), (1, .ref a1), (2, .int v2)]) hg d_HomSearch_narrowNeighbors_1 rfl (Nat.le_of_ble_eq_true rfl) rfl ?_
  refine r_iconst (v := 0) hg d_HomSearch_narrowNeighbors_2 (by decide) ?_
  refine r_istore (l' := [(4, .int 0), (3, .int 0), (0, .ref 103), (1, .ref a1), (2, .int v2)]) hg d_HomSearch_narrowNeighbors_3 (Nat.le_of_ble_eq_true rfl) rfl ?_
  refine r_sub [2, 3, 4, 1, 0] rfl ?_
  exact t_HomSearch_narrowNeighbors_L5 hg hA f_HomSearch_narrowNeighbors_J39 (t_HomSearch_narrowNeighbors_J39 hg hA) h_fuel a1 h_a1 v2 0 0 μ
theorem t_HomSearch_narrowNeighbors (a1 : Nat) (h_a1 : HIsI a1) (v2 : Int32) (μ : HMem) : HSpec y_HomSearch_narrowNeighbors b_HomSearch_narrowNeighbors 6 (some .boolean) 2 h_eI [.ref 103, .ref a1, .int v2] μ (f_HomSearch_narrowNeighbors a1 v2 μ) :=
  HSpec.of (by decide +kernel) (v_HomSearch_narrowNeighbors.1 _ (by simp)) (Nat.le_of_ble_eq_true rfl) (fun cx hA hg => t_HomSearch_narrowNeighbors_0 hg hA a1 h_a1 v2 μ)
theorem t_HomSearch_narrow_J57 {cx : HCx} (hg : HGood cx R_HomSearch b_HomSearch_narrow 5 3 (some .boolean)) (hA : h_own cx)  (rec_ : Nat → Int32 → Int32 → Int32 → HMem → Option (Int32 × HMem)) (hrec_ : p_HomSearch_narrow_19 cx rec_) (a1 : Nat) (h_a1 : HIsI a1) (v2 : Int32) (v3 : Int32) (v4 : Int32) (μ : HMem) : HX cx (HQ cx h_eI) (f_HomSearch_narrow_J57  rec_ a1 v2 v3 v4 μ) 0 0 57 [(0, .ref 103), (1, .ref a1), (2, .int v2), (3, .int v3), (4, .int v4)] [] μ := by
  unfold f_HomSearch_narrow_J57
  refine r_letE (fun v4_57 he_57 => ?_)
  refine r_iinc (v := v4_57) (l' := [(4, .int v4_57), (0, .ref 103), (1, .ref a1), (2, .int v2), (3, .int v3)]) hg 4 d_HomSearch_narrow_57 rfl he_57 (Nat.le_of_ble_eq_true rfl) rfl ?_
  refine r_goto (tgt := 19) hg d_HomSearch_narrow_60 (by decide) ?_
  refine r_sub [1, 2, 3, 4, 0] rfl ?_
  exact hrec_ a1 h_a1 v2 v3 v4_57 μ
theorem t_HomSearch_narrow_L19_b {cx : HCx} (hg : HGood cx R_HomSearch b_HomSearch_narrow 5 3 (some .boolean)) (hA : h_own cx) (K63 : Nat → Int32 → Int32 → HMem → Option (Int32 × HMem)) (hK63 : p_HomSearch_narrow_63 cx K63) (rec_ : Nat → Int32 → Int32 → Int32 → HMem → Option (Int32 × HMem)) (hrec_ : p_HomSearch_narrow_19 cx rec_) (a1 : Nat) (h_a1 : HIsI a1) (v2 : Int32) (v3 : Int32) (v4 : Int32) (μ : HMem) : HX cx (HQ cx h_eI) (f_HomSearch_narrow_L19_b K63 rec_ a1 v2 v3 v4 μ) 0 0 19 [(0, .ref 103), (1, .ref a1), (2, .int v2), (3, .int v3), (4, .int v4)] [] μ := by
  unfold f_HomSearch_narrow_L19_b
  refine r_iload hg 4 d_HomSearch_narrow_19 rfl ?_
  refine r_bipush (v := 8) hg d_HomSearch_narrow_21 (by decide) ?_
  refine r_icmp_ge (tgt := 63) hg d_HomSearch_narrow_23 (by decide) ?_ ?_
  · refine r_sub [0, 1, 2, 3] rfl ?_
    exact hK63 a1 h_a1 v2 v3 μ
  · refine r_aload_n hg 0 d_HomSearch_narrow_26 rfl rfl ?_
    refine r_get (v := .int (μ.1 103 0)) hg c_HomSearch (by decide) rfl (Nat.le_of_ble_eq_true rfl) rfl wf_HomSearch_26 d_HomSearch_narrow_27 rfl ?_
    refine r_iload hg 4 d_HomSearch_narrow_30 rfl ?_
    refine r_callN (As := [.int (μ.1 103 0), .int v4]) (host := "HomBench") hg (t_Bench_has (μ.1 103 0) v4 μ) v_Bench_has (by decide) d_HomSearch_narrow_32 rfl ⟨by decide, by decide⟩ (Nat.le_of_ble_eq_true rfl) rfl (fun r32 μ_32 _ => ?_)
    refine r_if_eq (tgt := 57) hg d_HomSearch_narrow_35 (by decide) ?_ ?_
    · exact t_HomSearch_narrow_J57 hg hA rec_ hrec_ a1 h_a1 v2 v3 v4 μ_32
    · refine r_aload_n hg 1 d_HomSearch_narrow_38 rfl rfl ?_
      refine r_iload hg 4 d_HomSearch_narrow_39 rfl ?_
      refine r_iald hg (h_a1).1 (h_a1).2 d_HomSearch_narrow_41 ?_
      refine r_if_ne (tgt := 47) hg d_HomSearch_narrow_42 (by decide) ?_ ?_
      · refine r_iload_n hg 2 d_HomSearch_narrow_47 rfl rfl ?_
        refine r_aload_n hg 0 d_HomSearch_narrow_48 rfl rfl ?_
        refine r_aload_n hg 1 d_HomSearch_narrow_49 rfl rfl ?_
        refine r_iload hg 4 d_HomSearch_narrow_50 rfl ?_
        refine r_callV (As := [.ref a1, .int v4]) hg (t_HomSearch_narrowNeighbors a1 h_a1 v4 μ_32) v_HomSearch_narrowNeighbors c_HomSearch rfl (by decide) rfl wm_HomSearch_79 d_HomSearch_narrow_52 rfl ⟨by decide, by decide⟩ (Nat.le_of_ble_eq_true rfl) rfl (fun r52 μ_52 _ => ?_)
        refine r_ior hg d_HomSearch_narrow_55 ?_
        refine r_letI (fun v2_56 => ?_)
        refine r_istore_n (l' := [(2, .int v2_56), (0, .ref 103), (1, .ref a1), (3, .int v3), (4, .int v4)]) hg d_HomSearch_narrow_56 rfl (Nat.le_of_ble_eq_true rfl) rfl ?_
        refine r_sub [1, 2, 0, 3, 4] rfl ?_
        exact t_HomSearch_narrow_J57 hg hA rec_ hrec_ a1 h_a1 v2_56 v3 v4 μ_52
      · refine r_iconst (v := 0) hg d_HomSearch_narrow_45 (by decide) ?_
        exact r_zretB hg hA rfl d_HomSearch_narrow_46 rfl
theorem t_HomSearch_narrow_L19 {cx : HCx} (hg : HGood cx R_HomSearch b_HomSearch_narrow 5 3 (some .boolean)) (hA : h_own cx) (K63 : Nat → Int32 → Int32 → HMem → Option (Int32 × HMem)) (hK63 : p_HomSearch_narrow_63 cx K63) : ∀ (fuel : Nat) (a1 : Nat) (h_a1 : HIsI a1) (v2 : Int32) (v3 : Int32) (v4 : Int32) (μ : HMem), HX cx (HQ cx h_eI) (f_HomSearch_narrow_L19 K63 fuel a1 v2 v3 v4 μ) 0 0 19 [(0, .ref 103), (1, .ref a1), (2, .int v2), (3, .int v3), (4, .int v4)] [] μ
  | 0, _, _, _, _, _, _ => by unfold f_HomSearch_narrow_L19; exact HX.none
  | fuel + 1, a1, h_a1, v2, v3, v4, μ => by
    rw [f_HomSearch_narrow_L19]
    exact t_HomSearch_narrow_L19_b hg hA  K63 hK63 (f_HomSearch_narrow_L19 K63 fuel) (t_HomSearch_narrow_L19 hg hA  K63 hK63 fuel) a1 h_a1 v2 v3 v4 μ
theorem t_HomSearch_narrow_J63 {cx : HCx} (hg : HGood cx R_HomSearch b_HomSearch_narrow 5 3 (some .boolean)) (hA : h_own cx)  (rec_ : Nat → Int32 → Int32 → HMem → Option (Int32 × HMem)) (hrec_ : p_HomSearch_narrow_4 cx rec_) (a1 : Nat) (h_a1 : HIsI a1) (v2 : Int32) (v3 : Int32) (μ : HMem) : HX cx (HQ cx h_eI) (f_HomSearch_narrow_J63  rec_ a1 v2 v3 μ) 0 0 63 [(0, .ref 103), (1, .ref a1), (2, .int v2), (3, .int v3)] [] μ := by
  unfold f_HomSearch_narrow_J63
  refine r_letE (fun v3_63 he_63 => ?_)
  refine r_iinc (v := v3_63) (l' := [(3, .int v3_63), (0, .ref 103), (1, .ref a1), (2, .int v2)]) hg 3 d_HomSearch_narrow_63 rfl he_63 (Nat.le_of_ble_eq_true rfl) rfl ?_
  refine r_goto (tgt := 4) hg d_HomSearch_narrow_66 (by decide) ?_
  refine r_sub [1, 2, 3, 0] rfl ?_
  exact hrec_ a1 h_a1 v2 v3_63 μ
theorem t_HomSearch_narrow_L4_b {cx : HCx} (hg : HGood cx R_HomSearch b_HomSearch_narrow 5 3 (some .boolean)) (hA : h_own cx) (K69 : HMem → Option (Int32 × HMem)) (hK69 : p_HomSearch_narrow_69 cx K69) (rec_ : Nat → Int32 → Int32 → HMem → Option (Int32 × HMem)) (hrec_ : p_HomSearch_narrow_4 cx rec_) (a1 : Nat) (h_a1 : HIsI a1) (v2 : Int32) (v3 : Int32) (μ : HMem) : HX cx (HQ cx h_eI) (f_HomSearch_narrow_L4_b K69 rec_ a1 v2 v3 μ) 0 0 4 [(0, .ref 103), (1, .ref a1), (2, .int v2), (3, .int v3)] [] μ := by
  unfold f_HomSearch_narrow_L4_b
  refine r_iload_n hg 2 d_HomSearch_narrow_4 rfl rfl ?_
  refine r_if_eq (tgt := 69) hg d_HomSearch_narrow_5 (by decide) ?_ ?_
  · refine r_sub [] rfl ?_
    exact hK69 μ
  · refine r_iload_n hg 3 d_HomSearch_narrow_8 rfl rfl ?_
    refine r_bipush (v := 64) hg d_HomSearch_narrow_9 (by decide) ?_
    refine r_icmp_gt (tgt := 69) hg d_HomSearch_narrow_11 (by decide) ?_ ?_
    · refine r_sub [] rfl ?_
      exact hK69 μ
    · refine r_iconst (v := 0) hg d_HomSearch_narrow_14 (by decide) ?_
      refine r_istore_n (l' := [(2, .int 0), (0, .ref 103), (1, .ref a1), (3, .int v3)]) hg d_HomSearch_narrow_15 rfl (Nat.le_of_ble_eq_true rfl) rfl ?_
      refine r_iconst (v := 0) hg d_HomSearch_narrow_16 (by decide) ?_
      refine r_istore (l' := [(4, .int 0), (2, .int 0), (0, .ref 103), (1, .ref a1), (3, .int v3)]) hg d_HomSearch_narrow_17 (Nat.le_of_ble_eq_true rfl) rfl ?_
      refine r_sub [2, 3, 1, 4, 0] rfl ?_
      exact t_HomSearch_narrow_L19 hg hA (f_HomSearch_narrow_J63 rec_) (t_HomSearch_narrow_J63 hg hA rec_ hrec_) h_fuel a1 h_a1 0 v3 0 μ
theorem t_HomSearch_narrow_L4 {cx : HCx} (hg : HGood cx R_HomSearch b_HomSearch_narrow 5 3 (some .boolean)) (hA : h_own cx) (K69 : HMem → Option (Int32 × HMem)) (hK69 : p_HomSearch_narrow_69 cx K69) : ∀ (fuel : Nat) (a1 : Nat) (h_a1 : HIsI a1) (v2 : Int32) (v3 : Int32) (μ : HMem), HX cx (HQ cx h_eI) (f_HomSearch_narrow_L4 K69 fuel a1 v2 v3 μ) 0 0 4 [(0, .ref 103), (1, .ref a1), (2, .int v2), (3, .int v3)] [] μ
  | 0, _, _, _, _, _ => by unfold f_HomSearch_narrow_L4; exact HX.none
  | fuel + 1, a1, h_a1, v2, v3, μ => by
    rw [f_HomSearch_narrow_L4]
    exact t_HomSearch_narrow_L4_b hg hA  K69 hK69 (f_HomSearch_narrow_L4 K69 fuel) (t_HomSearch_narrow_L4 hg hA  K69 hK69 fuel) a1 h_a1 v2 v3 μ
theorem t_HomSearch_narrow_J69 {cx : HCx} (hg : HGood cx R_HomSearch b_HomSearch_narrow 5 3 (some .boolean)) (hA : h_own cx)    (μ : HMem) : HX cx (HQ cx h_eI) (f_HomSearch_narrow_J69   μ) 0 0 69 [] [] μ := by
  unfold f_HomSearch_narrow_J69
  refine r_iconst (v := 1) hg d_HomSearch_narrow_69 (by decide) ?_
  exact r_zretB hg hA rfl d_HomSearch_narrow_70 rfl
theorem t_HomSearch_narrow_0 {cx : HCx} (hg : HGood cx R_HomSearch b_HomSearch_narrow 5 3 (some .boolean)) (hA : h_own cx) (a1 : Nat) (h_a1 : HIsI a1) (μ : HMem) : HX cx (HQ cx h_eI) (f_HomSearch_narrow a1 μ) 0 0 0 [(0, .ref 103), (1, .ref a1)] [] μ := by
  unfold f_HomSearch_narrow
  refine r_iconst (v := 1) hg d_HomSearch_narrow_0 (by decide) ?_
  refine r_istore_n (l' := [(2, .int 1), (0, .ref 103), (1, .ref a1)]) hg d_HomSearch_narrow_1 rfl (Nat.le_of_ble_eq_true rfl) rfl ?_
  refine r_iconst (v := 0) hg d_HomSearch_narrow_2 (by decide) ?_
  refine r_istore_n (l' := [(3, .int 0), (2, .int 1), (0, .ref 103), (1, .ref a1)]) hg d_HomSearch_narrow_3 rfl (Nat.le_of_ble_eq_true rfl) rfl ?_
  refine r_sub [2, 3, 1, 0] rfl ?_
  exact t_HomSearch_narrow_L4 hg hA f_HomSearch_narrow_J69 (t_HomSearch_narrow_J69 hg hA) h_fuel a1 h_a1 1 0 μ
theorem t_HomSearch_narrow (a1 : Nat) (h_a1 : HIsI a1) (μ : HMem) : HSpec y_HomSearch_narrow b_HomSearch_narrow 5 (some .boolean) 3 h_eI [.ref 103, .ref a1] μ (f_HomSearch_narrow a1 μ) :=
  HSpec.of (by decide +kernel) (v_HomSearch_narrow.1 _ (by simp)) (Nat.le_of_ble_eq_true rfl) (fun cx hA hg => t_HomSearch_narrow_0 hg hA a1 h_a1 μ)
theorem t_HomSearch_openSource_J72 {cx : HCx} (hg : HGood cx R_HomSearch b_HomSearch_openSource 7 2 (some .int)) (hA : h_own cx)  (rec_ : Nat → Int32 → Int32 → Int32 → HMem → Option (Int32 × HMem)) (hrec_ : p_HomSearch_openSource_8 cx rec_) (a1 : Nat) (h_a1 : HIsI a1) (v2 : Int32) (v3 : Int32) (v4 : Int32) (μ : HMem) : HX cx (HQ cx h_eI) (f_HomSearch_openSource_J72  rec_ a1 v2 v3 v4 μ) 0 0 72 [(0, .ref 103), (1, .ref a1), (2, .int v2), (3, .int v3), (4, .int v4)] [] μ := by
  unfold f_HomSearch_openSource_J72
  refine r_letE (fun v4_72 he_72 => ?_)
  refine r_iinc (v := v4_72) (l' := [(4, .int v4_72), (0, .ref 103), (1, .ref a1), (2, .int v2), (3, .int v3)]) hg 4 d_HomSearch_openSource_72 rfl he_72 (Nat.le_of_ble_eq_true rfl) rfl ?_
  refine r_goto (tgt := 8) hg d_HomSearch_openSource_75 (by decide) ?_
  refine r_sub [1, 2, 3, 4, 0] rfl ?_
  exact hrec_ a1 h_a1 v2 v3 v4_72 μ
theorem t_HomSearch_openSource_L8_b {cx : HCx} (hg : HGood cx R_HomSearch b_HomSearch_openSource 7 2 (some .int)) (hA : h_own cx)  (rec_ : Nat → Int32 → Int32 → Int32 → HMem → Option (Int32 × HMem)) (hrec_ : p_HomSearch_openSource_8 cx rec_) (a1 : Nat) (h_a1 : HIsI a1) (v2 : Int32) (v3 : Int32) (v4 : Int32) (μ : HMem) : HX cx (HQ cx h_eI) (f_HomSearch_openSource_L8_b  rec_ a1 v2 v3 v4 μ) 0 0 8 [(0, .ref 103), (1, .ref a1), (2, .int v2), (3, .int v3), (4, .int v4)] [] μ := by
  unfold f_HomSearch_openSource_L8_b
  refine r_iload hg 4 d_HomSearch_openSource_8 rfl ?_
  refine r_bipush (v := 8) hg d_HomSearch_openSource_10 (by decide) ?_
  refine r_icmp_ge (tgt := 78) hg d_HomSearch_openSource_12 (by decide) ?_ ?_
  · refine r_iload_n hg 2 d_HomSearch_openSource_78 rfl rfl ?_
    exact r_iret hg hA rfl d_HomSearch_openSource_79 rfl
  · refine r_aload_n hg 1 d_HomSearch_openSource_15 rfl rfl ?_
    refine r_iload hg 4 d_HomSearch_openSource_16 rfl ?_
    refine r_iald hg (h_a1).1 (h_a1).2 d_HomSearch_openSource_18 ?_
    refine r_callS (As := [.int (μ.1 a1 (Int32.toNatClampNeg (v4)))]) hg (t_Integer_bitCount (μ.1 a1 (Int32.toNatClampNeg (v4))) μ) v_Integer_bitCount wm_HomSearch_83 d_HomSearch_openSource_19 rfl ⟨by decide, by decide⟩ (Nat.le_of_ble_eq_true rfl) rfl (fun r19 μ_19 _ => ?_)
    refine r_istore (l' := [(5, .int r19), (0, .ref 103), (1, .ref a1), (2, .int v2), (3, .int v3), (4, .int v4)]) hg d_HomSearch_openSource_22 (Nat.le_of_ble_eq_true rfl) rfl ?_
    refine r_bipush (v := 9) hg d_HomSearch_openSource_24 (by decide) ?_
    refine r_iload hg 0 d_HomSearch_openSource_26 rfl ?_
    refine r_imul hg d_HomSearch_openSource_28 ?_
    refine r_aload_n hg 1 d_HomSearch_openSource_29 rfl rfl ?_
    refine r_get (v := .ref 104) hg c_HomSearch (by decide) rfl (Nat.le_of_ble_eq_true rfl) rfl wf_HomSearch_9 d_HomSearch_openSource_30 rfl ?_
    refine r_iload hg 5 d_HomSearch_openSource_33 rfl ?_
    refine r_iald hg (by decide) rfl d_HomSearch_openSource_35 ?_
    refine r_callS (As := [.int (μ_19.1 104 (Int32.toNatClampNeg (v4)))]) hg (t_Integer_bitCount (μ_19.1 104 (Int32.toNatClampNeg (v4))) μ_19) v_Integer_bitCount wm_HomSearch_83 d_HomSearch_openSource_36 rfl ⟨by decide, by decide⟩ (Nat.le_of_ble_eq_true rfl) rfl (fun r36 μ_36 _ => ?_)
    refine r_isub hg d_HomSearch_openSource_39 ?_
    refine r_letI (fun v6_40 => ?_)
    refine r_istore (l' := [(6, .int v6_40), (5, .int r19), (0, .ref 103), (1, .ref a1), (2, .int v2), (3, .int v3), (4, .int v4)]) hg d_HomSearch_openSource_40 (Nat.le_of_ble_eq_true rfl) rfl ?_
    refine r_aload_n hg 2 d_HomSearch_openSource_42 rfl rfl ?_
    refine r_get (v := .int (μ_36.1 103 0)) hg c_HomSearch (by decide) rfl (Nat.le_of_ble_eq_true rfl) rfl wf_HomSearch_26 d_HomSearch_openSource_43 rfl ?_
    refine r_iload hg 6 d_HomSearch_openSource_46 rfl ?_
    refine r_callN (As := [.int (μ_36.1 103 0), .int v4]) (host := "HomBench") hg (t_Bench_has (μ_36.1 103 0) v4 μ_36) v_Bench_has (by decide) d_HomSearch_openSource_48 rfl ⟨by decide, by decide⟩ (Nat.le_of_ble_eq_true rfl) rfl (fun r48 μ_48 _ => ?_)
    refine r_if_eq (tgt := 72) hg d_HomSearch_openSource_51 (by decide) ?_ ?_
    · refine r_sub [2, 3, 4, 5, 6] rfl ?_
      exact t_HomSearch_openSource_J72 hg hA rec_ hrec_ a1 h_a1 v2 v3 v4 μ_48
    · refine r_iload hg 1 d_HomSearch_openSource_54 rfl ?_
      refine r_iconst (v := 1) hg d_HomSearch_openSource_56 (by decide) ?_
      refine r_icmp_le (tgt := 72) hg d_HomSearch_openSource_57 (by decide) ?_ ?_
      · refine r_sub [2, 3, 4, 5, 6] rfl ?_
        exact t_HomSearch_openSource_J72 hg hA rec_ hrec_ a1 h_a1 v2 v3 v4 μ_48
      · refine r_iload hg 0 d_HomSearch_openSource_60 rfl ?_
        refine r_iload_n hg 5 d_HomSearch_openSource_62 rfl rfl ?_
        refine r_icmp_ge (tgt := 72) hg d_HomSearch_openSource_63 (by decide) ?_ ?_
        · refine r_sub [2, 3, 4, 5, 6] rfl ?_
          exact t_HomSearch_openSource_J72 hg hA rec_ hrec_ a1 h_a1 v2 v3 v4 μ_48
        · refine r_iload hg 6 d_HomSearch_openSource_66 rfl ?_
          refine r_istore_n (l' := [(2, .int v4), (6, .int v6_40), (5, .int r19), (0, .ref 103), (1, .ref a1), (3, .int v3), (4, .int v4)]) hg d_HomSearch_openSource_68 rfl (Nat.le_of_ble_eq_true rfl) rfl ?_
          refine r_iload hg 1 d_HomSearch_openSource_69 rfl ?_
          refine r_istore_n (l' := [(3, .int v6_40), (2, .int v4), (6, .int v6_40), (5, .int r19), (0, .ref 103), (1, .ref a1), (4, .int v4)]) hg d_HomSearch_openSource_71 rfl (Nat.le_of_ble_eq_true rfl) rfl ?_
          refine r_sub [4, 5, 1, 0, 6] rfl ?_
          exact t_HomSearch_openSource_J72 hg hA rec_ hrec_ a1 h_a1 v4 v6_40 v4 μ_48
theorem t_HomSearch_openSource_L8 {cx : HCx} (hg : HGood cx R_HomSearch b_HomSearch_openSource 7 2 (some .int)) (hA : h_own cx)  : ∀ (fuel : Nat) (a1 : Nat) (h_a1 : HIsI a1) (v2 : Int32) (v3 : Int32) (v4 : Int32) (μ : HMem), HX cx (HQ cx h_eI) (f_HomSearch_openSource_L8  fuel a1 v2 v3 v4 μ) 0 0 8 [(0, .ref 103), (1, .ref a1), (2, .int v2), (3, .int v3), (4, .int v4)] [] μ
  | 0, _, _, _, _, _, _ => by unfold f_HomSearch_openSource_L8; exact HX.none
  | fuel + 1, a1, h_a1, v2, v3, v4, μ => by
    rw [f_HomSearch_openSource_L8]
    exact t_HomSearch_openSource_L8_b hg hA   (f_HomSearch_openSource_L8  fuel) (t_HomSearch_openSource_L8 hg hA   fuel) a1 h_a1 v2 v3 v4 μ
theorem t_HomSearch_openSource_0 {cx : HCx} (hg : HGood cx R_HomSearch b_HomSearch_openSource 7 2 (some .int)) (hA : h_own cx) (a1 : Nat) (h_a1 : HIsI a1) (μ : HMem) : HX cx (HQ cx h_eI) (f_HomSearch_openSource a1 μ) 0 0 0 [(0, .ref 103), (1, .ref a1)] [] μ := by
  unfold f_HomSearch_openSource
  refine r_iconst (v := -1) hg d_HomSearch_openSource_0 (by decide) ?_
  refine r_istore_n (l' := [(2, .int (-1)), (0, .ref 103), (1, .ref a1)]) hg d_HomSearch_openSource_1 rfl (Nat.le_of_ble_eq_true rfl) rfl ?_
  refine r_bipush (v := 81) hg d_HomSearch_openSource_2 (by decide) ?_
  refine r_istore_n (l' := [(3, .int 81), (2, .int (-1)), (0, .ref 103), (1, .ref a1)]) hg d_HomSearch_openSource_4 rfl (Nat.le_of_ble_eq_true rfl) rfl ?_
  refine r_iconst (v := 0) hg d_HomSearch_openSource_5 (by decide) ?_
  refine r_istore (l' := [(4, .int 0), (3, .int 81), (2, .int (-1)), (0, .ref 103), (1, .ref a1)]) hg d_HomSearch_openSource_6 (Nat.le_of_ble_eq_true rfl) rfl ?_
  refine r_sub [3, 4, 2, 1, 0] rfl ?_
  exact t_HomSearch_openSource_L8 hg hA h_fuel a1 h_a1 (-1) 81 0 μ
theorem t_HomSearch_openSource (a1 : Nat) (h_a1 : HIsI a1) (μ : HMem) : HSpec y_HomSearch_openSource b_HomSearch_openSource 7 (some .int) 2 h_eI [.ref 103, .ref a1] μ (f_HomSearch_openSource a1 μ) :=
  HSpec.of (by decide +kernel) (v_HomSearch_openSource.1 _ (by simp)) (Nat.le_of_ble_eq_true rfl) (fun cx hA hg => t_HomSearch_openSource_0 hg hA a1 h_a1 μ)
theorem t_HomSearch_interchangeable_J53 {cx : HCx} (hg : HGood cx R_HomSearch b_HomSearch_interchangeable 6 2 (some .boolean)) (hA : h_own cx)    (μ : HMem) : HX cx (HQ cx h_eI) (f_HomSearch_interchangeable_J53   μ) 0 0 53 [] [] μ := by
  unfold f_HomSearch_interchangeable_J53
  refine r_iconst (v := 0) hg d_HomSearch_interchangeable_53 (by decide) ?_
  exact r_zretB hg hA rfl d_HomSearch_interchangeable_54 rfl
theorem t_HomSearch_interchangeable_J98 {cx : HCx} (hg : HGood cx R_HomSearch b_HomSearch_interchangeable 6 2 (some .boolean)) (hA : h_own cx)  (rec_ : Nat → Int32 → Int32 → Int32 → HMem → Option (Int32 × HMem)) (hrec_ : p_HomSearch_interchangeable_58 cx rec_) (a1 : Nat) (h_a1 : HIsI a1) (v2 : Int32) (v3 : Int32) (v5 : Int32) (μ : HMem) : HX cx (HQ cx h_eI) (f_HomSearch_interchangeable_J98  rec_ a1 v2 v3 v5 μ) 0 0 98 [(0, .ref 103), (1, .ref a1), (2, .int v2), (3, .int v3), (5, .int v5)] [] μ := by
  unfold f_HomSearch_interchangeable_J98
  refine r_letE (fun v5_98 he_98 => ?_)
  refine r_iinc (v := v5_98) (l' := [(5, .int v5_98), (0, .ref 103), (1, .ref a1), (2, .int v2), (3, .int v3)]) hg 4 d_HomSearch_interchangeable_98 rfl he_98 (Nat.le_of_ble_eq_true rfl) rfl ?_
  refine r_goto (tgt := 58) hg d_HomSearch_interchangeable_101 (by decide) ?_
  refine r_sub [1, 2, 3, 4, 0] rfl ?_
  exact hrec_ a1 h_a1 v2 v3 v5_98 μ
theorem t_HomSearch_interchangeable_L58_b {cx : HCx} (hg : HGood cx R_HomSearch b_HomSearch_interchangeable 6 2 (some .boolean)) (hA : h_own cx)  (rec_ : Nat → Int32 → Int32 → Int32 → HMem → Option (Int32 × HMem)) (hrec_ : p_HomSearch_interchangeable_58 cx rec_) (a1 : Nat) (h_a1 : HIsI a1) (v2 : Int32) (v3 : Int32) (v5 : Int32) (μ : HMem) : HX cx (HQ cx h_eI) (f_HomSearch_interchangeable_L58_b  rec_ a1 v2 v3 v5 μ) 0 0 58 [(0, .ref 103), (1, .ref a1), (2, .int v2), (3, .int v3), (5, .int v5)] [] μ := by
  unfold f_HomSearch_interchangeable_L58_b
  refine r_iload hg 4 d_HomSearch_interchangeable_58 rfl ?_
  refine r_bipush (v := 8) hg d_HomSearch_interchangeable_60 (by decide) ?_
  refine r_icmp_ge (tgt := 104) hg d_HomSearch_interchangeable_62 (by decide) ?_ ?_
  · refine r_iconst (v := 1) hg d_HomSearch_interchangeable_104 (by decide) ?_
    exact r_zretB hg hA rfl d_HomSearch_interchangeable_105 rfl
  · refine r_aload_n hg 0 d_HomSearch_interchangeable_65 rfl rfl ?_
    refine r_get (v := .int (μ.1 103 0)) hg c_HomSearch (by decide) rfl (Nat.le_of_ble_eq_true rfl) rfl wf_HomSearch_26 d_HomSearch_interchangeable_66 rfl ?_
    refine r_iload hg 4 d_HomSearch_interchangeable_69 rfl ?_
    refine r_callN (As := [.int (μ.1 103 0), .int v5]) (host := "HomBench") hg (t_Bench_has (μ.1 103 0) v5 μ) v_Bench_has (by decide) d_HomSearch_interchangeable_71 rfl ⟨by decide, by decide⟩ (Nat.le_of_ble_eq_true rfl) rfl (fun r71 μ_71 _ => ?_)
    refine r_if_eq (tgt := 98) hg d_HomSearch_interchangeable_74 (by decide) ?_ ?_
    · exact t_HomSearch_interchangeable_J98 hg hA rec_ hrec_ a1 h_a1 v2 v3 v5 μ_71
    · refine r_aload_n hg 1 d_HomSearch_interchangeable_77 rfl rfl ?_
      refine r_iload hg 4 d_HomSearch_interchangeable_78 rfl ?_
      refine r_iald hg (h_a1).1 (h_a1).2 d_HomSearch_interchangeable_80 ?_
      refine r_iload_n hg 2 d_HomSearch_interchangeable_81 rfl rfl ?_
      refine r_callN (As := [.int (μ_71.1 a1 (Int32.toNatClampNeg (v5))), .int v2]) (host := "HomBench") hg (t_Bench_has (μ_71.1 a1 (Int32.toNatClampNeg (v5))) v2 μ_71) v_Bench_has (by decide) d_HomSearch_interchangeable_82 rfl ⟨by decide, by decide⟩ (Nat.le_of_ble_eq_true rfl) rfl (fun r82 μ_82 _ => ?_)
      refine r_aload_n hg 1 d_HomSearch_interchangeable_85 rfl rfl ?_
      refine r_iload hg 4 d_HomSearch_interchangeable_86 rfl ?_
      refine r_iald hg (h_a1).1 (h_a1).2 d_HomSearch_interchangeable_88 ?_
      refine r_iload_n hg 3 d_HomSearch_interchangeable_89 rfl rfl ?_
      refine r_callN (As := [.int (μ_82.1 a1 (Int32.toNatClampNeg (v5))), .int v3]) (host := "HomBench") hg (t_Bench_has (μ_82.1 a1 (Int32.toNatClampNeg (v5))) v3 μ_82) v_Bench_has (by decide) d_HomSearch_interchangeable_90 rfl ⟨by decide, by decide⟩ (Nat.le_of_ble_eq_true rfl) rfl (fun r90 μ_90 _ => ?_)
      refine r_icmp_eq (tgt := 98) hg d_HomSearch_interchangeable_93 (by decide) ?_ ?_
      · exact t_HomSearch_interchangeable_J98 hg hA rec_ hrec_ a1 h_a1 v2 v3 v5 μ_90
      · refine r_iconst (v := 0) hg d_HomSearch_interchangeable_96 (by decide) ?_
        exact r_zretB hg hA rfl d_HomSearch_interchangeable_97 rfl
theorem t_HomSearch_interchangeable_L58 {cx : HCx} (hg : HGood cx R_HomSearch b_HomSearch_interchangeable 6 2 (some .boolean)) (hA : h_own cx)  : ∀ (fuel : Nat) (a1 : Nat) (h_a1 : HIsI a1) (v2 : Int32) (v3 : Int32) (v5 : Int32) (μ : HMem), HX cx (HQ cx h_eI) (f_HomSearch_interchangeable_L58  fuel a1 v2 v3 v5 μ) 0 0 58 [(0, .ref 103), (1, .ref a1), (2, .int v2), (3, .int v3), (5, .int v5)] [] μ
  | 0, _, _, _, _, _, _ => by unfold f_HomSearch_interchangeable_L58; exact HX.none
  | fuel + 1, a1, h_a1, v2, v3, v5, μ => by
    rw [f_HomSearch_interchangeable_L58]
    exact t_HomSearch_interchangeable_L58_b hg hA   (f_HomSearch_interchangeable_L58  fuel) (t_HomSearch_interchangeable_L58 hg hA   fuel) a1 h_a1 v2 v3 v5 μ
theorem t_HomSearch_interchangeable_0 {cx : HCx} (hg : HGood cx R_HomSearch b_HomSearch_interchangeable 6 2 (some .boolean)) (hA : h_own cx) (a1 : Nat) (h_a1 : HIsI a1) (v2 : Int32) (v3 : Int32) (μ : HMem) : HX cx (HQ cx h_eI) (f_HomSearch_interchangeable a1 v2 v3 μ) 0 0 0 [(0, .ref 103), (1, .ref a1), (2, .int v2), (3, .int v3)] [] μ := by
  unfold f_HomSearch_interchangeable
  refine r_iconst (v := 1) hg d_HomSearch_interchangeable_0 (by decide) ?_
  refine r_iload_n hg 2 d_HomSearch_interchangeable_1 rfl rfl ?_
  refine r_ishl hg d_HomSearch_interchangeable_2 ?_
  refine r_iconst (v := 1) hg d_HomSearch_interchangeable_3 (by decide) ?_
  refine r_iload_n hg 3 d_HomSearch_interchangeable_4 rfl rfl ?_
  refine r_ishl hg d_HomSearch_interchangeable_5 ?_
  refine r_ior hg d_HomSearch_interchangeable_6 ?_
  refine r_letI (fun v4_7 => ?_)
  refine r_istore (l' := [(4, .int v4_7), (0, .ref 103), (1, .ref a1), (2, .int v2), (3, .int v3)]) hg d_HomSearch_interchangeable_7 (Nat.le_of_ble_eq_true rfl) rfl ?_
  refine r_aload_n hg 1 d_HomSearch_interchangeable_9 rfl rfl ?_
  refine r_get (v := .ref 105) hg c_HomSearch (by decide) rfl (Nat.le_of_ble_eq_true rfl) rfl wf_HomSearch_15 d_HomSearch_interchangeable_10 rfl ?_
  refine r_iload_n hg 3 d_HomSearch_interchangeable_13 rfl rfl ?_
  refine r_iald hg (by decide) rfl d_HomSearch_interchangeable_14 ?_
  refine r_aload_n hg 1 d_HomSearch_interchangeable_15 rfl rfl ?_
  refine r_get (v := .ref 105) hg c_HomSearch (by decide) rfl (Nat.le_of_ble_eq_true rfl) rfl wf_HomSearch_15 d_HomSearch_interchangeable_16 rfl ?_
  refine r_iload_n hg 4 d_HomSearch_interchangeable_19 rfl rfl ?_
  refine r_iald hg (by decide) rfl d_HomSearch_interchangeable_20 ?_
  refine r_ixor hg d_HomSearch_interchangeable_21 ?_
  refine r_iload hg 0 d_HomSearch_interchangeable_22 rfl ?_
  refine r_iconst (v := -1) hg d_HomSearch_interchangeable_24 (by decide) ?_
  refine r_ixor hg d_HomSearch_interchangeable_25 ?_
  refine r_iand hg d_HomSearch_interchangeable_26 ?_
  refine r_if_ne (tgt := 53) hg d_HomSearch_interchangeable_27 (by decide) ?_ ?_
  · refine r_sub [] rfl ?_
    exact t_HomSearch_interchangeable_J53 hg hA μ
  · refine r_aload_n hg 1 d_HomSearch_interchangeable_30 rfl rfl ?_
    refine r_get (v := .ref 105) hg c_HomSearch (by decide) rfl (Nat.le_of_ble_eq_true rfl) rfl wf_HomSearch_15 d_HomSearch_interchangeable_31 rfl ?_
    refine r_iload_n hg 3 d_HomSearch_interchangeable_34 rfl rfl ?_
    refine r_iald hg (by decide) rfl d_HomSearch_interchangeable_35 ?_
    refine r_iload_n hg 3 d_HomSearch_interchangeable_36 rfl rfl ?_
    refine r_callN (As := [.int (μ.1 105 (Int32.toNatClampNeg (v2))), .int v2]) (host := "HomBench") hg (t_Bench_has (μ.1 105 (Int32.toNatClampNeg (v2))) v2 μ) v_Bench_has (by decide) d_HomSearch_interchangeable_37 rfl ⟨by decide, by decide⟩ (Nat.le_of_ble_eq_true rfl) rfl (fun r37 μ_37 _ => ?_)
    refine r_aload_n hg 1 d_HomSearch_interchangeable_40 rfl rfl ?_
    refine r_get (v := .ref 105) hg c_HomSearch (by decide) rfl (Nat.le_of_ble_eq_true rfl) rfl wf_HomSearch_15 d_HomSearch_interchangeable_41 rfl ?_
    refine r_iload_n hg 4 d_HomSearch_interchangeable_44 rfl rfl ?_
    refine r_iald hg (by decide) rfl d_HomSearch_interchangeable_45 ?_
    refine r_iload_n hg 4 d_HomSearch_interchangeable_46 rfl rfl ?_
    refine r_callN (As := [.int (μ_37.1 105 (Int32.toNatClampNeg (v3))), .int v3]) (host := "HomBench") hg (t_Bench_has (μ_37.1 105 (Int32.toNatClampNeg (v3))) v3 μ_37) v_Bench_has (by decide) d_HomSearch_interchangeable_47 rfl ⟨by decide, by decide⟩ (Nat.le_of_ble_eq_true rfl) rfl (fun r47 μ_47 _ => ?_)
    refine r_icmp_eq (tgt := 55) hg d_HomSearch_interchangeable_50 (by decide) ?_ ?_
    · refine r_iconst (v := 0) hg d_HomSearch_interchangeable_55 (by decide) ?_
      refine r_istore (l' := [(5, .int 0), (4, .int v4_7), (0, .ref 103), (1, .ref a1), (2, .int v2), (3, .int v3)]) hg d_HomSearch_interchangeable_56 (Nat.le_of_ble_eq_true rfl) rfl ?_
      refine r_sub [2, 3, 4, 5, 0] rfl ?_
      exact t_HomSearch_interchangeable_L58 hg hA h_fuel a1 h_a1 v2 v3 0 μ_47
    · refine r_sub [] rfl ?_
      exact t_HomSearch_interchangeable_J53 hg hA μ_47
theorem t_HomSearch_interchangeable (a1 : Nat) (h_a1 : HIsI a1) (v2 : Int32) (v3 : Int32) (μ : HMem) : HSpec y_HomSearch_interchangeable b_HomSearch_interchangeable 6 (some .boolean) 2 h_eI [.ref 103, .ref a1, .int v2, .int v3] μ (f_HomSearch_interchangeable a1 v2 v3 μ) :=
  HSpec.of (by decide +kernel) (v_HomSearch_interchangeable.1 _ (by simp)) (Nat.le_of_ble_eq_true rfl) (fun cx hA hg => t_HomSearch_interchangeable_0 hg hA a1 h_a1 v2 v3 μ)
theorem t_HomSearch_likeOneOf_J31 {cx : HCx} (hg : HGood cx R_HomSearch b_HomSearch_likeOneOf 5 3 (some .boolean)) (hA : h_own cx)  (rec_ : Nat → Int32 → Int32 → Int32 → HMem → Option (Int32 × HMem)) (hrec_ : p_HomSearch_likeOneOf_3 cx rec_) (a1 : Nat) (h_a1 : HIsI a1) (v2 : Int32) (v3 : Int32) (v4 : Int32) (μ : HMem) : HX cx (HQ cx h_eI) (f_HomSearch_likeOneOf_J31  rec_ a1 v2 v3 v4 μ) 0 0 31 [(0, .ref 103), (1, .ref a1), (2, .int v2), (3, .int v3), (4, .int v4)] [] μ := by
  unfold f_HomSearch_likeOneOf_J31
  refine r_letE (fun v4_31 he_31 => ?_)
  refine r_iinc (v := v4_31) (l' := [(4, .int v4_31), (0, .ref 103), (1, .ref a1), (2, .int v2), (3, .int v3)]) hg 4 d_HomSearch_likeOneOf_31 rfl he_31 (Nat.le_of_ble_eq_true rfl) rfl ?_
  refine r_goto (tgt := 3) hg d_HomSearch_likeOneOf_34 (by decide) ?_
  refine r_sub [1, 2, 3, 4, 0] rfl ?_
  exact hrec_ a1 h_a1 v2 v3 v4_31 μ
theorem t_HomSearch_likeOneOf_L3_b {cx : HCx} (hg : HGood cx R_HomSearch b_HomSearch_likeOneOf 5 3 (some .boolean)) (hA : h_own cx)  (rec_ : Nat → Int32 → Int32 → Int32 → HMem → Option (Int32 × HMem)) (hrec_ : p_HomSearch_likeOneOf_3 cx rec_) (a1 : Nat) (h_a1 : HIsI a1) (v2 : Int32) (v3 : Int32) (v4 : Int32) (μ : HMem) : HX cx (HQ cx h_eI) (f_HomSearch_likeOneOf_L3_b  rec_ a1 v2 v3 v4 μ) 0 0 3 [(0, .ref 103), (1, .ref a1), (2, .int v2), (3, .int v3), (4, .int v4)] [] μ := by
  unfold f_HomSearch_likeOneOf_L3_b
  refine r_iload hg 4 d_HomSearch_likeOneOf_3 rfl ?_
  refine r_iload_n hg 2 d_HomSearch_likeOneOf_5 rfl rfl ?_
  refine r_icmp_ge (tgt := 37) hg d_HomSearch_likeOneOf_6 (by decide) ?_ ?_
  · refine r_iconst (v := 0) hg d_HomSearch_likeOneOf_37 (by decide) ?_
    exact r_zretB hg hA rfl d_HomSearch_likeOneOf_38 rfl
  · refine r_iload_n hg 3 d_HomSearch_likeOneOf_9 rfl rfl ?_
    refine r_iload hg 4 d_HomSearch_likeOneOf_10 rfl ?_
    refine r_callN (As := [.int v3, .int v4]) (host := "HomBench") hg (t_Bench_has v3 v4 μ) v_Bench_has (by decide) d_HomSearch_likeOneOf_12 rfl ⟨by decide, by decide⟩ (Nat.le_of_ble_eq_true rfl) rfl (fun r12 μ_12 _ => ?_)
    refine r_if_eq (tgt := 31) hg d_HomSearch_likeOneOf_15 (by decide) ?_ ?_
    · exact t_HomSearch_likeOneOf_J31 hg hA rec_ hrec_ a1 h_a1 v2 v3 v4 μ_12
    · refine r_aload_n hg 0 d_HomSearch_likeOneOf_18 rfl rfl ?_
      refine r_aload_n hg 1 d_HomSearch_likeOneOf_19 rfl rfl ?_
      refine r_iload_n hg 2 d_HomSearch_likeOneOf_20 rfl rfl ?_
      refine r_iload hg 4 d_HomSearch_likeOneOf_21 rfl ?_
      refine r_callV (As := [.ref a1, .int v2, .int v4]) hg (t_HomSearch_interchangeable a1 h_a1 v2 v4 μ_12) v_HomSearch_interchangeable c_HomSearch rfl (by decide) rfl wm_HomSearch_88 d_HomSearch_likeOneOf_23 rfl ⟨by decide, by decide⟩ (Nat.le_of_ble_eq_true rfl) rfl (fun r23 μ_23 _ => ?_)
      refine r_if_eq (tgt := 31) hg d_HomSearch_likeOneOf_26 (by decide) ?_ ?_
      · exact t_HomSearch_likeOneOf_J31 hg hA rec_ hrec_ a1 h_a1 v2 v3 v4 μ_23
      · refine r_iconst (v := 1) hg d_HomSearch_likeOneOf_29 (by decide) ?_
        exact r_zretB hg hA rfl d_HomSearch_likeOneOf_30 rfl
theorem t_HomSearch_likeOneOf_L3 {cx : HCx} (hg : HGood cx R_HomSearch b_HomSearch_likeOneOf 5 3 (some .boolean)) (hA : h_own cx)  : ∀ (fuel : Nat) (a1 : Nat) (h_a1 : HIsI a1) (v2 : Int32) (v3 : Int32) (v4 : Int32) (μ : HMem), HX cx (HQ cx h_eI) (f_HomSearch_likeOneOf_L3  fuel a1 v2 v3 v4 μ) 0 0 3 [(0, .ref 103), (1, .ref a1), (2, .int v2), (3, .int v3), (4, .int v4)] [] μ
  | 0, _, _, _, _, _, _ => by unfold f_HomSearch_likeOneOf_L3; exact HX.none
  | fuel + 1, a1, h_a1, v2, v3, v4, μ => by
    rw [f_HomSearch_likeOneOf_L3]
    exact t_HomSearch_likeOneOf_L3_b hg hA   (f_HomSearch_likeOneOf_L3  fuel) (t_HomSearch_likeOneOf_L3 hg hA   fuel) a1 h_a1 v2 v3 v4 μ
theorem t_HomSearch_likeOneOf_0 {cx : HCx} (hg : HGood cx R_HomSearch b_HomSearch_likeOneOf 5 3 (some .boolean)) (hA : h_own cx) (a1 : Nat) (h_a1 : HIsI a1) (v2 : Int32) (v3 : Int32) (μ : HMem) : HX cx (HQ cx h_eI) (f_HomSearch_likeOneOf a1 v2 v3 μ) 0 0 0 [(0, .ref 103), (1, .ref a1), (2, .int v2), (3, .int v3)] [] μ := by
  unfold f_HomSearch_likeOneOf
  refine r_iconst (v := 0) hg d_HomSearch_likeOneOf_0 (by decide) ?_
  refine r_istore (l' := [(4, .int 0), (0, .ref 103), (1, .ref a1), (2, .int v2), (3, .int v3)]) hg d_HomSearch_likeOneOf_1 (Nat.le_of_ble_eq_true rfl) rfl ?_
  refine r_sub [1, 2, 3, 4, 0] rfl ?_
  exact t_HomSearch_likeOneOf_L3 hg hA h_fuel a1 h_a1 v2 v3 0 μ
theorem t_HomSearch_likeOneOf (a1 : Nat) (h_a1 : HIsI a1) (v2 : Int32) (v3 : Int32) (μ : HMem) : HSpec y_HomSearch_likeOneOf b_HomSearch_likeOneOf 5 (some .boolean) 3 h_eI [.ref 103, .ref a1, .int v2, .int v3] μ (f_HomSearch_likeOneOf a1 v2 v3 μ) :=
  HSpec.of (by decide +kernel) (v_HomSearch_likeOneOf.1 _ (by simp)) (Nat.le_of_ble_eq_true rfl) (fun cx hA hg => t_HomSearch_likeOneOf_0 hg hA a1 h_a1 v2 v3 μ)
theorem t_HomSearch_extendable_J129 {rd : Nat} {cx : HCx} (hg : HGood cx R_HomSearch b_HomSearch_extendable 8 (4 + (rd + 1)) (some .boolean)) (hA : h_own cx) (fr_ : Nat → Int32 → HMem → Option (Int32 × HMem)) (ih : ∀ (a1 : Nat) (h_a1 : HIsI a1) (v2 : Int32) (μ : HMem), HSpec y_HomSearch_extendable b_HomSearch_extendable 8 (some .boolean) (4 + rd) h_eI [.ref 103, .ref a1, .int v2] μ (fr_ a1 v2 μ))  (rec_ : Int32 → Nat → Int32 → Int32 → Int32 → Int32 → HMem → Option (Int32 × HMem)) (hrec_ : p_HomSearch_extendable_64 cx rec_) (v2 : Int32) (a3 : Nat) (h_a3 : HIsI a3) (v4 : Int32) (v5 : Int32) (v6 : Int32) (v7 : Int32) (μ : HMem) : HX cx (HQ cx h_eI) (f_HomSearch_extendable_J129 fr_  rec_ v2 a3 v4 v5 v6 v7 μ) 0 0 129 [(0, .ref 103), (2, .int v2), (3, .ref a3), (4, .int v4), (5, .int v5), (6, .int v6), (7, .int v7)] [] μ := by
  unfold f_HomSearch_extendable_J129
  refine r_letE (fun v7_129 he_129 => ?_)
  refine r_iinc (v := v7_129) (l' := [(7, .int v7_129), (0, .ref 103), (2, .int v2), (3, .ref a3), (4, .int v4), (5, .int v5), (6, .int v6)]) hg 6 d_HomSearch_extendable_129 rfl he_129 (Nat.le_of_ble_eq_true rfl) rfl ?_
  refine r_goto (tgt := 64) hg d_HomSearch_extendable_132 (by decide) ?_
  refine r_sub [1, 2, 3, 4, 5, 6, 0] rfl ?_
  exact hrec_ v2 a3 h_a3 v4 v5 v6 v7_129 μ
theorem t_HomSearch_extendable_L64_b {rd : Nat} {cx : HCx} (hg : HGood cx R_HomSearch b_HomSearch_extendable 8 (4 + (rd + 1)) (some .boolean)) (hA : h_own cx) (fr_ : Nat → Int32 → HMem → Option (Int32 × HMem)) (ih : ∀ (a1 : Nat) (h_a1 : HIsI a1) (v2 : Int32) (μ : HMem), HSpec y_HomSearch_extendable b_HomSearch_extendable 8 (some .boolean) (4 + rd) h_eI [.ref 103, .ref a1, .int v2] μ (fr_ a1 v2 μ))  (rec_ : Int32 → Nat → Int32 → Int32 → Int32 → Int32 → HMem → Option (Int32 × HMem)) (hrec_ : p_HomSearch_extendable_64 cx rec_) (v2 : Int32) (a3 : Nat) (h_a3 : HIsI a3) (v4 : Int32) (v5 : Int32) (v6 : Int32) (v7 : Int32) (μ : HMem) : HX cx (HQ cx h_eI) (f_HomSearch_extendable_L64_b fr_  rec_ v2 a3 v4 v5 v6 v7 μ) 0 0 64 [(0, .ref 103), (2, .int v2), (3, .ref a3), (4, .int v4), (5, .int v5), (6, .int v6), (7, .int v7)] [] μ := by
  unfold f_HomSearch_extendable_L64_b
  refine r_iload hg 6 d_HomSearch_extendable_64 rfl ?_
  refine r_bipush (v := 8) hg d_HomSearch_extendable_66 (by decide) ?_
  refine r_icmp_ge (tgt := 135) hg d_HomSearch_extendable_68 (by decide) ?_ ?_
  · refine r_iconst (v := 0) hg d_HomSearch_extendable_135 (by decide) ?_
    exact r_zretB hg hA rfl d_HomSearch_extendable_136 rfl
  · refine r_iload hg 4 d_HomSearch_extendable_71 rfl ?_
    refine r_iload hg 6 d_HomSearch_extendable_73 rfl ?_
    refine r_callN (As := [.int v5, .int v7]) (host := "HomBench") hg (t_Bench_has v5 v7 μ) v_Bench_has (by decide) d_HomSearch_extendable_75 rfl ⟨by omega, by decide⟩ (Nat.le_of_ble_eq_true rfl) rfl (fun r75 μ_75 _ => ?_)
    refine r_if_eq (tgt := 129) hg d_HomSearch_extendable_78 (by decide) ?_ ?_
    · exact t_HomSearch_extendable_J129 hg hA fr_ ih rec_ hrec_ v2 a3 h_a3 v4 v5 v6 v7 μ_75
    · refine r_aload_n hg 0 d_HomSearch_extendable_81 rfl rfl ?_
      refine r_aload_n hg 2 d_HomSearch_extendable_82 rfl rfl ?_
      refine r_iload hg 6 d_HomSearch_extendable_83 rfl ?_
      refine r_iload hg 5 d_HomSearch_extendable_85 rfl ?_
      refine r_callV (As := [.ref a3, .int v7, .int v6]) hg (t_HomSearch_likeOneOf a3 h_a3 v7 v6 μ_75) v_HomSearch_likeOneOf c_HomSearch rfl (by decide) rfl wm_HomSearch_75 d_HomSearch_extendable_87 rfl ⟨by omega, by decide⟩ (Nat.le_of_ble_eq_true rfl) rfl (fun r87 μ_87 _ => ?_)
      refine r_if_ne (tgt := 129) hg d_HomSearch_extendable_90 (by decide) ?_ ?_
      · exact t_HomSearch_extendable_J129 hg hA fr_ ih rec_ hrec_ v2 a3 h_a3 v4 v5 v6 v7 μ_87
      · refine r_aload_n hg 2 d_HomSearch_extendable_93 rfl rfl ?_
        refine r_iload hg 3 d_HomSearch_extendable_94 rfl ?_
        refine r_iconst (v := 1) hg d_HomSearch_extendable_96 (by decide) ?_
        refine r_iload hg 6 d_HomSearch_extendable_97 rfl ?_
        refine r_ishl hg d_HomSearch_extendable_99 ?_
        refine r_iast hg (h_a3).1 (h_a3).2 d_HomSearch_extendable_100 ?_
        refine r_letM (fun μ_100 => ?_)
        refine r_aload_n hg 0 d_HomSearch_extendable_101 rfl rfl ?_
        refine r_aload_n hg 2 d_HomSearch_extendable_102 rfl rfl ?_
        refine r_iload_n hg 1 d_HomSearch_extendable_103 rfl rfl ?_
        refine r_iconst (v := 1) hg d_HomSearch_extendable_104 (by decide) ?_
        refine r_iadd hg d_HomSearch_extendable_105 ?_
        refine r_callS (As := [.ref 103, .ref a3, .int (v2 + 1)]) hg (ih a3 h_a3 (v2 + 1) μ_100) v_HomSearch_extendable wm_HomSearch_50 d_HomSearch_extendable_106 rfl ⟨by omega, by decide⟩ (Nat.le_of_ble_eq_true rfl) rfl (fun r106 μ_106 _ => ?_)
        refine r_if_eq (tgt := 114) hg d_HomSearch_extendable_109 (by decide) ?_ ?_
        · refine r_aload_n hg 2 d_HomSearch_extendable_114 rfl rfl ?_
          refine r_iload hg 3 d_HomSearch_extendable_115 rfl ?_
          refine r_iload hg 4 d_HomSearch_extendable_117 rfl ?_
          refine r_iast hg (h_a3).1 (h_a3).2 d_HomSearch_extendable_119 ?_
          refine r_letM (fun μ_119 => ?_)
          refine r_iload hg 5 d_HomSearch_extendable_120 rfl ?_
          refine r_iconst (v := 1) hg d_HomSearch_extendable_122 (by decide) ?_
          refine r_iload hg 6 d_HomSearch_extendable_123 rfl ?_
          refine r_ishl hg d_HomSearch_extendable_125 ?_
          refine r_ior hg d_HomSearch_extendable_126 ?_
          refine r_letI (fun v6_127 => ?_)
          refine r_istore (l' := [(6, .int v6_127), (0, .ref 103), (2, .int v2), (3, .ref a3), (4, .int v4), (5, .int v5), (7, .int v7)]) hg d_HomSearch_extendable_127 (Nat.le_of_ble_eq_true rfl) rfl ?_
          refine r_sub [1, 2, 3, 4, 5, 0, 6] rfl ?_
          exact t_HomSearch_extendable_J129 hg hA fr_ ih rec_ hrec_ v2 a3 h_a3 v4 v5 v6_127 v7 μ_119
        · refine r_iconst (v := 1) hg d_HomSearch_extendable_112 (by decide) ?_
          exact r_zretB hg hA rfl d_HomSearch_extendable_113 rfl
theorem t_HomSearch_extendable_L64 {rd : Nat} {cx : HCx} (hg : HGood cx R_HomSearch b_HomSearch_extendable 8 (4 + (rd + 1)) (some .boolean)) (hA : h_own cx) (fr_ : Nat → Int32 → HMem → Option (Int32 × HMem)) (ih : ∀ (a1 : Nat) (h_a1 : HIsI a1) (v2 : Int32) (μ : HMem), HSpec y_HomSearch_extendable b_HomSearch_extendable 8 (some .boolean) (4 + rd) h_eI [.ref 103, .ref a1, .int v2] μ (fr_ a1 v2 μ))  : ∀ (fuel : Nat) (v2 : Int32) (a3 : Nat) (h_a3 : HIsI a3) (v4 : Int32) (v5 : Int32) (v6 : Int32) (v7 : Int32) (μ : HMem), HX cx (HQ cx h_eI) (f_HomSearch_extendable_L64 fr_  fuel v2 a3 v4 v5 v6 v7 μ) 0 0 64 [(0, .ref 103), (2, .int v2), (3, .ref a3), (4, .int v4), (5, .int v5), (6, .int v6), (7, .int v7)] [] μ
  | 0, _, _, _, _, _, _, _, _ => by unfold f_HomSearch_extendable_L64; exact HX.none
  | fuel + 1, v2, a3, h_a3, v4, v5, v6, v7, μ => by
    rw [f_HomSearch_extendable_L64]
    exact t_HomSearch_extendable_L64_b hg hA fr_ ih   (f_HomSearch_extendable_L64 fr_  fuel) (t_HomSearch_extendable_L64 hg hA fr_ ih   fuel) v2 a3 h_a3 v4 v5 v6 v7 μ
theorem t_HomSearch_extendable_0 {rd : Nat} {cx : HCx} (hg : HGood cx R_HomSearch b_HomSearch_extendable 8 (4 + (rd + 1)) (some .boolean)) (hA : h_own cx) (fr_ : Nat → Int32 → HMem → Option (Int32 × HMem)) (ih : ∀ (a1 : Nat) (h_a1 : HIsI a1) (v2 : Int32) (μ : HMem), HSpec y_HomSearch_extendable b_HomSearch_extendable 8 (some .boolean) (4 + rd) h_eI [.ref 103, .ref a1, .int v2] μ (fr_ a1 v2 μ)) (a1 : Nat) (h_a1 : HIsI a1) (v2 : Int32) (μ : HMem) : HX cx (HQ cx h_eI) (f_HomSearch_extendable_0 fr_ a1 v2 μ) 0 0 0 [(0, .ref 103), (1, .ref a1), (2, .int v2)] [] μ := by
  unfold f_HomSearch_extendable_0
  refine r_iload_n hg 2 d_HomSearch_extendable_0 rfl rfl ?_
  refine r_aload_n hg 0 d_HomSearch_extendable_1 rfl rfl ?_
  refine r_get (v := .ref 107) hg c_HomSearch (by decide) rfl (Nat.le_of_ble_eq_true rfl) rfl wf_HomSearch_23 d_HomSearch_extendable_2 rfl ?_
  refine r_alen6 hg (by decide) rfl d_HomSearch_extendable_5 ?_
  refine r_icmp_lt (tgt := 11) hg d_HomSearch_extendable_6 (by decide) ?_ ?_
  · refine r_aload_n hg 0 d_HomSearch_extendable_11 rfl rfl ?_
    refine r_get (v := .ref 107) hg c_HomSearch (by decide) rfl (Nat.le_of_ble_eq_true rfl) rfl wf_HomSearch_23 d_HomSearch_extendable_12 rfl ?_
    refine r_iload_n hg 2 d_HomSearch_extendable_15 rfl rfl ?_
    refine r_rald hg (by decide) rfl d_HomSearch_extendable_16 (fun hb_16 => ?_)
    refine r_astore_n (l' := [(3, .ref (h_el 107 (Int32.toNatClampNeg (v2)))), (0, .ref 103), (1, .ref a1), (2, .int v2)]) hg d_HomSearch_extendable_17 rfl (Nat.le_of_ble_eq_true rfl) rfl ?_
    refine r_aload_n hg 2 d_HomSearch_extendable_18 rfl rfl ?_
    refine r_iconst (v := 0) hg d_HomSearch_extendable_19 (by decide) ?_
    refine r_aload_n hg 0 d_HomSearch_extendable_20 rfl rfl ?_
    refine r_iconst (v := 0) hg d_HomSearch_extendable_21 (by decide) ?_
    refine r_bipush (v := 8) hg d_HomSearch_extendable_22 (by decide) ?_
    refine r_cpi hg (h_a1).1 (h_a1).2 ((h_el_A hb_16)).1 ((h_el_A hb_16)).2 (h_w4 wm_HomSearch_61 wn_arraycopy ws_arraycopy wi_System) d_HomSearch_extendable_24 (Nat.le_of_ble_eq_true rfl) (Nat.le_of_ble_eq_true rfl) ?_
    refine r_letM (fun μ_24 => ?_)
    refine r_aload_n hg 1 d_HomSearch_extendable_27 rfl rfl ?_
    refine r_aload_n hg 0 d_HomSearch_extendable_28 rfl rfl ?_
    refine r_callV (As := [.ref (h_el 107 (Int32.toNatClampNeg (v2)))]) hg (t_HomSearch_narrow (h_el 107 (Int32.toNatClampNeg (v2))) (h_el_A hb_16) μ_24) v_HomSearch_narrow c_HomSearch rfl (by decide) rfl wm_HomSearch_67 d_HomSearch_extendable_29 rfl ⟨by omega, by decide⟩ (Nat.le_of_ble_eq_true rfl) rfl (fun r29 μ_29 _ => ?_)
    refine r_if_ne (tgt := 37) hg d_HomSearch_extendable_32 (by decide) ?_ ?_
    · refine r_aload_n hg 1 d_HomSearch_extendable_37 rfl rfl ?_
      refine r_aload_n hg 0 d_HomSearch_extendable_38 rfl rfl ?_
      refine r_callV (As := [.ref (h_el 107 (Int32.toNatClampNeg (v2)))]) hg (t_HomSearch_openSource (h_el 107 (Int32.toNatClampNeg (v2))) (h_el_A hb_16) μ_29) v_HomSearch_openSource c_HomSearch rfl (by decide) rfl wm_HomSearch_71 d_HomSearch_extendable_39 rfl ⟨by omega, by decide⟩ (Nat.le_of_ble_eq_true rfl) rfl (fun r39 μ_39 _ => ?_)
      refine r_istore (l' := [(4, .int r39), (3, .ref (h_el 107 (Int32.toNatClampNeg (v2)))), (0, .ref 103), (1, .ref a1), (2, .int v2)]) hg d_HomSearch_extendable_42 (Nat.le_of_ble_eq_true rfl) rfl ?_
      refine r_iload hg 0 d_HomSearch_extendable_44 rfl ?_
      refine r_iconst (v := -1) hg d_HomSearch_extendable_46 (by decide) ?_
      refine r_icmp_ne (tgt := 52) hg d_HomSearch_extendable_47 (by decide) ?_ ?_
      · refine r_aload_n hg 1 d_HomSearch_extendable_52 rfl rfl ?_
        refine r_iload hg 0 d_HomSearch_extendable_53 rfl ?_
        refine r_iald hg ((h_el_A hb_16)).1 ((h_el_A hb_16)).2 d_HomSearch_extendable_55 ?_
        refine r_letI (fun v5_56 => ?_)
        refine r_istore (l' := [(5, .int v5_56), (4, .int r39), (3, .ref (h_el 107 (Int32.toNatClampNeg (v2)))), (0, .ref 103), (1, .ref a1), (2, .int v2)]) hg d_HomSearch_extendable_56 (Nat.le_of_ble_eq_true rfl) rfl ?_
        refine r_iconst (v := 0) hg d_HomSearch_extendable_58 (by decide) ?_
        refine r_istore (l' := [(6, .int 0), (5, .int v5_56), (4, .int r39), (3, .ref (h_el 107 (Int32.toNatClampNeg (v2)))), (0, .ref 103), (1, .ref a1), (2, .int v2)]) hg d_HomSearch_extendable_59 (Nat.le_of_ble_eq_true rfl) rfl ?_
        refine r_iconst (v := 0) hg d_HomSearch_extendable_61 (by decide) ?_
        refine r_istore (l' := [(7, .int 0), (6, .int 0), (5, .int v5_56), (4, .int r39), (3, .ref (h_el 107 (Int32.toNatClampNeg (v2)))), (0, .ref 103), (1, .ref a1), (2, .int v2)]) hg d_HomSearch_extendable_62 (Nat.le_of_ble_eq_true rfl) rfl ?_
        refine r_sub [5, 7, 4, 3, 2, 1, 0] rfl ?_
        exact t_HomSearch_extendable_L64 hg hA fr_ ih h_fuel v2 (h_el 107 (Int32.toNatClampNeg (v2))) (h_el_A hb_16) r39 v5_56 0 0 μ_39
      · refine r_iconst (v := 1) hg d_HomSearch_extendable_50 (by decide) ?_
        exact r_zretB hg hA rfl d_HomSearch_extendable_51 rfl
    · refine r_iconst (v := 0) hg d_HomSearch_extendable_35 (by decide) ?_
      exact r_zretB hg hA rfl d_HomSearch_extendable_36 rfl
  · refine r_iconst (v := 0) hg d_HomSearch_extendable_9 (by decide) ?_
    exact r_zretB hg hA rfl d_HomSearch_extendable_10 rfl
theorem t_HomSearch_extendable : ∀ (rd : Nat) (a1 : Nat) (h_a1 : HIsI a1) (v2 : Int32) (μ : HMem), HSpec y_HomSearch_extendable b_HomSearch_extendable 8 (some .boolean) (4 + rd) h_eI [.ref 103, .ref a1, .int v2] μ (f_HomSearch_extendable rd a1 v2 μ)
  | 0, _, _, _, _ => fun r μ' h => by rw [f_HomSearch_extendable] at h; cases h
  | rd + 1, a1, h_a1, v2, μ => by
    rw [f_HomSearch_extendable]
    exact HSpec.of (by decide +kernel) (v_HomSearch_extendable.1 _ (by simp)) (Nat.le_of_ble_eq_true rfl) (fun cx hA hg => t_HomSearch_extendable_0 hg hA (f_HomSearch_extendable rd) (t_HomSearch_extendable rd) a1 h_a1 v2 μ)
theorem t_HomSearch_coreOf_J57 {cx : HCx} (hg : HGood cx R_HomSearch b_HomSearch_coreOf 4 21 (some .int)) (hA : h_own cx)  (rec_ : Nat → Int32 → Int32 → HMem → Option (Int32 × HMem)) (hrec_ : p_HomSearch_coreOf_7 cx rec_) (a1 : Nat) (h_a1 : HIsG a1) (v2 : Int32) (v3 : Int32) (μ : HMem) : HX cx (HQ cx h_eI) (f_HomSearch_coreOf_J57  rec_ a1 v2 v3 μ) 0 0 57 [(0, .ref 103), (1, .ref a1), (2, .int v2), (3, .int v3)] [] μ := by
  unfold f_HomSearch_coreOf_J57
  refine r_letE (fun v3_57 he_57 => ?_)
  refine r_iinc (v := v3_57) (l' := [(3, .int v3_57), (0, .ref 103), (1, .ref a1), (2, .int v2)]) hg 3 d_HomSearch_coreOf_57 rfl he_57 (Nat.le_of_ble_eq_true rfl) rfl ?_
  refine r_goto (tgt := 7) hg d_HomSearch_coreOf_60 (by decide) ?_
  refine r_sub [1, 2, 3, 0] rfl ?_
  exact hrec_ a1 h_a1 v2 v3_57 μ
theorem t_HomSearch_coreOf_L7_b {cx : HCx} (hg : HGood cx R_HomSearch b_HomSearch_coreOf 4 21 (some .int)) (hA : h_own cx)  (rec_ : Nat → Int32 → Int32 → HMem → Option (Int32 × HMem)) (hrec_ : p_HomSearch_coreOf_7 cx rec_) (a1 : Nat) (h_a1 : HIsG a1) (v2 : Int32) (v3 : Int32) (μ : HMem) : HX cx (HQ cx h_eI) (f_HomSearch_coreOf_L7_b  rec_ a1 v2 v3 μ) 0 0 7 [(0, .ref 103), (1, .ref a1), (2, .int v2), (3, .int v3)] [] μ := by
  unfold f_HomSearch_coreOf_L7_b
  refine r_iload_n hg 3 d_HomSearch_coreOf_7 rfl rfl ?_
  refine r_aload_n hg 1 d_HomSearch_coreOf_8 rfl rfl ?_
  refine r_get (v := .int (μ.1 a1 0)) hg c_Graph (h_G_lt h_a1) (h_G_kd h_a1) (Nat.le_of_ble_eq_true rfl) (h_G_fl0 h_a1) wf_HomSearch_58 d_HomSearch_coreOf_9 rfl ?_
  refine r_icmp_ge (tgt := 63) hg d_HomSearch_coreOf_12 (by decide) ?_ ?_
  · refine r_iload_n hg 2 d_HomSearch_coreOf_63 rfl rfl ?_
    exact r_iret hg hA rfl d_HomSearch_coreOf_64 rfl
  · refine r_aload_n hg 0 d_HomSearch_coreOf_15 rfl rfl ?_
    refine r_aload_n hg 1 d_HomSearch_coreOf_16 rfl rfl ?_
    refine r_iload_n hg 2 d_HomSearch_coreOf_17 rfl rfl ?_
    refine r_aload_n hg 1 d_HomSearch_coreOf_18 rfl rfl ?_
    refine r_iload_n hg 2 d_HomSearch_coreOf_19 rfl rfl ?_
    refine r_iconst (v := 1) hg d_HomSearch_coreOf_20 (by decide) ?_
    refine r_iload_n hg 3 d_HomSearch_coreOf_21 rfl rfl ?_
    refine r_ishl hg d_HomSearch_coreOf_22 ?_
    refine r_iconst (v := -1) hg d_HomSearch_coreOf_23 (by decide) ?_
    refine r_ixor hg d_HomSearch_coreOf_24 ?_
    refine r_iand hg d_HomSearch_coreOf_25 ?_
    refine r_callV (As := [.ref a1, .int v2, .ref a1, .int (v2 &&& ((h_ishl 1 v3) ^^^ (-1)))]) hg (t_HomSearch_load a1 h_a1 v2 a1 h_a1 (v2 &&& ((h_ishl 1 v3) ^^^ (-1))) μ) v_HomSearch_load c_HomSearch rfl (by decide) rfl wm_HomSearch_46 d_HomSearch_coreOf_26 rfl ⟨by decide, by decide⟩ (Nat.le_of_ble_eq_true rfl) rfl (fun r26 μ_26 _ => ?_)
    refine r_iload_n hg 2 d_HomSearch_coreOf_29 rfl rfl ?_
    refine r_iload_n hg 3 d_HomSearch_coreOf_30 rfl rfl ?_
    refine r_callN (As := [.int v2, .int v3]) (host := "HomBench") hg (t_Bench_has v2 v3 μ_26) v_Bench_has (by decide) d_HomSearch_coreOf_31 rfl ⟨by decide, by decide⟩ (Nat.le_of_ble_eq_true rfl) rfl (fun r31 μ_31 _ => ?_)
    refine r_if_eq (tgt := 57) hg d_HomSearch_coreOf_34 (by decide) ?_ ?_
    · exact t_HomSearch_coreOf_J57 hg hA rec_ hrec_ a1 h_a1 v2 v3 μ_31
    · refine r_aload_n hg 0 d_HomSearch_coreOf_37 rfl rfl ?_
      refine r_aload_n hg 0 d_HomSearch_coreOf_38 rfl rfl ?_
      refine r_get (v := .ref 106) hg c_HomSearch (by decide) rfl (Nat.le_of_ble_eq_true rfl) rfl wf_HomSearch_18 d_HomSearch_coreOf_39 rfl ?_
      refine r_iconst (v := 0) hg d_HomSearch_coreOf_42 (by decide) ?_
      refine r_callS (As := [.ref 103, .ref 106, .int 0]) hg (t_HomSearch_extendable h_deep 106 ⟨(by decide), rfl⟩ 0 μ_31) v_HomSearch_extendable wm_HomSearch_50 d_HomSearch_coreOf_43 rfl ⟨by decide, by decide⟩ (Nat.le_of_ble_eq_true rfl) rfl (fun r43 μ_43 _ => ?_)
      refine r_if_eq (tgt := 57) hg d_HomSearch_coreOf_46 (by decide) ?_ ?_
      · exact t_HomSearch_coreOf_J57 hg hA rec_ hrec_ a1 h_a1 v2 v3 μ_43
      · refine r_iload_n hg 2 d_HomSearch_coreOf_49 rfl rfl ?_
        refine r_iconst (v := 1) hg d_HomSearch_coreOf_50 (by decide) ?_
        refine r_iload_n hg 3 d_HomSearch_coreOf_51 rfl rfl ?_
        refine r_ishl hg d_HomSearch_coreOf_52 ?_
        refine r_iconst (v := -1) hg d_HomSearch_coreOf_53 (by decide) ?_
        refine r_ixor hg d_HomSearch_coreOf_54 ?_
        refine r_iand hg d_HomSearch_coreOf_55 ?_
        refine r_letI (fun v2_56 => ?_)
        refine r_istore_n (l' := [(2, .int v2_56), (0, .ref 103), (1, .ref a1), (3, .int v3)]) hg d_HomSearch_coreOf_56 rfl (Nat.le_of_ble_eq_true rfl) rfl ?_
        refine r_sub [1, 2, 0, 3] rfl ?_
        exact t_HomSearch_coreOf_J57 hg hA rec_ hrec_ a1 h_a1 v2_56 v3 μ_43
theorem t_HomSearch_coreOf_L7 {cx : HCx} (hg : HGood cx R_HomSearch b_HomSearch_coreOf 4 21 (some .int)) (hA : h_own cx)  : ∀ (fuel : Nat) (a1 : Nat) (h_a1 : HIsG a1) (v2 : Int32) (v3 : Int32) (μ : HMem), HX cx (HQ cx h_eI) (f_HomSearch_coreOf_L7  fuel a1 v2 v3 μ) 0 0 7 [(0, .ref 103), (1, .ref a1), (2, .int v2), (3, .int v3)] [] μ
  | 0, _, _, _, _, _ => by unfold f_HomSearch_coreOf_L7; exact HX.none
  | fuel + 1, a1, h_a1, v2, v3, μ => by
    rw [f_HomSearch_coreOf_L7]
    exact t_HomSearch_coreOf_L7_b hg hA   (f_HomSearch_coreOf_L7  fuel) (t_HomSearch_coreOf_L7 hg hA   fuel) a1 h_a1 v2 v3 μ
theorem t_HomSearch_coreOf_0 {cx : HCx} (hg : HGood cx R_HomSearch b_HomSearch_coreOf 4 21 (some .int)) (hA : h_own cx) (a1 : Nat) (h_a1 : HIsG a1) (μ : HMem) : HX cx (HQ cx h_eI) (f_HomSearch_coreOf a1 μ) 0 0 0 [(0, .ref 103), (1, .ref a1)] [] μ := by
  unfold f_HomSearch_coreOf
  refine r_aload_n hg 1 d_HomSearch_coreOf_0 rfl rfl ?_
  refine r_callV (As := []) hg (t_Graph_all a1 h_a1 μ) v_Graph_all c_Graph rfl (h_G_lt h_a1) (h_G_kd h_a1) wm_HomSearch_43 d_HomSearch_coreOf_1 rfl ⟨by decide, by decide⟩ (Nat.le_of_ble_eq_true rfl) rfl (fun r1 μ_1 _ => ?_)
  refine r_istore_n (l' := [(2, .int r1), (0, .ref 103), (1, .ref a1)]) hg d_HomSearch_coreOf_4 rfl (Nat.le_of_ble_eq_true rfl) rfl ?_
  refine r_iconst (v := 0) hg d_HomSearch_coreOf_5 (by decide) ?_
  refine r_istore_n (l' := [(3, .int 0), (2, .int r1), (0, .ref 103), (1, .ref a1)]) hg d_HomSearch_coreOf_6 rfl (Nat.le_of_ble_eq_true rfl) rfl ?_
  refine r_sub [2, 3, 1, 0] rfl ?_
  exact t_HomSearch_coreOf_L7 hg hA h_fuel a1 h_a1 r1 0 μ_1
theorem t_HomSearch_coreOf (a1 : Nat) (h_a1 : HIsG a1) (μ : HMem) : HSpec y_HomSearch_coreOf b_HomSearch_coreOf 4 (some .int) 21 h_eI [.ref 103, .ref a1] μ (f_HomSearch_coreOf a1 μ) :=
  HSpec.of (by decide +kernel) (v_HomSearch_coreOf.1 _ (by simp)) (Nat.le_of_ble_eq_true rfl) (fun cx hA hg => t_HomSearch_coreOf_0 hg hA a1 h_a1 μ)
theorem t_HomSearch_maps_0 {cx : HCx} (hg : HGood cx R_HomSearch b_HomSearch_maps 3 21 (some .boolean)) (hA : h_own cx) (a1 : Nat) (h_a1 : HIsG a1) (a2 : Nat) (h_a2 : HIsG a2) (μ : HMem) : HX cx (HQ cx h_eI) (f_HomSearch_maps a1 a2 μ) 0 0 0 [(0, .ref 103), (1, .ref a1), (2, .ref a2)] [] μ := by
  unfold f_HomSearch_maps
  refine r_aload_n hg 0 d_HomSearch_maps_0 rfl rfl ?_
  refine r_aload_n hg 1 d_HomSearch_maps_1 rfl rfl ?_
  refine r_aload_n hg 1 d_HomSearch_maps_2 rfl rfl ?_
  refine r_callV (As := []) hg (t_Graph_all a1 h_a1 μ) v_Graph_all c_Graph rfl (h_G_lt h_a1) (h_G_kd h_a1) wm_HomSearch_43 d_HomSearch_maps_3 rfl ⟨by decide, by decide⟩ (Nat.le_of_ble_eq_true rfl) rfl (fun r3 μ_3 _ => ?_)
  refine r_aload_n hg 2 d_HomSearch_maps_6 rfl rfl ?_
  refine r_aload_n hg 2 d_HomSearch_maps_7 rfl rfl ?_
  refine r_callV (As := []) hg (t_Graph_all a2 h_a2 μ_3) v_Graph_all c_Graph rfl (h_G_lt h_a2) (h_G_kd h_a2) wm_HomSearch_43 d_HomSearch_maps_8 rfl ⟨by decide, by decide⟩ (Nat.le_of_ble_eq_true rfl) rfl (fun r8 μ_8 _ => ?_)
  refine r_callV (As := [.ref a1, .int r3, .ref a2, .int r8]) hg (t_HomSearch_load a1 h_a1 r3 a2 h_a2 r8 μ_8) v_HomSearch_load c_HomSearch rfl (by decide) rfl wm_HomSearch_46 d_HomSearch_maps_11 rfl ⟨by decide, by decide⟩ (Nat.le_of_ble_eq_true rfl) rfl (fun r11 μ_11 _ => ?_)
  refine r_aload_n hg 0 d_HomSearch_maps_14 rfl rfl ?_
  refine r_aload_n hg 0 d_HomSearch_maps_15 rfl rfl ?_
  refine r_get (v := .ref 106) hg c_HomSearch (by decide) rfl (Nat.le_of_ble_eq_true rfl) rfl wf_HomSearch_18 d_HomSearch_maps_16 rfl ?_
  refine r_iconst (v := 0) hg d_HomSearch_maps_19 (by decide) ?_
  refine r_callS (As := [.ref 103, .ref 106, .int 0]) hg (t_HomSearch_extendable h_deep 106 ⟨(by decide), rfl⟩ 0 μ_11) v_HomSearch_extendable wm_HomSearch_50 d_HomSearch_maps_20 rfl ⟨by decide, by decide⟩ (Nat.le_of_ble_eq_true rfl) rfl (fun r20 μ_20 _ => ?_)
  exact r_zretB hg hA rfl d_HomSearch_maps_23 rfl
theorem t_HomSearch_maps (a1 : Nat) (h_a1 : HIsG a1) (a2 : Nat) (h_a2 : HIsG a2) (μ : HMem) : HSpec y_HomSearch_maps b_HomSearch_maps 3 (some .boolean) 21 h_eI [.ref 103, .ref a1, .ref a2] μ (f_HomSearch_maps a1 a2 μ) :=
  HSpec.of (by decide +kernel) (v_HomSearch_maps.1 _ (by simp)) (Nat.le_of_ble_eq_true rfl) (fun cx hA hg => t_HomSearch_maps_0 hg hA a1 h_a1 a2 h_a2 μ)
theorem t_HomSearch_fixFirst_J46 {cx : HCx} (hg : HGood cx R_HomSearch b_HomSearch_fixFirst 4 21 (some .int)) (hA : h_own cx)  (rec_ : Int32 → Int32 → Int32 → HMem → Option (Int32 × HMem)) (hrec_ : p_HomSearch_fixFirst_9 cx rec_) (v1 : Int32) (v2 : Int32) (v3 : Int32) (μ : HMem) : HX cx (HQ cx h_eI) (f_HomSearch_fixFirst_J46  rec_ v1 v2 v3 μ) 0 0 46 [(0, .ref 103), (1, .int v1), (2, .int v2), (3, .int v3)] [] μ := by
  unfold f_HomSearch_fixFirst_J46
  refine r_letE (fun v3_46 he_46 => ?_)
  refine r_iinc (v := v3_46) (l' := [(3, .int v3_46), (0, .ref 103), (1, .int v1), (2, .int v2)]) hg 3 d_HomSearch_fixFirst_46 rfl he_46 (Nat.le_of_ble_eq_true rfl) rfl ?_
  refine r_goto (tgt := 9) hg d_HomSearch_fixFirst_49 (by decide) ?_
  refine r_sub [1, 2, 3, 0] rfl ?_
  exact hrec_ v1 v2 v3_46 μ
theorem t_HomSearch_fixFirst_L9_b {cx : HCx} (hg : HGood cx R_HomSearch b_HomSearch_fixFirst 4 21 (some .int)) (hA : h_own cx)  (rec_ : Int32 → Int32 → Int32 → HMem → Option (Int32 × HMem)) (hrec_ : p_HomSearch_fixFirst_9 cx rec_) (v1 : Int32) (v2 : Int32) (v3 : Int32) (μ : HMem) : HX cx (HQ cx h_eI) (f_HomSearch_fixFirst_L9_b  rec_ v1 v2 v3 μ) 0 0 9 [(0, .ref 103), (1, .int v1), (2, .int v2), (3, .int v3)] [] μ := by
  unfold f_HomSearch_fixFirst_L9_b
  refine r_iload_n hg 3 d_HomSearch_fixFirst_9 rfl rfl ?_
  refine r_bipush (v := 8) hg d_HomSearch_fixFirst_10 (by decide) ?_
  refine r_icmp_ge (tgt := 52) hg d_HomSearch_fixFirst_12 (by decide) ?_ ?_
  · refine r_iconst (v := -1) hg d_HomSearch_fixFirst_52 (by decide) ?_
    exact r_iret hg hA rfl d_HomSearch_fixFirst_53 rfl
  · refine r_iload_n hg 2 d_HomSearch_fixFirst_15 rfl rfl ?_
    refine r_iload_n hg 3 d_HomSearch_fixFirst_16 rfl rfl ?_
    refine r_callN (As := [.int v2, .int v3]) (host := "HomBench") hg (t_Bench_has v2 v3 μ) v_Bench_has (by decide) d_HomSearch_fixFirst_17 rfl ⟨by decide, by decide⟩ (Nat.le_of_ble_eq_true rfl) rfl (fun r17 μ_17 _ => ?_)
    refine r_if_eq (tgt := 46) hg d_HomSearch_fixFirst_20 (by decide) ?_ ?_
    · exact t_HomSearch_fixFirst_J46 hg hA rec_ hrec_ v1 v2 v3 μ_17
    · refine r_aload_n hg 0 d_HomSearch_fixFirst_23 rfl rfl ?_
      refine r_get (v := .ref 106) hg c_HomSearch (by decide) rfl (Nat.le_of_ble_eq_true rfl) rfl wf_HomSearch_18 d_HomSearch_fixFirst_24 rfl ?_
      refine r_iload_n hg 1 d_HomSearch_fixFirst_27 rfl rfl ?_
      refine r_iconst (v := 1) hg d_HomSearch_fixFirst_28 (by decide) ?_
      refine r_iload_n hg 3 d_HomSearch_fixFirst_29 rfl rfl ?_
      refine r_ishl hg d_HomSearch_fixFirst_30 ?_
      refine r_iast hg (by decide) rfl d_HomSearch_fixFirst_31 ?_
      refine r_letM (fun μ_31 => ?_)
      refine r_aload_n hg 0 d_HomSearch_fixFirst_32 rfl rfl ?_
      refine r_aload_n hg 0 d_HomSearch_fixFirst_33 rfl rfl ?_
      refine r_get (v := .ref 106) hg c_HomSearch (by decide) rfl (Nat.le_of_ble_eq_true rfl) rfl wf_HomSearch_18 d_HomSearch_fixFirst_34 rfl ?_
      refine r_iconst (v := 0) hg d_HomSearch_fixFirst_37 (by decide) ?_
      refine r_callS (As := [.ref 103, .ref 106, .int 0]) hg (t_HomSearch_extendable h_deep 106 ⟨(by decide), rfl⟩ 0 μ_31) v_HomSearch_extendable wm_HomSearch_50 d_HomSearch_fixFirst_38 rfl ⟨by decide, by decide⟩ (Nat.le_of_ble_eq_true rfl) rfl (fun r38 μ_38 _ => ?_)
      refine r_if_eq (tgt := 46) hg d_HomSearch_fixFirst_41 (by decide) ?_ ?_
      · exact t_HomSearch_fixFirst_J46 hg hA rec_ hrec_ v1 v2 v3 μ_38
      · refine r_iload_n hg 3 d_HomSearch_fixFirst_44 rfl rfl ?_
        exact r_iret hg hA rfl d_HomSearch_fixFirst_45 rfl
theorem t_HomSearch_fixFirst_L9 {cx : HCx} (hg : HGood cx R_HomSearch b_HomSearch_fixFirst 4 21 (some .int)) (hA : h_own cx)  : ∀ (fuel : Nat) (v1 : Int32) (v2 : Int32) (v3 : Int32) (μ : HMem), HX cx (HQ cx h_eI) (f_HomSearch_fixFirst_L9  fuel v1 v2 v3 μ) 0 0 9 [(0, .ref 103), (1, .int v1), (2, .int v2), (3, .int v3)] [] μ
  | 0, _, _, _, _ => by unfold f_HomSearch_fixFirst_L9; exact HX.none
  | fuel + 1, v1, v2, v3, μ => by
    rw [f_HomSearch_fixFirst_L9]
    exact t_HomSearch_fixFirst_L9_b hg hA   (f_HomSearch_fixFirst_L9  fuel) (t_HomSearch_fixFirst_L9 hg hA   fuel) v1 v2 v3 μ
theorem t_HomSearch_fixFirst_0 {cx : HCx} (hg : HGood cx R_HomSearch b_HomSearch_fixFirst 4 21 (some .int)) (hA : h_own cx) (v1 : Int32) (μ : HMem) : HX cx (HQ cx h_eI) (f_HomSearch_fixFirst v1 μ) 0 0 0 [(0, .ref 103), (1, .int v1)] [] μ := by
  unfold f_HomSearch_fixFirst
  refine r_aload_n hg 0 d_HomSearch_fixFirst_0 rfl rfl ?_
  refine r_get (v := .ref 106) hg c_HomSearch (by decide) rfl (Nat.le_of_ble_eq_true rfl) rfl wf_HomSearch_18 d_HomSearch_fixFirst_1 rfl ?_
  refine r_iload_n hg 1 d_HomSearch_fixFirst_4 rfl rfl ?_
  refine r_iald hg (by decide) rfl d_HomSearch_fixFirst_5 ?_
  refine r_letI (fun v2_6 => ?_)
  refine r_istore_n (l' := [(2, .int v2_6), (0, .ref 103), (1, .int v1)]) hg d_HomSearch_fixFirst_6 rfl (Nat.le_of_ble_eq_true rfl) rfl ?_
  refine r_iconst (v := 0) hg d_HomSearch_fixFirst_7 (by decide) ?_
  refine r_istore_n (l' := [(3, .int 0), (2, .int v2_6), (0, .ref 103), (1, .int v1)]) hg d_HomSearch_fixFirst_8 rfl (Nat.le_of_ble_eq_true rfl) rfl ?_
  refine r_sub [2, 3, 1, 0] rfl ?_
  exact t_HomSearch_fixFirst_L9 hg hA h_fuel v1 v2_6 0 μ
theorem t_HomSearch_fixFirst (v1 : Int32) (μ : HMem) : HSpec y_HomSearch_fixFirst b_HomSearch_fixFirst 4 (some .int) 21 h_eI [.ref 103, .int v1] μ (f_HomSearch_fixFirst v1 μ) :=
  HSpec.of (by decide +kernel) (v_HomSearch_fixFirst.1 _ (by simp)) (Nat.le_of_ble_eq_true rfl) (fun cx hA hg => t_HomSearch_fixFirst_0 hg hA v1 μ)
theorem t_HomSearch_firstImage_L34_b {cx : HCx} (hg : HGood cx R_HomSearch b_HomSearch_firstImage 6 22 (some .int)) (hA : h_own cx)  (rec_ : Int32 → Int32 → Int32 → HMem → Option (Int32 × HMem)) (hrec_ : p_HomSearch_firstImage_34 cx rec_) (v3 : Int32) (v4 : Int32) (v5 : Int32) (μ : HMem) : HX cx (HQ cx h_eI) (f_HomSearch_firstImage_L34_b  rec_ v3 v4 v5 μ) 0 0 34 [(0, .ref 103), (3, .int v3), (4, .int v4), (5, .int v5)] [] μ := by
  unfold f_HomSearch_firstImage_L34_b
  refine r_iload hg 3 d_HomSearch_firstImage_34 rfl ?_
  refine r_iload_n hg 1 d_HomSearch_firstImage_36 rfl rfl ?_
  refine r_icmp_gt (tgt := 54) hg d_HomSearch_firstImage_37 (by decide) ?_ ?_
  · refine r_iload hg 2 d_HomSearch_firstImage_54 rfl ?_
    exact r_iret hg hA rfl d_HomSearch_firstImage_56 rfl
  · refine r_aload_n hg 0 d_HomSearch_firstImage_40 rfl rfl ?_
    refine r_iload hg 3 d_HomSearch_firstImage_41 rfl ?_
    refine r_callV (As := [.int v5]) hg (t_HomSearch_fixFirst v5 μ) v_HomSearch_fixFirst c_HomSearch rfl (by decide) rfl wm_HomSearch_54 d_HomSearch_firstImage_43 rfl ⟨by decide, by decide⟩ (Nat.le_of_ble_eq_true rfl) rfl (fun r43 μ_43 _ => ?_)
    refine r_istore (l' := [(4, .int r43), (0, .ref 103), (3, .int v3), (5, .int v5)]) hg d_HomSearch_firstImage_46 (Nat.le_of_ble_eq_true rfl) rfl ?_
    refine r_letE (fun v5_48 he_48 => ?_)
    refine r_iinc (v := v5_48) (l' := [(5, .int v5_48), (4, .int r43), (0, .ref 103), (3, .int v3)]) hg 3 d_HomSearch_firstImage_48 rfl he_48 (Nat.le_of_ble_eq_true rfl) rfl ?_
    refine r_goto (tgt := 34) hg d_HomSearch_firstImage_51 (by decide) ?_
    refine r_sub [2, 3, 1, 0] rfl ?_
    exact hrec_ v3 r43 v5_48 μ_43
theorem t_HomSearch_firstImage_L34 {cx : HCx} (hg : HGood cx R_HomSearch b_HomSearch_firstImage 6 22 (some .int)) (hA : h_own cx)  : ∀ (fuel : Nat) (v3 : Int32) (v4 : Int32) (v5 : Int32) (μ : HMem), HX cx (HQ cx h_eI) (f_HomSearch_firstImage_L34  fuel v3 v4 v5 μ) 0 0 34 [(0, .ref 103), (3, .int v3), (4, .int v4), (5, .int v5)] [] μ
  | 0, _, _, _, _ => by unfold f_HomSearch_firstImage_L34; exact HX.none
  | fuel + 1, v3, v4, v5, μ => by
    rw [f_HomSearch_firstImage_L34]
    exact t_HomSearch_firstImage_L34_b hg hA   (f_HomSearch_firstImage_L34  fuel) (t_HomSearch_firstImage_L34 hg hA   fuel) v3 v4 v5 μ
theorem t_HomSearch_firstImage_0 {cx : HCx} (hg : HGood cx R_HomSearch b_HomSearch_firstImage 6 22 (some .int)) (hA : h_own cx) (a1 : Nat) (h_a1 : HIsG a1) (a2 : Nat) (h_a2 : HIsG a2) (v3 : Int32) (μ : HMem) : HX cx (HQ cx h_eI) (f_HomSearch_firstImage a1 a2 v3 μ) 0 0 0 [(0, .ref 103), (1, .ref a1), (2, .ref a2), (3, .int v3)] [] μ := by
  unfold f_HomSearch_firstImage
  refine r_aload_n hg 0 d_HomSearch_firstImage_0 rfl rfl ?_
  refine r_aload_n hg 1 d_HomSearch_firstImage_1 rfl rfl ?_
  refine r_aload_n hg 1 d_HomSearch_firstImage_2 rfl rfl ?_
  refine r_callV (As := []) hg (t_Graph_all a1 h_a1 μ) v_Graph_all c_Graph rfl (h_G_lt h_a1) (h_G_kd h_a1) wm_HomSearch_43 d_HomSearch_firstImage_3 rfl ⟨by decide, by decide⟩ (Nat.le_of_ble_eq_true rfl) rfl (fun r3 μ_3 _ => ?_)
  refine r_aload_n hg 2 d_HomSearch_firstImage_6 rfl rfl ?_
  refine r_aload_n hg 2 d_HomSearch_firstImage_7 rfl rfl ?_
  refine r_callV (As := []) hg (t_Graph_all a2 h_a2 μ_3) v_Graph_all c_Graph rfl (h_G_lt h_a2) (h_G_kd h_a2) wm_HomSearch_43 d_HomSearch_firstImage_8 rfl ⟨by decide, by decide⟩ (Nat.le_of_ble_eq_true rfl) rfl (fun r8 μ_8 _ => ?_)
  refine r_callV (As := [.ref a1, .int r3, .ref a2, .int r8]) hg (t_HomSearch_load a1 h_a1 r3 a2 h_a2 r8 μ_8) v_HomSearch_load c_HomSearch rfl (by decide) rfl wm_HomSearch_46 d_HomSearch_firstImage_11 rfl ⟨by decide, by decide⟩ (Nat.le_of_ble_eq_true rfl) rfl (fun r11 μ_11 _ => ?_)
  refine r_aload_n hg 0 d_HomSearch_firstImage_14 rfl rfl ?_
  refine r_aload_n hg 0 d_HomSearch_firstImage_15 rfl rfl ?_
  refine r_get (v := .ref 106) hg c_HomSearch (by decide) rfl (Nat.le_of_ble_eq_true rfl) rfl wf_HomSearch_18 d_HomSearch_firstImage_16 rfl ?_
  refine r_iconst (v := 0) hg d_HomSearch_firstImage_19 (by decide) ?_
  refine r_callS (As := [.ref 103, .ref 106, .int 0]) hg (t_HomSearch_extendable h_deep 106 ⟨(by decide), rfl⟩ 0 μ_11) v_HomSearch_extendable wm_HomSearch_50 d_HomSearch_firstImage_20 rfl ⟨by decide, by decide⟩ (Nat.le_of_ble_eq_true rfl) rfl (fun r20 μ_20 _ => ?_)
  refine r_if_ne (tgt := 28) hg d_HomSearch_firstImage_23 (by decide) ?_ ?_
  · refine r_iconst (v := -1) hg d_HomSearch_firstImage_28 (by decide) ?_
    refine r_istore (l' := [(4, .int (-1)), (0, .ref 103), (1, .ref a1), (2, .ref a2), (3, .int v3)]) hg d_HomSearch_firstImage_29 (Nat.le_of_ble_eq_true rfl) rfl ?_
    refine r_iconst (v := 0) hg d_HomSearch_firstImage_31 (by decide) ?_
    refine r_istore (l' := [(5, .int 0), (4, .int (-1)), (0, .ref 103), (1, .ref a1), (2, .ref a2), (3, .int v3)]) hg d_HomSearch_firstImage_32 (Nat.le_of_ble_eq_true rfl) rfl ?_
    refine r_sub [2, 5, 1, 0] rfl ?_
    exact t_HomSearch_firstImage_L34 hg hA h_fuel v3 (-1) 0 μ_20
  · refine r_iconst (v := -1) hg d_HomSearch_firstImage_26 (by decide) ?_
    exact r_iret hg hA rfl d_HomSearch_firstImage_27 rfl
theorem t_HomSearch_firstImage (a1 : Nat) (h_a1 : HIsG a1) (a2 : Nat) (h_a2 : HIsG a2) (v3 : Int32) (μ : HMem) : HSpec y_HomSearch_firstImage b_HomSearch_firstImage 6 (some .int) 22 h_eI [.ref 103, .ref a1, .ref a2, .int v3] μ (f_HomSearch_firstImage a1 a2 v3 μ) :=
  HSpec.of (by decide +kernel) (v_HomSearch_firstImage.1 _ (by simp)) (Nat.le_of_ble_eq_true rfl) (fun cx hA hg => t_HomSearch_firstImage_0 hg hA a1 h_a1 a2 h_a2 v3 μ)
