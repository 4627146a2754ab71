/-! pure programs and their proofs: graph (written by gen.py) -/
def y_Graph_between : MethodName := ⟨R_Graph, "between", "(II)I"⟩
abbrev b_Graph_between : ByteArray := prog_4_method_4_code
theorem v_Graph_between : HVirt y_Graph_between b_Graph_between 3 (some .int) 2 := ⟨List.forall_mem_cons.mpr ⟨h_inI 381 (by decide +kernel) rfl, List.forall_mem_cons.mpr ⟨h_inI 382 (by decide +kernel) rfl, List.forall_mem_cons.mpr ⟨h_inI 101 (by decide +kernel) rfl, List.forall_mem_cons.mpr ⟨h_inI 383 (by decide +kernel) rfl, fun _ h => absurd h List.not_mem_nil⟩⟩⟩⟩, by decide, by decide, by decide +kernel⟩
def y_Graph_all : MethodName := ⟨R_Graph, "all", "()I"⟩
abbrev b_Graph_all : ByteArray := prog_4_method_16_code
theorem v_Graph_all : HVirt y_Graph_all b_Graph_all 1 (some .int) 0 := ⟨List.forall_mem_cons.mpr ⟨h_inI 389 (by decide +kernel) rfl, List.forall_mem_cons.mpr ⟨h_inI 390 (by decide +kernel) rfl, List.forall_mem_cons.mpr ⟨h_inI 101 (by decide +kernel) rfl, List.forall_mem_cons.mpr ⟨h_inI 391 (by decide +kernel) rfl, fun _ h => absurd h List.not_mem_nil⟩⟩⟩⟩, by decide, by decide, by decide +kernel⟩
def y_Bench_has : MethodName := ⟨R_Bench, "has", "(II)Z"⟩
abbrev b_Bench_has : ByteArray := prog_1_method_42_code
theorem v_Bench_has : HStat y_Bench_has b_Bench_has 2 (some .boolean) 2 := ⟨List.forall_mem_cons.mpr ⟨h_inI 400 (by decide +kernel) rfl, List.forall_mem_cons.mpr ⟨h_inI 100 (by decide +kernel) rfl, List.forall_mem_cons.mpr ⟨h_inI 401 (by decide +kernel) rfl, fun _ h => absurd h List.not_mem_nil⟩⟩⟩, by decide, by decide, by decide +kernel⟩
def y_Graph_reached : MethodName := ⟨R_Graph, "reached", "(II)I"⟩
abbrev b_Graph_reached : ByteArray := prog_4_method_22_code
theorem v_Graph_reached : HVirt y_Graph_reached b_Graph_reached 7 (some .int) 2 := ⟨List.forall_mem_cons.mpr ⟨h_inI 396 (by decide +kernel) rfl, List.forall_mem_cons.mpr ⟨h_inI 397 (by decide +kernel) rfl, List.forall_mem_cons.mpr ⟨h_inI 101 (by decide +kernel) rfl, List.forall_mem_cons.mpr ⟨h_inI 398 (by decide +kernel) rfl, fun _ h => absurd h List.not_mem_nil⟩⟩⟩⟩, by decide, by decide, by decide +kernel⟩
def y_Graph_nearOf : MethodName := ⟨R_Graph, "nearOf", "(I)I"⟩
abbrev b_Graph_nearOf : ByteArray := prog_4_method_21_code
theorem v_Graph_nearOf : HVirt y_Graph_nearOf b_Graph_nearOf 4 (some .int) 1 := ⟨List.forall_mem_cons.mpr ⟨h_inI 403 (by decide +kernel) rfl, List.forall_mem_cons.mpr ⟨h_inI 404 (by decide +kernel) rfl, List.forall_mem_cons.mpr ⟨h_inI 101 (by decide +kernel) rfl, List.forall_mem_cons.mpr ⟨h_inI 405 (by decide +kernel) rfl, fun _ h => absurd h List.not_mem_nil⟩⟩⟩⟩, by decide, by decide, by decide +kernel⟩
def y_Graph_loops : MethodName := ⟨R_Graph, "loops", "()I"⟩
abbrev b_Graph_loops : ByteArray := prog_4_method_17_code
theorem v_Graph_loops : HVirt y_Graph_loops b_Graph_loops 3 (some .int) 0 := ⟨List.forall_mem_cons.mpr ⟨h_inI 451 (by decide +kernel) rfl, List.forall_mem_cons.mpr ⟨h_inI 452 (by decide +kernel) rfl, List.forall_mem_cons.mpr ⟨h_inI 101 (by decide +kernel) rfl, List.forall_mem_cons.mpr ⟨h_inI 453 (by decide +kernel) rfl, fun _ h => absurd h List.not_mem_nil⟩⟩⟩⟩, by decide, by decide, by decide +kernel⟩
def y_Bench_limited : MethodName := ⟨R_Bench, "limited", "(II)I"⟩
abbrev b_Bench_limited : ByteArray := prog_1_method_43_code
theorem v_Bench_limited : HStat y_Bench_limited b_Bench_limited 2 (some .int) 2 := ⟨List.forall_mem_cons.mpr ⟨h_inI 711 (by decide +kernel) rfl, List.forall_mem_cons.mpr ⟨h_inI 100 (by decide +kernel) rfl, List.forall_mem_cons.mpr ⟨h_inI 712 (by decide +kernel) rfl, fun _ h => absurd h List.not_mem_nil⟩⟩⟩, by decide, by decide, by decide +kernel⟩
def y_Bench_greatestDivisor : MethodName := ⟨R_Bench, "greatestDivisor", "(JJ)J"⟩
abbrev b_Bench_greatestDivisor : ByteArray := prog_1_method_44_code
theorem v_Bench_greatestDivisor : HStat y_Bench_greatestDivisor b_Bench_greatestDivisor 11 (some .long) 2 := ⟨List.forall_mem_cons.mpr ⟨h_inI 904 (by decide +kernel) rfl, List.forall_mem_cons.mpr ⟨h_inI 100 (by decide +kernel) rfl, List.forall_mem_cons.mpr ⟨h_inI 905 (by decide +kernel) rfl, fun _ h => absurd h List.not_mem_nil⟩⟩⟩, by decide, by decide, by decide +kernel⟩
def y_Graph_loopCount : MethodName := ⟨R_Graph, "loopCount", "()I"⟩
abbrev b_Graph_loopCount : ByteArray := prog_4_method_18_code
theorem v_Graph_loopCount : HVirt y_Graph_loopCount b_Graph_loopCount 1 (some .int) 0 := ⟨List.forall_mem_cons.mpr ⟨h_inI 651 (by decide +kernel) rfl, List.forall_mem_cons.mpr ⟨h_inI 652 (by decide +kernel) rfl, List.forall_mem_cons.mpr ⟨h_inI 101 (by decide +kernel) rfl, List.forall_mem_cons.mpr ⟨h_inI 653 (by decide +kernel) rfl, fun _ h => absurd h List.not_mem_nil⟩⟩⟩⟩, by decide, by decide, by decide +kernel⟩
def y_Graph_reset : MethodName := ⟨R_Graph, "reset", "(I)V"⟩
abbrev b_Graph_reset : ByteArray := prog_4_method_2_code
theorem v_Graph_reset : HVirt y_Graph_reset b_Graph_reset 2 none 1 := ⟨List.forall_mem_cons.mpr ⟨h_inI 601 (by decide +kernel) rfl, List.forall_mem_cons.mpr ⟨h_inI 602 (by decide +kernel) rfl, List.forall_mem_cons.mpr ⟨h_inI 101 (by decide +kernel) rfl, List.forall_mem_cons.mpr ⟨h_inI 603 (by decide +kernel) rfl, fun _ h => absurd h List.not_mem_nil⟩⟩⟩⟩, by decide, by decide, by decide +kernel⟩
def y_Graph_copyFrom : MethodName := ⟨R_Graph, "copyFrom", "(LHomBench$Graph;)V"⟩
abbrev b_Graph_copyFrom : ByteArray := prog_4_method_3_code
theorem v_Graph_copyFrom : HVirt y_Graph_copyFrom b_Graph_copyFrom 2 none 1 := ⟨List.forall_mem_cons.mpr ⟨h_inI 596 (by decide +kernel) rfl, List.forall_mem_cons.mpr ⟨h_inI 597 (by decide +kernel) rfl, List.forall_mem_cons.mpr ⟨h_inI 101 (by decide +kernel) rfl, List.forall_mem_cons.mpr ⟨h_inI 598 (by decide +kernel) rfl, fun _ h => absurd h List.not_mem_nil⟩⟩⟩⟩, by decide, by decide, by decide +kernel⟩
def y_Graph_join : MethodName := ⟨R_Graph, "join", "(III)V"⟩
abbrev b_Graph_join : ByteArray := prog_4_method_5_code
theorem v_Graph_join : HVirt y_Graph_join b_Graph_join 4 none 3 := ⟨List.forall_mem_cons.mpr ⟨h_inI 626 (by decide +kernel) rfl, List.forall_mem_cons.mpr ⟨h_inI 627 (by decide +kernel) rfl, List.forall_mem_cons.mpr ⟨h_inI 101 (by decide +kernel) rfl, List.forall_mem_cons.mpr ⟨h_inI 628 (by decide +kernel) rfl, fun _ h => absurd h List.not_mem_nil⟩⟩⟩⟩, by decide, by decide, by decide +kernel⟩
def y_Graph_inFamily : MethodName := ⟨R_Graph, "inFamily", "(III)Z"⟩
abbrev b_Graph_inFamily : ByteArray := prog_4_method_7_code
theorem v_Graph_inFamily : HVirt y_Graph_inFamily b_Graph_inFamily 4 (some .boolean) 3 := ⟨List.forall_mem_cons.mpr ⟨h_inI 642 (by decide +kernel) rfl, List.forall_mem_cons.mpr ⟨h_inI 11 (by decide +kernel) rfl, List.forall_mem_cons.mpr ⟨h_inI 101 (by decide +kernel) rfl, List.forall_mem_cons.mpr ⟨h_inI 643 (by decide +kernel) rfl, fun _ h => absurd h List.not_mem_nil⟩⟩⟩⟩, by decide, by decide, by decide +kernel⟩
def y_Graph_joinFamily : MethodName := ⟨R_Graph, "joinFamily", "(I)V"⟩
abbrev b_Graph_joinFamily : ByteArray := prog_4_method_6_code
theorem v_Graph_joinFamily : HVirt y_Graph_joinFamily b_Graph_joinFamily 4 none 1 := ⟨List.forall_mem_cons.mpr ⟨h_inI 637 (by decide +kernel) rfl, List.forall_mem_cons.mpr ⟨h_inI 638 (by decide +kernel) rfl, List.forall_mem_cons.mpr ⟨h_inI 101 (by decide +kernel) rfl, List.forall_mem_cons.mpr ⟨h_inI 639 (by decide +kernel) rfl, fun _ h => absurd h List.not_mem_nil⟩⟩⟩⟩, by decide, by decide, by decide +kernel⟩
def y_Graph_joinRandomly : MethodName := ⟨R_Graph, "joinRandomly", "(II)V"⟩
abbrev b_Graph_joinRandomly : ByteArray := prog_4_method_8_code
theorem v_Graph_joinRandomly : HVirt y_Graph_joinRandomly b_Graph_joinRandomly 7 none 2 := ⟨List.forall_mem_cons.mpr ⟨h_inI 664 (by decide +kernel) rfl, List.forall_mem_cons.mpr ⟨h_inI 665 (by decide +kernel) rfl, List.forall_mem_cons.mpr ⟨h_inI 101 (by decide +kernel) rfl, List.forall_mem_cons.mpr ⟨h_inI 666 (by decide +kernel) rfl, fun _ h => absurd h List.not_mem_nil⟩⟩⟩⟩, by decide, by decide, by decide +kernel⟩
def y_Graph_joinPlaced : MethodName := ⟨R_Graph, "joinPlaced", "(LHomBench$Graph;III)V"⟩
abbrev b_Graph_joinPlaced : ByteArray := prog_4_method_10_code
theorem v_Graph_joinPlaced : HVirt y_Graph_joinPlaced b_Graph_joinPlaced 7 none 4 := ⟨List.forall_mem_cons.mpr ⟨h_inI 703 (by decide +kernel) rfl, List.forall_mem_cons.mpr ⟨h_inI 12 (by decide +kernel) rfl, List.forall_mem_cons.mpr ⟨h_inI 101 (by decide +kernel) rfl, List.forall_mem_cons.mpr ⟨h_inI 704 (by decide +kernel) rfl, fun _ h => absurd h List.not_mem_nil⟩⟩⟩⟩, by decide, by decide, by decide +kernel⟩
def y_Graph_place : MethodName := ⟨R_Graph, "place", "(LHomBench$Graph;II)V"⟩
abbrev b_Graph_place : ByteArray := prog_4_method_9_code
theorem v_Graph_place : HVirt y_Graph_place b_Graph_place 6 none 3 := ⟨List.forall_mem_cons.mpr ⟨h_inI 698 (by decide +kernel) rfl, List.forall_mem_cons.mpr ⟨h_inI 699 (by decide +kernel) rfl, List.forall_mem_cons.mpr ⟨h_inI 101 (by decide +kernel) rfl, List.forall_mem_cons.mpr ⟨h_inI 700 (by decide +kernel) rfl, fun _ h => absurd h List.not_mem_nil⟩⟩⟩⟩, by decide, by decide, by decide +kernel⟩
def y_Graph_induce : MethodName := ⟨R_Graph, "induce", "(LHomBench$Graph;I)V"⟩
abbrev b_Graph_induce : ByteArray := prog_4_method_11_code
theorem v_Graph_induce : HVirt y_Graph_induce b_Graph_induce 3 none 2 := ⟨List.forall_mem_cons.mpr ⟨h_inI 737 (by decide +kernel) rfl, List.forall_mem_cons.mpr ⟨h_inI 738 (by decide +kernel) rfl, List.forall_mem_cons.mpr ⟨h_inI 101 (by decide +kernel) rfl, List.forall_mem_cons.mpr ⟨h_inI 739 (by decide +kernel) rfl, fun _ h => absurd h List.not_mem_nil⟩⟩⟩⟩, by decide, by decide, by decide +kernel⟩
def y_Graph_complement : MethodName := ⟨R_Graph, "complement", "(LHomBench$Graph;)V"⟩
abbrev b_Graph_complement : ByteArray := prog_4_method_12_code
theorem v_Graph_complement : HVirt y_Graph_complement b_Graph_complement 4 none 1 := ⟨List.forall_mem_cons.mpr ⟨h_inI 732 (by decide +kernel) rfl, List.forall_mem_cons.mpr ⟨h_inI 733 (by decide +kernel) rfl, List.forall_mem_cons.mpr ⟨h_inI 101 (by decide +kernel) rfl, List.forall_mem_cons.mpr ⟨h_inI 734 (by decide +kernel) rfl, fun _ h => absurd h List.not_mem_nil⟩⟩⟩⟩, by decide, by decide, by decide +kernel⟩
def y_Graph_step : MethodName := ⟨R_Graph, "step", "(IIZ)I"⟩
abbrev b_Graph_step : ByteArray := prog_4_method_15_code
theorem v_Graph_step : HVirt y_Graph_step b_Graph_step 4 (some .int) 3 := ⟨List.forall_mem_cons.mpr ⟨h_inI 721 (by decide +kernel) rfl, List.forall_mem_cons.mpr ⟨h_inI 14 (by decide +kernel) rfl, List.forall_mem_cons.mpr ⟨h_inI 101 (by decide +kernel) rfl, List.forall_mem_cons.mpr ⟨h_inI 722 (by decide +kernel) rfl, fun _ h => absurd h List.not_mem_nil⟩⟩⟩⟩, by decide, by decide, by decide +kernel⟩
def y_Graph_joinPair : MethodName := ⟨R_Graph, "joinPair", "(LHomBench$Graph;LHomBench$Graph;IIZ)V"⟩
abbrev b_Graph_joinPair : ByteArray := prog_4_method_14_code
theorem v_Graph_joinPair : HVirt y_Graph_joinPair b_Graph_joinPair 9 none 5 := ⟨List.forall_mem_cons.mpr ⟨h_inI 717 (by decide +kernel) rfl, List.forall_mem_cons.mpr ⟨h_inI 13 (by decide +kernel) rfl, List.forall_mem_cons.mpr ⟨h_inI 101 (by decide +kernel) rfl, List.forall_mem_cons.mpr ⟨h_inI 718 (by decide +kernel) rfl, fun _ h => absurd h List.not_mem_nil⟩⟩⟩⟩, by decide, by decide, by decide +kernel⟩
def y_Graph_multiply : MethodName := ⟨R_Graph, "multiply", "(LHomBench$Graph;LHomBench$Graph;Z)V"⟩
abbrev b_Graph_multiply : ByteArray := prog_4_method_13_code
theorem v_Graph_multiply : HVirt y_Graph_multiply b_Graph_multiply 6 none 3 := ⟨List.forall_mem_cons.mpr ⟨h_inI 707 (by decide +kernel) rfl, List.forall_mem_cons.mpr ⟨h_inI 708 (by decide +kernel) rfl, List.forall_mem_cons.mpr ⟨h_inI 101 (by decide +kernel) rfl, List.forall_mem_cons.mpr ⟨h_inI 709 (by decide +kernel) rfl, fun _ h => absurd h List.not_mem_nil⟩⟩⟩⟩, by decide, by decide, by decide +kernel⟩
def y_Graph_edgeCount : MethodName := ⟨R_Graph, "edgeCount", "()I"⟩
abbrev b_Graph_edgeCount : ByteArray := prog_4_method_19_code
theorem v_Graph_edgeCount : HVirt y_Graph_edgeCount b_Graph_edgeCount 3 (some .int) 0 := ⟨List.forall_mem_cons.mpr ⟨h_inI 646 (by decide +kernel) rfl, List.forall_mem_cons.mpr ⟨h_inI 647 (by decide +kernel) rfl, List.forall_mem_cons.mpr ⟨h_inI 101 (by decide +kernel) rfl, List.forall_mem_cons.mpr ⟨h_inI 648 (by decide +kernel) rfl, fun _ h => absurd h List.not_mem_nil⟩⟩⟩⟩, by decide, by decide, by decide +kernel⟩
def y_Graph_partCount : MethodName := ⟨R_Graph, "partCount", "()I"⟩
abbrev b_Graph_partCount : ByteArray := prog_4_method_20_code
theorem v_Graph_partCount : HVirt y_Graph_partCount b_Graph_partCount 4 (some .int) 0 := ⟨List.forall_mem_cons.mpr ⟨h_inI 749 (by decide +kernel) rfl, List.forall_mem_cons.mpr ⟨h_inI 750 (by decide +kernel) rfl, List.forall_mem_cons.mpr ⟨h_inI 101 (by decide +kernel) rfl, List.forall_mem_cons.mpr ⟨h_inI 751 (by decide +kernel) rfl, fun _ h => absurd h List.not_mem_nil⟩⟩⟩⟩, by decide, by decide, by decide +kernel⟩
def y_Graph_foldTargets : MethodName := ⟨R_Graph, "foldTargets", "(II)I"⟩
abbrev b_Graph_foldTargets : ByteArray := prog_4_method_23_code
theorem v_Graph_foldTargets : HVirt y_Graph_foldTargets b_Graph_foldTargets 8 (some .int) 2 := ⟨List.forall_mem_cons.mpr ⟨h_inI 1007 (by decide +kernel) rfl, List.forall_mem_cons.mpr ⟨h_inI 1008 (by decide +kernel) rfl, List.forall_mem_cons.mpr ⟨h_inI 101 (by decide +kernel) rfl, List.forall_mem_cons.mpr ⟨h_inI 1009 (by decide +kernel) rfl, fun _ h => absurd h List.not_mem_nil⟩⟩⟩⟩, by decide, by decide, by decide +kernel⟩
def y_Graph_lowestFoldable : MethodName := ⟨R_Graph, "lowestFoldable", "(I)I"⟩
abbrev b_Graph_lowestFoldable : ByteArray := prog_4_method_25_code
theorem v_Graph_lowestFoldable : HVirt y_Graph_lowestFoldable b_Graph_lowestFoldable 3 (some .int) 1 := ⟨List.forall_mem_cons.mpr ⟨h_inI 1023 (by decide +kernel) rfl, List.forall_mem_cons.mpr ⟨h_inI 24 (by decide +kernel) rfl, List.forall_mem_cons.mpr ⟨h_inI 101 (by decide +kernel) rfl, List.forall_mem_cons.mpr ⟨h_inI 1024 (by decide +kernel) rfl, fun _ h => absurd h List.not_mem_nil⟩⟩⟩⟩, by decide, by decide, by decide +kernel⟩
def y_Graph_stiffPart : MethodName := ⟨R_Graph, "stiffPart", "()I"⟩
abbrev b_Graph_stiffPart : ByteArray := prog_4_method_24_code
theorem v_Graph_stiffPart : HVirt y_Graph_stiffPart b_Graph_stiffPart 4 (some .int) 0 := ⟨List.forall_mem_cons.mpr ⟨h_inI 1018 (by decide +kernel) rfl, List.forall_mem_cons.mpr ⟨h_inI 1019 (by decide +kernel) rfl, List.forall_mem_cons.mpr ⟨h_inI 101 (by decide +kernel) rfl, List.forall_mem_cons.mpr ⟨h_inI 1020 (by decide +kernel) rfl, fun _ h => absurd h List.not_mem_nil⟩⟩⟩⟩, by decide, by decide, by decide +kernel⟩
theorem wf_Graph_15 : Cond.fieldLink R_Graph 15 (F_Graph 2).1 (F_Graph 2).2.1 (F_Graph 2).2.2.1 ∈ h_tb := h_inI 152 (by decide +kernel) rfl
theorem wf_Graph_21 : Cond.fieldLink R_Graph 21 (F_Graph 0).1 (F_Graph 0).2.1 (F_Graph 0).2.2.1 ∈ h_tb := h_inI 138 (by decide +kernel) rfl
theorem wf_Graph_18 : Cond.fieldLink R_Graph 18 (F_Graph 3).1 (F_Graph 3).2.1 (F_Graph 3).2.2.1 ∈ h_tb := h_inI 153 (by decide +kernel) rfl
theorem wi_Math : Cond.initialized "java/lang/Math" ∈ h_tb := h_inI 120 (by decide +kernel) rfl
theorem wk_Math_max : Cond.code Lib.Math.max.name Lib.Math.max.code 2 (some .int) ∈ h_tb := h_inI 414 (by decide +kernel) rfl
theorem wk_Math_min : Cond.code Lib.Math.min.name Lib.Math.min.code 2 (some .int) ∈ h_tb := h_inI 417 (by decide +kernel) rfl
theorem wm_Bench_314 : Cond.methodLink R_Bench 314 Lib.Math.min.name ∈ h_tb := h_inI 713 (by decide +kernel) rfl
theorem wm_Bench_319 : Cond.methodLink R_Bench 319 Lib.Math.max.name ∈ h_tb := h_inI 714 (by decide +kernel) rfl
theorem ws_Math_max : Cond.static Lib.Math.max.name ∈ h_tb := h_inI 413 (by decide +kernel) rfl
theorem ws_Math_min : Cond.static Lib.Math.min.name ∈ h_tb := h_inI 416 (by decide +kernel) rfl
theorem wm_Graph_67 : Cond.methodLink R_Graph 67 y_Integer_bitCount ∈ h_tb := h_inI 649 (by decide +kernel) rfl
theorem wm_Graph_92 : Cond.methodLink R_Graph 92 y_Graph_loops ∈ h_tb := h_inI 654 (by decide +kernel) rfl
theorem wf_Graph_9 : Cond.fieldLink R_Graph 9 (F_Graph 1).1 (F_Graph 1).2.1 (F_Graph 1).2.2.1 ∈ h_tb := h_inI 146 (by decide +kernel) rfl
theorem wm_Graph_25 : Cond.methodLink R_Graph 25 y_Arrays_fill1 ∈ h_tb := h_inI 604 (by decide +kernel) rfl
theorem wi_System : Cond.initialized "java/lang/System" ∈ h_tb := h_inI 116 (by decide +kernel) rfl
theorem wm_Graph_31 : Cond.methodLink R_Graph 31 arraycopyName ∈ h_tb := h_inI 599 (by decide +kernel) rfl
theorem wn_arraycopy : Cond.native arraycopyName ∈ h_tb := h_inI 460 (by decide +kernel) rfl
theorem ws_arraycopy : Cond.static arraycopyName ∈ h_tb := h_inI 459 (by decide +kernel) rfl
theorem wm_Graph_37 : Cond.methodLink R_Graph 37 y_Graph_inFamily ∈ h_tb := h_inI 640 (by decide +kernel) rfl
theorem wm_Graph_41 : Cond.methodLink R_Graph 41 y_Graph_join ∈ h_tb := h_inI 644 (by decide +kernel) rfl
theorem wc_Graph_45 : Cond.constantLong R_Graph 45 1103515245 ∈ h_tb := h_inI 667 (by decide +kernel) rfl
theorem wc_Graph_47 : Cond.constantLong R_Graph 47 12345 ∈ h_tb := h_inI 668 (by decide +kernel) rfl
theorem wc_Graph_49 : Cond.constantLong R_Graph 49 2147483648 ∈ h_tb := h_inI 669 (by decide +kernel) rfl
theorem wc_Graph_51 : Cond.constantLong R_Graph 51 65536 ∈ h_tb := h_inI 670 (by decide +kernel) rfl
theorem wc_Graph_53 : Cond.constantLong R_Graph 53 100 ∈ h_tb := h_inI 671 (by decide +kernel) rfl
theorem wm_Graph_63 : Cond.methodLink R_Graph 63 y_Graph_between ∈ h_tb := h_inI 705 (by decide +kernel) rfl
theorem wm_Graph_59 : Cond.methodLink R_Graph 59 y_Graph_joinPlaced ∈ h_tb := h_inI 701 (by decide +kernel) rfl
theorem wm_Graph_73 : Cond.methodLink R_Graph 73 y_Graph_reset ∈ h_tb := h_inI 735 (by decide +kernel) rfl
theorem wm_Graph_77 : Cond.methodLink R_Graph 77 y_Graph_place ∈ h_tb := h_inI 740 (by decide +kernel) rfl
theorem wm_Graph_88 : Cond.methodLink R_Graph 88 y_Graph_step ∈ h_tb := h_inI 719 (by decide +kernel) rfl
theorem wm_Graph_84 : Cond.methodLink R_Graph 84 y_Graph_joinPair ∈ h_tb := h_inI 715 (by decide +kernel) rfl
theorem wm_Graph_96 : Cond.methodLink R_Graph 96 y_Graph_all ∈ h_tb := h_inI 752 (by decide +kernel) rfl
theorem wm_Graph_99 : Cond.methodLink R_Graph 99 y_Graph_reached ∈ h_tb := h_inI 753 (by decide +kernel) rfl
theorem wm_Graph_105 : Cond.methodLink R_Graph 105 y_Graph_foldTargets ∈ h_tb := h_inI 1025 (by decide +kernel) rfl
theorem wm_Graph_102 : Cond.methodLink R_Graph 102 y_Graph_lowestFoldable ∈ h_tb := h_inI 1021 (by decide +kernel) rfl
theorem d_Graph_between_0 : decode b_Graph_between 0 = .ok (.aload_n 0, 1) := by decide +kernel
theorem d_Graph_between_1 : decode b_Graph_between 1 = .ok (.getfield 15, 3) := by decide +kernel
theorem d_Graph_between_4 : decode b_Graph_between 4 = .ok (.bipush 8, 2) := by decide +kernel
theorem d_Graph_between_6 : decode b_Graph_between 6 = .ok (.iload_n 1, 1) := by decide +kernel
theorem d_Graph_between_7 : decode b_Graph_between 7 = .ok (.imul, 1) := by decide +kernel
theorem d_Graph_between_8 : decode b_Graph_between 8 = .ok (.iload_n 2, 1) := by decide +kernel
theorem d_Graph_between_9 : decode b_Graph_between 9 = .ok (.iadd, 1) := by decide +kernel
theorem d_Graph_between_10 : decode b_Graph_between 10 = .ok (.iaload, 1) := by decide +kernel
theorem d_Graph_between_11 : decode b_Graph_between 11 = .ok (.ireturn, 1) := by decide +kernel
theorem d_Graph_all_0 : decode b_Graph_all 0 = .ok (.iconst 1, 1) := by decide +kernel
theorem d_Graph_all_1 : decode b_Graph_all 1 = .ok (.aload_n 0, 1) := by decide +kernel
theorem d_Graph_all_2 : decode b_Graph_all 2 = .ok (.getfield 21, 3) := by decide +kernel
theorem d_Graph_all_5 : decode b_Graph_all 5 = .ok (.ishl, 1) := by decide +kernel
theorem d_Graph_all_6 : decode b_Graph_all 6 = .ok (.iconst 1, 1) := by decide +kernel
theorem d_Graph_all_7 : decode b_Graph_all 7 = .ok (.isub, 1) := by decide +kernel
theorem d_Graph_all_8 : decode b_Graph_all 8 = .ok (.ireturn, 1) := by decide +kernel
theorem d_Bench_has_0 : decode b_Bench_has 0 = .ok (.iload_n 0, 1) := by decide +kernel
theorem d_Bench_has_1 : decode b_Bench_has 1 = .ok (.iload_n 1, 1) := by decide +kernel
theorem d_Bench_has_2 : decode b_Bench_has 2 = .ok (.ishr, 1) := by decide +kernel
theorem d_Bench_has_3 : decode b_Bench_has 3 = .ok (.iconst 1, 1) := by decide +kernel
theorem d_Bench_has_4 : decode b_Bench_has 4 = .ok (.iand, 1) := by decide +kernel
theorem d_Bench_has_5 : decode b_Bench_has 5 = .ok (.ifCond .eq 7, 3) := by decide +kernel
theorem d_Bench_has_8 : decode b_Bench_has 8 = .ok (.iconst 1, 1) := by decide +kernel
theorem d_Bench_has_9 : decode b_Bench_has 9 = .ok (.goto 4, 3) := by decide +kernel
theorem d_Bench_has_12 : decode b_Bench_has 12 = .ok (.iconst 0, 1) := by decide +kernel
theorem d_Bench_has_13 : decode b_Bench_has 13 = .ok (.ireturn, 1) := by decide +kernel
theorem d_Graph_reached_0 : decode b_Graph_reached 0 = .ok (.iconst 1, 1) := by decide +kernel
theorem d_Graph_reached_1 : decode b_Graph_reached 1 = .ok (.iload_n 1, 1) := by decide +kernel
theorem d_Graph_reached_2 : decode b_Graph_reached 2 = .ok (.ishl, 1) := by decide +kernel
theorem d_Graph_reached_3 : decode b_Graph_reached 3 = .ok (.istore_n 3, 1) := by decide +kernel
theorem d_Graph_reached_4 : decode b_Graph_reached 4 = .ok (.iconst 0, 1) := by decide +kernel
theorem d_Graph_reached_5 : decode b_Graph_reached 5 = .ok (.istore 4, 2) := by decide +kernel
theorem d_Graph_reached_7 : decode b_Graph_reached 7 = .ok (.iconst 0, 1) := by decide +kernel
theorem d_Graph_reached_8 : decode b_Graph_reached 8 = .ok (.istore 5, 2) := by decide +kernel
theorem d_Graph_reached_10 : decode b_Graph_reached 10 = .ok (.iload 5, 2) := by decide +kernel
theorem d_Graph_reached_12 : decode b_Graph_reached 12 = .ok (.aload_n 0, 1) := by decide +kernel
theorem d_Graph_reached_13 : decode b_Graph_reached 13 = .ok (.getfield 21, 3) := by decide +kernel
theorem d_Graph_reached_16 : decode b_Graph_reached 16 = .ok (.if_icmp .gt 61, 3) := by decide +kernel
theorem d_Graph_reached_19 : decode b_Graph_reached 19 = .ok (.iload_n 3, 1) := by decide +kernel
theorem d_Graph_reached_20 : decode b_Graph_reached 20 = .ok (.iload 4, 2) := by decide +kernel
theorem d_Graph_reached_22 : decode b_Graph_reached 22 = .ok (.if_icmp .eq 55, 3) := by decide +kernel
theorem d_Graph_reached_25 : decode b_Graph_reached 25 = .ok (.iload_n 3, 1) := by decide +kernel
theorem d_Graph_reached_26 : decode b_Graph_reached 26 = .ok (.istore 4, 2) := by decide +kernel
theorem d_Graph_reached_28 : decode b_Graph_reached 28 = .ok (.iconst 0, 1) := by decide +kernel
theorem d_Graph_reached_29 : decode b_Graph_reached 29 = .ok (.istore 6, 2) := by decide +kernel
theorem d_Graph_reached_31 : decode b_Graph_reached 31 = .ok (.iload 6, 2) := by decide +kernel
theorem d_Graph_reached_33 : decode b_Graph_reached 33 = .ok (.aload_n 0, 1) := by decide +kernel
theorem d_Graph_reached_34 : decode b_Graph_reached 34 = .ok (.getfield 21, 3) := by decide +kernel
theorem d_Graph_reached_37 : decode b_Graph_reached 37 = .ok (.if_icmp .ge 34, 3) := by decide +kernel
theorem d_Graph_reached_40 : decode b_Graph_reached 40 = .ok (.iload_n 3, 1) := by decide +kernel
theorem d_Graph_reached_41 : decode b_Graph_reached 41 = .ok (.iload_n 3, 1) := by decide +kernel
theorem d_Graph_reached_42 : decode b_Graph_reached 42 = .ok (.iload 6, 2) := by decide +kernel
theorem d_Graph_reached_44 : decode b_Graph_reached 44 = .ok (.invokestatic 55, 3) := by decide +kernel
theorem d_Graph_reached_47 : decode b_Graph_reached 47 = .ok (.ifCond .eq 15, 3) := by decide +kernel
theorem d_Graph_reached_50 : decode b_Graph_reached 50 = .ok (.aload_n 0, 1) := by decide +kernel
theorem d_Graph_reached_51 : decode b_Graph_reached 51 = .ok (.getfield 18, 3) := by decide +kernel
theorem d_Graph_reached_54 : decode b_Graph_reached 54 = .ok (.iload 6, 2) := by decide +kernel
theorem d_Graph_reached_56 : decode b_Graph_reached 56 = .ok (.iaload, 1) := by decide +kernel
theorem d_Graph_reached_57 : decode b_Graph_reached 57 = .ok (.iload_n 2, 1) := by decide +kernel
theorem d_Graph_reached_58 : decode b_Graph_reached 58 = .ok (.iand, 1) := by decide +kernel
theorem d_Graph_reached_59 : decode b_Graph_reached 59 = .ok (.goto 4, 3) := by decide +kernel
theorem d_Graph_reached_62 : decode b_Graph_reached 62 = .ok (.iconst 0, 1) := by decide +kernel
theorem d_Graph_reached_63 : decode b_Graph_reached 63 = .ok (.ior, 1) := by decide +kernel
theorem d_Graph_reached_64 : decode b_Graph_reached 64 = .ok (.istore_n 3, 1) := by decide +kernel
theorem d_Graph_reached_65 : decode b_Graph_reached 65 = .ok (.iinc 6 1, 3) := by decide +kernel
theorem d_Graph_reached_68 : decode b_Graph_reached 68 = .ok (.goto (-37), 3) := by decide +kernel
theorem d_Graph_reached_71 : decode b_Graph_reached 71 = .ok (.iinc 5 1, 3) := by decide +kernel
theorem d_Graph_reached_74 : decode b_Graph_reached 74 = .ok (.goto (-64), 3) := by decide +kernel
theorem d_Graph_reached_77 : decode b_Graph_reached 77 = .ok (.iload_n 3, 1) := by decide +kernel
theorem d_Graph_reached_78 : decode b_Graph_reached 78 = .ok (.ireturn, 1) := by decide +kernel
theorem d_Graph_nearOf_0 : decode b_Graph_nearOf 0 = .ok (.iconst 0, 1) := by decide +kernel
theorem d_Graph_nearOf_1 : decode b_Graph_nearOf 1 = .ok (.istore_n 2, 1) := by decide +kernel
theorem d_Graph_nearOf_2 : decode b_Graph_nearOf 2 = .ok (.iconst 0, 1) := by decide +kernel
theorem d_Graph_nearOf_3 : decode b_Graph_nearOf 3 = .ok (.istore_n 3, 1) := by decide +kernel
theorem d_Graph_nearOf_4 : decode b_Graph_nearOf 4 = .ok (.iload_n 3, 1) := by decide +kernel
theorem d_Graph_nearOf_5 : decode b_Graph_nearOf 5 = .ok (.aload_n 0, 1) := by decide +kernel
theorem d_Graph_nearOf_6 : decode b_Graph_nearOf 6 = .ok (.getfield 21, 3) := by decide +kernel
theorem d_Graph_nearOf_9 : decode b_Graph_nearOf 9 = .ok (.if_icmp .ge 26, 3) := by decide +kernel
theorem d_Graph_nearOf_12 : decode b_Graph_nearOf 12 = .ok (.iload_n 1, 1) := by decide +kernel
theorem d_Graph_nearOf_13 : decode b_Graph_nearOf 13 = .ok (.iload_n 3, 1) := by decide +kernel
theorem d_Graph_nearOf_14 : decode b_Graph_nearOf 14 = .ok (.invokestatic 55, 3) := by decide +kernel
theorem d_Graph_nearOf_17 : decode b_Graph_nearOf 17 = .ok (.ifCond .eq 12, 3) := by decide +kernel
theorem d_Graph_nearOf_20 : decode b_Graph_nearOf 20 = .ok (.iload_n 2, 1) := by decide +kernel
theorem d_Graph_nearOf_21 : decode b_Graph_nearOf 21 = .ok (.aload_n 0, 1) := by decide +kernel
theorem d_Graph_nearOf_22 : decode b_Graph_nearOf 22 = .ok (.getfield 18, 3) := by decide +kernel
theorem d_Graph_nearOf_25 : decode b_Graph_nearOf 25 = .ok (.iload_n 3, 1) := by decide +kernel
theorem d_Graph_nearOf_26 : decode b_Graph_nearOf 26 = .ok (.iaload, 1) := by decide +kernel
theorem d_Graph_nearOf_27 : decode b_Graph_nearOf 27 = .ok (.ior, 1) := by decide +kernel
theorem d_Graph_nearOf_28 : decode b_Graph_nearOf 28 = .ok (.istore_n 2, 1) := by decide +kernel
theorem d_Graph_nearOf_29 : decode b_Graph_nearOf 29 = .ok (.iinc 3 1, 3) := by decide +kernel
theorem d_Graph_nearOf_32 : decode b_Graph_nearOf 32 = .ok (.goto (-28), 3) := by decide +kernel
theorem d_Graph_nearOf_35 : decode b_Graph_nearOf 35 = .ok (.iload_n 2, 1) := by decide +kernel
theorem d_Graph_nearOf_36 : decode b_Graph_nearOf 36 = .ok (.ireturn, 1) := by decide +kernel
theorem d_Graph_loops_0 : decode b_Graph_loops 0 = .ok (.iconst 0, 1) := by decide +kernel
theorem d_Graph_loops_1 : decode b_Graph_loops 1 = .ok (.istore_n 1, 1) := by decide +kernel
theorem d_Graph_loops_2 : decode b_Graph_loops 2 = .ok (.iconst 0, 1) := by decide +kernel
theorem d_Graph_loops_3 : decode b_Graph_loops 3 = .ok (.istore_n 2, 1) := by decide +kernel
theorem d_Graph_loops_4 : decode b_Graph_loops 4 = .ok (.iload_n 2, 1) := by decide +kernel
theorem d_Graph_loops_5 : decode b_Graph_loops 5 = .ok (.aload_n 0, 1) := by decide +kernel
theorem d_Graph_loops_6 : decode b_Graph_loops 6 = .ok (.getfield 21, 3) := by decide +kernel
theorem d_Graph_loops_9 : decode b_Graph_loops 9 = .ok (.if_icmp .ge 22, 3) := by decide +kernel
theorem d_Graph_loops_12 : decode b_Graph_loops 12 = .ok (.iload_n 1, 1) := by decide +kernel
theorem d_Graph_loops_13 : decode b_Graph_loops 13 = .ok (.aload_n 0, 1) := by decide +kernel
theorem d_Graph_loops_14 : decode b_Graph_loops 14 = .ok (.getfield 18, 3) := by decide +kernel
theorem d_Graph_loops_17 : decode b_Graph_loops 17 = .ok (.iload_n 2, 1) := by decide +kernel
theorem d_Graph_loops_18 : decode b_Graph_loops 18 = .ok (.iaload, 1) := by decide +kernel
theorem d_Graph_loops_19 : decode b_Graph_loops 19 = .ok (.iconst 1, 1) := by decide +kernel
theorem d_Graph_loops_20 : decode b_Graph_loops 20 = .ok (.iload_n 2, 1) := by decide +kernel
theorem d_Graph_loops_21 : decode b_Graph_loops 21 = .ok (.ishl, 1) := by decide +kernel
theorem d_Graph_loops_22 : decode b_Graph_loops 22 = .ok (.iand, 1) := by decide +kernel
theorem d_Graph_loops_23 : decode b_Graph_loops 23 = .ok (.ior, 1) := by decide +kernel
theorem d_Graph_loops_24 : decode b_Graph_loops 24 = .ok (.istore_n 1, 1) := by decide +kernel
theorem d_Graph_loops_25 : decode b_Graph_loops 25 = .ok (.iinc 2 1, 3) := by decide +kernel
theorem d_Graph_loops_28 : decode b_Graph_loops 28 = .ok (.goto (-24), 3) := by decide +kernel
theorem d_Graph_loops_31 : decode b_Graph_loops 31 = .ok (.iload_n 1, 1) := by decide +kernel
theorem d_Graph_loops_32 : decode b_Graph_loops 32 = .ok (.ireturn, 1) := by decide +kernel
theorem d_Bench_limited_0 : decode b_Bench_limited 0 = .ok (.iload_n 1, 1) := by decide +kernel
theorem d_Bench_limited_1 : decode b_Bench_limited 1 = .ok (.ineg, 1) := by decide +kernel
theorem d_Bench_limited_2 : decode b_Bench_limited 2 = .ok (.iload_n 1, 1) := by decide +kernel
theorem d_Bench_limited_3 : decode b_Bench_limited 3 = .ok (.iload_n 0, 1) := by decide +kernel
theorem d_Bench_limited_4 : decode b_Bench_limited 4 = .ok (.invokestatic 314, 3) := by decide +kernel
theorem d_Bench_limited_7 : decode b_Bench_limited 7 = .ok (.invokestatic 319, 3) := by decide +kernel
theorem d_Bench_limited_10 : decode b_Bench_limited 10 = .ok (.ireturn, 1) := by decide +kernel
theorem d_Bench_greatestDivisor_0 : decode b_Bench_greatestDivisor 0 = .ok (.lload_n 0, 1) := by decide +kernel
theorem d_Bench_greatestDivisor_1 : decode b_Bench_greatestDivisor 1 = .ok (.lstore 4, 2) := by decide +kernel
theorem d_Bench_greatestDivisor_3 : decode b_Bench_greatestDivisor 3 = .ok (.lload_n 2, 1) := by decide +kernel
theorem d_Bench_greatestDivisor_4 : decode b_Bench_greatestDivisor 4 = .ok (.lstore 6, 2) := by decide +kernel
theorem d_Bench_greatestDivisor_6 : decode b_Bench_greatestDivisor 6 = .ok (.iconst 0, 1) := by decide +kernel
theorem d_Bench_greatestDivisor_7 : decode b_Bench_greatestDivisor 7 = .ok (.istore 8, 2) := by decide +kernel
theorem d_Bench_greatestDivisor_9 : decode b_Bench_greatestDivisor 9 = .ok (.iload 8, 2) := by decide +kernel
theorem d_Bench_greatestDivisor_11 : decode b_Bench_greatestDivisor 11 = .ok (.sipush 128, 3) := by decide +kernel
theorem d_Bench_greatestDivisor_14 : decode b_Bench_greatestDivisor 14 = .ok (.if_icmp .ge 31, 3) := by decide +kernel
theorem d_Bench_greatestDivisor_17 : decode b_Bench_greatestDivisor 17 = .ok (.lload 6, 2) := by decide +kernel
theorem d_Bench_greatestDivisor_19 : decode b_Bench_greatestDivisor 19 = .ok (.lconst 0, 1) := by decide +kernel
theorem d_Bench_greatestDivisor_20 : decode b_Bench_greatestDivisor 20 = .ok (.lcmp, 1) := by decide +kernel
theorem d_Bench_greatestDivisor_21 : decode b_Bench_greatestDivisor 21 = .ok (.ifCond .eq 24, 3) := by decide +kernel
theorem d_Bench_greatestDivisor_24 : decode b_Bench_greatestDivisor 24 = .ok (.lload 4, 2) := by decide +kernel
theorem d_Bench_greatestDivisor_26 : decode b_Bench_greatestDivisor 26 = .ok (.lload 6, 2) := by decide +kernel
theorem d_Bench_greatestDivisor_28 : decode b_Bench_greatestDivisor 28 = .ok (.lrem, 1) := by decide +kernel
theorem d_Bench_greatestDivisor_29 : decode b_Bench_greatestDivisor 29 = .ok (.lstore 9, 2) := by decide +kernel
theorem d_Bench_greatestDivisor_31 : decode b_Bench_greatestDivisor 31 = .ok (.lload 6, 2) := by decide +kernel
theorem d_Bench_greatestDivisor_33 : decode b_Bench_greatestDivisor 33 = .ok (.lstore 4, 2) := by decide +kernel
theorem d_Bench_greatestDivisor_35 : decode b_Bench_greatestDivisor 35 = .ok (.lload 9, 2) := by decide +kernel
theorem d_Bench_greatestDivisor_37 : decode b_Bench_greatestDivisor 37 = .ok (.lstore 6, 2) := by decide +kernel
theorem d_Bench_greatestDivisor_39 : decode b_Bench_greatestDivisor 39 = .ok (.iinc 8 1, 3) := by decide +kernel
theorem d_Bench_greatestDivisor_42 : decode b_Bench_greatestDivisor 42 = .ok (.goto (-33), 3) := by decide +kernel
theorem d_Bench_greatestDivisor_45 : decode b_Bench_greatestDivisor 45 = .ok (.lload 4, 2) := by decide +kernel
theorem d_Bench_greatestDivisor_47 : decode b_Bench_greatestDivisor 47 = .ok (.lreturn, 1) := by decide +kernel
theorem d_Graph_loopCount_0 : decode b_Graph_loopCount 0 = .ok (.aload_n 0, 1) := by decide +kernel
theorem d_Graph_loopCount_1 : decode b_Graph_loopCount 1 = .ok (.invokevirtual 92, 3) := by decide +kernel
theorem d_Graph_loopCount_4 : decode b_Graph_loopCount 4 = .ok (.invokestatic 67, 3) := by decide +kernel
theorem d_Graph_loopCount_7 : decode b_Graph_loopCount 7 = .ok (.ireturn, 1) := by decide +kernel
theorem d_Graph_reset_0 : decode b_Graph_reset 0 = .ok (.aload_n 0, 1) := by decide +kernel
theorem d_Graph_reset_1 : decode b_Graph_reset 1 = .ok (.iload_n 1, 1) := by decide +kernel
theorem d_Graph_reset_2 : decode b_Graph_reset 2 = .ok (.putfield 21, 3) := by decide +kernel
theorem d_Graph_reset_5 : decode b_Graph_reset 5 = .ok (.aload_n 0, 1) := by decide +kernel
theorem d_Graph_reset_6 : decode b_Graph_reset 6 = .ok (.getfield 9, 3) := by decide +kernel
theorem d_Graph_reset_9 : decode b_Graph_reset 9 = .ok (.iconst 1, 1) := by decide +kernel
theorem d_Graph_reset_10 : decode b_Graph_reset 10 = .ok (.invokestatic 25, 3) := by decide +kernel
theorem d_Graph_reset_13 : decode b_Graph_reset 13 = .ok (.aload_n 0, 1) := by decide +kernel
theorem d_Graph_reset_14 : decode b_Graph_reset 14 = .ok (.getfield 15, 3) := by decide +kernel
theorem d_Graph_reset_17 : decode b_Graph_reset 17 = .ok (.iconst 0, 1) := by decide +kernel
theorem d_Graph_reset_18 : decode b_Graph_reset 18 = .ok (.invokestatic 25, 3) := by decide +kernel
theorem d_Graph_reset_21 : decode b_Graph_reset 21 = .ok (.aload_n 0, 1) := by decide +kernel
theorem d_Graph_reset_22 : decode b_Graph_reset 22 = .ok (.getfield 18, 3) := by decide +kernel
theorem d_Graph_reset_25 : decode b_Graph_reset 25 = .ok (.iconst 0, 1) := by decide +kernel
theorem d_Graph_reset_26 : decode b_Graph_reset 26 = .ok (.invokestatic 25, 3) := by decide +kernel
theorem d_Graph_reset_29 : decode b_Graph_reset 29 = .ok (.return_, 1) := by decide +kernel
theorem d_Graph_copyFrom_0 : decode b_Graph_copyFrom 0 = .ok (.aload_n 0, 1) := by decide +kernel
theorem d_Graph_copyFrom_1 : decode b_Graph_copyFrom 1 = .ok (.aload_n 1, 1) := by decide +kernel
theorem d_Graph_copyFrom_2 : decode b_Graph_copyFrom 2 = .ok (.getfield 21, 3) := by decide +kernel
theorem d_Graph_copyFrom_5 : decode b_Graph_copyFrom 5 = .ok (.putfield 21, 3) := by decide +kernel
theorem d_Graph_copyFrom_8 : decode b_Graph_copyFrom 8 = .ok (.aload_n 1, 1) := by decide +kernel
theorem d_Graph_copyFrom_9 : decode b_Graph_copyFrom 9 = .ok (.getfield 9, 3) := by decide +kernel
theorem d_Graph_copyFrom_12 : decode b_Graph_copyFrom 12 = .ok (.iconst 0, 1) := by decide +kernel
theorem d_Graph_copyFrom_13 : decode b_Graph_copyFrom 13 = .ok (.aload_n 0, 1) := by decide +kernel
theorem d_Graph_copyFrom_14 : decode b_Graph_copyFrom 14 = .ok (.getfield 9, 3) := by decide +kernel
theorem d_Graph_copyFrom_17 : decode b_Graph_copyFrom 17 = .ok (.iconst 0, 1) := by decide +kernel
theorem d_Graph_copyFrom_18 : decode b_Graph_copyFrom 18 = .ok (.bipush 8, 2) := by decide +kernel
theorem d_Graph_copyFrom_20 : decode b_Graph_copyFrom 20 = .ok (.invokestatic 31, 3) := by decide +kernel
theorem d_Graph_copyFrom_23 : decode b_Graph_copyFrom 23 = .ok (.aload_n 1, 1) := by decide +kernel
theorem d_Graph_copyFrom_24 : decode b_Graph_copyFrom 24 = .ok (.getfield 15, 3) := by decide +kernel
theorem d_Graph_copyFrom_27 : decode b_Graph_copyFrom 27 = .ok (.iconst 0, 1) := by decide +kernel
theorem d_Graph_copyFrom_28 : decode b_Graph_copyFrom 28 = .ok (.aload_n 0, 1) := by decide +kernel
theorem d_Graph_copyFrom_29 : decode b_Graph_copyFrom 29 = .ok (.getfield 15, 3) := by decide +kernel
theorem d_Graph_copyFrom_32 : decode b_Graph_copyFrom 32 = .ok (.iconst 0, 1) := by decide +kernel
theorem d_Graph_copyFrom_33 : decode b_Graph_copyFrom 33 = .ok (.bipush 64, 2) := by decide +kernel
theorem d_Graph_copyFrom_35 : decode b_Graph_copyFrom 35 = .ok (.invokestatic 31, 3) := by decide +kernel
theorem d_Graph_copyFrom_38 : decode b_Graph_copyFrom 38 = .ok (.aload_n 1, 1) := by decide +kernel
theorem d_Graph_copyFrom_39 : decode b_Graph_copyFrom 39 = .ok (.getfield 18, 3) := by decide +kernel
theorem d_Graph_copyFrom_42 : decode b_Graph_copyFrom 42 = .ok (.iconst 0, 1) := by decide +kernel
theorem d_Graph_copyFrom_43 : decode b_Graph_copyFrom 43 = .ok (.aload_n 0, 1) := by decide +kernel
theorem d_Graph_copyFrom_44 : decode b_Graph_copyFrom 44 = .ok (.getfield 18, 3) := by decide +kernel
theorem d_Graph_copyFrom_47 : decode b_Graph_copyFrom 47 = .ok (.iconst 0, 1) := by decide +kernel
theorem d_Graph_copyFrom_48 : decode b_Graph_copyFrom 48 = .ok (.bipush 8, 2) := by decide +kernel
theorem d_Graph_copyFrom_50 : decode b_Graph_copyFrom 50 = .ok (.invokestatic 31, 3) := by decide +kernel
theorem d_Graph_copyFrom_53 : decode b_Graph_copyFrom 53 = .ok (.return_, 1) := by decide +kernel
theorem d_Graph_join_0 : decode b_Graph_join 0 = .ok (.aload_n 0, 1) := by decide +kernel
theorem d_Graph_join_1 : decode b_Graph_join 1 = .ok (.getfield 15, 3) := by decide +kernel
theorem d_Graph_join_4 : decode b_Graph_join 4 = .ok (.bipush 8, 2) := by decide +kernel
theorem d_Graph_join_6 : decode b_Graph_join 6 = .ok (.iload_n 1, 1) := by decide +kernel
theorem d_Graph_join_7 : decode b_Graph_join 7 = .ok (.imul, 1) := by decide +kernel
theorem d_Graph_join_8 : decode b_Graph_join 8 = .ok (.iload_n 2, 1) := by decide +kernel
theorem d_Graph_join_9 : decode b_Graph_join 9 = .ok (.iadd, 1) := by decide +kernel
theorem d_Graph_join_10 : decode b_Graph_join 10 = .ok (.iload_n 3, 1) := by decide +kernel
theorem d_Graph_join_11 : decode b_Graph_join 11 = .ok (.iastore, 1) := by decide +kernel
theorem d_Graph_join_12 : decode b_Graph_join 12 = .ok (.aload_n 0, 1) := by decide +kernel
theorem d_Graph_join_13 : decode b_Graph_join 13 = .ok (.getfield 15, 3) := by decide +kernel
theorem d_Graph_join_16 : decode b_Graph_join 16 = .ok (.bipush 8, 2) := by decide +kernel
theorem d_Graph_join_18 : decode b_Graph_join 18 = .ok (.iload_n 2, 1) := by decide +kernel
theorem d_Graph_join_19 : decode b_Graph_join 19 = .ok (.imul, 1) := by decide +kernel
theorem d_Graph_join_20 : decode b_Graph_join 20 = .ok (.iload_n 1, 1) := by decide +kernel
theorem d_Graph_join_21 : decode b_Graph_join 21 = .ok (.iadd, 1) := by decide +kernel
theorem d_Graph_join_22 : decode b_Graph_join 22 = .ok (.iload_n 3, 1) := by decide +kernel
theorem d_Graph_join_23 : decode b_Graph_join 23 = .ok (.iastore, 1) := by decide +kernel
theorem d_Graph_join_24 : decode b_Graph_join 24 = .ok (.iload_n 3, 1) := by decide +kernel
theorem d_Graph_join_25 : decode b_Graph_join 25 = .ok (.ifCond .ne 34, 3) := by decide +kernel
theorem d_Graph_join_28 : decode b_Graph_join 28 = .ok (.aload_n 0, 1) := by decide +kernel
theorem d_Graph_join_29 : decode b_Graph_join 29 = .ok (.getfield 18, 3) := by decide +kernel
theorem d_Graph_join_32 : decode b_Graph_join 32 = .ok (.iload_n 1, 1) := by decide +kernel
theorem d_Graph_join_33 : decode b_Graph_join 33 = .ok (.dup2, 1) := by decide +kernel
theorem d_Graph_join_34 : decode b_Graph_join 34 = .ok (.iaload, 1) := by decide +kernel
theorem d_Graph_join_35 : decode b_Graph_join 35 = .ok (.iconst 1, 1) := by decide +kernel
theorem d_Graph_join_36 : decode b_Graph_join 36 = .ok (.iload_n 2, 1) := by decide +kernel
theorem d_Graph_join_37 : decode b_Graph_join 37 = .ok (.ishl, 1) := by decide +kernel
theorem d_Graph_join_38 : decode b_Graph_join 38 = .ok (.iconst (-1), 1) := by decide +kernel
theorem d_Graph_join_39 : decode b_Graph_join 39 = .ok (.ixor, 1) := by decide +kernel
theorem d_Graph_join_40 : decode b_Graph_join 40 = .ok (.iand, 1) := by decide +kernel
theorem d_Graph_join_41 : decode b_Graph_join 41 = .ok (.iastore, 1) := by decide +kernel
theorem d_Graph_join_42 : decode b_Graph_join 42 = .ok (.aload_n 0, 1) := by decide +kernel
theorem d_Graph_join_43 : decode b_Graph_join 43 = .ok (.getfield 18, 3) := by decide +kernel
theorem d_Graph_join_46 : decode b_Graph_join 46 = .ok (.iload_n 2, 1) := by decide +kernel
theorem d_Graph_join_47 : decode b_Graph_join 47 = .ok (.dup2, 1) := by decide +kernel
theorem d_Graph_join_48 : decode b_Graph_join 48 = .ok (.iaload, 1) := by decide +kernel
theorem d_Graph_join_49 : decode b_Graph_join 49 = .ok (.iconst 1, 1) := by decide +kernel
theorem d_Graph_join_50 : decode b_Graph_join 50 = .ok (.iload_n 1, 1) := by decide +kernel
theorem d_Graph_join_51 : decode b_Graph_join 51 = .ok (.ishl, 1) := by decide +kernel
theorem d_Graph_join_52 : decode b_Graph_join 52 = .ok (.iconst (-1), 1) := by decide +kernel
theorem d_Graph_join_53 : decode b_Graph_join 53 = .ok (.ixor, 1) := by decide +kernel
theorem d_Graph_join_54 : decode b_Graph_join 54 = .ok (.iand, 1) := by decide +kernel
theorem d_Graph_join_55 : decode b_Graph_join 55 = .ok (.iastore, 1) := by decide +kernel
theorem d_Graph_join_56 : decode b_Graph_join 56 = .ok (.goto 27, 3) := by decide +kernel
theorem d_Graph_join_59 : decode b_Graph_join 59 = .ok (.aload_n 0, 1) := by decide +kernel
theorem d_Graph_join_60 : decode b_Graph_join 60 = .ok (.getfield 18, 3) := by decide +kernel
theorem d_Graph_join_63 : decode b_Graph_join 63 = .ok (.iload_n 1, 1) := by decide +kernel
theorem d_Graph_join_64 : decode b_Graph_join 64 = .ok (.dup2, 1) := by decide +kernel
theorem d_Graph_join_65 : decode b_Graph_join 65 = .ok (.iaload, 1) := by decide +kernel
theorem d_Graph_join_66 : decode b_Graph_join 66 = .ok (.iconst 1, 1) := by decide +kernel
theorem d_Graph_join_67 : decode b_Graph_join 67 = .ok (.iload_n 2, 1) := by decide +kernel
theorem d_Graph_join_68 : decode b_Graph_join 68 = .ok (.ishl, 1) := by decide +kernel
theorem d_Graph_join_69 : decode b_Graph_join 69 = .ok (.ior, 1) := by decide +kernel
theorem d_Graph_join_70 : decode b_Graph_join 70 = .ok (.iastore, 1) := by decide +kernel
theorem d_Graph_join_71 : decode b_Graph_join 71 = .ok (.aload_n 0, 1) := by decide +kernel
theorem d_Graph_join_72 : decode b_Graph_join 72 = .ok (.getfield 18, 3) := by decide +kernel
theorem d_Graph_join_75 : decode b_Graph_join 75 = .ok (.iload_n 2, 1) := by decide +kernel
theorem d_Graph_join_76 : decode b_Graph_join 76 = .ok (.dup2, 1) := by decide +kernel
theorem d_Graph_join_77 : decode b_Graph_join 77 = .ok (.iaload, 1) := by decide +kernel
theorem d_Graph_join_78 : decode b_Graph_join 78 = .ok (.iconst 1, 1) := by decide +kernel
theorem d_Graph_join_79 : decode b_Graph_join 79 = .ok (.iload_n 1, 1) := by decide +kernel
theorem d_Graph_join_80 : decode b_Graph_join 80 = .ok (.ishl, 1) := by decide +kernel
theorem d_Graph_join_81 : decode b_Graph_join 81 = .ok (.ior, 1) := by decide +kernel
theorem d_Graph_join_82 : decode b_Graph_join 82 = .ok (.iastore, 1) := by decide +kernel
theorem d_Graph_join_83 : decode b_Graph_join 83 = .ok (.return_, 1) := by decide +kernel
theorem d_Graph_inFamily_0 : decode b_Graph_inFamily 0 = .ok (.iload_n 1, 1) := by decide +kernel
theorem d_Graph_inFamily_1 : decode b_Graph_inFamily 1 = .ok (.tableswitch 104 0 3 #[31, 44, 79, 90], 31) := by decide +kernel
theorem d_Graph_inFamily_32 : decode b_Graph_inFamily 32 = .ok (.iload_n 3, 1) := by decide +kernel
theorem d_Graph_inFamily_33 : decode b_Graph_inFamily 33 = .ok (.iload_n 2, 1) := by decide +kernel
theorem d_Graph_inFamily_34 : decode b_Graph_inFamily 34 = .ok (.iconst 1, 1) := by decide +kernel
theorem d_Graph_inFamily_35 : decode b_Graph_inFamily 35 = .ok (.iadd, 1) := by decide +kernel
theorem d_Graph_inFamily_36 : decode b_Graph_inFamily 36 = .ok (.if_icmp .ne 7, 3) := by decide +kernel
theorem d_Graph_inFamily_39 : decode b_Graph_inFamily 39 = .ok (.iconst 1, 1) := by decide +kernel
theorem d_Graph_inFamily_40 : decode b_Graph_inFamily 40 = .ok (.goto 4, 3) := by decide +kernel
theorem d_Graph_inFamily_43 : decode b_Graph_inFamily 43 = .ok (.iconst 0, 1) := by decide +kernel
theorem d_Graph_inFamily_44 : decode b_Graph_inFamily 44 = .ok (.ireturn, 1) := by decide +kernel
theorem d_Graph_inFamily_45 : decode b_Graph_inFamily 45 = .ok (.iload_n 3, 1) := by decide +kernel
theorem d_Graph_inFamily_46 : decode b_Graph_inFamily 46 = .ok (.iload_n 2, 1) := by decide +kernel
theorem d_Graph_inFamily_47 : decode b_Graph_inFamily 47 = .ok (.iconst 1, 1) := by decide +kernel
theorem d_Graph_inFamily_48 : decode b_Graph_inFamily 48 = .ok (.iadd, 1) := by decide +kernel
theorem d_Graph_inFamily_49 : decode b_Graph_inFamily 49 = .ok (.if_icmp .eq 25, 3) := by decide +kernel
theorem d_Graph_inFamily_52 : decode b_Graph_inFamily 52 = .ok (.aload_n 0, 1) := by decide +kernel
theorem d_Graph_inFamily_53 : decode b_Graph_inFamily 53 = .ok (.getfield 21, 3) := by decide +kernel
theorem d_Graph_inFamily_56 : decode b_Graph_inFamily 56 = .ok (.iconst 3, 1) := by decide +kernel
theorem d_Graph_inFamily_57 : decode b_Graph_inFamily 57 = .ok (.if_icmp .lt 21, 3) := by decide +kernel
theorem d_Graph_inFamily_60 : decode b_Graph_inFamily 60 = .ok (.iload_n 2, 1) := by decide +kernel
theorem d_Graph_inFamily_61 : decode b_Graph_inFamily 61 = .ok (.ifCond .ne 17, 3) := by decide +kernel
theorem d_Graph_inFamily_64 : decode b_Graph_inFamily 64 = .ok (.iload_n 3, 1) := by decide +kernel
theorem d_Graph_inFamily_65 : decode b_Graph_inFamily 65 = .ok (.aload_n 0, 1) := by decide +kernel
theorem d_Graph_inFamily_66 : decode b_Graph_inFamily 66 = .ok (.getfield 21, 3) := by decide +kernel
theorem d_Graph_inFamily_69 : decode b_Graph_inFamily 69 = .ok (.iconst 1, 1) := by decide +kernel
theorem d_Graph_inFamily_70 : decode b_Graph_inFamily 70 = .ok (.isub, 1) := by decide +kernel
theorem d_Graph_inFamily_71 : decode b_Graph_inFamily 71 = .ok (.if_icmp .ne 7, 3) := by decide +kernel
theorem d_Graph_inFamily_74 : decode b_Graph_inFamily 74 = .ok (.iconst 1, 1) := by decide +kernel
theorem d_Graph_inFamily_75 : decode b_Graph_inFamily 75 = .ok (.goto 4, 3) := by decide +kernel
theorem d_Graph_inFamily_78 : decode b_Graph_inFamily 78 = .ok (.iconst 0, 1) := by decide +kernel
theorem d_Graph_inFamily_79 : decode b_Graph_inFamily 79 = .ok (.ireturn, 1) := by decide +kernel
theorem d_Graph_inFamily_80 : decode b_Graph_inFamily 80 = .ok (.iload_n 2, 1) := by decide +kernel
theorem d_Graph_inFamily_81 : decode b_Graph_inFamily 81 = .ok (.iload_n 3, 1) := by decide +kernel
theorem d_Graph_inFamily_82 : decode b_Graph_inFamily 82 = .ok (.if_icmp .eq 7, 3) := by decide +kernel
theorem d_Graph_inFamily_85 : decode b_Graph_inFamily 85 = .ok (.iconst 1, 1) := by decide +kernel
theorem d_Graph_inFamily_86 : decode b_Graph_inFamily 86 = .ok (.goto 4, 3) := by decide +kernel
theorem d_Graph_inFamily_89 : decode b_Graph_inFamily 89 = .ok (.iconst 0, 1) := by decide +kernel
theorem d_Graph_inFamily_90 : decode b_Graph_inFamily 90 = .ok (.ireturn, 1) := by decide +kernel
theorem d_Graph_inFamily_91 : decode b_Graph_inFamily 91 = .ok (.iload_n 2, 1) := by decide +kernel
theorem d_Graph_inFamily_92 : decode b_Graph_inFamily 92 = .ok (.ifCond .ne 11, 3) := by decide +kernel
theorem d_Graph_inFamily_95 : decode b_Graph_inFamily 95 = .ok (.iload_n 3, 1) := by decide +kernel
theorem d_Graph_inFamily_96 : decode b_Graph_inFamily 96 = .ok (.ifCond .eq 7, 3) := by decide +kernel
theorem d_Graph_inFamily_99 : decode b_Graph_inFamily 99 = .ok (.iconst 1, 1) := by decide +kernel
theorem d_Graph_inFamily_100 : decode b_Graph_inFamily 100 = .ok (.goto 4, 3) := by decide +kernel
theorem d_Graph_inFamily_103 : decode b_Graph_inFamily 103 = .ok (.iconst 0, 1) := by decide +kernel
theorem d_Graph_inFamily_104 : decode b_Graph_inFamily 104 = .ok (.ireturn, 1) := by decide +kernel
theorem d_Graph_inFamily_105 : decode b_Graph_inFamily 105 = .ok (.iconst 1, 1) := by decide +kernel
theorem d_Graph_inFamily_106 : decode b_Graph_inFamily 106 = .ok (.ireturn, 1) := by decide +kernel
theorem d_Graph_joinFamily_0 : decode b_Graph_joinFamily 0 = .ok (.iconst 0, 1) := by decide +kernel
theorem d_Graph_joinFamily_1 : decode b_Graph_joinFamily 1 = .ok (.istore_n 2, 1) := by decide +kernel
theorem d_Graph_joinFamily_2 : decode b_Graph_joinFamily 2 = .ok (.iload_n 2, 1) := by decide +kernel
theorem d_Graph_joinFamily_3 : decode b_Graph_joinFamily 3 = .ok (.aload_n 0, 1) := by decide +kernel
theorem d_Graph_joinFamily_4 : decode b_Graph_joinFamily 4 = .ok (.getfield 21, 3) := by decide +kernel
theorem d_Graph_joinFamily_7 : decode b_Graph_joinFamily 7 = .ok (.if_icmp .ge 42, 3) := by decide +kernel
theorem d_Graph_joinFamily_10 : decode b_Graph_joinFamily 10 = .ok (.iload_n 2, 1) := by decide +kernel
theorem d_Graph_joinFamily_11 : decode b_Graph_joinFamily 11 = .ok (.istore_n 3, 1) := by decide +kernel
theorem d_Graph_joinFamily_12 : decode b_Graph_joinFamily 12 = .ok (.iload_n 3, 1) := by decide +kernel
theorem d_Graph_joinFamily_13 : decode b_Graph_joinFamily 13 = .ok (.aload_n 0, 1) := by decide +kernel
theorem d_Graph_joinFamily_14 : decode b_Graph_joinFamily 14 = .ok (.getfield 21, 3) := by decide +kernel
theorem d_Graph_joinFamily_17 : decode b_Graph_joinFamily 17 = .ok (.if_icmp .ge 26, 3) := by decide +kernel
theorem d_Graph_joinFamily_20 : decode b_Graph_joinFamily 20 = .ok (.aload_n 0, 1) := by decide +kernel
theorem d_Graph_joinFamily_21 : decode b_Graph_joinFamily 21 = .ok (.iload_n 1, 1) := by decide +kernel
theorem d_Graph_joinFamily_22 : decode b_Graph_joinFamily 22 = .ok (.iload_n 2, 1) := by decide +kernel
theorem d_Graph_joinFamily_23 : decode b_Graph_joinFamily 23 = .ok (.iload_n 3, 1) := by decide +kernel
theorem d_Graph_joinFamily_24 : decode b_Graph_joinFamily 24 = .ok (.invokevirtual 37, 3) := by decide +kernel
theorem d_Graph_joinFamily_27 : decode b_Graph_joinFamily 27 = .ok (.ifCond .eq 10, 3) := by decide +kernel
theorem d_Graph_joinFamily_30 : decode b_Graph_joinFamily 30 = .ok (.aload_n 0, 1) := by decide +kernel
theorem d_Graph_joinFamily_31 : decode b_Graph_joinFamily 31 = .ok (.iload_n 2, 1) := by decide +kernel
theorem d_Graph_joinFamily_32 : decode b_Graph_joinFamily 32 = .ok (.iload_n 3, 1) := by decide +kernel
theorem d_Graph_joinFamily_33 : decode b_Graph_joinFamily 33 = .ok (.iconst 1, 1) := by decide +kernel
theorem d_Graph_joinFamily_34 : decode b_Graph_joinFamily 34 = .ok (.invokevirtual 41, 3) := by decide +kernel
theorem d_Graph_joinFamily_37 : decode b_Graph_joinFamily 37 = .ok (.iinc 3 1, 3) := by decide +kernel
theorem d_Graph_joinFamily_40 : decode b_Graph_joinFamily 40 = .ok (.goto (-28), 3) := by decide +kernel
theorem d_Graph_joinFamily_43 : decode b_Graph_joinFamily 43 = .ok (.iinc 2 1, 3) := by decide +kernel
theorem d_Graph_joinFamily_46 : decode b_Graph_joinFamily 46 = .ok (.goto (-44), 3) := by decide +kernel
theorem d_Graph_joinFamily_49 : decode b_Graph_joinFamily 49 = .ok (.return_, 1) := by decide +kernel
theorem d_Graph_joinRandomly_0 : decode b_Graph_joinRandomly 0 = .ok (.iload_n 1, 1) := by decide +kernel
theorem d_Graph_joinRandomly_1 : decode b_Graph_joinRandomly 1 = .ok (.i2l, 1) := by decide +kernel
theorem d_Graph_joinRandomly_2 : decode b_Graph_joinRandomly 2 = .ok (.lstore_n 3, 1) := by decide +kernel
theorem d_Graph_joinRandomly_3 : decode b_Graph_joinRandomly 3 = .ok (.iconst 0, 1) := by decide +kernel
theorem d_Graph_joinRandomly_4 : decode b_Graph_joinRandomly 4 = .ok (.istore 5, 2) := by decide +kernel
theorem d_Graph_joinRandomly_6 : decode b_Graph_joinRandomly 6 = .ok (.iload 5, 2) := by decide +kernel
theorem d_Graph_joinRandomly_8 : decode b_Graph_joinRandomly 8 = .ok (.aload_n 0, 1) := by decide +kernel
theorem d_Graph_joinRandomly_9 : decode b_Graph_joinRandomly 9 = .ok (.getfield 21, 3) := by decide +kernel
theorem d_Graph_joinRandomly_12 : decode b_Graph_joinRandomly 12 = .ok (.if_icmp .ge 63, 3) := by decide +kernel
theorem d_Graph_joinRandomly_15 : decode b_Graph_joinRandomly 15 = .ok (.iconst 0, 1) := by decide +kernel
theorem d_Graph_joinRandomly_16 : decode b_Graph_joinRandomly 16 = .ok (.istore 6, 2) := by decide +kernel
theorem d_Graph_joinRandomly_18 : decode b_Graph_joinRandomly 18 = .ok (.iload 6, 2) := by decide +kernel
theorem d_Graph_joinRandomly_20 : decode b_Graph_joinRandomly 20 = .ok (.iload 5, 2) := by decide +kernel
theorem d_Graph_joinRandomly_22 : decode b_Graph_joinRandomly 22 = .ok (.if_icmp .ge 47, 3) := by decide +kernel
theorem d_Graph_joinRandomly_25 : decode b_Graph_joinRandomly 25 = .ok (.ldc2_w 45, 3) := by decide +kernel
theorem d_Graph_joinRandomly_28 : decode b_Graph_joinRandomly 28 = .ok (.lload_n 3, 1) := by decide +kernel
theorem d_Graph_joinRandomly_29 : decode b_Graph_joinRandomly 29 = .ok (.lmul, 1) := by decide +kernel
theorem d_Graph_joinRandomly_30 : decode b_Graph_joinRandomly 30 = .ok (.ldc2_w 47, 3) := by decide +kernel
theorem d_Graph_joinRandomly_33 : decode b_Graph_joinRandomly 33 = .ok (.ladd, 1) := by decide +kernel
theorem d_Graph_joinRandomly_34 : decode b_Graph_joinRandomly 34 = .ok (.ldc2_w 49, 3) := by decide +kernel
theorem d_Graph_joinRandomly_37 : decode b_Graph_joinRandomly 37 = .ok (.lrem, 1) := by decide +kernel
theorem d_Graph_joinRandomly_38 : decode b_Graph_joinRandomly 38 = .ok (.lstore_n 3, 1) := by decide +kernel
theorem d_Graph_joinRandomly_39 : decode b_Graph_joinRandomly 39 = .ok (.lload_n 3, 1) := by decide +kernel
theorem d_Graph_joinRandomly_40 : decode b_Graph_joinRandomly 40 = .ok (.ldc2_w 51, 3) := by decide +kernel
theorem d_Graph_joinRandomly_43 : decode b_Graph_joinRandomly 43 = .ok (.ldiv, 1) := by decide +kernel
theorem d_Graph_joinRandomly_44 : decode b_Graph_joinRandomly 44 = .ok (.ldc2_w 53, 3) := by decide +kernel
theorem d_Graph_joinRandomly_47 : decode b_Graph_joinRandomly 47 = .ok (.lrem, 1) := by decide +kernel
theorem d_Graph_joinRandomly_48 : decode b_Graph_joinRandomly 48 = .ok (.iload_n 2, 1) := by decide +kernel
theorem d_Graph_joinRandomly_49 : decode b_Graph_joinRandomly 49 = .ok (.i2l, 1) := by decide +kernel
theorem d_Graph_joinRandomly_50 : decode b_Graph_joinRandomly 50 = .ok (.lcmp, 1) := by decide +kernel
theorem d_Graph_joinRandomly_51 : decode b_Graph_joinRandomly 51 = .ok (.ifCond .ge 12, 3) := by decide +kernel
theorem d_Graph_joinRandomly_54 : decode b_Graph_joinRandomly 54 = .ok (.aload_n 0, 1) := by decide +kernel
theorem d_Graph_joinRandomly_55 : decode b_Graph_joinRandomly 55 = .ok (.iload 5, 2) := by decide +kernel
theorem d_Graph_joinRandomly_57 : decode b_Graph_joinRandomly 57 = .ok (.iload 6, 2) := by decide +kernel
theorem d_Graph_joinRandomly_59 : decode b_Graph_joinRandomly 59 = .ok (.iconst 1, 1) := by decide +kernel
theorem d_Graph_joinRandomly_60 : decode b_Graph_joinRandomly 60 = .ok (.invokevirtual 41, 3) := by decide +kernel
theorem d_Graph_joinRandomly_63 : decode b_Graph_joinRandomly 63 = .ok (.iinc 6 1, 3) := by decide +kernel
theorem d_Graph_joinRandomly_66 : decode b_Graph_joinRandomly 66 = .ok (.goto (-48), 3) := by decide +kernel
theorem d_Graph_joinRandomly_69 : decode b_Graph_joinRandomly 69 = .ok (.iinc 5 1, 3) := by decide +kernel
theorem d_Graph_joinRandomly_72 : decode b_Graph_joinRandomly 72 = .ok (.goto (-66), 3) := by decide +kernel
theorem d_Graph_joinRandomly_75 : decode b_Graph_joinRandomly 75 = .ok (.return_, 1) := by decide +kernel
theorem d_Graph_joinPlaced_0 : decode b_Graph_joinPlaced 0 = .ok (.iload 4, 2) := by decide +kernel
theorem d_Graph_joinPlaced_2 : decode b_Graph_joinPlaced 2 = .ok (.istore 5, 2) := by decide +kernel
theorem d_Graph_joinPlaced_4 : decode b_Graph_joinPlaced 4 = .ok (.iload_n 3, 1) := by decide +kernel
theorem d_Graph_joinPlaced_5 : decode b_Graph_joinPlaced 5 = .ok (.istore 6, 2) := by decide +kernel
theorem d_Graph_joinPlaced_7 : decode b_Graph_joinPlaced 7 = .ok (.iload 6, 2) := by decide +kernel
theorem d_Graph_joinPlaced_9 : decode b_Graph_joinPlaced 9 = .ok (.aload_n 1, 1) := by decide +kernel
theorem d_Graph_joinPlaced_10 : decode b_Graph_joinPlaced 10 = .ok (.getfield 21, 3) := by decide +kernel
theorem d_Graph_joinPlaced_13 : decode b_Graph_joinPlaced 13 = .ok (.if_icmp .ge 36, 3) := by decide +kernel
theorem d_Graph_joinPlaced_16 : decode b_Graph_joinPlaced 16 = .ok (.iload_n 2, 1) := by decide +kernel
theorem d_Graph_joinPlaced_17 : decode b_Graph_joinPlaced 17 = .ok (.iload 6, 2) := by decide +kernel
theorem d_Graph_joinPlaced_19 : decode b_Graph_joinPlaced 19 = .ok (.invokestatic 55, 3) := by decide +kernel
theorem d_Graph_joinPlaced_22 : decode b_Graph_joinPlaced 22 = .ok (.ifCond .eq 21, 3) := by decide +kernel
theorem d_Graph_joinPlaced_25 : decode b_Graph_joinPlaced 25 = .ok (.aload_n 0, 1) := by decide +kernel
theorem d_Graph_joinPlaced_26 : decode b_Graph_joinPlaced 26 = .ok (.iload 4, 2) := by decide +kernel
theorem d_Graph_joinPlaced_28 : decode b_Graph_joinPlaced 28 = .ok (.iload 5, 2) := by decide +kernel
theorem d_Graph_joinPlaced_30 : decode b_Graph_joinPlaced 30 = .ok (.aload_n 1, 1) := by decide +kernel
theorem d_Graph_joinPlaced_31 : decode b_Graph_joinPlaced 31 = .ok (.iload_n 3, 1) := by decide +kernel
theorem d_Graph_joinPlaced_32 : decode b_Graph_joinPlaced 32 = .ok (.iload 6, 2) := by decide +kernel
theorem d_Graph_joinPlaced_34 : decode b_Graph_joinPlaced 34 = .ok (.invokevirtual 63, 3) := by decide +kernel
theorem d_Graph_joinPlaced_37 : decode b_Graph_joinPlaced 37 = .ok (.invokevirtual 41, 3) := by decide +kernel
theorem d_Graph_joinPlaced_40 : decode b_Graph_joinPlaced 40 = .ok (.iinc 5 1, 3) := by decide +kernel
theorem d_Graph_joinPlaced_43 : decode b_Graph_joinPlaced 43 = .ok (.iinc 6 1, 3) := by decide +kernel
theorem d_Graph_joinPlaced_46 : decode b_Graph_joinPlaced 46 = .ok (.goto (-39), 3) := by decide +kernel
theorem d_Graph_joinPlaced_49 : decode b_Graph_joinPlaced 49 = .ok (.return_, 1) := by decide +kernel
theorem d_Graph_place_0 : decode b_Graph_place 0 = .ok (.iload_n 3, 1) := by decide +kernel
theorem d_Graph_place_1 : decode b_Graph_place 1 = .ok (.istore 4, 2) := by decide +kernel
theorem d_Graph_place_3 : decode b_Graph_place 3 = .ok (.iconst 0, 1) := by decide +kernel
theorem d_Graph_place_4 : decode b_Graph_place 4 = .ok (.istore 5, 2) := by decide +kernel
theorem d_Graph_place_6 : decode b_Graph_place 6 = .ok (.iload 5, 2) := by decide +kernel
theorem d_Graph_place_8 : decode b_Graph_place 8 = .ok (.aload_n 1, 1) := by decide +kernel
theorem d_Graph_place_9 : decode b_Graph_place 9 = .ok (.getfield 21, 3) := by decide +kernel
theorem d_Graph_place_12 : decode b_Graph_place 12 = .ok (.if_icmp .ge 45, 3) := by decide +kernel
theorem d_Graph_place_15 : decode b_Graph_place 15 = .ok (.iload_n 2, 1) := by decide +kernel
theorem d_Graph_place_16 : decode b_Graph_place 16 = .ok (.iload 5, 2) := by decide +kernel
theorem d_Graph_place_18 : decode b_Graph_place 18 = .ok (.invokestatic 55, 3) := by decide +kernel
theorem d_Graph_place_21 : decode b_Graph_place 21 = .ok (.ifCond .eq 30, 3) := by decide +kernel
theorem d_Graph_place_24 : decode b_Graph_place 24 = .ok (.aload_n 0, 1) := by decide +kernel
theorem d_Graph_place_25 : decode b_Graph_place 25 = .ok (.getfield 9, 3) := by decide +kernel
theorem d_Graph_place_28 : decode b_Graph_place 28 = .ok (.iload 4, 2) := by decide +kernel
theorem d_Graph_place_30 : decode b_Graph_place 30 = .ok (.aload_n 1, 1) := by decide +kernel
theorem d_Graph_place_31 : decode b_Graph_place 31 = .ok (.getfield 9, 3) := by decide +kernel
theorem d_Graph_place_34 : decode b_Graph_place 34 = .ok (.iload 5, 2) := by decide +kernel
theorem d_Graph_place_36 : decode b_Graph_place 36 = .ok (.iaload, 1) := by decide +kernel
theorem d_Graph_place_37 : decode b_Graph_place 37 = .ok (.iastore, 1) := by decide +kernel
theorem d_Graph_place_38 : decode b_Graph_place 38 = .ok (.aload_n 0, 1) := by decide +kernel
theorem d_Graph_place_39 : decode b_Graph_place 39 = .ok (.aload_n 1, 1) := by decide +kernel
theorem d_Graph_place_40 : decode b_Graph_place 40 = .ok (.iload_n 2, 1) := by decide +kernel
theorem d_Graph_place_41 : decode b_Graph_place 41 = .ok (.iload 5, 2) := by decide +kernel
theorem d_Graph_place_43 : decode b_Graph_place 43 = .ok (.iload 4, 2) := by decide +kernel
theorem d_Graph_place_45 : decode b_Graph_place 45 = .ok (.invokevirtual 59, 3) := by decide +kernel
theorem d_Graph_place_48 : decode b_Graph_place 48 = .ok (.iinc 4 1, 3) := by decide +kernel
theorem d_Graph_place_51 : decode b_Graph_place 51 = .ok (.iinc 5 1, 3) := by decide +kernel
theorem d_Graph_place_54 : decode b_Graph_place 54 = .ok (.goto (-48), 3) := by decide +kernel
theorem d_Graph_place_57 : decode b_Graph_place 57 = .ok (.return_, 1) := by decide +kernel
theorem d_Graph_induce_0 : decode b_Graph_induce 0 = .ok (.aload_n 0, 1) := by decide +kernel
theorem d_Graph_induce_1 : decode b_Graph_induce 1 = .ok (.iload_n 2, 1) := by decide +kernel
theorem d_Graph_induce_2 : decode b_Graph_induce 2 = .ok (.invokestatic 67, 3) := by decide +kernel
theorem d_Graph_induce_5 : decode b_Graph_induce 5 = .ok (.invokevirtual 73, 3) := by decide +kernel
theorem d_Graph_induce_8 : decode b_Graph_induce 8 = .ok (.aload_n 0, 1) := by decide +kernel
theorem d_Graph_induce_9 : decode b_Graph_induce 9 = .ok (.aload_n 1, 1) := by decide +kernel
theorem d_Graph_induce_10 : decode b_Graph_induce 10 = .ok (.iload_n 2, 1) := by decide +kernel
theorem d_Graph_induce_11 : decode b_Graph_induce 11 = .ok (.iconst 0, 1) := by decide +kernel
theorem d_Graph_induce_12 : decode b_Graph_induce 12 = .ok (.invokevirtual 77, 3) := by decide +kernel
theorem d_Graph_induce_15 : decode b_Graph_induce 15 = .ok (.return_, 1) := by decide +kernel
theorem d_Graph_complement_0 : decode b_Graph_complement 0 = .ok (.aload_n 0, 1) := by decide +kernel
theorem d_Graph_complement_1 : decode b_Graph_complement 1 = .ok (.aload_n 1, 1) := by decide +kernel
theorem d_Graph_complement_2 : decode b_Graph_complement 2 = .ok (.getfield 21, 3) := by decide +kernel
theorem d_Graph_complement_5 : decode b_Graph_complement 5 = .ok (.invokevirtual 73, 3) := by decide +kernel
theorem d_Graph_complement_8 : decode b_Graph_complement 8 = .ok (.iconst 0, 1) := by decide +kernel
theorem d_Graph_complement_9 : decode b_Graph_complement 9 = .ok (.istore_n 2, 1) := by decide +kernel
theorem d_Graph_complement_10 : decode b_Graph_complement 10 = .ok (.iload_n 2, 1) := by decide +kernel
theorem d_Graph_complement_11 : decode b_Graph_complement 11 = .ok (.aload_n 0, 1) := by decide +kernel
theorem d_Graph_complement_12 : decode b_Graph_complement 12 = .ok (.getfield 21, 3) := by decide +kernel
theorem d_Graph_complement_15 : decode b_Graph_complement 15 = .ok (.if_icmp .ge 54, 3) := by decide +kernel
theorem d_Graph_complement_18 : decode b_Graph_complement 18 = .ok (.aload_n 0, 1) := by decide +kernel
theorem d_Graph_complement_19 : decode b_Graph_complement 19 = .ok (.getfield 9, 3) := by decide +kernel
theorem d_Graph_complement_22 : decode b_Graph_complement 22 = .ok (.iload_n 2, 1) := by decide +kernel
theorem d_Graph_complement_23 : decode b_Graph_complement 23 = .ok (.aload_n 1, 1) := by decide +kernel
theorem d_Graph_complement_24 : decode b_Graph_complement 24 = .ok (.getfield 9, 3) := by decide +kernel
theorem d_Graph_complement_27 : decode b_Graph_complement 27 = .ok (.iload_n 2, 1) := by decide +kernel
theorem d_Graph_complement_28 : decode b_Graph_complement 28 = .ok (.iaload, 1) := by decide +kernel
theorem d_Graph_complement_29 : decode b_Graph_complement 29 = .ok (.iastore, 1) := by decide +kernel
theorem d_Graph_complement_30 : decode b_Graph_complement 30 = .ok (.iconst 0, 1) := by decide +kernel
theorem d_Graph_complement_31 : decode b_Graph_complement 31 = .ok (.istore_n 3, 1) := by decide +kernel
theorem d_Graph_complement_32 : decode b_Graph_complement 32 = .ok (.iload_n 3, 1) := by decide +kernel
theorem d_Graph_complement_33 : decode b_Graph_complement 33 = .ok (.iload_n 2, 1) := by decide +kernel
theorem d_Graph_complement_34 : decode b_Graph_complement 34 = .ok (.if_icmp .ge 29, 3) := by decide +kernel
theorem d_Graph_complement_37 : decode b_Graph_complement 37 = .ok (.aload_n 0, 1) := by decide +kernel
theorem d_Graph_complement_38 : decode b_Graph_complement 38 = .ok (.iload_n 2, 1) := by decide +kernel
theorem d_Graph_complement_39 : decode b_Graph_complement 39 = .ok (.iload_n 3, 1) := by decide +kernel
theorem d_Graph_complement_40 : decode b_Graph_complement 40 = .ok (.aload_n 1, 1) := by decide +kernel
theorem d_Graph_complement_41 : decode b_Graph_complement 41 = .ok (.iload_n 2, 1) := by decide +kernel
theorem d_Graph_complement_42 : decode b_Graph_complement 42 = .ok (.iload_n 3, 1) := by decide +kernel
theorem d_Graph_complement_43 : decode b_Graph_complement 43 = .ok (.invokevirtual 63, 3) := by decide +kernel
theorem d_Graph_complement_46 : decode b_Graph_complement 46 = .ok (.ifCond .ne 7, 3) := by decide +kernel
theorem d_Graph_complement_49 : decode b_Graph_complement 49 = .ok (.iconst 1, 1) := by decide +kernel
theorem d_Graph_complement_50 : decode b_Graph_complement 50 = .ok (.goto 4, 3) := by decide +kernel
theorem d_Graph_complement_53 : decode b_Graph_complement 53 = .ok (.iconst 0, 1) := by decide +kernel
theorem d_Graph_complement_54 : decode b_Graph_complement 54 = .ok (.invokevirtual 41, 3) := by decide +kernel
theorem d_Graph_complement_57 : decode b_Graph_complement 57 = .ok (.iinc 3 1, 3) := by decide +kernel
theorem d_Graph_complement_60 : decode b_Graph_complement 60 = .ok (.goto (-28), 3) := by decide +kernel
theorem d_Graph_complement_63 : decode b_Graph_complement 63 = .ok (.iinc 2 1, 3) := by decide +kernel
theorem d_Graph_complement_66 : decode b_Graph_complement 66 = .ok (.goto (-56), 3) := by decide +kernel
theorem d_Graph_complement_69 : decode b_Graph_complement 69 = .ok (.return_, 1) := by decide +kernel
theorem d_Graph_step_0 : decode b_Graph_step 0 = .ok (.iload_n 3, 1) := by decide +kernel
theorem d_Graph_step_1 : decode b_Graph_step 1 = .ok (.ifCond .eq 12, 3) := by decide +kernel
theorem d_Graph_step_4 : decode b_Graph_step 4 = .ok (.iload_n 1, 1) := by decide +kernel
theorem d_Graph_step_5 : decode b_Graph_step 5 = .ok (.iload_n 2, 1) := by decide +kernel
theorem d_Graph_step_6 : decode b_Graph_step 6 = .ok (.if_icmp .ne 7, 3) := by decide +kernel
theorem d_Graph_step_9 : decode b_Graph_step 9 = .ok (.iconst 1, 1) := by decide +kernel
theorem d_Graph_step_10 : decode b_Graph_step 10 = .ok (.goto 9, 3) := by decide +kernel
theorem d_Graph_step_13 : decode b_Graph_step 13 = .ok (.aload_n 0, 1) := by decide +kernel
theorem d_Graph_step_14 : decode b_Graph_step 14 = .ok (.iload_n 1, 1) := by decide +kernel
theorem d_Graph_step_15 : decode b_Graph_step 15 = .ok (.iload_n 2, 1) := by decide +kernel
theorem d_Graph_step_16 : decode b_Graph_step 16 = .ok (.invokevirtual 63, 3) := by decide +kernel
theorem d_Graph_step_19 : decode b_Graph_step 19 = .ok (.ireturn, 1) := by decide +kernel
theorem d_Graph_joinPair_0 : decode b_Graph_joinPair 0 = .ok (.iconst 0, 1) := by decide +kernel
theorem d_Graph_joinPair_1 : decode b_Graph_joinPair 1 = .ok (.istore 6, 2) := by decide +kernel
theorem d_Graph_joinPair_3 : decode b_Graph_joinPair 3 = .ok (.iload 6, 2) := by decide +kernel
theorem d_Graph_joinPair_5 : decode b_Graph_joinPair 5 = .ok (.aload_n 1, 1) := by decide +kernel
theorem d_Graph_joinPair_6 : decode b_Graph_joinPair 6 = .ok (.getfield 21, 3) := by decide +kernel
theorem d_Graph_joinPair_9 : decode b_Graph_joinPair 9 = .ok (.if_icmp .ge 78, 3) := by decide +kernel
theorem d_Graph_joinPair_12 : decode b_Graph_joinPair 12 = .ok (.iconst 0, 1) := by decide +kernel
theorem d_Graph_joinPair_13 : decode b_Graph_joinPair 13 = .ok (.istore 7, 2) := by decide +kernel
theorem d_Graph_joinPair_15 : decode b_Graph_joinPair 15 = .ok (.iload 7, 2) := by decide +kernel
theorem d_Graph_joinPair_17 : decode b_Graph_joinPair 17 = .ok (.aload_n 2, 1) := by decide +kernel
theorem d_Graph_joinPair_18 : decode b_Graph_joinPair 18 = .ok (.getfield 21, 3) := by decide +kernel
theorem d_Graph_joinPair_21 : decode b_Graph_joinPair 21 = .ok (.if_icmp .ge 60, 3) := by decide +kernel
theorem d_Graph_joinPair_24 : decode b_Graph_joinPair 24 = .ok (.aload_n 1, 1) := by decide +kernel
theorem d_Graph_joinPair_25 : decode b_Graph_joinPair 25 = .ok (.iload_n 3, 1) := by decide +kernel
theorem d_Graph_joinPair_26 : decode b_Graph_joinPair 26 = .ok (.iload 6, 2) := by decide +kernel
theorem d_Graph_joinPair_28 : decode b_Graph_joinPair 28 = .ok (.iload 5, 2) := by decide +kernel
theorem d_Graph_joinPair_30 : decode b_Graph_joinPair 30 = .ok (.invokevirtual 88, 3) := by decide +kernel
theorem d_Graph_joinPair_33 : decode b_Graph_joinPair 33 = .ok (.aload_n 2, 1) := by decide +kernel
theorem d_Graph_joinPair_34 : decode b_Graph_joinPair 34 = .ok (.iload 4, 2) := by decide +kernel
theorem d_Graph_joinPair_36 : decode b_Graph_joinPair 36 = .ok (.iload 7, 2) := by decide +kernel
theorem d_Graph_joinPair_38 : decode b_Graph_joinPair 38 = .ok (.iload 5, 2) := by decide +kernel
theorem d_Graph_joinPair_40 : decode b_Graph_joinPair 40 = .ok (.invokevirtual 88, 3) := by decide +kernel
theorem d_Graph_joinPair_43 : decode b_Graph_joinPair 43 = .ok (.imul, 1) := by decide +kernel
theorem d_Graph_joinPair_44 : decode b_Graph_joinPair 44 = .ok (.istore 8, 2) := by decide +kernel
theorem d_Graph_joinPair_46 : decode b_Graph_joinPair 46 = .ok (.aload_n 0, 1) := by decide +kernel
theorem d_Graph_joinPair_47 : decode b_Graph_joinPair 47 = .ok (.aload_n 2, 1) := by decide +kernel
theorem d_Graph_joinPair_48 : decode b_Graph_joinPair 48 = .ok (.getfield 21, 3) := by decide +kernel
theorem d_Graph_joinPair_51 : decode b_Graph_joinPair 51 = .ok (.iload_n 3, 1) := by decide +kernel
theorem d_Graph_joinPair_52 : decode b_Graph_joinPair 52 = .ok (.imul, 1) := by decide +kernel
theorem d_Graph_joinPair_53 : decode b_Graph_joinPair 53 = .ok (.iload 4, 2) := by decide +kernel
theorem d_Graph_joinPair_55 : decode b_Graph_joinPair 55 = .ok (.iadd, 1) := by decide +kernel
theorem d_Graph_joinPair_56 : decode b_Graph_joinPair 56 = .ok (.aload_n 2, 1) := by decide +kernel
theorem d_Graph_joinPair_57 : decode b_Graph_joinPair 57 = .ok (.getfield 21, 3) := by decide +kernel
theorem d_Graph_joinPair_60 : decode b_Graph_joinPair 60 = .ok (.iload 6, 2) := by decide +kernel
theorem d_Graph_joinPair_62 : decode b_Graph_joinPair 62 = .ok (.imul, 1) := by decide +kernel
theorem d_Graph_joinPair_63 : decode b_Graph_joinPair 63 = .ok (.iload 7, 2) := by decide +kernel
theorem d_Graph_joinPair_65 : decode b_Graph_joinPair 65 = .ok (.iadd, 1) := by decide +kernel
theorem d_Graph_joinPair_66 : decode b_Graph_joinPair 66 = .ok (.iload 8, 2) := by decide +kernel
theorem d_Graph_joinPair_68 : decode b_Graph_joinPair 68 = .ok (.iconst 2, 1) := by decide +kernel
theorem d_Graph_joinPair_69 : decode b_Graph_joinPair 69 = .ok (.invokestatic 81, 3) := by decide +kernel
theorem d_Graph_joinPair_72 : decode b_Graph_joinPair 72 = .ok (.invokevirtual 41, 3) := by decide +kernel
theorem d_Graph_joinPair_75 : decode b_Graph_joinPair 75 = .ok (.iinc 7 1, 3) := by decide +kernel
theorem d_Graph_joinPair_78 : decode b_Graph_joinPair 78 = .ok (.goto (-63), 3) := by decide +kernel
theorem d_Graph_joinPair_81 : decode b_Graph_joinPair 81 = .ok (.iinc 6 1, 3) := by decide +kernel
theorem d_Graph_joinPair_84 : decode b_Graph_joinPair 84 = .ok (.goto (-81), 3) := by decide +kernel
theorem d_Graph_joinPair_87 : decode b_Graph_joinPair 87 = .ok (.return_, 1) := by decide +kernel
theorem d_Graph_multiply_0 : decode b_Graph_multiply 0 = .ok (.iconst 0, 1) := by decide +kernel
theorem d_Graph_multiply_1 : decode b_Graph_multiply 1 = .ok (.istore 4, 2) := by decide +kernel
theorem d_Graph_multiply_3 : decode b_Graph_multiply 3 = .ok (.iload 4, 2) := by decide +kernel
theorem d_Graph_multiply_5 : decode b_Graph_multiply 5 = .ok (.aload_n 1, 1) := by decide +kernel
theorem d_Graph_multiply_6 : decode b_Graph_multiply 6 = .ok (.getfield 21, 3) := by decide +kernel
theorem d_Graph_multiply_9 : decode b_Graph_multiply 9 = .ok (.if_icmp .ge 72, 3) := by decide +kernel
theorem d_Graph_multiply_12 : decode b_Graph_multiply 12 = .ok (.iconst 0, 1) := by decide +kernel
theorem d_Graph_multiply_13 : decode b_Graph_multiply 13 = .ok (.istore 5, 2) := by decide +kernel
theorem d_Graph_multiply_15 : decode b_Graph_multiply 15 = .ok (.iload 5, 2) := by decide +kernel
theorem d_Graph_multiply_17 : decode b_Graph_multiply 17 = .ok (.aload_n 2, 1) := by decide +kernel
theorem d_Graph_multiply_18 : decode b_Graph_multiply 18 = .ok (.getfield 21, 3) := by decide +kernel
theorem d_Graph_multiply_21 : decode b_Graph_multiply 21 = .ok (.if_icmp .ge 54, 3) := by decide +kernel
theorem d_Graph_multiply_24 : decode b_Graph_multiply 24 = .ok (.aload_n 0, 1) := by decide +kernel
theorem d_Graph_multiply_25 : decode b_Graph_multiply 25 = .ok (.getfield 9, 3) := by decide +kernel
theorem d_Graph_multiply_28 : decode b_Graph_multiply 28 = .ok (.aload_n 2, 1) := by decide +kernel
theorem d_Graph_multiply_29 : decode b_Graph_multiply 29 = .ok (.getfield 21, 3) := by decide +kernel
theorem d_Graph_multiply_32 : decode b_Graph_multiply 32 = .ok (.iload 4, 2) := by decide +kernel
theorem d_Graph_multiply_34 : decode b_Graph_multiply 34 = .ok (.imul, 1) := by decide +kernel
theorem d_Graph_multiply_35 : decode b_Graph_multiply 35 = .ok (.iload 5, 2) := by decide +kernel
theorem d_Graph_multiply_37 : decode b_Graph_multiply 37 = .ok (.iadd, 1) := by decide +kernel
theorem d_Graph_multiply_38 : decode b_Graph_multiply 38 = .ok (.aload_n 1, 1) := by decide +kernel
theorem d_Graph_multiply_39 : decode b_Graph_multiply 39 = .ok (.getfield 9, 3) := by decide +kernel
theorem d_Graph_multiply_42 : decode b_Graph_multiply 42 = .ok (.iload 4, 2) := by decide +kernel
theorem d_Graph_multiply_44 : decode b_Graph_multiply 44 = .ok (.iaload, 1) := by decide +kernel
theorem d_Graph_multiply_45 : decode b_Graph_multiply 45 = .ok (.aload_n 2, 1) := by decide +kernel
theorem d_Graph_multiply_46 : decode b_Graph_multiply 46 = .ok (.getfield 9, 3) := by decide +kernel
theorem d_Graph_multiply_49 : decode b_Graph_multiply 49 = .ok (.iload 5, 2) := by decide +kernel
theorem d_Graph_multiply_51 : decode b_Graph_multiply 51 = .ok (.iaload, 1) := by decide +kernel
theorem d_Graph_multiply_52 : decode b_Graph_multiply 52 = .ok (.imul, 1) := by decide +kernel
theorem d_Graph_multiply_53 : decode b_Graph_multiply 53 = .ok (.iconst 3, 1) := by decide +kernel
theorem d_Graph_multiply_54 : decode b_Graph_multiply 54 = .ok (.invokestatic 81, 3) := by decide +kernel
theorem d_Graph_multiply_57 : decode b_Graph_multiply 57 = .ok (.iastore, 1) := by decide +kernel
theorem d_Graph_multiply_58 : decode b_Graph_multiply 58 = .ok (.aload_n 0, 1) := by decide +kernel
theorem d_Graph_multiply_59 : decode b_Graph_multiply 59 = .ok (.aload_n 1, 1) := by decide +kernel
theorem d_Graph_multiply_60 : decode b_Graph_multiply 60 = .ok (.aload_n 2, 1) := by decide +kernel
theorem d_Graph_multiply_61 : decode b_Graph_multiply 61 = .ok (.iload 4, 2) := by decide +kernel
theorem d_Graph_multiply_63 : decode b_Graph_multiply 63 = .ok (.iload 5, 2) := by decide +kernel
theorem d_Graph_multiply_65 : decode b_Graph_multiply 65 = .ok (.iload_n 3, 1) := by decide +kernel
theorem d_Graph_multiply_66 : decode b_Graph_multiply 66 = .ok (.invokevirtual 84, 3) := by decide +kernel
theorem d_Graph_multiply_69 : decode b_Graph_multiply 69 = .ok (.iinc 5 1, 3) := by decide +kernel
theorem d_Graph_multiply_72 : decode b_Graph_multiply 72 = .ok (.goto (-57), 3) := by decide +kernel
theorem d_Graph_multiply_75 : decode b_Graph_multiply 75 = .ok (.iinc 4 1, 3) := by decide +kernel
theorem d_Graph_multiply_78 : decode b_Graph_multiply 78 = .ok (.goto (-75), 3) := by decide +kernel
theorem d_Graph_multiply_81 : decode b_Graph_multiply 81 = .ok (.return_, 1) := by decide +kernel
theorem d_Graph_edgeCount_0 : decode b_Graph_edgeCount 0 = .ok (.iconst 0, 1) := by decide +kernel
theorem d_Graph_edgeCount_1 : decode b_Graph_edgeCount 1 = .ok (.istore_n 1, 1) := by decide +kernel
theorem d_Graph_edgeCount_2 : decode b_Graph_edgeCount 2 = .ok (.iconst 0, 1) := by decide +kernel
theorem d_Graph_edgeCount_3 : decode b_Graph_edgeCount 3 = .ok (.istore_n 2, 1) := by decide +kernel
theorem d_Graph_edgeCount_4 : decode b_Graph_edgeCount 4 = .ok (.iload_n 2, 1) := by decide +kernel
theorem d_Graph_edgeCount_5 : decode b_Graph_edgeCount 5 = .ok (.aload_n 0, 1) := by decide +kernel
theorem d_Graph_edgeCount_6 : decode b_Graph_edgeCount 6 = .ok (.getfield 21, 3) := by decide +kernel
theorem d_Graph_edgeCount_9 : decode b_Graph_edgeCount 9 = .ok (.if_icmp .ge 27, 3) := by decide +kernel
theorem d_Graph_edgeCount_12 : decode b_Graph_edgeCount 12 = .ok (.iload_n 1, 1) := by decide +kernel
theorem d_Graph_edgeCount_13 : decode b_Graph_edgeCount 13 = .ok (.aload_n 0, 1) := by decide +kernel
theorem d_Graph_edgeCount_14 : decode b_Graph_edgeCount 14 = .ok (.getfield 18, 3) := by decide +kernel
theorem d_Graph_edgeCount_17 : decode b_Graph_edgeCount 17 = .ok (.iload_n 2, 1) := by decide +kernel
theorem d_Graph_edgeCount_18 : decode b_Graph_edgeCount 18 = .ok (.iaload, 1) := by decide +kernel
theorem d_Graph_edgeCount_19 : decode b_Graph_edgeCount 19 = .ok (.iconst 1, 1) := by decide +kernel
theorem d_Graph_edgeCount_20 : decode b_Graph_edgeCount 20 = .ok (.iload_n 2, 1) := by decide +kernel
theorem d_Graph_edgeCount_21 : decode b_Graph_edgeCount 21 = .ok (.ishl, 1) := by decide +kernel
theorem d_Graph_edgeCount_22 : decode b_Graph_edgeCount 22 = .ok (.iconst (-1), 1) := by decide +kernel
theorem d_Graph_edgeCount_23 : decode b_Graph_edgeCount 23 = .ok (.ixor, 1) := by decide +kernel
theorem d_Graph_edgeCount_24 : decode b_Graph_edgeCount 24 = .ok (.iand, 1) := by decide +kernel
theorem d_Graph_edgeCount_25 : decode b_Graph_edgeCount 25 = .ok (.invokestatic 67, 3) := by decide +kernel
theorem d_Graph_edgeCount_28 : decode b_Graph_edgeCount 28 = .ok (.iadd, 1) := by decide +kernel
theorem d_Graph_edgeCount_29 : decode b_Graph_edgeCount 29 = .ok (.istore_n 1, 1) := by decide +kernel
theorem d_Graph_edgeCount_30 : decode b_Graph_edgeCount 30 = .ok (.iinc 2 1, 3) := by decide +kernel
theorem d_Graph_edgeCount_33 : decode b_Graph_edgeCount 33 = .ok (.goto (-29), 3) := by decide +kernel
theorem d_Graph_edgeCount_36 : decode b_Graph_edgeCount 36 = .ok (.iload_n 1, 1) := by decide +kernel
theorem d_Graph_edgeCount_37 : decode b_Graph_edgeCount 37 = .ok (.iconst 2, 1) := by decide +kernel
theorem d_Graph_edgeCount_38 : decode b_Graph_edgeCount 38 = .ok (.idiv, 1) := by decide +kernel
theorem d_Graph_edgeCount_39 : decode b_Graph_edgeCount 39 = .ok (.ireturn, 1) := by decide +kernel
theorem d_Graph_partCount_0 : decode b_Graph_partCount 0 = .ok (.iconst 0, 1) := by decide +kernel
theorem d_Graph_partCount_1 : decode b_Graph_partCount 1 = .ok (.istore_n 1, 1) := by decide +kernel
theorem d_Graph_partCount_2 : decode b_Graph_partCount 2 = .ok (.aload_n 0, 1) := by decide +kernel
theorem d_Graph_partCount_3 : decode b_Graph_partCount 3 = .ok (.invokevirtual 96, 3) := by decide +kernel
theorem d_Graph_partCount_6 : decode b_Graph_partCount 6 = .ok (.istore_n 2, 1) := by decide +kernel
theorem d_Graph_partCount_7 : decode b_Graph_partCount 7 = .ok (.iconst 0, 1) := by decide +kernel
theorem d_Graph_partCount_8 : decode b_Graph_partCount 8 = .ok (.istore_n 3, 1) := by decide +kernel
theorem d_Graph_partCount_9 : decode b_Graph_partCount 9 = .ok (.iload_n 3, 1) := by decide +kernel
theorem d_Graph_partCount_10 : decode b_Graph_partCount 10 = .ok (.aload_n 0, 1) := by decide +kernel
theorem d_Graph_partCount_11 : decode b_Graph_partCount 11 = .ok (.getfield 21, 3) := by decide +kernel
theorem d_Graph_partCount_14 : decode b_Graph_partCount 14 = .ok (.if_icmp .ge 31, 3) := by decide +kernel
theorem d_Graph_partCount_17 : decode b_Graph_partCount 17 = .ok (.iload_n 2, 1) := by decide +kernel
theorem d_Graph_partCount_18 : decode b_Graph_partCount 18 = .ok (.iload_n 3, 1) := by decide +kernel
theorem d_Graph_partCount_19 : decode b_Graph_partCount 19 = .ok (.invokestatic 55, 3) := by decide +kernel
theorem d_Graph_partCount_22 : decode b_Graph_partCount 22 = .ok (.ifCond .eq 17, 3) := by decide +kernel
theorem d_Graph_partCount_25 : decode b_Graph_partCount 25 = .ok (.iinc 1 1, 3) := by decide +kernel
theorem d_Graph_partCount_28 : decode b_Graph_partCount 28 = .ok (.iload_n 2, 1) := by decide +kernel
theorem d_Graph_partCount_29 : decode b_Graph_partCount 29 = .ok (.aload_n 0, 1) := by decide +kernel
theorem d_Graph_partCount_30 : decode b_Graph_partCount 30 = .ok (.iload_n 3, 1) := by decide +kernel
theorem d_Graph_partCount_31 : decode b_Graph_partCount 31 = .ok (.iload_n 2, 1) := by decide +kernel
theorem d_Graph_partCount_32 : decode b_Graph_partCount 32 = .ok (.invokevirtual 99, 3) := by decide +kernel
theorem d_Graph_partCount_35 : decode b_Graph_partCount 35 = .ok (.iconst (-1), 1) := by decide +kernel
theorem d_Graph_partCount_36 : decode b_Graph_partCount 36 = .ok (.ixor, 1) := by decide +kernel
theorem d_Graph_partCount_37 : decode b_Graph_partCount 37 = .ok (.iand, 1) := by decide +kernel
theorem d_Graph_partCount_38 : decode b_Graph_partCount 38 = .ok (.istore_n 2, 1) := by decide +kernel
theorem d_Graph_partCount_39 : decode b_Graph_partCount 39 = .ok (.iinc 3 1, 3) := by decide +kernel
theorem d_Graph_partCount_42 : decode b_Graph_partCount 42 = .ok (.goto (-33), 3) := by decide +kernel
theorem d_Graph_partCount_45 : decode b_Graph_partCount 45 = .ok (.iload_n 1, 1) := by decide +kernel
theorem d_Graph_partCount_46 : decode b_Graph_partCount 46 = .ok (.ireturn, 1) := by decide +kernel
theorem d_Graph_foldTargets_0 : decode b_Graph_foldTargets 0 = .ok (.aload_n 0, 1) := by decide +kernel
theorem d_Graph_foldTargets_1 : decode b_Graph_foldTargets 1 = .ok (.getfield 18, 3) := by decide +kernel
theorem d_Graph_foldTargets_4 : decode b_Graph_foldTargets 4 = .ok (.iload_n 1, 1) := by decide +kernel
theorem d_Graph_foldTargets_5 : decode b_Graph_foldTargets 5 = .ok (.iaload, 1) := by decide +kernel
theorem d_Graph_foldTargets_6 : decode b_Graph_foldTargets 6 = .ok (.iload_n 2, 1) := by decide +kernel
theorem d_Graph_foldTargets_7 : decode b_Graph_foldTargets 7 = .ok (.iand, 1) := by decide +kernel
theorem d_Graph_foldTargets_8 : decode b_Graph_foldTargets 8 = .ok (.iconst 1, 1) := by decide +kernel
theorem d_Graph_foldTargets_9 : decode b_Graph_foldTargets 9 = .ok (.iload_n 1, 1) := by decide +kernel
theorem d_Graph_foldTargets_10 : decode b_Graph_foldTargets 10 = .ok (.ishl, 1) := by decide +kernel
theorem d_Graph_foldTargets_11 : decode b_Graph_foldTargets 11 = .ok (.iconst (-1), 1) := by decide +kernel
theorem d_Graph_foldTargets_12 : decode b_Graph_foldTargets 12 = .ok (.ixor, 1) := by decide +kernel
theorem d_Graph_foldTargets_13 : decode b_Graph_foldTargets 13 = .ok (.iand, 1) := by decide +kernel
theorem d_Graph_foldTargets_14 : decode b_Graph_foldTargets 14 = .ok (.istore_n 3, 1) := by decide +kernel
theorem d_Graph_foldTargets_15 : decode b_Graph_foldTargets 15 = .ok (.aload_n 0, 1) := by decide +kernel
theorem d_Graph_foldTargets_16 : decode b_Graph_foldTargets 16 = .ok (.getfield 18, 3) := by decide +kernel
theorem d_Graph_foldTargets_19 : decode b_Graph_foldTargets 19 = .ok (.iload_n 1, 1) := by decide +kernel
theorem d_Graph_foldTargets_20 : decode b_Graph_foldTargets 20 = .ok (.iaload, 1) := by decide +kernel
theorem d_Graph_foldTargets_21 : decode b_Graph_foldTargets 21 = .ok (.iload_n 1, 1) := by decide +kernel
theorem d_Graph_foldTargets_22 : decode b_Graph_foldTargets 22 = .ok (.invokestatic 55, 3) := by decide +kernel
theorem d_Graph_foldTargets_25 : decode b_Graph_foldTargets 25 = .ok (.istore 4, 2) := by decide +kernel
theorem d_Graph_foldTargets_27 : decode b_Graph_foldTargets 27 = .ok (.iconst 0, 1) := by decide +kernel
theorem d_Graph_foldTargets_28 : decode b_Graph_foldTargets 28 = .ok (.istore 5, 2) := by decide +kernel
theorem d_Graph_foldTargets_30 : decode b_Graph_foldTargets 30 = .ok (.iconst 0, 1) := by decide +kernel
theorem d_Graph_foldTargets_31 : decode b_Graph_foldTargets 31 = .ok (.istore 6, 2) := by decide +kernel
theorem d_Graph_foldTargets_33 : decode b_Graph_foldTargets 33 = .ok (.iload 6, 2) := by decide +kernel
theorem d_Graph_foldTargets_35 : decode b_Graph_foldTargets 35 = .ok (.aload_n 0, 1) := by decide +kernel
theorem d_Graph_foldTargets_36 : decode b_Graph_foldTargets 36 = .ok (.getfield 21, 3) := by decide +kernel
theorem d_Graph_foldTargets_39 : decode b_Graph_foldTargets 39 = .ok (.if_icmp .ge 65, 3) := by decide +kernel
theorem d_Graph_foldTargets_42 : decode b_Graph_foldTargets 42 = .ok (.iload 4, 2) := by decide +kernel
theorem d_Graph_foldTargets_44 : decode b_Graph_foldTargets 44 = .ok (.ifCond .eq 12, 3) := by decide +kernel
theorem d_Graph_foldTargets_47 : decode b_Graph_foldTargets 47 = .ok (.iload_n 3, 1) := by decide +kernel
theorem d_Graph_foldTargets_48 : decode b_Graph_foldTargets 48 = .ok (.iconst 1, 1) := by decide +kernel
theorem d_Graph_foldTargets_49 : decode b_Graph_foldTargets 49 = .ok (.iload 6, 2) := by decide +kernel
theorem d_Graph_foldTargets_51 : decode b_Graph_foldTargets 51 = .ok (.ishl, 1) := by decide +kernel
theorem d_Graph_foldTargets_52 : decode b_Graph_foldTargets 52 = .ok (.ior, 1) := by decide +kernel
theorem d_Graph_foldTargets_53 : decode b_Graph_foldTargets 53 = .ok (.goto 4, 3) := by decide +kernel
theorem d_Graph_foldTargets_56 : decode b_Graph_foldTargets 56 = .ok (.iload_n 3, 1) := by decide +kernel
theorem d_Graph_foldTargets_57 : decode b_Graph_foldTargets 57 = .ok (.istore 7, 2) := by decide +kernel
theorem d_Graph_foldTargets_59 : decode b_Graph_foldTargets 59 = .ok (.iload 6, 2) := by decide +kernel
theorem d_Graph_foldTargets_61 : decode b_Graph_foldTargets 61 = .ok (.iload_n 1, 1) := by decide +kernel
theorem d_Graph_foldTargets_62 : decode b_Graph_foldTargets 62 = .ok (.if_icmp .eq 36, 3) := by decide +kernel
theorem d_Graph_foldTargets_65 : decode b_Graph_foldTargets 65 = .ok (.iload_n 2, 1) := by decide +kernel
theorem d_Graph_foldTargets_66 : decode b_Graph_foldTargets 66 = .ok (.iload 6, 2) := by decide +kernel
theorem d_Graph_foldTargets_68 : decode b_Graph_foldTargets 68 = .ok (.invokestatic 55, 3) := by decide +kernel
theorem d_Graph_foldTargets_71 : decode b_Graph_foldTargets 71 = .ok (.ifCond .eq 27, 3) := by decide +kernel
theorem d_Graph_foldTargets_74 : decode b_Graph_foldTargets 74 = .ok (.iload 7, 2) := by decide +kernel
theorem d_Graph_foldTargets_76 : decode b_Graph_foldTargets 76 = .ok (.aload_n 0, 1) := by decide +kernel
theorem d_Graph_foldTargets_77 : decode b_Graph_foldTargets 77 = .ok (.getfield 18, 3) := by decide +kernel
theorem d_Graph_foldTargets_80 : decode b_Graph_foldTargets 80 = .ok (.iload 6, 2) := by decide +kernel
theorem d_Graph_foldTargets_82 : decode b_Graph_foldTargets 82 = .ok (.iaload, 1) := by decide +kernel
theorem d_Graph_foldTargets_83 : decode b_Graph_foldTargets 83 = .ok (.iconst (-1), 1) := by decide +kernel
theorem d_Graph_foldTargets_84 : decode b_Graph_foldTargets 84 = .ok (.ixor, 1) := by decide +kernel
theorem d_Graph_foldTargets_85 : decode b_Graph_foldTargets 85 = .ok (.iand, 1) := by decide +kernel
theorem d_Graph_foldTargets_86 : decode b_Graph_foldTargets 86 = .ok (.ifCond .ne 12, 3) := by decide +kernel
theorem d_Graph_foldTargets_89 : decode b_Graph_foldTargets 89 = .ok (.iload 5, 2) := by decide +kernel
theorem d_Graph_foldTargets_91 : decode b_Graph_foldTargets 91 = .ok (.iconst 1, 1) := by decide +kernel
theorem d_Graph_foldTargets_92 : decode b_Graph_foldTargets 92 = .ok (.iload 6, 2) := by decide +kernel
theorem d_Graph_foldTargets_94 : decode b_Graph_foldTargets 94 = .ok (.ishl, 1) := by decide +kernel
theorem d_Graph_foldTargets_95 : decode b_Graph_foldTargets 95 = .ok (.ior, 1) := by decide +kernel
theorem d_Graph_foldTargets_96 : decode b_Graph_foldTargets 96 = .ok (.istore 5, 2) := by decide +kernel
theorem d_Graph_foldTargets_98 : decode b_Graph_foldTargets 98 = .ok (.iinc 6 1, 3) := by decide +kernel
theorem d_Graph_foldTargets_101 : decode b_Graph_foldTargets 101 = .ok (.goto (-68), 3) := by decide +kernel
theorem d_Graph_foldTargets_104 : decode b_Graph_foldTargets 104 = .ok (.iload 5, 2) := by decide +kernel
theorem d_Graph_foldTargets_106 : decode b_Graph_foldTargets 106 = .ok (.ireturn, 1) := by decide +kernel
theorem d_Graph_lowestFoldable_0 : decode b_Graph_lowestFoldable 0 = .ok (.iconst 0, 1) := by decide +kernel
theorem d_Graph_lowestFoldable_1 : decode b_Graph_lowestFoldable 1 = .ok (.istore_n 2, 1) := by decide +kernel
theorem d_Graph_lowestFoldable_2 : decode b_Graph_lowestFoldable 2 = .ok (.iload_n 2, 1) := by decide +kernel
theorem d_Graph_lowestFoldable_3 : decode b_Graph_lowestFoldable 3 = .ok (.aload_n 0, 1) := by decide +kernel
theorem d_Graph_lowestFoldable_4 : decode b_Graph_lowestFoldable 4 = .ok (.getfield 21, 3) := by decide +kernel
theorem d_Graph_lowestFoldable_7 : decode b_Graph_lowestFoldable 7 = .ok (.if_icmp .ge 28, 3) := by decide +kernel
theorem d_Graph_lowestFoldable_10 : decode b_Graph_lowestFoldable 10 = .ok (.iload_n 1, 1) := by decide +kernel
theorem d_Graph_lowestFoldable_11 : decode b_Graph_lowestFoldable 11 = .ok (.iload_n 2, 1) := by decide +kernel
theorem d_Graph_lowestFoldable_12 : decode b_Graph_lowestFoldable 12 = .ok (.invokestatic 55, 3) := by decide +kernel
theorem d_Graph_lowestFoldable_15 : decode b_Graph_lowestFoldable 15 = .ok (.ifCond .eq 14, 3) := by decide +kernel
theorem d_Graph_lowestFoldable_18 : decode b_Graph_lowestFoldable 18 = .ok (.aload_n 0, 1) := by decide +kernel
theorem d_Graph_lowestFoldable_19 : decode b_Graph_lowestFoldable 19 = .ok (.iload_n 2, 1) := by decide +kernel
theorem d_Graph_lowestFoldable_20 : decode b_Graph_lowestFoldable 20 = .ok (.iload_n 1, 1) := by decide +kernel
theorem d_Graph_lowestFoldable_21 : decode b_Graph_lowestFoldable 21 = .ok (.invokevirtual 105, 3) := by decide +kernel
theorem d_Graph_lowestFoldable_24 : decode b_Graph_lowestFoldable 24 = .ok (.ifCond .eq 5, 3) := by decide +kernel
theorem d_Graph_lowestFoldable_27 : decode b_Graph_lowestFoldable 27 = .ok (.iload_n 2, 1) := by decide +kernel
theorem d_Graph_lowestFoldable_28 : decode b_Graph_lowestFoldable 28 = .ok (.ireturn, 1) := by decide +kernel
theorem d_Graph_lowestFoldable_29 : decode b_Graph_lowestFoldable 29 = .ok (.iinc 2 1, 3) := by decide +kernel
theorem d_Graph_lowestFoldable_32 : decode b_Graph_lowestFoldable 32 = .ok (.goto (-30), 3) := by decide +kernel
theorem d_Graph_lowestFoldable_35 : decode b_Graph_lowestFoldable 35 = .ok (.iconst (-1), 1) := by decide +kernel
theorem d_Graph_lowestFoldable_36 : decode b_Graph_lowestFoldable 36 = .ok (.ireturn, 1) := by decide +kernel
theorem d_Graph_stiffPart_0 : decode b_Graph_stiffPart 0 = .ok (.aload_n 0, 1) := by decide +kernel
theorem d_Graph_stiffPart_1 : decode b_Graph_stiffPart 1 = .ok (.invokevirtual 96, 3) := by decide +kernel
theorem d_Graph_stiffPart_4 : decode b_Graph_stiffPart 4 = .ok (.istore_n 1, 1) := by decide +kernel
theorem d_Graph_stiffPart_5 : decode b_Graph_stiffPart 5 = .ok (.iconst 0, 1) := by decide +kernel
theorem d_Graph_stiffPart_6 : decode b_Graph_stiffPart 6 = .ok (.istore_n 2, 1) := by decide +kernel
theorem d_Graph_stiffPart_7 : decode b_Graph_stiffPart 7 = .ok (.iload_n 2, 1) := by decide +kernel
theorem d_Graph_stiffPart_8 : decode b_Graph_stiffPart 8 = .ok (.aload_n 0, 1) := by decide +kernel
theorem d_Graph_stiffPart_9 : decode b_Graph_stiffPart 9 = .ok (.getfield 21, 3) := by decide +kernel
theorem d_Graph_stiffPart_12 : decode b_Graph_stiffPart 12 = .ok (.if_icmp .ge 31, 3) := by decide +kernel
theorem d_Graph_stiffPart_15 : decode b_Graph_stiffPart 15 = .ok (.aload_n 0, 1) := by decide +kernel
theorem d_Graph_stiffPart_16 : decode b_Graph_stiffPart 16 = .ok (.iload_n 1, 1) := by decide +kernel
theorem d_Graph_stiffPart_17 : decode b_Graph_stiffPart 17 = .ok (.invokevirtual 102, 3) := by decide +kernel
theorem d_Graph_stiffPart_20 : decode b_Graph_stiffPart 20 = .ok (.istore_n 3, 1) := by decide +kernel
theorem d_Graph_stiffPart_21 : decode b_Graph_stiffPart 21 = .ok (.iload_n 3, 1) := by decide +kernel
theorem d_Graph_stiffPart_22 : decode b_Graph_stiffPart 22 = .ok (.iconst (-1), 1) := by decide +kernel
theorem d_Graph_stiffPart_23 : decode b_Graph_stiffPart 23 = .ok (.if_icmp .ne 6, 3) := by decide +kernel
theorem d_Graph_stiffPart_26 : decode b_Graph_stiffPart 26 = .ok (.goto 17, 3) := by decide +kernel
theorem d_Graph_stiffPart_29 : decode b_Graph_stiffPart 29 = .ok (.iload_n 1, 1) := by decide +kernel
theorem d_Graph_stiffPart_30 : decode b_Graph_stiffPart 30 = .ok (.iconst 1, 1) := by decide +kernel
theorem d_Graph_stiffPart_31 : decode b_Graph_stiffPart 31 = .ok (.iload_n 3, 1) := by decide +kernel
theorem d_Graph_stiffPart_32 : decode b_Graph_stiffPart 32 = .ok (.ishl, 1) := by decide +kernel
theorem d_Graph_stiffPart_33 : decode b_Graph_stiffPart 33 = .ok (.iconst (-1), 1) := by decide +kernel
theorem d_Graph_stiffPart_34 : decode b_Graph_stiffPart 34 = .ok (.ixor, 1) := by decide +kernel
theorem d_Graph_stiffPart_35 : decode b_Graph_stiffPart 35 = .ok (.iand, 1) := by decide +kernel
theorem d_Graph_stiffPart_36 : decode b_Graph_stiffPart 36 = .ok (.istore_n 1, 1) := by decide +kernel
theorem d_Graph_stiffPart_37 : decode b_Graph_stiffPart 37 = .ok (.iinc 2 1, 3) := by decide +kernel
theorem d_Graph_stiffPart_40 : decode b_Graph_stiffPart 40 = .ok (.goto (-33), 3) := by decide +kernel
theorem d_Graph_stiffPart_43 : decode b_Graph_stiffPart 43 = .ok (.iload_n 1, 1) := by decide +kernel
theorem d_Graph_stiffPart_44 : decode b_Graph_stiffPart 44 = .ok (.ireturn, 1) := by decide +kernel
def f_Graph_between (g : Nat) (v1 : Int32) (v2 : Int32) (μ : HMem) : Option (Int32 × HMem) :=
  h_chk ((8 * v1) + v2) (h_len (g + 2)) (
  some ((μ.1 (g + 2) (Int32.toNatClampNeg ((8 * v1) + v2))), μ))
def f_Graph_all (g : Nat) (μ : HMem) : Option (Int32 × HMem) :=
  some (((h_ishl 1 (μ.1 g 0)) - 1), μ)
def f_Bench_has_J13   (s0 : Int32) (μ : HMem) : Option (Int32 × HMem) :=
if s0 &&& 1 = s0 then some (s0, μ) else none
def f_Bench_has (v0 : Int32) (v1 : Int32) (μ : HMem) : Option (Int32 × HMem) :=
  if ((h_ishr v0 v1) &&& 1) = 0 then
    f_Bench_has_J13 0 μ
  else
    f_Bench_has_J13 1 μ
def f_Graph_reached_J63  (rec_ : Nat → Int32 → Int32 → Int32 → Int32 → Int32 → HMem → Option (Int32 × HMem)) (a0 : Nat) (v2 : Int32) (v4 : Int32) (v5 : Int32) (v6 : Int32) (s0 : Int32) (s1 : Int32) (μ : HMem) : Option (Int32 × HMem) :=
h_let (s1 ||| s0) (fun v3_64 =>
h_let (v6 + 1) (fun v6_65 =>
rec_ a0 v2 v3_64 v4 v5 v6_65 μ))
def f_Graph_reached_L31_b (K71 : Nat → Int32 → Int32 → Int32 → Int32 → HMem → Option (Int32 × HMem)) (rec_ : Nat → Int32 → Int32 → Int32 → Int32 → Int32 → HMem → Option (Int32 × HMem)) (a0 : Nat) (v2 : Int32) (v3 : Int32) (v4 : Int32) (v5 : Int32) (v6 : Int32) (μ : HMem) : Option (Int32 × HMem) :=
if (μ.1 a0 0) ≤ v6 then
  K71 a0 v2 v3 v4 v5 μ
else
  h_bd (f_Bench_has v3 v6 μ) (fun r44 μ_44 =>
  if r44 = 0 then
    f_Graph_reached_J63 rec_ a0 v2 v4 v5 v6 0 v3 μ_44
  else
    h_chk v6 (h_len (a0 + 3)) (
    f_Graph_reached_J63 rec_ a0 v2 v4 v5 v6 ((μ_44.1 (a0 + 3) (Int32.toNatClampNeg (v6))) &&& v2) v3 μ_44))
def f_Graph_reached_L31 (K71 : Nat → Int32 → Int32 → Int32 → Int32 → HMem → Option (Int32 × HMem)) : Nat → Nat → Int32 → Int32 → Int32 → Int32 → Int32 → HMem → Option (Int32 × HMem)
  | 0, _, _, _, _, _, _, _ => none
  | fuel + 1, a0, v2, v3, v4, v5, v6, μ => f_Graph_reached_L31_b K71 (f_Graph_reached_L31 K71 fuel) a0 v2 v3 v4 v5 v6 μ
def f_Graph_reached_J71  (rec_ : Nat → Int32 → Int32 → Int32 → Int32 → HMem → Option (Int32 × HMem)) (a0 : Nat) (v2 : Int32) (v3 : Int32) (v4 : Int32) (v5 : Int32) (μ : HMem) : Option (Int32 × HMem) :=
h_let (v5 + 1) (fun v5_71 =>
rec_ a0 v2 v3 v4 v5_71 μ)
def f_Graph_reached_L10_b (K77 : Int32 → HMem → Option (Int32 × HMem)) (rec_ : Nat → Int32 → Int32 → Int32 → Int32 → HMem → Option (Int32 × HMem)) (a0 : Nat) (v2 : Int32) (v3 : Int32) (v4 : Int32) (v5 : Int32) (μ : HMem) : Option (Int32 × HMem) :=
if (μ.1 a0 0) < v5 then
  K77 v3 μ
else
  if v3 = v4 then
    K77 v3 μ
  else
    f_Graph_reached_L31 (f_Graph_reached_J71 rec_) h_fuel a0 v2 v3 v3 v5 0 μ
def f_Graph_reached_L10 (K77 : Int32 → HMem → Option (Int32 × HMem)) : Nat → Nat → Int32 → Int32 → Int32 → Int32 → HMem → Option (Int32 × HMem)
  | 0, _, _, _, _, _, _ => none
  | fuel + 1, a0, v2, v3, v4, v5, μ => f_Graph_reached_L10_b K77 (f_Graph_reached_L10 K77 fuel) a0 v2 v3 v4 v5 μ
def f_Graph_reached_J77   (v3 : Int32) (μ : HMem) : Option (Int32 × HMem) :=
some (v3, μ)
def f_Graph_reached (g : Nat) (v1 : Int32) (v2 : Int32) (μ : HMem) : Option (Int32 × HMem) :=
  h_let (h_ishl 1 v1) (fun v3_3 =>
  f_Graph_reached_L10 f_Graph_reached_J77 h_fuel g v2 v3_3 0 0 μ)
def f_Graph_nearOf_J29  (rec_ : Nat → Int32 → Int32 → Int32 → HMem → Option (Int32 × HMem)) (a0 : Nat) (v1 : Int32) (v2 : Int32) (v3 : Int32) (μ : HMem) : Option (Int32 × HMem) :=
h_let (v3 + 1) (fun v3_29 =>
rec_ a0 v1 v2 v3_29 μ)
def f_Graph_nearOf_L4_b  (rec_ : Nat → Int32 → Int32 → Int32 → HMem → Option (Int32 × HMem)) (a0 : Nat) (v1 : Int32) (v2 : Int32) (v3 : Int32) (μ : HMem) : Option (Int32 × HMem) :=
if (μ.1 a0 0) ≤ v3 then
  some (v2, μ)
else
  h_bd (f_Bench_has v1 v3 μ) (fun r14 μ_14 =>
  if r14 = 0 then
    f_Graph_nearOf_J29 rec_ a0 v1 v2 v3 μ_14
  else
    h_chk v3 (h_len (a0 + 3)) (
    h_let (v2 ||| (μ_14.1 (a0 + 3) (Int32.toNatClampNeg (v3)))) (fun v2_28 =>
    f_Graph_nearOf_J29 rec_ a0 v1 v2_28 v3 μ_14)))
def f_Graph_nearOf_L4  : Nat → Nat → Int32 → Int32 → Int32 → HMem → Option (Int32 × HMem)
  | 0, _, _, _, _, _ => none
  | fuel + 1, a0, v1, v2, v3, μ => f_Graph_nearOf_L4_b  (f_Graph_nearOf_L4  fuel) a0 v1 v2 v3 μ
def f_Graph_nearOf (g : Nat) (v1 : Int32) (μ : HMem) : Option (Int32 × HMem) :=
  f_Graph_nearOf_L4 h_fuel g v1 0 0 μ
def f_Graph_loops_L4_b  (rec_ : Nat → Int32 → Int32 → HMem → Option (Int32 × HMem)) (a0 : Nat) (v1 : Int32) (v2 : Int32) (μ : HMem) : Option (Int32 × HMem) :=
if (μ.1 a0 0) ≤ v2 then
  some (v1, μ)
else
  h_chk v2 (h_len (a0 + 3)) (
  h_let (v1 ||| ((μ.1 (a0 + 3) (Int32.toNatClampNeg (v2))) &&& (h_ishl 1 v2))) (fun v1_24 =>
  h_let (v2 + 1) (fun v2_25 =>
  rec_ a0 v1_24 v2_25 μ)))
def f_Graph_loops_L4  : Nat → Nat → Int32 → Int32 → HMem → Option (Int32 × HMem)
  | 0, _, _, _, _ => none
  | fuel + 1, a0, v1, v2, μ => f_Graph_loops_L4_b  (f_Graph_loops_L4  fuel) a0 v1 v2 μ
def f_Graph_loops (g : Nat) (μ : HMem) : Option (Int32 × HMem) :=
  f_Graph_loops_L4 h_fuel g 0 0 μ
def f_Bench_limited (v0 : Int32) (v1 : Int32) (μ : HMem) : Option (Int32 × HMem) :=
  some ((h_mmax (-v1) (h_mmin v1 v0)), μ)
def f_Bench_greatestDivisor_L9_b (K45 : Int64 → HMem → Option (Int64 × HMem)) (rec_ : Int64 → Int64 → Int32 → HMem → Option (Int64 × HMem)) (v4 : Int64) (v6 : Int64) (v8 : Int32) (μ : HMem) : Option (Int64 × HMem) :=
if (128 : Int32) ≤ v8 then
  K45 v4 μ
else
  if (lg_cmp v6 0) = 0 then
    K45 v4 μ
  else
    if v6 = 0 then none else
    h_let (h_lrem v4 v6) (fun v9_29 =>
    h_let (v8 + 1) (fun v8_39 =>
    rec_ v6 v9_29 v8_39 μ))
def f_Bench_greatestDivisor_L9 (K45 : Int64 → HMem → Option (Int64 × HMem)) : Nat → Int64 → Int64 → Int32 → HMem → Option (Int64 × HMem)
  | 0, _, _, _, _ => none
  | fuel + 1, v4, v6, v8, μ => f_Bench_greatestDivisor_L9_b K45 (f_Bench_greatestDivisor_L9 K45 fuel) v4 v6 v8 μ
def f_Bench_greatestDivisor_J45   (v4 : Int64) (μ : HMem) : Option (Int64 × HMem) :=
some (v4, μ)
def f_Bench_greatestDivisor (v0 : Int64) (v2 : Int64) (μ : HMem) : Option (Int64 × HMem) :=
  f_Bench_greatestDivisor_L9 f_Bench_greatestDivisor_J45 h_fuel v0 v2 0 μ
def f_Graph_loopCount (g : Nat) (μ : HMem) : Option (Int32 × HMem) :=
  h_bd (f_Graph_loops g μ) (fun r1 μ_1 =>
  h_bd (f_Integer_bitCount r1 μ_1) (fun r4 μ_4 =>
  some (r4, μ_4)))
def f_Graph_reset (g : Nat) (v1 : Int32) (μ : HMem) : Option (Unit × HMem) :=
  h_let (h_wi μ g 0 v1) (fun μ_2 =>
  h_bd (f_Arrays_fill1 (g + 1) 1 μ_2) (fun _ μ_10 =>
  h_bd (f_Arrays_fill1 (g + 2) 0 μ_10) (fun _ μ_18 =>
  h_bd (f_Arrays_fill1 (g + 3) 0 μ_18) (fun _ μ_26 =>
  some ((), μ_26)))))
def f_Graph_copyFrom (g : Nat) (a1 : Nat) (μ : HMem) : Option (Unit × HMem) :=
  h_let (h_wi μ g 0 (μ.1 a1 0)) (fun μ_5 =>
  h_chk2 0 0 8 (h_len (a1 + 1)) (h_len (g + 1)) (h_let (h_cpi μ_5 (a1 + 1) (Int32.toNatClampNeg (0)) (g + 1) (Int32.toNatClampNeg (0)) (Int32.toNatClampNeg (8))) (fun μ_20 =>
  h_chk2 0 0 64 (h_len (a1 + 2)) (h_len (g + 2)) (h_let (h_cpi μ_20 (a1 + 2) (Int32.toNatClampNeg (0)) (g + 2) (Int32.toNatClampNeg (0)) (Int32.toNatClampNeg (64))) (fun μ_35 =>
  h_chk2 0 0 8 (h_len (a1 + 3)) (h_len (g + 3)) (h_let (h_cpi μ_35 (a1 + 3) (Int32.toNatClampNeg (0)) (g + 3) (Int32.toNatClampNeg (0)) (Int32.toNatClampNeg (8))) (fun μ_50 =>
  some ((), μ_50))))))))
def f_Graph_join_J83    (μ : HMem) : Option (Unit × HMem) :=
some ((), μ)
def f_Graph_join (g : Nat) (v1 : Int32) (v2 : Int32) (v3 : Int32) (μ : HMem) : Option (Unit × HMem) :=
  h_chk ((8 * v1) + v2) (h_len (g + 2)) (h_let (h_wi μ (g + 2) (Int32.toNatClampNeg ((8 * v1) + v2)) v3) (fun μ_11 =>
  h_chk ((8 * v2) + v1) (h_len (g + 2)) (h_let (h_wi μ_11 (g + 2) (Int32.toNatClampNeg ((8 * v2) + v1)) v3) (fun μ_23 =>
  if ¬ v3 = 0 then
    h_chk v1 (h_len (g + 3)) (
    h_chk v1 (h_len (g + 3)) (h_let (h_wi μ_23 (g + 3) (Int32.toNatClampNeg (v1)) ((μ_23.1 (g + 3) (Int32.toNatClampNeg (v1))) ||| (h_ishl 1 v2))) (fun μ_70 =>
    h_chk v2 (h_len (g + 3)) (
    h_chk v2 (h_len (g + 3)) (h_let (h_wi μ_70 (g + 3) (Int32.toNatClampNeg (v2)) ((μ_70.1 (g + 3) (Int32.toNatClampNeg (v2))) ||| (h_ishl 1 v1))) (fun μ_82 =>
    f_Graph_join_J83 μ_82))))))
  else
    h_chk v1 (h_len (g + 3)) (
    h_chk v1 (h_len (g + 3)) (h_let (h_wi μ_23 (g + 3) (Int32.toNatClampNeg (v1)) ((μ_23.1 (g + 3) (Int32.toNatClampNeg (v1))) &&& ((h_ishl 1 v2) ^^^ (-1)))) (fun μ_41 =>
    h_chk v2 (h_len (g + 3)) (
    h_chk v2 (h_len (g + 3)) (h_let (h_wi μ_41 (g + 3) (Int32.toNatClampNeg (v2)) ((μ_41.1 (g + 3) (Int32.toNatClampNeg (v2))) &&& ((h_ishl 1 v1) ^^^ (-1)))) (fun μ_55 =>
    f_Graph_join_J83 μ_55))))))))))
def f_Graph_inFamily_J44   (s0 : Int32) (μ : HMem) : Option (Int32 × HMem) :=
if s0 &&& 1 = s0 then some (s0, μ) else none
def f_Graph_inFamily_J79   (s0 : Int32) (μ : HMem) : Option (Int32 × HMem) :=
if s0 &&& 1 = s0 then some (s0, μ) else none
def f_Graph_inFamily_J74    (μ : HMem) : Option (Int32 × HMem) :=
f_Graph_inFamily_J79 1 μ
def f_Graph_inFamily_J78    (μ : HMem) : Option (Int32 × HMem) :=
f_Graph_inFamily_J79 0 μ
def f_Graph_inFamily_J90   (s0 : Int32) (μ : HMem) : Option (Int32 × HMem) :=
if s0 &&& 1 = s0 then some (s0, μ) else none
def f_Graph_inFamily_J104   (s0 : Int32) (μ : HMem) : Option (Int32 × HMem) :=
if s0 &&& 1 = s0 then some (s0, μ) else none
def f_Graph_inFamily_J103    (μ : HMem) : Option (Int32 × HMem) :=
f_Graph_inFamily_J104 0 μ
def f_Graph_inFamily (g : Nat) (v1 : Int32) (v2 : Int32) (v3 : Int32) (μ : HMem) : Option (Int32 × HMem) :=
  if (v1).toInt < 0 ∨ 3 < (v1).toInt then
    if (1 : Int32) &&& 1 = 1 then some (1, μ) else none
  else if v1 = 0 then
    if ¬ v3 = (v2 + 1) then
      f_Graph_inFamily_J44 0 μ
    else
      f_Graph_inFamily_J44 1 μ
  else if v1 = 1 then
    if v3 = (v2 + 1) then
      f_Graph_inFamily_J74 μ
    else
      if (μ.1 g 0) < (3 : Int32) then
        f_Graph_inFamily_J78 μ
      else
        if ¬ v2 = 0 then
          f_Graph_inFamily_J78 μ
        else
          if ¬ v3 = ((μ.1 g 0) - 1) then
            f_Graph_inFamily_J78 μ
          else
            f_Graph_inFamily_J74 μ
  else if v1 = 2 then
    if v2 = v3 then
      f_Graph_inFamily_J90 0 μ
    else
      f_Graph_inFamily_J90 1 μ
  else if v1 = 3 then
    if ¬ v2 = 0 then
      f_Graph_inFamily_J103 μ
    else
      if v3 = 0 then
        f_Graph_inFamily_J103 μ
      else
        f_Graph_inFamily_J104 1 μ
  else none
def f_Graph_joinFamily_J37  (rec_ : Nat → Int32 → Int32 → Int32 → HMem → Option (Unit × HMem)) (a0 : Nat) (v1 : Int32) (v2 : Int32) (v3 : Int32) (μ : HMem) : Option (Unit × HMem) :=
h_let (v3 + 1) (fun v3_37 =>
rec_ a0 v1 v2 v3_37 μ)
def f_Graph_joinFamily_L12_b (K43 : Nat → Int32 → Int32 → HMem → Option (Unit × HMem)) (rec_ : Nat → Int32 → Int32 → Int32 → HMem → Option (Unit × HMem)) (a0 : Nat) (v1 : Int32) (v2 : Int32) (v3 : Int32) (μ : HMem) : Option (Unit × HMem) :=
if (μ.1 a0 0) ≤ v3 then
  K43 a0 v1 v2 μ
else
  h_bd (f_Graph_inFamily a0 v1 v2 v3 μ) (fun r24 μ_24 =>
  if r24 = 0 then
    f_Graph_joinFamily_J37 rec_ a0 v1 v2 v3 μ_24
  else
    h_bd (f_Graph_join a0 v2 v3 1 μ_24) (fun _ μ_34 =>
    f_Graph_joinFamily_J37 rec_ a0 v1 v2 v3 μ_34))
def f_Graph_joinFamily_L12 (K43 : Nat → Int32 → Int32 → HMem → Option (Unit × HMem)) : Nat → Nat → Int32 → Int32 → Int32 → HMem → Option (Unit × HMem)
  | 0, _, _, _, _, _ => none
  | fuel + 1, a0, v1, v2, v3, μ => f_Graph_joinFamily_L12_b K43 (f_Graph_joinFamily_L12 K43 fuel) a0 v1 v2 v3 μ
def f_Graph_joinFamily_J43  (rec_ : Nat → Int32 → Int32 → HMem → Option (Unit × HMem)) (a0 : Nat) (v1 : Int32) (v2 : Int32) (μ : HMem) : Option (Unit × HMem) :=
h_let (v2 + 1) (fun v2_43 =>
rec_ a0 v1 v2_43 μ)
def f_Graph_joinFamily_L2_b  (rec_ : Nat → Int32 → Int32 → HMem → Option (Unit × HMem)) (a0 : Nat) (v1 : Int32) (v2 : Int32) (μ : HMem) : Option (Unit × HMem) :=
if (μ.1 a0 0) ≤ v2 then
  some ((), μ)
else
  f_Graph_joinFamily_L12 (f_Graph_joinFamily_J43 rec_) h_fuel a0 v1 v2 v2 μ
def f_Graph_joinFamily_L2  : Nat → Nat → Int32 → Int32 → HMem → Option (Unit × HMem)
  | 0, _, _, _, _ => none
  | fuel + 1, a0, v1, v2, μ => f_Graph_joinFamily_L2_b  (f_Graph_joinFamily_L2  fuel) a0 v1 v2 μ
def f_Graph_joinFamily (g : Nat) (v1 : Int32) (μ : HMem) : Option (Unit × HMem) :=
  f_Graph_joinFamily_L2 h_fuel g v1 0 μ
def f_Graph_joinRandomly_J63  (rec_ : Nat → Int32 → Int64 → Int32 → Int32 → HMem → Option (Unit × HMem)) (a0 : Nat) (v2 : Int32) (v3 : Int64) (v5 : Int32) (v6 : Int32) (μ : HMem) : Option (Unit × HMem) :=
h_let (v6 + 1) (fun v6_63 =>
rec_ a0 v2 v3 v5 v6_63 μ)
def f_Graph_joinRandomly_L18_b (K69 : Nat → Int32 → Int64 → Int32 → HMem → Option (Unit × HMem)) (rec_ : Nat → Int32 → Int64 → Int32 → Int32 → HMem → Option (Unit × HMem)) (a0 : Nat) (v2 : Int32) (v3 : Int64) (v5 : Int32) (v6 : Int32) (μ : HMem) : Option (Unit × HMem) :=
if v5 ≤ v6 then
  K69 a0 v2 v3 v5 μ
else
  if (2147483648 : Int64) = 0 then none else
  h_let (h_lrem ((1103515245 * v3) + 12345) 2147483648) (fun v3_38 =>
  if (65536 : Int64) = 0 then none else
  if (100 : Int64) = 0 then none else
  if 0 ≤ (lg_cmp (h_lrem (v3_38 / 65536) 100) (Int32.toInt64 v2)) then
    f_Graph_joinRandomly_J63 rec_ a0 v2 v3_38 v5 v6 μ
  else
    h_bd (f_Graph_join a0 v5 v6 1 μ) (fun _ μ_60 =>
    f_Graph_joinRandomly_J63 rec_ a0 v2 v3_38 v5 v6 μ_60))
def f_Graph_joinRandomly_L18 (K69 : Nat → Int32 → Int64 → Int32 → HMem → Option (Unit × HMem)) : Nat → Nat → Int32 → Int64 → Int32 → Int32 → HMem → Option (Unit × HMem)
  | 0, _, _, _, _, _, _ => none
  | fuel + 1, a0, v2, v3, v5, v6, μ => f_Graph_joinRandomly_L18_b K69 (f_Graph_joinRandomly_L18 K69 fuel) a0 v2 v3 v5 v6 μ
def f_Graph_joinRandomly_J69  (rec_ : Nat → Int32 → Int64 → Int32 → HMem → Option (Unit × HMem)) (a0 : Nat) (v2 : Int32) (v3 : Int64) (v5 : Int32) (μ : HMem) : Option (Unit × HMem) :=
h_let (v5 + 1) (fun v5_69 =>
rec_ a0 v2 v3 v5_69 μ)
def f_Graph_joinRandomly_L6_b  (rec_ : Nat → Int32 → Int64 → Int32 → HMem → Option (Unit × HMem)) (a0 : Nat) (v2 : Int32) (v3 : Int64) (v5 : Int32) (μ : HMem) : Option (Unit × HMem) :=
if (μ.1 a0 0) ≤ v5 then
  some ((), μ)
else
  f_Graph_joinRandomly_L18 (f_Graph_joinRandomly_J69 rec_) h_fuel a0 v2 v3 v5 0 μ
def f_Graph_joinRandomly_L6  : Nat → Nat → Int32 → Int64 → Int32 → HMem → Option (Unit × HMem)
  | 0, _, _, _, _, _ => none
  | fuel + 1, a0, v2, v3, v5, μ => f_Graph_joinRandomly_L6_b  (f_Graph_joinRandomly_L6  fuel) a0 v2 v3 v5 μ
def f_Graph_joinRandomly (g : Nat) (v1 : Int32) (v2 : Int32) (μ : HMem) : Option (Unit × HMem) :=
  h_let (Int32.toInt64 v1) (fun v3_2 =>
  f_Graph_joinRandomly_L6 h_fuel g v2 v3_2 0 μ)
def f_Graph_joinPlaced_J43  (rec_ : Nat → Nat → Int32 → Int32 → Int32 → Int32 → Int32 → HMem → Option (Unit × HMem)) (a0 : Nat) (a1 : Nat) (v2 : Int32) (v3 : Int32) (v4 : Int32) (v5 : Int32) (v6 : Int32) (μ : HMem) : Option (Unit × HMem) :=
h_let (v6 + 1) (fun v6_43 =>
rec_ a0 a1 v2 v3 v4 v5 v6_43 μ)
def f_Graph_joinPlaced_L7_b  (rec_ : Nat → Nat → Int32 → Int32 → Int32 → Int32 → Int32 → HMem → Option (Unit × HMem)) (a0 : Nat) (a1 : Nat) (v2 : Int32) (v3 : Int32) (v4 : Int32) (v5 : Int32) (v6 : Int32) (μ : HMem) : Option (Unit × HMem) :=
if (μ.1 a1 0) ≤ v6 then
  some ((), μ)
else
  h_bd (f_Bench_has v2 v6 μ) (fun r19 μ_19 =>
  if r19 = 0 then
    f_Graph_joinPlaced_J43 rec_ a0 a1 v2 v3 v4 v5 v6 μ_19
  else
    h_bd (f_Graph_between a1 v3 v6 μ_19) (fun r34 μ_34 =>
    h_bd (f_Graph_join a0 v4 v5 r34 μ_34) (fun _ μ_37 =>
    h_let (v5 + 1) (fun v5_40 =>
    f_Graph_joinPlaced_J43 rec_ a0 a1 v2 v3 v4 v5_40 v6 μ_37))))
def f_Graph_joinPlaced_L7  : Nat → Nat → Nat → Int32 → Int32 → Int32 → Int32 → Int32 → HMem → Option (Unit × HMem)
  | 0, _, _, _, _, _, _, _, _ => none
  | fuel + 1, a0, a1, v2, v3, v4, v5, v6, μ => f_Graph_joinPlaced_L7_b  (f_Graph_joinPlaced_L7  fuel) a0 a1 v2 v3 v4 v5 v6 μ
def f_Graph_joinPlaced (g : Nat) (a1 : Nat) (v2 : Int32) (v3 : Int32) (v4 : Int32) (μ : HMem) : Option (Unit × HMem) :=
  f_Graph_joinPlaced_L7 h_fuel g a1 v2 v3 v4 v4 v3 μ
def f_Graph_place_J51  (rec_ : Nat → Nat → Int32 → Int32 → Int32 → HMem → Option (Unit × HMem)) (a0 : Nat) (a1 : Nat) (v2 : Int32) (v4 : Int32) (v5 : Int32) (μ : HMem) : Option (Unit × HMem) :=
h_let (v5 + 1) (fun v5_51 =>
rec_ a0 a1 v2 v4 v5_51 μ)
def f_Graph_place_L6_b  (rec_ : Nat → Nat → Int32 → Int32 → Int32 → HMem → Option (Unit × HMem)) (a0 : Nat) (a1 : Nat) (v2 : Int32) (v4 : Int32) (v5 : Int32) (μ : HMem) : Option (Unit × HMem) :=
if (μ.1 a1 0) ≤ v5 then
  some ((), μ)
else
  h_bd (f_Bench_has v2 v5 μ) (fun r18 μ_18 =>
  if r18 = 0 then
    f_Graph_place_J51 rec_ a0 a1 v2 v4 v5 μ_18
  else
    h_chk v5 (h_len (a1 + 1)) (
    h_chk v4 (h_len (a0 + 1)) (h_let (h_wi μ_18 (a0 + 1) (Int32.toNatClampNeg (v4)) (μ_18.1 (a1 + 1) (Int32.toNatClampNeg (v5)))) (fun μ_37 =>
    h_bd (f_Graph_joinPlaced a0 a1 v2 v5 v4 μ_37) (fun _ μ_45 =>
    h_let (v4 + 1) (fun v4_48 =>
    f_Graph_place_J51 rec_ a0 a1 v2 v4_48 v5 μ_45))))))
def f_Graph_place_L6  : Nat → Nat → Nat → Int32 → Int32 → Int32 → HMem → Option (Unit × HMem)
  | 0, _, _, _, _, _, _ => none
  | fuel + 1, a0, a1, v2, v4, v5, μ => f_Graph_place_L6_b  (f_Graph_place_L6  fuel) a0 a1 v2 v4 v5 μ
def f_Graph_place (g : Nat) (a1 : Nat) (v2 : Int32) (v3 : Int32) (μ : HMem) : Option (Unit × HMem) :=
  f_Graph_place_L6 h_fuel g a1 v2 v3 0 μ
def f_Graph_induce (g : Nat) (a1 : Nat) (v2 : Int32) (μ : HMem) : Option (Unit × HMem) :=
  h_bd (f_Integer_bitCount v2 μ) (fun r2 μ_2 =>
  h_bd (f_Graph_reset g r2 μ_2) (fun _ μ_5 =>
  h_bd (f_Graph_place g a1 v2 0 μ_5) (fun _ μ_12 =>
  some ((), μ_12))))
def f_Graph_complement_J54  (rec_ : Nat → Nat → Int32 → Int32 → HMem → Option (Unit × HMem)) (a0 : Nat) (a1 : Nat) (v2 : Int32) (v3 : Int32) (s0 : Int32) (s1 : Int32) (s2 : Int32) (b3 : Nat) (μ : HMem) : Option (Unit × HMem) :=
h_bd (f_Graph_join b3 s2 s1 s0 μ) (fun _ μ_54 =>
h_let (v3 + 1) (fun v3_57 =>
rec_ a0 a1 v2 v3_57 μ_54))
def f_Graph_complement_L32_b (K63 : Nat → Nat → Int32 → HMem → Option (Unit × HMem)) (rec_ : Nat → Nat → Int32 → Int32 → HMem → Option (Unit × HMem)) (a0 : Nat) (a1 : Nat) (v2 : Int32) (v3 : Int32) (μ : HMem) : Option (Unit × HMem) :=
if v2 ≤ v3 then
  K63 a0 a1 v2 μ
else
  h_bd (f_Graph_between a1 v2 v3 μ) (fun r43 μ_43 =>
  if ¬ r43 = 0 then
    f_Graph_complement_J54 rec_ a0 a1 v2 v3 0 v3 v2 a0 μ_43
  else
    f_Graph_complement_J54 rec_ a0 a1 v2 v3 1 v3 v2 a0 μ_43)
def f_Graph_complement_L32 (K63 : Nat → Nat → Int32 → HMem → Option (Unit × HMem)) : Nat → Nat → Nat → Int32 → Int32 → HMem → Option (Unit × HMem)
  | 0, _, _, _, _, _ => none
  | fuel + 1, a0, a1, v2, v3, μ => f_Graph_complement_L32_b K63 (f_Graph_complement_L32 K63 fuel) a0 a1 v2 v3 μ
def f_Graph_complement_J63  (rec_ : Nat → Nat → Int32 → HMem → Option (Unit × HMem)) (a0 : Nat) (a1 : Nat) (v2 : Int32) (μ : HMem) : Option (Unit × HMem) :=
h_let (v2 + 1) (fun v2_63 =>
rec_ a0 a1 v2_63 μ)
def f_Graph_complement_L10_b  (rec_ : Nat → Nat → Int32 → HMem → Option (Unit × HMem)) (a0 : Nat) (a1 : Nat) (v2 : Int32) (μ : HMem) : Option (Unit × HMem) :=
if (μ.1 a0 0) ≤ v2 then
  some ((), μ)
else
  h_chk v2 (h_len (a1 + 1)) (
  h_chk v2 (h_len (a0 + 1)) (h_let (h_wi μ (a0 + 1) (Int32.toNatClampNeg (v2)) (μ.1 (a1 + 1) (Int32.toNatClampNeg (v2)))) (fun μ_29 =>
  f_Graph_complement_L32 (f_Graph_complement_J63 rec_) h_fuel a0 a1 v2 0 μ_29)))
def f_Graph_complement_L10  : Nat → Nat → Nat → Int32 → HMem → Option (Unit × HMem)
  | 0, _, _, _, _ => none
  | fuel + 1, a0, a1, v2, μ => f_Graph_complement_L10_b  (f_Graph_complement_L10  fuel) a0 a1 v2 μ
def f_Graph_complement (g : Nat) (a1 : Nat) (μ : HMem) : Option (Unit × HMem) :=
  h_bd (f_Graph_reset g (μ.1 a1 0) μ) (fun _ μ_5 =>
  f_Graph_complement_L10 h_fuel g a1 0 μ_5)
def f_Graph_step_J19   (s0 : Int32) (μ : HMem) : Option (Int32 × HMem) :=
some (s0, μ)
def f_Graph_step_J13   (a0 : Nat) (v1 : Int32) (v2 : Int32) (μ : HMem) : Option (Int32 × HMem) :=
h_bd (f_Graph_between a0 v1 v2 μ) (fun r16 μ_16 =>
f_Graph_step_J19 r16 μ_16)
def f_Graph_step (g : Nat) (v1 : Int32) (v2 : Int32) (v3 : Int32) (μ : HMem) : Option (Int32 × HMem) :=
  if v3 = 0 then
    f_Graph_step_J13 g v1 v2 μ
  else
    if ¬ v1 = v2 then
      f_Graph_step_J13 g v1 v2 μ
    else
      f_Graph_step_J19 1 μ
def f_Graph_joinPair_L15_b (K81 : Nat → Nat → Nat → Int32 → Int32 → Int32 → Int32 → HMem → Option (Unit × HMem)) (rec_ : Nat → Nat → Nat → Int32 → Int32 → Int32 → Int32 → Int32 → HMem → Option (Unit × HMem)) (a0 : Nat) (a1 : Nat) (a2 : Nat) (v3 : Int32) (v4 : Int32) (v5 : Int32) (v6 : Int32) (v7 : Int32) (μ : HMem) : Option (Unit × HMem) :=
if (μ.1 a2 0) ≤ v7 then
  K81 a0 a1 a2 v3 v4 v5 v6 μ
else
  h_bd (f_Graph_step a1 v3 v6 v5 μ) (fun r30 μ_30 =>
  h_bd (f_Graph_step a2 v4 v7 v5 μ_30) (fun r40 μ_40 =>
  h_let (r30 * r40) (fun v8_44 =>
  h_bd (f_Bench_limited v8_44 2 μ_40) (fun r69 μ_69 =>
  h_bd (f_Graph_join a0 (((μ_40.1 a2 0) * v3) + v4) (((μ_40.1 a2 0) * v6) + v7) r69 μ_69) (fun _ μ_72 =>
  h_let (v7 + 1) (fun v7_75 =>
  rec_ a0 a1 a2 v3 v4 v5 v6 v7_75 μ_72))))))
def f_Graph_joinPair_L15 (K81 : Nat → Nat → Nat → Int32 → Int32 → Int32 → Int32 → HMem → Option (Unit × HMem)) : Nat → Nat → Nat → Nat → Int32 → Int32 → Int32 → Int32 → Int32 → HMem → Option (Unit × HMem)
  | 0, _, _, _, _, _, _, _, _, _ => none
  | fuel + 1, a0, a1, a2, v3, v4, v5, v6, v7, μ => f_Graph_joinPair_L15_b K81 (f_Graph_joinPair_L15 K81 fuel) a0 a1 a2 v3 v4 v5 v6 v7 μ
def f_Graph_joinPair_J81  (rec_ : Nat → Nat → Nat → Int32 → Int32 → Int32 → Int32 → HMem → Option (Unit × HMem)) (a0 : Nat) (a1 : Nat) (a2 : Nat) (v3 : Int32) (v4 : Int32) (v5 : Int32) (v6 : Int32) (μ : HMem) : Option (Unit × HMem) :=
h_let (v6 + 1) (fun v6_81 =>
rec_ a0 a1 a2 v3 v4 v5 v6_81 μ)
def f_Graph_joinPair_L3_b  (rec_ : Nat → Nat → Nat → Int32 → Int32 → Int32 → Int32 → HMem → Option (Unit × HMem)) (a0 : Nat) (a1 : Nat) (a2 : Nat) (v3 : Int32) (v4 : Int32) (v5 : Int32) (v6 : Int32) (μ : HMem) : Option (Unit × HMem) :=
if (μ.1 a1 0) ≤ v6 then
  some ((), μ)
else
  f_Graph_joinPair_L15 (f_Graph_joinPair_J81 rec_) h_fuel a0 a1 a2 v3 v4 v5 v6 0 μ
def f_Graph_joinPair_L3  : Nat → Nat → Nat → Nat → Int32 → Int32 → Int32 → Int32 → HMem → Option (Unit × HMem)
  | 0, _, _, _, _, _, _, _, _ => none
  | fuel + 1, a0, a1, a2, v3, v4, v5, v6, μ => f_Graph_joinPair_L3_b  (f_Graph_joinPair_L3  fuel) a0 a1 a2 v3 v4 v5 v6 μ
def f_Graph_joinPair (g : Nat) (a1 : Nat) (a2 : Nat) (v3 : Int32) (v4 : Int32) (v5 : Int32) (μ : HMem) : Option (Unit × HMem) :=
  f_Graph_joinPair_L3 h_fuel g a1 a2 v3 v4 v5 0 μ
def f_Graph_multiply_L15_b (K75 : Nat → Nat → Nat → Int32 → Int32 → HMem → Option (Unit × HMem)) (rec_ : Nat → Nat → Nat → Int32 → Int32 → Int32 → HMem → Option (Unit × HMem)) (a0 : Nat) (a1 : Nat) (a2 : Nat) (v3 : Int32) (v4 : Int32) (v5 : Int32) (μ : HMem) : Option (Unit × HMem) :=
if (μ.1 a2 0) ≤ v5 then
  K75 a0 a1 a2 v3 v4 μ
else
  h_chk v4 (h_len (a1 + 1)) (
  h_chk v5 (h_len (a2 + 1)) (
  h_bd (f_Bench_limited ((μ.1 (a1 + 1) (Int32.toNatClampNeg (v4))) * (μ.1 (a2 + 1) (Int32.toNatClampNeg (v5)))) 3 μ) (fun r54 μ_54 =>
  h_chk (((μ.1 a2 0) * v4) + v5) (h_len (a0 + 1)) (h_let (h_wi μ_54 (a0 + 1) (Int32.toNatClampNeg (((μ.1 a2 0) * v4) + v5)) r54) (fun μ_57 =>
  h_bd (f_Graph_joinPair a0 a1 a2 v4 v5 v3 μ_57) (fun _ μ_66 =>
  h_let (v5 + 1) (fun v5_69 =>
  rec_ a0 a1 a2 v3 v4 v5_69 μ_66)))))))
def f_Graph_multiply_L15 (K75 : Nat → Nat → Nat → Int32 → Int32 → HMem → Option (Unit × HMem)) : Nat → Nat → Nat → Nat → Int32 → Int32 → Int32 → HMem → Option (Unit × HMem)
  | 0, _, _, _, _, _, _, _ => none
  | fuel + 1, a0, a1, a2, v3, v4, v5, μ => f_Graph_multiply_L15_b K75 (f_Graph_multiply_L15 K75 fuel) a0 a1 a2 v3 v4 v5 μ
def f_Graph_multiply_J75  (rec_ : Nat → Nat → Nat → Int32 → Int32 → HMem → Option (Unit × HMem)) (a0 : Nat) (a1 : Nat) (a2 : Nat) (v3 : Int32) (v4 : Int32) (μ : HMem) : Option (Unit × HMem) :=
h_let (v4 + 1) (fun v4_75 =>
rec_ a0 a1 a2 v3 v4_75 μ)
def f_Graph_multiply_L3_b  (rec_ : Nat → Nat → Nat → Int32 → Int32 → HMem → Option (Unit × HMem)) (a0 : Nat) (a1 : Nat) (a2 : Nat) (v3 : Int32) (v4 : Int32) (μ : HMem) : Option (Unit × HMem) :=
if (μ.1 a1 0) ≤ v4 then
  some ((), μ)
else
  f_Graph_multiply_L15 (f_Graph_multiply_J75 rec_) h_fuel a0 a1 a2 v3 v4 0 μ
def f_Graph_multiply_L3  : Nat → Nat → Nat → Nat → Int32 → Int32 → HMem → Option (Unit × HMem)
  | 0, _, _, _, _, _, _ => none
  | fuel + 1, a0, a1, a2, v3, v4, μ => f_Graph_multiply_L3_b  (f_Graph_multiply_L3  fuel) a0 a1 a2 v3 v4 μ
def f_Graph_multiply (g : Nat) (a1 : Nat) (a2 : Nat) (v3 : Int32) (μ : HMem) : Option (Unit × HMem) :=
  f_Graph_multiply_L3 h_fuel g a1 a2 v3 0 μ
def f_Graph_edgeCount_L4_b  (rec_ : Nat → Int32 → Int32 → HMem → Option (Int32 × HMem)) (a0 : Nat) (v1 : Int32) (v2 : Int32) (μ : HMem) : Option (Int32 × HMem) :=
if (μ.1 a0 0) ≤ v2 then
  if (2 : Int32) = 0 then none else
  some ((v1 / 2), μ)
else
  h_chk v2 (h_len (a0 + 3)) (
  h_bd (f_Integer_bitCount ((μ.1 (a0 + 3) (Int32.toNatClampNeg (v2))) &&& ((h_ishl 1 v2) ^^^ (-1))) μ) (fun r25 μ_25 =>
  h_let (v1 + r25) (fun v1_29 =>
  h_let (v2 + 1) (fun v2_30 =>
  rec_ a0 v1_29 v2_30 μ_25))))
def f_Graph_edgeCount_L4  : Nat → Nat → Int32 → Int32 → HMem → Option (Int32 × HMem)
  | 0, _, _, _, _ => none
  | fuel + 1, a0, v1, v2, μ => f_Graph_edgeCount_L4_b  (f_Graph_edgeCount_L4  fuel) a0 v1 v2 μ
def f_Graph_edgeCount (g : Nat) (μ : HMem) : Option (Int32 × HMem) :=
  f_Graph_edgeCount_L4 h_fuel g 0 0 μ
def f_Graph_partCount_J39  (rec_ : Nat → Int32 → Int32 → Int32 → HMem → Option (Int32 × HMem)) (a0 : Nat) (v1 : Int32) (v2 : Int32) (v3 : Int32) (μ : HMem) : Option (Int32 × HMem) :=
h_let (v3 + 1) (fun v3_39 =>
rec_ a0 v1 v2 v3_39 μ)
def f_Graph_partCount_L9_b  (rec_ : Nat → Int32 → Int32 → Int32 → HMem → Option (Int32 × HMem)) (a0 : Nat) (v1 : Int32) (v2 : Int32) (v3 : Int32) (μ : HMem) : Option (Int32 × HMem) :=
if (μ.1 a0 0) ≤ v3 then
  some (v1, μ)
else
  h_bd (f_Bench_has v2 v3 μ) (fun r19 μ_19 =>
  if r19 = 0 then
    f_Graph_partCount_J39 rec_ a0 v1 v2 v3 μ_19
  else
    h_let (v1 + 1) (fun v1_25 =>
    h_bd (f_Graph_reached a0 v3 v2 μ_19) (fun r32 μ_32 =>
    h_let (v2 &&& (r32 ^^^ (-1))) (fun v2_38 =>
    f_Graph_partCount_J39 rec_ a0 v1_25 v2_38 v3 μ_32))))
def f_Graph_partCount_L9  : Nat → Nat → Int32 → Int32 → Int32 → HMem → Option (Int32 × HMem)
  | 0, _, _, _, _, _ => none
  | fuel + 1, a0, v1, v2, v3, μ => f_Graph_partCount_L9_b  (f_Graph_partCount_L9  fuel) a0 v1 v2 v3 μ
def f_Graph_partCount (g : Nat) (μ : HMem) : Option (Int32 × HMem) :=
  h_bd (f_Graph_all g μ) (fun r3 μ_3 =>
  f_Graph_partCount_L9 h_fuel g 0 r3 0 μ_3)
def f_Graph_foldTargets_J98  (rec_ : Nat → Int32 → Int32 → Int32 → Int32 → Int32 → Int32 → HMem → Option (Int32 × HMem)) (a0 : Nat) (v1 : Int32) (v2 : Int32) (v3 : Int32) (v4 : Int32) (v5 : Int32) (v6 : Int32) (μ : HMem) : Option (Int32 × HMem) :=
h_let (v6 + 1) (fun v6_98 =>
rec_ a0 v1 v2 v3 v4 v5 v6_98 μ)
def f_Graph_foldTargets_J57  (rec_ : Nat → Int32 → Int32 → Int32 → Int32 → Int32 → Int32 → HMem → Option (Int32 × HMem)) (a0 : Nat) (v1 : Int32) (v2 : Int32) (v3 : Int32) (v4 : Int32) (v5 : Int32) (v6 : Int32) (s0 : Int32) (μ : HMem) : Option (Int32 × HMem) :=
if v6 = v1 then
  f_Graph_foldTargets_J98 rec_ a0 v1 v2 v3 v4 v5 v6 μ
else
  h_bd (f_Bench_has v2 v6 μ) (fun r68 μ_68 =>
  if r68 = 0 then
    f_Graph_foldTargets_J98 rec_ a0 v1 v2 v3 v4 v5 v6 μ_68
  else
    h_chk v6 (h_len (a0 + 3)) (
    if ¬ (s0 &&& ((μ_68.1 (a0 + 3) (Int32.toNatClampNeg (v6))) ^^^ (-1))) = 0 then
      f_Graph_foldTargets_J98 rec_ a0 v1 v2 v3 v4 v5 v6 μ_68
    else
      h_let (v5 ||| (h_ishl 1 v6)) (fun v5_96 =>
      f_Graph_foldTargets_J98 rec_ a0 v1 v2 v3 v4 v5_96 v6 μ_68)))
def f_Graph_foldTargets_L33_b  (rec_ : Nat → Int32 → Int32 → Int32 → Int32 → Int32 → Int32 → HMem → Option (Int32 × HMem)) (a0 : Nat) (v1 : Int32) (v2 : Int32) (v3 : Int32) (v4 : Int32) (v5 : Int32) (v6 : Int32) (μ : HMem) : Option (Int32 × HMem) :=
if (μ.1 a0 0) ≤ v6 then
  some (v5, μ)
else
  if v4 = 0 then
    f_Graph_foldTargets_J57 rec_ a0 v1 v2 v3 v4 v5 v6 v3 μ
  else
    f_Graph_foldTargets_J57 rec_ a0 v1 v2 v3 v4 v5 v6 (v3 ||| (h_ishl 1 v6)) μ
def f_Graph_foldTargets_L33  : Nat → Nat → Int32 → Int32 → Int32 → Int32 → Int32 → Int32 → HMem → Option (Int32 × HMem)
  | 0, _, _, _, _, _, _, _, _ => none
  | fuel + 1, a0, v1, v2, v3, v4, v5, v6, μ => f_Graph_foldTargets_L33_b  (f_Graph_foldTargets_L33  fuel) a0 v1 v2 v3 v4 v5 v6 μ
def f_Graph_foldTargets (g : Nat) (v1 : Int32) (v2 : Int32) (μ : HMem) : Option (Int32 × HMem) :=
  h_chk v1 (h_len (g + 3)) (
  h_let (((μ.1 (g + 3) (Int32.toNatClampNeg (v1))) &&& v2) &&& ((h_ishl 1 v1) ^^^ (-1))) (fun v3_14 =>
  h_chk v1 (h_len (g + 3)) (
  h_bd (f_Bench_has (μ.1 (g + 3) (Int32.toNatClampNeg (v1))) v1 μ) (fun r22 μ_22 =>
  f_Graph_foldTargets_L33 h_fuel g v1 v2 v3_14 r22 0 0 μ_22))))
def f_Graph_lowestFoldable_J29  (rec_ : Nat → Int32 → Int32 → HMem → Option (Int32 × HMem)) (a0 : Nat) (v1 : Int32) (v2 : Int32) (μ : HMem) : Option (Int32 × HMem) :=
h_let (v2 + 1) (fun v2_29 =>
rec_ a0 v1 v2_29 μ)
def f_Graph_lowestFoldable_L2_b  (rec_ : Nat → Int32 → Int32 → HMem → Option (Int32 × HMem)) (a0 : Nat) (v1 : Int32) (v2 : Int32) (μ : HMem) : Option (Int32 × HMem) :=
if (μ.1 a0 0) ≤ v2 then
  some ((-1), μ)
else
  h_bd (f_Bench_has v1 v2 μ) (fun r12 μ_12 =>
  if r12 = 0 then
    f_Graph_lowestFoldable_J29 rec_ a0 v1 v2 μ_12
  else
    h_bd (f_Graph_foldTargets a0 v2 v1 μ_12) (fun r21 μ_21 =>
    if r21 = 0 then
      f_Graph_lowestFoldable_J29 rec_ a0 v1 v2 μ_21
    else
      some (v2, μ_21)))
def f_Graph_lowestFoldable_L2  : Nat → Nat → Int32 → Int32 → HMem → Option (Int32 × HMem)
  | 0, _, _, _, _ => none
  | fuel + 1, a0, v1, v2, μ => f_Graph_lowestFoldable_L2_b  (f_Graph_lowestFoldable_L2  fuel) a0 v1 v2 μ
def f_Graph_lowestFoldable (g : Nat) (v1 : Int32) (μ : HMem) : Option (Int32 × HMem) :=
  f_Graph_lowestFoldable_L2 h_fuel g v1 0 μ
def f_Graph_stiffPart_L7_b (K26 : Int32 → HMem → Option (Int32 × HMem)) (K43 : Int32 → HMem → Option (Int32 × HMem)) (rec_ : Nat → Int32 → Int32 → HMem → Option (Int32 × HMem)) (a0 : Nat) (v1 : Int32) (v2 : Int32) (μ : HMem) : Option (Int32 × HMem) :=
if (μ.1 a0 0) ≤ v2 then
  K43 v1 μ
else
  h_bd (f_Graph_lowestFoldable a0 v1 μ) (fun r17 μ_17 =>
  if ¬ r17 = (-1 : Int32) then
    h_let (v1 &&& ((h_ishl 1 r17) ^^^ (-1))) (fun v1_36 =>
    h_let (v2 + 1) (fun v2_37 =>
    rec_ a0 v1_36 v2_37 μ_17))
  else
    K26 v1 μ_17)
def f_Graph_stiffPart_L7 (K26 : Int32 → HMem → Option (Int32 × HMem)) (K43 : Int32 → HMem → Option (Int32 × HMem)) : Nat → Nat → Int32 → Int32 → HMem → Option (Int32 × HMem)
  | 0, _, _, _, _ => none
  | fuel + 1, a0, v1, v2, μ => f_Graph_stiffPart_L7_b K26 K43 (f_Graph_stiffPart_L7 K26 K43 fuel) a0 v1 v2 μ
def f_Graph_stiffPart_J43   (v1 : Int32) (μ : HMem) : Option (Int32 × HMem) :=
some (v1, μ)
def f_Graph_stiffPart_J26   (v1 : Int32) (μ : HMem) : Option (Int32 × HMem) :=
f_Graph_stiffPart_J43 v1 μ
def f_Graph_stiffPart (g : Nat) (μ : HMem) : Option (Int32 × HMem) :=
  h_bd (f_Graph_all g μ) (fun r1 μ_1 =>
  f_Graph_stiffPart_L7 f_Graph_stiffPart_J26 f_Graph_stiffPart_J43 h_fuel g r1 0 μ_1)
def p_Graph_reached_31 (cx : HCx) (F_ : Nat → Int32 → Int32 → Int32 → Int32 → Int32 → HMem → Option (Int32 × HMem)) : Prop := ∀ (a0 : Nat) (h_a0 : HIsG a0) (v2 : Int32) (v3 : Int32) (v4 : Int32) (v5 : Int32) (v6 : Int32) (μ : HMem), HX cx (HQ cx h_eI) (F_ a0 v2 v3 v4 v5 v6 μ) 0 0 31 [(0, .ref a0), (2, .int v2), (3, .int v3), (4, .int v4), (5, .int v5), (6, .int v6)] [] μ
def p_Graph_reached_71 (cx : HCx) (F_ : Nat → Int32 → Int32 → Int32 → Int32 → HMem → Option (Int32 × HMem)) : Prop := ∀ (a0 : Nat) (h_a0 : HIsG a0) (v2 : Int32) (v3 : Int32) (v4 : Int32) (v5 : Int32) (μ : HMem), HX cx (HQ cx h_eI) (F_ a0 v2 v3 v4 v5 μ) 0 0 71 [(0, .ref a0), (2, .int v2), (3, .int v3), (4, .int v4), (5, .int v5)] [] μ
def p_Graph_reached_10 (cx : HCx) (F_ : Nat → Int32 → Int32 → Int32 → Int32 → HMem → Option (Int32 × HMem)) : Prop := ∀ (a0 : Nat) (h_a0 : HIsG a0) (v2 : Int32) (v3 : Int32) (v4 : Int32) (v5 : Int32) (μ : HMem), HX cx (HQ cx h_eI) (F_ a0 v2 v3 v4 v5 μ) 0 0 10 [(0, .ref a0), (2, .int v2), (3, .int v3), (4, .int v4), (5, .int v5)] [] μ
def p_Graph_reached_77 (cx : HCx) (F_ : Int32 → HMem → Option (Int32 × HMem)) : Prop := ∀ (v3 : Int32) (μ : HMem), HX cx (HQ cx h_eI) (F_ v3 μ) 0 0 77 [(3, .int v3)] [] μ
def p_Graph_nearOf_4 (cx : HCx) (F_ : Nat → Int32 → Int32 → Int32 → HMem → Option (Int32 × HMem)) : Prop := ∀ (a0 : Nat) (h_a0 : HIsG a0) (v1 : Int32) (v2 : Int32) (v3 : Int32) (μ : HMem), HX cx (HQ cx h_eI) (F_ a0 v1 v2 v3 μ) 0 0 4 [(0, .ref a0), (1, .int v1), (2, .int v2), (3, .int v3)] [] μ
def p_Graph_loops_4 (cx : HCx) (F_ : Nat → Int32 → Int32 → HMem → Option (Int32 × HMem)) : Prop := ∀ (a0 : Nat) (h_a0 : HIsG a0) (v1 : Int32) (v2 : Int32) (μ : HMem), HX cx (HQ cx h_eI) (F_ a0 v1 v2 μ) 0 0 4 [(0, .ref a0), (1, .int v1), (2, .int v2)] [] μ
def p_Bench_greatestDivisor_45 (cx : HCx) (F_ : Int64 → HMem → Option (Int64 × HMem)) : Prop := ∀ (v4 : Int64) (μ : HMem), HX cx (HQ cx h_eJ) (F_ v4 μ) 0 0 45 [(4, .long v4)] [] μ
def p_Bench_greatestDivisor_9 (cx : HCx) (F_ : Int64 → Int64 → Int32 → HMem → Option (Int64 × HMem)) : Prop := ∀ (v4 : Int64) (v6 : Int64) (v8 : Int32) (μ : HMem), HX cx (HQ cx h_eJ) (F_ v4 v6 v8 μ) 0 0 9 [(4, .long v4), (6, .long v6), (8, .int v8)] [] μ
def p_Graph_joinFamily_12 (cx : HCx) (F_ : Nat → Int32 → Int32 → Int32 → HMem → Option (Unit × HMem)) : Prop := ∀ (a0 : Nat) (h_a0 : HIsG a0) (v1 : Int32) (v2 : Int32) (v3 : Int32) (μ : HMem), HX cx (HQ cx h_eV) (F_ a0 v1 v2 v3 μ) 0 0 12 [(0, .ref a0), (1, .int v1), (2, .int v2), (3, .int v3)] [] μ
def p_Graph_joinFamily_43 (cx : HCx) (F_ : Nat → Int32 → Int32 → HMem → Option (Unit × HMem)) : Prop := ∀ (a0 : Nat) (h_a0 : HIsG a0) (v1 : Int32) (v2 : Int32) (μ : HMem), HX cx (HQ cx h_eV) (F_ a0 v1 v2 μ) 0 0 43 [(0, .ref a0), (1, .int v1), (2, .int v2)] [] μ
def p_Graph_joinFamily_2 (cx : HCx) (F_ : Nat → Int32 → Int32 → HMem → Option (Unit × HMem)) : Prop := ∀ (a0 : Nat) (h_a0 : HIsG a0) (v1 : Int32) (v2 : Int32) (μ : HMem), HX cx (HQ cx h_eV) (F_ a0 v1 v2 μ) 0 0 2 [(0, .ref a0), (1, .int v1), (2, .int v2)] [] μ
def p_Graph_joinRandomly_18 (cx : HCx) (F_ : Nat → Int32 → Int64 → Int32 → Int32 → HMem → Option (Unit × HMem)) : Prop := ∀ (a0 : Nat) (h_a0 : HIsG a0) (v2 : Int32) (v3 : Int64) (v5 : Int32) (v6 : Int32) (μ : HMem), HX cx (HQ cx h_eV) (F_ a0 v2 v3 v5 v6 μ) 0 0 18 [(0, .ref a0), (2, .int v2), (3, .long v3), (5, .int v5), (6, .int v6)] [] μ
def p_Graph_joinRandomly_69 (cx : HCx) (F_ : Nat → Int32 → Int64 → Int32 → HMem → Option (Unit × HMem)) : Prop := ∀ (a0 : Nat) (h_a0 : HIsG a0) (v2 : Int32) (v3 : Int64) (v5 : Int32) (μ : HMem), HX cx (HQ cx h_eV) (F_ a0 v2 v3 v5 μ) 0 0 69 [(0, .ref a0), (2, .int v2), (3, .long v3), (5, .int v5)] [] μ
def p_Graph_joinRandomly_6 (cx : HCx) (F_ : Nat → Int32 → Int64 → Int32 → HMem → Option (Unit × HMem)) : Prop := ∀ (a0 : Nat) (h_a0 : HIsG a0) (v2 : Int32) (v3 : Int64) (v5 : Int32) (μ : HMem), HX cx (HQ cx h_eV) (F_ a0 v2 v3 v5 μ) 0 0 6 [(0, .ref a0), (2, .int v2), (3, .long v3), (5, .int v5)] [] μ
def p_Graph_joinPlaced_7 (cx : HCx) (F_ : Nat → Nat → Int32 → Int32 → Int32 → Int32 → Int32 → HMem → Option (Unit × HMem)) : Prop := ∀ (a0 : Nat) (h_a0 : HIsG a0) (a1 : Nat) (h_a1 : HIsG a1) (v2 : Int32) (v3 : Int32) (v4 : Int32) (v5 : Int32) (v6 : Int32) (μ : HMem), HX cx (HQ cx h_eV) (F_ a0 a1 v2 v3 v4 v5 v6 μ) 0 0 7 [(0, .ref a0), (1, .ref a1), (2, .int v2), (3, .int v3), (4, .int v4), (5, .int v5), (6, .int v6)] [] μ
def p_Graph_place_6 (cx : HCx) (F_ : Nat → Nat → Int32 → Int32 → Int32 → HMem → Option (Unit × HMem)) : Prop := ∀ (a0 : Nat) (h_a0 : HIsG a0) (a1 : Nat) (h_a1 : HIsG a1) (v2 : Int32) (v4 : Int32) (v5 : Int32) (μ : HMem), HX cx (HQ cx h_eV) (F_ a0 a1 v2 v4 v5 μ) 0 0 6 [(0, .ref a0), (1, .ref a1), (2, .int v2), (4, .int v4), (5, .int v5)] [] μ
def p_Graph_complement_32 (cx : HCx) (F_ : Nat → Nat → Int32 → Int32 → HMem → Option (Unit × HMem)) : Prop := ∀ (a0 : Nat) (h_a0 : HIsG a0) (a1 : Nat) (h_a1 : HIsG a1) (v2 : Int32) (v3 : Int32) (μ : HMem), HX cx (HQ cx h_eV) (F_ a0 a1 v2 v3 μ) 0 0 32 [(0, .ref a0), (1, .ref a1), (2, .int v2), (3, .int v3)] [] μ
def p_Graph_complement_63 (cx : HCx) (F_ : Nat → Nat → Int32 → HMem → Option (Unit × HMem)) : Prop := ∀ (a0 : Nat) (h_a0 : HIsG a0) (a1 : Nat) (h_a1 : HIsG a1) (v2 : Int32) (μ : HMem), HX cx (HQ cx h_eV) (F_ a0 a1 v2 μ) 0 0 63 [(0, .ref a0), (1, .ref a1), (2, .int v2)] [] μ
def p_Graph_complement_10 (cx : HCx) (F_ : Nat → Nat → Int32 → HMem → Option (Unit × HMem)) : Prop := ∀ (a0 : Nat) (h_a0 : HIsG a0) (a1 : Nat) (h_a1 : HIsG a1) (v2 : Int32) (μ : HMem), HX cx (HQ cx h_eV) (F_ a0 a1 v2 μ) 0 0 10 [(0, .ref a0), (1, .ref a1), (2, .int v2)] [] μ
def p_Graph_joinPair_81 (cx : HCx) (F_ : Nat → Nat → Nat → Int32 → Int32 → Int32 → Int32 → HMem → Option (Unit × HMem)) : Prop := ∀ (a0 : Nat) (h_a0 : HIsG a0) (a1 : Nat) (h_a1 : HIsG a1) (a2 : Nat) (h_a2 : HIsG a2) (v3 : Int32) (v4 : Int32) (v5 : Int32) (v6 : Int32) (μ : HMem), HX cx (HQ cx h_eV) (F_ a0 a1 a2 v3 v4 v5 v6 μ) 0 0 81 [(0, .ref a0), (1, .ref a1), (2, .ref a2), (3, .int v3), (4, .int v4), (5, .int v5), (6, .int v6)] [] μ
def p_Graph_joinPair_15 (cx : HCx) (F_ : Nat → Nat → Nat → Int32 → Int32 → Int32 → Int32 → Int32 → HMem → Option (Unit × HMem)) : Prop := ∀ (a0 : Nat) (h_a0 : HIsG a0) (a1 : Nat) (h_a1 : HIsG a1) (a2 : Nat) (h_a2 : HIsG a2) (v3 : Int32) (v4 : Int32) (v5 : Int32) (v6 : Int32) (v7 : Int32) (μ : HMem), HX cx (HQ cx h_eV) (F_ a0 a1 a2 v3 v4 v5 v6 v7 μ) 0 0 15 [(0, .ref a0), (1, .ref a1), (2, .ref a2), (3, .int v3), (4, .int v4), (5, .int v5), (6, .int v6), (7, .int v7)] [] μ
def p_Graph_joinPair_3 (cx : HCx) (F_ : Nat → Nat → Nat → Int32 → Int32 → Int32 → Int32 → HMem → Option (Unit × HMem)) : Prop := ∀ (a0 : Nat) (h_a0 : HIsG a0) (a1 : Nat) (h_a1 : HIsG a1) (a2 : Nat) (h_a2 : HIsG a2) (v3 : Int32) (v4 : Int32) (v5 : Int32) (v6 : Int32) (μ : HMem), HX cx (HQ cx h_eV) (F_ a0 a1 a2 v3 v4 v5 v6 μ) 0 0 3 [(0, .ref a0), (1, .ref a1), (2, .ref a2), (3, .int v3), (4, .int v4), (5, .int v5), (6, .int v6)] [] μ
def p_Graph_multiply_75 (cx : HCx) (F_ : Nat → Nat → Nat → Int32 → Int32 → HMem → Option (Unit × HMem)) : Prop := ∀ (a0 : Nat) (h_a0 : HIsG a0) (a1 : Nat) (h_a1 : HIsG a1) (a2 : Nat) (h_a2 : HIsG a2) (v3 : Int32) (v4 : Int32) (μ : HMem), HX cx (HQ cx h_eV) (F_ a0 a1 a2 v3 v4 μ) 0 0 75 [(0, .ref a0), (1, .ref a1), (2, .ref a2), (3, .int v3), (4, .int v4)] [] μ
def p_Graph_multiply_15 (cx : HCx) (F_ : Nat → Nat → Nat → Int32 → Int32 → Int32 → HMem → Option (Unit × HMem)) : Prop := ∀ (a0 : Nat) (h_a0 : HIsG a0) (a1 : Nat) (h_a1 : HIsG a1) (a2 : Nat) (h_a2 : HIsG a2) (v3 : Int32) (v4 : Int32) (v5 : Int32) (μ : HMem), HX cx (HQ cx h_eV) (F_ a0 a1 a2 v3 v4 v5 μ) 0 0 15 [(0, .ref a0), (1, .ref a1), (2, .ref a2), (3, .int v3), (4, .int v4), (5, .int v5)] [] μ
def p_Graph_multiply_3 (cx : HCx) (F_ : Nat → Nat → Nat → Int32 → Int32 → HMem → Option (Unit × HMem)) : Prop := ∀ (a0 : Nat) (h_a0 : HIsG a0) (a1 : Nat) (h_a1 : HIsG a1) (a2 : Nat) (h_a2 : HIsG a2) (v3 : Int32) (v4 : Int32) (μ : HMem), HX cx (HQ cx h_eV) (F_ a0 a1 a2 v3 v4 μ) 0 0 3 [(0, .ref a0), (1, .ref a1), (2, .ref a2), (3, .int v3), (4, .int v4)] [] μ
def p_Graph_edgeCount_4 (cx : HCx) (F_ : Nat → Int32 → Int32 → HMem → Option (Int32 × HMem)) : Prop := ∀ (a0 : Nat) (h_a0 : HIsG a0) (v1 : Int32) (v2 : Int32) (μ : HMem), HX cx (HQ cx h_eI) (F_ a0 v1 v2 μ) 0 0 4 [(0, .ref a0), (1, .int v1), (2, .int v2)] [] μ
def p_Graph_partCount_9 (cx : HCx) (F_ : Nat → Int32 → Int32 → Int32 → HMem → Option (Int32 × HMem)) : Prop := ∀ (a0 : Nat) (h_a0 : HIsG a0) (v1 : Int32) (v2 : Int32) (v3 : Int32) (μ : HMem), HX cx (HQ cx h_eI) (F_ a0 v1 v2 v3 μ) 0 0 9 [(0, .ref a0), (1, .int v1), (2, .int v2), (3, .int v3)] [] μ
def p_Graph_foldTargets_33 (cx : HCx) (F_ : Nat → Int32 → Int32 → Int32 → Int32 → Int32 → Int32 → HMem → Option (Int32 × HMem)) : Prop := ∀ (a0 : Nat) (h_a0 : HIsG a0) (v1 : Int32) (v2 : Int32) (v3 : Int32) (v4 : Int32) (v5 : Int32) (v6 : Int32) (μ : HMem), HX cx (HQ cx h_eI) (F_ a0 v1 v2 v3 v4 v5 v6 μ) 0 0 33 [(0, .ref a0), (1, .int v1), (2, .int v2), (3, .int v3), (4, .int v4), (5, .int v5), (6, .int v6)] [] μ
def p_Graph_lowestFoldable_2 (cx : HCx) (F_ : Nat → Int32 → Int32 → HMem → Option (Int32 × HMem)) : Prop := ∀ (a0 : Nat) (h_a0 : HIsG a0) (v1 : Int32) (v2 : Int32) (μ : HMem), HX cx (HQ cx h_eI) (F_ a0 v1 v2 μ) 0 0 2 [(0, .ref a0), (1, .int v1), (2, .int v2)] [] μ
def p_Graph_stiffPart_26 (cx : HCx) (F_ : Int32 → HMem → Option (Int32 × HMem)) : Prop := ∀ (v1 : Int32) (μ : HMem), HX cx (HQ cx h_eI) (F_ v1 μ) 0 0 26 [(1, .int v1)] [] μ
def p_Graph_stiffPart_43 (cx : HCx) (F_ : Int32 → HMem → Option (Int32 × HMem)) : Prop := ∀ (v1 : Int32) (μ : HMem), HX cx (HQ cx h_eI) (F_ v1 μ) 0 0 43 [(1, .int v1)] [] μ
def p_Graph_stiffPart_7 (cx : HCx) (F_ : Nat → Int32 → Int32 → HMem → Option (Int32 × HMem)) : Prop := ∀ (a0 : Nat) (h_a0 : HIsG a0) (v1 : Int32) (v2 : Int32) (μ : HMem), HX cx (HQ cx h_eI) (F_ a0 v1 v2 μ) 0 0 7 [(0, .ref a0), (1, .int v1), (2, .int v2)] [] μ
theorem t_Graph_between_0 {cx : HCx} (hg : HGood cx R_Graph b_Graph_between 3 1 (some .int)) (hA : h_own cx) (g : Nat) (h_g : HIsG g) (v1 : Int32) (v2 : Int32) (μ : HMem) : HX cx (HQ cx h_eI) (f_Graph_between g v1 v2 μ) 0 0 0 [(0, .ref g), (1, .int v1), (2, .int v2)] [] μ := by
  unfold f_Graph_between
  refine r_aload_n hg 0 d_Graph_between_0 rfl rfl ?_
  refine r_get (v := .ref (g + 2)) hg c_Graph (h_G_lt h_g) (h_G_kd h_g) (Nat.le_of_ble_eq_true rfl) (h_G_fl2 h_g) wf_Graph_15 d_Graph_between_1 rfl ?_
  refine r_bipush (v := 8) hg d_Graph_between_4 (by decide) ?_
  refine r_iload_n hg 1 d_Graph_between_6 rfl rfl ?_
  refine r_imul hg d_Graph_between_7 ?_
  refine r_iload_n hg 2 d_Graph_between_8 rfl rfl ?_
  refine r_iadd hg d_Graph_between_9 ?_
  refine r_iald hg (h_G_lt2 h_g) (h_G_kd2 h_g) d_Graph_between_10 ?_
  exact r_iret hg hA rfl d_Graph_between_11 rfl
theorem t_Graph_between (g : Nat) (h_g : HIsG g) (v1 : Int32) (v2 : Int32) (μ : HMem) : HSpec y_Graph_between b_Graph_between 3 (some .int) 1 h_eI [.ref g, .int v1, .int v2] μ (f_Graph_between g v1 v2 μ) :=
  HSpec.of (by decide +kernel) (v_Graph_between.1 _ (by simp)) (Nat.le_of_ble_eq_true rfl) (fun cx hA hg => t_Graph_between_0 hg hA g h_g v1 v2 μ)
theorem t_Graph_all_0 {cx : HCx} (hg : HGood cx R_Graph b_Graph_all 1 1 (some .int)) (hA : h_own cx) (g : Nat) (h_g : HIsG g) (μ : HMem) : HX cx (HQ cx h_eI) (f_Graph_all g μ) 0 0 0 [(0, .ref g)] [] μ := by
  unfold f_Graph_all
  refine r_iconst (v := 1) hg d_Graph_all_0 (by decide) ?_
  refine r_aload_n hg 0 d_Graph_all_1 rfl rfl ?_
  refine r_get (v := .int (μ.1 g 0)) hg c_Graph (h_G_lt h_g) (h_G_kd h_g) (Nat.le_of_ble_eq_true rfl) (h_G_fl0 h_g) wf_Graph_21 d_Graph_all_2 rfl ?_
  refine r_ishl hg d_Graph_all_5 ?_
  refine r_iconst (v := 1) hg d_Graph_all_6 (by decide) ?_
  refine r_isub hg d_Graph_all_7 ?_
  exact r_iret hg hA rfl d_Graph_all_8 rfl
theorem t_Graph_all (g : Nat) (h_g : HIsG g) (μ : HMem) : HSpec y_Graph_all b_Graph_all 1 (some .int) 1 h_eI [.ref g] μ (f_Graph_all g μ) :=
  HSpec.of (by decide +kernel) (v_Graph_all.1 _ (by simp)) (Nat.le_of_ble_eq_true rfl) (fun cx hA hg => t_Graph_all_0 hg hA g h_g μ)
theorem t_Bench_has_J13 {cx : HCx} (hg : HGood cx R_Bench b_Bench_has 2 1 (some .boolean)) (hA : h_own cx)   (s0 : Int32) (μ : HMem) : HX cx (HQ cx h_eI) (f_Bench_has_J13   s0 μ) 0 0 13 [] [.int s0] μ := by
  unfold f_Bench_has_J13
  exact r_zretB hg hA rfl d_Bench_has_13 rfl
theorem t_Bench_has_0 {cx : HCx} (hg : HGood cx R_Bench b_Bench_has 2 1 (some .boolean)) (hA : h_own cx) (v0 : Int32) (v1 : Int32) (μ : HMem) : HX cx (HQ cx h_eI) (f_Bench_has v0 v1 μ) 0 0 0 [(0, .int v0), (1, .int v1)] [] μ := by
  unfold f_Bench_has
  refine r_iload_n hg 0 d_Bench_has_0 rfl rfl ?_
  refine r_iload_n hg 1 d_Bench_has_1 rfl rfl ?_
  refine r_ishr hg d_Bench_has_2 ?_
  refine r_iconst (v := 1) hg d_Bench_has_3 (by decide) ?_
  refine r_iand hg d_Bench_has_4 ?_
  refine r_if_eq (tgt := 12) hg d_Bench_has_5 (by decide) ?_ ?_
  · refine r_iconst (v := 0) hg d_Bench_has_12 (by decide) ?_
    refine r_sub [] rfl ?_
    exact t_Bench_has_J13 hg hA 0 μ
  · refine r_iconst (v := 1) hg d_Bench_has_8 (by decide) ?_
    refine r_goto (tgt := 13) hg d_Bench_has_9 (by decide) ?_
    refine r_sub [] rfl ?_
    exact t_Bench_has_J13 hg hA 1 μ
theorem t_Bench_has (v0 : Int32) (v1 : Int32) (μ : HMem) : HSpec y_Bench_has b_Bench_has 2 (some .boolean) 1 h_eI [.int v0, .int v1] μ (f_Bench_has v0 v1 μ) :=
  HSpec.of (by decide +kernel) (v_Bench_has.1 _ (by simp)) (Nat.le_of_ble_eq_true rfl) (fun cx hA hg => t_Bench_has_0 hg hA v0 v1 μ)
theorem t_Graph_reached_J63 {cx : HCx} (hg : HGood cx R_Graph b_Graph_reached 7 2 (some .int)) (hA : h_own cx)  (rec_ : Nat → Int32 → Int32 → Int32 → Int32 → Int32 → HMem → Option (Int32 × HMem)) (hrec_ : p_Graph_reached_31 cx rec_) (a0 : Nat) (h_a0 : HIsG a0) (v2 : Int32) (v4 : Int32) (v5 : Int32) (v6 : Int32) (s0 : Int32) (s1 : Int32) (μ : HMem) : HX cx (HQ cx h_eI) (f_Graph_reached_J63  rec_ a0 v2 v4 v5 v6 s0 s1 μ) 0 0 63 [(0, .ref a0), (2, .int v2), (4, .int v4), (5, .int v5), (6, .int v6)] [.int s0, .int s1] μ := by
  unfold f_Graph_reached_J63
  refine r_ior hg d_Graph_reached_63 ?_
  refine r_letI (fun v3_64 => ?_)
  refine r_istore_n (l' := [(3, .int v3_64), (0, .ref a0), (2, .int v2), (4, .int v4), (5, .int v5), (6, .int v6)]) hg d_Graph_reached_64 rfl (Nat.le_of_ble_eq_true rfl) rfl ?_
  refine r_letE (fun v6_65 he_65 => ?_)
  refine r_iinc (v := v6_65) (l' := [(6, .int v6_65), (3, .int v3_64), (0, .ref a0), (2, .int v2), (4, .int v4), (5, .int v5)]) hg 5 d_Graph_reached_65 rfl he_65 (Nat.le_of_ble_eq_true rfl) rfl ?_
  refine r_goto (tgt := 31) hg d_Graph_reached_68 (by decide) ?_
  refine r_sub [2, 3, 1, 4, 5, 0] rfl ?_
  exact hrec_ a0 h_a0 v2 v3_64 v4 v5 v6_65 μ
theorem t_Graph_reached_L31_b {cx : HCx} (hg : HGood cx R_Graph b_Graph_reached 7 2 (some .int)) (hA : h_own cx) (K71 : Nat → Int32 → Int32 → Int32 → Int32 → HMem → Option (Int32 × HMem)) (hK71 : p_Graph_reached_71 cx K71) (rec_ : Nat → Int32 → Int32 → Int32 → Int32 → Int32 → HMem → Option (Int32 × HMem)) (hrec_ : p_Graph_reached_31 cx rec_) (a0 : Nat) (h_a0 : HIsG a0) (v2 : Int32) (v3 : Int32) (v4 : Int32) (v5 : Int32) (v6 : Int32) (μ : HMem) : HX cx (HQ cx h_eI) (f_Graph_reached_L31_b K71 rec_ a0 v2 v3 v4 v5 v6 μ) 0 0 31 [(0, .ref a0), (2, .int v2), (3, .int v3), (4, .int v4), (5, .int v5), (6, .int v6)] [] μ := by
  unfold f_Graph_reached_L31_b
  refine r_iload hg 5 d_Graph_reached_31 rfl ?_
  refine r_aload_n hg 0 d_Graph_reached_33 rfl rfl ?_
  refine r_get (v := .int (μ.1 a0 0)) hg c_Graph (h_G_lt h_a0) (h_G_kd h_a0) (Nat.le_of_ble_eq_true rfl) (h_G_fl0 h_a0) wf_Graph_21 d_Graph_reached_34 rfl ?_
  refine r_icmp_ge (tgt := 71) hg d_Graph_reached_37 (by decide) ?_ ?_
  · refine r_sub [0, 1, 2, 3, 4] rfl ?_
    exact hK71 a0 h_a0 v2 v3 v4 v5 μ
  · refine r_iload_n hg 2 d_Graph_reached_40 rfl rfl ?_
    refine r_iload_n hg 2 d_Graph_reached_41 rfl rfl ?_
    refine r_iload hg 5 d_Graph_reached_42 rfl ?_
    refine r_callN (As := [.int v3, .int v6]) (host := "HomBench") hg (t_Bench_has v3 v6 μ) v_Bench_has (by decide) d_Graph_reached_44 rfl ⟨by decide, by decide⟩ (Nat.le_of_ble_eq_true rfl) rfl (fun r44 μ_44 _ => ?_)
    refine r_if_eq (tgt := 62) hg d_Graph_reached_47 (by decide) ?_ ?_
    · refine r_iconst (v := 0) hg d_Graph_reached_62 (by decide) ?_
      refine r_sub [0, 1, 3, 4, 5] rfl ?_
      exact t_Graph_reached_J63 hg hA rec_ hrec_ a0 h_a0 v2 v4 v5 v6 0 v3 μ_44
    · refine r_aload_n hg 0 d_Graph_reached_50 rfl rfl ?_
      refine r_get (v := .ref (a0 + 3)) hg c_Graph (h_G_lt h_a0) (h_G_kd h_a0) (Nat.le_of_ble_eq_true rfl) (h_G_fl3 h_a0) wf_Graph_18 d_Graph_reached_51 rfl ?_
      refine r_iload hg 5 d_Graph_reached_54 rfl ?_
      refine r_iald hg (h_G_lt3 h_a0) (h_G_kd3 h_a0) d_Graph_reached_56 ?_
      refine r_iload_n hg 1 d_Graph_reached_57 rfl rfl ?_
      refine r_iand hg d_Graph_reached_58 ?_
      refine r_goto (tgt := 63) hg d_Graph_reached_59 (by decide) ?_
      refine r_sub [0, 1, 3, 4, 5] rfl ?_
      exact t_Graph_reached_J63 hg hA rec_ hrec_ a0 h_a0 v2 v4 v5 v6 ((μ_44.1 (a0 + 3) (Int32.toNatClampNeg (v6))) &&& v2) v3 μ_44
theorem t_Graph_reached_L31 {cx : HCx} (hg : HGood cx R_Graph b_Graph_reached 7 2 (some .int)) (hA : h_own cx) (K71 : Nat → Int32 → Int32 → Int32 → Int32 → HMem → Option (Int32 × HMem)) (hK71 : p_Graph_reached_71 cx K71) : ∀ (fuel : Nat) (a0 : Nat) (h_a0 : HIsG a0) (v2 : Int32) (v3 : Int32) (v4 : Int32) (v5 : Int32) (v6 : Int32) (μ : HMem), HX cx (HQ cx h_eI) (f_Graph_reached_L31 K71 fuel a0 v2 v3 v4 v5 v6 μ) 0 0 31 [(0, .ref a0), (2, .int v2), (3, .int v3), (4, .int v4), (5, .int v5), (6, .int v6)] [] μ
  | 0, _, _, _, _, _, _, _, _ => by unfold f_Graph_reached_L31; exact HX.none
  | fuel + 1, a0, h_a0, v2, v3, v4, v5, v6, μ => by
    rw [f_Graph_reached_L31]
    exact t_Graph_reached_L31_b hg hA  K71 hK71 (f_Graph_reached_L31 K71 fuel) (t_Graph_reached_L31 hg hA  K71 hK71 fuel) a0 h_a0 v2 v3 v4 v5 v6 μ
theorem t_Graph_reached_J71 {cx : HCx} (hg : HGood cx R_Graph b_Graph_reached 7 2 (some .int)) (hA : h_own cx)  (rec_ : Nat → Int32 → Int32 → Int32 → Int32 → HMem → Option (Int32 × HMem)) (hrec_ : p_Graph_reached_10 cx rec_) (a0 : Nat) (h_a0 : HIsG a0) (v2 : Int32) (v3 : Int32) (v4 : Int32) (v5 : Int32) (μ : HMem) : HX cx (HQ cx h_eI) (f_Graph_reached_J71  rec_ a0 v2 v3 v4 v5 μ) 0 0 71 [(0, .ref a0), (2, .int v2), (3, .int v3), (4, .int v4), (5, .int v5)] [] μ := by
  unfold f_Graph_reached_J71
  refine r_letE (fun v5_71 he_71 => ?_)
  refine r_iinc (v := v5_71) (l' := [(5, .int v5_71), (0, .ref a0), (2, .int v2), (3, .int v3), (4, .int v4)]) hg 4 d_Graph_reached_71 rfl he_71 (Nat.le_of_ble_eq_true rfl) rfl ?_
  refine r_goto (tgt := 10) hg d_Graph_reached_74 (by decide) ?_
  refine r_sub [1, 2, 3, 4, 0] rfl ?_
  exact hrec_ a0 h_a0 v2 v3 v4 v5_71 μ
theorem t_Graph_reached_L10_b {cx : HCx} (hg : HGood cx R_Graph b_Graph_reached 7 2 (some .int)) (hA : h_own cx) (K77 : Int32 → HMem → Option (Int32 × HMem)) (hK77 : p_Graph_reached_77 cx K77) (rec_ : Nat → Int32 → Int32 → Int32 → Int32 → HMem → Option (Int32 × HMem)) (hrec_ : p_Graph_reached_10 cx rec_) (a0 : Nat) (h_a0 : HIsG a0) (v2 : Int32) (v3 : Int32) (v4 : Int32) (v5 : Int32) (μ : HMem) : HX cx (HQ cx h_eI) (f_Graph_reached_L10_b K77 rec_ a0 v2 v3 v4 v5 μ) 0 0 10 [(0, .ref a0), (2, .int v2), (3, .int v3), (4, .int v4), (5, .int v5)] [] μ := by
  unfold f_Graph_reached_L10_b
  refine r_iload hg 4 d_Graph_reached_10 rfl ?_
  refine r_aload_n hg 0 d_Graph_reached_12 rfl rfl ?_
  refine r_get (v := .int (μ.1 a0 0)) hg c_Graph (h_G_lt h_a0) (h_G_kd h_a0) (Nat.le_of_ble_eq_true rfl) (h_G_fl0 h_a0) wf_Graph_21 d_Graph_reached_13 rfl ?_
  refine r_icmp_gt (tgt := 77) hg d_Graph_reached_16 (by decide) ?_ ?_
  · refine r_sub [2] rfl ?_
    exact hK77 v3 μ
  · refine r_iload_n hg 2 d_Graph_reached_19 rfl rfl ?_
    refine r_iload hg 3 d_Graph_reached_20 rfl ?_
    refine r_icmp_eq (tgt := 77) hg d_Graph_reached_22 (by decide) ?_ ?_
    · refine r_sub [2] rfl ?_
      exact hK77 v3 μ
    · refine r_iload_n hg 2 d_Graph_reached_25 rfl rfl ?_
      refine r_istore (l' := [(4, .int v3), (0, .ref a0), (2, .int v2), (3, .int v3), (5, .int v5)]) hg d_Graph_reached_26 (Nat.le_of_ble_eq_true rfl) rfl ?_
      refine r_iconst (v := 0) hg d_Graph_reached_28 (by decide) ?_
      refine r_istore (l' := [(6, .int 0), (4, .int v3), (0, .ref a0), (2, .int v2), (3, .int v3), (5, .int v5)]) hg d_Graph_reached_29 (Nat.le_of_ble_eq_true rfl) rfl ?_
      refine r_sub [2, 3, 4, 1, 5, 0] rfl ?_
      exact t_Graph_reached_L31 hg hA (f_Graph_reached_J71 rec_) (t_Graph_reached_J71 hg hA rec_ hrec_) h_fuel a0 h_a0 v2 v3 v3 v5 0 μ
theorem t_Graph_reached_L10 {cx : HCx} (hg : HGood cx R_Graph b_Graph_reached 7 2 (some .int)) (hA : h_own cx) (K77 : Int32 → HMem → Option (Int32 × HMem)) (hK77 : p_Graph_reached_77 cx K77) : ∀ (fuel : Nat) (a0 : Nat) (h_a0 : HIsG a0) (v2 : Int32) (v3 : Int32) (v4 : Int32) (v5 : Int32) (μ : HMem), HX cx (HQ cx h_eI) (f_Graph_reached_L10 K77 fuel a0 v2 v3 v4 v5 μ) 0 0 10 [(0, .ref a0), (2, .int v2), (3, .int v3), (4, .int v4), (5, .int v5)] [] μ
  | 0, _, _, _, _, _, _, _ => by unfold f_Graph_reached_L10; exact HX.none
  | fuel + 1, a0, h_a0, v2, v3, v4, v5, μ => by
    rw [f_Graph_reached_L10]
    exact t_Graph_reached_L10_b hg hA  K77 hK77 (f_Graph_reached_L10 K77 fuel) (t_Graph_reached_L10 hg hA  K77 hK77 fuel) a0 h_a0 v2 v3 v4 v5 μ
theorem t_Graph_reached_J77 {cx : HCx} (hg : HGood cx R_Graph b_Graph_reached 7 2 (some .int)) (hA : h_own cx)   (v3 : Int32) (μ : HMem) : HX cx (HQ cx h_eI) (f_Graph_reached_J77   v3 μ) 0 0 77 [(3, .int v3)] [] μ := by
  unfold f_Graph_reached_J77
  refine r_iload_n hg 0 d_Graph_reached_77 rfl rfl ?_
  exact r_iret hg hA rfl d_Graph_reached_78 rfl
theorem t_Graph_reached_0 {cx : HCx} (hg : HGood cx R_Graph b_Graph_reached 7 2 (some .int)) (hA : h_own cx) (g : Nat) (h_g : HIsG g) (v1 : Int32) (v2 : Int32) (μ : HMem) : HX cx (HQ cx h_eI) (f_Graph_reached g v1 v2 μ) 0 0 0 [(0, .ref g), (1, .int v1), (2, .int v2)] [] μ := by
  unfold f_Graph_reached
  refine r_iconst (v := 1) hg d_Graph_reached_0 (by decide) ?_
  refine r_iload_n hg 1 d_Graph_reached_1 rfl rfl ?_
  refine r_ishl hg d_Graph_reached_2 ?_
  refine r_letI (fun v3_3 => ?_)
  refine r_istore_n (l' := [(3, .int v3_3), (0, .ref g), (1, .int v1), (2, .int v2)]) hg d_Graph_reached_3 rfl (Nat.le_of_ble_eq_true rfl) rfl ?_
  refine r_iconst (v := 0) hg d_Graph_reached_4 (by decide) ?_
  refine r_istore (l' := [(4, .int 0), (3, .int v3_3), (0, .ref g), (1, .int v1), (2, .int v2)]) hg d_Graph_reached_5 (Nat.le_of_ble_eq_true rfl) rfl ?_
  refine r_iconst (v := 0) hg d_Graph_reached_7 (by decide) ?_
  refine r_istore (l' := [(5, .int 0), (4, .int 0), (3, .int v3_3), (0, .ref g), (1, .int v1), (2, .int v2)]) hg d_Graph_reached_8 (Nat.le_of_ble_eq_true rfl) rfl ?_
  refine r_sub [3, 5, 2, 1, 0] rfl ?_
  exact t_Graph_reached_L10 hg hA f_Graph_reached_J77 (t_Graph_reached_J77 hg hA) h_fuel g h_g v2 v3_3 0 0 μ
theorem t_Graph_reached (g : Nat) (h_g : HIsG g) (v1 : Int32) (v2 : Int32) (μ : HMem) : HSpec y_Graph_reached b_Graph_reached 7 (some .int) 2 h_eI [.ref g, .int v1, .int v2] μ (f_Graph_reached g v1 v2 μ) :=
  HSpec.of (by decide +kernel) (v_Graph_reached.1 _ (by simp)) (Nat.le_of_ble_eq_true rfl) (fun cx hA hg => t_Graph_reached_0 hg hA g h_g v1 v2 μ)
theorem t_Graph_nearOf_J29 {cx : HCx} (hg : HGood cx R_Graph b_Graph_nearOf 4 2 (some .int)) (hA : h_own cx)  (rec_ : Nat → Int32 → Int32 → Int32 → HMem → Option (Int32 × HMem)) (hrec_ : p_Graph_nearOf_4 cx rec_) (a0 : Nat) (h_a0 : HIsG a0) (v1 : Int32) (v2 : Int32) (v3 : Int32) (μ : HMem) : HX cx (HQ cx h_eI) (f_Graph_nearOf_J29  rec_ a0 v1 v2 v3 μ) 0 0 29 [(0, .ref a0), (1, .int v1), (2, .int v2), (3, .int v3)] [] μ := by
  unfold f_Graph_nearOf_J29
  refine r_letE (fun v3_29 he_29 => ?_)
  refine r_iinc (v := v3_29) (l' := [(3, .int v3_29), (0, .ref a0), (1, .int v1), (2, .int v2)]) hg 3 d_Graph_nearOf_29 rfl he_29 (Nat.le_of_ble_eq_true rfl) rfl ?_
  refine r_goto (tgt := 4) hg d_Graph_nearOf_32 (by decide) ?_
  refine r_sub [1, 2, 3, 0] rfl ?_
  exact hrec_ a0 h_a0 v1 v2 v3_29 μ
theorem t_Graph_nearOf_L4_b {cx : HCx} (hg : HGood cx R_Graph b_Graph_nearOf 4 2 (some .int)) (hA : h_own cx)  (rec_ : Nat → Int32 → Int32 → Int32 → HMem → Option (Int32 × HMem)) (hrec_ : p_Graph_nearOf_4 cx rec_) (a0 : Nat) (h_a0 : HIsG a0) (v1 : Int32) (v2 : Int32) (v3 : Int32) (μ : HMem) : HX cx (HQ cx h_eI) (f_Graph_nearOf_L4_b  rec_ a0 v1 v2 v3 μ) 0 0 4 [(0, .ref a0), (1, .int v1), (2, .int v2), (3, .int v3)] [] μ := by
  unfold f_Graph_nearOf_L4_b
  refine r_iload_n hg 3 d_Graph_nearOf_4 rfl rfl ?_
  refine r_aload_n hg 0 d_Graph_nearOf_5 rfl rfl ?_
  refine r_get (v := .int (μ.1 a0 0)) hg c_Graph (h_G_lt h_a0) (h_G_kd h_a0) (Nat.le_of_ble_eq_true rfl) (h_G_fl0 h_a0) wf_Graph_21 d_Graph_nearOf_6 rfl ?_
  refine r_icmp_ge (tgt := 35) hg d_Graph_nearOf_9 (by decide) ?_ ?_
  · refine r_iload_n hg 2 d_Graph_nearOf_35 rfl rfl ?_
    exact r_iret hg hA rfl d_Graph_nearOf_36 rfl
  · refine r_iload_n hg 1 d_Graph_nearOf_12 rfl rfl ?_
    refine r_iload_n hg 3 d_Graph_nearOf_13 rfl rfl ?_
    refine r_callN (As := [.int v1, .int v3]) (host := "HomBench") hg (t_Bench_has v1 v3 μ) v_Bench_has (by decide) d_Graph_nearOf_14 rfl ⟨by decide, by decide⟩ (Nat.le_of_ble_eq_true rfl) rfl (fun r14 μ_14 _ => ?_)
    refine r_if_eq (tgt := 29) hg d_Graph_nearOf_17 (by decide) ?_ ?_
    · exact t_Graph_nearOf_J29 hg hA rec_ hrec_ a0 h_a0 v1 v2 v3 μ_14
    · refine r_iload_n hg 2 d_Graph_nearOf_20 rfl rfl ?_
      refine r_aload_n hg 0 d_Graph_nearOf_21 rfl rfl ?_
      refine r_get (v := .ref (a0 + 3)) hg c_Graph (h_G_lt h_a0) (h_G_kd h_a0) (Nat.le_of_ble_eq_true rfl) (h_G_fl3 h_a0) wf_Graph_18 d_Graph_nearOf_22 rfl ?_
      refine r_iload_n hg 3 d_Graph_nearOf_25 rfl rfl ?_
      refine r_iald hg (h_G_lt3 h_a0) (h_G_kd3 h_a0) d_Graph_nearOf_26 ?_
      refine r_ior hg d_Graph_nearOf_27 ?_
      refine r_letI (fun v2_28 => ?_)
      refine r_istore_n (l' := [(2, .int v2_28), (0, .ref a0), (1, .int v1), (3, .int v3)]) hg d_Graph_nearOf_28 rfl (Nat.le_of_ble_eq_true rfl) rfl ?_
      refine r_sub [1, 2, 0, 3] rfl ?_
      exact t_Graph_nearOf_J29 hg hA rec_ hrec_ a0 h_a0 v1 v2_28 v3 μ_14
theorem t_Graph_nearOf_L4 {cx : HCx} (hg : HGood cx R_Graph b_Graph_nearOf 4 2 (some .int)) (hA : h_own cx)  : ∀ (fuel : Nat) (a0 : Nat) (h_a0 : HIsG a0) (v1 : Int32) (v2 : Int32) (v3 : Int32) (μ : HMem), HX cx (HQ cx h_eI) (f_Graph_nearOf_L4  fuel a0 v1 v2 v3 μ) 0 0 4 [(0, .ref a0), (1, .int v1), (2, .int v2), (3, .int v3)] [] μ
  | 0, _, _, _, _, _, _ => by unfold f_Graph_nearOf_L4; exact HX.none
  | fuel + 1, a0, h_a0, v1, v2, v3, μ => by
    rw [f_Graph_nearOf_L4]
    exact t_Graph_nearOf_L4_b hg hA   (f_Graph_nearOf_L4  fuel) (t_Graph_nearOf_L4 hg hA   fuel) a0 h_a0 v1 v2 v3 μ
theorem t_Graph_nearOf_0 {cx : HCx} (hg : HGood cx R_Graph b_Graph_nearOf 4 2 (some .int)) (hA : h_own cx) (g : Nat) (h_g : HIsG g) (v1 : Int32) (μ : HMem) : HX cx (HQ cx h_eI) (f_Graph_nearOf g v1 μ) 0 0 0 [(0, .ref g), (1, .int v1)] [] μ := by
  unfold f_Graph_nearOf
  refine r_iconst (v := 0) hg d_Graph_nearOf_0 (by decide) ?_
  refine r_istore_n (l' := [(2, .int 0), (0, .ref g), (1, .int v1)]) hg d_Graph_nearOf_1 rfl (Nat.le_of_ble_eq_true rfl) rfl ?_
  refine r_iconst (v := 0) hg d_Graph_nearOf_2 (by decide) ?_
  refine r_istore_n (l' := [(3, .int 0), (2, .int 0), (0, .ref g), (1, .int v1)]) hg d_Graph_nearOf_3 rfl (Nat.le_of_ble_eq_true rfl) rfl ?_
  refine r_sub [2, 3, 1, 0] rfl ?_
  exact t_Graph_nearOf_L4 hg hA h_fuel g h_g v1 0 0 μ
theorem t_Graph_nearOf (g : Nat) (h_g : HIsG g) (v1 : Int32) (μ : HMem) : HSpec y_Graph_nearOf b_Graph_nearOf 4 (some .int) 2 h_eI [.ref g, .int v1] μ (f_Graph_nearOf g v1 μ) :=
  HSpec.of (by decide +kernel) (v_Graph_nearOf.1 _ (by simp)) (Nat.le_of_ble_eq_true rfl) (fun cx hA hg => t_Graph_nearOf_0 hg hA g h_g v1 μ)
theorem t_Graph_loops_L4_b {cx : HCx} (hg : HGood cx R_Graph b_Graph_loops 3 1 (some .int)) (hA : h_own cx)  (rec_ : Nat → Int32 → Int32 → HMem → Option (Int32 × HMem)) (hrec_ : p_Graph_loops_4 cx rec_) (a0 : Nat) (h_a0 : HIsG a0) (v1 : Int32) (v2 : Int32) (μ : HMem) : HX cx (HQ cx h_eI) (f_Graph_loops_L4_b  rec_ a0 v1 v2 μ) 0 0 4 [(0, .ref a0), (1, .int v1), (2, .int v2)] [] μ := by
  unfold f_Graph_loops_L4_b
  refine r_iload_n hg 2 d_Graph_loops_4 rfl rfl ?_
  refine r_aload_n hg 0 d_Graph_loops_5 rfl rfl ?_
  refine r_get (v := .int (μ.1 a0 0)) hg c_Graph (h_G_lt h_a0) (h_G_kd h_a0) (Nat.le_of_ble_eq_true rfl) (h_G_fl0 h_a0) wf_Graph_21 d_Graph_loops_6 rfl ?_
  refine r_icmp_ge (tgt := 31) hg d_Graph_loops_9 (by decide) ?_ ?_
  · refine r_iload_n hg 1 d_Graph_loops_31 rfl rfl ?_
    exact r_iret hg hA rfl d_Graph_loops_32 rfl
  · refine r_iload_n hg 1 d_Graph_loops_12 rfl rfl ?_
    refine r_aload_n hg 0 d_Graph_loops_13 rfl rfl ?_
    refine r_get (v := .ref (a0 + 3)) hg c_Graph (h_G_lt h_a0) (h_G_kd h_a0) (Nat.le_of_ble_eq_true rfl) (h_G_fl3 h_a0) wf_Graph_18 d_Graph_loops_14 rfl ?_
    refine r_iload_n hg 2 d_Graph_loops_17 rfl rfl ?_
    refine r_iald hg (h_G_lt3 h_a0) (h_G_kd3 h_a0) d_Graph_loops_18 ?_
    refine r_iconst (v := 1) hg d_Graph_loops_19 (by decide) ?_
    refine r_iload_n hg 2 d_Graph_loops_20 rfl rfl ?_
    refine r_ishl hg d_Graph_loops_21 ?_
    refine r_iand hg d_Graph_loops_22 ?_
    refine r_ior hg d_Graph_loops_23 ?_
    refine r_letI (fun v1_24 => ?_)
    refine r_istore_n (l' := [(1, .int v1_24), (0, .ref a0), (2, .int v2)]) hg d_Graph_loops_24 rfl (Nat.le_of_ble_eq_true rfl) rfl ?_
    refine r_letE (fun v2_25 he_25 => ?_)
    refine r_iinc (v := v2_25) (l' := [(2, .int v2_25), (1, .int v1_24), (0, .ref a0)]) hg 2 d_Graph_loops_25 rfl he_25 (Nat.le_of_ble_eq_true rfl) rfl ?_
    refine r_goto (tgt := 4) hg d_Graph_loops_28 (by decide) ?_
    refine r_sub [2, 1, 0] rfl ?_
    exact hrec_ a0 h_a0 v1_24 v2_25 μ
theorem t_Graph_loops_L4 {cx : HCx} (hg : HGood cx R_Graph b_Graph_loops 3 1 (some .int)) (hA : h_own cx)  : ∀ (fuel : Nat) (a0 : Nat) (h_a0 : HIsG a0) (v1 : Int32) (v2 : Int32) (μ : HMem), HX cx (HQ cx h_eI) (f_Graph_loops_L4  fuel a0 v1 v2 μ) 0 0 4 [(0, .ref a0), (1, .int v1), (2, .int v2)] [] μ
  | 0, _, _, _, _, _ => by unfold f_Graph_loops_L4; exact HX.none
  | fuel + 1, a0, h_a0, v1, v2, μ => by
    rw [f_Graph_loops_L4]
    exact t_Graph_loops_L4_b hg hA   (f_Graph_loops_L4  fuel) (t_Graph_loops_L4 hg hA   fuel) a0 h_a0 v1 v2 μ
theorem t_Graph_loops_0 {cx : HCx} (hg : HGood cx R_Graph b_Graph_loops 3 1 (some .int)) (hA : h_own cx) (g : Nat) (h_g : HIsG g) (μ : HMem) : HX cx (HQ cx h_eI) (f_Graph_loops g μ) 0 0 0 [(0, .ref g)] [] μ := by
  unfold f_Graph_loops
  refine r_iconst (v := 0) hg d_Graph_loops_0 (by decide) ?_
  refine r_istore_n (l' := [(1, .int 0), (0, .ref g)]) hg d_Graph_loops_1 rfl (Nat.le_of_ble_eq_true rfl) rfl ?_
  refine r_iconst (v := 0) hg d_Graph_loops_2 (by decide) ?_
  refine r_istore_n (l' := [(2, .int 0), (1, .int 0), (0, .ref g)]) hg d_Graph_loops_3 rfl (Nat.le_of_ble_eq_true rfl) rfl ?_
  refine r_sub [2, 1, 0] rfl ?_
  exact t_Graph_loops_L4 hg hA h_fuel g h_g 0 0 μ
theorem t_Graph_loops (g : Nat) (h_g : HIsG g) (μ : HMem) : HSpec y_Graph_loops b_Graph_loops 3 (some .int) 1 h_eI [.ref g] μ (f_Graph_loops g μ) :=
  HSpec.of (by decide +kernel) (v_Graph_loops.1 _ (by simp)) (Nat.le_of_ble_eq_true rfl) (fun cx hA hg => t_Graph_loops_0 hg hA g h_g μ)
theorem t_Bench_limited_0 {cx : HCx} (hg : HGood cx R_Bench b_Bench_limited 2 1 (some .int)) (hA : h_own cx) (v0 : Int32) (v1 : Int32) (μ : HMem) : HX cx (HQ cx h_eI) (f_Bench_limited v0 v1 μ) 0 0 0 [(0, .int v0), (1, .int v1)] [] μ := by
  unfold f_Bench_limited
  refine r_iload_n hg 1 d_Bench_limited_0 rfl rfl ?_
  refine r_ineg hg d_Bench_limited_1 ?_
  refine r_iload_n hg 1 d_Bench_limited_2 rfl rfl ?_
  refine r_iload_n hg 0 d_Bench_limited_3 rfl rfl ?_
  refine r_mmin hg (h_w4 wm_Bench_314 ws_Math_min wi_Math wk_Math_min) d_Bench_limited_4 (Nat.le_of_ble_eq_true rfl) (Nat.le_of_ble_eq_true rfl) ?_
  refine r_mmax hg (h_w4 wm_Bench_319 ws_Math_max wi_Math wk_Math_max) d_Bench_limited_7 (Nat.le_of_ble_eq_true rfl) (Nat.le_of_ble_eq_true rfl) ?_
  exact r_iret hg hA rfl d_Bench_limited_10 rfl
theorem t_Bench_limited (v0 : Int32) (v1 : Int32) (μ : HMem) : HSpec y_Bench_limited b_Bench_limited 2 (some .int) 1 h_eI [.int v0, .int v1] μ (f_Bench_limited v0 v1 μ) :=
  HSpec.of (by decide +kernel) (v_Bench_limited.1 _ (by simp)) (Nat.le_of_ble_eq_true rfl) (fun cx hA hg => t_Bench_limited_0 hg hA v0 v1 μ)
theorem t_Bench_greatestDivisor_L9_b {cx : HCx} (hg : HGood cx R_Bench b_Bench_greatestDivisor 11 1 (some .long)) (hA : h_own cx) (K45 : Int64 → HMem → Option (Int64 × HMem)) (hK45 : p_Bench_greatestDivisor_45 cx K45) (rec_ : Int64 → Int64 → Int32 → HMem → Option (Int64 × HMem)) (hrec_ : p_Bench_greatestDivisor_9 cx rec_) (v4 : Int64) (v6 : Int64) (v8 : Int32) (μ : HMem) : HX cx (HQ cx h_eJ) (f_Bench_greatestDivisor_L9_b K45 rec_ v4 v6 v8 μ) 0 0 9 [(4, .long v4), (6, .long v6), (8, .int v8)] [] μ := by
  unfold f_Bench_greatestDivisor_L9_b
  refine r_iload hg 2 d_Bench_greatestDivisor_9 rfl ?_
  refine r_sipush (v := 128) hg d_Bench_greatestDivisor_11 (by decide) ?_
  refine r_icmp_ge (tgt := 45) hg d_Bench_greatestDivisor_14 (by decide) ?_ ?_
  · refine r_sub [0] rfl ?_
    exact hK45 v4 μ
  · refine r_lload hg 1 d_Bench_greatestDivisor_17 rfl ?_
    refine r_lconst (v := 0) hg d_Bench_greatestDivisor_19 (by decide) ?_
    refine r_lcmp hg d_Bench_greatestDivisor_20 ?_
    refine r_if_eq (tgt := 45) hg d_Bench_greatestDivisor_21 (by decide) ?_ ?_
    · refine r_sub [0] rfl ?_
      exact hK45 v4 μ
    · refine r_lload hg 0 d_Bench_greatestDivisor_24 rfl ?_
      refine r_lload hg 1 d_Bench_greatestDivisor_26 rfl ?_
      refine r_lrem hg d_Bench_greatestDivisor_28 ?_
      refine r_letJ (fun v9_29 => ?_)
      refine r_lstore (l' := [(9, .long v9_29), (4, .long v4), (6, .long v6), (8, .int v8)]) hg d_Bench_greatestDivisor_29 (Nat.le_of_ble_eq_true rfl) rfl ?_
      refine r_lload hg 2 d_Bench_greatestDivisor_31 rfl ?_
      refine r_lstore (l' := [(4, .long v6), (9, .long v9_29), (6, .long v6), (8, .int v8)]) hg d_Bench_greatestDivisor_33 (Nat.le_of_ble_eq_true rfl) rfl ?_
      refine r_lload hg 1 d_Bench_greatestDivisor_35 rfl ?_
      refine r_lstore (l' := [(6, .long v9_29), (4, .long v6), (9, .long v9_29), (8, .int v8)]) hg d_Bench_greatestDivisor_37 (Nat.le_of_ble_eq_true rfl) rfl ?_
      refine r_letE (fun v8_39 he_39 => ?_)
      refine r_iinc (v := v8_39) (l' := [(8, .int v8_39), (6, .long v9_29), (4, .long v6), (9, .long v9_29)]) hg 3 d_Bench_greatestDivisor_39 rfl he_39 (Nat.le_of_ble_eq_true rfl) rfl ?_
      refine r_goto (tgt := 9) hg d_Bench_greatestDivisor_42 (by decide) ?_
      refine r_sub [2, 1, 0] rfl ?_
      exact hrec_ v6 v9_29 v8_39 μ
theorem t_Bench_greatestDivisor_L9 {cx : HCx} (hg : HGood cx R_Bench b_Bench_greatestDivisor 11 1 (some .long)) (hA : h_own cx) (K45 : Int64 → HMem → Option (Int64 × HMem)) (hK45 : p_Bench_greatestDivisor_45 cx K45) : ∀ (fuel : Nat) (v4 : Int64) (v6 : Int64) (v8 : Int32) (μ : HMem), HX cx (HQ cx h_eJ) (f_Bench_greatestDivisor_L9 K45 fuel v4 v6 v8 μ) 0 0 9 [(4, .long v4), (6, .long v6), (8, .int v8)] [] μ
  | 0, _, _, _, _ => by unfold f_Bench_greatestDivisor_L9; exact HX.none
  | fuel + 1, v4, v6, v8, μ => by
    rw [f_Bench_greatestDivisor_L9]
    exact t_Bench_greatestDivisor_L9_b hg hA  K45 hK45 (f_Bench_greatestDivisor_L9 K45 fuel) (t_Bench_greatestDivisor_L9 hg hA  K45 hK45 fuel) v4 v6 v8 μ
theorem t_Bench_greatestDivisor_J45 {cx : HCx} (hg : HGood cx R_Bench b_Bench_greatestDivisor 11 1 (some .long)) (hA : h_own cx)   (v4 : Int64) (μ : HMem) : HX cx (HQ cx h_eJ) (f_Bench_greatestDivisor_J45   v4 μ) 0 0 45 [(4, .long v4)] [] μ := by
  unfold f_Bench_greatestDivisor_J45
  refine r_lload hg 0 d_Bench_greatestDivisor_45 rfl ?_
  exact r_lret hg hA rfl d_Bench_greatestDivisor_47 rfl
theorem t_Bench_greatestDivisor_0 {cx : HCx} (hg : HGood cx R_Bench b_Bench_greatestDivisor 11 1 (some .long)) (hA : h_own cx) (v0 : Int64) (v2 : Int64) (μ : HMem) : HX cx (HQ cx h_eJ) (f_Bench_greatestDivisor v0 v2 μ) 0 0 0 [(0, .long v0), (2, .long v2)] [] μ := by
  unfold f_Bench_greatestDivisor
  refine r_lload_n hg 0 d_Bench_greatestDivisor_0 rfl rfl ?_
  refine r_lstore (l' := [(4, .long v0), (0, .long v0), (2, .long v2)]) hg d_Bench_greatestDivisor_1 (Nat.le_of_ble_eq_true rfl) rfl ?_
  refine r_lload_n hg 2 d_Bench_greatestDivisor_3 rfl rfl ?_
  refine r_lstore (l' := [(6, .long v2), (4, .long v0), (0, .long v0), (2, .long v2)]) hg d_Bench_greatestDivisor_4 (Nat.le_of_ble_eq_true rfl) rfl ?_
  refine r_iconst (v := 0) hg d_Bench_greatestDivisor_6 (by decide) ?_
  refine r_istore (l' := [(8, .int 0), (6, .long v2), (4, .long v0), (0, .long v0), (2, .long v2)]) hg d_Bench_greatestDivisor_7 (Nat.le_of_ble_eq_true rfl) rfl ?_
  refine r_sub [2, 1, 0] rfl ?_
  exact t_Bench_greatestDivisor_L9 hg hA f_Bench_greatestDivisor_J45 (t_Bench_greatestDivisor_J45 hg hA) h_fuel v0 v2 0 μ
theorem t_Bench_greatestDivisor (v0 : Int64) (v2 : Int64) (μ : HMem) : HSpec y_Bench_greatestDivisor b_Bench_greatestDivisor 11 (some .long) 1 h_eJ [.long v0, .long v2] μ (f_Bench_greatestDivisor v0 v2 μ) :=
  HSpec.of (by decide +kernel) (v_Bench_greatestDivisor.1 _ (by simp)) (Nat.le_of_ble_eq_true rfl) (fun cx hA hg => t_Bench_greatestDivisor_0 hg hA v0 v2 μ)
theorem t_Graph_loopCount_0 {cx : HCx} (hg : HGood cx R_Graph b_Graph_loopCount 1 2 (some .int)) (hA : h_own cx) (g : Nat) (h_g : HIsG g) (μ : HMem) : HX cx (HQ cx h_eI) (f_Graph_loopCount g μ) 0 0 0 [(0, .ref g)] [] μ := by
  unfold f_Graph_loopCount
  refine r_aload_n hg 0 d_Graph_loopCount_0 rfl rfl ?_
  refine r_callV (As := []) hg (t_Graph_loops g h_g μ) v_Graph_loops c_Graph rfl (h_G_lt h_g) (h_G_kd h_g) wm_Graph_92 d_Graph_loopCount_1 rfl ⟨by decide, by decide⟩ (Nat.le_of_ble_eq_true rfl) rfl (fun r1 μ_1 _ => ?_)
  refine r_callS (As := [.int r1]) hg (t_Integer_bitCount r1 μ_1) v_Integer_bitCount wm_Graph_67 d_Graph_loopCount_4 rfl ⟨by decide, by decide⟩ (Nat.le_of_ble_eq_true rfl) rfl (fun r4 μ_4 _ => ?_)
  exact r_iret hg hA rfl d_Graph_loopCount_7 rfl
theorem t_Graph_loopCount (g : Nat) (h_g : HIsG g) (μ : HMem) : HSpec y_Graph_loopCount b_Graph_loopCount 1 (some .int) 2 h_eI [.ref g] μ (f_Graph_loopCount g μ) :=
  HSpec.of (by decide +kernel) (v_Graph_loopCount.1 _ (by simp)) (Nat.le_of_ble_eq_true rfl) (fun cx hA hg => t_Graph_loopCount_0 hg hA g h_g μ)
theorem t_Graph_reset_0 {cx : HCx} (hg : HGood cx R_Graph b_Graph_reset 2 2 none) (hA : h_own cx) (g : Nat) (h_g : HIsG g) (v1 : Int32) (μ : HMem) : HX cx (HQ cx h_eV) (f_Graph_reset g v1 μ) 0 0 0 [(0, .ref g), (1, .int v1)] [] μ := by
  unfold f_Graph_reset
  refine r_aload_n hg 0 d_Graph_reset_0 rfl rfl ?_
  refine r_iload_n hg 1 d_Graph_reset_1 rfl rfl ?_
  refine r_put hg c_Graph t_Graph_ok n_Graph (h_G_lt h_g) (h_G_kd h_g) (Nat.le_of_ble_eq_true rfl) (h_G_fl0 h_g) rfl (by decide +kernel) wf_Graph_21 d_Graph_reset_2 ?_
  refine r_letM (fun μ_2 => ?_)
  refine r_aload_n hg 0 d_Graph_reset_5 rfl rfl ?_
  refine r_get (v := .ref (g + 1)) hg c_Graph (h_G_lt h_g) (h_G_kd h_g) (Nat.le_of_ble_eq_true rfl) (h_G_fl1 h_g) wf_Graph_9 d_Graph_reset_6 rfl ?_
  refine r_iconst (v := 1) hg d_Graph_reset_9 (by decide) ?_
  refine r_callS (As := [.ref (g + 1), .int 1]) hg (t_Arrays_fill1 (g + 1) ⟨(h_G_lt1 h_g), (h_G_kd1 h_g)⟩ 1 μ_2) v_Arrays_fill1 wm_Graph_25 d_Graph_reset_10 rfl ⟨by decide, by decide⟩ (Nat.le_of_ble_eq_true rfl) rfl (fun r10 μ_10 _ => ?_)
  refine r_aload_n hg 0 d_Graph_reset_13 rfl rfl ?_
  refine r_get (v := .ref (g + 2)) hg c_Graph (h_G_lt h_g) (h_G_kd h_g) (Nat.le_of_ble_eq_true rfl) (h_G_fl2 h_g) wf_Graph_15 d_Graph_reset_14 rfl ?_
  refine r_iconst (v := 0) hg d_Graph_reset_17 (by decide) ?_
  refine r_callS (As := [.ref (g + 2), .int 0]) hg (t_Arrays_fill1 (g + 2) ⟨(h_G_lt2 h_g), (h_G_kd2 h_g)⟩ 0 μ_10) v_Arrays_fill1 wm_Graph_25 d_Graph_reset_18 rfl ⟨by decide, by decide⟩ (Nat.le_of_ble_eq_true rfl) rfl (fun r18 μ_18 _ => ?_)
  refine r_aload_n hg 0 d_Graph_reset_21 rfl rfl ?_
  refine r_get (v := .ref (g + 3)) hg c_Graph (h_G_lt h_g) (h_G_kd h_g) (Nat.le_of_ble_eq_true rfl) (h_G_fl3 h_g) wf_Graph_18 d_Graph_reset_22 rfl ?_
  refine r_iconst (v := 0) hg d_Graph_reset_25 (by decide) ?_
  refine r_callS (As := [.ref (g + 3), .int 0]) hg (t_Arrays_fill1 (g + 3) ⟨(h_G_lt3 h_g), (h_G_kd3 h_g)⟩ 0 μ_18) v_Arrays_fill1 wm_Graph_25 d_Graph_reset_26 rfl ⟨by decide, by decide⟩ (Nat.le_of_ble_eq_true rfl) rfl (fun r26 μ_26 _ => ?_)
  exact r_vret hg hA rfl d_Graph_reset_29 rfl
theorem t_Graph_reset (g : Nat) (h_g : HIsG g) (v1 : Int32) (μ : HMem) : HSpec y_Graph_reset b_Graph_reset 2 none 2 h_eV [.ref g, .int v1] μ (f_Graph_reset g v1 μ) :=
  HSpec.of (by decide +kernel) (v_Graph_reset.1 _ (by simp)) (Nat.le_of_ble_eq_true rfl) (fun cx hA hg => t_Graph_reset_0 hg hA g h_g v1 μ)
theorem t_Graph_copyFrom_0 {cx : HCx} (hg : HGood cx R_Graph b_Graph_copyFrom 2 1 none) (hA : h_own cx) (g : Nat) (h_g : HIsG g) (a1 : Nat) (h_a1 : HIsG a1) (μ : HMem) : HX cx (HQ cx h_eV) (f_Graph_copyFrom g a1 μ) 0 0 0 [(0, .ref g), (1, .ref a1)] [] μ := by
  unfold f_Graph_copyFrom
  refine r_aload_n hg 0 d_Graph_copyFrom_0 rfl rfl ?_
  refine r_aload_n hg 1 d_Graph_copyFrom_1 rfl rfl ?_
  refine r_get (v := .int (μ.1 a1 0)) hg c_Graph (h_G_lt h_a1) (h_G_kd h_a1) (Nat.le_of_ble_eq_true rfl) (h_G_fl0 h_a1) wf_Graph_21 d_Graph_copyFrom_2 rfl ?_
  refine r_put hg c_Graph t_Graph_ok n_Graph (h_G_lt h_g) (h_G_kd h_g) (Nat.le_of_ble_eq_true rfl) (h_G_fl0 h_g) rfl (by decide +kernel) wf_Graph_21 d_Graph_copyFrom_5 ?_
  refine r_letM (fun μ_5 => ?_)
  refine r_aload_n hg 1 d_Graph_copyFrom_8 rfl rfl ?_
  refine r_get (v := .ref (a1 + 1)) hg c_Graph (h_G_lt h_a1) (h_G_kd h_a1) (Nat.le_of_ble_eq_true rfl) (h_G_fl1 h_a1) wf_Graph_9 d_Graph_copyFrom_9 rfl ?_
  refine r_iconst (v := 0) hg d_Graph_copyFrom_12 (by decide) ?_
  refine r_aload_n hg 0 d_Graph_copyFrom_13 rfl rfl ?_
  refine r_get (v := .ref (g + 1)) hg c_Graph (h_G_lt h_g) (h_G_kd h_g) (Nat.le_of_ble_eq_true rfl) (h_G_fl1 h_g) wf_Graph_9 d_Graph_copyFrom_14 rfl ?_
  refine r_iconst (v := 0) hg d_Graph_copyFrom_17 (by decide) ?_
  refine r_bipush (v := 8) hg d_Graph_copyFrom_18 (by decide) ?_
  refine r_cpi hg (h_G_lt1 h_a1) (h_G_kd1 h_a1) (h_G_lt1 h_g) (h_G_kd1 h_g) (h_w4 wm_Graph_31 wn_arraycopy ws_arraycopy wi_System) d_Graph_copyFrom_20 (Nat.le_of_ble_eq_true rfl) (Nat.le_of_ble_eq_true rfl) ?_
  refine r_letM (fun μ_20 => ?_)
  refine r_aload_n hg 1 d_Graph_copyFrom_23 rfl rfl ?_
  refine r_get (v := .ref (a1 + 2)) hg c_Graph (h_G_lt h_a1) (h_G_kd h_a1) (Nat.le_of_ble_eq_true rfl) (h_G_fl2 h_a1) wf_Graph_15 d_Graph_copyFrom_24 rfl ?_
  refine r_iconst (v := 0) hg d_Graph_copyFrom_27 (by decide) ?_
  refine r_aload_n hg 0 d_Graph_copyFrom_28 rfl rfl ?_
  refine r_get (v := .ref (g + 2)) hg c_Graph (h_G_lt h_g) (h_G_kd h_g) (Nat.le_of_ble_eq_true rfl) (h_G_fl2 h_g) wf_Graph_15 d_Graph_copyFrom_29 rfl ?_
  refine r_iconst (v := 0) hg d_Graph_copyFrom_32 (by decide) ?_
  refine r_bipush (v := 64) hg d_Graph_copyFrom_33 (by decide) ?_
  refine r_cpi hg (h_G_lt2 h_a1) (h_G_kd2 h_a1) (h_G_lt2 h_g) (h_G_kd2 h_g) (h_w4 wm_Graph_31 wn_arraycopy ws_arraycopy wi_System) d_Graph_copyFrom_35 (Nat.le_of_ble_eq_true rfl) (Nat.le_of_ble_eq_true rfl) ?_
  refine r_letM (fun μ_35 => ?_)
  refine r_aload_n hg 1 d_Graph_copyFrom_38 rfl rfl ?_
  refine r_get (v := .ref (a1 + 3)) hg c_Graph (h_G_lt h_a1) (h_G_kd h_a1) (Nat.le_of_ble_eq_true rfl) (h_G_fl3 h_a1) wf_Graph_18 d_Graph_copyFrom_39 rfl ?_
  refine r_iconst (v := 0) hg d_Graph_copyFrom_42 (by decide) ?_
  refine r_aload_n hg 0 d_Graph_copyFrom_43 rfl rfl ?_
  refine r_get (v := .ref (g + 3)) hg c_Graph (h_G_lt h_g) (h_G_kd h_g) (Nat.le_of_ble_eq_true rfl) (h_G_fl3 h_g) wf_Graph_18 d_Graph_copyFrom_44 rfl ?_
  refine r_iconst (v := 0) hg d_Graph_copyFrom_47 (by decide) ?_
  refine r_bipush (v := 8) hg d_Graph_copyFrom_48 (by decide) ?_
  refine r_cpi hg (h_G_lt3 h_a1) (h_G_kd3 h_a1) (h_G_lt3 h_g) (h_G_kd3 h_g) (h_w4 wm_Graph_31 wn_arraycopy ws_arraycopy wi_System) d_Graph_copyFrom_50 (Nat.le_of_ble_eq_true rfl) (Nat.le_of_ble_eq_true rfl) ?_
  refine r_letM (fun μ_50 => ?_)
  exact r_vret hg hA rfl d_Graph_copyFrom_53 rfl
theorem t_Graph_copyFrom (g : Nat) (h_g : HIsG g) (a1 : Nat) (h_a1 : HIsG a1) (μ : HMem) : HSpec y_Graph_copyFrom b_Graph_copyFrom 2 none 1 h_eV [.ref g, .ref a1] μ (f_Graph_copyFrom g a1 μ) :=
  HSpec.of (by decide +kernel) (v_Graph_copyFrom.1 _ (by simp)) (Nat.le_of_ble_eq_true rfl) (fun cx hA hg => t_Graph_copyFrom_0 hg hA g h_g a1 h_a1 μ)
theorem t_Graph_join_J83 {cx : HCx} (hg : HGood cx R_Graph b_Graph_join 4 1 none) (hA : h_own cx)    (μ : HMem) : HX cx (HQ cx h_eV) (f_Graph_join_J83   μ) 0 0 83 [] [] μ := by
  unfold f_Graph_join_J83
  exact r_vret hg hA rfl d_Graph_join_83 rfl
theorem t_Graph_join_0 {cx : HCx} (hg : HGood cx R_Graph b_Graph_join 4 1 none) (hA : h_own cx) (g : Nat) (h_g : HIsG g) (v1 : Int32) (v2 : Int32) (v3 : Int32) (μ : HMem) : HX cx (HQ cx h_eV) (f_Graph_join g v1 v2 v3 μ) 0 0 0 [(0, .ref g), (1, .int v1), (2, .int v2), (3, .int v3)] [] μ := by
  unfold f_Graph_join
  refine r_aload_n hg 0 d_Graph_join_0 rfl rfl ?_
  refine r_get (v := .ref (g + 2)) hg c_Graph (h_G_lt h_g) (h_G_kd h_g) (Nat.le_of_ble_eq_true rfl) (h_G_fl2 h_g) wf_Graph_15 d_Graph_join_1 rfl ?_
  refine r_bipush (v := 8) hg d_Graph_join_4 (by decide) ?_
  refine r_iload_n hg 1 d_Graph_join_6 rfl rfl ?_
  refine r_imul hg d_Graph_join_7 ?_
  refine r_iload_n hg 2 d_Graph_join_8 rfl rfl ?_
  refine r_iadd hg d_Graph_join_9 ?_
  refine r_iload_n hg 3 d_Graph_join_10 rfl rfl ?_
  refine r_iast hg (h_G_lt2 h_g) (h_G_kd2 h_g) d_Graph_join_11 ?_
  refine r_letM (fun μ_11 => ?_)
  refine r_aload_n hg 0 d_Graph_join_12 rfl rfl ?_
  refine r_get (v := .ref (g + 2)) hg c_Graph (h_G_lt h_g) (h_G_kd h_g) (Nat.le_of_ble_eq_true rfl) (h_G_fl2 h_g) wf_Graph_15 d_Graph_join_13 rfl ?_
  refine r_bipush (v := 8) hg d_Graph_join_16 (by decide) ?_
  refine r_iload_n hg 2 d_Graph_join_18 rfl rfl ?_
  refine r_imul hg d_Graph_join_19 ?_
  refine r_iload_n hg 1 d_Graph_join_20 rfl rfl ?_
  refine r_iadd hg d_Graph_join_21 ?_
  refine r_iload_n hg 3 d_Graph_join_22 rfl rfl ?_
  refine r_iast hg (h_G_lt2 h_g) (h_G_kd2 h_g) d_Graph_join_23 ?_
  refine r_letM (fun μ_23 => ?_)
  refine r_iload_n hg 3 d_Graph_join_24 rfl rfl ?_
  refine r_if_ne (tgt := 59) hg d_Graph_join_25 (by decide) ?_ ?_
  · refine r_aload_n hg 0 d_Graph_join_59 rfl rfl ?_
    refine r_get (v := .ref (g + 3)) hg c_Graph (h_G_lt h_g) (h_G_kd h_g) (Nat.le_of_ble_eq_true rfl) (h_G_fl3 h_g) wf_Graph_18 d_Graph_join_60 rfl ?_
    refine r_iload_n hg 1 d_Graph_join_63 rfl rfl ?_
    refine r_dup2 hg d_Graph_join_64 rfl rfl ?_
    refine r_iald hg (h_G_lt3 h_g) (h_G_kd3 h_g) d_Graph_join_65 ?_
    refine r_iconst (v := 1) hg d_Graph_join_66 (by decide) ?_
    refine r_iload_n hg 2 d_Graph_join_67 rfl rfl ?_
    refine r_ishl hg d_Graph_join_68 ?_
    refine r_ior hg d_Graph_join_69 ?_
    refine r_iast hg (h_G_lt3 h_g) (h_G_kd3 h_g) d_Graph_join_70 ?_
    refine r_letM (fun μ_70 => ?_)
    refine r_aload_n hg 0 d_Graph_join_71 rfl rfl ?_
    refine r_get (v := .ref (g + 3)) hg c_Graph (h_G_lt h_g) (h_G_kd h_g) (Nat.le_of_ble_eq_true rfl) (h_G_fl3 h_g) wf_Graph_18 d_Graph_join_72 rfl ?_
    refine r_iload_n hg 2 d_Graph_join_75 rfl rfl ?_
    refine r_dup2 hg d_Graph_join_76 rfl rfl ?_
    refine r_iald hg (h_G_lt3 h_g) (h_G_kd3 h_g) d_Graph_join_77 ?_
    refine r_iconst (v := 1) hg d_Graph_join_78 (by decide) ?_
    refine r_iload_n hg 1 d_Graph_join_79 rfl rfl ?_
    refine r_ishl hg d_Graph_join_80 ?_
    refine r_ior hg d_Graph_join_81 ?_
    refine r_iast hg (h_G_lt3 h_g) (h_G_kd3 h_g) d_Graph_join_82 ?_
    refine r_letM (fun μ_82 => ?_)
    refine r_sub [] rfl ?_
    exact t_Graph_join_J83 hg hA μ_82
  · refine r_aload_n hg 0 d_Graph_join_28 rfl rfl ?_
    refine r_get (v := .ref (g + 3)) hg c_Graph (h_G_lt h_g) (h_G_kd h_g) (Nat.le_of_ble_eq_true rfl) (h_G_fl3 h_g) wf_Graph_18 d_Graph_join_29 rfl ?_
    refine r_iload_n hg 1 d_Graph_join_32 rfl rfl ?_
    refine r_dup2 hg d_Graph_join_33 rfl rfl ?_
    refine r_iald hg (h_G_lt3 h_g) (h_G_kd3 h_g) d_Graph_join_34 ?_
    refine r_iconst (v := 1) hg d_Graph_join_35 (by decide) ?_
    refine r_iload_n hg 2 d_Graph_join_36 rfl rfl ?_
    refine r_ishl hg d_Graph_join_37 ?_
    refine r_iconst (v := -1) hg d_Graph_join_38 (by decide) ?_
    refine r_ixor hg d_Graph_join_39 ?_
    refine r_iand hg d_Graph_join_40 ?_
    refine r_iast hg (h_G_lt3 h_g) (h_G_kd3 h_g) d_Graph_join_41 ?_
    refine r_letM (fun μ_41 => ?_)
    refine r_aload_n hg 0 d_Graph_join_42 rfl rfl ?_
    refine r_get (v := .ref (g + 3)) hg c_Graph (h_G_lt h_g) (h_G_kd h_g) (Nat.le_of_ble_eq_true rfl) (h_G_fl3 h_g) wf_Graph_18 d_Graph_join_43 rfl ?_
    refine r_iload_n hg 2 d_Graph_join_46 rfl rfl ?_
    refine r_dup2 hg d_Graph_join_47 rfl rfl ?_
    refine r_iald hg (h_G_lt3 h_g) (h_G_kd3 h_g) d_Graph_join_48 ?_
    refine r_iconst (v := 1) hg d_Graph_join_49 (by decide) ?_
    refine r_iload_n hg 1 d_Graph_join_50 rfl rfl ?_
    refine r_ishl hg d_Graph_join_51 ?_
    refine r_iconst (v := -1) hg d_Graph_join_52 (by decide) ?_
    refine r_ixor hg d_Graph_join_53 ?_
    refine r_iand hg d_Graph_join_54 ?_
    refine r_iast hg (h_G_lt3 h_g) (h_G_kd3 h_g) d_Graph_join_55 ?_
    refine r_letM (fun μ_55 => ?_)
    refine r_goto (tgt := 83) hg d_Graph_join_56 (by decide) ?_
    refine r_sub [] rfl ?_
    exact t_Graph_join_J83 hg hA μ_55
theorem t_Graph_join (g : Nat) (h_g : HIsG g) (v1 : Int32) (v2 : Int32) (v3 : Int32) (μ : HMem) : HSpec y_Graph_join b_Graph_join 4 none 1 h_eV [.ref g, .int v1, .int v2, .int v3] μ (f_Graph_join g v1 v2 v3 μ) :=
  HSpec.of (by decide +kernel) (v_Graph_join.1 _ (by simp)) (Nat.le_of_ble_eq_true rfl) (fun cx hA hg => t_Graph_join_0 hg hA g h_g v1 v2 v3 μ)
theorem t_Graph_inFamily_J44 {cx : HCx} (hg : HGood cx R_Graph b_Graph_inFamily 4 1 (some .boolean)) (hA : h_own cx)   (s0 : Int32) (μ : HMem) : HX cx (HQ cx h_eI) (f_Graph_inFamily_J44   s0 μ) 0 0 44 [] [.int s0] μ := by
  unfold f_Graph_inFamily_J44
  exact r_zretB hg hA rfl d_Graph_inFamily_44 rfl
theorem t_Graph_inFamily_J79 {cx : HCx} (hg : HGood cx R_Graph b_Graph_inFamily 4 1 (some .boolean)) (hA : h_own cx)   (s0 : Int32) (μ : HMem) : HX cx (HQ cx h_eI) (f_Graph_inFamily_J79   s0 μ) 0 0 79 [] [.int s0] μ := by
  unfold f_Graph_inFamily_J79
  exact r_zretB hg hA rfl d_Graph_inFamily_79 rfl
theorem t_Graph_inFamily_J74 {cx : HCx} (hg : HGood cx R_Graph b_Graph_inFamily 4 1 (some .boolean)) (hA : h_own cx)    (μ : HMem) : HX cx (HQ cx h_eI) (f_Graph_inFamily_J74   μ) 0 0 74 [] [] μ := by
  unfold f_Graph_inFamily_J74
  refine r_iconst (v := 1) hg d_Graph_inFamily_74 (by decide) ?_
  refine r_goto (tgt := 79) hg d_Graph_inFamily_75 (by decide) ?_
  exact t_Graph_inFamily_J79 hg hA 1 μ
theorem t_Graph_inFamily_J78 {cx : HCx} (hg : HGood cx R_Graph b_Graph_inFamily 4 1 (some .boolean)) (hA : h_own cx)    (μ : HMem) : HX cx (HQ cx h_eI) (f_Graph_inFamily_J78   μ) 0 0 78 [] [] μ := by
  unfold f_Graph_inFamily_J78
  refine r_iconst (v := 0) hg d_Graph_inFamily_78 (by decide) ?_
  exact t_Graph_inFamily_J79 hg hA 0 μ
theorem t_Graph_inFamily_J90 {cx : HCx} (hg : HGood cx R_Graph b_Graph_inFamily 4 1 (some .boolean)) (hA : h_own cx)   (s0 : Int32) (μ : HMem) : HX cx (HQ cx h_eI) (f_Graph_inFamily_J90   s0 μ) 0 0 90 [] [.int s0] μ := by
  unfold f_Graph_inFamily_J90
  exact r_zretB hg hA rfl d_Graph_inFamily_90 rfl
theorem t_Graph_inFamily_J104 {cx : HCx} (hg : HGood cx R_Graph b_Graph_inFamily 4 1 (some .boolean)) (hA : h_own cx)   (s0 : Int32) (μ : HMem) : HX cx (HQ cx h_eI) (f_Graph_inFamily_J104   s0 μ) 0 0 104 [] [.int s0] μ := by
  unfold f_Graph_inFamily_J104
  exact r_zretB hg hA rfl d_Graph_inFamily_104 rfl
theorem t_Graph_inFamily_J103 {cx : HCx} (hg : HGood cx R_Graph b_Graph_inFamily 4 1 (some .boolean)) (hA : h_own cx)    (μ : HMem) : HX cx (HQ cx h_eI) (f_Graph_inFamily_J103   μ) 0 0 103 [] [] μ := by
  unfold f_Graph_inFamily_J103
  refine r_iconst (v := 0) hg d_Graph_inFamily_103 (by decide) ?_
  exact t_Graph_inFamily_J104 hg hA 0 μ
theorem t_Graph_inFamily_0 {cx : HCx} (hg : HGood cx R_Graph b_Graph_inFamily 4 1 (some .boolean)) (hA : h_own cx) (g : Nat) (h_g : HIsG g) (v1 : Int32) (v2 : Int32) (v3 : Int32) (μ : HMem) : HX cx (HQ cx h_eI) (f_Graph_inFamily g v1 v2 v3 μ) 0 0 0 [(0, .ref g), (1, .int v1), (2, .int v2), (3, .int v3)] [] μ := by
  unfold f_Graph_inFamily
  refine r_iload_n hg 1 d_Graph_inFamily_0 rfl rfl ?_
  refine h_ite (fun hs_ => ?_) (fun hs_ => ?_)
  · refine r_tswOut (tgt := 105) hg d_Graph_inFamily_1 hs_ (by decide) ?_
    refine r_iconst (v := 1) hg d_Graph_inFamily_105 (by decide) ?_
    exact r_zretB hg hA rfl d_Graph_inFamily_106 rfl
  refine h_ite (fun he_ => ?_) (fun _ => ?_)
  · refine r_tswIn (tgt := 32) (y := 0) (off := 31) hg d_Graph_inFamily_1 he_ (by decide) (by decide) (by decide) (by decide) ?_
    refine r_iload_n hg 3 d_Graph_inFamily_32 rfl rfl ?_
    refine r_iload_n hg 2 d_Graph_inFamily_33 rfl rfl ?_
    refine r_iconst (v := 1) hg d_Graph_inFamily_34 (by decide) ?_
    refine r_iadd hg d_Graph_inFamily_35 ?_
    refine r_icmp_ne (tgt := 43) hg d_Graph_inFamily_36 (by decide) ?_ ?_
    · refine r_iconst (v := 0) hg d_Graph_inFamily_43 (by decide) ?_
      refine r_sub [] rfl ?_
      exact t_Graph_inFamily_J44 hg hA 0 μ
    · refine r_iconst (v := 1) hg d_Graph_inFamily_39 (by decide) ?_
      refine r_goto (tgt := 44) hg d_Graph_inFamily_40 (by decide) ?_
      refine r_sub [] rfl ?_
      exact t_Graph_inFamily_J44 hg hA 1 μ
  refine h_ite (fun he_ => ?_) (fun _ => ?_)
  · refine r_tswIn (tgt := 45) (y := 1) (off := 44) hg d_Graph_inFamily_1 he_ (by decide) (by decide) (by decide) (by decide) ?_
    refine r_iload_n hg 3 d_Graph_inFamily_45 rfl rfl ?_
    refine r_iload_n hg 2 d_Graph_inFamily_46 rfl rfl ?_
    refine r_iconst (v := 1) hg d_Graph_inFamily_47 (by decide) ?_
    refine r_iadd hg d_Graph_inFamily_48 ?_
    refine r_icmp_eq (tgt := 74) hg d_Graph_inFamily_49 (by decide) ?_ ?_
    · refine r_sub [] rfl ?_
      exact t_Graph_inFamily_J74 hg hA μ
    · refine r_aload_n hg 0 d_Graph_inFamily_52 rfl rfl ?_
      refine r_get (v := .int (μ.1 g 0)) hg c_Graph (h_G_lt h_g) (h_G_kd h_g) (Nat.le_of_ble_eq_true rfl) (h_G_fl0 h_g) wf_Graph_21 d_Graph_inFamily_53 rfl ?_
      refine r_iconst (v := 3) hg d_Graph_inFamily_56 (by decide) ?_
      refine r_icmp_lt (tgt := 78) hg d_Graph_inFamily_57 (by decide) ?_ ?_
      · refine r_sub [] rfl ?_
        exact t_Graph_inFamily_J78 hg hA μ
      · refine r_iload_n hg 2 d_Graph_inFamily_60 rfl rfl ?_
        refine r_if_ne (tgt := 78) hg d_Graph_inFamily_61 (by decide) ?_ ?_
        · refine r_sub [] rfl ?_
          exact t_Graph_inFamily_J78 hg hA μ
        · refine r_iload_n hg 3 d_Graph_inFamily_64 rfl rfl ?_
          refine r_aload_n hg 0 d_Graph_inFamily_65 rfl rfl ?_
          refine r_get (v := .int (μ.1 g 0)) hg c_Graph (h_G_lt h_g) (h_G_kd h_g) (Nat.le_of_ble_eq_true rfl) (h_G_fl0 h_g) wf_Graph_21 d_Graph_inFamily_66 rfl ?_
          refine r_iconst (v := 1) hg d_Graph_inFamily_69 (by decide) ?_
          refine r_isub hg d_Graph_inFamily_70 ?_
          refine r_icmp_ne (tgt := 78) hg d_Graph_inFamily_71 (by decide) ?_ ?_
          · refine r_sub [] rfl ?_
            exact t_Graph_inFamily_J78 hg hA μ
          · refine r_sub [] rfl ?_
            exact t_Graph_inFamily_J74 hg hA μ
  refine h_ite (fun he_ => ?_) (fun _ => ?_)
  · refine r_tswIn (tgt := 80) (y := 2) (off := 79) hg d_Graph_inFamily_1 he_ (by decide) (by decide) (by decide) (by decide) ?_
    refine r_iload_n hg 2 d_Graph_inFamily_80 rfl rfl ?_
    refine r_iload_n hg 3 d_Graph_inFamily_81 rfl rfl ?_
    refine r_icmp_eq (tgt := 89) hg d_Graph_inFamily_82 (by decide) ?_ ?_
    · refine r_iconst (v := 0) hg d_Graph_inFamily_89 (by decide) ?_
      refine r_sub [] rfl ?_
      exact t_Graph_inFamily_J90 hg hA 0 μ
    · refine r_iconst (v := 1) hg d_Graph_inFamily_85 (by decide) ?_
      refine r_goto (tgt := 90) hg d_Graph_inFamily_86 (by decide) ?_
      refine r_sub [] rfl ?_
      exact t_Graph_inFamily_J90 hg hA 1 μ
  refine h_ite (fun he_ => ?_) (fun _ => ?_)
  · refine r_tswIn (tgt := 91) (y := 3) (off := 90) hg d_Graph_inFamily_1 he_ (by decide) (by decide) (by decide) (by decide) ?_
    refine r_iload_n hg 2 d_Graph_inFamily_91 rfl rfl ?_
    refine r_if_ne (tgt := 103) hg d_Graph_inFamily_92 (by decide) ?_ ?_
    · refine r_sub [] rfl ?_
      exact t_Graph_inFamily_J103 hg hA μ
    · refine r_iload_n hg 3 d_Graph_inFamily_95 rfl rfl ?_
      refine r_if_eq (tgt := 103) hg d_Graph_inFamily_96 (by decide) ?_ ?_
      · refine r_sub [] rfl ?_
        exact t_Graph_inFamily_J103 hg hA μ
      · refine r_iconst (v := 1) hg d_Graph_inFamily_99 (by decide) ?_
        refine r_goto (tgt := 104) hg d_Graph_inFamily_100 (by decide) ?_
        refine r_sub [] rfl ?_
        exact t_Graph_inFamily_J104 hg hA 1 μ
  exact HX.none
theorem t_Graph_inFamily (g : Nat) (h_g : HIsG g) (v1 : Int32) (v2 : Int32) (v3 : Int32) (μ : HMem) : HSpec y_Graph_inFamily b_Graph_inFamily 4 (some .boolean) 1 h_eI [.ref g, .int v1, .int v2, .int v3] μ (f_Graph_inFamily g v1 v2 v3 μ) :=
  HSpec.of (by decide +kernel) (v_Graph_inFamily.1 _ (by simp)) (Nat.le_of_ble_eq_true rfl) (fun cx hA hg => t_Graph_inFamily_0 hg hA g h_g v1 v2 v3 μ)
theorem t_Graph_joinFamily_J37 {cx : HCx} (hg : HGood cx R_Graph b_Graph_joinFamily 4 2 none) (hA : h_own cx)  (rec_ : Nat → Int32 → Int32 → Int32 → HMem → Option (Unit × HMem)) (hrec_ : p_Graph_joinFamily_12 cx rec_) (a0 : Nat) (h_a0 : HIsG a0) (v1 : Int32) (v2 : Int32) (v3 : Int32) (μ : HMem) : HX cx (HQ cx h_eV) (f_Graph_joinFamily_J37  rec_ a0 v1 v2 v3 μ) 0 0 37 [(0, .ref a0), (1, .int v1), (2, .int v2), (3, .int v3)] [] μ := by
  unfold f_Graph_joinFamily_J37
  refine r_letE (fun v3_37 he_37 => ?_)
  refine r_iinc (v := v3_37) (l' := [(3, .int v3_37), (0, .ref a0), (1, .int v1), (2, .int v2)]) hg 3 d_Graph_joinFamily_37 rfl he_37 (Nat.le_of_ble_eq_true rfl) rfl ?_
  refine r_goto (tgt := 12) hg d_Graph_joinFamily_40 (by decide) ?_
  refine r_sub [1, 2, 3, 0] rfl ?_
  exact hrec_ a0 h_a0 v1 v2 v3_37 μ
theorem t_Graph_joinFamily_L12_b {cx : HCx} (hg : HGood cx R_Graph b_Graph_joinFamily 4 2 none) (hA : h_own cx) (K43 : Nat → Int32 → Int32 → HMem → Option (Unit × HMem)) (hK43 : p_Graph_joinFamily_43 cx K43) (rec_ : Nat → Int32 → Int32 → Int32 → HMem → Option (Unit × HMem)) (hrec_ : p_Graph_joinFamily_12 cx rec_) (a0 : Nat) (h_a0 : HIsG a0) (v1 : Int32) (v2 : Int32) (v3 : Int32) (μ : HMem) : HX cx (HQ cx h_eV) (f_Graph_joinFamily_L12_b K43 rec_ a0 v1 v2 v3 μ) 0 0 12 [(0, .ref a0), (1, .int v1), (2, .int v2), (3, .int v3)] [] μ := by
  unfold f_Graph_joinFamily_L12_b
  refine r_iload_n hg 3 d_Graph_joinFamily_12 rfl rfl ?_
  refine r_aload_n hg 0 d_Graph_joinFamily_13 rfl rfl ?_
  refine r_get (v := .int (μ.1 a0 0)) hg c_Graph (h_G_lt h_a0) (h_G_kd h_a0) (Nat.le_of_ble_eq_true rfl) (h_G_fl0 h_a0) wf_Graph_21 d_Graph_joinFamily_14 rfl ?_
  refine r_icmp_ge (tgt := 43) hg d_Graph_joinFamily_17 (by decide) ?_ ?_
  · refine r_sub [0, 1, 2] rfl ?_
    exact hK43 a0 h_a0 v1 v2 μ
  · refine r_aload_n hg 0 d_Graph_joinFamily_20 rfl rfl ?_
    refine r_iload_n hg 1 d_Graph_joinFamily_21 rfl rfl ?_
    refine r_iload_n hg 2 d_Graph_joinFamily_22 rfl rfl ?_
    refine r_iload_n hg 3 d_Graph_joinFamily_23 rfl rfl ?_
    refine r_callV (As := [.int v1, .int v2, .int v3]) hg (t_Graph_inFamily a0 h_a0 v1 v2 v3 μ) v_Graph_inFamily c_Graph rfl (h_G_lt h_a0) (h_G_kd h_a0) wm_Graph_37 d_Graph_joinFamily_24 rfl ⟨by decide, by decide⟩ (Nat.le_of_ble_eq_true rfl) rfl (fun r24 μ_24 _ => ?_)
    refine r_if_eq (tgt := 37) hg d_Graph_joinFamily_27 (by decide) ?_ ?_
    · exact t_Graph_joinFamily_J37 hg hA rec_ hrec_ a0 h_a0 v1 v2 v3 μ_24
    · refine r_aload_n hg 0 d_Graph_joinFamily_30 rfl rfl ?_
      refine r_iload_n hg 2 d_Graph_joinFamily_31 rfl rfl ?_
      refine r_iload_n hg 3 d_Graph_joinFamily_32 rfl rfl ?_
      refine r_iconst (v := 1) hg d_Graph_joinFamily_33 (by decide) ?_
      refine r_callV (As := [.int v2, .int v3, .int 1]) hg (t_Graph_join a0 h_a0 v2 v3 1 μ_24) v_Graph_join c_Graph rfl (h_G_lt h_a0) (h_G_kd h_a0) wm_Graph_41 d_Graph_joinFamily_34 rfl ⟨by decide, by decide⟩ (Nat.le_of_ble_eq_true rfl) rfl (fun r34 μ_34 _ => ?_)
      exact t_Graph_joinFamily_J37 hg hA rec_ hrec_ a0 h_a0 v1 v2 v3 μ_34
theorem t_Graph_joinFamily_L12 {cx : HCx} (hg : HGood cx R_Graph b_Graph_joinFamily 4 2 none) (hA : h_own cx) (K43 : Nat → Int32 → Int32 → HMem → Option (Unit × HMem)) (hK43 : p_Graph_joinFamily_43 cx K43) : ∀ (fuel : Nat) (a0 : Nat) (h_a0 : HIsG a0) (v1 : Int32) (v2 : Int32) (v3 : Int32) (μ : HMem), HX cx (HQ cx h_eV) (f_Graph_joinFamily_L12 K43 fuel a0 v1 v2 v3 μ) 0 0 12 [(0, .ref a0), (1, .int v1), (2, .int v2), (3, .int v3)] [] μ
  | 0, _, _, _, _, _, _ => by unfold f_Graph_joinFamily_L12; exact HX.none
  | fuel + 1, a0, h_a0, v1, v2, v3, μ => by
    rw [f_Graph_joinFamily_L12]
    exact t_Graph_joinFamily_L12_b hg hA  K43 hK43 (f_Graph_joinFamily_L12 K43 fuel) (t_Graph_joinFamily_L12 hg hA  K43 hK43 fuel) a0 h_a0 v1 v2 v3 μ
theorem t_Graph_joinFamily_J43 {cx : HCx} (hg : HGood cx R_Graph b_Graph_joinFamily 4 2 none) (hA : h_own cx)  (rec_ : Nat → Int32 → Int32 → HMem → Option (Unit × HMem)) (hrec_ : p_Graph_joinFamily_2 cx rec_) (a0 : Nat) (h_a0 : HIsG a0) (v1 : Int32) (v2 : Int32) (μ : HMem) : HX cx (HQ cx h_eV) (f_Graph_joinFamily_J43  rec_ a0 v1 v2 μ) 0 0 43 [(0, .ref a0), (1, .int v1), (2, .int v2)] [] μ := by
  unfold f_Graph_joinFamily_J43
  refine r_letE (fun v2_43 he_43 => ?_)
  refine r_iinc (v := v2_43) (l' := [(2, .int v2_43), (0, .ref a0), (1, .int v1)]) hg 2 d_Graph_joinFamily_43 rfl he_43 (Nat.le_of_ble_eq_true rfl) rfl ?_
  refine r_goto (tgt := 2) hg d_Graph_joinFamily_46 (by decide) ?_
  refine r_sub [1, 2, 0] rfl ?_
  exact hrec_ a0 h_a0 v1 v2_43 μ
theorem t_Graph_joinFamily_L2_b {cx : HCx} (hg : HGood cx R_Graph b_Graph_joinFamily 4 2 none) (hA : h_own cx)  (rec_ : Nat → Int32 → Int32 → HMem → Option (Unit × HMem)) (hrec_ : p_Graph_joinFamily_2 cx rec_) (a0 : Nat) (h_a0 : HIsG a0) (v1 : Int32) (v2 : Int32) (μ : HMem) : HX cx (HQ cx h_eV) (f_Graph_joinFamily_L2_b  rec_ a0 v1 v2 μ) 0 0 2 [(0, .ref a0), (1, .int v1), (2, .int v2)] [] μ := by
  unfold f_Graph_joinFamily_L2_b
  refine r_iload_n hg 2 d_Graph_joinFamily_2 rfl rfl ?_
  refine r_aload_n hg 0 d_Graph_joinFamily_3 rfl rfl ?_
  refine r_get (v := .int (μ.1 a0 0)) hg c_Graph (h_G_lt h_a0) (h_G_kd h_a0) (Nat.le_of_ble_eq_true rfl) (h_G_fl0 h_a0) wf_Graph_21 d_Graph_joinFamily_4 rfl ?_
  refine r_icmp_ge (tgt := 49) hg d_Graph_joinFamily_7 (by decide) ?_ ?_
  · exact r_vret hg hA rfl d_Graph_joinFamily_49 rfl
  · refine r_iload_n hg 2 d_Graph_joinFamily_10 rfl rfl ?_
    refine r_istore_n (l' := [(3, .int v2), (0, .ref a0), (1, .int v1), (2, .int v2)]) hg d_Graph_joinFamily_11 rfl (Nat.le_of_ble_eq_true rfl) rfl ?_
    refine r_sub [1, 2, 3, 0] rfl ?_
    exact t_Graph_joinFamily_L12 hg hA (f_Graph_joinFamily_J43 rec_) (t_Graph_joinFamily_J43 hg hA rec_ hrec_) h_fuel a0 h_a0 v1 v2 v2 μ
theorem t_Graph_joinFamily_L2 {cx : HCx} (hg : HGood cx R_Graph b_Graph_joinFamily 4 2 none) (hA : h_own cx)  : ∀ (fuel : Nat) (a0 : Nat) (h_a0 : HIsG a0) (v1 : Int32) (v2 : Int32) (μ : HMem), HX cx (HQ cx h_eV) (f_Graph_joinFamily_L2  fuel a0 v1 v2 μ) 0 0 2 [(0, .ref a0), (1, .int v1), (2, .int v2)] [] μ
  | 0, _, _, _, _, _ => by unfold f_Graph_joinFamily_L2; exact HX.none
  | fuel + 1, a0, h_a0, v1, v2, μ => by
    rw [f_Graph_joinFamily_L2]
    exact t_Graph_joinFamily_L2_b hg hA   (f_Graph_joinFamily_L2  fuel) (t_Graph_joinFamily_L2 hg hA   fuel) a0 h_a0 v1 v2 μ
theorem t_Graph_joinFamily_0 {cx : HCx} (hg : HGood cx R_Graph b_Graph_joinFamily 4 2 none) (hA : h_own cx) (g : Nat) (h_g : HIsG g) (v1 : Int32) (μ : HMem) : HX cx (HQ cx h_eV) (f_Graph_joinFamily g v1 μ) 0 0 0 [(0, .ref g), (1, .int v1)] [] μ := by
  unfold f_Graph_joinFamily
  refine r_iconst (v := 0) hg d_Graph_joinFamily_0 (by decide) ?_
  refine r_istore_n (l' := [(2, .int 0), (0, .ref g), (1, .int v1)]) hg d_Graph_joinFamily_1 rfl (Nat.le_of_ble_eq_true rfl) rfl ?_
  refine r_sub [1, 2, 0] rfl ?_
  exact t_Graph_joinFamily_L2 hg hA h_fuel g h_g v1 0 μ
theorem t_Graph_joinFamily (g : Nat) (h_g : HIsG g) (v1 : Int32) (μ : HMem) : HSpec y_Graph_joinFamily b_Graph_joinFamily 4 none 2 h_eV [.ref g, .int v1] μ (f_Graph_joinFamily g v1 μ) :=
  HSpec.of (by decide +kernel) (v_Graph_joinFamily.1 _ (by simp)) (Nat.le_of_ble_eq_true rfl) (fun cx hA hg => t_Graph_joinFamily_0 hg hA g h_g v1 μ)
theorem t_Graph_joinRandomly_J63 {cx : HCx} (hg : HGood cx R_Graph b_Graph_joinRandomly 7 2 none) (hA : h_own cx)  (rec_ : Nat → Int32 → Int64 → Int32 → Int32 → HMem → Option (Unit × HMem)) (hrec_ : p_Graph_joinRandomly_18 cx rec_) (a0 : Nat) (h_a0 : HIsG a0) (v2 : Int32) (v3 : Int64) (v5 : Int32) (v6 : Int32) (μ : HMem) : HX cx (HQ cx h_eV) (f_Graph_joinRandomly_J63  rec_ a0 v2 v3 v5 v6 μ) 0 0 63 [(0, .ref a0), (2, .int v2), (3, .long v3), (5, .int v5), (6, .int v6)] [] μ := by
  unfold f_Graph_joinRandomly_J63
  refine r_letE (fun v6_63 he_63 => ?_)
  refine r_iinc (v := v6_63) (l' := [(6, .int v6_63), (0, .ref a0), (2, .int v2), (3, .long v3), (5, .int v5)]) hg 4 d_Graph_joinRandomly_63 rfl he_63 (Nat.le_of_ble_eq_true rfl) rfl ?_
  refine r_goto (tgt := 18) hg d_Graph_joinRandomly_66 (by decide) ?_
  refine r_sub [1, 2, 3, 4, 0] rfl ?_
  exact hrec_ a0 h_a0 v2 v3 v5 v6_63 μ
theorem t_Graph_joinRandomly_L18_b {cx : HCx} (hg : HGood cx R_Graph b_Graph_joinRandomly 7 2 none) (hA : h_own cx) (K69 : Nat → Int32 → Int64 → Int32 → HMem → Option (Unit × HMem)) (hK69 : p_Graph_joinRandomly_69 cx K69) (rec_ : Nat → Int32 → Int64 → Int32 → Int32 → HMem → Option (Unit × HMem)) (hrec_ : p_Graph_joinRandomly_18 cx rec_) (a0 : Nat) (h_a0 : HIsG a0) (v2 : Int32) (v3 : Int64) (v5 : Int32) (v6 : Int32) (μ : HMem) : HX cx (HQ cx h_eV) (f_Graph_joinRandomly_L18_b K69 rec_ a0 v2 v3 v5 v6 μ) 0 0 18 [(0, .ref a0), (2, .int v2), (3, .long v3), (5, .int v5), (6, .int v6)] [] μ := by
  unfold f_Graph_joinRandomly_L18_b
  refine r_iload hg 4 d_Graph_joinRandomly_18 rfl ?_
  refine r_iload hg 3 d_Graph_joinRandomly_20 rfl ?_
  refine r_icmp_ge (tgt := 69) hg d_Graph_joinRandomly_22 (by decide) ?_ ?_
  · refine r_sub [0, 1, 2, 3] rfl ?_
    exact hK69 a0 h_a0 v2 v3 v5 μ
  · refine r_ldc2 hg wc_Graph_45 d_Graph_joinRandomly_25 ?_
    refine r_lload_n hg 2 d_Graph_joinRandomly_28 rfl rfl ?_
    refine r_lmul hg d_Graph_joinRandomly_29 ?_
    refine r_ldc2 hg wc_Graph_47 d_Graph_joinRandomly_30 ?_
    refine r_ladd hg d_Graph_joinRandomly_33 ?_
    refine r_ldc2 hg wc_Graph_49 d_Graph_joinRandomly_34 ?_
    refine r_lrem hg d_Graph_joinRandomly_37 ?_
    refine r_letJ (fun v3_38 => ?_)
    refine r_lstore_n (l' := [(3, .long v3_38), (0, .ref a0), (2, .int v2), (5, .int v5), (6, .int v6)]) hg d_Graph_joinRandomly_38 rfl (Nat.le_of_ble_eq_true rfl) rfl ?_
    refine r_lload_n hg 0 d_Graph_joinRandomly_39 rfl rfl ?_
    refine r_ldc2 hg wc_Graph_51 d_Graph_joinRandomly_40 ?_
    refine r_ldiv hg d_Graph_joinRandomly_43 ?_
    refine r_ldc2 hg wc_Graph_53 d_Graph_joinRandomly_44 ?_
    refine r_lrem hg d_Graph_joinRandomly_47 ?_
    refine r_iload_n hg 2 d_Graph_joinRandomly_48 rfl rfl ?_
    refine r_i2l hg d_Graph_joinRandomly_49 ?_
    refine r_lcmp hg d_Graph_joinRandomly_50 ?_
    refine r_if_ge (tgt := 63) hg d_Graph_joinRandomly_51 (by decide) ?_ ?_
    · refine r_sub [1, 2, 0, 3, 4] rfl ?_
      exact t_Graph_joinRandomly_J63 hg hA rec_ hrec_ a0 h_a0 v2 v3_38 v5 v6 μ
    · refine r_aload_n hg 1 d_Graph_joinRandomly_54 rfl rfl ?_
      refine r_iload hg 3 d_Graph_joinRandomly_55 rfl ?_
      refine r_iload hg 4 d_Graph_joinRandomly_57 rfl ?_
      refine r_iconst (v := 1) hg d_Graph_joinRandomly_59 (by decide) ?_
      refine r_callV (As := [.int v5, .int v6, .int 1]) hg (t_Graph_join a0 h_a0 v5 v6 1 μ) v_Graph_join c_Graph rfl (h_G_lt h_a0) (h_G_kd h_a0) wm_Graph_41 d_Graph_joinRandomly_60 rfl ⟨by decide, by decide⟩ (Nat.le_of_ble_eq_true rfl) rfl (fun r60 μ_60 _ => ?_)
      refine r_sub [1, 2, 0, 3, 4] rfl ?_
      exact t_Graph_joinRandomly_J63 hg hA rec_ hrec_ a0 h_a0 v2 v3_38 v5 v6 μ_60
theorem t_Graph_joinRandomly_L18 {cx : HCx} (hg : HGood cx R_Graph b_Graph_joinRandomly 7 2 none) (hA : h_own cx) (K69 : Nat → Int32 → Int64 → Int32 → HMem → Option (Unit × HMem)) (hK69 : p_Graph_joinRandomly_69 cx K69) : ∀ (fuel : Nat) (a0 : Nat) (h_a0 : HIsG a0) (v2 : Int32) (v3 : Int64) (v5 : Int32) (v6 : Int32) (μ : HMem), HX cx (HQ cx h_eV) (f_Graph_joinRandomly_L18 K69 fuel a0 v2 v3 v5 v6 μ) 0 0 18 [(0, .ref a0), (2, .int v2), (3, .long v3), (5, .int v5), (6, .int v6)] [] μ
  | 0, _, _, _, _, _, _, _ => by unfold f_Graph_joinRandomly_L18; exact HX.none
  | fuel + 1, a0, h_a0, v2, v3, v5, v6, μ => by
    rw [f_Graph_joinRandomly_L18]
    exact t_Graph_joinRandomly_L18_b hg hA  K69 hK69 (f_Graph_joinRandomly_L18 K69 fuel) (t_Graph_joinRandomly_L18 hg hA  K69 hK69 fuel) a0 h_a0 v2 v3 v5 v6 μ
theorem t_Graph_joinRandomly_J69 {cx : HCx} (hg : HGood cx R_Graph b_Graph_joinRandomly 7 2 none) (hA : h_own cx)  (rec_ : Nat → Int32 → Int64 → Int32 → HMem → Option (Unit × HMem)) (hrec_ : p_Graph_joinRandomly_6 cx rec_) (a0 : Nat) (h_a0 : HIsG a0) (v2 : Int32) (v3 : Int64) (v5 : Int32) (μ : HMem) : HX cx (HQ cx h_eV) (f_Graph_joinRandomly_J69  rec_ a0 v2 v3 v5 μ) 0 0 69 [(0, .ref a0), (2, .int v2), (3, .long v3), (5, .int v5)] [] μ := by
  unfold f_Graph_joinRandomly_J69
  refine r_letE (fun v5_69 he_69 => ?_)
  refine r_iinc (v := v5_69) (l' := [(5, .int v5_69), (0, .ref a0), (2, .int v2), (3, .long v3)]) hg 3 d_Graph_joinRandomly_69 rfl he_69 (Nat.le_of_ble_eq_true rfl) rfl ?_
  refine r_goto (tgt := 6) hg d_Graph_joinRandomly_72 (by decide) ?_
  refine r_sub [1, 2, 3, 0] rfl ?_
  exact hrec_ a0 h_a0 v2 v3 v5_69 μ
theorem t_Graph_joinRandomly_L6_b {cx : HCx} (hg : HGood cx R_Graph b_Graph_joinRandomly 7 2 none) (hA : h_own cx)  (rec_ : Nat → Int32 → Int64 → Int32 → HMem → Option (Unit × HMem)) (hrec_ : p_Graph_joinRandomly_6 cx rec_) (a0 : Nat) (h_a0 : HIsG a0) (v2 : Int32) (v3 : Int64) (v5 : Int32) (μ : HMem) : HX cx (HQ cx h_eV) (f_Graph_joinRandomly_L6_b  rec_ a0 v2 v3 v5 μ) 0 0 6 [(0, .ref a0), (2, .int v2), (3, .long v3), (5, .int v5)] [] μ := by
  unfold f_Graph_joinRandomly_L6_b
  refine r_iload hg 3 d_Graph_joinRandomly_6 rfl ?_
  refine r_aload_n hg 0 d_Graph_joinRandomly_8 rfl rfl ?_
  refine r_get (v := .int (μ.1 a0 0)) hg c_Graph (h_G_lt h_a0) (h_G_kd h_a0) (Nat.le_of_ble_eq_true rfl) (h_G_fl0 h_a0) wf_Graph_21 d_Graph_joinRandomly_9 rfl ?_
  refine r_icmp_ge (tgt := 75) hg d_Graph_joinRandomly_12 (by decide) ?_ ?_
  · exact r_vret hg hA rfl d_Graph_joinRandomly_75 rfl
  · refine r_iconst (v := 0) hg d_Graph_joinRandomly_15 (by decide) ?_
    refine r_istore (l' := [(6, .int 0), (0, .ref a0), (2, .int v2), (3, .long v3), (5, .int v5)]) hg d_Graph_joinRandomly_16 (Nat.le_of_ble_eq_true rfl) rfl ?_
    refine r_sub [1, 2, 3, 4, 0] rfl ?_
    exact t_Graph_joinRandomly_L18 hg hA (f_Graph_joinRandomly_J69 rec_) (t_Graph_joinRandomly_J69 hg hA rec_ hrec_) h_fuel a0 h_a0 v2 v3 v5 0 μ
theorem t_Graph_joinRandomly_L6 {cx : HCx} (hg : HGood cx R_Graph b_Graph_joinRandomly 7 2 none) (hA : h_own cx)  : ∀ (fuel : Nat) (a0 : Nat) (h_a0 : HIsG a0) (v2 : Int32) (v3 : Int64) (v5 : Int32) (μ : HMem), HX cx (HQ cx h_eV) (f_Graph_joinRandomly_L6  fuel a0 v2 v3 v5 μ) 0 0 6 [(0, .ref a0), (2, .int v2), (3, .long v3), (5, .int v5)] [] μ
  | 0, _, _, _, _, _, _ => by unfold f_Graph_joinRandomly_L6; exact HX.none
  | fuel + 1, a0, h_a0, v2, v3, v5, μ => by
    rw [f_Graph_joinRandomly_L6]
    exact t_Graph_joinRandomly_L6_b hg hA   (f_Graph_joinRandomly_L6  fuel) (t_Graph_joinRandomly_L6 hg hA   fuel) a0 h_a0 v2 v3 v5 μ
theorem t_Graph_joinRandomly_0 {cx : HCx} (hg : HGood cx R_Graph b_Graph_joinRandomly 7 2 none) (hA : h_own cx) (g : Nat) (h_g : HIsG g) (v1 : Int32) (v2 : Int32) (μ : HMem) : HX cx (HQ cx h_eV) (f_Graph_joinRandomly g v1 v2 μ) 0 0 0 [(0, .ref g), (1, .int v1), (2, .int v2)] [] μ := by
  unfold f_Graph_joinRandomly
  refine r_iload_n hg 1 d_Graph_joinRandomly_0 rfl rfl ?_
  refine r_i2l hg d_Graph_joinRandomly_1 ?_
  refine r_letJ (fun v3_2 => ?_)
  refine r_lstore_n (l' := [(3, .long v3_2), (0, .ref g), (1, .int v1), (2, .int v2)]) hg d_Graph_joinRandomly_2 rfl (Nat.le_of_ble_eq_true rfl) rfl ?_
  refine r_iconst (v := 0) hg d_Graph_joinRandomly_3 (by decide) ?_
  refine r_istore (l' := [(5, .int 0), (3, .long v3_2), (0, .ref g), (1, .int v1), (2, .int v2)]) hg d_Graph_joinRandomly_4 (Nat.le_of_ble_eq_true rfl) rfl ?_
  refine r_sub [2, 4, 1, 0] rfl ?_
  exact t_Graph_joinRandomly_L6 hg hA h_fuel g h_g v2 v3_2 0 μ
theorem t_Graph_joinRandomly (g : Nat) (h_g : HIsG g) (v1 : Int32) (v2 : Int32) (μ : HMem) : HSpec y_Graph_joinRandomly b_Graph_joinRandomly 7 none 2 h_eV [.ref g, .int v1, .int v2] μ (f_Graph_joinRandomly g v1 v2 μ) :=
  HSpec.of (by decide +kernel) (v_Graph_joinRandomly.1 _ (by simp)) (Nat.le_of_ble_eq_true rfl) (fun cx hA hg => t_Graph_joinRandomly_0 hg hA g h_g v1 v2 μ)
theorem t_Graph_joinPlaced_J43 {cx : HCx} (hg : HGood cx R_Graph b_Graph_joinPlaced 7 2 none) (hA : h_own cx)  (rec_ : Nat → Nat → Int32 → Int32 → Int32 → Int32 → Int32 → HMem → Option (Unit × HMem)) (hrec_ : p_Graph_joinPlaced_7 cx rec_) (a0 : Nat) (h_a0 : HIsG a0) (a1 : Nat) (h_a1 : HIsG a1) (v2 : Int32) (v3 : Int32) (v4 : Int32) (v5 : Int32) (v6 : Int32) (μ : HMem) : HX cx (HQ cx h_eV) (f_Graph_joinPlaced_J43  rec_ a0 a1 v2 v3 v4 v5 v6 μ) 0 0 43 [(0, .ref a0), (1, .ref a1), (2, .int v2), (3, .int v3), (4, .int v4), (5, .int v5), (6, .int v6)] [] μ := by
  unfold f_Graph_joinPlaced_J43
  refine r_letE (fun v6_43 he_43 => ?_)
  refine r_iinc (v := v6_43) (l' := [(6, .int v6_43), (0, .ref a0), (1, .ref a1), (2, .int v2), (3, .int v3), (4, .int v4), (5, .int v5)]) hg 6 d_Graph_joinPlaced_43 rfl he_43 (Nat.le_of_ble_eq_true rfl) rfl ?_
  refine r_goto (tgt := 7) hg d_Graph_joinPlaced_46 (by decide) ?_
  refine r_sub [1, 2, 3, 4, 5, 6, 0] rfl ?_
  exact hrec_ a0 h_a0 a1 h_a1 v2 v3 v4 v5 v6_43 μ
theorem t_Graph_joinPlaced_L7_b {cx : HCx} (hg : HGood cx R_Graph b_Graph_joinPlaced 7 2 none) (hA : h_own cx)  (rec_ : Nat → Nat → Int32 → Int32 → Int32 → Int32 → Int32 → HMem → Option (Unit × HMem)) (hrec_ : p_Graph_joinPlaced_7 cx rec_) (a0 : Nat) (h_a0 : HIsG a0) (a1 : Nat) (h_a1 : HIsG a1) (v2 : Int32) (v3 : Int32) (v4 : Int32) (v5 : Int32) (v6 : Int32) (μ : HMem) : HX cx (HQ cx h_eV) (f_Graph_joinPlaced_L7_b  rec_ a0 a1 v2 v3 v4 v5 v6 μ) 0 0 7 [(0, .ref a0), (1, .ref a1), (2, .int v2), (3, .int v3), (4, .int v4), (5, .int v5), (6, .int v6)] [] μ := by
  unfold f_Graph_joinPlaced_L7_b
  refine r_iload hg 6 d_Graph_joinPlaced_7 rfl ?_
  refine r_aload_n hg 1 d_Graph_joinPlaced_9 rfl rfl ?_
  refine r_get (v := .int (μ.1 a1 0)) hg c_Graph (h_G_lt h_a1) (h_G_kd h_a1) (Nat.le_of_ble_eq_true rfl) (h_G_fl0 h_a1) wf_Graph_21 d_Graph_joinPlaced_10 rfl ?_
  refine r_icmp_ge (tgt := 49) hg d_Graph_joinPlaced_13 (by decide) ?_ ?_
  · exact r_vret hg hA rfl d_Graph_joinPlaced_49 rfl
  · refine r_iload_n hg 2 d_Graph_joinPlaced_16 rfl rfl ?_
    refine r_iload hg 6 d_Graph_joinPlaced_17 rfl ?_
    refine r_callN (As := [.int v2, .int v6]) (host := "HomBench") hg (t_Bench_has v2 v6 μ) v_Bench_has (by decide) d_Graph_joinPlaced_19 rfl ⟨by decide, by decide⟩ (Nat.le_of_ble_eq_true rfl) rfl (fun r19 μ_19 _ => ?_)
    refine r_if_eq (tgt := 43) hg d_Graph_joinPlaced_22 (by decide) ?_ ?_
    · exact t_Graph_joinPlaced_J43 hg hA rec_ hrec_ a0 h_a0 a1 h_a1 v2 v3 v4 v5 v6 μ_19
    · refine r_aload_n hg 0 d_Graph_joinPlaced_25 rfl rfl ?_
      refine r_iload hg 4 d_Graph_joinPlaced_26 rfl ?_
      refine r_iload hg 5 d_Graph_joinPlaced_28 rfl ?_
      refine r_aload_n hg 1 d_Graph_joinPlaced_30 rfl rfl ?_
      refine r_iload_n hg 3 d_Graph_joinPlaced_31 rfl rfl ?_
      refine r_iload hg 6 d_Graph_joinPlaced_32 rfl ?_
      refine r_callV (As := [.int v3, .int v6]) hg (t_Graph_between a1 h_a1 v3 v6 μ_19) v_Graph_between c_Graph rfl (h_G_lt h_a1) (h_G_kd h_a1) wm_Graph_63 d_Graph_joinPlaced_34 rfl ⟨by decide, by decide⟩ (Nat.le_of_ble_eq_true rfl) rfl (fun r34 μ_34 _ => ?_)
      refine r_callV (As := [.int v4, .int v5, .int r34]) hg (t_Graph_join a0 h_a0 v4 v5 r34 μ_34) v_Graph_join c_Graph rfl (h_G_lt h_a0) (h_G_kd h_a0) wm_Graph_41 d_Graph_joinPlaced_37 rfl ⟨by decide, by decide⟩ (Nat.le_of_ble_eq_true rfl) rfl (fun r37 μ_37 _ => ?_)
      refine r_letE (fun v5_40 he_40 => ?_)
      refine r_iinc (v := v5_40) (l' := [(5, .int v5_40), (0, .ref a0), (1, .ref a1), (2, .int v2), (3, .int v3), (4, .int v4), (6, .int v6)]) hg 5 d_Graph_joinPlaced_40 rfl he_40 (Nat.le_of_ble_eq_true rfl) rfl ?_
      refine r_sub [1, 2, 3, 4, 5, 0, 6] rfl ?_
      exact t_Graph_joinPlaced_J43 hg hA rec_ hrec_ a0 h_a0 a1 h_a1 v2 v3 v4 v5_40 v6 μ_37
theorem t_Graph_joinPlaced_L7 {cx : HCx} (hg : HGood cx R_Graph b_Graph_joinPlaced 7 2 none) (hA : h_own cx)  : ∀ (fuel : Nat) (a0 : Nat) (h_a0 : HIsG a0) (a1 : Nat) (h_a1 : HIsG a1) (v2 : Int32) (v3 : Int32) (v4 : Int32) (v5 : Int32) (v6 : Int32) (μ : HMem), HX cx (HQ cx h_eV) (f_Graph_joinPlaced_L7  fuel a0 a1 v2 v3 v4 v5 v6 μ) 0 0 7 [(0, .ref a0), (1, .ref a1), (2, .int v2), (3, .int v3), (4, .int v4), (5, .int v5), (6, .int v6)] [] μ
  | 0, _, _, _, _, _, _, _, _, _, _ => by unfold f_Graph_joinPlaced_L7; exact HX.none
  | fuel + 1, a0, h_a0, a1, h_a1, v2, v3, v4, v5, v6, μ => by
    rw [f_Graph_joinPlaced_L7]
    exact t_Graph_joinPlaced_L7_b hg hA   (f_Graph_joinPlaced_L7  fuel) (t_Graph_joinPlaced_L7 hg hA   fuel) a0 h_a0 a1 h_a1 v2 v3 v4 v5 v6 μ
theorem t_Graph_joinPlaced_0 {cx : HCx} (hg : HGood cx R_Graph b_Graph_joinPlaced 7 2 none) (hA : h_own cx) (g : Nat) (h_g : HIsG g) (a1 : Nat) (h_a1 : HIsG a1) (v2 : Int32) (v3 : Int32) (v4 : Int32) (μ : HMem) : HX cx (HQ cx h_eV) (f_Graph_joinPlaced g a1 v2 v3 v4 μ) 0 0 0 [(0, .ref g), (1, .ref a1), (2, .int v2), (3, .int v3), (4, .int v4)] [] μ := by
  unfold f_Graph_joinPlaced
  refine r_iload hg 4 d_Graph_joinPlaced_0 rfl ?_
  refine r_istore (l' := [(5, .int v4), (0, .ref g), (1, .ref a1), (2, .int v2), (3, .int v3), (4, .int v4)]) hg d_Graph_joinPlaced_2 (Nat.le_of_ble_eq_true rfl) rfl ?_
  refine r_iload_n hg 4 d_Graph_joinPlaced_4 rfl rfl ?_
  refine r_istore (l' := [(6, .int v3), (5, .int v4), (0, .ref g), (1, .ref a1), (2, .int v2), (3, .int v3), (4, .int v4)]) hg d_Graph_joinPlaced_5 (Nat.le_of_ble_eq_true rfl) rfl ?_
  refine r_sub [2, 3, 4, 5, 6, 1, 0] rfl ?_
  exact t_Graph_joinPlaced_L7 hg hA h_fuel g h_g a1 h_a1 v2 v3 v4 v4 v3 μ
theorem t_Graph_joinPlaced (g : Nat) (h_g : HIsG g) (a1 : Nat) (h_a1 : HIsG a1) (v2 : Int32) (v3 : Int32) (v4 : Int32) (μ : HMem) : HSpec y_Graph_joinPlaced b_Graph_joinPlaced 7 none 2 h_eV [.ref g, .ref a1, .int v2, .int v3, .int v4] μ (f_Graph_joinPlaced g a1 v2 v3 v4 μ) :=
  HSpec.of (by decide +kernel) (v_Graph_joinPlaced.1 _ (by simp)) (Nat.le_of_ble_eq_true rfl) (fun cx hA hg => t_Graph_joinPlaced_0 hg hA g h_g a1 h_a1 v2 v3 v4 μ)
theorem t_Graph_place_J51 {cx : HCx} (hg : HGood cx R_Graph b_Graph_place 6 3 none) (hA : h_own cx)  (rec_ : Nat → Nat → Int32 → Int32 → Int32 → HMem → Option (Unit × HMem)) (hrec_ : p_Graph_place_6 cx rec_) (a0 : Nat) (h_a0 : HIsG a0) (a1 : Nat) (h_a1 : HIsG a1) (v2 : Int32) (v4 : Int32) (v5 : Int32) (μ : HMem) : HX cx (HQ cx h_eV) (f_Graph_place_J51  rec_ a0 a1 v2 v4 v5 μ) 0 0 51 [(0, .ref a0), (1, .ref a1), (2, .int v2), (4, .int v4), (5, .int v5)] [] μ := by
  unfold f_Graph_place_J51
  refine r_letE (fun v5_51 he_51 => ?_)
  refine r_iinc (v := v5_51) (l' := [(5, .int v5_51), (0, .ref a0), (1, .ref a1), (2, .int v2), (4, .int v4)]) hg 4 d_Graph_place_51 rfl he_51 (Nat.le_of_ble_eq_true rfl) rfl ?_
  refine r_goto (tgt := 6) hg d_Graph_place_54 (by decide) ?_
  refine r_sub [1, 2, 3, 4, 0] rfl ?_
  exact hrec_ a0 h_a0 a1 h_a1 v2 v4 v5_51 μ
theorem t_Graph_place_L6_b {cx : HCx} (hg : HGood cx R_Graph b_Graph_place 6 3 none) (hA : h_own cx)  (rec_ : Nat → Nat → Int32 → Int32 → Int32 → HMem → Option (Unit × HMem)) (hrec_ : p_Graph_place_6 cx rec_) (a0 : Nat) (h_a0 : HIsG a0) (a1 : Nat) (h_a1 : HIsG a1) (v2 : Int32) (v4 : Int32) (v5 : Int32) (μ : HMem) : HX cx (HQ cx h_eV) (f_Graph_place_L6_b  rec_ a0 a1 v2 v4 v5 μ) 0 0 6 [(0, .ref a0), (1, .ref a1), (2, .int v2), (4, .int v4), (5, .int v5)] [] μ := by
  unfold f_Graph_place_L6_b
  refine r_iload hg 4 d_Graph_place_6 rfl ?_
  refine r_aload_n hg 1 d_Graph_place_8 rfl rfl ?_
  refine r_get (v := .int (μ.1 a1 0)) hg c_Graph (h_G_lt h_a1) (h_G_kd h_a1) (Nat.le_of_ble_eq_true rfl) (h_G_fl0 h_a1) wf_Graph_21 d_Graph_place_9 rfl ?_
  refine r_icmp_ge (tgt := 57) hg d_Graph_place_12 (by decide) ?_ ?_
  · exact r_vret hg hA rfl d_Graph_place_57 rfl
  · refine r_iload_n hg 2 d_Graph_place_15 rfl rfl ?_
    refine r_iload hg 4 d_Graph_place_16 rfl ?_
    refine r_callN (As := [.int v2, .int v5]) (host := "HomBench") hg (t_Bench_has v2 v5 μ) v_Bench_has (by decide) d_Graph_place_18 rfl ⟨by decide, by decide⟩ (Nat.le_of_ble_eq_true rfl) rfl (fun r18 μ_18 _ => ?_)
    refine r_if_eq (tgt := 51) hg d_Graph_place_21 (by decide) ?_ ?_
    · exact t_Graph_place_J51 hg hA rec_ hrec_ a0 h_a0 a1 h_a1 v2 v4 v5 μ_18
    · refine r_aload_n hg 0 d_Graph_place_24 rfl rfl ?_
      refine r_get (v := .ref (a0 + 1)) hg c_Graph (h_G_lt h_a0) (h_G_kd h_a0) (Nat.le_of_ble_eq_true rfl) (h_G_fl1 h_a0) wf_Graph_9 d_Graph_place_25 rfl ?_
      refine r_iload hg 3 d_Graph_place_28 rfl ?_
      refine r_aload_n hg 1 d_Graph_place_30 rfl rfl ?_
      refine r_get (v := .ref (a1 + 1)) hg c_Graph (h_G_lt h_a1) (h_G_kd h_a1) (Nat.le_of_ble_eq_true rfl) (h_G_fl1 h_a1) wf_Graph_9 d_Graph_place_31 rfl ?_
      refine r_iload hg 4 d_Graph_place_34 rfl ?_
      refine r_iald hg (h_G_lt1 h_a1) (h_G_kd1 h_a1) d_Graph_place_36 ?_
      refine r_iast hg (h_G_lt1 h_a0) (h_G_kd1 h_a0) d_Graph_place_37 ?_
      refine r_letM (fun μ_37 => ?_)
      refine r_aload_n hg 0 d_Graph_place_38 rfl rfl ?_
      refine r_aload_n hg 1 d_Graph_place_39 rfl rfl ?_
      refine r_iload_n hg 2 d_Graph_place_40 rfl rfl ?_
      refine r_iload hg 4 d_Graph_place_41 rfl ?_
      refine r_iload hg 3 d_Graph_place_43 rfl ?_
      refine r_callV (As := [.ref a1, .int v2, .int v5, .int v4]) hg (t_Graph_joinPlaced a0 h_a0 a1 h_a1 v2 v5 v4 μ_37) v_Graph_joinPlaced c_Graph rfl (h_G_lt h_a0) (h_G_kd h_a0) wm_Graph_59 d_Graph_place_45 rfl ⟨by decide, by decide⟩ (Nat.le_of_ble_eq_true rfl) rfl (fun r45 μ_45 _ => ?_)
      refine r_letE (fun v4_48 he_48 => ?_)
      refine r_iinc (v := v4_48) (l' := [(4, .int v4_48), (0, .ref a0), (1, .ref a1), (2, .int v2), (5, .int v5)]) hg 3 d_Graph_place_48 rfl he_48 (Nat.le_of_ble_eq_true rfl) rfl ?_
      refine r_sub [1, 2, 3, 0, 4] rfl ?_
      exact t_Graph_place_J51 hg hA rec_ hrec_ a0 h_a0 a1 h_a1 v2 v4_48 v5 μ_45
theorem t_Graph_place_L6 {cx : HCx} (hg : HGood cx R_Graph b_Graph_place 6 3 none) (hA : h_own cx)  : ∀ (fuel : Nat) (a0 : Nat) (h_a0 : HIsG a0) (a1 : Nat) (h_a1 : HIsG a1) (v2 : Int32) (v4 : Int32) (v5 : Int32) (μ : HMem), HX cx (HQ cx h_eV) (f_Graph_place_L6  fuel a0 a1 v2 v4 v5 μ) 0 0 6 [(0, .ref a0), (1, .ref a1), (2, .int v2), (4, .int v4), (5, .int v5)] [] μ
  | 0, _, _, _, _, _, _, _, _ => by unfold f_Graph_place_L6; exact HX.none
  | fuel + 1, a0, h_a0, a1, h_a1, v2, v4, v5, μ => by
    rw [f_Graph_place_L6]
    exact t_Graph_place_L6_b hg hA   (f_Graph_place_L6  fuel) (t_Graph_place_L6 hg hA   fuel) a0 h_a0 a1 h_a1 v2 v4 v5 μ
theorem t_Graph_place_0 {cx : HCx} (hg : HGood cx R_Graph b_Graph_place 6 3 none) (hA : h_own cx) (g : Nat) (h_g : HIsG g) (a1 : Nat) (h_a1 : HIsG a1) (v2 : Int32) (v3 : Int32) (μ : HMem) : HX cx (HQ cx h_eV) (f_Graph_place g a1 v2 v3 μ) 0 0 0 [(0, .ref g), (1, .ref a1), (2, .int v2), (3, .int v3)] [] μ := by
  unfold f_Graph_place
  refine r_iload_n hg 3 d_Graph_place_0 rfl rfl ?_
  refine r_istore (l' := [(4, .int v3), (0, .ref g), (1, .ref a1), (2, .int v2), (3, .int v3)]) hg d_Graph_place_1 (Nat.le_of_ble_eq_true rfl) rfl ?_
  refine r_iconst (v := 0) hg d_Graph_place_3 (by decide) ?_
  refine r_istore (l' := [(5, .int 0), (4, .int v3), (0, .ref g), (1, .ref a1), (2, .int v2), (3, .int v3)]) hg d_Graph_place_4 (Nat.le_of_ble_eq_true rfl) rfl ?_
  refine r_sub [2, 3, 4, 1, 0] rfl ?_
  exact t_Graph_place_L6 hg hA h_fuel g h_g a1 h_a1 v2 v3 0 μ
theorem t_Graph_place (g : Nat) (h_g : HIsG g) (a1 : Nat) (h_a1 : HIsG a1) (v2 : Int32) (v3 : Int32) (μ : HMem) : HSpec y_Graph_place b_Graph_place 6 none 3 h_eV [.ref g, .ref a1, .int v2, .int v3] μ (f_Graph_place g a1 v2 v3 μ) :=
  HSpec.of (by decide +kernel) (v_Graph_place.1 _ (by simp)) (Nat.le_of_ble_eq_true rfl) (fun cx hA hg => t_Graph_place_0 hg hA g h_g a1 h_a1 v2 v3 μ)
theorem t_Graph_induce_0 {cx : HCx} (hg : HGood cx R_Graph b_Graph_induce 3 4 none) (hA : h_own cx) (g : Nat) (h_g : HIsG g) (a1 : Nat) (h_a1 : HIsG a1) (v2 : Int32) (μ : HMem) : HX cx (HQ cx h_eV) (f_Graph_induce g a1 v2 μ) 0 0 0 [(0, .ref g), (1, .ref a1), (2, .int v2)] [] μ := by
  unfold f_Graph_induce
  refine r_aload_n hg 0 d_Graph_induce_0 rfl rfl ?_
  refine r_iload_n hg 2 d_Graph_induce_1 rfl rfl ?_
  refine r_callS (As := [.int v2]) hg (t_Integer_bitCount v2 μ) v_Integer_bitCount wm_Graph_67 d_Graph_induce_2 rfl ⟨by decide, by decide⟩ (Nat.le_of_ble_eq_true rfl) rfl (fun r2 μ_2 _ => ?_)
  refine r_callV (As := [.int r2]) hg (t_Graph_reset g h_g r2 μ_2) v_Graph_reset c_Graph rfl (h_G_lt h_g) (h_G_kd h_g) wm_Graph_73 d_Graph_induce_5 rfl ⟨by decide, by decide⟩ (Nat.le_of_ble_eq_true rfl) rfl (fun r5 μ_5 _ => ?_)
  refine r_aload_n hg 0 d_Graph_induce_8 rfl rfl ?_
  refine r_aload_n hg 1 d_Graph_induce_9 rfl rfl ?_
  refine r_iload_n hg 2 d_Graph_induce_10 rfl rfl ?_
  refine r_iconst (v := 0) hg d_Graph_induce_11 (by decide) ?_
  refine r_callV (As := [.ref a1, .int v2, .int 0]) hg (t_Graph_place g h_g a1 h_a1 v2 0 μ_5) v_Graph_place c_Graph rfl (h_G_lt h_g) (h_G_kd h_g) wm_Graph_77 d_Graph_induce_12 rfl ⟨by decide, by decide⟩ (Nat.le_of_ble_eq_true rfl) rfl (fun r12 μ_12 _ => ?_)
  exact r_vret hg hA rfl d_Graph_induce_15 rfl
theorem t_Graph_induce (g : Nat) (h_g : HIsG g) (a1 : Nat) (h_a1 : HIsG a1) (v2 : Int32) (μ : HMem) : HSpec y_Graph_induce b_Graph_induce 3 none 4 h_eV [.ref g, .ref a1, .int v2] μ (f_Graph_induce g a1 v2 μ) :=
  HSpec.of (by decide +kernel) (v_Graph_induce.1 _ (by simp)) (Nat.le_of_ble_eq_true rfl) (fun cx hA hg => t_Graph_induce_0 hg hA g h_g a1 h_a1 v2 μ)
theorem t_Graph_complement_J54 {cx : HCx} (hg : HGood cx R_Graph b_Graph_complement 4 3 none) (hA : h_own cx)  (rec_ : Nat → Nat → Int32 → Int32 → HMem → Option (Unit × HMem)) (hrec_ : p_Graph_complement_32 cx rec_) (a0 : Nat) (h_a0 : HIsG a0) (a1 : Nat) (h_a1 : HIsG a1) (v2 : Int32) (v3 : Int32) (s0 : Int32) (s1 : Int32) (s2 : Int32) (b3 : Nat) (h_b3 : HIsG b3) (μ : HMem) : HX cx (HQ cx h_eV) (f_Graph_complement_J54  rec_ a0 a1 v2 v3 s0 s1 s2 b3 μ) 0 0 54 [(0, .ref a0), (1, .ref a1), (2, .int v2), (3, .int v3)] [.int s0, .int s1, .int s2, .ref b3] μ := by
  unfold f_Graph_complement_J54
  refine r_callV (As := [.int s2, .int s1, .int s0]) hg (t_Graph_join b3 h_b3 s2 s1 s0 μ) v_Graph_join c_Graph rfl (h_G_lt h_b3) (h_G_kd h_b3) wm_Graph_41 d_Graph_complement_54 rfl ⟨by decide, by decide⟩ (Nat.le_of_ble_eq_true rfl) rfl (fun r54 μ_54 _ => ?_)
  refine r_letE (fun v3_57 he_57 => ?_)
  refine r_iinc (v := v3_57) (l' := [(3, .int v3_57), (0, .ref a0), (1, .ref a1), (2, .int v2)]) hg 3 d_Graph_complement_57 rfl he_57 (Nat.le_of_ble_eq_true rfl) rfl ?_
  refine r_goto (tgt := 32) hg d_Graph_complement_60 (by decide) ?_
  refine r_sub [1, 2, 3, 0] rfl ?_
  exact hrec_ a0 h_a0 a1 h_a1 v2 v3_57 μ_54
theorem t_Graph_complement_L32_b {cx : HCx} (hg : HGood cx R_Graph b_Graph_complement 4 3 none) (hA : h_own cx) (K63 : Nat → Nat → Int32 → HMem → Option (Unit × HMem)) (hK63 : p_Graph_complement_63 cx K63) (rec_ : Nat → Nat → Int32 → Int32 → HMem → Option (Unit × HMem)) (hrec_ : p_Graph_complement_32 cx rec_) (a0 : Nat) (h_a0 : HIsG a0) (a1 : Nat) (h_a1 : HIsG a1) (v2 : Int32) (v3 : Int32) (μ : HMem) : HX cx (HQ cx h_eV) (f_Graph_complement_L32_b K63 rec_ a0 a1 v2 v3 μ) 0 0 32 [(0, .ref a0), (1, .ref a1), (2, .int v2), (3, .int v3)] [] μ := by
  unfold f_Graph_complement_L32_b
  refine r_iload_n hg 3 d_Graph_complement_32 rfl rfl ?_
  refine r_iload_n hg 2 d_Graph_complement_33 rfl rfl ?_
  refine r_icmp_ge (tgt := 63) hg d_Graph_complement_34 (by decide) ?_ ?_
  · refine r_sub [0, 1, 2] rfl ?_
    exact hK63 a0 h_a0 a1 h_a1 v2 μ
  · refine r_aload_n hg 0 d_Graph_complement_37 rfl rfl ?_
    refine r_iload_n hg 2 d_Graph_complement_38 rfl rfl ?_
    refine r_iload_n hg 3 d_Graph_complement_39 rfl rfl ?_
    refine r_aload_n hg 1 d_Graph_complement_40 rfl rfl ?_
    refine r_iload_n hg 2 d_Graph_complement_41 rfl rfl ?_
    refine r_iload_n hg 3 d_Graph_complement_42 rfl rfl ?_
    refine r_callV (As := [.int v2, .int v3]) hg (t_Graph_between a1 h_a1 v2 v3 μ) v_Graph_between c_Graph rfl (h_G_lt h_a1) (h_G_kd h_a1) wm_Graph_63 d_Graph_complement_43 rfl ⟨by decide, by decide⟩ (Nat.le_of_ble_eq_true rfl) rfl (fun r43 μ_43 _ => ?_)
    refine r_if_ne (tgt := 53) hg d_Graph_complement_46 (by decide) ?_ ?_
    · refine r_iconst (v := 0) hg d_Graph_complement_53 (by decide) ?_
      exact t_Graph_complement_J54 hg hA rec_ hrec_ a0 h_a0 a1 h_a1 v2 v3 0 v3 v2 a0 h_a0 μ_43
    · refine r_iconst (v := 1) hg d_Graph_complement_49 (by decide) ?_
      refine r_goto (tgt := 54) hg d_Graph_complement_50 (by decide) ?_
      exact t_Graph_complement_J54 hg hA rec_ hrec_ a0 h_a0 a1 h_a1 v2 v3 1 v3 v2 a0 h_a0 μ_43
theorem t_Graph_complement_L32 {cx : HCx} (hg : HGood cx R_Graph b_Graph_complement 4 3 none) (hA : h_own cx) (K63 : Nat → Nat → Int32 → HMem → Option (Unit × HMem)) (hK63 : p_Graph_complement_63 cx K63) : ∀ (fuel : Nat) (a0 : Nat) (h_a0 : HIsG a0) (a1 : Nat) (h_a1 : HIsG a1) (v2 : Int32) (v3 : Int32) (μ : HMem), HX cx (HQ cx h_eV) (f_Graph_complement_L32 K63 fuel a0 a1 v2 v3 μ) 0 0 32 [(0, .ref a0), (1, .ref a1), (2, .int v2), (3, .int v3)] [] μ
  | 0, _, _, _, _, _, _, _ => by unfold f_Graph_complement_L32; exact HX.none
  | fuel + 1, a0, h_a0, a1, h_a1, v2, v3, μ => by
    rw [f_Graph_complement_L32]
    exact t_Graph_complement_L32_b hg hA  K63 hK63 (f_Graph_complement_L32 K63 fuel) (t_Graph_complement_L32 hg hA  K63 hK63 fuel) a0 h_a0 a1 h_a1 v2 v3 μ
theorem t_Graph_complement_J63 {cx : HCx} (hg : HGood cx R_Graph b_Graph_complement 4 3 none) (hA : h_own cx)  (rec_ : Nat → Nat → Int32 → HMem → Option (Unit × HMem)) (hrec_ : p_Graph_complement_10 cx rec_) (a0 : Nat) (h_a0 : HIsG a0) (a1 : Nat) (h_a1 : HIsG a1) (v2 : Int32) (μ : HMem) : HX cx (HQ cx h_eV) (f_Graph_complement_J63  rec_ a0 a1 v2 μ) 0 0 63 [(0, .ref a0), (1, .ref a1), (2, .int v2)] [] μ := by
  unfold f_Graph_complement_J63
  refine r_letE (fun v2_63 he_63 => ?_)
  refine r_iinc (v := v2_63) (l' := [(2, .int v2_63), (0, .ref a0), (1, .ref a1)]) hg 2 d_Graph_complement_63 rfl he_63 (Nat.le_of_ble_eq_true rfl) rfl ?_
  refine r_goto (tgt := 10) hg d_Graph_complement_66 (by decide) ?_
  refine r_sub [1, 2, 0] rfl ?_
  exact hrec_ a0 h_a0 a1 h_a1 v2_63 μ
theorem t_Graph_complement_L10_b {cx : HCx} (hg : HGood cx R_Graph b_Graph_complement 4 3 none) (hA : h_own cx)  (rec_ : Nat → Nat → Int32 → HMem → Option (Unit × HMem)) (hrec_ : p_Graph_complement_10 cx rec_) (a0 : Nat) (h_a0 : HIsG a0) (a1 : Nat) (h_a1 : HIsG a1) (v2 : Int32) (μ : HMem) : HX cx (HQ cx h_eV) (f_Graph_complement_L10_b  rec_ a0 a1 v2 μ) 0 0 10 [(0, .ref a0), (1, .ref a1), (2, .int v2)] [] μ := by
  unfold f_Graph_complement_L10_b
  refine r_iload_n hg 2 d_Graph_complement_10 rfl rfl ?_
  refine r_aload_n hg 0 d_Graph_complement_11 rfl rfl ?_
  refine r_get (v := .int (μ.1 a0 0)) hg c_Graph (h_G_lt h_a0) (h_G_kd h_a0) (Nat.le_of_ble_eq_true rfl) (h_G_fl0 h_a0) wf_Graph_21 d_Graph_complement_12 rfl ?_
  refine r_icmp_ge (tgt := 69) hg d_Graph_complement_15 (by decide) ?_ ?_
  · exact r_vret hg hA rfl d_Graph_complement_69 rfl
  · refine r_aload_n hg 0 d_Graph_complement_18 rfl rfl ?_
    refine r_get (v := .ref (a0 + 1)) hg c_Graph (h_G_lt h_a0) (h_G_kd h_a0) (Nat.le_of_ble_eq_true rfl) (h_G_fl1 h_a0) wf_Graph_9 d_Graph_complement_19 rfl ?_
    refine r_iload_n hg 2 d_Graph_complement_22 rfl rfl ?_
    refine r_aload_n hg 1 d_Graph_complement_23 rfl rfl ?_
    refine r_get (v := .ref (a1 + 1)) hg c_Graph (h_G_lt h_a1) (h_G_kd h_a1) (Nat.le_of_ble_eq_true rfl) (h_G_fl1 h_a1) wf_Graph_9 d_Graph_complement_24 rfl ?_
    refine r_iload_n hg 2 d_Graph_complement_27 rfl rfl ?_
    refine r_iald hg (h_G_lt1 h_a1) (h_G_kd1 h_a1) d_Graph_complement_28 ?_
    refine r_iast hg (h_G_lt1 h_a0) (h_G_kd1 h_a0) d_Graph_complement_29 ?_
    refine r_letM (fun μ_29 => ?_)
    refine r_iconst (v := 0) hg d_Graph_complement_30 (by decide) ?_
    refine r_istore_n (l' := [(3, .int 0), (0, .ref a0), (1, .ref a1), (2, .int v2)]) hg d_Graph_complement_31 rfl (Nat.le_of_ble_eq_true rfl) rfl ?_
    refine r_sub [1, 2, 3, 0] rfl ?_
    exact t_Graph_complement_L32 hg hA (f_Graph_complement_J63 rec_) (t_Graph_complement_J63 hg hA rec_ hrec_) h_fuel a0 h_a0 a1 h_a1 v2 0 μ_29
theorem t_Graph_complement_L10 {cx : HCx} (hg : HGood cx R_Graph b_Graph_complement 4 3 none) (hA : h_own cx)  : ∀ (fuel : Nat) (a0 : Nat) (h_a0 : HIsG a0) (a1 : Nat) (h_a1 : HIsG a1) (v2 : Int32) (μ : HMem), HX cx (HQ cx h_eV) (f_Graph_complement_L10  fuel a0 a1 v2 μ) 0 0 10 [(0, .ref a0), (1, .ref a1), (2, .int v2)] [] μ
  | 0, _, _, _, _, _, _ => by unfold f_Graph_complement_L10; exact HX.none
  | fuel + 1, a0, h_a0, a1, h_a1, v2, μ => by
    rw [f_Graph_complement_L10]
    exact t_Graph_complement_L10_b hg hA   (f_Graph_complement_L10  fuel) (t_Graph_complement_L10 hg hA   fuel) a0 h_a0 a1 h_a1 v2 μ
theorem t_Graph_complement_0 {cx : HCx} (hg : HGood cx R_Graph b_Graph_complement 4 3 none) (hA : h_own cx) (g : Nat) (h_g : HIsG g) (a1 : Nat) (h_a1 : HIsG a1) (μ : HMem) : HX cx (HQ cx h_eV) (f_Graph_complement g a1 μ) 0 0 0 [(0, .ref g), (1, .ref a1)] [] μ := by
  unfold f_Graph_complement
  refine r_aload_n hg 0 d_Graph_complement_0 rfl rfl ?_
  refine r_aload_n hg 1 d_Graph_complement_1 rfl rfl ?_
  refine r_get (v := .int (μ.1 a1 0)) hg c_Graph (h_G_lt h_a1) (h_G_kd h_a1) (Nat.le_of_ble_eq_true rfl) (h_G_fl0 h_a1) wf_Graph_21 d_Graph_complement_2 rfl ?_
  refine r_callV (As := [.int (μ.1 a1 0)]) hg (t_Graph_reset g h_g (μ.1 a1 0) μ) v_Graph_reset c_Graph rfl (h_G_lt h_g) (h_G_kd h_g) wm_Graph_73 d_Graph_complement_5 rfl ⟨by decide, by decide⟩ (Nat.le_of_ble_eq_true rfl) rfl (fun r5 μ_5 _ => ?_)
  refine r_iconst (v := 0) hg d_Graph_complement_8 (by decide) ?_
  refine r_istore_n (l' := [(2, .int 0), (0, .ref g), (1, .ref a1)]) hg d_Graph_complement_9 rfl (Nat.le_of_ble_eq_true rfl) rfl ?_
  refine r_sub [1, 2, 0] rfl ?_
  exact t_Graph_complement_L10 hg hA h_fuel g h_g a1 h_a1 0 μ_5
theorem t_Graph_complement (g : Nat) (h_g : HIsG g) (a1 : Nat) (h_a1 : HIsG a1) (μ : HMem) : HSpec y_Graph_complement b_Graph_complement 4 none 3 h_eV [.ref g, .ref a1] μ (f_Graph_complement g a1 μ) :=
  HSpec.of (by decide +kernel) (v_Graph_complement.1 _ (by simp)) (Nat.le_of_ble_eq_true rfl) (fun cx hA hg => t_Graph_complement_0 hg hA g h_g a1 h_a1 μ)
theorem t_Graph_step_J19 {cx : HCx} (hg : HGood cx R_Graph b_Graph_step 4 2 (some .int)) (hA : h_own cx)   (s0 : Int32) (μ : HMem) : HX cx (HQ cx h_eI) (f_Graph_step_J19   s0 μ) 0 0 19 [] [.int s0] μ := by
  unfold f_Graph_step_J19
  exact r_iret hg hA rfl d_Graph_step_19 rfl
theorem t_Graph_step_J13 {cx : HCx} (hg : HGood cx R_Graph b_Graph_step 4 2 (some .int)) (hA : h_own cx)   (a0 : Nat) (h_a0 : HIsG a0) (v1 : Int32) (v2 : Int32) (μ : HMem) : HX cx (HQ cx h_eI) (f_Graph_step_J13   a0 v1 v2 μ) 0 0 13 [(0, .ref a0), (1, .int v1), (2, .int v2)] [] μ := by
  unfold f_Graph_step_J13
  refine r_aload_n hg 0 d_Graph_step_13 rfl rfl ?_
  refine r_iload_n hg 1 d_Graph_step_14 rfl rfl ?_
  refine r_iload_n hg 2 d_Graph_step_15 rfl rfl ?_
  refine r_callV (As := [.int v1, .int v2]) hg (t_Graph_between a0 h_a0 v1 v2 μ) v_Graph_between c_Graph rfl (h_G_lt h_a0) (h_G_kd h_a0) wm_Graph_63 d_Graph_step_16 rfl ⟨by decide, by decide⟩ (Nat.le_of_ble_eq_true rfl) rfl (fun r16 μ_16 _ => ?_)
  refine r_sub [] rfl ?_
  exact t_Graph_step_J19 hg hA r16 μ_16
theorem t_Graph_step_0 {cx : HCx} (hg : HGood cx R_Graph b_Graph_step 4 2 (some .int)) (hA : h_own cx) (g : Nat) (h_g : HIsG g) (v1 : Int32) (v2 : Int32) (v3 : Int32) (μ : HMem) : HX cx (HQ cx h_eI) (f_Graph_step g v1 v2 v3 μ) 0 0 0 [(0, .ref g), (1, .int v1), (2, .int v2), (3, .int v3)] [] μ := by
  unfold f_Graph_step
  refine r_iload_n hg 3 d_Graph_step_0 rfl rfl ?_
  refine r_if_eq (tgt := 13) hg d_Graph_step_1 (by decide) ?_ ?_
  · refine r_sub [0, 1, 2] rfl ?_
    exact t_Graph_step_J13 hg hA g h_g v1 v2 μ
  · refine r_iload_n hg 1 d_Graph_step_4 rfl rfl ?_
    refine r_iload_n hg 2 d_Graph_step_5 rfl rfl ?_
    refine r_icmp_ne (tgt := 13) hg d_Graph_step_6 (by decide) ?_ ?_
    · refine r_sub [0, 1, 2] rfl ?_
      exact t_Graph_step_J13 hg hA g h_g v1 v2 μ
    · refine r_iconst (v := 1) hg d_Graph_step_9 (by decide) ?_
      refine r_goto (tgt := 19) hg d_Graph_step_10 (by decide) ?_
      refine r_sub [] rfl ?_
      exact t_Graph_step_J19 hg hA 1 μ
theorem t_Graph_step (g : Nat) (h_g : HIsG g) (v1 : Int32) (v2 : Int32) (v3 : Int32) (μ : HMem) : HSpec y_Graph_step b_Graph_step 4 (some .int) 2 h_eI [.ref g, .int v1, .int v2, .int v3] μ (f_Graph_step g v1 v2 v3 μ) :=
  HSpec.of (by decide +kernel) (v_Graph_step.1 _ (by simp)) (Nat.le_of_ble_eq_true rfl) (fun cx hA hg => t_Graph_step_0 hg hA g h_g v1 v2 v3 μ)
theorem t_Graph_joinPair_L15_b {cx : HCx} (hg : HGood cx R_Graph b_Graph_joinPair 9 3 none) (hA : h_own cx) (K81 : Nat → Nat → Nat → Int32 → Int32 → Int32 → Int32 → HMem → Option (Unit × HMem)) (hK81 : p_Graph_joinPair_81 cx K81) (rec_ : Nat → Nat → Nat → Int32 → Int32 → Int32 → Int32 → Int32 → HMem → Option (Unit × HMem)) (hrec_ : p_Graph_joinPair_15 cx rec_) (a0 : Nat) (h_a0 : HIsG a0) (a1 : Nat) (h_a1 : HIsG a1) (a2 : Nat) (h_a2 : HIsG a2) (v3 : Int32) (v4 : Int32) (v5 : Int32) (v6 : Int32) (v7 : Int32) (μ : HMem) : HX cx (HQ cx h_eV) (f_Graph_joinPair_L15_b K81 rec_ a0 a1 a2 v3 v4 v5 v6 v7 μ) 0 0 15 [(0, .ref a0), (1, .ref a1), (2, .ref a2), (3, .int v3), (4, .int v4), (5, .int v5), (6, .int v6), (7, .int v7)] [] μ := by
  unfold f_Graph_joinPair_L15_b
  refine r_iload hg 7 d_Graph_joinPair_15 rfl ?_
  refine r_aload_n hg 2 d_Graph_joinPair_17 rfl rfl ?_
  refine r_get (v := .int (μ.1 a2 0)) hg c_Graph (h_G_lt h_a2) (h_G_kd h_a2) (Nat.le_of_ble_eq_true rfl) (h_G_fl0 h_a2) wf_Graph_21 d_Graph_joinPair_18 rfl ?_
  refine r_icmp_ge (tgt := 81) hg d_Graph_joinPair_21 (by decide) ?_ ?_
  · refine r_sub [0, 1, 2, 3, 4, 5, 6] rfl ?_
    exact hK81 a0 h_a0 a1 h_a1 a2 h_a2 v3 v4 v5 v6 μ
  · refine r_aload_n hg 1 d_Graph_joinPair_24 rfl rfl ?_
    refine r_iload_n hg 3 d_Graph_joinPair_25 rfl rfl ?_
    refine r_iload hg 6 d_Graph_joinPair_26 rfl ?_
    refine r_iload hg 5 d_Graph_joinPair_28 rfl ?_
    refine r_callV (As := [.int v3, .int v6, .int v5]) hg (t_Graph_step a1 h_a1 v3 v6 v5 μ) v_Graph_step c_Graph rfl (h_G_lt h_a1) (h_G_kd h_a1) wm_Graph_88 d_Graph_joinPair_30 rfl ⟨by decide, by decide⟩ (Nat.le_of_ble_eq_true rfl) rfl (fun r30 μ_30 _ => ?_)
    refine r_aload_n hg 2 d_Graph_joinPair_33 rfl rfl ?_
    refine r_iload hg 4 d_Graph_joinPair_34 rfl ?_
    refine r_iload hg 7 d_Graph_joinPair_36 rfl ?_
    refine r_iload hg 5 d_Graph_joinPair_38 rfl ?_
    refine r_callV (As := [.int v4, .int v7, .int v5]) hg (t_Graph_step a2 h_a2 v4 v7 v5 μ_30) v_Graph_step c_Graph rfl (h_G_lt h_a2) (h_G_kd h_a2) wm_Graph_88 d_Graph_joinPair_40 rfl ⟨by decide, by decide⟩ (Nat.le_of_ble_eq_true rfl) rfl (fun r40 μ_40 _ => ?_)
    refine r_imul hg d_Graph_joinPair_43 ?_
    refine r_letI (fun v8_44 => ?_)
    refine r_istore (l' := [(8, .int v8_44), (0, .ref a0), (1, .ref a1), (2, .ref a2), (3, .int v3), (4, .int v4), (5, .int v5), (6, .int v6), (7, .int v7)]) hg d_Graph_joinPair_44 (Nat.le_of_ble_eq_true rfl) rfl ?_
    refine r_aload_n hg 1 d_Graph_joinPair_46 rfl rfl ?_
    refine r_aload_n hg 3 d_Graph_joinPair_47 rfl rfl ?_
    refine r_get (v := .int (μ_40.1 a2 0)) hg c_Graph (h_G_lt h_a2) (h_G_kd h_a2) (Nat.le_of_ble_eq_true rfl) (h_G_fl0 h_a2) wf_Graph_21 d_Graph_joinPair_48 rfl ?_
    refine r_iload_n hg 4 d_Graph_joinPair_51 rfl rfl ?_
    refine r_imul hg d_Graph_joinPair_52 ?_
    refine r_iload hg 5 d_Graph_joinPair_53 rfl ?_
    refine r_iadd hg d_Graph_joinPair_55 ?_
    refine r_aload_n hg 3 d_Graph_joinPair_56 rfl rfl ?_
    refine r_get (v := .int (μ_40.1 a2 0)) hg c_Graph (h_G_lt h_a2) (h_G_kd h_a2) (Nat.le_of_ble_eq_true rfl) (h_G_fl0 h_a2) wf_Graph_21 d_Graph_joinPair_57 rfl ?_
    refine r_iload hg 7 d_Graph_joinPair_60 rfl ?_
    refine r_imul hg d_Graph_joinPair_62 ?_
    refine r_iload hg 8 d_Graph_joinPair_63 rfl ?_
    refine r_iadd hg d_Graph_joinPair_65 ?_
    refine r_iload hg 0 d_Graph_joinPair_66 rfl ?_
    refine r_iconst (v := 2) hg d_Graph_joinPair_68 (by decide) ?_
    refine r_callN (As := [.int v8_44, .int 2]) (host := "HomBench") hg (t_Bench_limited v8_44 2 μ_40) v_Bench_limited (by decide) d_Graph_joinPair_69 rfl ⟨by decide, by decide⟩ (Nat.le_of_ble_eq_true rfl) rfl (fun r69 μ_69 _ => ?_)
    refine r_callV (As := [.int (((μ_40.1 a2 0) * v3) + v4), .int (((μ_40.1 a2 0) * v6) + v7), .int r69]) hg (t_Graph_join a0 h_a0 (((μ_40.1 a2 0) * v3) + v4) (((μ_40.1 a2 0) * v6) + v7) r69 μ_69) v_Graph_join c_Graph rfl (h_G_lt h_a0) (h_G_kd h_a0) wm_Graph_41 d_Graph_joinPair_72 rfl ⟨by decide, by decide⟩ (Nat.le_of_ble_eq_true rfl) rfl (fun r72 μ_72 _ => ?_)
    refine r_letE (fun v7_75 he_75 => ?_)
    refine r_iinc (v := v7_75) (l' := [(7, .int v7_75), (8, .int v8_44), (0, .ref a0), (1, .ref a1), (2, .ref a2), (3, .int v3), (4, .int v4), (5, .int v5), (6, .int v6)]) hg 8 d_Graph_joinPair_75 rfl he_75 (Nat.le_of_ble_eq_true rfl) rfl ?_
    refine r_goto (tgt := 15) hg d_Graph_joinPair_78 (by decide) ?_
    refine r_sub [2, 3, 4, 5, 6, 7, 8, 0] rfl ?_
    exact hrec_ a0 h_a0 a1 h_a1 a2 h_a2 v3 v4 v5 v6 v7_75 μ_72
theorem t_Graph_joinPair_L15 {cx : HCx} (hg : HGood cx R_Graph b_Graph_joinPair 9 3 none) (hA : h_own cx) (K81 : Nat → Nat → Nat → Int32 → Int32 → Int32 → Int32 → HMem → Option (Unit × HMem)) (hK81 : p_Graph_joinPair_81 cx K81) : ∀ (fuel : Nat) (a0 : Nat) (h_a0 : HIsG a0) (a1 : Nat) (h_a1 : HIsG a1) (a2 : Nat) (h_a2 : HIsG a2) (v3 : Int32) (v4 : Int32) (v5 : Int32) (v6 : Int32) (v7 : Int32) (μ : HMem), HX cx (HQ cx h_eV) (f_Graph_joinPair_L15 K81 fuel a0 a1 a2 v3 v4 v5 v6 v7 μ) 0 0 15 [(0, .ref a0), (1, .ref a1), (2, .ref a2), (3, .int v3), (4, .int v4), (5, .int v5), (6, .int v6), (7, .int v7)] [] μ
  | 0, _, _, _, _, _, _, _, _, _, _, _, _ => by unfold f_Graph_joinPair_L15; exact HX.none
  | fuel + 1, a0, h_a0, a1, h_a1, a2, h_a2, v3, v4, v5, v6, v7, μ => by
    rw [f_Graph_joinPair_L15]
    exact t_Graph_joinPair_L15_b hg hA  K81 hK81 (f_Graph_joinPair_L15 K81 fuel) (t_Graph_joinPair_L15 hg hA  K81 hK81 fuel) a0 h_a0 a1 h_a1 a2 h_a2 v3 v4 v5 v6 v7 μ
theorem t_Graph_joinPair_J81 {cx : HCx} (hg : HGood cx R_Graph b_Graph_joinPair 9 3 none) (hA : h_own cx)  (rec_ : Nat → Nat → Nat → Int32 → Int32 → Int32 → Int32 → HMem → Option (Unit × HMem)) (hrec_ : p_Graph_joinPair_3 cx rec_) (a0 : Nat) (h_a0 : HIsG a0) (a1 : Nat) (h_a1 : HIsG a1) (a2 : Nat) (h_a2 : HIsG a2) (v3 : Int32) (v4 : Int32) (v5 : Int32) (v6 : Int32) (μ : HMem) : HX cx (HQ cx h_eV) (f_Graph_joinPair_J81  rec_ a0 a1 a2 v3 v4 v5 v6 μ) 0 0 81 [(0, .ref a0), (1, .ref a1), (2, .ref a2), (3, .int v3), (4, .int v4), (5, .int v5), (6, .int v6)] [] μ := by
  unfold f_Graph_joinPair_J81
  refine r_letE (fun v6_81 he_81 => ?_)
  refine r_iinc (v := v6_81) (l' := [(6, .int v6_81), (0, .ref a0), (1, .ref a1), (2, .ref a2), (3, .int v3), (4, .int v4), (5, .int v5)]) hg 6 d_Graph_joinPair_81 rfl he_81 (Nat.le_of_ble_eq_true rfl) rfl ?_
  refine r_goto (tgt := 3) hg d_Graph_joinPair_84 (by decide) ?_
  refine r_sub [1, 2, 3, 4, 5, 6, 0] rfl ?_
  exact hrec_ a0 h_a0 a1 h_a1 a2 h_a2 v3 v4 v5 v6_81 μ
theorem t_Graph_joinPair_L3_b {cx : HCx} (hg : HGood cx R_Graph b_Graph_joinPair 9 3 none) (hA : h_own cx)  (rec_ : Nat → Nat → Nat → Int32 → Int32 → Int32 → Int32 → HMem → Option (Unit × HMem)) (hrec_ : p_Graph_joinPair_3 cx rec_) (a0 : Nat) (h_a0 : HIsG a0) (a1 : Nat) (h_a1 : HIsG a1) (a2 : Nat) (h_a2 : HIsG a2) (v3 : Int32) (v4 : Int32) (v5 : Int32) (v6 : Int32) (μ : HMem) : HX cx (HQ cx h_eV) (f_Graph_joinPair_L3_b  rec_ a0 a1 a2 v3 v4 v5 v6 μ) 0 0 3 [(0, .ref a0), (1, .ref a1), (2, .ref a2), (3, .int v3), (4, .int v4), (5, .int v5), (6, .int v6)] [] μ := by
  unfold f_Graph_joinPair_L3_b
  refine r_iload hg 6 d_Graph_joinPair_3 rfl ?_
  refine r_aload_n hg 1 d_Graph_joinPair_5 rfl rfl ?_
  refine r_get (v := .int (μ.1 a1 0)) hg c_Graph (h_G_lt h_a1) (h_G_kd h_a1) (Nat.le_of_ble_eq_true rfl) (h_G_fl0 h_a1) wf_Graph_21 d_Graph_joinPair_6 rfl ?_
  refine r_icmp_ge (tgt := 87) hg d_Graph_joinPair_9 (by decide) ?_ ?_
  · exact r_vret hg hA rfl d_Graph_joinPair_87 rfl
  · refine r_iconst (v := 0) hg d_Graph_joinPair_12 (by decide) ?_
    refine r_istore (l' := [(7, .int 0), (0, .ref a0), (1, .ref a1), (2, .ref a2), (3, .int v3), (4, .int v4), (5, .int v5), (6, .int v6)]) hg d_Graph_joinPair_13 (Nat.le_of_ble_eq_true rfl) rfl ?_
    refine r_sub [1, 2, 3, 4, 5, 6, 7, 0] rfl ?_
    exact t_Graph_joinPair_L15 hg hA (f_Graph_joinPair_J81 rec_) (t_Graph_joinPair_J81 hg hA rec_ hrec_) h_fuel a0 h_a0 a1 h_a1 a2 h_a2 v3 v4 v5 v6 0 μ
theorem t_Graph_joinPair_L3 {cx : HCx} (hg : HGood cx R_Graph b_Graph_joinPair 9 3 none) (hA : h_own cx)  : ∀ (fuel : Nat) (a0 : Nat) (h_a0 : HIsG a0) (a1 : Nat) (h_a1 : HIsG a1) (a2 : Nat) (h_a2 : HIsG a2) (v3 : Int32) (v4 : Int32) (v5 : Int32) (v6 : Int32) (μ : HMem), HX cx (HQ cx h_eV) (f_Graph_joinPair_L3  fuel a0 a1 a2 v3 v4 v5 v6 μ) 0 0 3 [(0, .ref a0), (1, .ref a1), (2, .ref a2), (3, .int v3), (4, .int v4), (5, .int v5), (6, .int v6)] [] μ
  | 0, _, _, _, _, _, _, _, _, _, _, _ => by unfold f_Graph_joinPair_L3; exact HX.none
  | fuel + 1, a0, h_a0, a1, h_a1, a2, h_a2, v3, v4, v5, v6, μ => by
    rw [f_Graph_joinPair_L3]
    exact t_Graph_joinPair_L3_b hg hA   (f_Graph_joinPair_L3  fuel) (t_Graph_joinPair_L3 hg hA   fuel) a0 h_a0 a1 h_a1 a2 h_a2 v3 v4 v5 v6 μ
theorem t_Graph_joinPair_0 {cx : HCx} (hg : HGood cx R_Graph b_Graph_joinPair 9 3 none) (hA : h_own cx) (g : Nat) (h_g : HIsG g) (a1 : Nat) (h_a1 : HIsG a1) (a2 : Nat) (h_a2 : HIsG a2) (v3 : Int32) (v4 : Int32) (v5 : Int32) (μ : HMem) : HX cx (HQ cx h_eV) (f_Graph_joinPair g a1 a2 v3 v4 v5 μ) 0 0 0 [(0, .ref g), (1, .ref a1), (2, .ref a2), (3, .int v3), (4, .int v4), (5, .int v5)] [] μ := by
  unfold f_Graph_joinPair
  refine r_iconst (v := 0) hg d_Graph_joinPair_0 (by decide) ?_
  refine r_istore (l' := [(6, .int 0), (0, .ref g), (1, .ref a1), (2, .ref a2), (3, .int v3), (4, .int v4), (5, .int v5)]) hg d_Graph_joinPair_1 (Nat.le_of_ble_eq_true rfl) rfl ?_
  refine r_sub [1, 2, 3, 4, 5, 6, 0] rfl ?_
  exact t_Graph_joinPair_L3 hg hA h_fuel g h_g a1 h_a1 a2 h_a2 v3 v4 v5 0 μ
theorem t_Graph_joinPair (g : Nat) (h_g : HIsG g) (a1 : Nat) (h_a1 : HIsG a1) (a2 : Nat) (h_a2 : HIsG a2) (v3 : Int32) (v4 : Int32) (v5 : Int32) (μ : HMem) : HSpec y_Graph_joinPair b_Graph_joinPair 9 none 3 h_eV [.ref g, .ref a1, .ref a2, .int v3, .int v4, .int v5] μ (f_Graph_joinPair g a1 a2 v3 v4 v5 μ) :=
  HSpec.of (by decide +kernel) (v_Graph_joinPair.1 _ (by simp)) (Nat.le_of_ble_eq_true rfl) (fun cx hA hg => t_Graph_joinPair_0 hg hA g h_g a1 h_a1 a2 h_a2 v3 v4 v5 μ)
theorem t_Graph_multiply_L15_b {cx : HCx} (hg : HGood cx R_Graph b_Graph_multiply 6 4 none) (hA : h_own cx) (K75 : Nat → Nat → Nat → Int32 → Int32 → HMem → Option (Unit × HMem)) (hK75 : p_Graph_multiply_75 cx K75) (rec_ : Nat → Nat → Nat → Int32 → Int32 → Int32 → HMem → Option (Unit × HMem)) (hrec_ : p_Graph_multiply_15 cx rec_) (a0 : Nat) (h_a0 : HIsG a0) (a1 : Nat) (h_a1 : HIsG a1) (a2 : Nat) (h_a2 : HIsG a2) (v3 : Int32) (v4 : Int32) (v5 : Int32) (μ : HMem) : HX cx (HQ cx h_eV) (f_Graph_multiply_L15_b K75 rec_ a0 a1 a2 v3 v4 v5 μ) 0 0 15 [(0, .ref a0), (1, .ref a1), (2, .ref a2), (3, .int v3), (4, .int v4), (5, .int v5)] [] μ := by
  unfold f_Graph_multiply_L15_b
  refine r_iload hg 5 d_Graph_multiply_15 rfl ?_
  refine r_aload_n hg 2 d_Graph_multiply_17 rfl rfl ?_
  refine r_get (v := .int (μ.1 a2 0)) hg c_Graph (h_G_lt h_a2) (h_G_kd h_a2) (Nat.le_of_ble_eq_true rfl) (h_G_fl0 h_a2) wf_Graph_21 d_Graph_multiply_18 rfl ?_
  refine r_icmp_ge (tgt := 75) hg d_Graph_multiply_21 (by decide) ?_ ?_
  · refine r_sub [0, 1, 2, 3, 4] rfl ?_
    exact hK75 a0 h_a0 a1 h_a1 a2 h_a2 v3 v4 μ
  · refine r_aload_n hg 0 d_Graph_multiply_24 rfl rfl ?_
    refine r_get (v := .ref (a0 + 1)) hg c_Graph (h_G_lt h_a0) (h_G_kd h_a0) (Nat.le_of_ble_eq_true rfl) (h_G_fl1 h_a0) wf_Graph_9 d_Graph_multiply_25 rfl ?_
    refine r_aload_n hg 2 d_Graph_multiply_28 rfl rfl ?_
    refine r_get (v := .int (μ.1 a2 0)) hg c_Graph (h_G_lt h_a2) (h_G_kd h_a2) (Nat.le_of_ble_eq_true rfl) (h_G_fl0 h_a2) wf_Graph_21 d_Graph_multiply_29 rfl ?_
    refine r_iload hg 4 d_Graph_multiply_32 rfl ?_
    refine r_imul hg d_Graph_multiply_34 ?_
    refine r_iload hg 5 d_Graph_multiply_35 rfl ?_
    refine r_iadd hg d_Graph_multiply_37 ?_
    refine r_aload_n hg 1 d_Graph_multiply_38 rfl rfl ?_
    refine r_get (v := .ref (a1 + 1)) hg c_Graph (h_G_lt h_a1) (h_G_kd h_a1) (Nat.le_of_ble_eq_true rfl) (h_G_fl1 h_a1) wf_Graph_9 d_Graph_multiply_39 rfl ?_
    refine r_iload hg 4 d_Graph_multiply_42 rfl ?_
    refine r_iald hg (h_G_lt1 h_a1) (h_G_kd1 h_a1) d_Graph_multiply_44 ?_
    refine r_aload_n hg 2 d_Graph_multiply_45 rfl rfl ?_
    refine r_get (v := .ref (a2 + 1)) hg c_Graph (h_G_lt h_a2) (h_G_kd h_a2) (Nat.le_of_ble_eq_true rfl) (h_G_fl1 h_a2) wf_Graph_9 d_Graph_multiply_46 rfl ?_
    refine r_iload hg 5 d_Graph_multiply_49 rfl ?_
    refine r_iald hg (h_G_lt1 h_a2) (h_G_kd1 h_a2) d_Graph_multiply_51 ?_
    refine r_imul hg d_Graph_multiply_52 ?_
    refine r_iconst (v := 3) hg d_Graph_multiply_53 (by decide) ?_
    refine r_callN (As := [.int ((μ.1 (a1 + 1) (Int32.toNatClampNeg (v4))) * (μ.1 (a2 + 1) (Int32.toNatClampNeg (v5)))), .int 3]) (host := "HomBench") hg (t_Bench_limited ((μ.1 (a1 + 1) (Int32.toNatClampNeg (v4))) * (μ.1 (a2 + 1) (Int32.toNatClampNeg (v5)))) 3 μ) v_Bench_limited (by decide) d_Graph_multiply_54 rfl ⟨by decide, by decide⟩ (Nat.le_of_ble_eq_true rfl) rfl (fun r54 μ_54 _ => ?_)
    refine r_iast hg (h_G_lt1 h_a0) (h_G_kd1 h_a0) d_Graph_multiply_57 ?_
    refine r_letM (fun μ_57 => ?_)
    refine r_aload_n hg 0 d_Graph_multiply_58 rfl rfl ?_
    refine r_aload_n hg 1 d_Graph_multiply_59 rfl rfl ?_
    refine r_aload_n hg 2 d_Graph_multiply_60 rfl rfl ?_
    refine r_iload hg 4 d_Graph_multiply_61 rfl ?_
    refine r_iload hg 5 d_Graph_multiply_63 rfl ?_
    refine r_iload_n hg 3 d_Graph_multiply_65 rfl rfl ?_
    refine r_callV (As := [.ref a1, .ref a2, .int v4, .int v5, .int v3]) hg (t_Graph_joinPair a0 h_a0 a1 h_a1 a2 h_a2 v4 v5 v3 μ_57) v_Graph_joinPair c_Graph rfl (h_G_lt h_a0) (h_G_kd h_a0) wm_Graph_84 d_Graph_multiply_66 rfl ⟨by decide, by decide⟩ (Nat.le_of_ble_eq_true rfl) rfl (fun r66 μ_66 _ => ?_)
    refine r_letE (fun v5_69 he_69 => ?_)
    refine r_iinc (v := v5_69) (l' := [(5, .int v5_69), (0, .ref a0), (1, .ref a1), (2, .ref a2), (3, .int v3), (4, .int v4)]) hg 5 d_Graph_multiply_69 rfl he_69 (Nat.le_of_ble_eq_true rfl) rfl ?_
    refine r_goto (tgt := 15) hg d_Graph_multiply_72 (by decide) ?_
    refine r_sub [1, 2, 3, 4, 5, 0] rfl ?_
    exact hrec_ a0 h_a0 a1 h_a1 a2 h_a2 v3 v4 v5_69 μ_66
theorem t_Graph_multiply_L15 {cx : HCx} (hg : HGood cx R_Graph b_Graph_multiply 6 4 none) (hA : h_own cx) (K75 : Nat → Nat → Nat → Int32 → Int32 → HMem → Option (Unit × HMem)) (hK75 : p_Graph_multiply_75 cx K75) : ∀ (fuel : Nat) (a0 : Nat) (h_a0 : HIsG a0) (a1 : Nat) (h_a1 : HIsG a1) (a2 : Nat) (h_a2 : HIsG a2) (v3 : Int32) (v4 : Int32) (v5 : Int32) (μ : HMem), HX cx (HQ cx h_eV) (f_Graph_multiply_L15 K75 fuel a0 a1 a2 v3 v4 v5 μ) 0 0 15 [(0, .ref a0), (1, .ref a1), (2, .ref a2), (3, .int v3), (4, .int v4), (5, .int v5)] [] μ
  | 0, _, _, _, _, _, _, _, _, _, _ => by unfold f_Graph_multiply_L15; exact HX.none
  | fuel + 1, a0, h_a0, a1, h_a1, a2, h_a2, v3, v4, v5, μ => by
    rw [f_Graph_multiply_L15]
    exact t_Graph_multiply_L15_b hg hA  K75 hK75 (f_Graph_multiply_L15 K75 fuel) (t_Graph_multiply_L15 hg hA  K75 hK75 fuel) a0 h_a0 a1 h_a1 a2 h_a2 v3 v4 v5 μ
theorem t_Graph_multiply_J75 {cx : HCx} (hg : HGood cx R_Graph b_Graph_multiply 6 4 none) (hA : h_own cx)  (rec_ : Nat → Nat → Nat → Int32 → Int32 → HMem → Option (Unit × HMem)) (hrec_ : p_Graph_multiply_3 cx rec_) (a0 : Nat) (h_a0 : HIsG a0) (a1 : Nat) (h_a1 : HIsG a1) (a2 : Nat) (h_a2 : HIsG a2) (v3 : Int32) (v4 : Int32) (μ : HMem) : HX cx (HQ cx h_eV) (f_Graph_multiply_J75  rec_ a0 a1 a2 v3 v4 μ) 0 0 75 [(0, .ref a0), (1, .ref a1), (2, .ref a2), (3, .int v3), (4, .int v4)] [] μ := by
  unfold f_Graph_multiply_J75
  refine r_letE (fun v4_75 he_75 => ?_)
  refine r_iinc (v := v4_75) (l' := [(4, .int v4_75), (0, .ref a0), (1, .ref a1), (2, .ref a2), (3, .int v3)]) hg 4 d_Graph_multiply_75 rfl he_75 (Nat.le_of_ble_eq_true rfl) rfl ?_
  refine r_goto (tgt := 3) hg d_Graph_multiply_78 (by decide) ?_
  refine r_sub [1, 2, 3, 4, 0] rfl ?_
  exact hrec_ a0 h_a0 a1 h_a1 a2 h_a2 v3 v4_75 μ
theorem t_Graph_multiply_L3_b {cx : HCx} (hg : HGood cx R_Graph b_Graph_multiply 6 4 none) (hA : h_own cx)  (rec_ : Nat → Nat → Nat → Int32 → Int32 → HMem → Option (Unit × HMem)) (hrec_ : p_Graph_multiply_3 cx rec_) (a0 : Nat) (h_a0 : HIsG a0) (a1 : Nat) (h_a1 : HIsG a1) (a2 : Nat) (h_a2 : HIsG a2) (v3 : Int32) (v4 : Int32) (μ : HMem) : HX cx (HQ cx h_eV) (f_Graph_multiply_L3_b  rec_ a0 a1 a2 v3 v4 μ) 0 0 3 [(0, .ref a0), (1, .ref a1), (2, .ref a2), (3, .int v3), (4, .int v4)] [] μ := by
  unfold f_Graph_multiply_L3_b
  refine r_iload hg 4 d_Graph_multiply_3 rfl ?_
  refine r_aload_n hg 1 d_Graph_multiply_5 rfl rfl ?_
  refine r_get (v := .int (μ.1 a1 0)) hg c_Graph (h_G_lt h_a1) (h_G_kd h_a1) (Nat.le_of_ble_eq_true rfl) (h_G_fl0 h_a1) wf_Graph_21 d_Graph_multiply_6 rfl ?_
  refine r_icmp_ge (tgt := 81) hg d_Graph_multiply_9 (by decide) ?_ ?_
  · exact r_vret hg hA rfl d_Graph_multiply_81 rfl
  · refine r_iconst (v := 0) hg d_Graph_multiply_12 (by decide) ?_
    refine r_istore (l' := [(5, .int 0), (0, .ref a0), (1, .ref a1), (2, .ref a2), (3, .int v3), (4, .int v4)]) hg d_Graph_multiply_13 (Nat.le_of_ble_eq_true rfl) rfl ?_
    refine r_sub [1, 2, 3, 4, 5, 0] rfl ?_
    exact t_Graph_multiply_L15 hg hA (f_Graph_multiply_J75 rec_) (t_Graph_multiply_J75 hg hA rec_ hrec_) h_fuel a0 h_a0 a1 h_a1 a2 h_a2 v3 v4 0 μ
theorem t_Graph_multiply_L3 {cx : HCx} (hg : HGood cx R_Graph b_Graph_multiply 6 4 none) (hA : h_own cx)  : ∀ (fuel : Nat) (a0 : Nat) (h_a0 : HIsG a0) (a1 : Nat) (h_a1 : HIsG a1) (a2 : Nat) (h_a2 : HIsG a2) (v3 : Int32) (v4 : Int32) (μ : HMem), HX cx (HQ cx h_eV) (f_Graph_multiply_L3  fuel a0 a1 a2 v3 v4 μ) 0 0 3 [(0, .ref a0), (1, .ref a1), (2, .ref a2), (3, .int v3), (4, .int v4)] [] μ
  | 0, _, _, _, _, _, _, _, _, _ => by unfold f_Graph_multiply_L3; exact HX.none
  | fuel + 1, a0, h_a0, a1, h_a1, a2, h_a2, v3, v4, μ => by
    rw [f_Graph_multiply_L3]
    exact t_Graph_multiply_L3_b hg hA   (f_Graph_multiply_L3  fuel) (t_Graph_multiply_L3 hg hA   fuel) a0 h_a0 a1 h_a1 a2 h_a2 v3 v4 μ
theorem t_Graph_multiply_0 {cx : HCx} (hg : HGood cx R_Graph b_Graph_multiply 6 4 none) (hA : h_own cx) (g : Nat) (h_g : HIsG g) (a1 : Nat) (h_a1 : HIsG a1) (a2 : Nat) (h_a2 : HIsG a2) (v3 : Int32) (μ : HMem) : HX cx (HQ cx h_eV) (f_Graph_multiply g a1 a2 v3 μ) 0 0 0 [(0, .ref g), (1, .ref a1), (2, .ref a2), (3, .int v3)] [] μ := by
  unfold f_Graph_multiply
  refine r_iconst (v := 0) hg d_Graph_multiply_0 (by decide) ?_
  refine r_istore (l' := [(4, .int 0), (0, .ref g), (1, .ref a1), (2, .ref a2), (3, .int v3)]) hg d_Graph_multiply_1 (Nat.le_of_ble_eq_true rfl) rfl ?_
  refine r_sub [1, 2, 3, 4, 0] rfl ?_
  exact t_Graph_multiply_L3 hg hA h_fuel g h_g a1 h_a1 a2 h_a2 v3 0 μ
theorem t_Graph_multiply (g : Nat) (h_g : HIsG g) (a1 : Nat) (h_a1 : HIsG a1) (a2 : Nat) (h_a2 : HIsG a2) (v3 : Int32) (μ : HMem) : HSpec y_Graph_multiply b_Graph_multiply 6 none 4 h_eV [.ref g, .ref a1, .ref a2, .int v3] μ (f_Graph_multiply g a1 a2 v3 μ) :=
  HSpec.of (by decide +kernel) (v_Graph_multiply.1 _ (by simp)) (Nat.le_of_ble_eq_true rfl) (fun cx hA hg => t_Graph_multiply_0 hg hA g h_g a1 h_a1 a2 h_a2 v3 μ)
theorem t_Graph_edgeCount_L4_b {cx : HCx} (hg : HGood cx R_Graph b_Graph_edgeCount 3 2 (some .int)) (hA : h_own cx)  (rec_ : Nat → Int32 → Int32 → HMem → Option (Int32 × HMem)) (hrec_ : p_Graph_edgeCount_4 cx rec_) (a0 : Nat) (h_a0 : HIsG a0) (v1 : Int32) (v2 : Int32) (μ : HMem) : HX cx (HQ cx h_eI) (f_Graph_edgeCount_L4_b  rec_ a0 v1 v2 μ) 0 0 4 [(0, .ref a0), (1, .int v1), (2, .int v2)] [] μ := by
  unfold f_Graph_edgeCount_L4_b
  refine r_iload_n hg 2 d_Graph_edgeCount_4 rfl rfl ?_
  refine r_aload_n hg 0 d_Graph_edgeCount_5 rfl rfl ?_
  refine r_get (v := .int (μ.1 a0 0)) hg c_Graph (h_G_lt h_a0) (h_G_kd h_a0) (Nat.le_of_ble_eq_true rfl) (h_G_fl0 h_a0) wf_Graph_21 d_Graph_edgeCount_6 rfl ?_
  refine r_icmp_ge (tgt := 36) hg d_Graph_edgeCount_9 (by decide) ?_ ?_
  · refine r_iload_n hg 1 d_Graph_edgeCount_36 rfl rfl ?_
    refine r_iconst (v := 2) hg d_Graph_edgeCount_37 (by decide) ?_
    refine r_idiv hg d_Graph_edgeCount_38 ?_
    exact r_iret hg hA rfl d_Graph_edgeCount_39 rfl
  · refine r_iload_n hg 1 d_Graph_edgeCount_12 rfl rfl ?_
    refine r_aload_n hg 0 d_Graph_edgeCount_13 rfl rfl ?_
    refine r_get (v := .ref (a0 + 3)) hg c_Graph (h_G_lt h_a0) (h_G_kd h_a0) (Nat.le_of_ble_eq_true rfl) (h_G_fl3 h_a0) wf_Graph_18 d_Graph_edgeCount_14 rfl ?_
    refine r_iload_n hg 2 d_Graph_edgeCount_17 rfl rfl ?_
    refine r_iald hg (h_G_lt3 h_a0) (h_G_kd3 h_a0) d_Graph_edgeCount_18 ?_
    refine r_iconst (v := 1) hg d_Graph_edgeCount_19 (by decide) ?_
    refine r_iload_n hg 2 d_Graph_edgeCount_20 rfl rfl ?_
    refine r_ishl hg d_Graph_edgeCount_21 ?_
    refine r_iconst (v := -1) hg d_Graph_edgeCount_22 (by decide) ?_
    refine r_ixor hg d_Graph_edgeCount_23 ?_
    refine r_iand hg d_Graph_edgeCount_24 ?_
    refine r_callS (As := [.int ((μ.1 (a0 + 3) (Int32.toNatClampNeg (v2))) &&& ((h_ishl 1 v2) ^^^ (-1)))]) hg (t_Integer_bitCount ((μ.1 (a0 + 3) (Int32.toNatClampNeg (v2))) &&& ((h_ishl 1 v2) ^^^ (-1))) μ) v_Integer_bitCount wm_Graph_67 d_Graph_edgeCount_25 rfl ⟨by decide, by decide⟩ (Nat.le_of_ble_eq_true rfl) rfl (fun r25 μ_25 _ => ?_)
    refine r_iadd hg d_Graph_edgeCount_28 ?_
    refine r_letI (fun v1_29 => ?_)
    refine r_istore_n (l' := [(1, .int v1_29), (0, .ref a0), (2, .int v2)]) hg d_Graph_edgeCount_29 rfl (Nat.le_of_ble_eq_true rfl) rfl ?_
    refine r_letE (fun v2_30 he_30 => ?_)
    refine r_iinc (v := v2_30) (l' := [(2, .int v2_30), (1, .int v1_29), (0, .ref a0)]) hg 2 d_Graph_edgeCount_30 rfl he_30 (Nat.le_of_ble_eq_true rfl) rfl ?_
    refine r_goto (tgt := 4) hg d_Graph_edgeCount_33 (by decide) ?_
    refine r_sub [2, 1, 0] rfl ?_
    exact hrec_ a0 h_a0 v1_29 v2_30 μ_25
theorem t_Graph_edgeCount_L4 {cx : HCx} (hg : HGood cx R_Graph b_Graph_edgeCount 3 2 (some .int)) (hA : h_own cx)  : ∀ (fuel : Nat) (a0 : Nat) (h_a0 : HIsG a0) (v1 : Int32) (v2 : Int32) (μ : HMem), HX cx (HQ cx h_eI) (f_Graph_edgeCount_L4  fuel a0 v1 v2 μ) 0 0 4 [(0, .ref a0), (1, .int v1), (2, .int v2)] [] μ
  | 0, _, _, _, _, _ => by unfold f_Graph_edgeCount_L4; exact HX.none
  | fuel + 1, a0, h_a0, v1, v2, μ => by
    rw [f_Graph_edgeCount_L4]
    exact t_Graph_edgeCount_L4_b hg hA   (f_Graph_edgeCount_L4  fuel) (t_Graph_edgeCount_L4 hg hA   fuel) a0 h_a0 v1 v2 μ
theorem t_Graph_edgeCount_0 {cx : HCx} (hg : HGood cx R_Graph b_Graph_edgeCount 3 2 (some .int)) (hA : h_own cx) (g : Nat) (h_g : HIsG g) (μ : HMem) : HX cx (HQ cx h_eI) (f_Graph_edgeCount g μ) 0 0 0 [(0, .ref g)] [] μ := by
  unfold f_Graph_edgeCount
  refine r_iconst (v := 0) hg d_Graph_edgeCount_0 (by decide) ?_
  refine r_istore_n (l' := [(1, .int 0), (0, .ref g)]) hg d_Graph_edgeCount_1 rfl (Nat.le_of_ble_eq_true rfl) rfl ?_
  refine r_iconst (v := 0) hg d_Graph_edgeCount_2 (by decide) ?_
  refine r_istore_n (l' := [(2, .int 0), (1, .int 0), (0, .ref g)]) hg d_Graph_edgeCount_3 rfl (Nat.le_of_ble_eq_true rfl) rfl ?_
  refine r_sub [2, 1, 0] rfl ?_
  exact t_Graph_edgeCount_L4 hg hA h_fuel g h_g 0 0 μ
theorem t_Graph_edgeCount (g : Nat) (h_g : HIsG g) (μ : HMem) : HSpec y_Graph_edgeCount b_Graph_edgeCount 3 (some .int) 2 h_eI [.ref g] μ (f_Graph_edgeCount g μ) :=
  HSpec.of (by decide +kernel) (v_Graph_edgeCount.1 _ (by simp)) (Nat.le_of_ble_eq_true rfl) (fun cx hA hg => t_Graph_edgeCount_0 hg hA g h_g μ)
theorem t_Graph_partCount_J39 {cx : HCx} (hg : HGood cx R_Graph b_Graph_partCount 4 3 (some .int)) (hA : h_own cx)  (rec_ : Nat → Int32 → Int32 → Int32 → HMem → Option (Int32 × HMem)) (hrec_ : p_Graph_partCount_9 cx rec_) (a0 : Nat) (h_a0 : HIsG a0) (v1 : Int32) (v2 : Int32) (v3 : Int32) (μ : HMem) : HX cx (HQ cx h_eI) (f_Graph_partCount_J39  rec_ a0 v1 v2 v3 μ) 0 0 39 [(0, .ref a0), (1, .int v1), (2, .int v2), (3, .int v3)] [] μ := by
  unfold f_Graph_partCount_J39
  refine r_letE (fun v3_39 he_39 => ?_)
  refine r_iinc (v := v3_39) (l' := [(3, .int v3_39), (0, .ref a0), (1, .int v1), (2, .int v2)]) hg 3 d_Graph_partCount_39 rfl he_39 (Nat.le_of_ble_eq_true rfl) rfl ?_
  refine r_goto (tgt := 9) hg d_Graph_partCount_42 (by decide) ?_
  refine r_sub [1, 2, 3, 0] rfl ?_
  exact hrec_ a0 h_a0 v1 v2 v3_39 μ
theorem t_Graph_partCount_L9_b {cx : HCx} (hg : HGood cx R_Graph b_Graph_partCount 4 3 (some .int)) (hA : h_own cx)  (rec_ : Nat → Int32 → Int32 → Int32 → HMem → Option (Int32 × HMem)) (hrec_ : p_Graph_partCount_9 cx rec_) (a0 : Nat) (h_a0 : HIsG a0) (v1 : Int32) (v2 : Int32) (v3 : Int32) (μ : HMem) : HX cx (HQ cx h_eI) (f_Graph_partCount_L9_b  rec_ a0 v1 v2 v3 μ) 0 0 9 [(0, .ref a0), (1, .int v1), (2, .int v2), (3, .int v3)] [] μ := by
  unfold f_Graph_partCount_L9_b
  refine r_iload_n hg 3 d_Graph_partCount_9 rfl rfl ?_
  refine r_aload_n hg 0 d_Graph_partCount_10 rfl rfl ?_
  refine r_get (v := .int (μ.1 a0 0)) hg c_Graph (h_G_lt h_a0) (h_G_kd h_a0) (Nat.le_of_ble_eq_true rfl) (h_G_fl0 h_a0) wf_Graph_21 d_Graph_partCount_11 rfl ?_
  refine r_icmp_ge (tgt := 45) hg d_Graph_partCount_14 (by decide) ?_ ?_
  · refine r_iload_n hg 1 d_Graph_partCount_45 rfl rfl ?_
    exact r_iret hg hA rfl d_Graph_partCount_46 rfl
  · refine r_iload_n hg 2 d_Graph_partCount_17 rfl rfl ?_
    refine r_iload_n hg 3 d_Graph_partCount_18 rfl rfl ?_
    refine r_callN (As := [.int v2, .int v3]) (host := "HomBench") hg (t_Bench_has v2 v3 μ) v_Bench_has (by decide) d_Graph_partCount_19 rfl ⟨by decide, by decide⟩ (Nat.le_of_ble_eq_true rfl) rfl (fun r19 μ_19 _ => ?_)
    refine r_if_eq (tgt := 39) hg d_Graph_partCount_22 (by decide) ?_ ?_
    · exact t_Graph_partCount_J39 hg hA rec_ hrec_ a0 h_a0 v1 v2 v3 μ_19
    · refine r_letE (fun v1_25 he_25 => ?_)
      refine r_iinc (v := v1_25) (l' := [(1, .int v1_25), (0, .ref a0), (2, .int v2), (3, .int v3)]) hg 1 d_Graph_partCount_25 rfl he_25 (Nat.le_of_ble_eq_true rfl) rfl ?_
      refine r_iload_n hg 2 d_Graph_partCount_28 rfl rfl ?_
      refine r_aload_n hg 1 d_Graph_partCount_29 rfl rfl ?_
      refine r_iload_n hg 3 d_Graph_partCount_30 rfl rfl ?_
      refine r_iload_n hg 2 d_Graph_partCount_31 rfl rfl ?_
      refine r_callV (As := [.int v3, .int v2]) hg (t_Graph_reached a0 h_a0 v3 v2 μ_19) v_Graph_reached c_Graph rfl (h_G_lt h_a0) (h_G_kd h_a0) wm_Graph_99 d_Graph_partCount_32 rfl ⟨by decide, by decide⟩ (Nat.le_of_ble_eq_true rfl) rfl (fun r32 μ_32 _ => ?_)
      refine r_iconst (v := -1) hg d_Graph_partCount_35 (by decide) ?_
      refine r_ixor hg d_Graph_partCount_36 ?_
      refine r_iand hg d_Graph_partCount_37 ?_
      refine r_letI (fun v2_38 => ?_)
      refine r_istore_n (l' := [(2, .int v2_38), (1, .int v1_25), (0, .ref a0), (3, .int v3)]) hg d_Graph_partCount_38 rfl (Nat.le_of_ble_eq_true rfl) rfl ?_
      refine r_sub [2, 1, 0, 3] rfl ?_
      exact t_Graph_partCount_J39 hg hA rec_ hrec_ a0 h_a0 v1_25 v2_38 v3 μ_32
theorem t_Graph_partCount_L9 {cx : HCx} (hg : HGood cx R_Graph b_Graph_partCount 4 3 (some .int)) (hA : h_own cx)  : ∀ (fuel : Nat) (a0 : Nat) (h_a0 : HIsG a0) (v1 : Int32) (v2 : Int32) (v3 : Int32) (μ : HMem), HX cx (HQ cx h_eI) (f_Graph_partCount_L9  fuel a0 v1 v2 v3 μ) 0 0 9 [(0, .ref a0), (1, .int v1), (2, .int v2), (3, .int v3)] [] μ
  | 0, _, _, _, _, _, _ => by unfold f_Graph_partCount_L9; exact HX.none
  | fuel + 1, a0, h_a0, v1, v2, v3, μ => by
    rw [f_Graph_partCount_L9]
    exact t_Graph_partCount_L9_b hg hA   (f_Graph_partCount_L9  fuel) (t_Graph_partCount_L9 hg hA   fuel) a0 h_a0 v1 v2 v3 μ
theorem t_Graph_partCount_0 {cx : HCx} (hg : HGood cx R_Graph b_Graph_partCount 4 3 (some .int)) (hA : h_own cx) (g : Nat) (h_g : HIsG g) (μ : HMem) : HX cx (HQ cx h_eI) (f_Graph_partCount g μ) 0 0 0 [(0, .ref g)] [] μ := by
  unfold f_Graph_partCount
  refine r_iconst (v := 0) hg d_Graph_partCount_0 (by decide) ?_
  refine r_istore_n (l' := [(1, .int 0), (0, .ref g)]) hg d_Graph_partCount_1 rfl (Nat.le_of_ble_eq_true rfl) rfl ?_
  refine r_aload_n hg 1 d_Graph_partCount_2 rfl rfl ?_
  refine r_callV (As := []) hg (t_Graph_all g h_g μ) v_Graph_all c_Graph rfl (h_G_lt h_g) (h_G_kd h_g) wm_Graph_96 d_Graph_partCount_3 rfl ⟨by decide, by decide⟩ (Nat.le_of_ble_eq_true rfl) rfl (fun r3 μ_3 _ => ?_)
  refine r_istore_n (l' := [(2, .int r3), (1, .int 0), (0, .ref g)]) hg d_Graph_partCount_6 rfl (Nat.le_of_ble_eq_true rfl) rfl ?_
  refine r_iconst (v := 0) hg d_Graph_partCount_7 (by decide) ?_
  refine r_istore_n (l' := [(3, .int 0), (2, .int r3), (1, .int 0), (0, .ref g)]) hg d_Graph_partCount_8 rfl (Nat.le_of_ble_eq_true rfl) rfl ?_
  refine r_sub [3, 2, 1, 0] rfl ?_
  exact t_Graph_partCount_L9 hg hA h_fuel g h_g 0 r3 0 μ_3
theorem t_Graph_partCount (g : Nat) (h_g : HIsG g) (μ : HMem) : HSpec y_Graph_partCount b_Graph_partCount 4 (some .int) 3 h_eI [.ref g] μ (f_Graph_partCount g μ) :=
  HSpec.of (by decide +kernel) (v_Graph_partCount.1 _ (by simp)) (Nat.le_of_ble_eq_true rfl) (fun cx hA hg => t_Graph_partCount_0 hg hA g h_g μ)
theorem t_Graph_foldTargets_J98 {cx : HCx} (hg : HGood cx R_Graph b_Graph_foldTargets 8 2 (some .int)) (hA : h_own cx)  (rec_ : Nat → Int32 → Int32 → Int32 → Int32 → Int32 → Int32 → HMem → Option (Int32 × HMem)) (hrec_ : p_Graph_foldTargets_33 cx rec_) (a0 : Nat) (h_a0 : HIsG a0) (v1 : Int32) (v2 : Int32) (v3 : Int32) (v4 : Int32) (v5 : Int32) (v6 : Int32) (μ : HMem) : HX cx (HQ cx h_eI) (f_Graph_foldTargets_J98  rec_ a0 v1 v2 v3 v4 v5 v6 μ) 0 0 98 [(0, .ref a0), (1, .int v1), (2, .int v2), (3, .int v3), (4, .int v4), (5, .int v5), (6, .int v6)] [] μ := by
  unfold f_Graph_foldTargets_J98
  refine r_letE (fun v6_98 he_98 => ?_)
  refine r_iinc (v := v6_98) (l' := [(6, .int v6_98), (0, .ref a0), (1, .int v1), (2, .int v2), (3, .int v3), (4, .int v4), (5, .int v5)]) hg 6 d_Graph_foldTargets_98 rfl he_98 (Nat.le_of_ble_eq_true rfl) rfl ?_
  refine r_goto (tgt := 33) hg d_Graph_foldTargets_101 (by decide) ?_
  refine r_sub [1, 2, 3, 4, 5, 6, 0] rfl ?_
  exact hrec_ a0 h_a0 v1 v2 v3 v4 v5 v6_98 μ
theorem t_Graph_foldTargets_J57 {cx : HCx} (hg : HGood cx R_Graph b_Graph_foldTargets 8 2 (some .int)) (hA : h_own cx)  (rec_ : Nat → Int32 → Int32 → Int32 → Int32 → Int32 → Int32 → HMem → Option (Int32 × HMem)) (hrec_ : p_Graph_foldTargets_33 cx rec_) (a0 : Nat) (h_a0 : HIsG a0) (v1 : Int32) (v2 : Int32) (v3 : Int32) (v4 : Int32) (v5 : Int32) (v6 : Int32) (s0 : Int32) (μ : HMem) : HX cx (HQ cx h_eI) (f_Graph_foldTargets_J57  rec_ a0 v1 v2 v3 v4 v5 v6 s0 μ) 0 0 57 [(0, .ref a0), (1, .int v1), (2, .int v2), (3, .int v3), (4, .int v4), (5, .int v5), (6, .int v6)] [.int s0] μ := by
  unfold f_Graph_foldTargets_J57
  refine r_istore (l' := [(7, .int s0), (0, .ref a0), (1, .int v1), (2, .int v2), (3, .int v3), (4, .int v4), (5, .int v5), (6, .int v6)]) hg d_Graph_foldTargets_57 (Nat.le_of_ble_eq_true rfl) rfl ?_
  refine r_iload hg 7 d_Graph_foldTargets_59 rfl ?_
  refine r_iload_n hg 2 d_Graph_foldTargets_61 rfl rfl ?_
  refine r_icmp_eq (tgt := 98) hg d_Graph_foldTargets_62 (by decide) ?_ ?_
  · refine r_sub [1, 2, 3, 4, 5, 6, 7] rfl ?_
    exact t_Graph_foldTargets_J98 hg hA rec_ hrec_ a0 h_a0 v1 v2 v3 v4 v5 v6 μ
  · refine r_iload_n hg 3 d_Graph_foldTargets_65 rfl rfl ?_
    refine r_iload hg 7 d_Graph_foldTargets_66 rfl ?_
    refine r_callN (As := [.int v2, .int v6]) (host := "HomBench") hg (t_Bench_has v2 v6 μ) v_Bench_has (by decide) d_Graph_foldTargets_68 rfl ⟨by decide, by decide⟩ (Nat.le_of_ble_eq_true rfl) rfl (fun r68 μ_68 _ => ?_)
    refine r_if_eq (tgt := 98) hg d_Graph_foldTargets_71 (by decide) ?_ ?_
    · refine r_sub [1, 2, 3, 4, 5, 6, 7] rfl ?_
      exact t_Graph_foldTargets_J98 hg hA rec_ hrec_ a0 h_a0 v1 v2 v3 v4 v5 v6 μ_68
    · refine r_iload hg 0 d_Graph_foldTargets_74 rfl ?_
      refine r_aload_n hg 1 d_Graph_foldTargets_76 rfl rfl ?_
      refine r_get (v := .ref (a0 + 3)) hg c_Graph (h_G_lt h_a0) (h_G_kd h_a0) (Nat.le_of_ble_eq_true rfl) (h_G_fl3 h_a0) wf_Graph_18 d_Graph_foldTargets_77 rfl ?_
      refine r_iload hg 7 d_Graph_foldTargets_80 rfl ?_
      refine r_iald hg (h_G_lt3 h_a0) (h_G_kd3 h_a0) d_Graph_foldTargets_82 ?_
      refine r_iconst (v := -1) hg d_Graph_foldTargets_83 (by decide) ?_
      refine r_ixor hg d_Graph_foldTargets_84 ?_
      refine r_iand hg d_Graph_foldTargets_85 ?_
      refine r_if_ne (tgt := 98) hg d_Graph_foldTargets_86 (by decide) ?_ ?_
      · refine r_sub [1, 2, 3, 4, 5, 6, 7] rfl ?_
        exact t_Graph_foldTargets_J98 hg hA rec_ hrec_ a0 h_a0 v1 v2 v3 v4 v5 v6 μ_68
      · refine r_iload hg 6 d_Graph_foldTargets_89 rfl ?_
        refine r_iconst (v := 1) hg d_Graph_foldTargets_91 (by decide) ?_
        refine r_iload hg 7 d_Graph_foldTargets_92 rfl ?_
        refine r_ishl hg d_Graph_foldTargets_94 ?_
        refine r_ior hg d_Graph_foldTargets_95 ?_
        refine r_letI (fun v5_96 => ?_)
        refine r_istore (l' := [(5, .int v5_96), (7, .int s0), (0, .ref a0), (1, .int v1), (2, .int v2), (3, .int v3), (4, .int v4), (6, .int v6)]) hg d_Graph_foldTargets_96 (Nat.le_of_ble_eq_true rfl) rfl ?_
        refine r_sub [2, 3, 4, 5, 6, 0, 7] rfl ?_
        exact t_Graph_foldTargets_J98 hg hA rec_ hrec_ a0 h_a0 v1 v2 v3 v4 v5_96 v6 μ_68
theorem t_Graph_foldTargets_L33_b {cx : HCx} (hg : HGood cx R_Graph b_Graph_foldTargets 8 2 (some .int)) (hA : h_own cx)  (rec_ : Nat → Int32 → Int32 → Int32 → Int32 → Int32 → Int32 → HMem → Option (Int32 × HMem)) (hrec_ : p_Graph_foldTargets_33 cx rec_) (a0 : Nat) (h_a0 : HIsG a0) (v1 : Int32) (v2 : Int32) (v3 : Int32) (v4 : Int32) (v5 : Int32) (v6 : Int32) (μ : HMem) : HX cx (HQ cx h_eI) (f_Graph_foldTargets_L33_b  rec_ a0 v1 v2 v3 v4 v5 v6 μ) 0 0 33 [(0, .ref a0), (1, .int v1), (2, .int v2), (3, .int v3), (4, .int v4), (5, .int v5), (6, .int v6)] [] μ := by
  unfold f_Graph_foldTargets_L33_b
  refine r_iload hg 6 d_Graph_foldTargets_33 rfl ?_
  refine r_aload_n hg 0 d_Graph_foldTargets_35 rfl rfl ?_
  refine r_get (v := .int (μ.1 a0 0)) hg c_Graph (h_G_lt h_a0) (h_G_kd h_a0) (Nat.le_of_ble_eq_true rfl) (h_G_fl0 h_a0) wf_Graph_21 d_Graph_foldTargets_36 rfl ?_
  refine r_icmp_ge (tgt := 104) hg d_Graph_foldTargets_39 (by decide) ?_ ?_
  · refine r_iload hg 5 d_Graph_foldTargets_104 rfl ?_
    exact r_iret hg hA rfl d_Graph_foldTargets_106 rfl
  · refine r_iload hg 4 d_Graph_foldTargets_42 rfl ?_
    refine r_if_eq (tgt := 56) hg d_Graph_foldTargets_44 (by decide) ?_ ?_
    · refine r_iload_n hg 3 d_Graph_foldTargets_56 rfl rfl ?_
      exact t_Graph_foldTargets_J57 hg hA rec_ hrec_ a0 h_a0 v1 v2 v3 v4 v5 v6 v3 μ
    · refine r_iload_n hg 3 d_Graph_foldTargets_47 rfl rfl ?_
      refine r_iconst (v := 1) hg d_Graph_foldTargets_48 (by decide) ?_
      refine r_iload hg 6 d_Graph_foldTargets_49 rfl ?_
      refine r_ishl hg d_Graph_foldTargets_51 ?_
      refine r_ior hg d_Graph_foldTargets_52 ?_
      refine r_goto (tgt := 57) hg d_Graph_foldTargets_53 (by decide) ?_
      exact t_Graph_foldTargets_J57 hg hA rec_ hrec_ a0 h_a0 v1 v2 v3 v4 v5 v6 (v3 ||| (h_ishl 1 v6)) μ
theorem t_Graph_foldTargets_L33 {cx : HCx} (hg : HGood cx R_Graph b_Graph_foldTargets 8 2 (some .int)) (hA : h_own cx)  : ∀ (fuel : Nat) (a0 : Nat) (h_a0 : HIsG a0) (v1 : Int32) (v2 : Int32) (v3 : Int32) (v4 : Int32) (v5 : Int32) (v6 : Int32) (μ : HMem), HX cx (HQ cx h_eI) (f_Graph_foldTargets_L33  fuel a0 v1 v2 v3 v4 v5 v6 μ) 0 0 33 [(0, .ref a0), (1, .int v1), (2, .int v2), (3, .int v3), (4, .int v4), (5, .int v5), (6, .int v6)] [] μ
  | 0, _, _, _, _, _, _, _, _, _ => by unfold f_Graph_foldTargets_L33; exact HX.none
  | fuel + 1, a0, h_a0, v1, v2, v3, v4, v5, v6, μ => by
    rw [f_Graph_foldTargets_L33]
    exact t_Graph_foldTargets_L33_b hg hA   (f_Graph_foldTargets_L33  fuel) (t_Graph_foldTargets_L33 hg hA   fuel) a0 h_a0 v1 v2 v3 v4 v5 v6 μ
theorem t_Graph_foldTargets_0 {cx : HCx} (hg : HGood cx R_Graph b_Graph_foldTargets 8 2 (some .int)) (hA : h_own cx) (g : Nat) (h_g : HIsG g) (v1 : Int32) (v2 : Int32) (μ : HMem) : HX cx (HQ cx h_eI) (f_Graph_foldTargets g v1 v2 μ) 0 0 0 [(0, .ref g), (1, .int v1), (2, .int v2)] [] μ := by
  unfold f_Graph_foldTargets
  refine r_aload_n hg 0 d_Graph_foldTargets_0 rfl rfl ?_
  refine r_get (v := .ref (g + 3)) hg c_Graph (h_G_lt h_g) (h_G_kd h_g) (Nat.le_of_ble_eq_true rfl) (h_G_fl3 h_g) wf_Graph_18 d_Graph_foldTargets_1 rfl ?_
  refine r_iload_n hg 1 d_Graph_foldTargets_4 rfl rfl ?_
  refine r_iald hg (h_G_lt3 h_g) (h_G_kd3 h_g) d_Graph_foldTargets_5 ?_
  refine r_iload_n hg 2 d_Graph_foldTargets_6 rfl rfl ?_
  refine r_iand hg d_Graph_foldTargets_7 ?_
  refine r_iconst (v := 1) hg d_Graph_foldTargets_8 (by decide) ?_
  refine r_iload_n hg 1 d_Graph_foldTargets_9 rfl rfl ?_
  refine r_ishl hg d_Graph_foldTargets_10 ?_
  refine r_iconst (v := -1) hg d_Graph_foldTargets_11 (by decide) ?_
  refine r_ixor hg d_Graph_foldTargets_12 ?_
  refine r_iand hg d_Graph_foldTargets_13 ?_
  refine r_letI (fun v3_14 => ?_)
  refine r_istore_n (l' := [(3, .int v3_14), (0, .ref g), (1, .int v1), (2, .int v2)]) hg d_Graph_foldTargets_14 rfl (Nat.le_of_ble_eq_true rfl) rfl ?_
  refine r_aload_n hg 1 d_Graph_foldTargets_15 rfl rfl ?_
  refine r_get (v := .ref (g + 3)) hg c_Graph (h_G_lt h_g) (h_G_kd h_g) (Nat.le_of_ble_eq_true rfl) (h_G_fl3 h_g) wf_Graph_18 d_Graph_foldTargets_16 rfl ?_
  refine r_iload_n hg 2 d_Graph_foldTargets_19 rfl rfl ?_
  refine r_iald hg (h_G_lt3 h_g) (h_G_kd3 h_g) d_Graph_foldTargets_20 ?_
  refine r_iload_n hg 2 d_Graph_foldTargets_21 rfl rfl ?_
  refine r_callN (As := [.int (μ.1 (g + 3) (Int32.toNatClampNeg (v1))), .int v1]) (host := "HomBench") hg (t_Bench_has (μ.1 (g + 3) (Int32.toNatClampNeg (v1))) v1 μ) v_Bench_has (by decide) d_Graph_foldTargets_22 rfl ⟨by decide, by decide⟩ (Nat.le_of_ble_eq_true rfl) rfl (fun r22 μ_22 _ => ?_)
  refine r_istore (l' := [(4, .int r22), (3, .int v3_14), (0, .ref g), (1, .int v1), (2, .int v2)]) hg d_Graph_foldTargets_25 (Nat.le_of_ble_eq_true rfl) rfl ?_
  refine r_iconst (v := 0) hg d_Graph_foldTargets_27 (by decide) ?_
  refine r_istore (l' := [(5, .int 0), (4, .int r22), (3, .int v3_14), (0, .ref g), (1, .int v1), (2, .int v2)]) hg d_Graph_foldTargets_28 (Nat.le_of_ble_eq_true rfl) rfl ?_
  refine r_iconst (v := 0) hg d_Graph_foldTargets_30 (by decide) ?_
  refine r_istore (l' := [(6, .int 0), (5, .int 0), (4, .int r22), (3, .int v3_14), (0, .ref g), (1, .int v1), (2, .int v2)]) hg d_Graph_foldTargets_31 (Nat.le_of_ble_eq_true rfl) rfl ?_
  refine r_sub [4, 5, 6, 3, 2, 1, 0] rfl ?_
  exact t_Graph_foldTargets_L33 hg hA h_fuel g h_g v1 v2 v3_14 r22 0 0 μ_22
theorem t_Graph_foldTargets (g : Nat) (h_g : HIsG g) (v1 : Int32) (v2 : Int32) (μ : HMem) : HSpec y_Graph_foldTargets b_Graph_foldTargets 8 (some .int) 2 h_eI [.ref g, .int v1, .int v2] μ (f_Graph_foldTargets g v1 v2 μ) :=
  HSpec.of (by decide +kernel) (v_Graph_foldTargets.1 _ (by simp)) (Nat.le_of_ble_eq_true rfl) (fun cx hA hg => t_Graph_foldTargets_0 hg hA g h_g v1 v2 μ)
theorem t_Graph_lowestFoldable_J29 {cx : HCx} (hg : HGood cx R_Graph b_Graph_lowestFoldable 3 3 (some .int)) (hA : h_own cx)  (rec_ : Nat → Int32 → Int32 → HMem → Option (Int32 × HMem)) (hrec_ : p_Graph_lowestFoldable_2 cx rec_) (a0 : Nat) (h_a0 : HIsG a0) (v1 : Int32) (v2 : Int32) (μ : HMem) : HX cx (HQ cx h_eI) (f_Graph_lowestFoldable_J29  rec_ a0 v1 v2 μ) 0 0 29 [(0, .ref a0), (1, .int v1), (2, .int v2)] [] μ := by
  unfold f_Graph_lowestFoldable_J29
  refine r_letE (fun v2_29 he_29 => ?_)
  refine r_iinc (v := v2_29) (l' := [(2, .int v2_29), (0, .ref a0), (1, .int v1)]) hg 2 d_Graph_lowestFoldable_29 rfl he_29 (Nat.le_of_ble_eq_true rfl) rfl ?_
  refine r_goto (tgt := 2) hg d_Graph_lowestFoldable_32 (by decide) ?_
  refine r_sub [1, 2, 0] rfl ?_
  exact hrec_ a0 h_a0 v1 v2_29 μ
theorem t_Graph_lowestFoldable_L2_b {cx : HCx} (hg : HGood cx R_Graph b_Graph_lowestFoldable 3 3 (some .int)) (hA : h_own cx)  (rec_ : Nat → Int32 → Int32 → HMem → Option (Int32 × HMem)) (hrec_ : p_Graph_lowestFoldable_2 cx rec_) (a0 : Nat) (h_a0 : HIsG a0) (v1 : Int32) (v2 : Int32) (μ : HMem) : HX cx (HQ cx h_eI) (f_Graph_lowestFoldable_L2_b  rec_ a0 v1 v2 μ) 0 0 2 [(0, .ref a0), (1, .int v1), (2, .int v2)] [] μ := by
  unfold f_Graph_lowestFoldable_L2_b
  refine r_iload_n hg 2 d_Graph_lowestFoldable_2 rfl rfl ?_
  refine r_aload_n hg 0 d_Graph_lowestFoldable_3 rfl rfl ?_
  refine r_get (v := .int (μ.1 a0 0)) hg c_Graph (h_G_lt h_a0) (h_G_kd h_a0) (Nat.le_of_ble_eq_true rfl) (h_G_fl0 h_a0) wf_Graph_21 d_Graph_lowestFoldable_4 rfl ?_
  refine r_icmp_ge (tgt := 35) hg d_Graph_lowestFoldable_7 (by decide) ?_ ?_
  · refine r_iconst (v := -1) hg d_Graph_lowestFoldable_35 (by decide) ?_
    exact r_iret hg hA rfl d_Graph_lowestFoldable_36 rfl
  · refine r_iload_n hg 1 d_Graph_lowestFoldable_10 rfl rfl ?_
    refine r_iload_n hg 2 d_Graph_lowestFoldable_11 rfl rfl ?_
    refine r_callN (As := [.int v1, .int v2]) (host := "HomBench") hg (t_Bench_has v1 v2 μ) v_Bench_has (by decide) d_Graph_lowestFoldable_12 rfl ⟨by decide, by decide⟩ (Nat.le_of_ble_eq_true rfl) rfl (fun r12 μ_12 _ => ?_)
    refine r_if_eq (tgt := 29) hg d_Graph_lowestFoldable_15 (by decide) ?_ ?_
    · exact t_Graph_lowestFoldable_J29 hg hA rec_ hrec_ a0 h_a0 v1 v2 μ_12
    · refine r_aload_n hg 0 d_Graph_lowestFoldable_18 rfl rfl ?_
      refine r_iload_n hg 2 d_Graph_lowestFoldable_19 rfl rfl ?_
      refine r_iload_n hg 1 d_Graph_lowestFoldable_20 rfl rfl ?_
      refine r_callV (As := [.int v2, .int v1]) hg (t_Graph_foldTargets a0 h_a0 v2 v1 μ_12) v_Graph_foldTargets c_Graph rfl (h_G_lt h_a0) (h_G_kd h_a0) wm_Graph_105 d_Graph_lowestFoldable_21 rfl ⟨by decide, by decide⟩ (Nat.le_of_ble_eq_true rfl) rfl (fun r21 μ_21 _ => ?_)
      refine r_if_eq (tgt := 29) hg d_Graph_lowestFoldable_24 (by decide) ?_ ?_
      · exact t_Graph_lowestFoldable_J29 hg hA rec_ hrec_ a0 h_a0 v1 v2 μ_21
      · refine r_iload_n hg 2 d_Graph_lowestFoldable_27 rfl rfl ?_
        exact r_iret hg hA rfl d_Graph_lowestFoldable_28 rfl
theorem t_Graph_lowestFoldable_L2 {cx : HCx} (hg : HGood cx R_Graph b_Graph_lowestFoldable 3 3 (some .int)) (hA : h_own cx)  : ∀ (fuel : Nat) (a0 : Nat) (h_a0 : HIsG a0) (v1 : Int32) (v2 : Int32) (μ : HMem), HX cx (HQ cx h_eI) (f_Graph_lowestFoldable_L2  fuel a0 v1 v2 μ) 0 0 2 [(0, .ref a0), (1, .int v1), (2, .int v2)] [] μ
  | 0, _, _, _, _, _ => by unfold f_Graph_lowestFoldable_L2; exact HX.none
  | fuel + 1, a0, h_a0, v1, v2, μ => by
    rw [f_Graph_lowestFoldable_L2]
    exact t_Graph_lowestFoldable_L2_b hg hA   (f_Graph_lowestFoldable_L2  fuel) (t_Graph_lowestFoldable_L2 hg hA   fuel) a0 h_a0 v1 v2 μ
theorem t_Graph_lowestFoldable_0 {cx : HCx} (hg : HGood cx R_Graph b_Graph_lowestFoldable 3 3 (some .int)) (hA : h_own cx) (g : Nat) (h_g : HIsG g) (v1 : Int32) (μ : HMem) : HX cx (HQ cx h_eI) (f_Graph_lowestFoldable g v1 μ) 0 0 0 [(0, .ref g), (1, .int v1)] [] μ := by
  unfold f_Graph_lowestFoldable
  refine r_iconst (v := 0) hg d_Graph_lowestFoldable_0 (by decide) ?_
  refine r_istore_n (l' := [(2, .int 0), (0, .ref g), (1, .int v1)]) hg d_Graph_lowestFoldable_1 rfl (Nat.le_of_ble_eq_true rfl) rfl ?_
  refine r_sub [1, 2, 0] rfl ?_
  exact t_Graph_lowestFoldable_L2 hg hA h_fuel g h_g v1 0 μ
theorem t_Graph_lowestFoldable (g : Nat) (h_g : HIsG g) (v1 : Int32) (μ : HMem) : HSpec y_Graph_lowestFoldable b_Graph_lowestFoldable 3 (some .int) 3 h_eI [.ref g, .int v1] μ (f_Graph_lowestFoldable g v1 μ) :=
  HSpec.of (by decide +kernel) (v_Graph_lowestFoldable.1 _ (by simp)) (Nat.le_of_ble_eq_true rfl) (fun cx hA hg => t_Graph_lowestFoldable_0 hg hA g h_g v1 μ)
theorem t_Graph_stiffPart_L7_b {cx : HCx} (hg : HGood cx R_Graph b_Graph_stiffPart 4 4 (some .int)) (hA : h_own cx) (K26 : Int32 → HMem → Option (Int32 × HMem)) (hK26 : p_Graph_stiffPart_26 cx K26) (K43 : Int32 → HMem → Option (Int32 × HMem)) (hK43 : p_Graph_stiffPart_43 cx K43) (rec_ : Nat → Int32 → Int32 → HMem → Option (Int32 × HMem)) (hrec_ : p_Graph_stiffPart_7 cx rec_) (a0 : Nat) (h_a0 : HIsG a0) (v1 : Int32) (v2 : Int32) (μ : HMem) : HX cx (HQ cx h_eI) (f_Graph_stiffPart_L7_b K26 K43 rec_ a0 v1 v2 μ) 0 0 7 [(0, .ref a0), (1, .int v1), (2, .int v2)] [] μ := by
  unfold f_Graph_stiffPart_L7_b
  refine r_iload_n hg 2 d_Graph_stiffPart_7 rfl rfl ?_
  refine r_aload_n hg 0 d_Graph_stiffPart_8 rfl rfl ?_
  refine r_get (v := .int (μ.1 a0 0)) hg c_Graph (h_G_lt h_a0) (h_G_kd h_a0) (Nat.le_of_ble_eq_true rfl) (h_G_fl0 h_a0) wf_Graph_21 d_Graph_stiffPart_9 rfl ?_
  refine r_icmp_ge (tgt := 43) hg d_Graph_stiffPart_12 (by decide) ?_ ?_
  · refine r_sub [1] rfl ?_
    exact hK43 v1 μ
  · refine r_aload_n hg 0 d_Graph_stiffPart_15 rfl rfl ?_
    refine r_iload_n hg 1 d_Graph_stiffPart_16 rfl rfl ?_
    refine r_callV (As := [.int v1]) hg (t_Graph_lowestFoldable a0 h_a0 v1 μ) v_Graph_lowestFoldable c_Graph rfl (h_G_lt h_a0) (h_G_kd h_a0) wm_Graph_102 d_Graph_stiffPart_17 rfl ⟨by decide, by decide⟩ (Nat.le_of_ble_eq_true rfl) rfl (fun r17 μ_17 _ => ?_)
    refine r_istore_n (l' := [(3, .int r17), (0, .ref a0), (1, .int v1), (2, .int v2)]) hg d_Graph_stiffPart_20 rfl (Nat.le_of_ble_eq_true rfl) rfl ?_
    refine r_iload_n hg 0 d_Graph_stiffPart_21 rfl rfl ?_
    refine r_iconst (v := -1) hg d_Graph_stiffPart_22 (by decide) ?_
    refine r_icmp_ne (tgt := 29) hg d_Graph_stiffPart_23 (by decide) ?_ ?_
    · refine r_iload_n hg 2 d_Graph_stiffPart_29 rfl rfl ?_
      refine r_iconst (v := 1) hg d_Graph_stiffPart_30 (by decide) ?_
      refine r_iload_n hg 0 d_Graph_stiffPart_31 rfl rfl ?_
      refine r_ishl hg d_Graph_stiffPart_32 ?_
      refine r_iconst (v := -1) hg d_Graph_stiffPart_33 (by decide) ?_
      refine r_ixor hg d_Graph_stiffPart_34 ?_
      refine r_iand hg d_Graph_stiffPart_35 ?_
      refine r_letI (fun v1_36 => ?_)
      refine r_istore_n (l' := [(1, .int v1_36), (3, .int r17), (0, .ref a0), (2, .int v2)]) hg d_Graph_stiffPart_36 rfl (Nat.le_of_ble_eq_true rfl) rfl ?_
      refine r_letE (fun v2_37 he_37 => ?_)
      refine r_iinc (v := v2_37) (l' := [(2, .int v2_37), (1, .int v1_36), (3, .int r17), (0, .ref a0)]) hg 3 d_Graph_stiffPart_37 rfl he_37 (Nat.le_of_ble_eq_true rfl) rfl ?_
      refine r_goto (tgt := 7) hg d_Graph_stiffPart_40 (by decide) ?_
      refine r_sub [3, 1, 0] rfl ?_
      exact hrec_ a0 h_a0 v1_36 v2_37 μ_17
    · refine r_sub [2] rfl ?_
      exact hK26 v1 μ_17
theorem t_Graph_stiffPart_L7 {cx : HCx} (hg : HGood cx R_Graph b_Graph_stiffPart 4 4 (some .int)) (hA : h_own cx) (K26 : Int32 → HMem → Option (Int32 × HMem)) (hK26 : p_Graph_stiffPart_26 cx K26) (K43 : Int32 → HMem → Option (Int32 × HMem)) (hK43 : p_Graph_stiffPart_43 cx K43) : ∀ (fuel : Nat) (a0 : Nat) (h_a0 : HIsG a0) (v1 : Int32) (v2 : Int32) (μ : HMem), HX cx (HQ cx h_eI) (f_Graph_stiffPart_L7 K26 K43 fuel a0 v1 v2 μ) 0 0 7 [(0, .ref a0), (1, .int v1), (2, .int v2)] [] μ
  | 0, _, _, _, _, _ => by unfold f_Graph_stiffPart_L7; exact HX.none
  | fuel + 1, a0, h_a0, v1, v2, μ => by
    rw [f_Graph_stiffPart_L7]
    exact t_Graph_stiffPart_L7_b hg hA  K26 hK26 K43 hK43 (f_Graph_stiffPart_L7 K26 K43 fuel) (t_Graph_stiffPart_L7 hg hA  K26 hK26 K43 hK43 fuel) a0 h_a0 v1 v2 μ
theorem t_Graph_stiffPart_J43 {cx : HCx} (hg : HGood cx R_Graph b_Graph_stiffPart 4 4 (some .int)) (hA : h_own cx)   (v1 : Int32) (μ : HMem) : HX cx (HQ cx h_eI) (f_Graph_stiffPart_J43   v1 μ) 0 0 43 [(1, .int v1)] [] μ := by
  unfold f_Graph_stiffPart_J43
  refine r_iload_n hg 0 d_Graph_stiffPart_43 rfl rfl ?_
  exact r_iret hg hA rfl d_Graph_stiffPart_44 rfl
theorem t_Graph_stiffPart_J26 {cx : HCx} (hg : HGood cx R_Graph b_Graph_stiffPart 4 4 (some .int)) (hA : h_own cx)   (v1 : Int32) (μ : HMem) : HX cx (HQ cx h_eI) (f_Graph_stiffPart_J26   v1 μ) 0 0 26 [(1, .int v1)] [] μ := by
  unfold f_Graph_stiffPart_J26
  refine r_goto (tgt := 43) hg d_Graph_stiffPart_26 (by decide) ?_
  exact t_Graph_stiffPart_J43 hg hA v1 μ
theorem t_Graph_stiffPart_0 {cx : HCx} (hg : HGood cx R_Graph b_Graph_stiffPart 4 4 (some .int)) (hA : h_own cx) (g : Nat) (h_g : HIsG g) (μ : HMem) : HX cx (HQ cx h_eI) (f_Graph_stiffPart g μ) 0 0 0 [(0, .ref g)] [] μ := by
  unfold f_Graph_stiffPart
  refine r_aload_n hg 0 d_Graph_stiffPart_0 rfl rfl ?_
  refine r_callV (As := []) hg (t_Graph_all g h_g μ) v_Graph_all c_Graph rfl (h_G_lt h_g) (h_G_kd h_g) wm_Graph_96 d_Graph_stiffPart_1 rfl ⟨by decide, by decide⟩ (Nat.le_of_ble_eq_true rfl) rfl (fun r1 μ_1 _ => ?_)
  refine r_istore_n (l' := [(1, .int r1), (0, .ref g)]) hg d_Graph_stiffPart_4 rfl (Nat.le_of_ble_eq_true rfl) rfl ?_
  refine r_iconst (v := 0) hg d_Graph_stiffPart_5 (by decide) ?_
  refine r_istore_n (l' := [(2, .int 0), (1, .int r1), (0, .ref g)]) hg d_Graph_stiffPart_6 rfl (Nat.le_of_ble_eq_true rfl) rfl ?_
  refine r_sub [2, 1, 0] rfl ?_
  exact t_Graph_stiffPart_L7 hg hA f_Graph_stiffPart_J26 (t_Graph_stiffPart_J26 hg hA) f_Graph_stiffPart_J43 (t_Graph_stiffPart_J43 hg hA) h_fuel g h_g r1 0 μ_1
theorem t_Graph_stiffPart (g : Nat) (h_g : HIsG g) (μ : HMem) : HSpec y_Graph_stiffPart b_Graph_stiffPart 4 (some .int) 4 h_eI [.ref g] μ (f_Graph_stiffPart g μ) :=
  HSpec.of (by decide +kernel) (v_Graph_stiffPart.1 _ (by simp)) (Nat.le_of_ble_eq_true rfl) (fun cx hA hg => t_Graph_stiffPart_0 hg hA g h_g μ)
