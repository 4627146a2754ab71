/-! pure programs and their proofs: inner (written by gen.py) -/
def y_History_save : MethodName := ⟨R_History, "save", "([LHomBench$Graph;)V"⟩
abbrev b_History_save : ByteArray := prog_5_method_2_code
theorem v_History_save : HVirt y_History_save b_History_save 4 none 1 := ⟨List.forall_mem_cons.mpr ⟨h_inI 592 (by decide +kernel) rfl, List.forall_mem_cons.mpr ⟨h_inI 593 (by decide +kernel) rfl, List.forall_mem_cons.mpr ⟨h_inI 102 (by decide +kernel) rfl, List.forall_mem_cons.mpr ⟨h_inI 594 (by decide +kernel) rfl, fun _ h => absurd h List.not_mem_nil⟩⟩⟩⟩, by decide, by decide, by decide +kernel⟩
def y_History_restore : MethodName := ⟨R_History, "restore", "([LHomBench$Graph;)V"⟩
abbrev b_History_restore : ByteArray := prog_5_method_3_code
theorem v_History_restore : HVirt y_History_restore b_History_restore 4 none 1 := ⟨List.forall_mem_cons.mpr ⟨h_inI 1118 (by decide +kernel) rfl, List.forall_mem_cons.mpr ⟨h_inI 1119 (by decide +kernel) rfl, List.forall_mem_cons.mpr ⟨h_inI 102 (by decide +kernel) rfl, List.forall_mem_cons.mpr ⟨h_inI 1120 (by decide +kernel) rfl, fun _ h => absurd h List.not_mem_nil⟩⟩⟩⟩, by decide, by decide, by decide +kernel⟩
def y_Script_put : MethodName := ⟨R_Script, "put", "(I)V"⟩
abbrev b_Script_put : ByteArray := prog_8_method_4_code
theorem v_Script_put : HVirt y_Script_put b_Script_put 2 none 1 := ⟨List.forall_mem_cons.mpr ⟨h_inI 1099 (by decide +kernel) rfl, List.forall_mem_cons.mpr ⟨h_inI 31 (by decide +kernel) rfl, List.forall_mem_cons.mpr ⟨h_inI 104 (by decide +kernel) rfl, List.forall_mem_cons.mpr ⟨h_inI 1100 (by decide +kernel) rfl, fun _ h => absurd h List.not_mem_nil⟩⟩⟩⟩, by decide, by decide, by decide +kernel⟩
def y_Script_putWeight : MethodName := ⟨R_Script, "putWeight", "(I)V"⟩
abbrev b_Script_putWeight : ByteArray := prog_8_method_3_code
theorem v_Script_putWeight : HVirt y_Script_putWeight b_Script_putWeight 2 none 1 := ⟨List.forall_mem_cons.mpr ⟨h_inI 1103 (by decide +kernel) rfl, List.forall_mem_cons.mpr ⟨h_inI 32 (by decide +kernel) rfl, List.forall_mem_cons.mpr ⟨h_inI 104 (by decide +kernel) rfl, List.forall_mem_cons.mpr ⟨h_inI 1104 (by decide +kernel) rfl, fun _ h => absurd h List.not_mem_nil⟩⟩⟩⟩, by decide, by decide, by decide +kernel⟩
def y_Script_write : MethodName := ⟨R_Script, "write", "(LHomBench$Graph;)V"⟩
abbrev b_Script_write : ByteArray := prog_8_method_2_code
theorem v_Script_write : HVirt y_Script_write b_Script_write 4 none 1 := ⟨List.forall_mem_cons.mpr ⟨h_inI 1094 (by decide +kernel) rfl, List.forall_mem_cons.mpr ⟨h_inI 1095 (by decide +kernel) rfl, List.forall_mem_cons.mpr ⟨h_inI 104 (by decide +kernel) rfl, List.forall_mem_cons.mpr ⟨h_inI 1096 (by decide +kernel) rfl, fun _ h => absurd h List.not_mem_nil⟩⟩⟩⟩, by decide, by decide, by decide +kernel⟩
def y_Text_readDigit : MethodName := ⟨R_Text, "readDigit", "(I)I"⟩
abbrev b_Text_readDigit : ByteArray := prog_9_method_7_code
theorem v_Text_readDigit : HVirt y_Text_readDigit b_Text_readDigit 3 (some .int) 1 := ⟨List.forall_mem_cons.mpr ⟨h_inI 1061 (by decide +kernel) rfl, List.forall_mem_cons.mpr ⟨h_inI 25 (by decide +kernel) rfl, List.forall_mem_cons.mpr ⟨h_inI 103 (by decide +kernel) rfl, List.forall_mem_cons.mpr ⟨h_inI 1062 (by decide +kernel) rfl, fun _ h => absurd h List.not_mem_nil⟩⟩⟩⟩, by decide, by decide, by decide +kernel⟩
def y_Text_accept : MethodName := ⟨R_Text, "accept", "(C)Z"⟩
abbrev b_Text_accept : ByteArray := prog_9_method_8_code
theorem v_Text_accept : HVirt y_Text_accept b_Text_accept 2 (some .boolean) 1 := ⟨List.forall_mem_cons.mpr ⟨h_inI 1066 (by decide +kernel) rfl, List.forall_mem_cons.mpr ⟨h_inI 26 (by decide +kernel) rfl, List.forall_mem_cons.mpr ⟨h_inI 103 (by decide +kernel) rfl, List.forall_mem_cons.mpr ⟨h_inI 1067 (by decide +kernel) rfl, fun _ h => absurd h List.not_mem_nil⟩⟩⟩⟩, by decide, by decide, by decide +kernel⟩
def y_Text_readWeight : MethodName := ⟨R_Text, "readWeight", "(I)I"⟩
abbrev b_Text_readWeight : ByteArray := prog_9_method_6_code
theorem v_Text_readWeight : HVirt y_Text_readWeight b_Text_readWeight 4 (some .int) 1 := ⟨List.forall_mem_cons.mpr ⟨h_inI 1078 (by decide +kernel) rfl, List.forall_mem_cons.mpr ⟨h_inI 29 (by decide +kernel) rfl, List.forall_mem_cons.mpr ⟨h_inI 103 (by decide +kernel) rfl, List.forall_mem_cons.mpr ⟨h_inI 1079 (by decide +kernel) rfl, fun _ h => absurd h List.not_mem_nil⟩⟩⟩⟩, by decide, by decide, by decide +kernel⟩
def y_Text_readVertexItem : MethodName := ⟨R_Text, "readVertexItem", "(LHomBench$Graph;)Z"⟩
abbrev b_Text_readVertexItem : ByteArray := prog_9_method_4_code
theorem v_Text_readVertexItem : HVirt y_Text_readVertexItem b_Text_readVertexItem 4 (some .boolean) 1 := ⟨List.forall_mem_cons.mpr ⟨h_inI 1074 (by decide +kernel) rfl, List.forall_mem_cons.mpr ⟨h_inI 28 (by decide +kernel) rfl, List.forall_mem_cons.mpr ⟨h_inI 103 (by decide +kernel) rfl, List.forall_mem_cons.mpr ⟨h_inI 1075 (by decide +kernel) rfl, fun _ h => absurd h List.not_mem_nil⟩⟩⟩⟩, by decide, by decide, by decide +kernel⟩
def y_Text_readEdgeItem : MethodName := ⟨R_Text, "readEdgeItem", "(LHomBench$Graph;)Z"⟩
abbrev b_Text_readEdgeItem : ByteArray := prog_9_method_5_code
theorem v_Text_readEdgeItem : HVirt y_Text_readEdgeItem b_Text_readEdgeItem 5 (some .boolean) 1 := ⟨List.forall_mem_cons.mpr ⟨h_inI 1082 (by decide +kernel) rfl, List.forall_mem_cons.mpr ⟨h_inI 30 (by decide +kernel) rfl, List.forall_mem_cons.mpr ⟨h_inI 103 (by decide +kernel) rfl, List.forall_mem_cons.mpr ⟨h_inI 1083 (by decide +kernel) rfl, fun _ h => absurd h List.not_mem_nil⟩⟩⟩⟩, by decide, by decide, by decide +kernel⟩
def y_Text_readItem : MethodName := ⟨R_Text, "readItem", "(LHomBench$Graph;)Z"⟩
abbrev b_Text_readItem : ByteArray := prog_9_method_3_code
theorem v_Text_readItem : HVirt y_Text_readItem b_Text_readItem 2 (some .boolean) 1 := ⟨List.forall_mem_cons.mpr ⟨h_inI 1070 (by decide +kernel) rfl, List.forall_mem_cons.mpr ⟨h_inI 27 (by decide +kernel) rfl, List.forall_mem_cons.mpr ⟨h_inI 103 (by decide +kernel) rfl, List.forall_mem_cons.mpr ⟨h_inI 1071 (by decide +kernel) rfl, fun _ h => absurd h List.not_mem_nil⟩⟩⟩⟩, by decide, by decide, by decide +kernel⟩
def y_Text_readGraph : MethodName := ⟨R_Text, "readGraph", "(LHomBench$Graph;)I"⟩
abbrev b_Text_readGraph : ByteArray := prog_9_method_2_code
theorem v_Text_readGraph : HVirt y_Text_readGraph b_Text_readGraph 5 (some .int) 1 := ⟨List.forall_mem_cons.mpr ⟨h_inI 1056 (by decide +kernel) rfl, List.forall_mem_cons.mpr ⟨h_inI 1057 (by decide +kernel) rfl, List.forall_mem_cons.mpr ⟨h_inI 103 (by decide +kernel) rfl, List.forall_mem_cons.mpr ⟨h_inI 1058 (by decide +kernel) rfl, fun _ h => absurd h List.not_mem_nil⟩⟩⟩⟩, by decide, by decide, by decide +kernel⟩
def y_Walks_advance : MethodName := ⟨R_Walks, "advance", "(LHomBench$Graph;)V"⟩
abbrev b_Walks_advance : ByteArray := prog_10_method_3_code
theorem v_Walks_advance : HVirt y_Walks_advance b_Walks_advance 6 none 1 := ⟨List.forall_mem_cons.mpr ⟨h_inI 995 (by decide +kernel) rfl, List.forall_mem_cons.mpr ⟨h_inI 23 (by decide +kernel) rfl, List.forall_mem_cons.mpr ⟨h_inI 109 (by decide +kernel) rfl, List.forall_mem_cons.mpr ⟨h_inI 996 (by decide +kernel) rfl, fun _ h => absurd h List.not_mem_nil⟩⟩⟩⟩, by decide, by decide, by decide +kernel⟩
def y_Walks_sumFrom : MethodName := ⟨R_Walks, "sumFrom", "(LHomBench$Graph;IIZ)J"⟩
abbrev b_Walks_sumFrom : ByteArray := prog_10_method_2_code
theorem v_Walks_sumFrom : HVirt y_Walks_sumFrom b_Walks_sumFrom 8 (some .long) 4 := ⟨List.forall_mem_cons.mpr ⟨h_inI 987 (by decide +kernel) rfl, List.forall_mem_cons.mpr ⟨h_inI 988 (by decide +kernel) rfl, List.forall_mem_cons.mpr ⟨h_inI 109 (by decide +kernel) rfl, List.forall_mem_cons.mpr ⟨h_inI 989 (by decide +kernel) rfl, fun _ h => absurd h List.not_mem_nil⟩⟩⟩⟩, by decide, by decide, by decide +kernel⟩
theorem wf_History_11 : Cond.fieldLink R_History 11 (F_History 0).1 (F_History 0).2.1 (F_History 0).2.2.1 ∈ h_tb := h_inI 176 (by decide +kernel) rfl
theorem wf_History_18 : Cond.fieldLink R_History 18 (F_History 1).1 (F_History 1).2.1 (F_History 1).2.2.1 ∈ h_tb := h_inI 177 (by decide +kernel) rfl
theorem wf_History_22 : Cond.fieldLink R_History 22 (F_History 2).1 (F_History 2).2.1 (F_History 2).2.2.1 ∈ h_tb := h_inI 178 (by decide +kernel) rfl
theorem wm_History_25 : Cond.methodLink R_History 25 y_Graph_copyFrom ∈ h_tb := h_inI 595 (by decide +kernel) rfl
theorem wf_Script_15 : Cond.fieldLink R_Script 15 (F_Script 1).1 (F_Script 1).2.1 (F_Script 1).2.2.1 ∈ h_tb := h_inI 215 (by decide +kernel) rfl
theorem wf_Script_9 : Cond.fieldLink R_Script 9 (F_Script 0).1 (F_Script 0).2.1 (F_Script 0).2.2.1 ∈ h_tb := h_inI 213 (by decide +kernel) rfl
theorem wk_Math_abs : Cond.code Lib.Math.abs.name Lib.Math.abs.code 1 (some .int) ∈ h_tb := h_inI 1107 (by decide +kernel) rfl
theorem wm_Script_24 : Cond.methodLink R_Script 24 y_Script_put ∈ h_tb := h_inI 1097 (by decide +kernel) rfl
theorem wm_Script_39 : Cond.methodLink R_Script 39 Lib.Math.abs.name ∈ h_tb := h_inI 1105 (by decide +kernel) rfl
theorem ws_Math_abs : Cond.static Lib.Math.abs.name ∈ h_tb := h_inI 1106 (by decide +kernel) rfl
theorem wf_Script_19 : Cond.fieldLink R_Script 19 (F_Graph 0).1 (F_Graph 0).2.1 (F_Graph 0).2.2.1 ∈ h_tb := h_inI 140 (by decide +kernel) rfl
theorem wf_Script_28 : Cond.fieldLink R_Script 28 (F_Graph 1).1 (F_Graph 1).2.1 (F_Graph 1).2.2.1 ∈ h_tb := h_inI 147 (by decide +kernel) rfl
theorem wm_Script_32 : Cond.methodLink R_Script 32 y_Script_putWeight ∈ h_tb := h_inI 1101 (by decide +kernel) rfl
theorem wm_Script_35 : Cond.methodLink R_Script 35 y_Graph_between ∈ h_tb := h_inI 1108 (by decide +kernel) rfl
theorem wf_Text_15 : Cond.fieldLink R_Text 15 (F_Text 2).1 (F_Text 2).2.1 (F_Text 2).2.2.1 ∈ h_tb := h_inI 197 (by decide +kernel) rfl
theorem wf_Text_29 : Cond.fieldLink R_Text 29 (F_Text 1).1 (F_Text 1).2.1 (F_Text 1).2.2.1 ∈ h_tb := h_inI 195 (by decide +kernel) rfl
theorem wf_Text_9 : Cond.fieldLink R_Text 9 (F_Text 0).1 (F_Text 0).2.1 (F_Text 0).2.2.1 ∈ h_tb := h_inI 193 (by decide +kernel) rfl
theorem wm_Text_19 : Cond.methodLink R_Text 19 y_Text_readDigit ∈ h_tb := h_inI 1059 (by decide +kernel) rfl
theorem wm_Text_32 : Cond.methodLink R_Text 32 y_Text_accept ∈ h_tb := h_inI 1064 (by decide +kernel) rfl
theorem wf_Text_46 : Cond.fieldLink R_Text 46 (F_Graph 0).1 (F_Graph 0).2.1 (F_Graph 0).2.2.1 ∈ h_tb := h_inI 144 (by decide +kernel) rfl
theorem wf_Text_52 : Cond.fieldLink R_Text 52 (F_Graph 1).1 (F_Graph 1).2.1 (F_Graph 1).2.2.1 ∈ h_tb := h_inI 150 (by decide +kernel) rfl
theorem wm_Text_49 : Cond.methodLink R_Text 49 y_Text_readWeight ∈ h_tb := h_inI 1076 (by decide +kernel) rfl
theorem wm_Text_56 : Cond.methodLink R_Text 56 y_Graph_join ∈ h_tb := h_inI 1084 (by decide +kernel) rfl
theorem wm_Text_40 : Cond.methodLink R_Text 40 y_Text_readVertexItem ∈ h_tb := h_inI 1072 (by decide +kernel) rfl
theorem wm_Text_43 : Cond.methodLink R_Text 43 y_Text_readEdgeItem ∈ h_tb := h_inI 1080 (by decide +kernel) rfl
theorem wm_Text_23 : Cond.methodLink R_Text 23 y_Graph_reset ∈ h_tb := h_inI 1063 (by decide +kernel) rfl
theorem wm_Text_36 : Cond.methodLink R_Text 36 y_Text_readItem ∈ h_tb := h_inI 1068 (by decide +kernel) rfl
theorem wf_Walks_15 : Cond.fieldLink R_Walks 15 (F_Walks 1).1 (F_Walks 1).2.1 (F_Walks 1).2.2.1 ∈ h_tb := h_inI 326 (by decide +kernel) rfl
theorem wf_Walks_28 : Cond.fieldLink R_Walks 28 (F_Graph 0).1 (F_Graph 0).2.1 (F_Graph 0).2.2.1 ∈ h_tb := h_inI 143 (by decide +kernel) rfl
theorem wf_Walks_9 : Cond.fieldLink R_Walks 9 (F_Walks 0).1 (F_Walks 0).2.1 (F_Walks 0).2.2.1 ∈ h_tb := h_inI 325 (by decide +kernel) rfl
theorem wm_Walks_34 : Cond.methodLink R_Walks 34 y_Graph_between ∈ h_tb := h_inI 997 (by decide +kernel) rfl
theorem wm_Walks_38 : Cond.methodLink R_Walks 38 arraycopyName ∈ h_tb := h_inI 998 (by decide +kernel) rfl
theorem wm_Walks_18 : Cond.methodLink R_Walks 18 y_Arrays_fill2 ∈ h_tb := h_inI 990 (by decide +kernel) rfl
theorem wm_Walks_24 : Cond.methodLink R_Walks 24 y_Walks_advance ∈ h_tb := h_inI 993 (by decide +kernel) rfl
theorem d_History_save_0 : decode b_History_save 0 = .ok (.aload_n 0, 1) := by decide +kernel
theorem d_History_save_1 : decode b_History_save 1 = .ok (.getfield 18, 3) := by decide +kernel
theorem d_History_save_4 : decode b_History_save 4 = .ok (.aload_n 0, 1) := by decide +kernel
theorem d_History_save_5 : decode b_History_save 5 = .ok (.getfield 22, 3) := by decide +kernel
theorem d_History_save_8 : decode b_History_save 8 = .ok (.iadd, 1) := by decide +kernel
theorem d_History_save_9 : decode b_History_save 9 = .ok (.iconst 4, 1) := by decide +kernel
theorem d_History_save_10 : decode b_History_save 10 = .ok (.irem, 1) := by decide +kernel
theorem d_History_save_11 : decode b_History_save 11 = .ok (.istore_n 2, 1) := by decide +kernel
theorem d_History_save_12 : decode b_History_save 12 = .ok (.iconst 0, 1) := by decide +kernel
theorem d_History_save_13 : decode b_History_save 13 = .ok (.istore_n 3, 1) := by decide +kernel
theorem d_History_save_14 : decode b_History_save 14 = .ok (.iload_n 3, 1) := by decide +kernel
theorem d_History_save_15 : decode b_History_save 15 = .ok (.iconst 4, 1) := by decide +kernel
theorem d_History_save_16 : decode b_History_save 16 = .ok (.if_icmp .ge 25, 3) := by decide +kernel
theorem d_History_save_19 : decode b_History_save 19 = .ok (.aload_n 0, 1) := by decide +kernel
theorem d_History_save_20 : decode b_History_save 20 = .ok (.getfield 11, 3) := by decide +kernel
theorem d_History_save_23 : decode b_History_save 23 = .ok (.iconst 4, 1) := by decide +kernel
theorem d_History_save_24 : decode b_History_save 24 = .ok (.iload_n 2, 1) := by decide +kernel
theorem d_History_save_25 : decode b_History_save 25 = .ok (.imul, 1) := by decide +kernel
theorem d_History_save_26 : decode b_History_save 26 = .ok (.iload_n 3, 1) := by decide +kernel
theorem d_History_save_27 : decode b_History_save 27 = .ok (.iadd, 1) := by decide +kernel
theorem d_History_save_28 : decode b_History_save 28 = .ok (.aaload, 1) := by decide +kernel
theorem d_History_save_29 : decode b_History_save 29 = .ok (.aload_n 1, 1) := by decide +kernel
theorem d_History_save_30 : decode b_History_save 30 = .ok (.iload_n 3, 1) := by decide +kernel
theorem d_History_save_31 : decode b_History_save 31 = .ok (.aaload, 1) := by decide +kernel
theorem d_History_save_32 : decode b_History_save 32 = .ok (.invokevirtual 25, 3) := by decide +kernel
theorem d_History_save_35 : decode b_History_save 35 = .ok (.iinc 3 1, 3) := by decide +kernel
theorem d_History_save_38 : decode b_History_save 38 = .ok (.goto (-24), 3) := by decide +kernel
theorem d_History_save_41 : decode b_History_save 41 = .ok (.aload_n 0, 1) := by decide +kernel
theorem d_History_save_42 : decode b_History_save 42 = .ok (.getfield 22, 3) := by decide +kernel
theorem d_History_save_45 : decode b_History_save 45 = .ok (.iconst 4, 1) := by decide +kernel
theorem d_History_save_46 : decode b_History_save 46 = .ok (.if_icmp .ge 16, 3) := by decide +kernel
theorem d_History_save_49 : decode b_History_save 49 = .ok (.aload_n 0, 1) := by decide +kernel
theorem d_History_save_50 : decode b_History_save 50 = .ok (.dup, 1) := by decide +kernel
theorem d_History_save_51 : decode b_History_save 51 = .ok (.getfield 22, 3) := by decide +kernel
theorem d_History_save_54 : decode b_History_save 54 = .ok (.iconst 1, 1) := by decide +kernel
theorem d_History_save_55 : decode b_History_save 55 = .ok (.iadd, 1) := by decide +kernel
theorem d_History_save_56 : decode b_History_save 56 = .ok (.putfield 22, 3) := by decide +kernel
theorem d_History_save_59 : decode b_History_save 59 = .ok (.goto 15, 3) := by decide +kernel
theorem d_History_save_62 : decode b_History_save 62 = .ok (.aload_n 0, 1) := by decide +kernel
theorem d_History_save_63 : decode b_History_save 63 = .ok (.aload_n 0, 1) := by decide +kernel
theorem d_History_save_64 : decode b_History_save 64 = .ok (.getfield 18, 3) := by decide +kernel
theorem d_History_save_67 : decode b_History_save 67 = .ok (.iconst 1, 1) := by decide +kernel
theorem d_History_save_68 : decode b_History_save 68 = .ok (.iadd, 1) := by decide +kernel
theorem d_History_save_69 : decode b_History_save 69 = .ok (.iconst 4, 1) := by decide +kernel
theorem d_History_save_70 : decode b_History_save 70 = .ok (.irem, 1) := by decide +kernel
theorem d_History_save_71 : decode b_History_save 71 = .ok (.putfield 18, 3) := by decide +kernel
theorem d_History_save_74 : decode b_History_save 74 = .ok (.return_, 1) := by decide +kernel
theorem d_History_restore_0 : decode b_History_restore 0 = .ok (.aload_n 0, 1) := by decide +kernel
theorem d_History_restore_1 : decode b_History_restore 1 = .ok (.dup, 1) := by decide +kernel
theorem d_History_restore_2 : decode b_History_restore 2 = .ok (.getfield 22, 3) := by decide +kernel
theorem d_History_restore_5 : decode b_History_restore 5 = .ok (.iconst 1, 1) := by decide +kernel
theorem d_History_restore_6 : decode b_History_restore 6 = .ok (.isub, 1) := by decide +kernel
theorem d_History_restore_7 : decode b_History_restore 7 = .ok (.putfield 22, 3) := by decide +kernel
theorem d_History_restore_10 : decode b_History_restore 10 = .ok (.aload_n 0, 1) := by decide +kernel
theorem d_History_restore_11 : decode b_History_restore 11 = .ok (.getfield 18, 3) := by decide +kernel
theorem d_History_restore_14 : decode b_History_restore 14 = .ok (.aload_n 0, 1) := by decide +kernel
theorem d_History_restore_15 : decode b_History_restore 15 = .ok (.getfield 22, 3) := by decide +kernel
theorem d_History_restore_18 : decode b_History_restore 18 = .ok (.iadd, 1) := by decide +kernel
theorem d_History_restore_19 : decode b_History_restore 19 = .ok (.iconst 4, 1) := by decide +kernel
theorem d_History_restore_20 : decode b_History_restore 20 = .ok (.irem, 1) := by decide +kernel
theorem d_History_restore_21 : decode b_History_restore 21 = .ok (.istore_n 2, 1) := by decide +kernel
theorem d_History_restore_22 : decode b_History_restore 22 = .ok (.iconst 0, 1) := by decide +kernel
theorem d_History_restore_23 : decode b_History_restore 23 = .ok (.istore_n 3, 1) := by decide +kernel
theorem d_History_restore_24 : decode b_History_restore 24 = .ok (.iload_n 3, 1) := by decide +kernel
theorem d_History_restore_25 : decode b_History_restore 25 = .ok (.iconst 4, 1) := by decide +kernel
theorem d_History_restore_26 : decode b_History_restore 26 = .ok (.if_icmp .ge 25, 3) := by decide +kernel
theorem d_History_restore_29 : decode b_History_restore 29 = .ok (.aload_n 1, 1) := by decide +kernel
theorem d_History_restore_30 : decode b_History_restore 30 = .ok (.iload_n 3, 1) := by decide +kernel
theorem d_History_restore_31 : decode b_History_restore 31 = .ok (.aaload, 1) := by decide +kernel
theorem d_History_restore_32 : decode b_History_restore 32 = .ok (.aload_n 0, 1) := by decide +kernel
theorem d_History_restore_33 : decode b_History_restore 33 = .ok (.getfield 11, 3) := by decide +kernel
theorem d_History_restore_36 : decode b_History_restore 36 = .ok (.iconst 4, 1) := by decide +kernel
theorem d_History_restore_37 : decode b_History_restore 37 = .ok (.iload_n 2, 1) := by decide +kernel
theorem d_History_restore_38 : decode b_History_restore 38 = .ok (.imul, 1) := by decide +kernel
theorem d_History_restore_39 : decode b_History_restore 39 = .ok (.iload_n 3, 1) := by decide +kernel
theorem d_History_restore_40 : decode b_History_restore 40 = .ok (.iadd, 1) := by decide +kernel
theorem d_History_restore_41 : decode b_History_restore 41 = .ok (.aaload, 1) := by decide +kernel
theorem d_History_restore_42 : decode b_History_restore 42 = .ok (.invokevirtual 25, 3) := by decide +kernel
theorem d_History_restore_45 : decode b_History_restore 45 = .ok (.iinc 3 1, 3) := by decide +kernel
theorem d_History_restore_48 : decode b_History_restore 48 = .ok (.goto (-24), 3) := by decide +kernel
theorem d_History_restore_51 : decode b_History_restore 51 = .ok (.return_, 1) := by decide +kernel
theorem d_Script_put_0 : decode b_Script_put 0 = .ok (.aload_n 0, 1) := by decide +kernel
theorem d_Script_put_1 : decode b_Script_put 1 = .ok (.getfield 15, 3) := by decide +kernel
theorem d_Script_put_4 : decode b_Script_put 4 = .ok (.aload_n 0, 1) := by decide +kernel
theorem d_Script_put_5 : decode b_Script_put 5 = .ok (.getfield 9, 3) := by decide +kernel
theorem d_Script_put_8 : decode b_Script_put 8 = .ok (.arraylength, 1) := by decide +kernel
theorem d_Script_put_9 : decode b_Script_put 9 = .ok (.if_icmp .ge 24, 3) := by decide +kernel
theorem d_Script_put_12 : decode b_Script_put 12 = .ok (.aload_n 0, 1) := by decide +kernel
theorem d_Script_put_13 : decode b_Script_put 13 = .ok (.getfield 9, 3) := by decide +kernel
theorem d_Script_put_16 : decode b_Script_put 16 = .ok (.aload_n 0, 1) := by decide +kernel
theorem d_Script_put_17 : decode b_Script_put 17 = .ok (.getfield 15, 3) := by decide +kernel
theorem d_Script_put_20 : decode b_Script_put 20 = .ok (.iload_n 1, 1) := by decide +kernel
theorem d_Script_put_21 : decode b_Script_put 21 = .ok (.i2b, 1) := by decide +kernel
theorem d_Script_put_22 : decode b_Script_put 22 = .ok (.bastore, 1) := by decide +kernel
theorem d_Script_put_23 : decode b_Script_put 23 = .ok (.aload_n 0, 1) := by decide +kernel
theorem d_Script_put_24 : decode b_Script_put 24 = .ok (.dup, 1) := by decide +kernel
theorem d_Script_put_25 : decode b_Script_put 25 = .ok (.getfield 15, 3) := by decide +kernel
theorem d_Script_put_28 : decode b_Script_put 28 = .ok (.iconst 1, 1) := by decide +kernel
theorem d_Script_put_29 : decode b_Script_put 29 = .ok (.iadd, 1) := by decide +kernel
theorem d_Script_put_30 : decode b_Script_put 30 = .ok (.putfield 15, 3) := by decide +kernel
theorem d_Script_put_33 : decode b_Script_put 33 = .ok (.return_, 1) := by decide +kernel
theorem d_Script_putWeight_0 : decode b_Script_putWeight 0 = .ok (.iload_n 1, 1) := by decide +kernel
theorem d_Script_putWeight_1 : decode b_Script_putWeight 1 = .ok (.iconst 1, 1) := by decide +kernel
theorem d_Script_putWeight_2 : decode b_Script_putWeight 2 = .ok (.if_icmp .eq 30, 3) := by decide +kernel
theorem d_Script_putWeight_5 : decode b_Script_putWeight 5 = .ok (.aload_n 0, 1) := by decide +kernel
theorem d_Script_putWeight_6 : decode b_Script_putWeight 6 = .ok (.bipush 61, 2) := by decide +kernel
theorem d_Script_putWeight_8 : decode b_Script_putWeight 8 = .ok (.invokevirtual 24, 3) := by decide +kernel
theorem d_Script_putWeight_11 : decode b_Script_putWeight 11 = .ok (.iload_n 1, 1) := by decide +kernel
theorem d_Script_putWeight_12 : decode b_Script_putWeight 12 = .ok (.ifCond .ge 9, 3) := by decide +kernel
theorem d_Script_putWeight_15 : decode b_Script_putWeight 15 = .ok (.aload_n 0, 1) := by decide +kernel
theorem d_Script_putWeight_16 : decode b_Script_putWeight 16 = .ok (.bipush 45, 2) := by decide +kernel
theorem d_Script_putWeight_18 : decode b_Script_putWeight 18 = .ok (.invokevirtual 24, 3) := by decide +kernel
theorem d_Script_putWeight_21 : decode b_Script_putWeight 21 = .ok (.aload_n 0, 1) := by decide +kernel
theorem d_Script_putWeight_22 : decode b_Script_putWeight 22 = .ok (.bipush 48, 2) := by decide +kernel
theorem d_Script_putWeight_24 : decode b_Script_putWeight 24 = .ok (.iload_n 1, 1) := by decide +kernel
theorem d_Script_putWeight_25 : decode b_Script_putWeight 25 = .ok (.invokestatic 39, 3) := by decide +kernel
theorem d_Script_putWeight_28 : decode b_Script_putWeight 28 = .ok (.iadd, 1) := by decide +kernel
theorem d_Script_putWeight_29 : decode b_Script_putWeight 29 = .ok (.invokevirtual 24, 3) := by decide +kernel
theorem d_Script_putWeight_32 : decode b_Script_putWeight 32 = .ok (.return_, 1) := by decide +kernel
theorem d_Script_write_0 : decode b_Script_write 0 = .ok (.aload_n 0, 1) := by decide +kernel
theorem d_Script_write_1 : decode b_Script_write 1 = .ok (.iconst 0, 1) := by decide +kernel
theorem d_Script_write_2 : decode b_Script_write 2 = .ok (.putfield 15, 3) := by decide +kernel
theorem d_Script_write_5 : decode b_Script_write 5 = .ok (.aload_n 0, 1) := by decide +kernel
theorem d_Script_write_6 : decode b_Script_write 6 = .ok (.bipush 48, 2) := by decide +kernel
theorem d_Script_write_8 : decode b_Script_write 8 = .ok (.aload_n 1, 1) := by decide +kernel
theorem d_Script_write_9 : decode b_Script_write 9 = .ok (.getfield 19, 3) := by decide +kernel
theorem d_Script_write_12 : decode b_Script_write 12 = .ok (.iadd, 1) := by decide +kernel
theorem d_Script_write_13 : decode b_Script_write 13 = .ok (.invokevirtual 24, 3) := by decide +kernel
theorem d_Script_write_16 : decode b_Script_write 16 = .ok (.iconst 0, 1) := by decide +kernel
theorem d_Script_write_17 : decode b_Script_write 17 = .ok (.istore_n 2, 1) := by decide +kernel
theorem d_Script_write_18 : decode b_Script_write 18 = .ok (.iload_n 2, 1) := by decide +kernel
theorem d_Script_write_19 : decode b_Script_write 19 = .ok (.aload_n 1, 1) := by decide +kernel
theorem d_Script_write_20 : decode b_Script_write 20 = .ok (.getfield 19, 3) := by decide +kernel
theorem d_Script_write_23 : decode b_Script_write 23 = .ok (.if_icmp .ge 49, 3) := by decide +kernel
theorem d_Script_write_26 : decode b_Script_write 26 = .ok (.aload_n 1, 1) := by decide +kernel
theorem d_Script_write_27 : decode b_Script_write 27 = .ok (.getfield 28, 3) := by decide +kernel
theorem d_Script_write_30 : decode b_Script_write 30 = .ok (.iload_n 2, 1) := by decide +kernel
theorem d_Script_write_31 : decode b_Script_write 31 = .ok (.iaload, 1) := by decide +kernel
theorem d_Script_write_32 : decode b_Script_write 32 = .ok (.iconst 1, 1) := by decide +kernel
theorem d_Script_write_33 : decode b_Script_write 33 = .ok (.if_icmp .eq 33, 3) := by decide +kernel
theorem d_Script_write_36 : decode b_Script_write 36 = .ok (.aload_n 0, 1) := by decide +kernel
theorem d_Script_write_37 : decode b_Script_write 37 = .ok (.bipush 59, 2) := by decide +kernel
theorem d_Script_write_39 : decode b_Script_write 39 = .ok (.invokevirtual 24, 3) := by decide +kernel
theorem d_Script_write_42 : decode b_Script_write 42 = .ok (.aload_n 0, 1) := by decide +kernel
theorem d_Script_write_43 : decode b_Script_write 43 = .ok (.bipush 118, 2) := by decide +kernel
theorem d_Script_write_45 : decode b_Script_write 45 = .ok (.invokevirtual 24, 3) := by decide +kernel
theorem d_Script_write_48 : decode b_Script_write 48 = .ok (.aload_n 0, 1) := by decide +kernel
theorem d_Script_write_49 : decode b_Script_write 49 = .ok (.bipush 48, 2) := by decide +kernel
theorem d_Script_write_51 : decode b_Script_write 51 = .ok (.iload_n 2, 1) := by decide +kernel
theorem d_Script_write_52 : decode b_Script_write 52 = .ok (.iadd, 1) := by decide +kernel
theorem d_Script_write_53 : decode b_Script_write 53 = .ok (.invokevirtual 24, 3) := by decide +kernel
theorem d_Script_write_56 : decode b_Script_write 56 = .ok (.aload_n 0, 1) := by decide +kernel
theorem d_Script_write_57 : decode b_Script_write 57 = .ok (.aload_n 1, 1) := by decide +kernel
theorem d_Script_write_58 : decode b_Script_write 58 = .ok (.getfield 28, 3) := by decide +kernel
theorem d_Script_write_61 : decode b_Script_write 61 = .ok (.iload_n 2, 1) := by decide +kernel
theorem d_Script_write_62 : decode b_Script_write 62 = .ok (.iaload, 1) := by decide +kernel
theorem d_Script_write_63 : decode b_Script_write 63 = .ok (.invokevirtual 32, 3) := by decide +kernel
theorem d_Script_write_66 : decode b_Script_write 66 = .ok (.iinc 2 1, 3) := by decide +kernel
theorem d_Script_write_69 : decode b_Script_write 69 = .ok (.goto (-51), 3) := by decide +kernel
theorem d_Script_write_72 : decode b_Script_write 72 = .ok (.iconst 0, 1) := by decide +kernel
theorem d_Script_write_73 : decode b_Script_write 73 = .ok (.istore_n 2, 1) := by decide +kernel
theorem d_Script_write_74 : decode b_Script_write 74 = .ok (.iload_n 2, 1) := by decide +kernel
theorem d_Script_write_75 : decode b_Script_write 75 = .ok (.aload_n 1, 1) := by decide +kernel
theorem d_Script_write_76 : decode b_Script_write 76 = .ok (.getfield 19, 3) := by decide +kernel
theorem d_Script_write_79 : decode b_Script_write 79 = .ok (.if_icmp .ge 66, 3) := by decide +kernel
theorem d_Script_write_82 : decode b_Script_write 82 = .ok (.iload_n 2, 1) := by decide +kernel
theorem d_Script_write_83 : decode b_Script_write 83 = .ok (.istore_n 3, 1) := by decide +kernel
theorem d_Script_write_84 : decode b_Script_write 84 = .ok (.iload_n 3, 1) := by decide +kernel
theorem d_Script_write_85 : decode b_Script_write 85 = .ok (.aload_n 1, 1) := by decide +kernel
theorem d_Script_write_86 : decode b_Script_write 86 = .ok (.getfield 19, 3) := by decide +kernel
theorem d_Script_write_89 : decode b_Script_write 89 = .ok (.if_icmp .ge 50, 3) := by decide +kernel
theorem d_Script_write_92 : decode b_Script_write 92 = .ok (.aload_n 1, 1) := by decide +kernel
theorem d_Script_write_93 : decode b_Script_write 93 = .ok (.iload_n 2, 1) := by decide +kernel
theorem d_Script_write_94 : decode b_Script_write 94 = .ok (.iload_n 3, 1) := by decide +kernel
theorem d_Script_write_95 : decode b_Script_write 95 = .ok (.invokevirtual 35, 3) := by decide +kernel
theorem d_Script_write_98 : decode b_Script_write 98 = .ok (.ifCond .eq 35, 3) := by decide +kernel
theorem d_Script_write_101 : decode b_Script_write 101 = .ok (.aload_n 0, 1) := by decide +kernel
theorem d_Script_write_102 : decode b_Script_write 102 = .ok (.bipush 59, 2) := by decide +kernel
theorem d_Script_write_104 : decode b_Script_write 104 = .ok (.invokevirtual 24, 3) := by decide +kernel
theorem d_Script_write_107 : decode b_Script_write 107 = .ok (.aload_n 0, 1) := by decide +kernel
theorem d_Script_write_108 : decode b_Script_write 108 = .ok (.bipush 48, 2) := by decide +kernel
theorem d_Script_write_110 : decode b_Script_write 110 = .ok (.iload_n 2, 1) := by decide +kernel
theorem d_Script_write_111 : decode b_Script_write 111 = .ok (.iadd, 1) := by decide +kernel
theorem d_Script_write_112 : decode b_Script_write 112 = .ok (.invokevirtual 24, 3) := by decide +kernel
theorem d_Script_write_115 : decode b_Script_write 115 = .ok (.aload_n 0, 1) := by decide +kernel
theorem d_Script_write_116 : decode b_Script_write 116 = .ok (.bipush 48, 2) := by decide +kernel
theorem d_Script_write_118 : decode b_Script_write 118 = .ok (.iload_n 3, 1) := by decide +kernel
theorem d_Script_write_119 : decode b_Script_write 119 = .ok (.iadd, 1) := by decide +kernel
theorem d_Script_write_120 : decode b_Script_write 120 = .ok (.invokevirtual 24, 3) := by decide +kernel
theorem d_Script_write_123 : decode b_Script_write 123 = .ok (.aload_n 0, 1) := by decide +kernel
theorem d_Script_write_124 : decode b_Script_write 124 = .ok (.aload_n 1, 1) := by decide +kernel
theorem d_Script_write_125 : decode b_Script_write 125 = .ok (.iload_n 2, 1) := by decide +kernel
theorem d_Script_write_126 : decode b_Script_write 126 = .ok (.iload_n 3, 1) := by decide +kernel
theorem d_Script_write_127 : decode b_Script_write 127 = .ok (.invokevirtual 35, 3) := by decide +kernel
theorem d_Script_write_130 : decode b_Script_write 130 = .ok (.invokevirtual 32, 3) := by decide +kernel
theorem d_Script_write_133 : decode b_Script_write 133 = .ok (.iinc 3 1, 3) := by decide +kernel
theorem d_Script_write_136 : decode b_Script_write 136 = .ok (.goto (-52), 3) := by decide +kernel
theorem d_Script_write_139 : decode b_Script_write 139 = .ok (.iinc 2 1, 3) := by decide +kernel
theorem d_Script_write_142 : decode b_Script_write 142 = .ok (.goto (-68), 3) := by decide +kernel
theorem d_Script_write_145 : decode b_Script_write 145 = .ok (.return_, 1) := by decide +kernel
theorem d_Text_readDigit_0 : decode b_Text_readDigit 0 = .ok (.aload_n 0, 1) := by decide +kernel
theorem d_Text_readDigit_1 : decode b_Text_readDigit 1 = .ok (.getfield 15, 3) := by decide +kernel
theorem d_Text_readDigit_4 : decode b_Text_readDigit 4 = .ok (.aload_n 0, 1) := by decide +kernel
theorem d_Text_readDigit_5 : decode b_Text_readDigit 5 = .ok (.getfield 29, 3) := by decide +kernel
theorem d_Text_readDigit_8 : decode b_Text_readDigit 8 = .ok (.if_icmp .ge 33, 3) := by decide +kernel
theorem d_Text_readDigit_11 : decode b_Text_readDigit 11 = .ok (.aload_n 0, 1) := by decide +kernel
theorem d_Text_readDigit_12 : decode b_Text_readDigit 12 = .ok (.getfield 9, 3) := by decide +kernel
theorem d_Text_readDigit_15 : decode b_Text_readDigit 15 = .ok (.aload_n 0, 1) := by decide +kernel
theorem d_Text_readDigit_16 : decode b_Text_readDigit 16 = .ok (.getfield 15, 3) := by decide +kernel
theorem d_Text_readDigit_19 : decode b_Text_readDigit 19 = .ok (.baload, 1) := by decide +kernel
theorem d_Text_readDigit_20 : decode b_Text_readDigit 20 = .ok (.bipush 48, 2) := by decide +kernel
theorem d_Text_readDigit_22 : decode b_Text_readDigit 22 = .ok (.if_icmp .lt 19, 3) := by decide +kernel
theorem d_Text_readDigit_25 : decode b_Text_readDigit 25 = .ok (.aload_n 0, 1) := by decide +kernel
theorem d_Text_readDigit_26 : decode b_Text_readDigit 26 = .ok (.getfield 9, 3) := by decide +kernel
theorem d_Text_readDigit_29 : decode b_Text_readDigit 29 = .ok (.aload_n 0, 1) := by decide +kernel
theorem d_Text_readDigit_30 : decode b_Text_readDigit 30 = .ok (.getfield 15, 3) := by decide +kernel
theorem d_Text_readDigit_33 : decode b_Text_readDigit 33 = .ok (.baload, 1) := by decide +kernel
theorem d_Text_readDigit_34 : decode b_Text_readDigit 34 = .ok (.bipush 48, 2) := by decide +kernel
theorem d_Text_readDigit_36 : decode b_Text_readDigit 36 = .ok (.iload_n 1, 1) := by decide +kernel
theorem d_Text_readDigit_37 : decode b_Text_readDigit 37 = .ok (.iadd, 1) := by decide +kernel
theorem d_Text_readDigit_38 : decode b_Text_readDigit 38 = .ok (.if_icmp .le 6, 3) := by decide +kernel
theorem d_Text_readDigit_41 : decode b_Text_readDigit 41 = .ok (.bipush (-100), 2) := by decide +kernel
theorem d_Text_readDigit_43 : decode b_Text_readDigit 43 = .ok (.ireturn, 1) := by decide +kernel
theorem d_Text_readDigit_44 : decode b_Text_readDigit 44 = .ok (.aload_n 0, 1) := by decide +kernel
theorem d_Text_readDigit_45 : decode b_Text_readDigit 45 = .ok (.getfield 9, 3) := by decide +kernel
theorem d_Text_readDigit_48 : decode b_Text_readDigit 48 = .ok (.aload_n 0, 1) := by decide +kernel
theorem d_Text_readDigit_49 : decode b_Text_readDigit 49 = .ok (.getfield 15, 3) := by decide +kernel
theorem d_Text_readDigit_52 : decode b_Text_readDigit 52 = .ok (.baload, 1) := by decide +kernel
theorem d_Text_readDigit_53 : decode b_Text_readDigit 53 = .ok (.bipush 48, 2) := by decide +kernel
theorem d_Text_readDigit_55 : decode b_Text_readDigit 55 = .ok (.isub, 1) := by decide +kernel
theorem d_Text_readDigit_56 : decode b_Text_readDigit 56 = .ok (.istore_n 2, 1) := by decide +kernel
theorem d_Text_readDigit_57 : decode b_Text_readDigit 57 = .ok (.aload_n 0, 1) := by decide +kernel
theorem d_Text_readDigit_58 : decode b_Text_readDigit 58 = .ok (.dup, 1) := by decide +kernel
theorem d_Text_readDigit_59 : decode b_Text_readDigit 59 = .ok (.getfield 15, 3) := by decide +kernel
theorem d_Text_readDigit_62 : decode b_Text_readDigit 62 = .ok (.iconst 1, 1) := by decide +kernel
theorem d_Text_readDigit_63 : decode b_Text_readDigit 63 = .ok (.iadd, 1) := by decide +kernel
theorem d_Text_readDigit_64 : decode b_Text_readDigit 64 = .ok (.putfield 15, 3) := by decide +kernel
theorem d_Text_readDigit_67 : decode b_Text_readDigit 67 = .ok (.iload_n 2, 1) := by decide +kernel
theorem d_Text_readDigit_68 : decode b_Text_readDigit 68 = .ok (.ireturn, 1) := by decide +kernel
theorem d_Text_accept_0 : decode b_Text_accept 0 = .ok (.aload_n 0, 1) := by decide +kernel
theorem d_Text_accept_1 : decode b_Text_accept 1 = .ok (.getfield 15, 3) := by decide +kernel
theorem d_Text_accept_4 : decode b_Text_accept 4 = .ok (.aload_n 0, 1) := by decide +kernel
theorem d_Text_accept_5 : decode b_Text_accept 5 = .ok (.getfield 29, 3) := by decide +kernel
theorem d_Text_accept_8 : decode b_Text_accept 8 = .ok (.if_icmp .ge 16, 3) := by decide +kernel
theorem d_Text_accept_11 : decode b_Text_accept 11 = .ok (.aload_n 0, 1) := by decide +kernel
theorem d_Text_accept_12 : decode b_Text_accept 12 = .ok (.getfield 9, 3) := by decide +kernel
theorem d_Text_accept_15 : decode b_Text_accept 15 = .ok (.aload_n 0, 1) := by decide +kernel
theorem d_Text_accept_16 : decode b_Text_accept 16 = .ok (.getfield 15, 3) := by decide +kernel
theorem d_Text_accept_19 : decode b_Text_accept 19 = .ok (.baload, 1) := by decide +kernel
theorem d_Text_accept_20 : decode b_Text_accept 20 = .ok (.iload_n 1, 1) := by decide +kernel
theorem d_Text_accept_21 : decode b_Text_accept 21 = .ok (.if_icmp .eq 5, 3) := by decide +kernel
theorem d_Text_accept_24 : decode b_Text_accept 24 = .ok (.iconst 0, 1) := by decide +kernel
theorem d_Text_accept_25 : decode b_Text_accept 25 = .ok (.ireturn, 1) := by decide +kernel
theorem d_Text_accept_26 : decode b_Text_accept 26 = .ok (.aload_n 0, 1) := by decide +kernel
theorem d_Text_accept_27 : decode b_Text_accept 27 = .ok (.dup, 1) := by decide +kernel
theorem d_Text_accept_28 : decode b_Text_accept 28 = .ok (.getfield 15, 3) := by decide +kernel
theorem d_Text_accept_31 : decode b_Text_accept 31 = .ok (.iconst 1, 1) := by decide +kernel
theorem d_Text_accept_32 : decode b_Text_accept 32 = .ok (.iadd, 1) := by decide +kernel
theorem d_Text_accept_33 : decode b_Text_accept 33 = .ok (.putfield 15, 3) := by decide +kernel
theorem d_Text_accept_36 : decode b_Text_accept 36 = .ok (.iconst 1, 1) := by decide +kernel
theorem d_Text_accept_37 : decode b_Text_accept 37 = .ok (.ireturn, 1) := by decide +kernel
theorem d_Text_readWeight_0 : decode b_Text_readWeight 0 = .ok (.aload_n 0, 1) := by decide +kernel
theorem d_Text_readWeight_1 : decode b_Text_readWeight 1 = .ok (.bipush 45, 2) := by decide +kernel
theorem d_Text_readWeight_3 : decode b_Text_readWeight 3 = .ok (.invokevirtual 32, 3) := by decide +kernel
theorem d_Text_readWeight_6 : decode b_Text_readWeight 6 = .ok (.istore_n 2, 1) := by decide +kernel
theorem d_Text_readWeight_7 : decode b_Text_readWeight 7 = .ok (.aload_n 0, 1) := by decide +kernel
theorem d_Text_readWeight_8 : decode b_Text_readWeight 8 = .ok (.iload_n 1, 1) := by decide +kernel
theorem d_Text_readWeight_9 : decode b_Text_readWeight 9 = .ok (.invokevirtual 19, 3) := by decide +kernel
theorem d_Text_readWeight_12 : decode b_Text_readWeight 12 = .ok (.istore_n 3, 1) := by decide +kernel
theorem d_Text_readWeight_13 : decode b_Text_readWeight 13 = .ok (.iload_n 2, 1) := by decide +kernel
theorem d_Text_readWeight_14 : decode b_Text_readWeight 14 = .ok (.ifCond .eq 14, 3) := by decide +kernel
theorem d_Text_readWeight_17 : decode b_Text_readWeight 17 = .ok (.iload_n 3, 1) := by decide +kernel
theorem d_Text_readWeight_18 : decode b_Text_readWeight 18 = .ok (.bipush (-100), 2) := by decide +kernel
theorem d_Text_readWeight_20 : decode b_Text_readWeight 20 = .ok (.if_icmp .eq 8, 3) := by decide +kernel
theorem d_Text_readWeight_23 : decode b_Text_readWeight 23 = .ok (.iload_n 3, 1) := by decide +kernel
theorem d_Text_readWeight_24 : decode b_Text_readWeight 24 = .ok (.ineg, 1) := by decide +kernel
theorem d_Text_readWeight_25 : decode b_Text_readWeight 25 = .ok (.goto 4, 3) := by decide +kernel
theorem d_Text_readWeight_28 : decode b_Text_readWeight 28 = .ok (.iload_n 3, 1) := by decide +kernel
theorem d_Text_readWeight_29 : decode b_Text_readWeight 29 = .ok (.ireturn, 1) := by decide +kernel
theorem d_Text_readVertexItem_0 : decode b_Text_readVertexItem 0 = .ok (.aload_n 0, 1) := by decide +kernel
theorem d_Text_readVertexItem_1 : decode b_Text_readVertexItem 1 = .ok (.aload_n 1, 1) := by decide +kernel
theorem d_Text_readVertexItem_2 : decode b_Text_readVertexItem 2 = .ok (.getfield 46, 3) := by decide +kernel
theorem d_Text_readVertexItem_5 : decode b_Text_readVertexItem 5 = .ok (.iconst 1, 1) := by decide +kernel
theorem d_Text_readVertexItem_6 : decode b_Text_readVertexItem 6 = .ok (.isub, 1) := by decide +kernel
theorem d_Text_readVertexItem_7 : decode b_Text_readVertexItem 7 = .ok (.invokevirtual 19, 3) := by decide +kernel
theorem d_Text_readVertexItem_10 : decode b_Text_readVertexItem 10 = .ok (.istore_n 2, 1) := by decide +kernel
theorem d_Text_readVertexItem_11 : decode b_Text_readVertexItem 11 = .ok (.iload_n 2, 1) := by decide +kernel
theorem d_Text_readVertexItem_12 : decode b_Text_readVertexItem 12 = .ok (.bipush (-100), 2) := by decide +kernel
theorem d_Text_readVertexItem_14 : decode b_Text_readVertexItem 14 = .ok (.if_icmp .eq 12, 3) := by decide +kernel
theorem d_Text_readVertexItem_17 : decode b_Text_readVertexItem 17 = .ok (.aload_n 0, 1) := by decide +kernel
theorem d_Text_readVertexItem_18 : decode b_Text_readVertexItem 18 = .ok (.bipush 61, 2) := by decide +kernel
theorem d_Text_readVertexItem_20 : decode b_Text_readVertexItem 20 = .ok (.invokevirtual 32, 3) := by decide +kernel
theorem d_Text_readVertexItem_23 : decode b_Text_readVertexItem 23 = .ok (.ifCond .ne 5, 3) := by decide +kernel
theorem d_Text_readVertexItem_26 : decode b_Text_readVertexItem 26 = .ok (.iconst 0, 1) := by decide +kernel
theorem d_Text_readVertexItem_27 : decode b_Text_readVertexItem 27 = .ok (.ireturn, 1) := by decide +kernel
theorem d_Text_readVertexItem_28 : decode b_Text_readVertexItem 28 = .ok (.aload_n 0, 1) := by decide +kernel
theorem d_Text_readVertexItem_29 : decode b_Text_readVertexItem 29 = .ok (.iconst 3, 1) := by decide +kernel
theorem d_Text_readVertexItem_30 : decode b_Text_readVertexItem 30 = .ok (.invokevirtual 49, 3) := by decide +kernel
theorem d_Text_readVertexItem_33 : decode b_Text_readVertexItem 33 = .ok (.istore_n 3, 1) := by decide +kernel
theorem d_Text_readVertexItem_34 : decode b_Text_readVertexItem 34 = .ok (.iload_n 3, 1) := by decide +kernel
theorem d_Text_readVertexItem_35 : decode b_Text_readVertexItem 35 = .ok (.bipush (-100), 2) := by decide +kernel
theorem d_Text_readVertexItem_37 : decode b_Text_readVertexItem 37 = .ok (.if_icmp .ne 5, 3) := by decide +kernel
theorem d_Text_readVertexItem_40 : decode b_Text_readVertexItem 40 = .ok (.iconst 0, 1) := by decide +kernel
theorem d_Text_readVertexItem_41 : decode b_Text_readVertexItem 41 = .ok (.ireturn, 1) := by decide +kernel
theorem d_Text_readVertexItem_42 : decode b_Text_readVertexItem 42 = .ok (.aload_n 1, 1) := by decide +kernel
theorem d_Text_readVertexItem_43 : decode b_Text_readVertexItem 43 = .ok (.getfield 52, 3) := by decide +kernel
theorem d_Text_readVertexItem_46 : decode b_Text_readVertexItem 46 = .ok (.iload_n 2, 1) := by decide +kernel
theorem d_Text_readVertexItem_47 : decode b_Text_readVertexItem 47 = .ok (.iload_n 3, 1) := by decide +kernel
theorem d_Text_readVertexItem_48 : decode b_Text_readVertexItem 48 = .ok (.iastore, 1) := by decide +kernel
theorem d_Text_readVertexItem_49 : decode b_Text_readVertexItem 49 = .ok (.iconst 1, 1) := by decide +kernel
theorem d_Text_readVertexItem_50 : decode b_Text_readVertexItem 50 = .ok (.ireturn, 1) := by decide +kernel
theorem d_Text_readEdgeItem_0 : decode b_Text_readEdgeItem 0 = .ok (.aload_n 0, 1) := by decide +kernel
theorem d_Text_readEdgeItem_1 : decode b_Text_readEdgeItem 1 = .ok (.aload_n 1, 1) := by decide +kernel
theorem d_Text_readEdgeItem_2 : decode b_Text_readEdgeItem 2 = .ok (.getfield 46, 3) := by decide +kernel
theorem d_Text_readEdgeItem_5 : decode b_Text_readEdgeItem 5 = .ok (.iconst 1, 1) := by decide +kernel
theorem d_Text_readEdgeItem_6 : decode b_Text_readEdgeItem 6 = .ok (.isub, 1) := by decide +kernel
theorem d_Text_readEdgeItem_7 : decode b_Text_readEdgeItem 7 = .ok (.invokevirtual 19, 3) := by decide +kernel
theorem d_Text_readEdgeItem_10 : decode b_Text_readEdgeItem 10 = .ok (.istore_n 2, 1) := by decide +kernel
theorem d_Text_readEdgeItem_11 : decode b_Text_readEdgeItem 11 = .ok (.iload_n 2, 1) := by decide +kernel
theorem d_Text_readEdgeItem_12 : decode b_Text_readEdgeItem 12 = .ok (.bipush (-100), 2) := by decide +kernel
theorem d_Text_readEdgeItem_14 : decode b_Text_readEdgeItem 14 = .ok (.if_icmp .ne 5, 3) := by decide +kernel
theorem d_Text_readEdgeItem_17 : decode b_Text_readEdgeItem 17 = .ok (.iconst 0, 1) := by decide +kernel
theorem d_Text_readEdgeItem_18 : decode b_Text_readEdgeItem 18 = .ok (.ireturn, 1) := by decide +kernel
theorem d_Text_readEdgeItem_19 : decode b_Text_readEdgeItem 19 = .ok (.aload_n 0, 1) := by decide +kernel
theorem d_Text_readEdgeItem_20 : decode b_Text_readEdgeItem 20 = .ok (.aload_n 1, 1) := by decide +kernel
theorem d_Text_readEdgeItem_21 : decode b_Text_readEdgeItem 21 = .ok (.getfield 46, 3) := by decide +kernel
theorem d_Text_readEdgeItem_24 : decode b_Text_readEdgeItem 24 = .ok (.iconst 1, 1) := by decide +kernel
theorem d_Text_readEdgeItem_25 : decode b_Text_readEdgeItem 25 = .ok (.isub, 1) := by decide +kernel
theorem d_Text_readEdgeItem_26 : decode b_Text_readEdgeItem 26 = .ok (.invokevirtual 19, 3) := by decide +kernel
theorem d_Text_readEdgeItem_29 : decode b_Text_readEdgeItem 29 = .ok (.istore_n 3, 1) := by decide +kernel
theorem d_Text_readEdgeItem_30 : decode b_Text_readEdgeItem 30 = .ok (.iload_n 3, 1) := by decide +kernel
theorem d_Text_readEdgeItem_31 : decode b_Text_readEdgeItem 31 = .ok (.bipush (-100), 2) := by decide +kernel
theorem d_Text_readEdgeItem_33 : decode b_Text_readEdgeItem 33 = .ok (.if_icmp .ne 5, 3) := by decide +kernel
theorem d_Text_readEdgeItem_36 : decode b_Text_readEdgeItem 36 = .ok (.iconst 0, 1) := by decide +kernel
theorem d_Text_readEdgeItem_37 : decode b_Text_readEdgeItem 37 = .ok (.ireturn, 1) := by decide +kernel
theorem d_Text_readEdgeItem_38 : decode b_Text_readEdgeItem 38 = .ok (.aload_n 0, 1) := by decide +kernel
theorem d_Text_readEdgeItem_39 : decode b_Text_readEdgeItem 39 = .ok (.bipush 61, 2) := by decide +kernel
theorem d_Text_readEdgeItem_41 : decode b_Text_readEdgeItem 41 = .ok (.invokevirtual 32, 3) := by decide +kernel
theorem d_Text_readEdgeItem_44 : decode b_Text_readEdgeItem 44 = .ok (.ifCond .eq 11, 3) := by decide +kernel
theorem d_Text_readEdgeItem_47 : decode b_Text_readEdgeItem 47 = .ok (.aload_n 0, 1) := by decide +kernel
theorem d_Text_readEdgeItem_48 : decode b_Text_readEdgeItem 48 = .ok (.iconst 2, 1) := by decide +kernel
theorem d_Text_readEdgeItem_49 : decode b_Text_readEdgeItem 49 = .ok (.invokevirtual 49, 3) := by decide +kernel
theorem d_Text_readEdgeItem_52 : decode b_Text_readEdgeItem 52 = .ok (.goto 4, 3) := by decide +kernel
theorem d_Text_readEdgeItem_55 : decode b_Text_readEdgeItem 55 = .ok (.iconst 1, 1) := by decide +kernel
theorem d_Text_readEdgeItem_56 : decode b_Text_readEdgeItem 56 = .ok (.istore 4, 2) := by decide +kernel
theorem d_Text_readEdgeItem_58 : decode b_Text_readEdgeItem 58 = .ok (.iload 4, 2) := by decide +kernel
theorem d_Text_readEdgeItem_60 : decode b_Text_readEdgeItem 60 = .ok (.bipush (-100), 2) := by decide +kernel
theorem d_Text_readEdgeItem_62 : decode b_Text_readEdgeItem 62 = .ok (.if_icmp .ne 5, 3) := by decide +kernel
theorem d_Text_readEdgeItem_65 : decode b_Text_readEdgeItem 65 = .ok (.iconst 0, 1) := by decide +kernel
theorem d_Text_readEdgeItem_66 : decode b_Text_readEdgeItem 66 = .ok (.ireturn, 1) := by decide +kernel
theorem d_Text_readEdgeItem_67 : decode b_Text_readEdgeItem 67 = .ok (.aload_n 1, 1) := by decide +kernel
theorem d_Text_readEdgeItem_68 : decode b_Text_readEdgeItem 68 = .ok (.iload_n 2, 1) := by decide +kernel
theorem d_Text_readEdgeItem_69 : decode b_Text_readEdgeItem 69 = .ok (.iload_n 3, 1) := by decide +kernel
theorem d_Text_readEdgeItem_70 : decode b_Text_readEdgeItem 70 = .ok (.iload 4, 2) := by decide +kernel
theorem d_Text_readEdgeItem_72 : decode b_Text_readEdgeItem 72 = .ok (.invokevirtual 56, 3) := by decide +kernel
theorem d_Text_readEdgeItem_75 : decode b_Text_readEdgeItem 75 = .ok (.iconst 1, 1) := by decide +kernel
theorem d_Text_readEdgeItem_76 : decode b_Text_readEdgeItem 76 = .ok (.ireturn, 1) := by decide +kernel
theorem d_Text_readItem_0 : decode b_Text_readItem 0 = .ok (.aload_n 0, 1) := by decide +kernel
theorem d_Text_readItem_1 : decode b_Text_readItem 1 = .ok (.bipush 118, 2) := by decide +kernel
theorem d_Text_readItem_3 : decode b_Text_readItem 3 = .ok (.invokevirtual 32, 3) := by decide +kernel
theorem d_Text_readItem_6 : decode b_Text_readItem 6 = .ok (.ifCond .eq 11, 3) := by decide +kernel
theorem d_Text_readItem_9 : decode b_Text_readItem 9 = .ok (.aload_n 0, 1) := by decide +kernel
theorem d_Text_readItem_10 : decode b_Text_readItem 10 = .ok (.aload_n 1, 1) := by decide +kernel
theorem d_Text_readItem_11 : decode b_Text_readItem 11 = .ok (.invokevirtual 40, 3) := by decide +kernel
theorem d_Text_readItem_14 : decode b_Text_readItem 14 = .ok (.goto 8, 3) := by decide +kernel
theorem d_Text_readItem_17 : decode b_Text_readItem 17 = .ok (.aload_n 0, 1) := by decide +kernel
theorem d_Text_readItem_18 : decode b_Text_readItem 18 = .ok (.aload_n 1, 1) := by decide +kernel
theorem d_Text_readItem_19 : decode b_Text_readItem 19 = .ok (.invokevirtual 43, 3) := by decide +kernel
theorem d_Text_readItem_22 : decode b_Text_readItem 22 = .ok (.ireturn, 1) := by decide +kernel
theorem d_Text_readGraph_0 : decode b_Text_readGraph 0 = .ok (.aload_n 0, 1) := by decide +kernel
theorem d_Text_readGraph_1 : decode b_Text_readGraph 1 = .ok (.iconst 0, 1) := by decide +kernel
theorem d_Text_readGraph_2 : decode b_Text_readGraph 2 = .ok (.putfield 15, 3) := by decide +kernel
theorem d_Text_readGraph_5 : decode b_Text_readGraph 5 = .ok (.aload_n 0, 1) := by decide +kernel
theorem d_Text_readGraph_6 : decode b_Text_readGraph 6 = .ok (.bipush 8, 2) := by decide +kernel
theorem d_Text_readGraph_8 : decode b_Text_readGraph 8 = .ok (.invokevirtual 19, 3) := by decide +kernel
theorem d_Text_readGraph_11 : decode b_Text_readGraph 11 = .ok (.istore_n 2, 1) := by decide +kernel
theorem d_Text_readGraph_12 : decode b_Text_readGraph 12 = .ok (.iload_n 2, 1) := by decide +kernel
theorem d_Text_readGraph_13 : decode b_Text_readGraph 13 = .ok (.bipush (-100), 2) := by decide +kernel
theorem d_Text_readGraph_15 : decode b_Text_readGraph 15 = .ok (.if_icmp .ne 5, 3) := by decide +kernel
theorem d_Text_readGraph_18 : decode b_Text_readGraph 18 = .ok (.iconst (-1), 1) := by decide +kernel
theorem d_Text_readGraph_19 : decode b_Text_readGraph 19 = .ok (.ireturn, 1) := by decide +kernel
theorem d_Text_readGraph_20 : decode b_Text_readGraph 20 = .ok (.aload_n 1, 1) := by decide +kernel
theorem d_Text_readGraph_21 : decode b_Text_readGraph 21 = .ok (.iload_n 2, 1) := by decide +kernel
theorem d_Text_readGraph_22 : decode b_Text_readGraph 22 = .ok (.invokevirtual 23, 3) := by decide +kernel
theorem d_Text_readGraph_25 : decode b_Text_readGraph 25 = .ok (.iconst 0, 1) := by decide +kernel
theorem d_Text_readGraph_26 : decode b_Text_readGraph 26 = .ok (.istore_n 3, 1) := by decide +kernel
theorem d_Text_readGraph_27 : decode b_Text_readGraph 27 = .ok (.iconst 0, 1) := by decide +kernel
theorem d_Text_readGraph_28 : decode b_Text_readGraph 28 = .ok (.istore 4, 2) := by decide +kernel
theorem d_Text_readGraph_30 : decode b_Text_readGraph 30 = .ok (.aload_n 0, 1) := by decide +kernel
theorem d_Text_readGraph_31 : decode b_Text_readGraph 31 = .ok (.getfield 15, 3) := by decide +kernel
theorem d_Text_readGraph_34 : decode b_Text_readGraph 34 = .ok (.aload_n 0, 1) := by decide +kernel
theorem d_Text_readGraph_35 : decode b_Text_readGraph 35 = .ok (.getfield 29, 3) := by decide +kernel
theorem d_Text_readGraph_38 : decode b_Text_readGraph 38 = .ok (.if_icmp .ge 38, 3) := by decide +kernel
theorem d_Text_readGraph_41 : decode b_Text_readGraph 41 = .ok (.iload 4, 2) := by decide +kernel
theorem d_Text_readGraph_43 : decode b_Text_readGraph 43 = .ok (.bipush 120, 2) := by decide +kernel
theorem d_Text_readGraph_45 : decode b_Text_readGraph 45 = .ok (.if_icmp .ge 31, 3) := by decide +kernel
theorem d_Text_readGraph_48 : decode b_Text_readGraph 48 = .ok (.aload_n 0, 1) := by decide +kernel
theorem d_Text_readGraph_49 : decode b_Text_readGraph 49 = .ok (.bipush 59, 2) := by decide +kernel
theorem d_Text_readGraph_51 : decode b_Text_readGraph 51 = .ok (.invokevirtual 32, 3) := by decide +kernel
theorem d_Text_readGraph_54 : decode b_Text_readGraph 54 = .ok (.ifCond .eq 11, 3) := by decide +kernel
theorem d_Text_readGraph_57 : decode b_Text_readGraph 57 = .ok (.aload_n 0, 1) := by decide +kernel
theorem d_Text_readGraph_58 : decode b_Text_readGraph 58 = .ok (.aload_n 1, 1) := by decide +kernel
theorem d_Text_readGraph_59 : decode b_Text_readGraph 59 = .ok (.invokevirtual 36, 3) := by decide +kernel
theorem d_Text_readGraph_62 : decode b_Text_readGraph 62 = .ok (.ifCond .ne 5, 3) := by decide +kernel
theorem d_Text_readGraph_65 : decode b_Text_readGraph 65 = .ok (.iconst (-1), 1) := by decide +kernel
theorem d_Text_readGraph_66 : decode b_Text_readGraph 66 = .ok (.ireturn, 1) := by decide +kernel
theorem d_Text_readGraph_67 : decode b_Text_readGraph 67 = .ok (.iinc 3 1, 3) := by decide +kernel
theorem d_Text_readGraph_70 : decode b_Text_readGraph 70 = .ok (.iinc 4 1, 3) := by decide +kernel
theorem d_Text_readGraph_73 : decode b_Text_readGraph 73 = .ok (.goto (-43), 3) := by decide +kernel
theorem d_Text_readGraph_76 : decode b_Text_readGraph 76 = .ok (.iload_n 3, 1) := by decide +kernel
theorem d_Text_readGraph_77 : decode b_Text_readGraph 77 = .ok (.ireturn, 1) := by decide +kernel
theorem d_Walks_advance_0 : decode b_Walks_advance 0 = .ok (.iconst 0, 1) := by decide +kernel
theorem d_Walks_advance_1 : decode b_Walks_advance 1 = .ok (.istore_n 2, 1) := by decide +kernel
theorem d_Walks_advance_2 : decode b_Walks_advance 2 = .ok (.iload_n 2, 1) := by decide +kernel
theorem d_Walks_advance_3 : decode b_Walks_advance 3 = .ok (.aload_n 1, 1) := by decide +kernel
theorem d_Walks_advance_4 : decode b_Walks_advance 4 = .ok (.getfield 28, 3) := by decide +kernel
theorem d_Walks_advance_7 : decode b_Walks_advance 7 = .ok (.if_icmp .ge 55, 3) := by decide +kernel
theorem d_Walks_advance_10 : decode b_Walks_advance 10 = .ok (.lconst 0, 1) := by decide +kernel
theorem d_Walks_advance_11 : decode b_Walks_advance 11 = .ok (.lstore_n 3, 1) := by decide +kernel
theorem d_Walks_advance_12 : decode b_Walks_advance 12 = .ok (.iconst 0, 1) := by decide +kernel
theorem d_Walks_advance_13 : decode b_Walks_advance 13 = .ok (.istore 5, 2) := by decide +kernel
theorem d_Walks_advance_15 : decode b_Walks_advance 15 = .ok (.iload 5, 2) := by decide +kernel
theorem d_Walks_advance_17 : decode b_Walks_advance 17 = .ok (.aload_n 1, 1) := by decide +kernel
theorem d_Walks_advance_18 : decode b_Walks_advance 18 = .ok (.getfield 28, 3) := by decide +kernel
theorem d_Walks_advance_21 : decode b_Walks_advance 21 = .ok (.if_icmp .ge 28, 3) := by decide +kernel
theorem d_Walks_advance_24 : decode b_Walks_advance 24 = .ok (.lload_n 3, 1) := by decide +kernel
theorem d_Walks_advance_25 : decode b_Walks_advance 25 = .ok (.aload_n 0, 1) := by decide +kernel
theorem d_Walks_advance_26 : decode b_Walks_advance 26 = .ok (.getfield 9, 3) := by decide +kernel
theorem d_Walks_advance_29 : decode b_Walks_advance 29 = .ok (.iload 5, 2) := by decide +kernel
theorem d_Walks_advance_31 : decode b_Walks_advance 31 = .ok (.laload, 1) := by decide +kernel
theorem d_Walks_advance_32 : decode b_Walks_advance 32 = .ok (.aload_n 1, 1) := by decide +kernel
theorem d_Walks_advance_33 : decode b_Walks_advance 33 = .ok (.iload 5, 2) := by decide +kernel
theorem d_Walks_advance_35 : decode b_Walks_advance 35 = .ok (.iload_n 2, 1) := by decide +kernel
theorem d_Walks_advance_36 : decode b_Walks_advance 36 = .ok (.invokevirtual 34, 3) := by decide +kernel
theorem d_Walks_advance_39 : decode b_Walks_advance 39 = .ok (.i2l, 1) := by decide +kernel
theorem d_Walks_advance_40 : decode b_Walks_advance 40 = .ok (.lmul, 1) := by decide +kernel
theorem d_Walks_advance_41 : decode b_Walks_advance 41 = .ok (.ladd, 1) := by decide +kernel
theorem d_Walks_advance_42 : decode b_Walks_advance 42 = .ok (.lstore_n 3, 1) := by decide +kernel
theorem d_Walks_advance_43 : decode b_Walks_advance 43 = .ok (.iinc 5 1, 3) := by decide +kernel
theorem d_Walks_advance_46 : decode b_Walks_advance 46 = .ok (.goto (-31), 3) := by decide +kernel
theorem d_Walks_advance_49 : decode b_Walks_advance 49 = .ok (.aload_n 0, 1) := by decide +kernel
theorem d_Walks_advance_50 : decode b_Walks_advance 50 = .ok (.getfield 15, 3) := by decide +kernel
theorem d_Walks_advance_53 : decode b_Walks_advance 53 = .ok (.iload_n 2, 1) := by decide +kernel
theorem d_Walks_advance_54 : decode b_Walks_advance 54 = .ok (.lload_n 3, 1) := by decide +kernel
theorem d_Walks_advance_55 : decode b_Walks_advance 55 = .ok (.lastore, 1) := by decide +kernel
theorem d_Walks_advance_56 : decode b_Walks_advance 56 = .ok (.iinc 2 1, 3) := by decide +kernel
theorem d_Walks_advance_59 : decode b_Walks_advance 59 = .ok (.goto (-57), 3) := by decide +kernel
theorem d_Walks_advance_62 : decode b_Walks_advance 62 = .ok (.aload_n 0, 1) := by decide +kernel
theorem d_Walks_advance_63 : decode b_Walks_advance 63 = .ok (.getfield 15, 3) := by decide +kernel
theorem d_Walks_advance_66 : decode b_Walks_advance 66 = .ok (.iconst 0, 1) := by decide +kernel
theorem d_Walks_advance_67 : decode b_Walks_advance 67 = .ok (.aload_n 0, 1) := by decide +kernel
theorem d_Walks_advance_68 : decode b_Walks_advance 68 = .ok (.getfield 9, 3) := by decide +kernel
theorem d_Walks_advance_71 : decode b_Walks_advance 71 = .ok (.iconst 0, 1) := by decide +kernel
theorem d_Walks_advance_72 : decode b_Walks_advance 72 = .ok (.bipush 8, 2) := by decide +kernel
theorem d_Walks_advance_74 : decode b_Walks_advance 74 = .ok (.invokestatic 38, 3) := by decide +kernel
theorem d_Walks_advance_77 : decode b_Walks_advance 77 = .ok (.return_, 1) := by decide +kernel
theorem d_Walks_sumFrom_0 : decode b_Walks_sumFrom 0 = .ok (.aload_n 0, 1) := by decide +kernel
theorem d_Walks_sumFrom_1 : decode b_Walks_sumFrom 1 = .ok (.getfield 9, 3) := by decide +kernel
theorem d_Walks_sumFrom_4 : decode b_Walks_sumFrom 4 = .ok (.lconst 0, 1) := by decide +kernel
theorem d_Walks_sumFrom_5 : decode b_Walks_sumFrom 5 = .ok (.invokestatic 18, 3) := by decide +kernel
theorem d_Walks_sumFrom_8 : decode b_Walks_sumFrom 8 = .ok (.aload_n 0, 1) := by decide +kernel
theorem d_Walks_sumFrom_9 : decode b_Walks_sumFrom 9 = .ok (.getfield 9, 3) := by decide +kernel
theorem d_Walks_sumFrom_12 : decode b_Walks_sumFrom 12 = .ok (.iload_n 2, 1) := by decide +kernel
theorem d_Walks_sumFrom_13 : decode b_Walks_sumFrom 13 = .ok (.lconst 1, 1) := by decide +kernel
theorem d_Walks_sumFrom_14 : decode b_Walks_sumFrom 14 = .ok (.lastore, 1) := by decide +kernel
theorem d_Walks_sumFrom_15 : decode b_Walks_sumFrom 15 = .ok (.iconst 0, 1) := by decide +kernel
theorem d_Walks_sumFrom_16 : decode b_Walks_sumFrom 16 = .ok (.istore 5, 2) := by decide +kernel
theorem d_Walks_sumFrom_18 : decode b_Walks_sumFrom 18 = .ok (.iload 5, 2) := by decide +kernel
theorem d_Walks_sumFrom_20 : decode b_Walks_sumFrom 20 = .ok (.iload_n 3, 1) := by decide +kernel
theorem d_Walks_sumFrom_21 : decode b_Walks_sumFrom 21 = .ok (.if_icmp .ge 14, 3) := by decide +kernel
theorem d_Walks_sumFrom_24 : decode b_Walks_sumFrom 24 = .ok (.aload_n 0, 1) := by decide +kernel
theorem d_Walks_sumFrom_25 : decode b_Walks_sumFrom 25 = .ok (.aload_n 1, 1) := by decide +kernel
theorem d_Walks_sumFrom_26 : decode b_Walks_sumFrom 26 = .ok (.invokevirtual 24, 3) := by decide +kernel
theorem d_Walks_sumFrom_29 : decode b_Walks_sumFrom 29 = .ok (.iinc 5 1, 3) := by decide +kernel
theorem d_Walks_sumFrom_32 : decode b_Walks_sumFrom 32 = .ok (.goto (-14), 3) := by decide +kernel
theorem d_Walks_sumFrom_35 : decode b_Walks_sumFrom 35 = .ok (.lconst 0, 1) := by decide +kernel
theorem d_Walks_sumFrom_36 : decode b_Walks_sumFrom 36 = .ok (.lstore 5, 2) := by decide +kernel
theorem d_Walks_sumFrom_38 : decode b_Walks_sumFrom 38 = .ok (.iconst 0, 1) := by decide +kernel
theorem d_Walks_sumFrom_39 : decode b_Walks_sumFrom 39 = .ok (.istore 7, 2) := by decide +kernel
theorem d_Walks_sumFrom_41 : decode b_Walks_sumFrom 41 = .ok (.iload 7, 2) := by decide +kernel
theorem d_Walks_sumFrom_43 : decode b_Walks_sumFrom 43 = .ok (.aload_n 1, 1) := by decide +kernel
theorem d_Walks_sumFrom_44 : decode b_Walks_sumFrom 44 = .ok (.getfield 28, 3) := by decide +kernel
theorem d_Walks_sumFrom_47 : decode b_Walks_sumFrom 47 = .ok (.if_icmp .ge 36, 3) := by decide +kernel
theorem d_Walks_sumFrom_50 : decode b_Walks_sumFrom 50 = .ok (.lload 5, 2) := by decide +kernel
theorem d_Walks_sumFrom_52 : decode b_Walks_sumFrom 52 = .ok (.iload 4, 2) := by decide +kernel
theorem d_Walks_sumFrom_54 : decode b_Walks_sumFrom 54 = .ok (.ifCond .eq 13, 3) := by decide +kernel
theorem d_Walks_sumFrom_57 : decode b_Walks_sumFrom 57 = .ok (.iload 7, 2) := by decide +kernel
theorem d_Walks_sumFrom_59 : decode b_Walks_sumFrom 59 = .ok (.iload_n 2, 1) := by decide +kernel
theorem d_Walks_sumFrom_60 : decode b_Walks_sumFrom 60 = .ok (.if_icmp .eq 7, 3) := by decide +kernel
theorem d_Walks_sumFrom_63 : decode b_Walks_sumFrom 63 = .ok (.lconst 0, 1) := by decide +kernel
theorem d_Walks_sumFrom_64 : decode b_Walks_sumFrom 64 = .ok (.goto 10, 3) := by decide +kernel
theorem d_Walks_sumFrom_67 : decode b_Walks_sumFrom 67 = .ok (.aload_n 0, 1) := by decide +kernel
theorem d_Walks_sumFrom_68 : decode b_Walks_sumFrom 68 = .ok (.getfield 9, 3) := by decide +kernel
theorem d_Walks_sumFrom_71 : decode b_Walks_sumFrom 71 = .ok (.iload 7, 2) := by decide +kernel
theorem d_Walks_sumFrom_73 : decode b_Walks_sumFrom 73 = .ok (.laload, 1) := by decide +kernel
theorem d_Walks_sumFrom_74 : decode b_Walks_sumFrom 74 = .ok (.ladd, 1) := by decide +kernel
theorem d_Walks_sumFrom_75 : decode b_Walks_sumFrom 75 = .ok (.lstore 5, 2) := by decide +kernel
theorem d_Walks_sumFrom_77 : decode b_Walks_sumFrom 77 = .ok (.iinc 7 1, 3) := by decide +kernel
theorem d_Walks_sumFrom_80 : decode b_Walks_sumFrom 80 = .ok (.goto (-39), 3) := by decide +kernel
theorem d_Walks_sumFrom_83 : decode b_Walks_sumFrom 83 = .ok (.lload 5, 2) := by decide +kernel
theorem d_Walks_sumFrom_85 : decode b_Walks_sumFrom 85 = .ok (.lreturn, 1) := by decide +kernel
def f_History_save_L14_b (K41 : HMem → Option (Unit × HMem)) (rec_ : Int32 → Int32 → HMem → Option (Unit × HMem)) (v2 : Int32) (v3 : Int32) (μ : HMem) : Option (Unit × HMem) :=
if (4 : Int32) ≤ v3 then
  K41 μ
else
  h_chk ((4 * v2) + v3) (h_len 87) (
  h_chk v3 (h_len 85) (
  h_bd (f_Graph_copyFrom (h_el 87 (Int32.toNatClampNeg ((4 * v2) + v3))) (h_el 85 (Int32.toNatClampNeg (v3))) μ) (fun _ μ_32 =>
  h_let (v3 + 1) (fun v3_35 =>
  rec_ v2 v3_35 μ_32))))
def f_History_save_L14 (K41 : HMem → Option (Unit × HMem)) : Nat → Int32 → Int32 → HMem → Option (Unit × HMem)
  | 0, _, _, _ => none
  | fuel + 1, v2, v3, μ => f_History_save_L14_b K41 (f_History_save_L14 K41 fuel) v2 v3 μ
def f_History_save_J74    (μ : HMem) : Option (Unit × HMem) :=
some ((), μ)
def f_History_save_J41    (μ : HMem) : Option (Unit × HMem) :=
if (4 : Int32) ≤ (μ.1 86 2) then
  if (4 : Int32) = 0 then none else
  h_let (h_wi μ 86 1 (h_irem ((μ.1 86 1) + 1) 4)) (fun μ_71 =>
  f_History_save_J74 μ_71)
else
  h_let (h_wi μ 86 2 ((μ.1 86 2) + 1)) (fun μ_56 =>
  f_History_save_J74 μ_56)
def f_History_save  (μ : HMem) : Option (Unit × HMem) :=
  if (4 : Int32) = 0 then none else
  h_let (h_irem ((μ.1 86 1) + (μ.1 86 2)) 4) (fun v2_11 =>
  f_History_save_L14 f_History_save_J41 h_fuel v2_11 0 μ)
def f_History_restore_L24_b  (rec_ : Int32 → Int32 → HMem → Option (Unit × HMem)) (v2 : Int32) (v3 : Int32) (μ : HMem) : Option (Unit × HMem) :=
if (4 : Int32) ≤ v3 then
  some ((), μ)
else
  h_chk v3 (h_len 85) (
  h_chk ((4 * v2) + v3) (h_len 87) (
  h_bd (f_Graph_copyFrom (h_el 85 (Int32.toNatClampNeg (v3))) (h_el 87 (Int32.toNatClampNeg ((4 * v2) + v3))) μ) (fun _ μ_42 =>
  h_let (v3 + 1) (fun v3_45 =>
  rec_ v2 v3_45 μ_42))))
def f_History_restore_L24  : Nat → Int32 → Int32 → HMem → Option (Unit × HMem)
  | 0, _, _, _ => none
  | fuel + 1, v2, v3, μ => f_History_restore_L24_b  (f_History_restore_L24  fuel) v2 v3 μ
def f_History_restore  (μ : HMem) : Option (Unit × HMem) :=
  h_let (h_wi μ 86 2 ((μ.1 86 2) - 1)) (fun μ_7 =>
  if (4 : Int32) = 0 then none else
  h_let (h_irem ((μ_7.1 86 1) + (μ_7.1 86 2)) 4) (fun v2_21 =>
  f_History_restore_L24 h_fuel v2_21 0 μ_7))
def f_Script_put_J33    (μ : HMem) : Option (Unit × HMem) :=
some ((), μ)
def f_Script_put (v1 : Int32) (μ : HMem) : Option (Unit × HMem) :=
  if (nI (h_len 91)) ≤ (μ.1 90 1) then
    f_Script_put_J33 μ
  else
    h_chk (μ.1 90 1) (h_len 91) (h_let (h_wi μ 91 (Int32.toNatClampNeg (μ.1 90 1)) (h_i2b (h_i2b v1))) (fun μ_22 =>
    h_let (h_wi μ_22 90 1 ((μ_22.1 90 1) + 1)) (fun μ_30 =>
    f_Script_put_J33 μ_30)))
def f_Script_putWeight_J32    (μ : HMem) : Option (Unit × HMem) :=
some ((), μ)
def f_Script_putWeight_J21   (v1 : Int32) (μ : HMem) : Option (Unit × HMem) :=
h_bd (f_Script_put (48 + (h_mabs v1)) μ) (fun _ μ_29 =>
f_Script_putWeight_J32 μ_29)
def f_Script_putWeight (v1 : Int32) (μ : HMem) : Option (Unit × HMem) :=
  if v1 = (1 : Int32) then
    f_Script_putWeight_J32 μ
  else
    h_bd (f_Script_put 61 μ) (fun _ μ_8 =>
    if 0 ≤ v1 then
      f_Script_putWeight_J21 v1 μ_8
    else
      h_bd (f_Script_put 45 μ_8) (fun _ μ_18 =>
      f_Script_putWeight_J21 v1 μ_18))
def f_Script_write_J66  (rec_ : Nat → Int32 → HMem → Option (Unit × HMem)) (a1 : Nat) (v2 : Int32) (μ : HMem) : Option (Unit × HMem) :=
h_let (v2 + 1) (fun v2_66 =>
rec_ a1 v2_66 μ)
def f_Script_write_L18_b (K72 : Nat → HMem → Option (Unit × HMem)) (rec_ : Nat → Int32 → HMem → Option (Unit × HMem)) (a1 : Nat) (v2 : Int32) (μ : HMem) : Option (Unit × HMem) :=
if (μ.1 a1 0) ≤ v2 then
  K72 a1 μ
else
  h_chk v2 (h_len (a1 + 1)) (
  if (μ.1 (a1 + 1) (Int32.toNatClampNeg (v2))) = (1 : Int32) then
    f_Script_write_J66 rec_ a1 v2 μ
  else
    h_bd (f_Script_put 59 μ) (fun _ μ_39 =>
    h_bd (f_Script_put 118 μ_39) (fun _ μ_45 =>
    h_bd (f_Script_put (48 + v2) μ_45) (fun _ μ_53 =>
    h_chk v2 (h_len (a1 + 1)) (
    h_bd (f_Script_putWeight (μ_53.1 (a1 + 1) (Int32.toNatClampNeg (v2))) μ_53) (fun _ μ_63 =>
    f_Script_write_J66 rec_ a1 v2 μ_63))))))
def f_Script_write_L18 (K72 : Nat → HMem → Option (Unit × HMem)) : Nat → Nat → Int32 → HMem → Option (Unit × HMem)
  | 0, _, _, _ => none
  | fuel + 1, a1, v2, μ => f_Script_write_L18_b K72 (f_Script_write_L18 K72 fuel) a1 v2 μ
def f_Script_write_J133  (rec_ : Nat → Int32 → Int32 → HMem → Option (Unit × HMem)) (a1 : Nat) (v2 : Int32) (v3 : Int32) (μ : HMem) : Option (Unit × HMem) :=
h_let (v3 + 1) (fun v3_133 =>
rec_ a1 v2 v3_133 μ)
def f_Script_write_L84_b (K139 : Nat → Int32 → HMem → Option (Unit × HMem)) (rec_ : Nat → Int32 → Int32 → HMem → Option (Unit × HMem)) (a1 : Nat) (v2 : Int32) (v3 : Int32) (μ : HMem) : Option (Unit × HMem) :=
if (μ.1 a1 0) ≤ v3 then
  K139 a1 v2 μ
else
  h_bd (f_Graph_between a1 v2 v3 μ) (fun r95 μ_95 =>
  if r95 = 0 then
    f_Script_write_J133 rec_ a1 v2 v3 μ_95
  else
    h_bd (f_Script_put 59 μ_95) (fun _ μ_104 =>
    h_bd (f_Script_put (48 + v2) μ_104) (fun _ μ_112 =>
    h_bd (f_Script_put (48 + v3) μ_112) (fun _ μ_120 =>
    h_bd (f_Graph_between a1 v2 v3 μ_120) (fun r127 μ_127 =>
    h_bd (f_Script_putWeight r127 μ_127) (fun _ μ_130 =>
    f_Script_write_J133 rec_ a1 v2 v3 μ_130))))))
def f_Script_write_L84 (K139 : Nat → Int32 → HMem → Option (Unit × HMem)) : Nat → Nat → Int32 → Int32 → HMem → Option (Unit × HMem)
  | 0, _, _, _, _ => none
  | fuel + 1, a1, v2, v3, μ => f_Script_write_L84_b K139 (f_Script_write_L84 K139 fuel) a1 v2 v3 μ
def f_Script_write_J139  (rec_ : Nat → Int32 → HMem → Option (Unit × HMem)) (a1 : Nat) (v2 : Int32) (μ : HMem) : Option (Unit × HMem) :=
h_let (v2 + 1) (fun v2_139 =>
rec_ a1 v2_139 μ)
def f_Script_write_L74_b  (rec_ : Nat → Int32 → HMem → Option (Unit × HMem)) (a1 : Nat) (v2 : Int32) (μ : HMem) : Option (Unit × HMem) :=
if (μ.1 a1 0) ≤ v2 then
  some ((), μ)
else
  f_Script_write_L84 (f_Script_write_J139 rec_) h_fuel a1 v2 v2 μ
def f_Script_write_L74  : Nat → Nat → Int32 → HMem → Option (Unit × HMem)
  | 0, _, _, _ => none
  | fuel + 1, a1, v2, μ => f_Script_write_L74_b  (f_Script_write_L74  fuel) a1 v2 μ
def f_Script_write_J72   (a1 : Nat) (μ : HMem) : Option (Unit × HMem) :=
f_Script_write_L74 h_fuel a1 0 μ
def f_Script_write (a1 : Nat) (μ : HMem) : Option (Unit × HMem) :=
  h_let (h_wi μ 90 1 0) (fun μ_2 =>
  h_bd (f_Script_put (48 + (μ_2.1 a1 0)) μ_2) (fun _ μ_13 =>
  f_Script_write_L18 f_Script_write_J72 h_fuel a1 0 μ_13))
def f_Text_readDigit_J41    (μ : HMem) : Option (Int32 × HMem) :=
some ((-100), μ)
def f_Text_readDigit (v1 : Int32) (μ : HMem) : Option (Int32 × HMem) :=
  if (μ.1 88 1) ≤ (μ.1 88 2) then
    f_Text_readDigit_J41 μ
  else
    h_chk (μ.1 88 2) (h_len 89) (
    if (μ.1 89 (Int32.toNatClampNeg (μ.1 88 2))) < (48 : Int32) then
      f_Text_readDigit_J41 μ
    else
      h_chk (μ.1 88 2) (h_len 89) (
      if (μ.1 89 (Int32.toNatClampNeg (μ.1 88 2))) ≤ (48 + v1) then
        h_chk (μ.1 88 2) (h_len 89) (
        h_let ((μ.1 89 (Int32.toNatClampNeg (μ.1 88 2))) - 48) (fun v2_56 =>
        h_let (h_wi μ 88 2 ((μ.1 88 2) + 1)) (fun μ_64 =>
        some (v2_56, μ_64))))
      else
        f_Text_readDigit_J41 μ))
def f_Text_accept_J24    (μ : HMem) : Option (Int32 × HMem) :=
if (0 : Int32) &&& 1 = 0 then some (0, μ) else none
def f_Text_accept (v1 : Int32) (μ : HMem) : Option (Int32 × HMem) :=
  if (μ.1 88 1) ≤ (μ.1 88 2) then
    f_Text_accept_J24 μ
  else
    h_chk (μ.1 88 2) (h_len 89) (
    if (μ.1 89 (Int32.toNatClampNeg (μ.1 88 2))) = v1 then
      h_let (h_wi μ 88 2 ((μ.1 88 2) + 1)) (fun μ_33 =>
      if (1 : Int32) &&& 1 = 1 then some (1, μ_33) else none)
    else
      f_Text_accept_J24 μ)
def f_Text_readWeight_J29   (s0 : Int32) (μ : HMem) : Option (Int32 × HMem) :=
some (s0, μ)
def f_Text_readWeight_J28   (v3 : Int32) (μ : HMem) : Option (Int32 × HMem) :=
f_Text_readWeight_J29 v3 μ
def f_Text_readWeight (v1 : Int32) (μ : HMem) : Option (Int32 × HMem) :=
  h_bd (f_Text_accept 45 μ) (fun r3 μ_3 =>
  h_bd (f_Text_readDigit v1 μ_3) (fun r9 μ_9 =>
  if r3 = 0 then
    f_Text_readWeight_J28 r9 μ_9
  else
    if r9 = (-100 : Int32) then
      f_Text_readWeight_J28 r9 μ_9
    else
      f_Text_readWeight_J29 (-r9) μ_9))
def f_Text_readVertexItem_J26    (μ : HMem) : Option (Int32 × HMem) :=
if (0 : Int32) &&& 1 = 0 then some (0, μ) else none
def f_Text_readVertexItem (a1 : Nat) (μ : HMem) : Option (Int32 × HMem) :=
  h_bd (f_Text_readDigit ((μ.1 a1 0) - 1) μ) (fun r7 μ_7 =>
  if r7 = (-100 : Int32) then
    f_Text_readVertexItem_J26 μ_7
  else
    h_bd (f_Text_accept 61 μ_7) (fun r20 μ_20 =>
    if ¬ r20 = 0 then
      h_bd (f_Text_readWeight 3 μ_20) (fun r30 μ_30 =>
      if ¬ r30 = (-100 : Int32) then
        h_chk r7 (h_len (a1 + 1)) (h_let (h_wi μ_30 (a1 + 1) (Int32.toNatClampNeg (r7)) r30) (fun μ_48 =>
        if (1 : Int32) &&& 1 = 1 then some (1, μ_48) else none))
      else
        if (0 : Int32) &&& 1 = 0 then some (0, μ_30) else none)
    else
      f_Text_readVertexItem_J26 μ_20))
def f_Text_readEdgeItem_J56   (a1 : Nat) (v2 : Int32) (v3 : Int32) (s0 : Int32) (μ : HMem) : Option (Int32 × HMem) :=
if ¬ s0 = (-100 : Int32) then
  h_bd (f_Graph_join a1 v2 v3 s0 μ) (fun _ μ_72 =>
  if (1 : Int32) &&& 1 = 1 then some (1, μ_72) else none)
else
  if (0 : Int32) &&& 1 = 0 then some (0, μ) else none
def f_Text_readEdgeItem (a1 : Nat) (μ : HMem) : Option (Int32 × HMem) :=
  h_bd (f_Text_readDigit ((μ.1 a1 0) - 1) μ) (fun r7 μ_7 =>
  if ¬ r7 = (-100 : Int32) then
    h_bd (f_Text_readDigit ((μ_7.1 a1 0) - 1) μ_7) (fun r26 μ_26 =>
    if ¬ r26 = (-100 : Int32) then
      h_bd (f_Text_accept 61 μ_26) (fun r41 μ_41 =>
      if r41 = 0 then
        f_Text_readEdgeItem_J56 a1 r7 r26 1 μ_41
      else
        h_bd (f_Text_readWeight 2 μ_41) (fun r49 μ_49 =>
        f_Text_readEdgeItem_J56 a1 r7 r26 r49 μ_49))
    else
      if (0 : Int32) &&& 1 = 0 then some (0, μ_26) else none)
  else
    if (0 : Int32) &&& 1 = 0 then some (0, μ_7) else none)
def f_Text_readItem_J22   (s0 : Int32) (μ : HMem) : Option (Int32 × HMem) :=
if s0 &&& 1 = s0 then some (s0, μ) else none
def f_Text_readItem (a1 : Nat) (μ : HMem) : Option (Int32 × HMem) :=
  h_bd (f_Text_accept 118 μ) (fun r3 μ_3 =>
  if r3 = 0 then
    h_bd (f_Text_readEdgeItem a1 μ_3) (fun r19 μ_19 =>
    f_Text_readItem_J22 r19 μ_19)
  else
    h_bd (f_Text_readVertexItem a1 μ_3) (fun r11 μ_11 =>
    f_Text_readItem_J22 r11 μ_11))
def f_Text_readGraph_L30_b (K65 : HMem → Option (Int32 × HMem)) (K76 : Int32 → HMem → Option (Int32 × HMem)) (rec_ : Nat → Int32 → Int32 → HMem → Option (Int32 × HMem)) (a1 : Nat) (v3 : Int32) (v4 : Int32) (μ : HMem) : Option (Int32 × HMem) :=
if (μ.1 88 1) ≤ (μ.1 88 2) then
  K76 v3 μ
else
  if (120 : Int32) ≤ v4 then
    K76 v3 μ
  else
    h_bd (f_Text_accept 59 μ) (fun r51 μ_51 =>
    if r51 = 0 then
      K65 μ_51
    else
      h_bd (f_Text_readItem a1 μ_51) (fun r59 μ_59 =>
      if ¬ r59 = 0 then
        h_let (v3 + 1) (fun v3_67 =>
        h_let (v4 + 1) (fun v4_70 =>
        rec_ a1 v3_67 v4_70 μ_59))
      else
        K65 μ_59))
def f_Text_readGraph_L30 (K65 : HMem → Option (Int32 × HMem)) (K76 : Int32 → HMem → Option (Int32 × HMem)) : Nat → Nat → Int32 → Int32 → HMem → Option (Int32 × HMem)
  | 0, _, _, _, _ => none
  | fuel + 1, a1, v3, v4, μ => f_Text_readGraph_L30_b K65 K76 (f_Text_readGraph_L30 K65 K76 fuel) a1 v3 v4 μ
def f_Text_readGraph_J65    (μ : HMem) : Option (Int32 × HMem) :=
some ((-1), μ)
def f_Text_readGraph_J76   (v3 : Int32) (μ : HMem) : Option (Int32 × HMem) :=
some (v3, μ)
def f_Text_readGraph (a1 : Nat) (μ : HMem) : Option (Int32 × HMem) :=
  h_let (h_wi μ 88 2 0) (fun μ_2 =>
  h_bd (f_Text_readDigit 8 μ_2) (fun r8 μ_8 =>
  if ¬ r8 = (-100 : Int32) then
    h_bd (f_Graph_reset a1 r8 μ_8) (fun _ μ_22 =>
    f_Text_readGraph_L30 f_Text_readGraph_J65 f_Text_readGraph_J76 h_fuel a1 0 0 μ_22)
  else
    some ((-1), μ_8)))
def f_Walks_advance_L15_b (K49 : Nat → Int32 → Int64 → HMem → Option (Unit × HMem)) (rec_ : Nat → Int32 → Int64 → Int32 → HMem → Option (Unit × HMem)) (a1 : Nat) (v2 : Int32) (v3 : Int64) (v5 : Int32) (μ : HMem) : Option (Unit × HMem) :=
if (μ.1 a1 0) ≤ v5 then
  K49 a1 v2 v3 μ
else
  h_chk v5 (h_len 123) (
  h_bd (f_Graph_between a1 v5 v2 μ) (fun r36 μ_36 =>
  h_let (v3 + ((μ.2 123 (Int32.toNatClampNeg (v5))) * (Int32.toInt64 r36))) (fun v3_42 =>
  h_let (v5 + 1) (fun v5_43 =>
  rec_ a1 v2 v3_42 v5_43 μ_36))))
def f_Walks_advance_L15 (K49 : Nat → Int32 → Int64 → HMem → Option (Unit × HMem)) : Nat → Nat → Int32 → Int64 → Int32 → HMem → Option (Unit × HMem)
  | 0, _, _, _, _, _ => none
  | fuel + 1, a1, v2, v3, v5, μ => f_Walks_advance_L15_b K49 (f_Walks_advance_L15 K49 fuel) a1 v2 v3 v5 μ
def f_Walks_advance_J49  (rec_ : Nat → Int32 → HMem → Option (Unit × HMem)) (a1 : Nat) (v2 : Int32) (v3 : Int64) (μ : HMem) : Option (Unit × HMem) :=
h_chk v2 (h_len 124) (h_let (h_wl μ 124 (Int32.toNatClampNeg (v2)) v3) (fun μ_55 =>
h_let (v2 + 1) (fun v2_56 =>
rec_ a1 v2_56 μ_55)))
def f_Walks_advance_L2_b (K62 : HMem → Option (Unit × HMem)) (rec_ : Nat → Int32 → HMem → Option (Unit × HMem)) (a1 : Nat) (v2 : Int32) (μ : HMem) : Option (Unit × HMem) :=
if (μ.1 a1 0) ≤ v2 then
  K62 μ
else
  f_Walks_advance_L15 (f_Walks_advance_J49 rec_) h_fuel a1 v2 0 0 μ
def f_Walks_advance_L2 (K62 : HMem → Option (Unit × HMem)) : Nat → Nat → Int32 → HMem → Option (Unit × HMem)
  | 0, _, _, _ => none
  | fuel + 1, a1, v2, μ => f_Walks_advance_L2_b K62 (f_Walks_advance_L2 K62 fuel) a1 v2 μ
def f_Walks_advance_J62    (μ : HMem) : Option (Unit × HMem) :=
h_chk2 0 0 8 (h_len 124) (h_len 123) (h_let (h_cpl μ 124 (Int32.toNatClampNeg (0)) 123 (Int32.toNatClampNeg (0)) (Int32.toNatClampNeg (8))) (fun μ_74 =>
some ((), μ_74)))
def f_Walks_advance (a1 : Nat) (μ : HMem) : Option (Unit × HMem) :=
  f_Walks_advance_L2 f_Walks_advance_J62 h_fuel a1 0 μ
def f_Walks_sumFrom_L18_b (K35 : Nat → Int32 → Int32 → HMem → Option (Int64 × HMem)) (rec_ : Nat → Int32 → Int32 → Int32 → Int32 → HMem → Option (Int64 × HMem)) (a1 : Nat) (v2 : Int32) (v3 : Int32) (v4 : Int32) (v5 : Int32) (μ : HMem) : Option (Int64 × HMem) :=
if v3 ≤ v5 then
  K35 a1 v2 v4 μ
else
  h_bd (f_Walks_advance a1 μ) (fun _ μ_26 =>
  h_let (v5 + 1) (fun v5_29 =>
  rec_ a1 v2 v3 v4 v5_29 μ_26))
def f_Walks_sumFrom_L18 (K35 : Nat → Int32 → Int32 → HMem → Option (Int64 × HMem)) : Nat → Nat → Int32 → Int32 → Int32 → Int32 → HMem → Option (Int64 × HMem)
  | 0, _, _, _, _, _, _ => none
  | fuel + 1, a1, v2, v3, v4, v5, μ => f_Walks_sumFrom_L18_b K35 (f_Walks_sumFrom_L18 K35 fuel) a1 v2 v3 v4 v5 μ
def f_Walks_sumFrom_J74  (rec_ : Nat → Int32 → Int32 → Int64 → Int32 → HMem → Option (Int64 × HMem)) (a1 : Nat) (v2 : Int32) (v4 : Int32) (v7 : Int32) (s0 : Int64) (s1 : Int64) (μ : HMem) : Option (Int64 × HMem) :=
h_let (s1 + s0) (fun v5_75 =>
h_let (v7 + 1) (fun v7_77 =>
rec_ a1 v2 v4 v5_75 v7_77 μ))
def f_Walks_sumFrom_J67  (rec_ : Nat → Int32 → Int32 → Int64 → Int32 → HMem → Option (Int64 × HMem)) (a1 : Nat) (v2 : Int32) (v4 : Int32) (v7 : Int32) (s0 : Int64) (μ : HMem) : Option (Int64 × HMem) :=
h_chk v7 (h_len 123) (
f_Walks_sumFrom_J74 rec_ a1 v2 v4 v7 (μ.2 123 (Int32.toNatClampNeg (v7))) s0 μ)
def f_Walks_sumFrom_L41_b  (rec_ : Nat → Int32 → Int32 → Int64 → Int32 → HMem → Option (Int64 × HMem)) (a1 : Nat) (v2 : Int32) (v4 : Int32) (v5 : Int64) (v7 : Int32) (μ : HMem) : Option (Int64 × HMem) :=
if (μ.1 a1 0) ≤ v7 then
  some (v5, μ)
else
  if v4 = 0 then
    f_Walks_sumFrom_J67 rec_ a1 v2 v4 v7 v5 μ
  else
    if v7 = v2 then
      f_Walks_sumFrom_J67 rec_ a1 v2 v4 v7 v5 μ
    else
      f_Walks_sumFrom_J74 rec_ a1 v2 v4 v7 0 v5 μ
def f_Walks_sumFrom_L41  : Nat → Nat → Int32 → Int32 → Int64 → Int32 → HMem → Option (Int64 × HMem)
  | 0, _, _, _, _, _, _ => none
  | fuel + 1, a1, v2, v4, v5, v7, μ => f_Walks_sumFrom_L41_b  (f_Walks_sumFrom_L41  fuel) a1 v2 v4 v5 v7 μ
def f_Walks_sumFrom_J35   (a1 : Nat) (v2 : Int32) (v4 : Int32) (μ : HMem) : Option (Int64 × HMem) :=
f_Walks_sumFrom_L41 h_fuel a1 v2 v4 0 0 μ
def f_Walks_sumFrom (a1 : Nat) (v2 : Int32) (v3 : Int32) (v4 : Int32) (μ : HMem) : Option (Int64 × HMem) :=
  h_bd (f_Arrays_fill2 123 0 μ) (fun _ μ_5 =>
  h_chk v2 (h_len 123) (h_let (h_wl μ_5 123 (Int32.toNatClampNeg (v2)) 1) (fun μ_14 =>
  f_Walks_sumFrom_L18 f_Walks_sumFrom_J35 h_fuel a1 v2 v3 v4 0 μ_14)))
def p_History_save_41 (cx : HCx) (F_ : HMem → Option (Unit × HMem)) : Prop := ∀  (μ : HMem), HX cx (HQ cx h_eV) (F_ μ) 0 0 41 [(0, .ref 86)] [] μ
def p_History_save_14 (cx : HCx) (F_ : Int32 → Int32 → HMem → Option (Unit × HMem)) : Prop := ∀ (v2 : Int32) (v3 : Int32) (μ : HMem), HX cx (HQ cx h_eV) (F_ v2 v3 μ) 0 0 14 [(0, .ref 86), (1, .ref 85), (2, .int v2), (3, .int v3)] [] μ
def p_History_restore_24 (cx : HCx) (F_ : Int32 → Int32 → HMem → Option (Unit × HMem)) : Prop := ∀ (v2 : Int32) (v3 : Int32) (μ : HMem), HX cx (HQ cx h_eV) (F_ v2 v3 μ) 0 0 24 [(0, .ref 86), (1, .ref 85), (2, .int v2), (3, .int v3)] [] μ
def p_Script_write_18 (cx : HCx) (F_ : Nat → Int32 → HMem → Option (Unit × HMem)) : Prop := ∀ (a1 : Nat) (h_a1 : HIsG a1) (v2 : Int32) (μ : HMem), HX cx (HQ cx h_eV) (F_ a1 v2 μ) 0 0 18 [(0, .ref 90), (1, .ref a1), (2, .int v2)] [] μ
def p_Script_write_72 (cx : HCx) (F_ : Nat → HMem → Option (Unit × HMem)) : Prop := ∀ (a1 : Nat) (h_a1 : HIsG a1) (μ : HMem), HX cx (HQ cx h_eV) (F_ a1 μ) 0 0 72 [(0, .ref 90), (1, .ref a1)] [] μ
def p_Script_write_84 (cx : HCx) (F_ : Nat → Int32 → Int32 → HMem → Option (Unit × HMem)) : Prop := ∀ (a1 : Nat) (h_a1 : HIsG a1) (v2 : Int32) (v3 : Int32) (μ : HMem), HX cx (HQ cx h_eV) (F_ a1 v2 v3 μ) 0 0 84 [(0, .ref 90), (1, .ref a1), (2, .int v2), (3, .int v3)] [] μ
def p_Script_write_139 (cx : HCx) (F_ : Nat → Int32 → HMem → Option (Unit × HMem)) : Prop := ∀ (a1 : Nat) (h_a1 : HIsG a1) (v2 : Int32) (μ : HMem), HX cx (HQ cx h_eV) (F_ a1 v2 μ) 0 0 139 [(0, .ref 90), (1, .ref a1), (2, .int v2)] [] μ
def p_Script_write_74 (cx : HCx) (F_ : Nat → Int32 → HMem → Option (Unit × HMem)) : Prop := ∀ (a1 : Nat) (h_a1 : HIsG a1) (v2 : Int32) (μ : HMem), HX cx (HQ cx h_eV) (F_ a1 v2 μ) 0 0 74 [(0, .ref 90), (1, .ref a1), (2, .int v2)] [] μ
def p_Text_readGraph_65 (cx : HCx) (F_ : HMem → Option (Int32 × HMem)) : Prop := ∀  (μ : HMem), HX cx (HQ cx h_eI) (F_ μ) 0 0 65 [] [] μ
def p_Text_readGraph_76 (cx : HCx) (F_ : Int32 → HMem → Option (Int32 × HMem)) : Prop := ∀ (v3 : Int32) (μ : HMem), HX cx (HQ cx h_eI) (F_ v3 μ) 0 0 76 [(3, .int v3)] [] μ
def p_Text_readGraph_30 (cx : HCx) (F_ : Nat → Int32 → Int32 → HMem → Option (Int32 × HMem)) : Prop := ∀ (a1 : Nat) (h_a1 : HIsG a1) (v3 : Int32) (v4 : Int32) (μ : HMem), HX cx (HQ cx h_eI) (F_ a1 v3 v4 μ) 0 0 30 [(0, .ref 88), (1, .ref a1), (3, .int v3), (4, .int v4)] [] μ
def p_Walks_advance_49 (cx : HCx) (F_ : Nat → Int32 → Int64 → HMem → Option (Unit × HMem)) : Prop := ∀ (a1 : Nat) (h_a1 : HIsG a1) (v2 : Int32) (v3 : Int64) (μ : HMem), HX cx (HQ cx h_eV) (F_ a1 v2 v3 μ) 0 0 49 [(0, .ref 122), (1, .ref a1), (2, .int v2), (3, .long v3)] [] μ
def p_Walks_advance_15 (cx : HCx) (F_ : Nat → Int32 → Int64 → Int32 → HMem → Option (Unit × HMem)) : Prop := ∀ (a1 : Nat) (h_a1 : HIsG a1) (v2 : Int32) (v3 : Int64) (v5 : Int32) (μ : HMem), HX cx (HQ cx h_eV) (F_ a1 v2 v3 v5 μ) 0 0 15 [(0, .ref 122), (1, .ref a1), (2, .int v2), (3, .long v3), (5, .int v5)] [] μ
def p_Walks_advance_2 (cx : HCx) (F_ : Nat → Int32 → HMem → Option (Unit × HMem)) : Prop := ∀ (a1 : Nat) (h_a1 : HIsG a1) (v2 : Int32) (μ : HMem), HX cx (HQ cx h_eV) (F_ a1 v2 μ) 0 0 2 [(0, .ref 122), (1, .ref a1), (2, .int v2)] [] μ
def p_Walks_advance_62 (cx : HCx) (F_ : HMem → Option (Unit × HMem)) : Prop := ∀  (μ : HMem), HX cx (HQ cx h_eV) (F_ μ) 0 0 62 [(0, .ref 122)] [] μ
def p_Walks_sumFrom_35 (cx : HCx) (F_ : Nat → Int32 → Int32 → HMem → Option (Int64 × HMem)) : Prop := ∀ (a1 : Nat) (h_a1 : HIsG a1) (v2 : Int32) (v4 : Int32) (μ : HMem), HX cx (HQ cx h_eJ) (F_ a1 v2 v4 μ) 0 0 35 [(0, .ref 122), (1, .ref a1), (2, .int v2), (4, .int v4)] [] μ
def p_Walks_sumFrom_18 (cx : HCx) (F_ : Nat → Int32 → Int32 → Int32 → Int32 → HMem → Option (Int64 × HMem)) : Prop := ∀ (a1 : Nat) (h_a1 : HIsG a1) (v2 : Int32) (v3 : Int32) (v4 : Int32) (v5 : Int32) (μ : HMem), HX cx (HQ cx h_eJ) (F_ a1 v2 v3 v4 v5 μ) 0 0 18 [(0, .ref 122), (1, .ref a1), (2, .int v2), (3, .int v3), (4, .int v4), (5, .int v5)] [] μ
def p_Walks_sumFrom_41 (cx : HCx) (F_ : Nat → Int32 → Int32 → Int64 → Int32 → HMem → Option (Int64 × HMem)) : Prop := ∀ (a1 : Nat) (h_a1 : HIsG a1) (v2 : Int32) (v4 : Int32) (v5 : Int64) (v7 : Int32) (μ : HMem), HX cx (HQ cx h_eJ) (F_ a1 v2 v4 v5 v7 μ) 0 0 41 [(0, .ref 122), (1, .ref a1), (2, .int v2), (4, .int v4), (5, .long v5), (7, .int v7)] [] μ
theorem t_History_save_L14_b {cx : HCx} (hg : HGood cx R_History b_History_save 4 2 none) (hA : h_own cx) (K41 : HMem → Option (Unit × HMem)) (hK41 : p_History_save_41 cx K41) (rec_ : Int32 → Int32 → HMem → Option (Unit × HMem)) (hrec_ : p_History_save_14 cx rec_) (v2 : Int32) (v3 : Int32) (μ : HMem) : HX cx (HQ cx h_eV) (f_History_save_L14_b K41 rec_ v2 v3 μ) 0 0 14 [(0, .ref 86), (1, .ref 85), (2, .int v2), (3, .int v3)] [] μ := by
  unfold f_History_save_L14_b
  refine r_iload_n hg 3 d_History_save_14 rfl rfl ?_
  refine r_iconst (v := 4) hg d_History_save_15 (by decide) ?_
  refine r_icmp_ge (tgt := 41) hg d_History_save_16 (by decide) ?_ ?_
  · refine r_sub [0] rfl ?_
    exact hK41 μ
  · refine r_aload_n hg 0 d_History_save_19 rfl rfl ?_
    refine r_get (v := .ref 87) hg c_History (by decide) rfl (Nat.le_of_ble_eq_true rfl) rfl wf_History_11 d_History_save_20 rfl ?_
    refine r_iconst (v := 4) hg d_History_save_23 (by decide) ?_
    refine r_iload_n hg 2 d_History_save_24 rfl rfl ?_
    refine r_imul hg d_History_save_25 ?_
    refine r_iload_n hg 3 d_History_save_26 rfl rfl ?_
    refine r_iadd hg d_History_save_27 ?_
    refine r_gald hg (by decide) rfl d_History_save_28 (fun hb_28 => ?_)
    refine r_aload_n hg 1 d_History_save_29 rfl rfl ?_
    refine r_iload_n hg 3 d_History_save_30 rfl rfl ?_
    refine r_gald hg (by decide) rfl d_History_save_31 (fun hb_31 => ?_)
    refine r_callV (As := [.ref (h_el 85 (Int32.toNatClampNeg (v3)))]) hg (t_Graph_copyFrom (h_el 87 (Int32.toNatClampNeg ((4 * v2) + v3))) (h_el_G87 hb_28) (h_el 85 (Int32.toNatClampNeg (v3))) (h_el_G85 hb_31) μ) v_Graph_copyFrom c_Graph rfl (h_G_lt (h_el_G87 hb_28)) (h_G_kd (h_el_G87 hb_28)) wm_History_25 d_History_save_32 rfl ⟨by decide, by decide⟩ (Nat.le_of_ble_eq_true rfl) rfl (fun r32 μ_32 _ => ?_)
    refine r_letE (fun v3_35 he_35 => ?_)
    refine r_iinc (v := v3_35) (l' := [(3, .int v3_35), (0, .ref 86), (1, .ref 85), (2, .int v2)]) hg 3 d_History_save_35 rfl he_35 (Nat.le_of_ble_eq_true rfl) rfl ?_
    refine r_goto (tgt := 14) hg d_History_save_38 (by decide) ?_
    refine r_sub [1, 2, 3, 0] rfl ?_
    exact hrec_ v2 v3_35 μ_32
theorem t_History_save_L14 {cx : HCx} (hg : HGood cx R_History b_History_save 4 2 none) (hA : h_own cx) (K41 : HMem → Option (Unit × HMem)) (hK41 : p_History_save_41 cx K41) : ∀ (fuel : Nat) (v2 : Int32) (v3 : Int32) (μ : HMem), HX cx (HQ cx h_eV) (f_History_save_L14 K41 fuel v2 v3 μ) 0 0 14 [(0, .ref 86), (1, .ref 85), (2, .int v2), (3, .int v3)] [] μ
  | 0, _, _, _ => by unfold f_History_save_L14; exact HX.none
  | fuel + 1, v2, v3, μ => by
    rw [f_History_save_L14]
    exact t_History_save_L14_b hg hA  K41 hK41 (f_History_save_L14 K41 fuel) (t_History_save_L14 hg hA  K41 hK41 fuel) v2 v3 μ
theorem t_History_save_J74 {cx : HCx} (hg : HGood cx R_History b_History_save 4 2 none) (hA : h_own cx)    (μ : HMem) : HX cx (HQ cx h_eV) (f_History_save_J74   μ) 0 0 74 [] [] μ := by
  unfold f_History_save_J74
  exact r_vret hg hA rfl d_History_save_74 rfl
theorem t_History_save_J41 {cx : HCx} (hg : HGood cx R_History b_History_save 4 2 none) (hA : h_own cx)    (μ : HMem) : HX cx (HQ cx h_eV) (f_History_save_J41   μ) 0 0 41 [(0, .ref 86)] [] μ := by
  unfold f_History_save_J41
  refine r_aload_n hg 0 d_History_save_41 rfl rfl ?_
  refine r_get (v := .int (μ.1 86 2)) hg c_History (by decide) rfl (Nat.le_of_ble_eq_true rfl) rfl wf_History_22 d_History_save_42 rfl ?_
  refine r_iconst (v := 4) hg d_History_save_45 (by decide) ?_
  refine r_icmp_ge (tgt := 62) hg d_History_save_46 (by decide) ?_ ?_
  · refine r_aload_n hg 0 d_History_save_62 rfl rfl ?_
    refine r_aload_n hg 0 d_History_save_63 rfl rfl ?_
    refine r_get (v := .int (μ.1 86 1)) hg c_History (by decide) rfl (Nat.le_of_ble_eq_true rfl) rfl wf_History_18 d_History_save_64 rfl ?_
    refine r_iconst (v := 1) hg d_History_save_67 (by decide) ?_
    refine r_iadd hg d_History_save_68 ?_
    refine r_iconst (v := 4) hg d_History_save_69 (by decide) ?_
    refine r_irem hg d_History_save_70 ?_
    refine r_put hg c_History t_History_ok n_History (by decide) rfl (Nat.le_of_ble_eq_true rfl) rfl rfl (by decide +kernel) wf_History_18 d_History_save_71 ?_
    refine r_letM (fun μ_71 => ?_)
    refine r_sub [] rfl ?_
    exact t_History_save_J74 hg hA μ_71
  · refine r_aload_n hg 0 d_History_save_49 rfl rfl ?_
    refine r_dup hg d_History_save_50 rfl ?_
    refine r_get (v := .int (μ.1 86 2)) hg c_History (by decide) rfl (Nat.le_of_ble_eq_true rfl) rfl wf_History_22 d_History_save_51 rfl ?_
    refine r_iconst (v := 1) hg d_History_save_54 (by decide) ?_
    refine r_iadd hg d_History_save_55 ?_
    refine r_put hg c_History t_History_ok n_History (by decide) rfl (Nat.le_of_ble_eq_true rfl) rfl rfl (by decide +kernel) wf_History_22 d_History_save_56 ?_
    refine r_letM (fun μ_56 => ?_)
    refine r_goto (tgt := 74) hg d_History_save_59 (by decide) ?_
    refine r_sub [] rfl ?_
    exact t_History_save_J74 hg hA μ_56
theorem t_History_save_0 {cx : HCx} (hg : HGood cx R_History b_History_save 4 2 none) (hA : h_own cx)  (μ : HMem) : HX cx (HQ cx h_eV) (f_History_save μ) 0 0 0 [(0, .ref 86), (1, .ref 85)] [] μ := by
  unfold f_History_save
  refine r_aload_n hg 0 d_History_save_0 rfl rfl ?_
  refine r_get (v := .int (μ.1 86 1)) hg c_History (by decide) rfl (Nat.le_of_ble_eq_true rfl) rfl wf_History_18 d_History_save_1 rfl ?_
  refine r_aload_n hg 0 d_History_save_4 rfl rfl ?_
  refine r_get (v := .int (μ.1 86 2)) hg c_History (by decide) rfl (Nat.le_of_ble_eq_true rfl) rfl wf_History_22 d_History_save_5 rfl ?_
  refine r_iadd hg d_History_save_8 ?_
  refine r_iconst (v := 4) hg d_History_save_9 (by decide) ?_
  refine r_irem hg d_History_save_10 ?_
  refine r_letI (fun v2_11 => ?_)
  refine r_istore_n (l' := [(2, .int v2_11), (0, .ref 86), (1, .ref 85)]) hg d_History_save_11 rfl (Nat.le_of_ble_eq_true rfl) rfl ?_
  refine r_iconst (v := 0) hg d_History_save_12 (by decide) ?_
  refine r_istore_n (l' := [(3, .int 0), (2, .int v2_11), (0, .ref 86), (1, .ref 85)]) hg d_History_save_13 rfl (Nat.le_of_ble_eq_true rfl) rfl ?_
  refine r_sub [2, 3, 1, 0] rfl ?_
  exact t_History_save_L14 hg hA f_History_save_J41 (t_History_save_J41 hg hA) h_fuel v2_11 0 μ
theorem t_History_save  (μ : HMem) : HSpec y_History_save b_History_save 4 none 2 h_eV [.ref 86, .ref 85] μ (f_History_save μ) :=
  HSpec.of (by decide +kernel) (v_History_save.1 _ (by simp)) (Nat.le_of_ble_eq_true rfl) (fun cx hA hg => t_History_save_0 hg hA  μ)
theorem t_History_restore_L24_b {cx : HCx} (hg : HGood cx R_History b_History_restore 4 2 none) (hA : h_own cx)  (rec_ : Int32 → Int32 → HMem → Option (Unit × HMem)) (hrec_ : p_History_restore_24 cx rec_) (v2 : Int32) (v3 : Int32) (μ : HMem) : HX cx (HQ cx h_eV) (f_History_restore_L24_b  rec_ v2 v3 μ) 0 0 24 [(0, .ref 86), (1, .ref 85), (2, .int v2), (3, .int v3)] [] μ := by
  unfold f_History_restore_L24_b
  refine r_iload_n hg 3 d_History_restore_24 rfl rfl ?_
  refine r_iconst (v := 4) hg d_History_restore_25 (by decide) ?_
  refine r_icmp_ge (tgt := 51) hg d_History_restore_26 (by decide) ?_ ?_
  · exact r_vret hg hA rfl d_History_restore_51 rfl
  · refine r_aload_n hg 1 d_History_restore_29 rfl rfl ?_
    refine r_iload_n hg 3 d_History_restore_30 rfl rfl ?_
    refine r_gald hg (by decide) rfl d_History_restore_31 (fun hb_31 => ?_)
    refine r_aload_n hg 0 d_History_restore_32 rfl rfl ?_
    refine r_get (v := .ref 87) hg c_History (by decide) rfl (Nat.le_of_ble_eq_true rfl) rfl wf_History_11 d_History_restore_33 rfl ?_
    refine r_iconst (v := 4) hg d_History_restore_36 (by decide) ?_
    refine r_iload_n hg 2 d_History_restore_37 rfl rfl ?_
    refine r_imul hg d_History_restore_38 ?_
    refine r_iload_n hg 3 d_History_restore_39 rfl rfl ?_
    refine r_iadd hg d_History_restore_40 ?_
    refine r_gald hg (by decide) rfl d_History_restore_41 (fun hb_41 => ?_)
    refine r_callV (As := [.ref (h_el 87 (Int32.toNatClampNeg ((4 * v2) + v3)))]) hg (t_Graph_copyFrom (h_el 85 (Int32.toNatClampNeg (v3))) (h_el_G85 hb_31) (h_el 87 (Int32.toNatClampNeg ((4 * v2) + v3))) (h_el_G87 hb_41) μ) v_Graph_copyFrom c_Graph rfl (h_G_lt (h_el_G85 hb_31)) (h_G_kd (h_el_G85 hb_31)) wm_History_25 d_History_restore_42 rfl ⟨by decide, by decide⟩ (Nat.le_of_ble_eq_true rfl) rfl (fun r42 μ_42 _ => ?_)
    refine r_letE (fun v3_45 he_45 => ?_)
    refine r_iinc (v := v3_45) (l' := [(3, .int v3_45), (0, .ref 86), (1, .ref 85), (2, .int v2)]) hg 3 d_History_restore_45 rfl he_45 (Nat.le_of_ble_eq_true rfl) rfl ?_
    refine r_goto (tgt := 24) hg d_History_restore_48 (by decide) ?_
    refine r_sub [1, 2, 3, 0] rfl ?_
    exact hrec_ v2 v3_45 μ_42
theorem t_History_restore_L24 {cx : HCx} (hg : HGood cx R_History b_History_restore 4 2 none) (hA : h_own cx)  : ∀ (fuel : Nat) (v2 : Int32) (v3 : Int32) (μ : HMem), HX cx (HQ cx h_eV) (f_History_restore_L24  fuel v2 v3 μ) 0 0 24 [(0, .ref 86), (1, .ref 85), (2, .int v2), (3, .int v3)] [] μ
  | 0, _, _, _ => by unfold f_History_restore_L24; exact HX.none
  | fuel + 1, v2, v3, μ => by
    rw [f_History_restore_L24]
    exact t_History_restore_L24_b hg hA   (f_History_restore_L24  fuel) (t_History_restore_L24 hg hA   fuel) v2 v3 μ
theorem t_History_restore_0 {cx : HCx} (hg : HGood cx R_History b_History_restore 4 2 none) (hA : h_own cx)  (μ : HMem) : HX cx (HQ cx h_eV) (f_History_restore μ) 0 0 0 [(0, .ref 86), (1, .ref 85)] [] μ := by
  unfold f_History_restore
  refine r_aload_n hg 0 d_History_restore_0 rfl rfl ?_
  refine r_dup hg d_History_restore_1 rfl ?_
  refine r_get (v := .int (μ.1 86 2)) hg c_History (by decide) rfl (Nat.le_of_ble_eq_true rfl) rfl wf_History_22 d_History_restore_2 rfl ?_
  refine r_iconst (v := 1) hg d_History_restore_5 (by decide) ?_
  refine r_isub hg d_History_restore_6 ?_
  refine r_put hg c_History t_History_ok n_History (by decide) rfl (Nat.le_of_ble_eq_true rfl) rfl rfl (by decide +kernel) wf_History_22 d_History_restore_7 ?_
  refine r_letM (fun μ_7 => ?_)
  refine r_aload_n hg 0 d_History_restore_10 rfl rfl ?_
  refine r_get (v := .int (μ_7.1 86 1)) hg c_History (by decide) rfl (Nat.le_of_ble_eq_true rfl) rfl wf_History_18 d_History_restore_11 rfl ?_
  refine r_aload_n hg 0 d_History_restore_14 rfl rfl ?_
  refine r_get (v := .int (μ_7.1 86 2)) hg c_History (by decide) rfl (Nat.le_of_ble_eq_true rfl) rfl wf_History_22 d_History_restore_15 rfl ?_
  refine r_iadd hg d_History_restore_18 ?_
  refine r_iconst (v := 4) hg d_History_restore_19 (by decide) ?_
  refine r_irem hg d_History_restore_20 ?_
  refine r_letI (fun v2_21 => ?_)
  refine r_istore_n (l' := [(2, .int v2_21), (0, .ref 86), (1, .ref 85)]) hg d_History_restore_21 rfl (Nat.le_of_ble_eq_true rfl) rfl ?_
  refine r_iconst (v := 0) hg d_History_restore_22 (by decide) ?_
  refine r_istore_n (l' := [(3, .int 0), (2, .int v2_21), (0, .ref 86), (1, .ref 85)]) hg d_History_restore_23 rfl (Nat.le_of_ble_eq_true rfl) rfl ?_
  refine r_sub [2, 3, 1, 0] rfl ?_
  exact t_History_restore_L24 hg hA h_fuel v2_21 0 μ_7
theorem t_History_restore  (μ : HMem) : HSpec y_History_restore b_History_restore 4 none 2 h_eV [.ref 86, .ref 85] μ (f_History_restore μ) :=
  HSpec.of (by decide +kernel) (v_History_restore.1 _ (by simp)) (Nat.le_of_ble_eq_true rfl) (fun cx hA hg => t_History_restore_0 hg hA  μ)
theorem t_Script_put_J33 {cx : HCx} (hg : HGood cx R_Script b_Script_put 2 1 none) (hA : h_own cx)    (μ : HMem) : HX cx (HQ cx h_eV) (f_Script_put_J33   μ) 0 0 33 [] [] μ := by
  unfold f_Script_put_J33
  exact r_vret hg hA rfl d_Script_put_33 rfl
theorem t_Script_put_0 {cx : HCx} (hg : HGood cx R_Script b_Script_put 2 1 none) (hA : h_own cx) (v1 : Int32) (μ : HMem) : HX cx (HQ cx h_eV) (f_Script_put v1 μ) 0 0 0 [(0, .ref 90), (1, .int v1)] [] μ := by
  unfold f_Script_put
  refine r_aload_n hg 0 d_Script_put_0 rfl rfl ?_
  refine r_get (v := .int (μ.1 90 1)) hg c_Script (by decide) rfl (Nat.le_of_ble_eq_true rfl) rfl wf_Script_15 d_Script_put_1 rfl ?_
  refine r_aload_n hg 0 d_Script_put_4 rfl rfl ?_
  refine r_get (v := .ref 91) hg c_Script (by decide) rfl (Nat.le_of_ble_eq_true rfl) rfl wf_Script_9 d_Script_put_5 rfl ?_
  refine r_alen2 hg (by decide) rfl d_Script_put_8 ?_
  refine r_icmp_ge (tgt := 33) hg d_Script_put_9 (by decide) ?_ ?_
  · refine r_sub [] rfl ?_
    exact t_Script_put_J33 hg hA μ
  · refine r_aload_n hg 0 d_Script_put_12 rfl rfl ?_
    refine r_get (v := .ref 91) hg c_Script (by decide) rfl (Nat.le_of_ble_eq_true rfl) rfl wf_Script_9 d_Script_put_13 rfl ?_
    refine r_aload_n hg 0 d_Script_put_16 rfl rfl ?_
    refine r_get (v := .int (μ.1 90 1)) hg c_Script (by decide) rfl (Nat.le_of_ble_eq_true rfl) rfl wf_Script_15 d_Script_put_17 rfl ?_
    refine r_iload_n hg 1 d_Script_put_20 rfl rfl ?_
    refine r_i2b hg d_Script_put_21 ?_
    refine r_bast hg (by decide) rfl d_Script_put_22 ?_
    refine r_letM (fun μ_22 => ?_)
    refine r_aload_n hg 0 d_Script_put_23 rfl rfl ?_
    refine r_dup hg d_Script_put_24 rfl ?_
    refine r_get (v := .int (μ_22.1 90 1)) hg c_Script (by decide) rfl (Nat.le_of_ble_eq_true rfl) rfl wf_Script_15 d_Script_put_25 rfl ?_
    refine r_iconst (v := 1) hg d_Script_put_28 (by decide) ?_
    refine r_iadd hg d_Script_put_29 ?_
    refine r_put hg c_Script t_Script_ok n_Script (by decide) rfl (Nat.le_of_ble_eq_true rfl) rfl rfl (by decide +kernel) wf_Script_15 d_Script_put_30 ?_
    refine r_letM (fun μ_30 => ?_)
    refine r_sub [] rfl ?_
    exact t_Script_put_J33 hg hA μ_30
theorem t_Script_put (v1 : Int32) (μ : HMem) : HSpec y_Script_put b_Script_put 2 none 1 h_eV [.ref 90, .int v1] μ (f_Script_put v1 μ) :=
  HSpec.of (by decide +kernel) (v_Script_put.1 _ (by simp)) (Nat.le_of_ble_eq_true rfl) (fun cx hA hg => t_Script_put_0 hg hA v1 μ)
theorem t_Script_putWeight_J32 {cx : HCx} (hg : HGood cx R_Script b_Script_putWeight 2 2 none) (hA : h_own cx)    (μ : HMem) : HX cx (HQ cx h_eV) (f_Script_putWeight_J32   μ) 0 0 32 [] [] μ := by
  unfold f_Script_putWeight_J32
  exact r_vret hg hA rfl d_Script_putWeight_32 rfl
theorem t_Script_putWeight_J21 {cx : HCx} (hg : HGood cx R_Script b_Script_putWeight 2 2 none) (hA : h_own cx)   (v1 : Int32) (μ : HMem) : HX cx (HQ cx h_eV) (f_Script_putWeight_J21   v1 μ) 0 0 21 [(0, .ref 90), (1, .int v1)] [] μ := by
  unfold f_Script_putWeight_J21
  refine r_aload_n hg 0 d_Script_putWeight_21 rfl rfl ?_
  refine r_bipush (v := 48) hg d_Script_putWeight_22 (by decide) ?_
  refine r_iload_n hg 1 d_Script_putWeight_24 rfl rfl ?_
  refine r_mabs hg (h_w4 wm_Script_39 ws_Math_abs wi_Math wk_Math_abs) d_Script_putWeight_25 (Nat.le_of_ble_eq_true rfl) (Nat.le_of_ble_eq_true rfl) ?_
  refine r_iadd hg d_Script_putWeight_28 ?_
  refine r_callV (As := [.int (48 + (h_mabs v1))]) hg (t_Script_put (48 + (h_mabs v1)) μ) v_Script_put c_Script rfl (by decide) rfl wm_Script_24 d_Script_putWeight_29 rfl ⟨by decide, by decide⟩ (Nat.le_of_ble_eq_true rfl) rfl (fun r29 μ_29 _ => ?_)
  refine r_sub [] rfl ?_
  exact t_Script_putWeight_J32 hg hA μ_29
theorem t_Script_putWeight_0 {cx : HCx} (hg : HGood cx R_Script b_Script_putWeight 2 2 none) (hA : h_own cx) (v1 : Int32) (μ : HMem) : HX cx (HQ cx h_eV) (f_Script_putWeight v1 μ) 0 0 0 [(0, .ref 90), (1, .int v1)] [] μ := by
  unfold f_Script_putWeight
  refine r_iload_n hg 1 d_Script_putWeight_0 rfl rfl ?_
  refine r_iconst (v := 1) hg d_Script_putWeight_1 (by decide) ?_
  refine r_icmp_eq (tgt := 32) hg d_Script_putWeight_2 (by decide) ?_ ?_
  · refine r_sub [] rfl ?_
    exact t_Script_putWeight_J32 hg hA μ
  · refine r_aload_n hg 0 d_Script_putWeight_5 rfl rfl ?_
    refine r_bipush (v := 61) hg d_Script_putWeight_6 (by decide) ?_
    refine r_callV (As := [.int 61]) hg (t_Script_put 61 μ) v_Script_put c_Script rfl (by decide) rfl wm_Script_24 d_Script_putWeight_8 rfl ⟨by decide, by decide⟩ (Nat.le_of_ble_eq_true rfl) rfl (fun r8 μ_8 _ => ?_)
    refine r_iload_n hg 1 d_Script_putWeight_11 rfl rfl ?_
    refine r_if_ge (tgt := 21) hg d_Script_putWeight_12 (by decide) ?_ ?_
    · exact t_Script_putWeight_J21 hg hA v1 μ_8
    · refine r_aload_n hg 0 d_Script_putWeight_15 rfl rfl ?_
      refine r_bipush (v := 45) hg d_Script_putWeight_16 (by decide) ?_
      refine r_callV (As := [.int 45]) hg (t_Script_put 45 μ_8) v_Script_put c_Script rfl (by decide) rfl wm_Script_24 d_Script_putWeight_18 rfl ⟨by decide, by decide⟩ (Nat.le_of_ble_eq_true rfl) rfl (fun r18 μ_18 _ => ?_)
      exact t_Script_putWeight_J21 hg hA v1 μ_18
theorem t_Script_putWeight (v1 : Int32) (μ : HMem) : HSpec y_Script_putWeight b_Script_putWeight 2 none 2 h_eV [.ref 90, .int v1] μ (f_Script_putWeight v1 μ) :=
  HSpec.of (by decide +kernel) (v_Script_putWeight.1 _ (by simp)) (Nat.le_of_ble_eq_true rfl) (fun cx hA hg => t_Script_putWeight_0 hg hA v1 μ)
theorem t_Script_write_J66 {cx : HCx} (hg : HGood cx R_Script b_Script_write 4 3 none) (hA : h_own cx)  (rec_ : Nat → Int32 → HMem → Option (Unit × HMem)) (hrec_ : p_Script_write_18 cx rec_) (a1 : Nat) (h_a1 : HIsG a1) (v2 : Int32) (μ : HMem) : HX cx (HQ cx h_eV) (f_Script_write_J66  rec_ a1 v2 μ) 0 0 66 [(0, .ref 90), (1, .ref a1), (2, .int v2)] [] μ := by
  unfold f_Script_write_J66
  refine r_letE (fun v2_66 he_66 => ?_)
  refine r_iinc (v := v2_66) (l' := [(2, .int v2_66), (0, .ref 90), (1, .ref a1)]) hg 2 d_Script_write_66 rfl he_66 (Nat.le_of_ble_eq_true rfl) rfl ?_
  refine r_goto (tgt := 18) hg d_Script_write_69 (by decide) ?_
  refine r_sub [1, 2, 0] rfl ?_
  exact hrec_ a1 h_a1 v2_66 μ
theorem t_Script_write_L18_b {cx : HCx} (hg : HGood cx R_Script b_Script_write 4 3 none) (hA : h_own cx) (K72 : Nat → HMem → Option (Unit × HMem)) (hK72 : p_Script_write_72 cx K72) (rec_ : Nat → Int32 → HMem → Option (Unit × HMem)) (hrec_ : p_Script_write_18 cx rec_) (a1 : Nat) (h_a1 : HIsG a1) (v2 : Int32) (μ : HMem) : HX cx (HQ cx h_eV) (f_Script_write_L18_b K72 rec_ a1 v2 μ) 0 0 18 [(0, .ref 90), (1, .ref a1), (2, .int v2)] [] μ := by
  unfold f_Script_write_L18_b
  refine r_iload_n hg 2 d_Script_write_18 rfl rfl ?_
  refine r_aload_n hg 1 d_Script_write_19 rfl rfl ?_
  refine r_get (v := .int (μ.1 a1 0)) hg c_Graph (h_G_lt h_a1) (h_G_kd h_a1) (Nat.le_of_ble_eq_true rfl) (h_G_fl0 h_a1) wf_Script_19 d_Script_write_20 rfl ?_
  refine r_icmp_ge (tgt := 72) hg d_Script_write_23 (by decide) ?_ ?_
  · refine r_sub [0, 1] rfl ?_
    exact hK72 a1 h_a1 μ
  · refine r_aload_n hg 1 d_Script_write_26 rfl rfl ?_
    refine r_get (v := .ref (a1 + 1)) hg c_Graph (h_G_lt h_a1) (h_G_kd h_a1) (Nat.le_of_ble_eq_true rfl) (h_G_fl1 h_a1) wf_Script_28 d_Script_write_27 rfl ?_
    refine r_iload_n hg 2 d_Script_write_30 rfl rfl ?_
    refine r_iald hg (h_G_lt1 h_a1) (h_G_kd1 h_a1) d_Script_write_31 ?_
    refine r_iconst (v := 1) hg d_Script_write_32 (by decide) ?_
    refine r_icmp_eq (tgt := 66) hg d_Script_write_33 (by decide) ?_ ?_
    · exact t_Script_write_J66 hg hA rec_ hrec_ a1 h_a1 v2 μ
    · refine r_aload_n hg 0 d_Script_write_36 rfl rfl ?_
      refine r_bipush (v := 59) hg d_Script_write_37 (by decide) ?_
      refine r_callV (As := [.int 59]) hg (t_Script_put 59 μ) v_Script_put c_Script rfl (by decide) rfl wm_Script_24 d_Script_write_39 rfl ⟨by decide, by decide⟩ (Nat.le_of_ble_eq_true rfl) rfl (fun r39 μ_39 _ => ?_)
      refine r_aload_n hg 0 d_Script_write_42 rfl rfl ?_
      refine r_bipush (v := 118) hg d_Script_write_43 (by decide) ?_
      refine r_callV (As := [.int 118]) hg (t_Script_put 118 μ_39) v_Script_put c_Script rfl (by decide) rfl wm_Script_24 d_Script_write_45 rfl ⟨by decide, by decide⟩ (Nat.le_of_ble_eq_true rfl) rfl (fun r45 μ_45 _ => ?_)
      refine r_aload_n hg 0 d_Script_write_48 rfl rfl ?_
      refine r_bipush (v := 48) hg d_Script_write_49 (by decide) ?_
      refine r_iload_n hg 2 d_Script_write_51 rfl rfl ?_
      refine r_iadd hg d_Script_write_52 ?_
      refine r_callV (As := [.int (48 + v2)]) hg (t_Script_put (48 + v2) μ_45) v_Script_put c_Script rfl (by decide) rfl wm_Script_24 d_Script_write_53 rfl ⟨by decide, by decide⟩ (Nat.le_of_ble_eq_true rfl) rfl (fun r53 μ_53 _ => ?_)
      refine r_aload_n hg 0 d_Script_write_56 rfl rfl ?_
      refine r_aload_n hg 1 d_Script_write_57 rfl rfl ?_
      refine r_get (v := .ref (a1 + 1)) hg c_Graph (h_G_lt h_a1) (h_G_kd h_a1) (Nat.le_of_ble_eq_true rfl) (h_G_fl1 h_a1) wf_Script_28 d_Script_write_58 rfl ?_
      refine r_iload_n hg 2 d_Script_write_61 rfl rfl ?_
      refine r_iald hg (h_G_lt1 h_a1) (h_G_kd1 h_a1) d_Script_write_62 ?_
      refine r_callV (As := [.int (μ_53.1 (a1 + 1) (Int32.toNatClampNeg (v2)))]) hg (t_Script_putWeight (μ_53.1 (a1 + 1) (Int32.toNatClampNeg (v2))) μ_53) v_Script_putWeight c_Script rfl (by decide) rfl wm_Script_32 d_Script_write_63 rfl ⟨by decide, by decide⟩ (Nat.le_of_ble_eq_true rfl) rfl (fun r63 μ_63 _ => ?_)
      exact t_Script_write_J66 hg hA rec_ hrec_ a1 h_a1 v2 μ_63
theorem t_Script_write_L18 {cx : HCx} (hg : HGood cx R_Script b_Script_write 4 3 none) (hA : h_own cx) (K72 : Nat → HMem → Option (Unit × HMem)) (hK72 : p_Script_write_72 cx K72) : ∀ (fuel : Nat) (a1 : Nat) (h_a1 : HIsG a1) (v2 : Int32) (μ : HMem), HX cx (HQ cx h_eV) (f_Script_write_L18 K72 fuel a1 v2 μ) 0 0 18 [(0, .ref 90), (1, .ref a1), (2, .int v2)] [] μ
  | 0, _, _, _, _ => by unfold f_Script_write_L18; exact HX.none
  | fuel + 1, a1, h_a1, v2, μ => by
    rw [f_Script_write_L18]
    exact t_Script_write_L18_b hg hA  K72 hK72 (f_Script_write_L18 K72 fuel) (t_Script_write_L18 hg hA  K72 hK72 fuel) a1 h_a1 v2 μ
theorem t_Script_write_J133 {cx : HCx} (hg : HGood cx R_Script b_Script_write 4 3 none) (hA : h_own cx)  (rec_ : Nat → Int32 → Int32 → HMem → Option (Unit × HMem)) (hrec_ : p_Script_write_84 cx rec_) (a1 : Nat) (h_a1 : HIsG a1) (v2 : Int32) (v3 : Int32) (μ : HMem) : HX cx (HQ cx h_eV) (f_Script_write_J133  rec_ a1 v2 v3 μ) 0 0 133 [(0, .ref 90), (1, .ref a1), (2, .int v2), (3, .int v3)] [] μ := by
  unfold f_Script_write_J133
  refine r_letE (fun v3_133 he_133 => ?_)
  refine r_iinc (v := v3_133) (l' := [(3, .int v3_133), (0, .ref 90), (1, .ref a1), (2, .int v2)]) hg 3 d_Script_write_133 rfl he_133 (Nat.le_of_ble_eq_true rfl) rfl ?_
  refine r_goto (tgt := 84) hg d_Script_write_136 (by decide) ?_
  refine r_sub [1, 2, 3, 0] rfl ?_
  exact hrec_ a1 h_a1 v2 v3_133 μ
theorem t_Script_write_L84_b {cx : HCx} (hg : HGood cx R_Script b_Script_write 4 3 none) (hA : h_own cx) (K139 : Nat → Int32 → HMem → Option (Unit × HMem)) (hK139 : p_Script_write_139 cx K139) (rec_ : Nat → Int32 → Int32 → HMem → Option (Unit × HMem)) (hrec_ : p_Script_write_84 cx rec_) (a1 : Nat) (h_a1 : HIsG a1) (v2 : Int32) (v3 : Int32) (μ : HMem) : HX cx (HQ cx h_eV) (f_Script_write_L84_b K139 rec_ a1 v2 v3 μ) 0 0 84 [(0, .ref 90), (1, .ref a1), (2, .int v2), (3, .int v3)] [] μ := by
  unfold f_Script_write_L84_b
  refine r_iload_n hg 3 d_Script_write_84 rfl rfl ?_
  refine r_aload_n hg 1 d_Script_write_85 rfl rfl ?_
  refine r_get (v := .int (μ.1 a1 0)) hg c_Graph (h_G_lt h_a1) (h_G_kd h_a1) (Nat.le_of_ble_eq_true rfl) (h_G_fl0 h_a1) wf_Script_19 d_Script_write_86 rfl ?_
  refine r_icmp_ge (tgt := 139) hg d_Script_write_89 (by decide) ?_ ?_
  · refine r_sub [0, 1, 2] rfl ?_
    exact hK139 a1 h_a1 v2 μ
  · refine r_aload_n hg 1 d_Script_write_92 rfl rfl ?_
    refine r_iload_n hg 2 d_Script_write_93 rfl rfl ?_
    refine r_iload_n hg 3 d_Script_write_94 rfl rfl ?_
    refine r_callV (As := [.int v2, .int v3]) hg (t_Graph_between a1 h_a1 v2 v3 μ) v_Graph_between c_Graph rfl (h_G_lt h_a1) (h_G_kd h_a1) wm_Script_35 d_Script_write_95 rfl ⟨by decide, by decide⟩ (Nat.le_of_ble_eq_true rfl) rfl (fun r95 μ_95 _ => ?_)
    refine r_if_eq (tgt := 133) hg d_Script_write_98 (by decide) ?_ ?_
    · exact t_Script_write_J133 hg hA rec_ hrec_ a1 h_a1 v2 v3 μ_95
    · refine r_aload_n hg 0 d_Script_write_101 rfl rfl ?_
      refine r_bipush (v := 59) hg d_Script_write_102 (by decide) ?_
      refine r_callV (As := [.int 59]) hg (t_Script_put 59 μ_95) v_Script_put c_Script rfl (by decide) rfl wm_Script_24 d_Script_write_104 rfl ⟨by decide, by decide⟩ (Nat.le_of_ble_eq_true rfl) rfl (fun r104 μ_104 _ => ?_)
      refine r_aload_n hg 0 d_Script_write_107 rfl rfl ?_
      refine r_bipush (v := 48) hg d_Script_write_108 (by decide) ?_
      refine r_iload_n hg 2 d_Script_write_110 rfl rfl ?_
      refine r_iadd hg d_Script_write_111 ?_
      refine r_callV (As := [.int (48 + v2)]) hg (t_Script_put (48 + v2) μ_104) v_Script_put c_Script rfl (by decide) rfl wm_Script_24 d_Script_write_112 rfl ⟨by decide, by decide⟩ (Nat.le_of_ble_eq_true rfl) rfl (fun r112 μ_112 _ => ?_)
      refine r_aload_n hg 0 d_Script_write_115 rfl rfl ?_
      refine r_bipush (v := 48) hg d_Script_write_116 (by decide) ?_
      refine r_iload_n hg 3 d_Script_write_118 rfl rfl ?_
      refine r_iadd hg d_Script_write_119 ?_
      refine r_callV (As := [.int (48 + v3)]) hg (t_Script_put (48 + v3) μ_112) v_Script_put c_Script rfl (by decide) rfl wm_Script_24 d_Script_write_120 rfl ⟨by decide, by decide⟩ (Nat.le_of_ble_eq_true rfl) rfl (fun r120 μ_120 _ => ?_)
      refine r_aload_n hg 0 d_Script_write_123 rfl rfl ?_
      refine r_aload_n hg 1 d_Script_write_124 rfl rfl ?_
      refine r_iload_n hg 2 d_Script_write_125 rfl rfl ?_
      refine r_iload_n hg 3 d_Script_write_126 rfl rfl ?_
      refine r_callV (As := [.int v2, .int v3]) hg (t_Graph_between a1 h_a1 v2 v3 μ_120) v_Graph_between c_Graph rfl (h_G_lt h_a1) (h_G_kd h_a1) wm_Script_35 d_Script_write_127 rfl ⟨by decide, by decide⟩ (Nat.le_of_ble_eq_true rfl) rfl (fun r127 μ_127 _ => ?_)
      refine r_callV (As := [.int r127]) hg (t_Script_putWeight r127 μ_127) v_Script_putWeight c_Script rfl (by decide) rfl wm_Script_32 d_Script_write_130 rfl ⟨by decide, by decide⟩ (Nat.le_of_ble_eq_true rfl) rfl (fun r130 μ_130 _ => ?_)
      exact t_Script_write_J133 hg hA rec_ hrec_ a1 h_a1 v2 v3 μ_130
theorem t_Script_write_L84 {cx : HCx} (hg : HGood cx R_Script b_Script_write 4 3 none) (hA : h_own cx) (K139 : Nat → Int32 → HMem → Option (Unit × HMem)) (hK139 : p_Script_write_139 cx K139) : ∀ (fuel : Nat) (a1 : Nat) (h_a1 : HIsG a1) (v2 : Int32) (v3 : Int32) (μ : HMem), HX cx (HQ cx h_eV) (f_Script_write_L84 K139 fuel a1 v2 v3 μ) 0 0 84 [(0, .ref 90), (1, .ref a1), (2, .int v2), (3, .int v3)] [] μ
  | 0, _, _, _, _, _ => by unfold f_Script_write_L84; exact HX.none
  | fuel + 1, a1, h_a1, v2, v3, μ => by
    rw [f_Script_write_L84]
    exact t_Script_write_L84_b hg hA  K139 hK139 (f_Script_write_L84 K139 fuel) (t_Script_write_L84 hg hA  K139 hK139 fuel) a1 h_a1 v2 v3 μ
theorem t_Script_write_J139 {cx : HCx} (hg : HGood cx R_Script b_Script_write 4 3 none) (hA : h_own cx)  (rec_ : Nat → Int32 → HMem → Option (Unit × HMem)) (hrec_ : p_Script_write_74 cx rec_) (a1 : Nat) (h_a1 : HIsG a1) (v2 : Int32) (μ : HMem) : HX cx (HQ cx h_eV) (f_Script_write_J139  rec_ a1 v2 μ) 0 0 139 [(0, .ref 90), (1, .ref a1), (2, .int v2)] [] μ := by
  unfold f_Script_write_J139
  refine r_letE (fun v2_139 he_139 => ?_)
  refine r_iinc (v := v2_139) (l' := [(2, .int v2_139), (0, .ref 90), (1, .ref a1)]) hg 2 d_Script_write_139 rfl he_139 (Nat.le_of_ble_eq_true rfl) rfl ?_
  refine r_goto (tgt := 74) hg d_Script_write_142 (by decide) ?_
  refine r_sub [1, 2, 0] rfl ?_
  exact hrec_ a1 h_a1 v2_139 μ
theorem t_Script_write_L74_b {cx : HCx} (hg : HGood cx R_Script b_Script_write 4 3 none) (hA : h_own cx)  (rec_ : Nat → Int32 → HMem → Option (Unit × HMem)) (hrec_ : p_Script_write_74 cx rec_) (a1 : Nat) (h_a1 : HIsG a1) (v2 : Int32) (μ : HMem) : HX cx (HQ cx h_eV) (f_Script_write_L74_b  rec_ a1 v2 μ) 0 0 74 [(0, .ref 90), (1, .ref a1), (2, .int v2)] [] μ := by
  unfold f_Script_write_L74_b
  refine r_iload_n hg 2 d_Script_write_74 rfl rfl ?_
  refine r_aload_n hg 1 d_Script_write_75 rfl rfl ?_
  refine r_get (v := .int (μ.1 a1 0)) hg c_Graph (h_G_lt h_a1) (h_G_kd h_a1) (Nat.le_of_ble_eq_true rfl) (h_G_fl0 h_a1) wf_Script_19 d_Script_write_76 rfl ?_
  refine r_icmp_ge (tgt := 145) hg d_Script_write_79 (by decide) ?_ ?_
  · exact r_vret hg hA rfl d_Script_write_145 rfl
  · refine r_iload_n hg 2 d_Script_write_82 rfl rfl ?_
    refine r_istore_n (l' := [(3, .int v2), (0, .ref 90), (1, .ref a1), (2, .int v2)]) hg d_Script_write_83 rfl (Nat.le_of_ble_eq_true rfl) rfl ?_
    refine r_sub [1, 2, 3, 0] rfl ?_
    exact t_Script_write_L84 hg hA (f_Script_write_J139 rec_) (t_Script_write_J139 hg hA rec_ hrec_) h_fuel a1 h_a1 v2 v2 μ
theorem t_Script_write_L74 {cx : HCx} (hg : HGood cx R_Script b_Script_write 4 3 none) (hA : h_own cx)  : ∀ (fuel : Nat) (a1 : Nat) (h_a1 : HIsG a1) (v2 : Int32) (μ : HMem), HX cx (HQ cx h_eV) (f_Script_write_L74  fuel a1 v2 μ) 0 0 74 [(0, .ref 90), (1, .ref a1), (2, .int v2)] [] μ
  | 0, _, _, _, _ => by unfold f_Script_write_L74; exact HX.none
  | fuel + 1, a1, h_a1, v2, μ => by
    rw [f_Script_write_L74]
    exact t_Script_write_L74_b hg hA   (f_Script_write_L74  fuel) (t_Script_write_L74 hg hA   fuel) a1 h_a1 v2 μ
theorem t_Script_write_J72 {cx : HCx} (hg : HGood cx R_Script b_Script_write 4 3 none) (hA : h_own cx)   (a1 : Nat) (h_a1 : HIsG a1) (μ : HMem) : HX cx (HQ cx h_eV) (f_Script_write_J72   a1 μ) 0 0 72 [(0, .ref 90), (1, .ref a1)] [] μ := by
  unfold f_Script_write_J72
  refine r_iconst (v := 0) hg d_Script_write_72 (by decide) ?_
  refine r_istore_n (l' := [(2, .int 0), (0, .ref 90), (1, .ref a1)]) hg d_Script_write_73 rfl (Nat.le_of_ble_eq_true rfl) rfl ?_
  refine r_sub [1, 2, 0] rfl ?_
  exact t_Script_write_L74 hg hA h_fuel a1 h_a1 0 μ
theorem t_Script_write_0 {cx : HCx} (hg : HGood cx R_Script b_Script_write 4 3 none) (hA : h_own cx) (a1 : Nat) (h_a1 : HIsG a1) (μ : HMem) : HX cx (HQ cx h_eV) (f_Script_write a1 μ) 0 0 0 [(0, .ref 90), (1, .ref a1)] [] μ := by
  unfold f_Script_write
  refine r_aload_n hg 0 d_Script_write_0 rfl rfl ?_
  refine r_iconst (v := 0) hg d_Script_write_1 (by decide) ?_
  refine r_put hg c_Script t_Script_ok n_Script (by decide) rfl (Nat.le_of_ble_eq_true rfl) rfl rfl (by decide +kernel) wf_Script_15 d_Script_write_2 ?_
  refine r_letM (fun μ_2 => ?_)
  refine r_aload_n hg 0 d_Script_write_5 rfl rfl ?_
  refine r_bipush (v := 48) hg d_Script_write_6 (by decide) ?_
  refine r_aload_n hg 1 d_Script_write_8 rfl rfl ?_
  refine r_get (v := .int (μ_2.1 a1 0)) hg c_Graph (h_G_lt h_a1) (h_G_kd h_a1) (Nat.le_of_ble_eq_true rfl) (h_G_fl0 h_a1) wf_Script_19 d_Script_write_9 rfl ?_
  refine r_iadd hg d_Script_write_12 ?_
  refine r_callV (As := [.int (48 + (μ_2.1 a1 0))]) hg (t_Script_put (48 + (μ_2.1 a1 0)) μ_2) v_Script_put c_Script rfl (by decide) rfl wm_Script_24 d_Script_write_13 rfl ⟨by decide, by decide⟩ (Nat.le_of_ble_eq_true rfl) rfl (fun r13 μ_13 _ => ?_)
  refine r_iconst (v := 0) hg d_Script_write_16 (by decide) ?_
  refine r_istore_n (l' := [(2, .int 0), (0, .ref 90), (1, .ref a1)]) hg d_Script_write_17 rfl (Nat.le_of_ble_eq_true rfl) rfl ?_
  refine r_sub [1, 2, 0] rfl ?_
  exact t_Script_write_L18 hg hA f_Script_write_J72 (t_Script_write_J72 hg hA) h_fuel a1 h_a1 0 μ_13
theorem t_Script_write (a1 : Nat) (h_a1 : HIsG a1) (μ : HMem) : HSpec y_Script_write b_Script_write 4 none 3 h_eV [.ref 90, .ref a1] μ (f_Script_write a1 μ) :=
  HSpec.of (by decide +kernel) (v_Script_write.1 _ (by simp)) (Nat.le_of_ble_eq_true rfl) (fun cx hA hg => t_Script_write_0 hg hA a1 h_a1 μ)
theorem t_Text_readDigit_J41 {cx : HCx} (hg : HGood cx R_Text b_Text_readDigit 3 1 (some .int)) (hA : h_own cx)    (μ : HMem) : HX cx (HQ cx h_eI) (f_Text_readDigit_J41   μ) 0 0 41 [] [] μ := by
  unfold f_Text_readDigit_J41
  refine r_bipush (v := -100) hg d_Text_readDigit_41 (by decide) ?_
  exact r_iret hg hA rfl d_Text_readDigit_43 rfl
theorem t_Text_readDigit_0 {cx : HCx} (hg : HGood cx R_Text b_Text_readDigit 3 1 (some .int)) (hA : h_own cx) (v1 : Int32) (μ : HMem) : HX cx (HQ cx h_eI) (f_Text_readDigit v1 μ) 0 0 0 [(0, .ref 88), (1, .int v1)] [] μ := by
  unfold f_Text_readDigit
  refine r_aload_n hg 0 d_Text_readDigit_0 rfl rfl ?_
  refine r_get (v := .int (μ.1 88 2)) hg c_Text (by decide) rfl (Nat.le_of_ble_eq_true rfl) rfl wf_Text_15 d_Text_readDigit_1 rfl ?_
  refine r_aload_n hg 0 d_Text_readDigit_4 rfl rfl ?_
  refine r_get (v := .int (μ.1 88 1)) hg c_Text (by decide) rfl (Nat.le_of_ble_eq_true rfl) rfl wf_Text_29 d_Text_readDigit_5 rfl ?_
  refine r_icmp_ge (tgt := 41) hg d_Text_readDigit_8 (by decide) ?_ ?_
  · refine r_sub [] rfl ?_
    exact t_Text_readDigit_J41 hg hA μ
  · refine r_aload_n hg 0 d_Text_readDigit_11 rfl rfl ?_
    refine r_get (v := .ref 89) hg c_Text (by decide) rfl (Nat.le_of_ble_eq_true rfl) rfl wf_Text_9 d_Text_readDigit_12 rfl ?_
    refine r_aload_n hg 0 d_Text_readDigit_15 rfl rfl ?_
    refine r_get (v := .int (μ.1 88 2)) hg c_Text (by decide) rfl (Nat.le_of_ble_eq_true rfl) rfl wf_Text_15 d_Text_readDigit_16 rfl ?_
    refine r_bald hg (by decide) rfl d_Text_readDigit_19 ?_
    refine r_bipush (v := 48) hg d_Text_readDigit_20 (by decide) ?_
    refine r_icmp_lt (tgt := 41) hg d_Text_readDigit_22 (by decide) ?_ ?_
    · refine r_sub [] rfl ?_
      exact t_Text_readDigit_J41 hg hA μ
    · refine r_aload_n hg 0 d_Text_readDigit_25 rfl rfl ?_
      refine r_get (v := .ref 89) hg c_Text (by decide) rfl (Nat.le_of_ble_eq_true rfl) rfl wf_Text_9 d_Text_readDigit_26 rfl ?_
      refine r_aload_n hg 0 d_Text_readDigit_29 rfl rfl ?_
      refine r_get (v := .int (μ.1 88 2)) hg c_Text (by decide) rfl (Nat.le_of_ble_eq_true rfl) rfl wf_Text_15 d_Text_readDigit_30 rfl ?_
      refine r_bald hg (by decide) rfl d_Text_readDigit_33 ?_
      refine r_bipush (v := 48) hg d_Text_readDigit_34 (by decide) ?_
      refine r_iload_n hg 1 d_Text_readDigit_36 rfl rfl ?_
      refine r_iadd hg d_Text_readDigit_37 ?_
      refine r_icmp_le (tgt := 44) hg d_Text_readDigit_38 (by decide) ?_ ?_
      · refine r_aload_n hg 0 d_Text_readDigit_44 rfl rfl ?_
        refine r_get (v := .ref 89) hg c_Text (by decide) rfl (Nat.le_of_ble_eq_true rfl) rfl wf_Text_9 d_Text_readDigit_45 rfl ?_
        refine r_aload_n hg 0 d_Text_readDigit_48 rfl rfl ?_
        refine r_get (v := .int (μ.1 88 2)) hg c_Text (by decide) rfl (Nat.le_of_ble_eq_true rfl) rfl wf_Text_15 d_Text_readDigit_49 rfl ?_
        refine r_bald hg (by decide) rfl d_Text_readDigit_52 ?_
        refine r_bipush (v := 48) hg d_Text_readDigit_53 (by decide) ?_
        refine r_isub hg d_Text_readDigit_55 ?_
        refine r_letI (fun v2_56 => ?_)
        refine r_istore_n (l' := [(2, .int v2_56), (0, .ref 88), (1, .int v1)]) hg d_Text_readDigit_56 rfl (Nat.le_of_ble_eq_true rfl) rfl ?_
        refine r_aload_n hg 1 d_Text_readDigit_57 rfl rfl ?_
        refine r_dup hg d_Text_readDigit_58 rfl ?_
        refine r_get (v := .int (μ.1 88 2)) hg c_Text (by decide) rfl (Nat.le_of_ble_eq_true rfl) rfl wf_Text_15 d_Text_readDigit_59 rfl ?_
        refine r_iconst (v := 1) hg d_Text_readDigit_62 (by decide) ?_
        refine r_iadd hg d_Text_readDigit_63 ?_
        refine r_put hg c_Text t_Text_ok n_Text (by decide) rfl (Nat.le_of_ble_eq_true rfl) rfl rfl (by decide +kernel) wf_Text_15 d_Text_readDigit_64 ?_
        refine r_letM (fun μ_64 => ?_)
        refine r_iload_n hg 0 d_Text_readDigit_67 rfl rfl ?_
        exact r_iret hg hA rfl d_Text_readDigit_68 rfl
      · refine r_sub [] rfl ?_
        exact t_Text_readDigit_J41 hg hA μ
theorem t_Text_readDigit (v1 : Int32) (μ : HMem) : HSpec y_Text_readDigit b_Text_readDigit 3 (some .int) 1 h_eI [.ref 88, .int v1] μ (f_Text_readDigit v1 μ) :=
  HSpec.of (by decide +kernel) (v_Text_readDigit.1 _ (by simp)) (Nat.le_of_ble_eq_true rfl) (fun cx hA hg => t_Text_readDigit_0 hg hA v1 μ)
theorem t_Text_accept_J24 {cx : HCx} (hg : HGood cx R_Text b_Text_accept 2 1 (some .boolean)) (hA : h_own cx)    (μ : HMem) : HX cx (HQ cx h_eI) (f_Text_accept_J24   μ) 0 0 24 [] [] μ := by
  unfold f_Text_accept_J24
  refine r_iconst (v := 0) hg d_Text_accept_24 (by decide) ?_
  exact r_zretB hg hA rfl d_Text_accept_25 rfl
theorem t_Text_accept_0 {cx : HCx} (hg : HGood cx R_Text b_Text_accept 2 1 (some .boolean)) (hA : h_own cx) (v1 : Int32) (μ : HMem) : HX cx (HQ cx h_eI) (f_Text_accept v1 μ) 0 0 0 [(0, .ref 88), (1, .int v1)] [] μ := by
  unfold f_Text_accept
  refine r_aload_n hg 0 d_Text_accept_0 rfl rfl ?_
  refine r_get (v := .int (μ.1 88 2)) hg c_Text (by decide) rfl (Nat.le_of_ble_eq_true rfl) rfl wf_Text_15 d_Text_accept_1 rfl ?_
  refine r_aload_n hg 0 d_Text_accept_4 rfl rfl ?_
  refine r_get (v := .int (μ.1 88 1)) hg c_Text (by decide) rfl (Nat.le_of_ble_eq_true rfl) rfl wf_Text_29 d_Text_accept_5 rfl ?_
  refine r_icmp_ge (tgt := 24) hg d_Text_accept_8 (by decide) ?_ ?_
  · refine r_sub [] rfl ?_
    exact t_Text_accept_J24 hg hA μ
  · refine r_aload_n hg 0 d_Text_accept_11 rfl rfl ?_
    refine r_get (v := .ref 89) hg c_Text (by decide) rfl (Nat.le_of_ble_eq_true rfl) rfl wf_Text_9 d_Text_accept_12 rfl ?_
    refine r_aload_n hg 0 d_Text_accept_15 rfl rfl ?_
    refine r_get (v := .int (μ.1 88 2)) hg c_Text (by decide) rfl (Nat.le_of_ble_eq_true rfl) rfl wf_Text_15 d_Text_accept_16 rfl ?_
    refine r_bald hg (by decide) rfl d_Text_accept_19 ?_
    refine r_iload_n hg 1 d_Text_accept_20 rfl rfl ?_
    refine r_icmp_eq (tgt := 26) hg d_Text_accept_21 (by decide) ?_ ?_
    · refine r_aload_n hg 0 d_Text_accept_26 rfl rfl ?_
      refine r_dup hg d_Text_accept_27 rfl ?_
      refine r_get (v := .int (μ.1 88 2)) hg c_Text (by decide) rfl (Nat.le_of_ble_eq_true rfl) rfl wf_Text_15 d_Text_accept_28 rfl ?_
      refine r_iconst (v := 1) hg d_Text_accept_31 (by decide) ?_
      refine r_iadd hg d_Text_accept_32 ?_
      refine r_put hg c_Text t_Text_ok n_Text (by decide) rfl (Nat.le_of_ble_eq_true rfl) rfl rfl (by decide +kernel) wf_Text_15 d_Text_accept_33 ?_
      refine r_letM (fun μ_33 => ?_)
      refine r_iconst (v := 1) hg d_Text_accept_36 (by decide) ?_
      exact r_zretB hg hA rfl d_Text_accept_37 rfl
    · refine r_sub [] rfl ?_
      exact t_Text_accept_J24 hg hA μ
theorem t_Text_accept (v1 : Int32) (μ : HMem) : HSpec y_Text_accept b_Text_accept 2 (some .boolean) 1 h_eI [.ref 88, .int v1] μ (f_Text_accept v1 μ) :=
  HSpec.of (by decide +kernel) (v_Text_accept.1 _ (by simp)) (Nat.le_of_ble_eq_true rfl) (fun cx hA hg => t_Text_accept_0 hg hA v1 μ)
theorem t_Text_readWeight_J29 {cx : HCx} (hg : HGood cx R_Text b_Text_readWeight 4 2 (some .int)) (hA : h_own cx)   (s0 : Int32) (μ : HMem) : HX cx (HQ cx h_eI) (f_Text_readWeight_J29   s0 μ) 0 0 29 [] [.int s0] μ := by
  unfold f_Text_readWeight_J29
  exact r_iret hg hA rfl d_Text_readWeight_29 rfl
theorem t_Text_readWeight_J28 {cx : HCx} (hg : HGood cx R_Text b_Text_readWeight 4 2 (some .int)) (hA : h_own cx)   (v3 : Int32) (μ : HMem) : HX cx (HQ cx h_eI) (f_Text_readWeight_J28   v3 μ) 0 0 28 [(3, .int v3)] [] μ := by
  unfold f_Text_readWeight_J28
  refine r_iload_n hg 0 d_Text_readWeight_28 rfl rfl ?_
  refine r_sub [] rfl ?_
  exact t_Text_readWeight_J29 hg hA v3 μ
theorem t_Text_readWeight_0 {cx : HCx} (hg : HGood cx R_Text b_Text_readWeight 4 2 (some .int)) (hA : h_own cx) (v1 : Int32) (μ : HMem) : HX cx (HQ cx h_eI) (f_Text_readWeight v1 μ) 0 0 0 [(0, .ref 88), (1, .int v1)] [] μ := by
  unfold f_Text_readWeight
  refine r_aload_n hg 0 d_Text_readWeight_0 rfl rfl ?_
  refine r_bipush (v := 45) hg d_Text_readWeight_1 (by decide) ?_
  refine r_callV (As := [.int 45]) hg (t_Text_accept 45 μ) v_Text_accept c_Text rfl (by decide) rfl wm_Text_32 d_Text_readWeight_3 rfl ⟨by decide, by decide⟩ (Nat.le_of_ble_eq_true rfl) rfl (fun r3 μ_3 _ => ?_)
  refine r_istore_n (l' := [(2, .int r3), (0, .ref 88), (1, .int v1)]) hg d_Text_readWeight_6 rfl (Nat.le_of_ble_eq_true rfl) rfl ?_
  refine r_aload_n hg 1 d_Text_readWeight_7 rfl rfl ?_
  refine r_iload_n hg 2 d_Text_readWeight_8 rfl rfl ?_
  refine r_callV (As := [.int v1]) hg (t_Text_readDigit v1 μ_3) v_Text_readDigit c_Text rfl (by decide) rfl wm_Text_19 d_Text_readWeight_9 rfl ⟨by decide, by decide⟩ (Nat.le_of_ble_eq_true rfl) rfl (fun r9 μ_9 _ => ?_)
  refine r_istore_n (l' := [(3, .int r9), (2, .int r3), (0, .ref 88), (1, .int v1)]) hg d_Text_readWeight_12 rfl (Nat.le_of_ble_eq_true rfl) rfl ?_
  refine r_iload_n hg 1 d_Text_readWeight_13 rfl rfl ?_
  refine r_if_eq (tgt := 28) hg d_Text_readWeight_14 (by decide) ?_ ?_
  · refine r_sub [0] rfl ?_
    exact t_Text_readWeight_J28 hg hA r9 μ_9
  · refine r_iload_n hg 0 d_Text_readWeight_17 rfl rfl ?_
    refine r_bipush (v := -100) hg d_Text_readWeight_18 (by decide) ?_
    refine r_icmp_eq (tgt := 28) hg d_Text_readWeight_20 (by decide) ?_ ?_
    · refine r_sub [0] rfl ?_
      exact t_Text_readWeight_J28 hg hA r9 μ_9
    · refine r_iload_n hg 0 d_Text_readWeight_23 rfl rfl ?_
      refine r_ineg hg d_Text_readWeight_24 ?_
      refine r_goto (tgt := 29) hg d_Text_readWeight_25 (by decide) ?_
      refine r_sub [] rfl ?_
      exact t_Text_readWeight_J29 hg hA (-r9) μ_9
theorem t_Text_readWeight (v1 : Int32) (μ : HMem) : HSpec y_Text_readWeight b_Text_readWeight 4 (some .int) 2 h_eI [.ref 88, .int v1] μ (f_Text_readWeight v1 μ) :=
  HSpec.of (by decide +kernel) (v_Text_readWeight.1 _ (by simp)) (Nat.le_of_ble_eq_true rfl) (fun cx hA hg => t_Text_readWeight_0 hg hA v1 μ)
theorem t_Text_readVertexItem_J26 {cx : HCx} (hg : HGood cx R_Text b_Text_readVertexItem 4 3 (some .boolean)) (hA : h_own cx)    (μ : HMem) : HX cx (HQ cx h_eI) (f_Text_readVertexItem_J26   μ) 0 0 26 [] [] μ := by
  unfold f_Text_readVertexItem_J26
  refine r_iconst (v := 0) hg d_Text_readVertexItem_26 (by decide) ?_
  exact r_zretB hg hA rfl d_Text_readVertexItem_27 rfl
theorem t_Text_readVertexItem_0 {cx : HCx} (hg : HGood cx R_Text b_Text_readVertexItem 4 3 (some .boolean)) (hA : h_own cx) (a1 : Nat) (h_a1 : HIsG a1) (μ : HMem) : HX cx (HQ cx h_eI) (f_Text_readVertexItem a1 μ) 0 0 0 [(0, .ref 88), (1, .ref a1)] [] μ := by
  unfold f_Text_readVertexItem
  refine r_aload_n hg 0 d_Text_readVertexItem_0 rfl rfl ?_
  refine r_aload_n hg 1 d_Text_readVertexItem_1 rfl rfl ?_
  refine r_get (v := .int (μ.1 a1 0)) hg c_Graph (h_G_lt h_a1) (h_G_kd h_a1) (Nat.le_of_ble_eq_true rfl) (h_G_fl0 h_a1) wf_Text_46 d_Text_readVertexItem_2 rfl ?_
  refine r_iconst (v := 1) hg d_Text_readVertexItem_5 (by decide) ?_
  refine r_isub hg d_Text_readVertexItem_6 ?_
  refine r_callV (As := [.int ((μ.1 a1 0) - 1)]) hg (t_Text_readDigit ((μ.1 a1 0) - 1) μ) v_Text_readDigit c_Text rfl (by decide) rfl wm_Text_19 d_Text_readVertexItem_7 rfl ⟨by decide, by decide⟩ (Nat.le_of_ble_eq_true rfl) rfl (fun r7 μ_7 _ => ?_)
  refine r_istore_n (l' := [(2, .int r7), (0, .ref 88), (1, .ref a1)]) hg d_Text_readVertexItem_10 rfl (Nat.le_of_ble_eq_true rfl) rfl ?_
  refine r_iload_n hg 0 d_Text_readVertexItem_11 rfl rfl ?_
  refine r_bipush (v := -100) hg d_Text_readVertexItem_12 (by decide) ?_
  refine r_icmp_eq (tgt := 26) hg d_Text_readVertexItem_14 (by decide) ?_ ?_
  · refine r_sub [] rfl ?_
    exact t_Text_readVertexItem_J26 hg hA μ_7
  · refine r_aload_n hg 1 d_Text_readVertexItem_17 rfl rfl ?_
    refine r_bipush (v := 61) hg d_Text_readVertexItem_18 (by decide) ?_
    refine r_callV (As := [.int 61]) hg (t_Text_accept 61 μ_7) v_Text_accept c_Text rfl (by decide) rfl wm_Text_32 d_Text_readVertexItem_20 rfl ⟨by decide, by decide⟩ (Nat.le_of_ble_eq_true rfl) rfl (fun r20 μ_20 _ => ?_)
    refine r_if_ne (tgt := 28) hg d_Text_readVertexItem_23 (by decide) ?_ ?_
    · refine r_aload_n hg 1 d_Text_readVertexItem_28 rfl rfl ?_
      refine r_iconst (v := 3) hg d_Text_readVertexItem_29 (by decide) ?_
      refine r_callV (As := [.int 3]) hg (t_Text_readWeight 3 μ_20) v_Text_readWeight c_Text rfl (by decide) rfl wm_Text_49 d_Text_readVertexItem_30 rfl ⟨by decide, by decide⟩ (Nat.le_of_ble_eq_true rfl) rfl (fun r30 μ_30 _ => ?_)
      refine r_istore_n (l' := [(3, .int r30), (2, .int r7), (0, .ref 88), (1, .ref a1)]) hg d_Text_readVertexItem_33 rfl (Nat.le_of_ble_eq_true rfl) rfl ?_
      refine r_iload_n hg 0 d_Text_readVertexItem_34 rfl rfl ?_
      refine r_bipush (v := -100) hg d_Text_readVertexItem_35 (by decide) ?_
      refine r_icmp_ne (tgt := 42) hg d_Text_readVertexItem_37 (by decide) ?_ ?_
      · refine r_aload_n hg 3 d_Text_readVertexItem_42 rfl rfl ?_
        refine r_get (v := .ref (a1 + 1)) hg c_Graph (h_G_lt h_a1) (h_G_kd h_a1) (Nat.le_of_ble_eq_true rfl) (h_G_fl1 h_a1) wf_Text_52 d_Text_readVertexItem_43 rfl ?_
        refine r_iload_n hg 1 d_Text_readVertexItem_46 rfl rfl ?_
        refine r_iload_n hg 0 d_Text_readVertexItem_47 rfl rfl ?_
        refine r_iast hg (h_G_lt1 h_a1) (h_G_kd1 h_a1) d_Text_readVertexItem_48 ?_
        refine r_letM (fun μ_48 => ?_)
        refine r_iconst (v := 1) hg d_Text_readVertexItem_49 (by decide) ?_
        exact r_zretB hg hA rfl d_Text_readVertexItem_50 rfl
      · refine r_iconst (v := 0) hg d_Text_readVertexItem_40 (by decide) ?_
        exact r_zretB hg hA rfl d_Text_readVertexItem_41 rfl
    · refine r_sub [] rfl ?_
      exact t_Text_readVertexItem_J26 hg hA μ_20
theorem t_Text_readVertexItem (a1 : Nat) (h_a1 : HIsG a1) (μ : HMem) : HSpec y_Text_readVertexItem b_Text_readVertexItem 4 (some .boolean) 3 h_eI [.ref 88, .ref a1] μ (f_Text_readVertexItem a1 μ) :=
  HSpec.of (by decide +kernel) (v_Text_readVertexItem.1 _ (by simp)) (Nat.le_of_ble_eq_true rfl) (fun cx hA hg => t_Text_readVertexItem_0 hg hA a1 h_a1 μ)
theorem t_Text_readEdgeItem_J56 {cx : HCx} (hg : HGood cx R_Text b_Text_readEdgeItem 5 3 (some .boolean)) (hA : h_own cx)   (a1 : Nat) (h_a1 : HIsG a1) (v2 : Int32) (v3 : Int32) (s0 : Int32) (μ : HMem) : HX cx (HQ cx h_eI) (f_Text_readEdgeItem_J56   a1 v2 v3 s0 μ) 0 0 56 [(1, .ref a1), (2, .int v2), (3, .int v3)] [.int s0] μ := by
  unfold f_Text_readEdgeItem_J56
  refine r_istore (l' := [(4, .int s0), (1, .ref a1), (2, .int v2), (3, .int v3)]) hg d_Text_readEdgeItem_56 (Nat.le_of_ble_eq_true rfl) rfl ?_
  refine r_iload hg 0 d_Text_readEdgeItem_58 rfl ?_
  refine r_bipush (v := -100) hg d_Text_readEdgeItem_60 (by decide) ?_
  refine r_icmp_ne (tgt := 67) hg d_Text_readEdgeItem_62 (by decide) ?_ ?_
  · refine r_aload_n hg 1 d_Text_readEdgeItem_67 rfl rfl ?_
    refine r_iload_n hg 2 d_Text_readEdgeItem_68 rfl rfl ?_
    refine r_iload_n hg 3 d_Text_readEdgeItem_69 rfl rfl ?_
    refine r_iload hg 0 d_Text_readEdgeItem_70 rfl ?_
    refine r_callV (As := [.int v2, .int v3, .int s0]) hg (t_Graph_join a1 h_a1 v2 v3 s0 μ) v_Graph_join c_Graph rfl (h_G_lt h_a1) (h_G_kd h_a1) wm_Text_56 d_Text_readEdgeItem_72 rfl ⟨by decide, by decide⟩ (Nat.le_of_ble_eq_true rfl) rfl (fun r72 μ_72 _ => ?_)
    refine r_iconst (v := 1) hg d_Text_readEdgeItem_75 (by decide) ?_
    exact r_zretB hg hA rfl d_Text_readEdgeItem_76 rfl
  · refine r_iconst (v := 0) hg d_Text_readEdgeItem_65 (by decide) ?_
    exact r_zretB hg hA rfl d_Text_readEdgeItem_66 rfl
theorem t_Text_readEdgeItem_0 {cx : HCx} (hg : HGood cx R_Text b_Text_readEdgeItem 5 3 (some .boolean)) (hA : h_own cx) (a1 : Nat) (h_a1 : HIsG a1) (μ : HMem) : HX cx (HQ cx h_eI) (f_Text_readEdgeItem a1 μ) 0 0 0 [(0, .ref 88), (1, .ref a1)] [] μ := by
  unfold f_Text_readEdgeItem
  refine r_aload_n hg 0 d_Text_readEdgeItem_0 rfl rfl ?_
  refine r_aload_n hg 1 d_Text_readEdgeItem_1 rfl rfl ?_
  refine r_get (v := .int (μ.1 a1 0)) hg c_Graph (h_G_lt h_a1) (h_G_kd h_a1) (Nat.le_of_ble_eq_true rfl) (h_G_fl0 h_a1) wf_Text_46 d_Text_readEdgeItem_2 rfl ?_
  refine r_iconst (v := 1) hg d_Text_readEdgeItem_5 (by decide) ?_
  refine r_isub hg d_Text_readEdgeItem_6 ?_
  refine r_callV (As := [.int ((μ.1 a1 0) - 1)]) hg (t_Text_readDigit ((μ.1 a1 0) - 1) μ) v_Text_readDigit c_Text rfl (by decide) rfl wm_Text_19 d_Text_readEdgeItem_7 rfl ⟨by decide, by decide⟩ (Nat.le_of_ble_eq_true rfl) rfl (fun r7 μ_7 _ => ?_)
  refine r_istore_n (l' := [(2, .int r7), (0, .ref 88), (1, .ref a1)]) hg d_Text_readEdgeItem_10 rfl (Nat.le_of_ble_eq_true rfl) rfl ?_
  refine r_iload_n hg 0 d_Text_readEdgeItem_11 rfl rfl ?_
  refine r_bipush (v := -100) hg d_Text_readEdgeItem_12 (by decide) ?_
  refine r_icmp_ne (tgt := 19) hg d_Text_readEdgeItem_14 (by decide) ?_ ?_
  · refine r_aload_n hg 1 d_Text_readEdgeItem_19 rfl rfl ?_
    refine r_aload_n hg 2 d_Text_readEdgeItem_20 rfl rfl ?_
    refine r_get (v := .int (μ_7.1 a1 0)) hg c_Graph (h_G_lt h_a1) (h_G_kd h_a1) (Nat.le_of_ble_eq_true rfl) (h_G_fl0 h_a1) wf_Text_46 d_Text_readEdgeItem_21 rfl ?_
    refine r_iconst (v := 1) hg d_Text_readEdgeItem_24 (by decide) ?_
    refine r_isub hg d_Text_readEdgeItem_25 ?_
    refine r_callV (As := [.int ((μ_7.1 a1 0) - 1)]) hg (t_Text_readDigit ((μ_7.1 a1 0) - 1) μ_7) v_Text_readDigit c_Text rfl (by decide) rfl wm_Text_19 d_Text_readEdgeItem_26 rfl ⟨by decide, by decide⟩ (Nat.le_of_ble_eq_true rfl) rfl (fun r26 μ_26 _ => ?_)
    refine r_istore_n (l' := [(3, .int r26), (2, .int r7), (0, .ref 88), (1, .ref a1)]) hg d_Text_readEdgeItem_29 rfl (Nat.le_of_ble_eq_true rfl) rfl ?_
    refine r_iload_n hg 0 d_Text_readEdgeItem_30 rfl rfl ?_
    refine r_bipush (v := -100) hg d_Text_readEdgeItem_31 (by decide) ?_
    refine r_icmp_ne (tgt := 38) hg d_Text_readEdgeItem_33 (by decide) ?_ ?_
    · refine r_aload_n hg 2 d_Text_readEdgeItem_38 rfl rfl ?_
      refine r_bipush (v := 61) hg d_Text_readEdgeItem_39 (by decide) ?_
      refine r_callV (As := [.int 61]) hg (t_Text_accept 61 μ_26) v_Text_accept c_Text rfl (by decide) rfl wm_Text_32 d_Text_readEdgeItem_41 rfl ⟨by decide, by decide⟩ (Nat.le_of_ble_eq_true rfl) rfl (fun r41 μ_41 _ => ?_)
      refine r_if_eq (tgt := 55) hg d_Text_readEdgeItem_44 (by decide) ?_ ?_
      · refine r_iconst (v := 1) hg d_Text_readEdgeItem_55 (by decide) ?_
        refine r_sub [3, 1, 0] rfl ?_
        exact t_Text_readEdgeItem_J56 hg hA a1 h_a1 r7 r26 1 μ_41
      · refine r_aload_n hg 2 d_Text_readEdgeItem_47 rfl rfl ?_
        refine r_iconst (v := 2) hg d_Text_readEdgeItem_48 (by decide) ?_
        refine r_callV (As := [.int 2]) hg (t_Text_readWeight 2 μ_41) v_Text_readWeight c_Text rfl (by decide) rfl wm_Text_49 d_Text_readEdgeItem_49 rfl ⟨by decide, by decide⟩ (Nat.le_of_ble_eq_true rfl) rfl (fun r49 μ_49 _ => ?_)
        refine r_goto (tgt := 56) hg d_Text_readEdgeItem_52 (by decide) ?_
        refine r_sub [3, 1, 0] rfl ?_
        exact t_Text_readEdgeItem_J56 hg hA a1 h_a1 r7 r26 r49 μ_49
    · refine r_iconst (v := 0) hg d_Text_readEdgeItem_36 (by decide) ?_
      exact r_zretB hg hA rfl d_Text_readEdgeItem_37 rfl
  · refine r_iconst (v := 0) hg d_Text_readEdgeItem_17 (by decide) ?_
    exact r_zretB hg hA rfl d_Text_readEdgeItem_18 rfl
theorem t_Text_readEdgeItem (a1 : Nat) (h_a1 : HIsG a1) (μ : HMem) : HSpec y_Text_readEdgeItem b_Text_readEdgeItem 5 (some .boolean) 3 h_eI [.ref 88, .ref a1] μ (f_Text_readEdgeItem a1 μ) :=
  HSpec.of (by decide +kernel) (v_Text_readEdgeItem.1 _ (by simp)) (Nat.le_of_ble_eq_true rfl) (fun cx hA hg => t_Text_readEdgeItem_0 hg hA a1 h_a1 μ)
theorem t_Text_readItem_J22 {cx : HCx} (hg : HGood cx R_Text b_Text_readItem 2 4 (some .boolean)) (hA : h_own cx)   (s0 : Int32) (μ : HMem) : HX cx (HQ cx h_eI) (f_Text_readItem_J22   s0 μ) 0 0 22 [] [.int s0] μ := by
  unfold f_Text_readItem_J22
  exact r_zretB hg hA rfl d_Text_readItem_22 rfl
theorem t_Text_readItem_0 {cx : HCx} (hg : HGood cx R_Text b_Text_readItem 2 4 (some .boolean)) (hA : h_own cx) (a1 : Nat) (h_a1 : HIsG a1) (μ : HMem) : HX cx (HQ cx h_eI) (f_Text_readItem a1 μ) 0 0 0 [(0, .ref 88), (1, .ref a1)] [] μ := by
  unfold f_Text_readItem
  refine r_aload_n hg 0 d_Text_readItem_0 rfl rfl ?_
  refine r_bipush (v := 118) hg d_Text_readItem_1 (by decide) ?_
  refine r_callV (As := [.int 118]) hg (t_Text_accept 118 μ) v_Text_accept c_Text rfl (by decide) rfl wm_Text_32 d_Text_readItem_3 rfl ⟨by decide, by decide⟩ (Nat.le_of_ble_eq_true rfl) rfl (fun r3 μ_3 _ => ?_)
  refine r_if_eq (tgt := 17) hg d_Text_readItem_6 (by decide) ?_ ?_
  · refine r_aload_n hg 0 d_Text_readItem_17 rfl rfl ?_
    refine r_aload_n hg 1 d_Text_readItem_18 rfl rfl ?_
    refine r_callV (As := [.ref a1]) hg (t_Text_readEdgeItem a1 h_a1 μ_3) v_Text_readEdgeItem c_Text rfl (by decide) rfl wm_Text_43 d_Text_readItem_19 rfl ⟨by decide, by decide⟩ (Nat.le_of_ble_eq_true rfl) rfl (fun r19 μ_19 _ => ?_)
    refine r_sub [] rfl ?_
    exact t_Text_readItem_J22 hg hA r19 μ_19
  · refine r_aload_n hg 0 d_Text_readItem_9 rfl rfl ?_
    refine r_aload_n hg 1 d_Text_readItem_10 rfl rfl ?_
    refine r_callV (As := [.ref a1]) hg (t_Text_readVertexItem a1 h_a1 μ_3) v_Text_readVertexItem c_Text rfl (by decide) rfl wm_Text_40 d_Text_readItem_11 rfl ⟨by decide, by decide⟩ (Nat.le_of_ble_eq_true rfl) rfl (fun r11 μ_11 _ => ?_)
    refine r_goto (tgt := 22) hg d_Text_readItem_14 (by decide) ?_
    refine r_sub [] rfl ?_
    exact t_Text_readItem_J22 hg hA r11 μ_11
theorem t_Text_readItem (a1 : Nat) (h_a1 : HIsG a1) (μ : HMem) : HSpec y_Text_readItem b_Text_readItem 2 (some .boolean) 4 h_eI [.ref 88, .ref a1] μ (f_Text_readItem a1 μ) :=
  HSpec.of (by decide +kernel) (v_Text_readItem.1 _ (by simp)) (Nat.le_of_ble_eq_true rfl) (fun cx hA hg => t_Text_readItem_0 hg hA a1 h_a1 μ)
theorem t_Text_readGraph_L30_b {cx : HCx} (hg : HGood cx R_Text b_Text_readGraph 5 5 (some .int)) (hA : h_own cx) (K65 : HMem → Option (Int32 × HMem)) (hK65 : p_Text_readGraph_65 cx K65) (K76 : Int32 → HMem → Option (Int32 × HMem)) (hK76 : p_Text_readGraph_76 cx K76) (rec_ : Nat → Int32 → Int32 → HMem → Option (Int32 × HMem)) (hrec_ : p_Text_readGraph_30 cx rec_) (a1 : Nat) (h_a1 : HIsG a1) (v3 : Int32) (v4 : Int32) (μ : HMem) : HX cx (HQ cx h_eI) (f_Text_readGraph_L30_b K65 K76 rec_ a1 v3 v4 μ) 0 0 30 [(0, .ref 88), (1, .ref a1), (3, .int v3), (4, .int v4)] [] μ := by
  unfold f_Text_readGraph_L30_b
  refine r_aload_n hg 0 d_Text_readGraph_30 rfl rfl ?_
  refine r_get (v := .int (μ.1 88 2)) hg c_Text (by decide) rfl (Nat.le_of_ble_eq_true rfl) rfl wf_Text_15 d_Text_readGraph_31 rfl ?_
  refine r_aload_n hg 0 d_Text_readGraph_34 rfl rfl ?_
  refine r_get (v := .int (μ.1 88 1)) hg c_Text (by decide) rfl (Nat.le_of_ble_eq_true rfl) rfl wf_Text_29 d_Text_readGraph_35 rfl ?_
  refine r_icmp_ge (tgt := 76) hg d_Text_readGraph_38 (by decide) ?_ ?_
  · refine r_sub [2] rfl ?_
    exact hK76 v3 μ
  · refine r_iload hg 3 d_Text_readGraph_41 rfl ?_
    refine r_bipush (v := 120) hg d_Text_readGraph_43 (by decide) ?_
    refine r_icmp_ge (tgt := 76) hg d_Text_readGraph_45 (by decide) ?_ ?_
    · refine r_sub [2] rfl ?_
      exact hK76 v3 μ
    · refine r_aload_n hg 0 d_Text_readGraph_48 rfl rfl ?_
      refine r_bipush (v := 59) hg d_Text_readGraph_49 (by decide) ?_
      refine r_callV (As := [.int 59]) hg (t_Text_accept 59 μ) v_Text_accept c_Text rfl (by decide) rfl wm_Text_32 d_Text_readGraph_51 rfl ⟨by decide, by decide⟩ (Nat.le_of_ble_eq_true rfl) rfl (fun r51 μ_51 _ => ?_)
      refine r_if_eq (tgt := 65) hg d_Text_readGraph_54 (by decide) ?_ ?_
      · refine r_sub [] rfl ?_
        exact hK65 μ_51
      · refine r_aload_n hg 0 d_Text_readGraph_57 rfl rfl ?_
        refine r_aload_n hg 1 d_Text_readGraph_58 rfl rfl ?_
        refine r_callV (As := [.ref a1]) hg (t_Text_readItem a1 h_a1 μ_51) v_Text_readItem c_Text rfl (by decide) rfl wm_Text_36 d_Text_readGraph_59 rfl ⟨by decide, by decide⟩ (Nat.le_of_ble_eq_true rfl) rfl (fun r59 μ_59 _ => ?_)
        refine r_if_ne (tgt := 67) hg d_Text_readGraph_62 (by decide) ?_ ?_
        · refine r_letE (fun v3_67 he_67 => ?_)
          refine r_iinc (v := v3_67) (l' := [(3, .int v3_67), (0, .ref 88), (1, .ref a1), (4, .int v4)]) hg 2 d_Text_readGraph_67 rfl he_67 (Nat.le_of_ble_eq_true rfl) rfl ?_
          refine r_letE (fun v4_70 he_70 => ?_)
          refine r_iinc (v := v4_70) (l' := [(4, .int v4_70), (3, .int v3_67), (0, .ref 88), (1, .ref a1)]) hg 3 d_Text_readGraph_70 rfl he_70 (Nat.le_of_ble_eq_true rfl) rfl ?_
          refine r_goto (tgt := 30) hg d_Text_readGraph_73 (by decide) ?_
          refine r_sub [2, 3, 1, 0] rfl ?_
          exact hrec_ a1 h_a1 v3_67 v4_70 μ_59
        · refine r_sub [] rfl ?_
          exact hK65 μ_59
theorem t_Text_readGraph_L30 {cx : HCx} (hg : HGood cx R_Text b_Text_readGraph 5 5 (some .int)) (hA : h_own cx) (K65 : HMem → Option (Int32 × HMem)) (hK65 : p_Text_readGraph_65 cx K65) (K76 : Int32 → HMem → Option (Int32 × HMem)) (hK76 : p_Text_readGraph_76 cx K76) : ∀ (fuel : Nat) (a1 : Nat) (h_a1 : HIsG a1) (v3 : Int32) (v4 : Int32) (μ : HMem), HX cx (HQ cx h_eI) (f_Text_readGraph_L30 K65 K76 fuel a1 v3 v4 μ) 0 0 30 [(0, .ref 88), (1, .ref a1), (3, .int v3), (4, .int v4)] [] μ
  | 0, _, _, _, _, _ => by unfold f_Text_readGraph_L30; exact HX.none
  | fuel + 1, a1, h_a1, v3, v4, μ => by
    rw [f_Text_readGraph_L30]
    exact t_Text_readGraph_L30_b hg hA  K65 hK65 K76 hK76 (f_Text_readGraph_L30 K65 K76 fuel) (t_Text_readGraph_L30 hg hA  K65 hK65 K76 hK76 fuel) a1 h_a1 v3 v4 μ
theorem t_Text_readGraph_J65 {cx : HCx} (hg : HGood cx R_Text b_Text_readGraph 5 5 (some .int)) (hA : h_own cx)    (μ : HMem) : HX cx (HQ cx h_eI) (f_Text_readGraph_J65   μ) 0 0 65 [] [] μ := by
  unfold f_Text_readGraph_J65
  refine r_iconst (v := -1) hg d_Text_readGraph_65 (by decide) ?_
  exact r_iret hg hA rfl d_Text_readGraph_66 rfl
theorem t_Text_readGraph_J76 {cx : HCx} (hg : HGood cx R_Text b_Text_readGraph 5 5 (some .int)) (hA : h_own cx)   (v3 : Int32) (μ : HMem) : HX cx (HQ cx h_eI) (f_Text_readGraph_J76   v3 μ) 0 0 76 [(3, .int v3)] [] μ := by
  unfold f_Text_readGraph_J76
  refine r_iload_n hg 0 d_Text_readGraph_76 rfl rfl ?_
  exact r_iret hg hA rfl d_Text_readGraph_77 rfl
theorem t_Text_readGraph_0 {cx : HCx} (hg : HGood cx R_Text b_Text_readGraph 5 5 (some .int)) (hA : h_own cx) (a1 : Nat) (h_a1 : HIsG a1) (μ : HMem) : HX cx (HQ cx h_eI) (f_Text_readGraph a1 μ) 0 0 0 [(0, .ref 88), (1, .ref a1)] [] μ := by
  unfold f_Text_readGraph
  refine r_aload_n hg 0 d_Text_readGraph_0 rfl rfl ?_
  refine r_iconst (v := 0) hg d_Text_readGraph_1 (by decide) ?_
  refine r_put hg c_Text t_Text_ok n_Text (by decide) rfl (Nat.le_of_ble_eq_true rfl) rfl rfl (by decide +kernel) wf_Text_15 d_Text_readGraph_2 ?_
  refine r_letM (fun μ_2 => ?_)
  refine r_aload_n hg 0 d_Text_readGraph_5 rfl rfl ?_
  refine r_bipush (v := 8) hg d_Text_readGraph_6 (by decide) ?_
  refine r_callV (As := [.int 8]) hg (t_Text_readDigit 8 μ_2) v_Text_readDigit c_Text rfl (by decide) rfl wm_Text_19 d_Text_readGraph_8 rfl ⟨by decide, by decide⟩ (Nat.le_of_ble_eq_true rfl) rfl (fun r8 μ_8 _ => ?_)
  refine r_istore_n (l' := [(2, .int r8), (0, .ref 88), (1, .ref a1)]) hg d_Text_readGraph_11 rfl (Nat.le_of_ble_eq_true rfl) rfl ?_
  refine r_iload_n hg 0 d_Text_readGraph_12 rfl rfl ?_
  refine r_bipush (v := -100) hg d_Text_readGraph_13 (by decide) ?_
  refine r_icmp_ne (tgt := 20) hg d_Text_readGraph_15 (by decide) ?_ ?_
  · refine r_aload_n hg 2 d_Text_readGraph_20 rfl rfl ?_
    refine r_iload_n hg 0 d_Text_readGraph_21 rfl rfl ?_
    refine r_callV (As := [.int r8]) hg (t_Graph_reset a1 h_a1 r8 μ_8) v_Graph_reset c_Graph rfl (h_G_lt h_a1) (h_G_kd h_a1) wm_Text_23 d_Text_readGraph_22 rfl ⟨by decide, by decide⟩ (Nat.le_of_ble_eq_true rfl) rfl (fun r22 μ_22 _ => ?_)
    refine r_iconst (v := 0) hg d_Text_readGraph_25 (by decide) ?_
    refine r_istore_n (l' := [(3, .int 0), (2, .int r8), (0, .ref 88), (1, .ref a1)]) hg d_Text_readGraph_26 rfl (Nat.le_of_ble_eq_true rfl) rfl ?_
    refine r_iconst (v := 0) hg d_Text_readGraph_27 (by decide) ?_
    refine r_istore (l' := [(4, .int 0), (3, .int 0), (2, .int r8), (0, .ref 88), (1, .ref a1)]) hg d_Text_readGraph_28 (Nat.le_of_ble_eq_true rfl) rfl ?_
    refine r_sub [3, 4, 1, 0] rfl ?_
    exact t_Text_readGraph_L30 hg hA f_Text_readGraph_J65 (t_Text_readGraph_J65 hg hA) f_Text_readGraph_J76 (t_Text_readGraph_J76 hg hA) h_fuel a1 h_a1 0 0 μ_22
  · refine r_iconst (v := -1) hg d_Text_readGraph_18 (by decide) ?_
    exact r_iret hg hA rfl d_Text_readGraph_19 rfl
theorem t_Text_readGraph (a1 : Nat) (h_a1 : HIsG a1) (μ : HMem) : HSpec y_Text_readGraph b_Text_readGraph 5 (some .int) 5 h_eI [.ref 88, .ref a1] μ (f_Text_readGraph a1 μ) :=
  HSpec.of (by decide +kernel) (v_Text_readGraph.1 _ (by simp)) (Nat.le_of_ble_eq_true rfl) (fun cx hA hg => t_Text_readGraph_0 hg hA a1 h_a1 μ)
theorem t_Walks_advance_L15_b {cx : HCx} (hg : HGood cx R_Walks b_Walks_advance 6 2 none) (hA : h_own cx) (K49 : Nat → Int32 → Int64 → HMem → Option (Unit × HMem)) (hK49 : p_Walks_advance_49 cx K49) (rec_ : Nat → Int32 → Int64 → Int32 → HMem → Option (Unit × HMem)) (hrec_ : p_Walks_advance_15 cx rec_) (a1 : Nat) (h_a1 : HIsG a1) (v2 : Int32) (v3 : Int64) (v5 : Int32) (μ : HMem) : HX cx (HQ cx h_eV) (f_Walks_advance_L15_b K49 rec_ a1 v2 v3 v5 μ) 0 0 15 [(0, .ref 122), (1, .ref a1), (2, .int v2), (3, .long v3), (5, .int v5)] [] μ := by
  unfold f_Walks_advance_L15_b
  refine r_iload hg 4 d_Walks_advance_15 rfl ?_
  refine r_aload_n hg 1 d_Walks_advance_17 rfl rfl ?_
  refine r_get (v := .int (μ.1 a1 0)) hg c_Graph (h_G_lt h_a1) (h_G_kd h_a1) (Nat.le_of_ble_eq_true rfl) (h_G_fl0 h_a1) wf_Walks_28 d_Walks_advance_18 rfl ?_
  refine r_icmp_ge (tgt := 49) hg d_Walks_advance_21 (by decide) ?_ ?_
  · refine r_sub [0, 1, 2, 3] rfl ?_
    exact hK49 a1 h_a1 v2 v3 μ
  · refine r_lload_n hg 3 d_Walks_advance_24 rfl rfl ?_
    refine r_aload_n hg 0 d_Walks_advance_25 rfl rfl ?_
    refine r_get (v := .ref 123) hg c_Walks (by decide) rfl (Nat.le_of_ble_eq_true rfl) rfl wf_Walks_9 d_Walks_advance_26 rfl ?_
    refine r_iload hg 4 d_Walks_advance_29 rfl ?_
    refine r_lald hg (by decide) rfl d_Walks_advance_31 ?_
    refine r_aload_n hg 1 d_Walks_advance_32 rfl rfl ?_
    refine r_iload hg 4 d_Walks_advance_33 rfl ?_
    refine r_iload_n hg 2 d_Walks_advance_35 rfl rfl ?_
    refine r_callV (As := [.int v5, .int v2]) hg (t_Graph_between a1 h_a1 v5 v2 μ) v_Graph_between c_Graph rfl (h_G_lt h_a1) (h_G_kd h_a1) wm_Walks_34 d_Walks_advance_36 rfl ⟨by decide, by decide⟩ (Nat.le_of_ble_eq_true rfl) rfl (fun r36 μ_36 _ => ?_)
    refine r_i2l hg d_Walks_advance_39 ?_
    refine r_lmul hg d_Walks_advance_40 ?_
    refine r_ladd hg d_Walks_advance_41 ?_
    refine r_letJ (fun v3_42 => ?_)
    refine r_lstore_n (l' := [(3, .long v3_42), (0, .ref 122), (1, .ref a1), (2, .int v2), (5, .int v5)]) hg d_Walks_advance_42 rfl (Nat.le_of_ble_eq_true rfl) rfl ?_
    refine r_letE (fun v5_43 he_43 => ?_)
    refine r_iinc (v := v5_43) (l' := [(5, .int v5_43), (3, .long v3_42), (0, .ref 122), (1, .ref a1), (2, .int v2)]) hg 4 d_Walks_advance_43 rfl he_43 (Nat.le_of_ble_eq_true rfl) rfl ?_
    refine r_goto (tgt := 15) hg d_Walks_advance_46 (by decide) ?_
    refine r_sub [2, 3, 4, 1, 0] rfl ?_
    exact hrec_ a1 h_a1 v2 v3_42 v5_43 μ_36
theorem t_Walks_advance_L15 {cx : HCx} (hg : HGood cx R_Walks b_Walks_advance 6 2 none) (hA : h_own cx) (K49 : Nat → Int32 → Int64 → HMem → Option (Unit × HMem)) (hK49 : p_Walks_advance_49 cx K49) : ∀ (fuel : Nat) (a1 : Nat) (h_a1 : HIsG a1) (v2 : Int32) (v3 : Int64) (v5 : Int32) (μ : HMem), HX cx (HQ cx h_eV) (f_Walks_advance_L15 K49 fuel a1 v2 v3 v5 μ) 0 0 15 [(0, .ref 122), (1, .ref a1), (2, .int v2), (3, .long v3), (5, .int v5)] [] μ
  | 0, _, _, _, _, _, _ => by unfold f_Walks_advance_L15; exact HX.none
  | fuel + 1, a1, h_a1, v2, v3, v5, μ => by
    rw [f_Walks_advance_L15]
    exact t_Walks_advance_L15_b hg hA  K49 hK49 (f_Walks_advance_L15 K49 fuel) (t_Walks_advance_L15 hg hA  K49 hK49 fuel) a1 h_a1 v2 v3 v5 μ
theorem t_Walks_advance_J49 {cx : HCx} (hg : HGood cx R_Walks b_Walks_advance 6 2 none) (hA : h_own cx)  (rec_ : Nat → Int32 → HMem → Option (Unit × HMem)) (hrec_ : p_Walks_advance_2 cx rec_) (a1 : Nat) (h_a1 : HIsG a1) (v2 : Int32) (v3 : Int64) (μ : HMem) : HX cx (HQ cx h_eV) (f_Walks_advance_J49  rec_ a1 v2 v3 μ) 0 0 49 [(0, .ref 122), (1, .ref a1), (2, .int v2), (3, .long v3)] [] μ := by
  unfold f_Walks_advance_J49
  refine r_aload_n hg 0 d_Walks_advance_49 rfl rfl ?_
  refine r_get (v := .ref 124) hg c_Walks (by decide) rfl (Nat.le_of_ble_eq_true rfl) rfl wf_Walks_15 d_Walks_advance_50 rfl ?_
  refine r_iload_n hg 2 d_Walks_advance_53 rfl rfl ?_
  refine r_lload_n hg 3 d_Walks_advance_54 rfl rfl ?_
  refine r_last hg (by decide) rfl d_Walks_advance_55 ?_
  refine r_letM (fun μ_55 => ?_)
  refine r_letE (fun v2_56 he_56 => ?_)
  refine r_iinc (v := v2_56) (l' := [(2, .int v2_56), (0, .ref 122), (1, .ref a1), (3, .long v3)]) hg 2 d_Walks_advance_56 rfl he_56 (Nat.le_of_ble_eq_true rfl) rfl ?_
  refine r_goto (tgt := 2) hg d_Walks_advance_59 (by decide) ?_
  refine r_sub [1, 2, 0] rfl ?_
  exact hrec_ a1 h_a1 v2_56 μ_55
theorem t_Walks_advance_L2_b {cx : HCx} (hg : HGood cx R_Walks b_Walks_advance 6 2 none) (hA : h_own cx) (K62 : HMem → Option (Unit × HMem)) (hK62 : p_Walks_advance_62 cx K62) (rec_ : Nat → Int32 → HMem → Option (Unit × HMem)) (hrec_ : p_Walks_advance_2 cx rec_) (a1 : Nat) (h_a1 : HIsG a1) (v2 : Int32) (μ : HMem) : HX cx (HQ cx h_eV) (f_Walks_advance_L2_b K62 rec_ a1 v2 μ) 0 0 2 [(0, .ref 122), (1, .ref a1), (2, .int v2)] [] μ := by
  unfold f_Walks_advance_L2_b
  refine r_iload_n hg 2 d_Walks_advance_2 rfl rfl ?_
  refine r_aload_n hg 1 d_Walks_advance_3 rfl rfl ?_
  refine r_get (v := .int (μ.1 a1 0)) hg c_Graph (h_G_lt h_a1) (h_G_kd h_a1) (Nat.le_of_ble_eq_true rfl) (h_G_fl0 h_a1) wf_Walks_28 d_Walks_advance_4 rfl ?_
  refine r_icmp_ge (tgt := 62) hg d_Walks_advance_7 (by decide) ?_ ?_
  · refine r_sub [0] rfl ?_
    exact hK62 μ
  · refine r_lconst (v := 0) hg d_Walks_advance_10 (by decide) ?_
    refine r_lstore_n (l' := [(3, .long 0), (0, .ref 122), (1, .ref a1), (2, .int v2)]) hg d_Walks_advance_11 rfl (Nat.le_of_ble_eq_true rfl) rfl ?_
    refine r_iconst (v := 0) hg d_Walks_advance_12 (by decide) ?_
    refine r_istore (l' := [(5, .int 0), (3, .long 0), (0, .ref 122), (1, .ref a1), (2, .int v2)]) hg d_Walks_advance_13 (Nat.le_of_ble_eq_true rfl) rfl ?_
    refine r_sub [2, 3, 4, 1, 0] rfl ?_
    exact t_Walks_advance_L15 hg hA (f_Walks_advance_J49 rec_) (t_Walks_advance_J49 hg hA rec_ hrec_) h_fuel a1 h_a1 v2 0 0 μ
theorem t_Walks_advance_L2 {cx : HCx} (hg : HGood cx R_Walks b_Walks_advance 6 2 none) (hA : h_own cx) (K62 : HMem → Option (Unit × HMem)) (hK62 : p_Walks_advance_62 cx K62) : ∀ (fuel : Nat) (a1 : Nat) (h_a1 : HIsG a1) (v2 : Int32) (μ : HMem), HX cx (HQ cx h_eV) (f_Walks_advance_L2 K62 fuel a1 v2 μ) 0 0 2 [(0, .ref 122), (1, .ref a1), (2, .int v2)] [] μ
  | 0, _, _, _, _ => by unfold f_Walks_advance_L2; exact HX.none
  | fuel + 1, a1, h_a1, v2, μ => by
    rw [f_Walks_advance_L2]
    exact t_Walks_advance_L2_b hg hA  K62 hK62 (f_Walks_advance_L2 K62 fuel) (t_Walks_advance_L2 hg hA  K62 hK62 fuel) a1 h_a1 v2 μ
theorem t_Walks_advance_J62 {cx : HCx} (hg : HGood cx R_Walks b_Walks_advance 6 2 none) (hA : h_own cx)    (μ : HMem) : HX cx (HQ cx h_eV) (f_Walks_advance_J62   μ) 0 0 62 [(0, .ref 122)] [] μ := by
  unfold f_Walks_advance_J62
  refine r_aload_n hg 0 d_Walks_advance_62 rfl rfl ?_
  refine r_get (v := .ref 124) hg c_Walks (by decide) rfl (Nat.le_of_ble_eq_true rfl) rfl wf_Walks_15 d_Walks_advance_63 rfl ?_
  refine r_iconst (v := 0) hg d_Walks_advance_66 (by decide) ?_
  refine r_aload_n hg 0 d_Walks_advance_67 rfl rfl ?_
  refine r_get (v := .ref 123) hg c_Walks (by decide) rfl (Nat.le_of_ble_eq_true rfl) rfl wf_Walks_9 d_Walks_advance_68 rfl ?_
  refine r_iconst (v := 0) hg d_Walks_advance_71 (by decide) ?_
  refine r_bipush (v := 8) hg d_Walks_advance_72 (by decide) ?_
  refine r_cpl hg (by decide) rfl (by decide) rfl (h_w4 wm_Walks_38 wn_arraycopy ws_arraycopy wi_System) d_Walks_advance_74 (Nat.le_of_ble_eq_true rfl) (Nat.le_of_ble_eq_true rfl) ?_
  refine r_letM (fun μ_74 => ?_)
  exact r_vret hg hA rfl d_Walks_advance_77 rfl
theorem t_Walks_advance_0 {cx : HCx} (hg : HGood cx R_Walks b_Walks_advance 6 2 none) (hA : h_own cx) (a1 : Nat) (h_a1 : HIsG a1) (μ : HMem) : HX cx (HQ cx h_eV) (f_Walks_advance a1 μ) 0 0 0 [(0, .ref 122), (1, .ref a1)] [] μ := by
  unfold f_Walks_advance
  refine r_iconst (v := 0) hg d_Walks_advance_0 (by decide) ?_
  refine r_istore_n (l' := [(2, .int 0), (0, .ref 122), (1, .ref a1)]) hg d_Walks_advance_1 rfl (Nat.le_of_ble_eq_true rfl) rfl ?_
  refine r_sub [1, 2, 0] rfl ?_
  exact t_Walks_advance_L2 hg hA f_Walks_advance_J62 (t_Walks_advance_J62 hg hA) h_fuel a1 h_a1 0 μ
theorem t_Walks_advance (a1 : Nat) (h_a1 : HIsG a1) (μ : HMem) : HSpec y_Walks_advance b_Walks_advance 6 none 2 h_eV [.ref 122, .ref a1] μ (f_Walks_advance a1 μ) :=
  HSpec.of (by decide +kernel) (v_Walks_advance.1 _ (by simp)) (Nat.le_of_ble_eq_true rfl) (fun cx hA hg => t_Walks_advance_0 hg hA a1 h_a1 μ)
theorem t_Walks_sumFrom_L18_b {cx : HCx} (hg : HGood cx R_Walks b_Walks_sumFrom 8 3 (some .long)) (hA : h_own cx) (K35 : Nat → Int32 → Int32 → HMem → Option (Int64 × HMem)) (hK35 : p_Walks_sumFrom_35 cx K35) (rec_ : Nat → Int32 → Int32 → Int32 → Int32 → HMem → Option (Int64 × HMem)) (hrec_ : p_Walks_sumFrom_18 cx rec_) (a1 : Nat) (h_a1 : HIsG a1) (v2 : Int32) (v3 : Int32) (v4 : Int32) (v5 : Int32) (μ : HMem) : HX cx (HQ cx h_eJ) (f_Walks_sumFrom_L18_b K35 rec_ a1 v2 v3 v4 v5 μ) 0 0 18 [(0, .ref 122), (1, .ref a1), (2, .int v2), (3, .int v3), (4, .int v4), (5, .int v5)] [] μ := by
  unfold f_Walks_sumFrom_L18_b
  refine r_iload hg 5 d_Walks_sumFrom_18 rfl ?_
  refine r_iload_n hg 3 d_Walks_sumFrom_20 rfl rfl ?_
  refine r_icmp_ge (tgt := 35) hg d_Walks_sumFrom_21 (by decide) ?_ ?_
  · refine r_sub [0, 1, 2, 4] rfl ?_
    exact hK35 a1 h_a1 v2 v4 μ
  · refine r_aload_n hg 0 d_Walks_sumFrom_24 rfl rfl ?_
    refine r_aload_n hg 1 d_Walks_sumFrom_25 rfl rfl ?_
    refine r_callV (As := [.ref a1]) hg (t_Walks_advance a1 h_a1 μ) v_Walks_advance c_Walks rfl (by decide) rfl wm_Walks_24 d_Walks_sumFrom_26 rfl ⟨by decide, by decide⟩ (Nat.le_of_ble_eq_true rfl) rfl (fun r26 μ_26 _ => ?_)
    refine r_letE (fun v5_29 he_29 => ?_)
    refine r_iinc (v := v5_29) (l' := [(5, .int v5_29), (0, .ref 122), (1, .ref a1), (2, .int v2), (3, .int v3), (4, .int v4)]) hg 5 d_Walks_sumFrom_29 rfl he_29 (Nat.le_of_ble_eq_true rfl) rfl ?_
    refine r_goto (tgt := 18) hg d_Walks_sumFrom_32 (by decide) ?_
    refine r_sub [1, 2, 3, 4, 5, 0] rfl ?_
    exact hrec_ a1 h_a1 v2 v3 v4 v5_29 μ_26
theorem t_Walks_sumFrom_L18 {cx : HCx} (hg : HGood cx R_Walks b_Walks_sumFrom 8 3 (some .long)) (hA : h_own cx) (K35 : Nat → Int32 → Int32 → HMem → Option (Int64 × HMem)) (hK35 : p_Walks_sumFrom_35 cx K35) : ∀ (fuel : Nat) (a1 : Nat) (h_a1 : HIsG a1) (v2 : Int32) (v3 : Int32) (v4 : Int32) (v5 : Int32) (μ : HMem), HX cx (HQ cx h_eJ) (f_Walks_sumFrom_L18 K35 fuel a1 v2 v3 v4 v5 μ) 0 0 18 [(0, .ref 122), (1, .ref a1), (2, .int v2), (3, .int v3), (4, .int v4), (5, .int v5)] [] μ
  | 0, _, _, _, _, _, _, _ => by unfold f_Walks_sumFrom_L18; exact HX.none
  | fuel + 1, a1, h_a1, v2, v3, v4, v5, μ => by
    rw [f_Walks_sumFrom_L18]
    exact t_Walks_sumFrom_L18_b hg hA  K35 hK35 (f_Walks_sumFrom_L18 K35 fuel) (t_Walks_sumFrom_L18 hg hA  K35 hK35 fuel) a1 h_a1 v2 v3 v4 v5 μ
theorem t_Walks_sumFrom_J74 {cx : HCx} (hg : HGood cx R_Walks b_Walks_sumFrom 8 3 (some .long)) (hA : h_own cx)  (rec_ : Nat → Int32 → Int32 → Int64 → Int32 → HMem → Option (Int64 × HMem)) (hrec_ : p_Walks_sumFrom_41 cx rec_) (a1 : Nat) (h_a1 : HIsG a1) (v2 : Int32) (v4 : Int32) (v7 : Int32) (s0 : Int64) (s1 : Int64) (μ : HMem) : HX cx (HQ cx h_eJ) (f_Walks_sumFrom_J74  rec_ a1 v2 v4 v7 s0 s1 μ) 0 0 74 [(0, .ref 122), (1, .ref a1), (2, .int v2), (4, .int v4), (7, .int v7)] [.long s0, .long s1] μ := by
  unfold f_Walks_sumFrom_J74
  refine r_ladd hg d_Walks_sumFrom_74 ?_
  refine r_letJ (fun v5_75 => ?_)
  refine r_lstore (l' := [(5, .long v5_75), (0, .ref 122), (1, .ref a1), (2, .int v2), (4, .int v4), (7, .int v7)]) hg d_Walks_sumFrom_75 (Nat.le_of_ble_eq_true rfl) rfl ?_
  refine r_letE (fun v7_77 he_77 => ?_)
  refine r_iinc (v := v7_77) (l' := [(7, .int v7_77), (5, .long v5_75), (0, .ref 122), (1, .ref a1), (2, .int v2), (4, .int v4)]) hg 5 d_Walks_sumFrom_77 rfl he_77 (Nat.le_of_ble_eq_true rfl) rfl ?_
  refine r_goto (tgt := 41) hg d_Walks_sumFrom_80 (by decide) ?_
  refine r_sub [2, 3, 4, 5, 1, 0] rfl ?_
  exact hrec_ a1 h_a1 v2 v4 v5_75 v7_77 μ
theorem t_Walks_sumFrom_J67 {cx : HCx} (hg : HGood cx R_Walks b_Walks_sumFrom 8 3 (some .long)) (hA : h_own cx)  (rec_ : Nat → Int32 → Int32 → Int64 → Int32 → HMem → Option (Int64 × HMem)) (hrec_ : p_Walks_sumFrom_41 cx rec_) (a1 : Nat) (h_a1 : HIsG a1) (v2 : Int32) (v4 : Int32) (v7 : Int32) (s0 : Int64) (μ : HMem) : HX cx (HQ cx h_eJ) (f_Walks_sumFrom_J67  rec_ a1 v2 v4 v7 s0 μ) 0 0 67 [(0, .ref 122), (1, .ref a1), (2, .int v2), (4, .int v4), (7, .int v7)] [.long s0] μ := by
  unfold f_Walks_sumFrom_J67
  refine r_aload_n hg 0 d_Walks_sumFrom_67 rfl rfl ?_
  refine r_get (v := .ref 123) hg c_Walks (by decide) rfl (Nat.le_of_ble_eq_true rfl) rfl wf_Walks_9 d_Walks_sumFrom_68 rfl ?_
  refine r_iload hg 4 d_Walks_sumFrom_71 rfl ?_
  refine r_lald hg (by decide) rfl d_Walks_sumFrom_73 ?_
  exact t_Walks_sumFrom_J74 hg hA rec_ hrec_ a1 h_a1 v2 v4 v7 (μ.2 123 (Int32.toNatClampNeg (v7))) s0 μ
theorem t_Walks_sumFrom_L41_b {cx : HCx} (hg : HGood cx R_Walks b_Walks_sumFrom 8 3 (some .long)) (hA : h_own cx)  (rec_ : Nat → Int32 → Int32 → Int64 → Int32 → HMem → Option (Int64 × HMem)) (hrec_ : p_Walks_sumFrom_41 cx rec_) (a1 : Nat) (h_a1 : HIsG a1) (v2 : Int32) (v4 : Int32) (v5 : Int64) (v7 : Int32) (μ : HMem) : HX cx (HQ cx h_eJ) (f_Walks_sumFrom_L41_b  rec_ a1 v2 v4 v5 v7 μ) 0 0 41 [(0, .ref 122), (1, .ref a1), (2, .int v2), (4, .int v4), (5, .long v5), (7, .int v7)] [] μ := by
  unfold f_Walks_sumFrom_L41_b
  refine r_iload hg 5 d_Walks_sumFrom_41 rfl ?_
  refine r_aload_n hg 1 d_Walks_sumFrom_43 rfl rfl ?_
  refine r_get (v := .int (μ.1 a1 0)) hg c_Graph (h_G_lt h_a1) (h_G_kd h_a1) (Nat.le_of_ble_eq_true rfl) (h_G_fl0 h_a1) wf_Walks_28 d_Walks_sumFrom_44 rfl ?_
  refine r_icmp_ge (tgt := 83) hg d_Walks_sumFrom_47 (by decide) ?_ ?_
  · refine r_lload hg 4 d_Walks_sumFrom_83 rfl ?_
    exact r_lret hg hA rfl d_Walks_sumFrom_85 rfl
  · refine r_lload hg 4 d_Walks_sumFrom_50 rfl ?_
    refine r_iload hg 3 d_Walks_sumFrom_52 rfl ?_
    refine r_if_eq (tgt := 67) hg d_Walks_sumFrom_54 (by decide) ?_ ?_
    · refine r_sub [0, 1, 2, 3, 5] rfl ?_
      exact t_Walks_sumFrom_J67 hg hA rec_ hrec_ a1 h_a1 v2 v4 v7 v5 μ
    · refine r_iload hg 5 d_Walks_sumFrom_57 rfl ?_
      refine r_iload_n hg 2 d_Walks_sumFrom_59 rfl rfl ?_
      refine r_icmp_eq (tgt := 67) hg d_Walks_sumFrom_60 (by decide) ?_ ?_
      · refine r_sub [0, 1, 2, 3, 5] rfl ?_
        exact t_Walks_sumFrom_J67 hg hA rec_ hrec_ a1 h_a1 v2 v4 v7 v5 μ
      · refine r_lconst (v := 0) hg d_Walks_sumFrom_63 (by decide) ?_
        refine r_goto (tgt := 74) hg d_Walks_sumFrom_64 (by decide) ?_
        refine r_sub [0, 1, 2, 3, 5] rfl ?_
        exact t_Walks_sumFrom_J74 hg hA rec_ hrec_ a1 h_a1 v2 v4 v7 0 v5 μ
theorem t_Walks_sumFrom_L41 {cx : HCx} (hg : HGood cx R_Walks b_Walks_sumFrom 8 3 (some .long)) (hA : h_own cx)  : ∀ (fuel : Nat) (a1 : Nat) (h_a1 : HIsG a1) (v2 : Int32) (v4 : Int32) (v5 : Int64) (v7 : Int32) (μ : HMem), HX cx (HQ cx h_eJ) (f_Walks_sumFrom_L41  fuel a1 v2 v4 v5 v7 μ) 0 0 41 [(0, .ref 122), (1, .ref a1), (2, .int v2), (4, .int v4), (5, .long v5), (7, .int v7)] [] μ
  | 0, _, _, _, _, _, _, _ => by unfold f_Walks_sumFrom_L41; exact HX.none
  | fuel + 1, a1, h_a1, v2, v4, v5, v7, μ => by
    rw [f_Walks_sumFrom_L41]
    exact t_Walks_sumFrom_L41_b hg hA   (f_Walks_sumFrom_L41  fuel) (t_Walks_sumFrom_L41 hg hA   fuel) a1 h_a1 v2 v4 v5 v7 μ
theorem t_Walks_sumFrom_J35 {cx : HCx} (hg : HGood cx R_Walks b_Walks_sumFrom 8 3 (some .long)) (hA : h_own cx)   (a1 : Nat) (h_a1 : HIsG a1) (v2 : Int32) (v4 : Int32) (μ : HMem) : HX cx (HQ cx h_eJ) (f_Walks_sumFrom_J35   a1 v2 v4 μ) 0 0 35 [(0, .ref 122), (1, .ref a1), (2, .int v2), (4, .int v4)] [] μ := by
  unfold f_Walks_sumFrom_J35
  refine r_lconst (v := 0) hg d_Walks_sumFrom_35 (by decide) ?_
  refine r_lstore (l' := [(5, .long 0), (0, .ref 122), (1, .ref a1), (2, .int v2), (4, .int v4)]) hg d_Walks_sumFrom_36 (Nat.le_of_ble_eq_true rfl) rfl ?_
  refine r_iconst (v := 0) hg d_Walks_sumFrom_38 (by decide) ?_
  refine r_istore (l' := [(7, .int 0), (5, .long 0), (0, .ref 122), (1, .ref a1), (2, .int v2), (4, .int v4)]) hg d_Walks_sumFrom_39 (Nat.le_of_ble_eq_true rfl) rfl ?_
  refine r_sub [2, 3, 4, 5, 1, 0] rfl ?_
  exact t_Walks_sumFrom_L41 hg hA h_fuel a1 h_a1 v2 v4 0 0 μ
theorem t_Walks_sumFrom_0 {cx : HCx} (hg : HGood cx R_Walks b_Walks_sumFrom 8 3 (some .long)) (hA : h_own cx) (a1 : Nat) (h_a1 : HIsG a1) (v2 : Int32) (v3 : Int32) (v4 : Int32) (μ : HMem) : HX cx (HQ cx h_eJ) (f_Walks_sumFrom a1 v2 v3 v4 μ) 0 0 0 [(0, .ref 122), (1, .ref a1), (2, .int v2), (3, .int v3), (4, .int v4)] [] μ := by
  unfold f_Walks_sumFrom
  refine r_aload_n hg 0 d_Walks_sumFrom_0 rfl rfl ?_
  refine r_get (v := .ref 123) hg c_Walks (by decide) rfl (Nat.le_of_ble_eq_true rfl) rfl wf_Walks_9 d_Walks_sumFrom_1 rfl ?_
  refine r_lconst (v := 0) hg d_Walks_sumFrom_4 (by decide) ?_
  refine r_callS (As := [.ref 123, .long 0]) hg (t_Arrays_fill2 123 ⟨(by decide), rfl⟩ 0 μ) v_Arrays_fill2 wm_Walks_18 d_Walks_sumFrom_5 rfl ⟨by decide, by decide⟩ (Nat.le_of_ble_eq_true rfl) rfl (fun r5 μ_5 _ => ?_)
  refine r_aload_n hg 0 d_Walks_sumFrom_8 rfl rfl ?_
  refine r_get (v := .ref 123) hg c_Walks (by decide) rfl (Nat.le_of_ble_eq_true rfl) rfl wf_Walks_9 d_Walks_sumFrom_9 rfl ?_
  refine r_iload_n hg 2 d_Walks_sumFrom_12 rfl rfl ?_
  refine r_lconst (v := 1) hg d_Walks_sumFrom_13 (by decide) ?_
  refine r_last hg (by decide) rfl d_Walks_sumFrom_14 ?_
  refine r_letM (fun μ_14 => ?_)
  refine r_iconst (v := 0) hg d_Walks_sumFrom_15 (by decide) ?_
  refine r_istore (l' := [(5, .int 0), (0, .ref 122), (1, .ref a1), (2, .int v2), (3, .int v3), (4, .int v4)]) hg d_Walks_sumFrom_16 (Nat.le_of_ble_eq_true rfl) rfl ?_
  refine r_sub [1, 2, 3, 4, 5, 0] rfl ?_
  exact t_Walks_sumFrom_L18 hg hA f_Walks_sumFrom_J35 (t_Walks_sumFrom_J35 hg hA) h_fuel a1 h_a1 v2 v3 v4 0 μ_14
theorem t_Walks_sumFrom (a1 : Nat) (h_a1 : HIsG a1) (v2 : Int32) (v3 : Int32) (v4 : Int32) (μ : HMem) : HSpec y_Walks_sumFrom b_Walks_sumFrom 8 (some .long) 3 h_eJ [.ref 122, .ref a1, .int v2, .int v3, .int v4] μ (f_Walks_sumFrom a1 v2 v3 v4 μ) :=
  HSpec.of (by decide +kernel) (v_Walks_sumFrom.1 _ (by simp)) (Nat.le_of_ble_eq_true rfl) (fun cx hA hg => t_Walks_sumFrom_0 hg hA a1 h_a1 v2 v3 v4 μ)
