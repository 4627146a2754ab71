/-! pure programs and their proofs: model3 (written by gen.py) -/
def y_Model_greedy : MethodName := ⟨R_Model, "greedy", "(II)I"⟩
abbrev b_Model_greedy : ByteArray := prog_12_method_43_code
theorem v_Model_greedy : HVirt y_Model_greedy b_Model_greedy 3 (some .int) 2 := ⟨List.forall_mem_cons.mpr ⟨h_inI 1396 (by decide +kernel) rfl, List.forall_mem_cons.mpr ⟨h_inI 1397 (by decide +kernel) rfl, List.forall_mem_cons.mpr ⟨h_inI 110 (by decide +kernel) rfl, List.forall_mem_cons.mpr ⟨h_inI 1398 (by decide +kernel) rfl, fun _ h => absurd h List.not_mem_nil⟩⟩⟩⟩, by decide, by decide, by decide +kernel⟩
def y_Model_isOrder : MethodName := ⟨R_Model, "isOrder", "(II)Z"⟩
abbrev b_Model_isOrder : ByteArray := prog_12_method_44_code
theorem v_Model_isOrder : HVirt y_Model_isOrder b_Model_isOrder 6 (some .boolean) 2 := ⟨List.forall_mem_cons.mpr ⟨h_inI 1417 (by decide +kernel) rfl, List.forall_mem_cons.mpr ⟨h_inI 66 (by decide +kernel) rfl, List.forall_mem_cons.mpr ⟨h_inI 110 (by decide +kernel) rfl, List.forall_mem_cons.mpr ⟨h_inI 1418 (by decide +kernel) rfl, fun _ h => absurd h List.not_mem_nil⟩⟩⟩⟩, by decide, by decide, by decide +kernel⟩
def y_Model_width : MethodName := ⟨R_Model, "width", "(IIZ)I"⟩
abbrev b_Model_width : ByteArray := prog_12_method_45_code
theorem v_Model_width : HVirt y_Model_width b_Model_width 4 (some .int) 3 := ⟨List.forall_mem_cons.mpr ⟨h_inI 1412 (by decide +kernel) rfl, List.forall_mem_cons.mpr ⟨h_inI 1413 (by decide +kernel) rfl, List.forall_mem_cons.mpr ⟨h_inI 110 (by decide +kernel) rfl, List.forall_mem_cons.mpr ⟨h_inI 1414 (by decide +kernel) rfl, fun _ h => absurd h List.not_mem_nil⟩⟩⟩⟩, by decide, by decide, by decide +kernel⟩
def y_Model_comes : MethodName := ⟨R_Model, "comes", "(III)I"⟩
abbrev b_Model_comes : ByteArray := prog_12_method_46_code
theorem v_Model_comes : HVirt y_Model_comes b_Model_comes 7 (some .int) 3 := ⟨List.forall_mem_cons.mpr ⟨h_inI 1429 (by decide +kernel) rfl, List.forall_mem_cons.mpr ⟨h_inI 68 (by decide +kernel) rfl, List.forall_mem_cons.mpr ⟨h_inI 110 (by decide +kernel) rfl, List.forall_mem_cons.mpr ⟨h_inI 1430 (by decide +kernel) rfl, fun _ h => absurd h List.not_mem_nil⟩⟩⟩⟩, by decide, by decide, by decide +kernel⟩
def y_Model_treewidthOf : MethodName := ⟨R_Model, "treewidthOf", "(I)I"⟩
abbrev b_Model_treewidthOf : ByteArray := prog_12_method_47_code
theorem v_Model_treewidthOf : HVirt y_Model_treewidthOf b_Model_treewidthOf 7 (some .int) 1 := ⟨List.forall_mem_cons.mpr ⟨h_inI 1425 (by decide +kernel) rfl, List.forall_mem_cons.mpr ⟨h_inI 67 (by decide +kernel) rfl, List.forall_mem_cons.mpr ⟨h_inI 110 (by decide +kernel) rfl, List.forall_mem_cons.mpr ⟨h_inI 1426 (by decide +kernel) rfl, fun _ h => absurd h List.not_mem_nil⟩⟩⟩⟩, by decide, by decide, by decide +kernel⟩
def y_Model_treewidth : MethodName := ⟨R_Model, "treewidth", "(I)I"⟩
abbrev b_Model_treewidth : ByteArray := prog_12_method_48_code
theorem v_Model_treewidth : HVirt y_Model_treewidth b_Model_treewidth 2 (some .int) 1 := ⟨List.forall_mem_cons.mpr ⟨h_inI 1420 (by decide +kernel) rfl, List.forall_mem_cons.mpr ⟨h_inI 1421 (by decide +kernel) rfl, List.forall_mem_cons.mpr ⟨h_inI 110 (by decide +kernel) rfl, List.forall_mem_cons.mpr ⟨h_inI 1422 (by decide +kernel) rfl, fun _ h => absurd h List.not_mem_nil⟩⟩⟩⟩, by decide, by decide, by decide +kernel⟩
def y_Model_bag : MethodName := ⟨R_Model, "bag", "(II)I"⟩
abbrev b_Model_bag : ByteArray := prog_12_method_49_code
theorem v_Model_bag : HVirt y_Model_bag b_Model_bag 3 (some .int) 2 := ⟨List.forall_mem_cons.mpr ⟨h_inI 1432 (by decide +kernel) rfl, List.forall_mem_cons.mpr ⟨h_inI 1433 (by decide +kernel) rfl, List.forall_mem_cons.mpr ⟨h_inI 110 (by decide +kernel) rfl, List.forall_mem_cons.mpr ⟨h_inI 1434 (by decide +kernel) rfl, fun _ h => absurd h List.not_mem_nil⟩⟩⟩⟩, by decide, by decide, by decide +kernel⟩
def y_Model_fits : MethodName := ⟨R_Model, "fits", "(III)Z"⟩
abbrev b_Model_fits : ByteArray := prog_12_method_50_code
theorem v_Model_fits : HVirt y_Model_fits b_Model_fits 6 (some .boolean) 3 := ⟨List.forall_mem_cons.mpr ⟨h_inI 1449 (by decide +kernel) rfl, List.forall_mem_cons.mpr ⟨h_inI 71 (by decide +kernel) rfl, List.forall_mem_cons.mpr ⟨h_inI 110 (by decide +kernel) rfl, List.forall_mem_cons.mpr ⟨h_inI 1450 (by decide +kernel) rfl, fun _ h => absurd h List.not_mem_nil⟩⟩⟩⟩, by decide, by decide, by decide +kernel⟩
def y_Model_finds : MethodName := ⟨R_Model, "finds", "(III)Z"⟩
abbrev b_Model_finds : ByteArray := prog_12_method_51_code
theorem v_Model_finds : HVirt y_Model_finds b_Model_finds 6 (some .boolean) 3 := ⟨List.forall_mem_cons.mpr ⟨h_inI 1445 (by decide +kernel) rfl, List.forall_mem_cons.mpr ⟨h_inI 70 (by decide +kernel) rfl, List.forall_mem_cons.mpr ⟨h_inI 110 (by decide +kernel) rfl, List.forall_mem_cons.mpr ⟨h_inI 1446 (by decide +kernel) rfl, fun _ h => absurd h List.not_mem_nil⟩⟩⟩⟩, by decide, by decide, by decide +kernel⟩
def y_Model_firstImage : MethodName := ⟨R_Model, "firstImage", "(III)I"⟩
abbrev b_Model_firstImage : ByteArray := prog_12_method_59_code
theorem v_Model_firstImage : HVirt y_Model_firstImage b_Model_firstImage 5 (some .int) 3 := ⟨List.forall_mem_cons.mpr ⟨h_inI 1493 (by decide +kernel) rfl, List.forall_mem_cons.mpr ⟨h_inI 78 (by decide +kernel) rfl, List.forall_mem_cons.mpr ⟨h_inI 110 (by decide +kernel) rfl, List.forall_mem_cons.mpr ⟨h_inI 1494 (by decide +kernel) rfl, fun _ h => absurd h List.not_mem_nil⟩⟩⟩⟩, by decide, by decide, by decide +kernel⟩
def y_Model_valueOf : MethodName := ⟨R_Model, "valueOf", "(II)J"⟩
abbrev b_Model_valueOf : ByteArray := prog_12_method_60_code
theorem v_Model_valueOf : HVirt y_Model_valueOf b_Model_valueOf 7 (some .long) 2 := ⟨List.forall_mem_cons.mpr ⟨h_inI 1465 (by decide +kernel) rfl, List.forall_mem_cons.mpr ⟨h_inI 75 (by decide +kernel) rfl, List.forall_mem_cons.mpr ⟨h_inI 110 (by decide +kernel) rfl, List.forall_mem_cons.mpr ⟨h_inI 1466 (by decide +kernel) rfl, fun _ h => absurd h List.not_mem_nil⟩⟩⟩⟩, by decide, by decide, by decide +kernel⟩
def y_Model_images : MethodName := ⟨R_Model, "images", "(I)I"⟩
abbrev b_Model_images : ByteArray := prog_12_method_61_code
theorem v_Model_images : HVirt y_Model_images b_Model_images 4 (some .int) 1 := ⟨List.forall_mem_cons.mpr ⟨h_inI 1457 (by decide +kernel) rfl, List.forall_mem_cons.mpr ⟨h_inI 73 (by decide +kernel) rfl, List.forall_mem_cons.mpr ⟨h_inI 110 (by decide +kernel) rfl, List.forall_mem_cons.mpr ⟨h_inI 1458 (by decide +kernel) rfl, fun _ h => absurd h List.not_mem_nil⟩⟩⟩⟩, by decide, by decide, by decide +kernel⟩
def y_Model_keepsEdges : MethodName := ⟨R_Model, "keepsEdges", "(I)Z"⟩
abbrev b_Model_keepsEdges : ByteArray := prog_12_method_62_code
theorem v_Model_keepsEdges : HVirt y_Model_keepsEdges b_Model_keepsEdges 7 (some .boolean) 1 := ⟨List.forall_mem_cons.mpr ⟨h_inI 1461 (by decide +kernel) rfl, List.forall_mem_cons.mpr ⟨h_inI 74 (by decide +kernel) rfl, List.forall_mem_cons.mpr ⟨h_inI 110 (by decide +kernel) rfl, List.forall_mem_cons.mpr ⟨h_inI 1462 (by decide +kernel) rfl, fun _ h => absurd h List.not_mem_nil⟩⟩⟩⟩, by decide, by decide, by decide +kernel⟩
def y_Model_isCounted : MethodName := ⟨R_Model, "isCounted", "(III)Z"⟩
abbrev b_Model_isCounted : ByteArray := prog_12_method_63_code
theorem v_Model_isCounted : HVirt y_Model_isCounted b_Model_isCounted 4 (some .boolean) 3 := ⟨List.forall_mem_cons.mpr ⟨h_inI 1453 (by decide +kernel) rfl, List.forall_mem_cons.mpr ⟨h_inI 72 (by decide +kernel) rfl, List.forall_mem_cons.mpr ⟨h_inI 110 (by decide +kernel) rfl, List.forall_mem_cons.mpr ⟨h_inI 1454 (by decide +kernel) rfl, fun _ h => absurd h List.not_mem_nil⟩⟩⟩⟩, by decide, by decide, by decide +kernel⟩
def y_Model_countOf : MethodName := ⟨R_Model, "countOf", "(III)J"⟩
abbrev b_Model_countOf : ByteArray := prog_12_method_64_code
theorem v_Model_countOf : HVirt y_Model_countOf b_Model_countOf 8 (some .long) 3 := ⟨List.forall_mem_cons.mpr ⟨h_inI 1441 (by decide +kernel) rfl, List.forall_mem_cons.mpr ⟨h_inI 69 (by decide +kernel) rfl, List.forall_mem_cons.mpr ⟨h_inI 110 (by decide +kernel) rfl, List.forall_mem_cons.mpr ⟨h_inI 1442 (by decide +kernel) rfl, fun _ h => absurd h List.not_mem_nil⟩⟩⟩⟩, by decide, by decide, by decide +kernel⟩
def y_Model_count : MethodName := ⟨R_Model, "count", "(III)J"⟩
abbrev b_Model_count : ByteArray := prog_12_method_65_code
theorem v_Model_count : HVirt y_Model_count b_Model_count 4 (some .long) 3 := ⟨List.forall_mem_cons.mpr ⟨h_inI 1436 (by decide +kernel) rfl, List.forall_mem_cons.mpr ⟨h_inI 1437 (by decide +kernel) rfl, List.forall_mem_cons.mpr ⟨h_inI 110 (by decide +kernel) rfl, List.forall_mem_cons.mpr ⟨h_inI 1438 (by decide +kernel) rfl, fun _ h => absurd h List.not_mem_nil⟩⟩⟩⟩, by decide, by decide, by decide +kernel⟩
def y_Model_density : MethodName := ⟨R_Model, "density", "(III)J"⟩
abbrev b_Model_density : ByteArray := prog_12_method_66_code
theorem v_Model_density : HVirt y_Model_density b_Model_density 14 (some .long) 3 := ⟨List.forall_mem_cons.mpr ⟨h_inI 1468 (by decide +kernel) rfl, List.forall_mem_cons.mpr ⟨h_inI 1469 (by decide +kernel) rfl, List.forall_mem_cons.mpr ⟨h_inI 110 (by decide +kernel) rfl, List.forall_mem_cons.mpr ⟨h_inI 1470 (by decide +kernel) rfl, fun _ h => absurd h List.not_mem_nil⟩⟩⟩⟩, by decide, by decide, by decide +kernel⟩
def y_Model_isLike : MethodName := ⟨R_Model, "isLike", "(III)Z"⟩
abbrev b_Model_isLike : ByteArray := prog_12_method_67_code
theorem v_Model_isLike : HVirt y_Model_isLike b_Model_isLike 6 (some .boolean) 3 := ⟨List.forall_mem_cons.mpr ⟨h_inI 1481 (by decide +kernel) rfl, List.forall_mem_cons.mpr ⟨h_inI 77 (by decide +kernel) rfl, List.forall_mem_cons.mpr ⟨h_inI 110 (by decide +kernel) rfl, List.forall_mem_cons.mpr ⟨h_inI 1482 (by decide +kernel) rfl, fun _ h => absurd h List.not_mem_nil⟩⟩⟩⟩, by decide, by decide, by decide +kernel⟩
theorem wm_Model_189 : Cond.methodLink R_Model 189 y_Model_eliminates ∈ h_tb := h_inI 1399 (by decide +kernel) rfl
theorem wm_Model_193 : Cond.methodLink R_Model 193 y_Model_isOrder ∈ h_tb := h_inI 1415 (by decide +kernel) rfl
theorem wf_Model_28 : Cond.fieldLink R_Model 28 (F_Model 11).1 (F_Model 11).2.1 (F_Model 11).2.2.1 ∈ h_tb := h_inI 1138 (by decide +kernel) rfl
theorem wm_Model_196 : Cond.methodLink R_Model 196 y_Model_comes ∈ h_tb := h_inI 1427 (by decide +kernel) rfl
theorem wm_Model_199 : Cond.methodLink R_Model 199 y_Model_treewidthOf ∈ h_tb := h_inI 1423 (by decide +kernel) rfl
theorem wm_Model_202 : Cond.methodLink R_Model 202 y_Model_fits ∈ h_tb := h_inI 1447 (by decide +kernel) rfl
theorem wf_Model_43 : Cond.fieldLink R_Model 43 (F_Model 16).1 (F_Model 16).2.1 (F_Model 16).2.2.1 ∈ h_tb := h_inI 1143 (by decide +kernel) rfl
theorem wm_Model_227 : Cond.methodLink R_Model 227 y_Model_images ∈ h_tb := h_inI 1455 (by decide +kernel) rfl
theorem wm_Model_230 : Cond.methodLink R_Model 230 y_Model_keepsEdges ∈ h_tb := h_inI 1459 (by decide +kernel) rfl
theorem wm_Model_233 : Cond.methodLink R_Model 233 y_Model_finds ∈ h_tb := h_inI 1443 (by decide +kernel) rfl
theorem wm_Model_236 : Cond.methodLink R_Model 236 y_Model_isCounted ∈ h_tb := h_inI 1451 (by decide +kernel) rfl
theorem wm_Model_239 : Cond.methodLink R_Model 239 y_Model_valueOf ∈ h_tb := h_inI 1463 (by decide +kernel) rfl
theorem wm_Model_243 : Cond.methodLink R_Model 243 y_Model_countOf ∈ h_tb := h_inI 1439 (by decide +kernel) rfl
theorem d_Model_greedy_0 : decode b_Model_greedy 0 = .ok (.aload_n 0, 1) := by decide +kernel
theorem d_Model_greedy_1 : decode b_Model_greedy 1 = .ok (.iload_n 1, 1) := by decide +kernel
theorem d_Model_greedy_2 : decode b_Model_greedy 2 = .ok (.iload_n 2, 1) := by decide +kernel
theorem d_Model_greedy_3 : decode b_Model_greedy 3 = .ok (.invokevirtual 103, 3) := by decide +kernel
theorem d_Model_greedy_6 : decode b_Model_greedy 6 = .ok (.ifCond .ne 9, 3) := by decide +kernel
theorem d_Model_greedy_9 : decode b_Model_greedy 9 = .ok (.aload_n 0, 1) := by decide +kernel
theorem d_Model_greedy_10 : decode b_Model_greedy 10 = .ok (.iconst 1, 1) := by decide +kernel
theorem d_Model_greedy_11 : decode b_Model_greedy 11 = .ok (.invokevirtual 93, 3) := by decide +kernel
theorem d_Model_greedy_14 : decode b_Model_greedy 14 = .ok (.ireturn, 1) := by decide +kernel
theorem d_Model_greedy_15 : decode b_Model_greedy 15 = .ok (.aload_n 0, 1) := by decide +kernel
theorem d_Model_greedy_16 : decode b_Model_greedy 16 = .ok (.iload_n 1, 1) := by decide +kernel
theorem d_Model_greedy_17 : decode b_Model_greedy 17 = .ok (.iconst 1, 1) := by decide +kernel
theorem d_Model_greedy_18 : decode b_Model_greedy 18 = .ok (.invokevirtual 189, 3) := by decide +kernel
theorem d_Model_greedy_21 : decode b_Model_greedy 21 = .ok (.aload_n 0, 1) := by decide +kernel
theorem d_Model_greedy_22 : decode b_Model_greedy 22 = .ok (.aload_n 0, 1) := by decide +kernel
theorem d_Model_greedy_23 : decode b_Model_greedy 23 = .ok (.getfield 22, 3) := by decide +kernel
theorem d_Model_greedy_26 : decode b_Model_greedy 26 = .ok (.iload_n 2, 1) := by decide +kernel
theorem d_Model_greedy_27 : decode b_Model_greedy 27 = .ok (.iaload, 1) := by decide +kernel
theorem d_Model_greedy_28 : decode b_Model_greedy 28 = .ok (.invokevirtual 171, 3) := by decide +kernel
theorem d_Model_greedy_31 : decode b_Model_greedy 31 = .ok (.ireturn, 1) := by decide +kernel
theorem d_Model_isOrder_0 : decode b_Model_isOrder 0 = .ok (.iload_n 2, 1) := by decide +kernel
theorem d_Model_isOrder_1 : decode b_Model_isOrder 1 = .ok (.istore_n 3, 1) := by decide +kernel
theorem d_Model_isOrder_2 : decode b_Model_isOrder 2 = .ok (.iconst 0, 1) := by decide +kernel
theorem d_Model_isOrder_3 : decode b_Model_isOrder 3 = .ok (.istore 4, 2) := by decide +kernel
theorem d_Model_isOrder_5 : decode b_Model_isOrder 5 = .ok (.aload_n 0, 1) := by decide +kernel
theorem d_Model_isOrder_6 : decode b_Model_isOrder 6 = .ok (.iload_n 1, 1) := by decide +kernel
theorem d_Model_isOrder_7 : decode b_Model_isOrder 7 = .ok (.invokevirtual 75, 3) := by decide +kernel
theorem d_Model_isOrder_10 : decode b_Model_isOrder 10 = .ok (.iconst 1, 1) := by decide +kernel
theorem d_Model_isOrder_11 : decode b_Model_isOrder 11 = .ok (.isub, 1) := by decide +kernel
theorem d_Model_isOrder_12 : decode b_Model_isOrder 12 = .ok (.istore 5, 2) := by decide +kernel
theorem d_Model_isOrder_14 : decode b_Model_isOrder 14 = .ok (.iload 5, 2) := by decide +kernel
theorem d_Model_isOrder_16 : decode b_Model_isOrder 16 = .ok (.ifCond .lt 66, 3) := by decide +kernel
theorem d_Model_isOrder_19 : decode b_Model_isOrder 19 = .ok (.aload_n 0, 1) := by decide +kernel
theorem d_Model_isOrder_20 : decode b_Model_isOrder 20 = .ok (.getfield 22, 3) := by decide +kernel
theorem d_Model_isOrder_23 : decode b_Model_isOrder 23 = .ok (.iload 5, 2) := by decide +kernel
theorem d_Model_isOrder_25 : decode b_Model_isOrder 25 = .ok (.iload_n 3, 1) := by decide +kernel
theorem d_Model_isOrder_26 : decode b_Model_isOrder 26 = .ok (.bipush 10, 2) := by decide +kernel
theorem d_Model_isOrder_28 : decode b_Model_isOrder 28 = .ok (.irem, 1) := by decide +kernel
theorem d_Model_isOrder_29 : decode b_Model_isOrder 29 = .ok (.iconst 1, 1) := by decide +kernel
theorem d_Model_isOrder_30 : decode b_Model_isOrder 30 = .ok (.isub, 1) := by decide +kernel
theorem d_Model_isOrder_31 : decode b_Model_isOrder 31 = .ok (.iastore, 1) := by decide +kernel
theorem d_Model_isOrder_32 : decode b_Model_isOrder 32 = .ok (.iload 4, 2) := by decide +kernel
theorem d_Model_isOrder_34 : decode b_Model_isOrder 34 = .ok (.aload_n 0, 1) := by decide +kernel
theorem d_Model_isOrder_35 : decode b_Model_isOrder 35 = .ok (.getfield 22, 3) := by decide +kernel
theorem d_Model_isOrder_38 : decode b_Model_isOrder 38 = .ok (.iload 5, 2) := by decide +kernel
theorem d_Model_isOrder_40 : decode b_Model_isOrder 40 = .ok (.iaload, 1) := by decide +kernel
theorem d_Model_isOrder_41 : decode b_Model_isOrder 41 = .ok (.iconst 0, 1) := by decide +kernel
theorem d_Model_isOrder_42 : decode b_Model_isOrder 42 = .ok (.aload_n 0, 1) := by decide +kernel
theorem d_Model_isOrder_43 : decode b_Model_isOrder 43 = .ok (.iload_n 1, 1) := by decide +kernel
theorem d_Model_isOrder_44 : decode b_Model_isOrder 44 = .ok (.invokevirtual 75, 3) := by decide +kernel
theorem d_Model_isOrder_47 : decode b_Model_isOrder 47 = .ok (.iconst 1, 1) := by decide +kernel
theorem d_Model_isOrder_48 : decode b_Model_isOrder 48 = .ok (.isub, 1) := by decide +kernel
theorem d_Model_isOrder_49 : decode b_Model_isOrder 49 = .ok (.invokestatic 67, 3) := by decide +kernel
theorem d_Model_isOrder_52 : decode b_Model_isOrder 52 = .ok (.ifCond .eq 15, 3) := by decide +kernel
theorem d_Model_isOrder_55 : decode b_Model_isOrder 55 = .ok (.iconst 1, 1) := by decide +kernel
theorem d_Model_isOrder_56 : decode b_Model_isOrder 56 = .ok (.aload_n 0, 1) := by decide +kernel
theorem d_Model_isOrder_57 : decode b_Model_isOrder 57 = .ok (.getfield 22, 3) := by decide +kernel
theorem d_Model_isOrder_60 : decode b_Model_isOrder 60 = .ok (.iload 5, 2) := by decide +kernel
theorem d_Model_isOrder_62 : decode b_Model_isOrder 62 = .ok (.iaload, 1) := by decide +kernel
theorem d_Model_isOrder_63 : decode b_Model_isOrder 63 = .ok (.ishl, 1) := by decide +kernel
theorem d_Model_isOrder_64 : decode b_Model_isOrder 64 = .ok (.goto 4, 3) := by decide +kernel
theorem d_Model_isOrder_67 : decode b_Model_isOrder 67 = .ok (.iconst 0, 1) := by decide +kernel
theorem d_Model_isOrder_68 : decode b_Model_isOrder 68 = .ok (.ior, 1) := by decide +kernel
theorem d_Model_isOrder_69 : decode b_Model_isOrder 69 = .ok (.istore 4, 2) := by decide +kernel
theorem d_Model_isOrder_71 : decode b_Model_isOrder 71 = .ok (.iload_n 3, 1) := by decide +kernel
theorem d_Model_isOrder_72 : decode b_Model_isOrder 72 = .ok (.bipush 10, 2) := by decide +kernel
theorem d_Model_isOrder_74 : decode b_Model_isOrder 74 = .ok (.idiv, 1) := by decide +kernel
theorem d_Model_isOrder_75 : decode b_Model_isOrder 75 = .ok (.istore_n 3, 1) := by decide +kernel
theorem d_Model_isOrder_76 : decode b_Model_isOrder 76 = .ok (.iinc 5 (-1), 3) := by decide +kernel
theorem d_Model_isOrder_79 : decode b_Model_isOrder 79 = .ok (.goto (-65), 3) := by decide +kernel
theorem d_Model_isOrder_82 : decode b_Model_isOrder 82 = .ok (.iload_n 2, 1) := by decide +kernel
theorem d_Model_isOrder_83 : decode b_Model_isOrder 83 = .ok (.ifCond .le 25, 3) := by decide +kernel
theorem d_Model_isOrder_86 : decode b_Model_isOrder 86 = .ok (.iload_n 3, 1) := by decide +kernel
theorem d_Model_isOrder_87 : decode b_Model_isOrder 87 = .ok (.ifCond .ne 21, 3) := by decide +kernel
theorem d_Model_isOrder_90 : decode b_Model_isOrder 90 = .ok (.iload 4, 2) := by decide +kernel
theorem d_Model_isOrder_92 : decode b_Model_isOrder 92 = .ok (.iconst 1, 1) := by decide +kernel
theorem d_Model_isOrder_93 : decode b_Model_isOrder 93 = .ok (.aload_n 0, 1) := by decide +kernel
theorem d_Model_isOrder_94 : decode b_Model_isOrder 94 = .ok (.iload_n 1, 1) := by decide +kernel
theorem d_Model_isOrder_95 : decode b_Model_isOrder 95 = .ok (.invokevirtual 75, 3) := by decide +kernel
theorem d_Model_isOrder_98 : decode b_Model_isOrder 98 = .ok (.ishl, 1) := by decide +kernel
theorem d_Model_isOrder_99 : decode b_Model_isOrder 99 = .ok (.iconst 1, 1) := by decide +kernel
theorem d_Model_isOrder_100 : decode b_Model_isOrder 100 = .ok (.isub, 1) := by decide +kernel
theorem d_Model_isOrder_101 : decode b_Model_isOrder 101 = .ok (.if_icmp .ne 7, 3) := by decide +kernel
theorem d_Model_isOrder_104 : decode b_Model_isOrder 104 = .ok (.iconst 1, 1) := by decide +kernel
theorem d_Model_isOrder_105 : decode b_Model_isOrder 105 = .ok (.goto 4, 3) := by decide +kernel
theorem d_Model_isOrder_108 : decode b_Model_isOrder 108 = .ok (.iconst 0, 1) := by decide +kernel
theorem d_Model_isOrder_109 : decode b_Model_isOrder 109 = .ok (.ireturn, 1) := by decide +kernel
theorem d_Model_width_0 : decode b_Model_width 0 = .ok (.iload_n 1, 1) := by decide +kernel
theorem d_Model_width_1 : decode b_Model_width 1 = .ok (.invokestatic 71, 3) := by decide +kernel
theorem d_Model_width_4 : decode b_Model_width 4 = .ok (.ifCond .ne 9, 3) := by decide +kernel
theorem d_Model_width_7 : decode b_Model_width 7 = .ok (.aload_n 0, 1) := by decide +kernel
theorem d_Model_width_8 : decode b_Model_width 8 = .ok (.iconst 1, 1) := by decide +kernel
theorem d_Model_width_9 : decode b_Model_width 9 = .ok (.invokevirtual 93, 3) := by decide +kernel
theorem d_Model_width_12 : decode b_Model_width 12 = .ok (.ireturn, 1) := by decide +kernel
theorem d_Model_width_13 : decode b_Model_width 13 = .ok (.iload_n 2, 1) := by decide +kernel
theorem d_Model_width_14 : decode b_Model_width 14 = .ok (.ifCond .eq 18, 3) := by decide +kernel
theorem d_Model_width_17 : decode b_Model_width 17 = .ok (.aload_n 0, 1) := by decide +kernel
theorem d_Model_width_18 : decode b_Model_width 18 = .ok (.iload_n 1, 1) := by decide +kernel
theorem d_Model_width_19 : decode b_Model_width 19 = .ok (.iload_n 2, 1) := by decide +kernel
theorem d_Model_width_20 : decode b_Model_width 20 = .ok (.invokevirtual 193, 3) := by decide +kernel
theorem d_Model_width_23 : decode b_Model_width 23 = .ok (.ifCond .ne 9, 3) := by decide +kernel
theorem d_Model_width_26 : decode b_Model_width 26 = .ok (.aload_n 0, 1) := by decide +kernel
theorem d_Model_width_27 : decode b_Model_width 27 = .ok (.iconst 2, 1) := by decide +kernel
theorem d_Model_width_28 : decode b_Model_width 28 = .ok (.invokevirtual 93, 3) := by decide +kernel
theorem d_Model_width_31 : decode b_Model_width 31 = .ok (.ireturn, 1) := by decide +kernel
theorem d_Model_width_32 : decode b_Model_width 32 = .ok (.aload_n 0, 1) := by decide +kernel
theorem d_Model_width_33 : decode b_Model_width 33 = .ok (.iload_n 1, 1) := by decide +kernel
theorem d_Model_width_34 : decode b_Model_width 34 = .ok (.iload_n 2, 1) := by decide +kernel
theorem d_Model_width_35 : decode b_Model_width 35 = .ok (.ifCond .ne 7, 3) := by decide +kernel
theorem d_Model_width_38 : decode b_Model_width 38 = .ok (.iconst 1, 1) := by decide +kernel
theorem d_Model_width_39 : decode b_Model_width 39 = .ok (.goto 4, 3) := by decide +kernel
theorem d_Model_width_42 : decode b_Model_width 42 = .ok (.iconst 0, 1) := by decide +kernel
theorem d_Model_width_43 : decode b_Model_width 43 = .ok (.invokevirtual 189, 3) := by decide +kernel
theorem d_Model_width_46 : decode b_Model_width 46 = .ok (.aload_n 0, 1) := by decide +kernel
theorem d_Model_width_47 : decode b_Model_width 47 = .ok (.iload_n 3, 1) := by decide +kernel
theorem d_Model_width_48 : decode b_Model_width 48 = .ok (.ifCond .eq 10, 3) := by decide +kernel
theorem d_Model_width_51 : decode b_Model_width 51 = .ok (.aload_n 0, 1) := by decide +kernel
theorem d_Model_width_52 : decode b_Model_width 52 = .ok (.getfield 180, 3) := by decide +kernel
theorem d_Model_width_55 : decode b_Model_width 55 = .ok (.goto 7, 3) := by decide +kernel
theorem d_Model_width_58 : decode b_Model_width 58 = .ok (.aload_n 0, 1) := by decide +kernel
theorem d_Model_width_59 : decode b_Model_width 59 = .ok (.getfield 177, 3) := by decide +kernel
theorem d_Model_width_62 : decode b_Model_width 62 = .ok (.invokevirtual 171, 3) := by decide +kernel
theorem d_Model_width_65 : decode b_Model_width 65 = .ok (.ireturn, 1) := by decide +kernel
theorem d_Model_comes_0 : decode b_Model_comes 0 = .ok (.iconst 1, 1) := by decide +kernel
theorem d_Model_comes_1 : decode b_Model_comes 1 = .ok (.iload_n 3, 1) := by decide +kernel
theorem d_Model_comes_2 : decode b_Model_comes 2 = .ok (.ishl, 1) := by decide +kernel
theorem d_Model_comes_3 : decode b_Model_comes 3 = .ok (.istore 4, 2) := by decide +kernel
theorem d_Model_comes_5 : decode b_Model_comes 5 = .ok (.iconst 0, 1) := by decide +kernel
theorem d_Model_comes_6 : decode b_Model_comes 6 = .ok (.istore 5, 2) := by decide +kernel
theorem d_Model_comes_8 : decode b_Model_comes 8 = .ok (.iload 5, 2) := by decide +kernel
theorem d_Model_comes_10 : decode b_Model_comes 10 = .ok (.bipush 8, 2) := by decide +kernel
theorem d_Model_comes_12 : decode b_Model_comes 12 = .ok (.if_icmp .ge 71, 3) := by decide +kernel
theorem d_Model_comes_15 : decode b_Model_comes 15 = .ok (.iconst 0, 1) := by decide +kernel
theorem d_Model_comes_16 : decode b_Model_comes 16 = .ok (.istore 6, 2) := by decide +kernel
theorem d_Model_comes_18 : decode b_Model_comes 18 = .ok (.iload 6, 2) := by decide +kernel
theorem d_Model_comes_20 : decode b_Model_comes 20 = .ok (.aload_n 0, 1) := by decide +kernel
theorem d_Model_comes_21 : decode b_Model_comes 21 = .ok (.iload_n 1, 1) := by decide +kernel
theorem d_Model_comes_22 : decode b_Model_comes 22 = .ok (.invokevirtual 75, 3) := by decide +kernel
theorem d_Model_comes_25 : decode b_Model_comes 25 = .ok (.if_icmp .ge 52, 3) := by decide +kernel
theorem d_Model_comes_28 : decode b_Model_comes 28 = .ok (.iload 4, 2) := by decide +kernel
theorem d_Model_comes_30 : decode b_Model_comes 30 = .ok (.iload 4, 2) := by decide +kernel
theorem d_Model_comes_32 : decode b_Model_comes 32 = .ok (.iload 6, 2) := by decide +kernel
theorem d_Model_comes_34 : decode b_Model_comes 34 = .ok (.ishr, 1) := by decide +kernel
theorem d_Model_comes_35 : decode b_Model_comes 35 = .ok (.iconst 1, 1) := by decide +kernel
theorem d_Model_comes_36 : decode b_Model_comes 36 = .ok (.iand, 1) := by decide +kernel
theorem d_Model_comes_37 : decode b_Model_comes 37 = .ok (.iconst 1, 1) := by decide +kernel
theorem d_Model_comes_38 : decode b_Model_comes 38 = .ok (.if_icmp .ne 29, 3) := by decide +kernel
theorem d_Model_comes_41 : decode b_Model_comes 41 = .ok (.iload 6, 2) := by decide +kernel
theorem d_Model_comes_43 : decode b_Model_comes 43 = .ok (.iload_n 3, 1) := by decide +kernel
theorem d_Model_comes_44 : decode b_Model_comes 44 = .ok (.if_icmp .eq 13, 3) := by decide +kernel
theorem d_Model_comes_47 : decode b_Model_comes 47 = .ok (.iload_n 2, 1) := by decide +kernel
theorem d_Model_comes_48 : decode b_Model_comes 48 = .ok (.iload 6, 2) := by decide +kernel
theorem d_Model_comes_50 : decode b_Model_comes 50 = .ok (.ishr, 1) := by decide +kernel
theorem d_Model_comes_51 : decode b_Model_comes 51 = .ok (.iconst 1, 1) := by decide +kernel
theorem d_Model_comes_52 : decode b_Model_comes 52 = .ok (.iand, 1) := by decide +kernel
theorem d_Model_comes_53 : decode b_Model_comes 53 = .ok (.iconst 1, 1) := by decide +kernel
theorem d_Model_comes_54 : decode b_Model_comes 54 = .ok (.if_icmp .ne 13, 3) := by decide +kernel
theorem d_Model_comes_57 : decode b_Model_comes 57 = .ok (.aload_n 0, 1) := by decide +kernel
theorem d_Model_comes_58 : decode b_Model_comes 58 = .ok (.iload_n 1, 1) := by decide +kernel
theorem d_Model_comes_59 : decode b_Model_comes 59 = .ok (.iload 6, 2) := by decide +kernel
theorem d_Model_comes_61 : decode b_Model_comes 61 = .ok (.invokevirtual 161, 3) := by decide +kernel
theorem d_Model_comes_64 : decode b_Model_comes 64 = .ok (.goto 4, 3) := by decide +kernel
theorem d_Model_comes_67 : decode b_Model_comes 67 = .ok (.iconst 0, 1) := by decide +kernel
theorem d_Model_comes_68 : decode b_Model_comes 68 = .ok (.ior, 1) := by decide +kernel
theorem d_Model_comes_69 : decode b_Model_comes 69 = .ok (.istore 4, 2) := by decide +kernel
theorem d_Model_comes_71 : decode b_Model_comes 71 = .ok (.iinc 6 1, 3) := by decide +kernel
theorem d_Model_comes_74 : decode b_Model_comes 74 = .ok (.goto (-56), 3) := by decide +kernel
theorem d_Model_comes_77 : decode b_Model_comes 77 = .ok (.iinc 5 1, 3) := by decide +kernel
theorem d_Model_comes_80 : decode b_Model_comes 80 = .ok (.goto (-72), 3) := by decide +kernel
theorem d_Model_comes_83 : decode b_Model_comes 83 = .ok (.iload 4, 2) := by decide +kernel
theorem d_Model_comes_85 : decode b_Model_comes 85 = .ok (.iload_n 2, 1) := by decide +kernel
theorem d_Model_comes_86 : decode b_Model_comes 86 = .ok (.iconst (-1), 1) := by decide +kernel
theorem d_Model_comes_87 : decode b_Model_comes 87 = .ok (.ixor, 1) := by decide +kernel
theorem d_Model_comes_88 : decode b_Model_comes 88 = .ok (.iand, 1) := by decide +kernel
theorem d_Model_comes_89 : decode b_Model_comes 89 = .ok (.iconst 1, 1) := by decide +kernel
theorem d_Model_comes_90 : decode b_Model_comes 90 = .ok (.iload_n 3, 1) := by decide +kernel
theorem d_Model_comes_91 : decode b_Model_comes 91 = .ok (.ishl, 1) := by decide +kernel
theorem d_Model_comes_92 : decode b_Model_comes 92 = .ok (.iconst (-1), 1) := by decide +kernel
theorem d_Model_comes_93 : decode b_Model_comes 93 = .ok (.ixor, 1) := by decide +kernel
theorem d_Model_comes_94 : decode b_Model_comes 94 = .ok (.iand, 1) := by decide +kernel
theorem d_Model_comes_95 : decode b_Model_comes 95 = .ok (.invokestatic 174, 3) := by decide +kernel
theorem d_Model_comes_98 : decode b_Model_comes 98 = .ok (.ireturn, 1) := by decide +kernel
theorem d_Model_treewidthOf_0 : decode b_Model_treewidthOf 0 = .ok (.iconst 1, 1) := by decide +kernel
theorem d_Model_treewidthOf_1 : decode b_Model_treewidthOf 1 = .ok (.aload_n 0, 1) := by decide +kernel
theorem d_Model_treewidthOf_2 : decode b_Model_treewidthOf 2 = .ok (.iload_n 1, 1) := by decide +kernel
theorem d_Model_treewidthOf_3 : decode b_Model_treewidthOf 3 = .ok (.invokevirtual 75, 3) := by decide +kernel
theorem d_Model_treewidthOf_6 : decode b_Model_treewidthOf 6 = .ok (.ishl, 1) := by decide +kernel
theorem d_Model_treewidthOf_7 : decode b_Model_treewidthOf 7 = .ok (.iconst 1, 1) := by decide +kernel
theorem d_Model_treewidthOf_8 : decode b_Model_treewidthOf 8 = .ok (.isub, 1) := by decide +kernel
theorem d_Model_treewidthOf_9 : decode b_Model_treewidthOf 9 = .ok (.istore_n 2, 1) := by decide +kernel
theorem d_Model_treewidthOf_10 : decode b_Model_treewidthOf 10 = .ok (.aload_n 0, 1) := by decide +kernel
theorem d_Model_treewidthOf_11 : decode b_Model_treewidthOf 11 = .ok (.getfield 28, 3) := by decide +kernel
theorem d_Model_treewidthOf_14 : decode b_Model_treewidthOf 14 = .ok (.iconst 0, 1) := by decide +kernel
theorem d_Model_treewidthOf_15 : decode b_Model_treewidthOf 15 = .ok (.iconst (-1), 1) := by decide +kernel
theorem d_Model_treewidthOf_16 : decode b_Model_treewidthOf 16 = .ok (.iastore, 1) := by decide +kernel
theorem d_Model_treewidthOf_17 : decode b_Model_treewidthOf 17 = .ok (.iconst 1, 1) := by decide +kernel
theorem d_Model_treewidthOf_18 : decode b_Model_treewidthOf 18 = .ok (.istore_n 3, 1) := by decide +kernel
theorem d_Model_treewidthOf_19 : decode b_Model_treewidthOf 19 = .ok (.iload_n 3, 1) := by decide +kernel
theorem d_Model_treewidthOf_20 : decode b_Model_treewidthOf 20 = .ok (.iload_n 2, 1) := by decide +kernel
theorem d_Model_treewidthOf_21 : decode b_Model_treewidthOf 21 = .ok (.if_icmp .gt 121, 3) := by decide +kernel
theorem d_Model_treewidthOf_24 : decode b_Model_treewidthOf 24 = .ok (.aload_n 0, 1) := by decide +kernel
theorem d_Model_treewidthOf_25 : decode b_Model_treewidthOf 25 = .ok (.getfield 28, 3) := by decide +kernel
theorem d_Model_treewidthOf_28 : decode b_Model_treewidthOf 28 = .ok (.iload_n 3, 1) := by decide +kernel
theorem d_Model_treewidthOf_29 : decode b_Model_treewidthOf 29 = .ok (.bipush 8, 2) := by decide +kernel
theorem d_Model_treewidthOf_31 : decode b_Model_treewidthOf 31 = .ok (.iastore, 1) := by decide +kernel
theorem d_Model_treewidthOf_32 : decode b_Model_treewidthOf 32 = .ok (.iconst 0, 1) := by decide +kernel
theorem d_Model_treewidthOf_33 : decode b_Model_treewidthOf 33 = .ok (.istore 4, 2) := by decide +kernel
theorem d_Model_treewidthOf_35 : decode b_Model_treewidthOf 35 = .ok (.iload 4, 2) := by decide +kernel
theorem d_Model_treewidthOf_37 : decode b_Model_treewidthOf 37 = .ok (.aload_n 0, 1) := by decide +kernel
theorem d_Model_treewidthOf_38 : decode b_Model_treewidthOf 38 = .ok (.iload_n 1, 1) := by decide +kernel
theorem d_Model_treewidthOf_39 : decode b_Model_treewidthOf 39 = .ok (.invokevirtual 75, 3) := by decide +kernel
theorem d_Model_treewidthOf_42 : decode b_Model_treewidthOf 42 = .ok (.if_icmp .ge 94, 3) := by decide +kernel
theorem d_Model_treewidthOf_45 : decode b_Model_treewidthOf 45 = .ok (.iload_n 3, 1) := by decide +kernel
theorem d_Model_treewidthOf_46 : decode b_Model_treewidthOf 46 = .ok (.iload 4, 2) := by decide +kernel
theorem d_Model_treewidthOf_48 : decode b_Model_treewidthOf 48 = .ok (.ishr, 1) := by decide +kernel
theorem d_Model_treewidthOf_49 : decode b_Model_treewidthOf 49 = .ok (.iconst 1, 1) := by decide +kernel
theorem d_Model_treewidthOf_50 : decode b_Model_treewidthOf 50 = .ok (.iand, 1) := by decide +kernel
theorem d_Model_treewidthOf_51 : decode b_Model_treewidthOf 51 = .ok (.iconst 1, 1) := by decide +kernel
theorem d_Model_treewidthOf_52 : decode b_Model_treewidthOf 52 = .ok (.if_icmp .ne 78, 3) := by decide +kernel
theorem d_Model_treewidthOf_55 : decode b_Model_treewidthOf 55 = .ok (.iload_n 3, 1) := by decide +kernel
theorem d_Model_treewidthOf_56 : decode b_Model_treewidthOf 56 = .ok (.iconst 1, 1) := by decide +kernel
theorem d_Model_treewidthOf_57 : decode b_Model_treewidthOf 57 = .ok (.iload 4, 2) := by decide +kernel
theorem d_Model_treewidthOf_59 : decode b_Model_treewidthOf 59 = .ok (.ishl, 1) := by decide +kernel
theorem d_Model_treewidthOf_60 : decode b_Model_treewidthOf 60 = .ok (.iconst (-1), 1) := by decide +kernel
theorem d_Model_treewidthOf_61 : decode b_Model_treewidthOf 61 = .ok (.ixor, 1) := by decide +kernel
theorem d_Model_treewidthOf_62 : decode b_Model_treewidthOf 62 = .ok (.iand, 1) := by decide +kernel
theorem d_Model_treewidthOf_63 : decode b_Model_treewidthOf 63 = .ok (.istore 5, 2) := by decide +kernel
theorem d_Model_treewidthOf_65 : decode b_Model_treewidthOf 65 = .ok (.aload_n 0, 1) := by decide +kernel
theorem d_Model_treewidthOf_66 : decode b_Model_treewidthOf 66 = .ok (.iload_n 1, 1) := by decide +kernel
theorem d_Model_treewidthOf_67 : decode b_Model_treewidthOf 67 = .ok (.iload 5, 2) := by decide +kernel
theorem d_Model_treewidthOf_69 : decode b_Model_treewidthOf 69 = .ok (.iload 4, 2) := by decide +kernel
theorem d_Model_treewidthOf_71 : decode b_Model_treewidthOf 71 = .ok (.invokevirtual 196, 3) := by decide +kernel
theorem d_Model_treewidthOf_74 : decode b_Model_treewidthOf 74 = .ok (.istore 6, 2) := by decide +kernel
theorem d_Model_treewidthOf_76 : decode b_Model_treewidthOf 76 = .ok (.aload_n 0, 1) := by decide +kernel
theorem d_Model_treewidthOf_77 : decode b_Model_treewidthOf 77 = .ok (.getfield 28, 3) := by decide +kernel
theorem d_Model_treewidthOf_80 : decode b_Model_treewidthOf 80 = .ok (.iload 5, 2) := by decide +kernel
theorem d_Model_treewidthOf_82 : decode b_Model_treewidthOf 82 = .ok (.iaload, 1) := by decide +kernel
theorem d_Model_treewidthOf_83 : decode b_Model_treewidthOf 83 = .ok (.iload 6, 2) := by decide +kernel
theorem d_Model_treewidthOf_85 : decode b_Model_treewidthOf 85 = .ok (.if_icmp .le 13, 3) := by decide +kernel
theorem d_Model_treewidthOf_88 : decode b_Model_treewidthOf 88 = .ok (.aload_n 0, 1) := by decide +kernel
theorem d_Model_treewidthOf_89 : decode b_Model_treewidthOf 89 = .ok (.getfield 28, 3) := by decide +kernel
theorem d_Model_treewidthOf_92 : decode b_Model_treewidthOf 92 = .ok (.iload 5, 2) := by decide +kernel
theorem d_Model_treewidthOf_94 : decode b_Model_treewidthOf 94 = .ok (.iaload, 1) := by decide +kernel
theorem d_Model_treewidthOf_95 : decode b_Model_treewidthOf 95 = .ok (.goto 5, 3) := by decide +kernel
theorem d_Model_treewidthOf_98 : decode b_Model_treewidthOf 98 = .ok (.iload 6, 2) := by decide +kernel
theorem d_Model_treewidthOf_100 : decode b_Model_treewidthOf 100 = .ok (.istore 6, 2) := by decide +kernel
theorem d_Model_treewidthOf_102 : decode b_Model_treewidthOf 102 = .ok (.aload_n 0, 1) := by decide +kernel
theorem d_Model_treewidthOf_103 : decode b_Model_treewidthOf 103 = .ok (.getfield 28, 3) := by decide +kernel
theorem d_Model_treewidthOf_106 : decode b_Model_treewidthOf 106 = .ok (.iload_n 3, 1) := by decide +kernel
theorem d_Model_treewidthOf_107 : decode b_Model_treewidthOf 107 = .ok (.iload 6, 2) := by decide +kernel
theorem d_Model_treewidthOf_109 : decode b_Model_treewidthOf 109 = .ok (.aload_n 0, 1) := by decide +kernel
theorem d_Model_treewidthOf_110 : decode b_Model_treewidthOf 110 = .ok (.getfield 28, 3) := by decide +kernel
theorem d_Model_treewidthOf_113 : decode b_Model_treewidthOf 113 = .ok (.iload_n 3, 1) := by decide +kernel
theorem d_Model_treewidthOf_114 : decode b_Model_treewidthOf 114 = .ok (.iaload, 1) := by decide +kernel
theorem d_Model_treewidthOf_115 : decode b_Model_treewidthOf 115 = .ok (.if_icmp .ge 8, 3) := by decide +kernel
theorem d_Model_treewidthOf_118 : decode b_Model_treewidthOf 118 = .ok (.iload 6, 2) := by decide +kernel
theorem d_Model_treewidthOf_120 : decode b_Model_treewidthOf 120 = .ok (.goto 9, 3) := by decide +kernel
theorem d_Model_treewidthOf_123 : decode b_Model_treewidthOf 123 = .ok (.aload_n 0, 1) := by decide +kernel
theorem d_Model_treewidthOf_124 : decode b_Model_treewidthOf 124 = .ok (.getfield 28, 3) := by decide +kernel
theorem d_Model_treewidthOf_127 : decode b_Model_treewidthOf 127 = .ok (.iload_n 3, 1) := by decide +kernel
theorem d_Model_treewidthOf_128 : decode b_Model_treewidthOf 128 = .ok (.iaload, 1) := by decide +kernel
theorem d_Model_treewidthOf_129 : decode b_Model_treewidthOf 129 = .ok (.iastore, 1) := by decide +kernel
theorem d_Model_treewidthOf_130 : decode b_Model_treewidthOf 130 = .ok (.iinc 4 1, 3) := by decide +kernel
theorem d_Model_treewidthOf_133 : decode b_Model_treewidthOf 133 = .ok (.goto (-98), 3) := by decide +kernel
theorem d_Model_treewidthOf_136 : decode b_Model_treewidthOf 136 = .ok (.iinc 3 1, 3) := by decide +kernel
theorem d_Model_treewidthOf_139 : decode b_Model_treewidthOf 139 = .ok (.goto (-120), 3) := by decide +kernel
theorem d_Model_treewidthOf_142 : decode b_Model_treewidthOf 142 = .ok (.aload_n 0, 1) := by decide +kernel
theorem d_Model_treewidthOf_143 : decode b_Model_treewidthOf 143 = .ok (.getfield 28, 3) := by decide +kernel
theorem d_Model_treewidthOf_146 : decode b_Model_treewidthOf 146 = .ok (.iload_n 2, 1) := by decide +kernel
theorem d_Model_treewidthOf_147 : decode b_Model_treewidthOf 147 = .ok (.iaload, 1) := by decide +kernel
theorem d_Model_treewidthOf_148 : decode b_Model_treewidthOf 148 = .ok (.ireturn, 1) := by decide +kernel
theorem d_Model_treewidth_0 : decode b_Model_treewidth 0 = .ok (.iload_n 1, 1) := by decide +kernel
theorem d_Model_treewidth_1 : decode b_Model_treewidth 1 = .ok (.invokestatic 71, 3) := by decide +kernel
theorem d_Model_treewidth_4 : decode b_Model_treewidth 4 = .ok (.ifCond .eq 15, 3) := by decide +kernel
theorem d_Model_treewidth_7 : decode b_Model_treewidth 7 = .ok (.aload_n 0, 1) := by decide +kernel
theorem d_Model_treewidth_8 : decode b_Model_treewidth 8 = .ok (.aload_n 0, 1) := by decide +kernel
theorem d_Model_treewidth_9 : decode b_Model_treewidth 9 = .ok (.iload_n 1, 1) := by decide +kernel
theorem d_Model_treewidth_10 : decode b_Model_treewidth 10 = .ok (.invokevirtual 199, 3) := by decide +kernel
theorem d_Model_treewidth_13 : decode b_Model_treewidth 13 = .ok (.invokevirtual 171, 3) := by decide +kernel
theorem d_Model_treewidth_16 : decode b_Model_treewidth 16 = .ok (.goto 8, 3) := by decide +kernel
theorem d_Model_treewidth_19 : decode b_Model_treewidth 19 = .ok (.aload_n 0, 1) := by decide +kernel
theorem d_Model_treewidth_20 : decode b_Model_treewidth 20 = .ok (.iconst 1, 1) := by decide +kernel
theorem d_Model_treewidth_21 : decode b_Model_treewidth 21 = .ok (.invokevirtual 93, 3) := by decide +kernel
theorem d_Model_treewidth_24 : decode b_Model_treewidth 24 = .ok (.ireturn, 1) := by decide +kernel
theorem d_Model_bag_0 : decode b_Model_bag 0 = .ok (.aload_n 0, 1) := by decide +kernel
theorem d_Model_bag_1 : decode b_Model_bag 1 = .ok (.iload_n 1, 1) := by decide +kernel
theorem d_Model_bag_2 : decode b_Model_bag 2 = .ok (.iload_n 2, 1) := by decide +kernel
theorem d_Model_bag_3 : decode b_Model_bag 3 = .ok (.invokevirtual 103, 3) := by decide +kernel
theorem d_Model_bag_6 : decode b_Model_bag 6 = .ok (.ifCond .ne 9, 3) := by decide +kernel
theorem d_Model_bag_9 : decode b_Model_bag 9 = .ok (.aload_n 0, 1) := by decide +kernel
theorem d_Model_bag_10 : decode b_Model_bag 10 = .ok (.iconst 1, 1) := by decide +kernel
theorem d_Model_bag_11 : decode b_Model_bag 11 = .ok (.invokevirtual 93, 3) := by decide +kernel
theorem d_Model_bag_14 : decode b_Model_bag 14 = .ok (.ireturn, 1) := by decide +kernel
theorem d_Model_bag_15 : decode b_Model_bag 15 = .ok (.aload_n 0, 1) := by decide +kernel
theorem d_Model_bag_16 : decode b_Model_bag 16 = .ok (.iload_n 1, 1) := by decide +kernel
theorem d_Model_bag_17 : decode b_Model_bag 17 = .ok (.iconst 1, 1) := by decide +kernel
theorem d_Model_bag_18 : decode b_Model_bag 18 = .ok (.invokevirtual 189, 3) := by decide +kernel
theorem d_Model_bag_21 : decode b_Model_bag 21 = .ok (.aload_n 0, 1) := by decide +kernel
theorem d_Model_bag_22 : decode b_Model_bag 22 = .ok (.aload_n 0, 1) := by decide +kernel
theorem d_Model_bag_23 : decode b_Model_bag 23 = .ok (.getfield 25, 3) := by decide +kernel
theorem d_Model_bag_26 : decode b_Model_bag 26 = .ok (.iload_n 2, 1) := by decide +kernel
theorem d_Model_bag_27 : decode b_Model_bag 27 = .ok (.iaload, 1) := by decide +kernel
theorem d_Model_bag_28 : decode b_Model_bag 28 = .ok (.invokevirtual 171, 3) := by decide +kernel
theorem d_Model_bag_31 : decode b_Model_bag 31 = .ok (.ireturn, 1) := by decide +kernel
theorem d_Model_fits_0 : decode b_Model_fits 0 = .ok (.iconst 1, 1) := by decide +kernel
theorem d_Model_fits_1 : decode b_Model_fits 1 = .ok (.istore 4, 2) := by decide +kernel
theorem d_Model_fits_3 : decode b_Model_fits 3 = .ok (.iconst 0, 1) := by decide +kernel
theorem d_Model_fits_4 : decode b_Model_fits 4 = .ok (.istore 5, 2) := by decide +kernel
theorem d_Model_fits_6 : decode b_Model_fits 6 = .ok (.iload 5, 2) := by decide +kernel
theorem d_Model_fits_8 : decode b_Model_fits 8 = .ok (.iload_n 3, 1) := by decide +kernel
theorem d_Model_fits_9 : decode b_Model_fits 9 = .ok (.if_icmp .gt 53, 3) := by decide +kernel
theorem d_Model_fits_12 : decode b_Model_fits 12 = .ok (.iload 4, 2) := by decide +kernel
theorem d_Model_fits_14 : decode b_Model_fits 14 = .ok (.ifCond .eq 48, 3) := by decide +kernel
theorem d_Model_fits_17 : decode b_Model_fits 17 = .ok (.aload_n 0, 1) := by decide +kernel
theorem d_Model_fits_18 : decode b_Model_fits 18 = .ok (.iload_n 1, 1) := by decide +kernel
theorem d_Model_fits_19 : decode b_Model_fits 19 = .ok (.iload_n 3, 1) := by decide +kernel
theorem d_Model_fits_20 : decode b_Model_fits 20 = .ok (.iload 5, 2) := by decide +kernel
theorem d_Model_fits_22 : decode b_Model_fits 22 = .ok (.invokevirtual 148, 3) := by decide +kernel
theorem d_Model_fits_25 : decode b_Model_fits 25 = .ok (.ifCond .eq 24, 3) := by decide +kernel
theorem d_Model_fits_28 : decode b_Model_fits 28 = .ok (.aload_n 0, 1) := by decide +kernel
theorem d_Model_fits_29 : decode b_Model_fits 29 = .ok (.iload_n 2, 1) := by decide +kernel
theorem d_Model_fits_30 : decode b_Model_fits 30 = .ok (.aload_n 0, 1) := by decide +kernel
theorem d_Model_fits_31 : decode b_Model_fits 31 = .ok (.getfield 31, 3) := by decide +kernel
theorem d_Model_fits_34 : decode b_Model_fits 34 = .ok (.iload_n 3, 1) := by decide +kernel
theorem d_Model_fits_35 : decode b_Model_fits 35 = .ok (.iaload, 1) := by decide +kernel
theorem d_Model_fits_36 : decode b_Model_fits 36 = .ok (.aload_n 0, 1) := by decide +kernel
theorem d_Model_fits_37 : decode b_Model_fits 37 = .ok (.getfield 31, 3) := by decide +kernel
theorem d_Model_fits_40 : decode b_Model_fits 40 = .ok (.iload 5, 2) := by decide +kernel
theorem d_Model_fits_42 : decode b_Model_fits 42 = .ok (.iaload, 1) := by decide +kernel
theorem d_Model_fits_43 : decode b_Model_fits 43 = .ok (.invokevirtual 148, 3) := by decide +kernel
theorem d_Model_fits_46 : decode b_Model_fits 46 = .ok (.ifCond .eq 7, 3) := by decide +kernel
theorem d_Model_fits_49 : decode b_Model_fits 49 = .ok (.iconst 1, 1) := by decide +kernel
theorem d_Model_fits_50 : decode b_Model_fits 50 = .ok (.goto 4, 3) := by decide +kernel
theorem d_Model_fits_53 : decode b_Model_fits 53 = .ok (.iconst 0, 1) := by decide +kernel
theorem d_Model_fits_54 : decode b_Model_fits 54 = .ok (.istore 4, 2) := by decide +kernel
theorem d_Model_fits_56 : decode b_Model_fits 56 = .ok (.iinc 5 1, 3) := by decide +kernel
theorem d_Model_fits_59 : decode b_Model_fits 59 = .ok (.goto (-53), 3) := by decide +kernel
theorem d_Model_fits_62 : decode b_Model_fits 62 = .ok (.iload 4, 2) := by decide +kernel
theorem d_Model_fits_64 : decode b_Model_fits 64 = .ok (.ireturn, 1) := by decide +kernel
theorem d_Model_finds_0 : decode b_Model_finds 0 = .ok (.aload_n 0, 1) := by decide +kernel
theorem d_Model_finds_1 : decode b_Model_finds 1 = .ok (.iload_n 1, 1) := by decide +kernel
theorem d_Model_finds_2 : decode b_Model_finds 2 = .ok (.invokevirtual 75, 3) := by decide +kernel
theorem d_Model_finds_5 : decode b_Model_finds 5 = .ok (.istore 4, 2) := by decide +kernel
theorem d_Model_finds_7 : decode b_Model_finds 7 = .ok (.iload_n 3, 1) := by decide +kernel
theorem d_Model_finds_8 : decode b_Model_finds 8 = .ok (.istore 5, 2) := by decide +kernel
theorem d_Model_finds_10 : decode b_Model_finds 10 = .ok (.iload 5, 2) := by decide +kernel
theorem d_Model_finds_12 : decode b_Model_finds 12 = .ok (.ifCond .lt 96, 3) := by decide +kernel
theorem d_Model_finds_15 : decode b_Model_finds 15 = .ok (.iload 5, 2) := by decide +kernel
theorem d_Model_finds_17 : decode b_Model_finds 17 = .ok (.iload 4, 2) := by decide +kernel
theorem d_Model_finds_19 : decode b_Model_finds 19 = .ok (.if_icmp .ge 89, 3) := by decide +kernel
theorem d_Model_finds_22 : decode b_Model_finds 22 = .ok (.aload_n 0, 1) := by decide +kernel
theorem d_Model_finds_23 : decode b_Model_finds 23 = .ok (.getfield 31, 3) := by decide +kernel
theorem d_Model_finds_26 : decode b_Model_finds 26 = .ok (.iload 5, 2) := by decide +kernel
theorem d_Model_finds_28 : decode b_Model_finds 28 = .ok (.dup2, 1) := by decide +kernel
theorem d_Model_finds_29 : decode b_Model_finds 29 = .ok (.iaload, 1) := by decide +kernel
theorem d_Model_finds_30 : decode b_Model_finds 30 = .ok (.iconst 1, 1) := by decide +kernel
theorem d_Model_finds_31 : decode b_Model_finds 31 = .ok (.iadd, 1) := by decide +kernel
theorem d_Model_finds_32 : decode b_Model_finds 32 = .ok (.iastore, 1) := by decide +kernel
theorem d_Model_finds_33 : decode b_Model_finds 33 = .ok (.aload_n 0, 1) := by decide +kernel
theorem d_Model_finds_34 : decode b_Model_finds 34 = .ok (.getfield 31, 3) := by decide +kernel
theorem d_Model_finds_37 : decode b_Model_finds 37 = .ok (.iload 5, 2) := by decide +kernel
theorem d_Model_finds_39 : decode b_Model_finds 39 = .ok (.iaload, 1) := by decide +kernel
theorem d_Model_finds_40 : decode b_Model_finds 40 = .ok (.aload_n 0, 1) := by decide +kernel
theorem d_Model_finds_41 : decode b_Model_finds 41 = .ok (.iload_n 2, 1) := by decide +kernel
theorem d_Model_finds_42 : decode b_Model_finds 42 = .ok (.invokevirtual 75, 3) := by decide +kernel
theorem d_Model_finds_45 : decode b_Model_finds 45 = .ok (.if_icmp .ge 28, 3) := by decide +kernel
theorem d_Model_finds_48 : decode b_Model_finds 48 = .ok (.aload_n 0, 1) := by decide +kernel
theorem d_Model_finds_49 : decode b_Model_finds 49 = .ok (.iload_n 1, 1) := by decide +kernel
theorem d_Model_finds_50 : decode b_Model_finds 50 = .ok (.iload_n 2, 1) := by decide +kernel
theorem d_Model_finds_51 : decode b_Model_finds 51 = .ok (.iload 5, 2) := by decide +kernel
theorem d_Model_finds_53 : decode b_Model_finds 53 = .ok (.invokevirtual 202, 3) := by decide +kernel
theorem d_Model_finds_56 : decode b_Model_finds 56 = .ok (.ifCond .ne 17, 3) := by decide +kernel
theorem d_Model_finds_59 : decode b_Model_finds 59 = .ok (.aload_n 0, 1) := by decide +kernel
theorem d_Model_finds_60 : decode b_Model_finds 60 = .ok (.getfield 31, 3) := by decide +kernel
theorem d_Model_finds_63 : decode b_Model_finds 63 = .ok (.iload 5, 2) := by decide +kernel
theorem d_Model_finds_65 : decode b_Model_finds 65 = .ok (.dup2, 1) := by decide +kernel
theorem d_Model_finds_66 : decode b_Model_finds 66 = .ok (.iaload, 1) := by decide +kernel
theorem d_Model_finds_67 : decode b_Model_finds 67 = .ok (.iconst 1, 1) := by decide +kernel
theorem d_Model_finds_68 : decode b_Model_finds 68 = .ok (.iadd, 1) := by decide +kernel
theorem d_Model_finds_69 : decode b_Model_finds 69 = .ok (.iastore, 1) := by decide +kernel
theorem d_Model_finds_70 : decode b_Model_finds 70 = .ok (.goto (-37), 3) := by decide +kernel
theorem d_Model_finds_73 : decode b_Model_finds 73 = .ok (.aload_n 0, 1) := by decide +kernel
theorem d_Model_finds_74 : decode b_Model_finds 74 = .ok (.getfield 31, 3) := by decide +kernel
theorem d_Model_finds_77 : decode b_Model_finds 77 = .ok (.iload 5, 2) := by decide +kernel
theorem d_Model_finds_79 : decode b_Model_finds 79 = .ok (.iaload, 1) := by decide +kernel
theorem d_Model_finds_80 : decode b_Model_finds 80 = .ok (.aload_n 0, 1) := by decide +kernel
theorem d_Model_finds_81 : decode b_Model_finds 81 = .ok (.iload_n 2, 1) := by decide +kernel
theorem d_Model_finds_82 : decode b_Model_finds 82 = .ok (.invokevirtual 75, 3) := by decide +kernel
theorem d_Model_finds_85 : decode b_Model_finds 85 = .ok (.if_icmp .ge 17, 3) := by decide +kernel
theorem d_Model_finds_88 : decode b_Model_finds 88 = .ok (.iinc 5 1, 3) := by decide +kernel
theorem d_Model_finds_91 : decode b_Model_finds 91 = .ok (.aload_n 0, 1) := by decide +kernel
theorem d_Model_finds_92 : decode b_Model_finds 92 = .ok (.getfield 31, 3) := by decide +kernel
theorem d_Model_finds_95 : decode b_Model_finds 95 = .ok (.iload 5, 2) := by decide +kernel
theorem d_Model_finds_97 : decode b_Model_finds 97 = .ok (.iconst (-1), 1) := by decide +kernel
theorem d_Model_finds_98 : decode b_Model_finds 98 = .ok (.iastore, 1) := by decide +kernel
theorem d_Model_finds_99 : decode b_Model_finds 99 = .ok (.goto (-89), 3) := by decide +kernel
theorem d_Model_finds_102 : decode b_Model_finds 102 = .ok (.iinc 5 (-1), 3) := by decide +kernel
theorem d_Model_finds_105 : decode b_Model_finds 105 = .ok (.goto (-95), 3) := by decide +kernel
theorem d_Model_finds_108 : decode b_Model_finds 108 = .ok (.iload 5, 2) := by decide +kernel
theorem d_Model_finds_110 : decode b_Model_finds 110 = .ok (.iload 4, 2) := by decide +kernel
theorem d_Model_finds_112 : decode b_Model_finds 112 = .ok (.if_icmp .ne 7, 3) := by decide +kernel
theorem d_Model_finds_115 : decode b_Model_finds 115 = .ok (.iconst 1, 1) := by decide +kernel
theorem d_Model_finds_116 : decode b_Model_finds 116 = .ok (.goto 4, 3) := by decide +kernel
theorem d_Model_finds_119 : decode b_Model_finds 119 = .ok (.iconst 0, 1) := by decide +kernel
theorem d_Model_finds_120 : decode b_Model_finds 120 = .ok (.ireturn, 1) := by decide +kernel
theorem d_Model_firstImage_0 : decode b_Model_firstImage 0 = .ok (.aload_n 0, 1) := by decide +kernel
theorem d_Model_firstImage_1 : decode b_Model_firstImage 1 = .ok (.iload_n 1, 1) := by decide +kernel
theorem d_Model_firstImage_2 : decode b_Model_firstImage 2 = .ok (.iload_n 2, 1) := by decide +kernel
theorem d_Model_firstImage_3 : decode b_Model_firstImage 3 = .ok (.iconst (-1), 1) := by decide +kernel
theorem d_Model_firstImage_4 : decode b_Model_firstImage 4 = .ok (.invokevirtual 224, 3) := by decide +kernel
theorem d_Model_firstImage_7 : decode b_Model_firstImage 7 = .ok (.ifCond .ne 5, 3) := by decide +kernel
theorem d_Model_firstImage_10 : decode b_Model_firstImage 10 = .ok (.iconst (-1), 1) := by decide +kernel
theorem d_Model_firstImage_11 : decode b_Model_firstImage 11 = .ok (.ireturn, 1) := by decide +kernel
theorem d_Model_firstImage_12 : decode b_Model_firstImage 12 = .ok (.iconst 0, 1) := by decide +kernel
theorem d_Model_firstImage_13 : decode b_Model_firstImage 13 = .ok (.istore 4, 2) := by decide +kernel
theorem d_Model_firstImage_15 : decode b_Model_firstImage 15 = .ok (.iload 4, 2) := by decide +kernel
theorem d_Model_firstImage_17 : decode b_Model_firstImage 17 = .ok (.iload_n 3, 1) := by decide +kernel
theorem d_Model_firstImage_18 : decode b_Model_firstImage 18 = .ok (.if_icmp .gt 41, 3) := by decide +kernel
theorem d_Model_firstImage_21 : decode b_Model_firstImage 21 = .ok (.aload_n 0, 1) := by decide +kernel
theorem d_Model_firstImage_22 : decode b_Model_firstImage 22 = .ok (.getfield 37, 3) := by decide +kernel
theorem d_Model_firstImage_25 : decode b_Model_firstImage 25 = .ok (.iload 4, 2) := by decide +kernel
theorem d_Model_firstImage_27 : decode b_Model_firstImage 27 = .ok (.iconst 0, 1) := by decide +kernel
theorem d_Model_firstImage_28 : decode b_Model_firstImage 28 = .ok (.iastore, 1) := by decide +kernel
theorem d_Model_firstImage_29 : decode b_Model_firstImage 29 = .ok (.aload_n 0, 1) := by decide +kernel
theorem d_Model_firstImage_30 : decode b_Model_firstImage 30 = .ok (.iload_n 1, 1) := by decide +kernel
theorem d_Model_firstImage_31 : decode b_Model_firstImage 31 = .ok (.iload_n 2, 1) := by decide +kernel
theorem d_Model_firstImage_32 : decode b_Model_firstImage 32 = .ok (.iconst (-1), 1) := by decide +kernel
theorem d_Model_firstImage_33 : decode b_Model_firstImage 33 = .ok (.invokevirtual 221, 3) := by decide +kernel
theorem d_Model_firstImage_36 : decode b_Model_firstImage 36 = .ok (.ifCond .ne 17, 3) := by decide +kernel
theorem d_Model_firstImage_39 : decode b_Model_firstImage 39 = .ok (.aload_n 0, 1) := by decide +kernel
theorem d_Model_firstImage_40 : decode b_Model_firstImage 40 = .ok (.getfield 37, 3) := by decide +kernel
theorem d_Model_firstImage_43 : decode b_Model_firstImage 43 = .ok (.iload 4, 2) := by decide +kernel
theorem d_Model_firstImage_45 : decode b_Model_firstImage 45 = .ok (.dup2, 1) := by decide +kernel
theorem d_Model_firstImage_46 : decode b_Model_firstImage 46 = .ok (.iaload, 1) := by decide +kernel
theorem d_Model_firstImage_47 : decode b_Model_firstImage 47 = .ok (.iconst 1, 1) := by decide +kernel
theorem d_Model_firstImage_48 : decode b_Model_firstImage 48 = .ok (.iadd, 1) := by decide +kernel
theorem d_Model_firstImage_49 : decode b_Model_firstImage 49 = .ok (.iastore, 1) := by decide +kernel
theorem d_Model_firstImage_50 : decode b_Model_firstImage 50 = .ok (.goto (-21), 3) := by decide +kernel
theorem d_Model_firstImage_53 : decode b_Model_firstImage 53 = .ok (.iinc 4 1, 3) := by decide +kernel
theorem d_Model_firstImage_56 : decode b_Model_firstImage 56 = .ok (.goto (-41), 3) := by decide +kernel
theorem d_Model_firstImage_59 : decode b_Model_firstImage 59 = .ok (.aload_n 0, 1) := by decide +kernel
theorem d_Model_firstImage_60 : decode b_Model_firstImage 60 = .ok (.getfield 37, 3) := by decide +kernel
theorem d_Model_firstImage_63 : decode b_Model_firstImage 63 = .ok (.iload_n 3, 1) := by decide +kernel
theorem d_Model_firstImage_64 : decode b_Model_firstImage 64 = .ok (.iaload, 1) := by decide +kernel
theorem d_Model_firstImage_65 : decode b_Model_firstImage 65 = .ok (.ireturn, 1) := by decide +kernel
theorem d_Model_valueOf_0 : decode b_Model_valueOf 0 = .ok (.lconst 1, 1) := by decide +kernel
theorem d_Model_valueOf_1 : decode b_Model_valueOf 1 = .ok (.lstore_n 3, 1) := by decide +kernel
theorem d_Model_valueOf_2 : decode b_Model_valueOf 2 = .ok (.iconst 0, 1) := by decide +kernel
theorem d_Model_valueOf_3 : decode b_Model_valueOf 3 = .ok (.istore 5, 2) := by decide +kernel
theorem d_Model_valueOf_5 : decode b_Model_valueOf 5 = .ok (.iload 5, 2) := by decide +kernel
theorem d_Model_valueOf_7 : decode b_Model_valueOf 7 = .ok (.aload_n 0, 1) := by decide +kernel
theorem d_Model_valueOf_8 : decode b_Model_valueOf 8 = .ok (.iload_n 1, 1) := by decide +kernel
theorem d_Model_valueOf_9 : decode b_Model_valueOf 9 = .ok (.invokevirtual 75, 3) := by decide +kernel
theorem d_Model_valueOf_12 : decode b_Model_valueOf 12 = .ok (.if_icmp .ge 80, 3) := by decide +kernel
theorem d_Model_valueOf_15 : decode b_Model_valueOf 15 = .ok (.lload_n 3, 1) := by decide +kernel
theorem d_Model_valueOf_16 : decode b_Model_valueOf 16 = .ok (.aload_n 0, 1) := by decide +kernel
theorem d_Model_valueOf_17 : decode b_Model_valueOf 17 = .ok (.iload_n 2, 1) := by decide +kernel
theorem d_Model_valueOf_18 : decode b_Model_valueOf 18 = .ok (.aload_n 0, 1) := by decide +kernel
theorem d_Model_valueOf_19 : decode b_Model_valueOf 19 = .ok (.getfield 31, 3) := by decide +kernel
theorem d_Model_valueOf_22 : decode b_Model_valueOf 22 = .ok (.iload 5, 2) := by decide +kernel
theorem d_Model_valueOf_24 : decode b_Model_valueOf 24 = .ok (.iaload, 1) := by decide +kernel
theorem d_Model_valueOf_25 : decode b_Model_valueOf 25 = .ok (.invokevirtual 107, 3) := by decide +kernel
theorem d_Model_valueOf_28 : decode b_Model_valueOf 28 = .ok (.i2l, 1) := by decide +kernel
theorem d_Model_valueOf_29 : decode b_Model_valueOf 29 = .ok (.lmul, 1) := by decide +kernel
theorem d_Model_valueOf_30 : decode b_Model_valueOf 30 = .ok (.lstore_n 3, 1) := by decide +kernel
theorem d_Model_valueOf_31 : decode b_Model_valueOf 31 = .ok (.iconst 0, 1) := by decide +kernel
theorem d_Model_valueOf_32 : decode b_Model_valueOf 32 = .ok (.istore 6, 2) := by decide +kernel
theorem d_Model_valueOf_34 : decode b_Model_valueOf 34 = .ok (.iload 6, 2) := by decide +kernel
theorem d_Model_valueOf_36 : decode b_Model_valueOf 36 = .ok (.iload 5, 2) := by decide +kernel
theorem d_Model_valueOf_38 : decode b_Model_valueOf 38 = .ok (.if_icmp .gt 48, 3) := by decide +kernel
theorem d_Model_valueOf_41 : decode b_Model_valueOf 41 = .ok (.lload_n 3, 1) := by decide +kernel
theorem d_Model_valueOf_42 : decode b_Model_valueOf 42 = .ok (.aload_n 0, 1) := by decide +kernel
theorem d_Model_valueOf_43 : decode b_Model_valueOf 43 = .ok (.iload_n 1, 1) := by decide +kernel
theorem d_Model_valueOf_44 : decode b_Model_valueOf 44 = .ok (.iload 5, 2) := by decide +kernel
theorem d_Model_valueOf_46 : decode b_Model_valueOf 46 = .ok (.iload 6, 2) := by decide +kernel
theorem d_Model_valueOf_48 : decode b_Model_valueOf 48 = .ok (.invokevirtual 148, 3) := by decide +kernel
theorem d_Model_valueOf_51 : decode b_Model_valueOf 51 = .ok (.ifCond .eq 26, 3) := by decide +kernel
theorem d_Model_valueOf_54 : decode b_Model_valueOf 54 = .ok (.aload_n 0, 1) := by decide +kernel
theorem d_Model_valueOf_55 : decode b_Model_valueOf 55 = .ok (.iload_n 2, 1) := by decide +kernel
theorem d_Model_valueOf_56 : decode b_Model_valueOf 56 = .ok (.aload_n 0, 1) := by decide +kernel
theorem d_Model_valueOf_57 : decode b_Model_valueOf 57 = .ok (.getfield 31, 3) := by decide +kernel
theorem d_Model_valueOf_60 : decode b_Model_valueOf 60 = .ok (.iload 5, 2) := by decide +kernel
theorem d_Model_valueOf_62 : decode b_Model_valueOf 62 = .ok (.iaload, 1) := by decide +kernel
theorem d_Model_valueOf_63 : decode b_Model_valueOf 63 = .ok (.aload_n 0, 1) := by decide +kernel
theorem d_Model_valueOf_64 : decode b_Model_valueOf 64 = .ok (.getfield 31, 3) := by decide +kernel
theorem d_Model_valueOf_67 : decode b_Model_valueOf 67 = .ok (.iload 6, 2) := by decide +kernel
theorem d_Model_valueOf_69 : decode b_Model_valueOf 69 = .ok (.iaload, 1) := by decide +kernel
theorem d_Model_valueOf_70 : decode b_Model_valueOf 70 = .ok (.invokevirtual 79, 3) := by decide +kernel
theorem d_Model_valueOf_73 : decode b_Model_valueOf 73 = .ok (.i2l, 1) := by decide +kernel
theorem d_Model_valueOf_74 : decode b_Model_valueOf 74 = .ok (.goto 4, 3) := by decide +kernel
theorem d_Model_valueOf_77 : decode b_Model_valueOf 77 = .ok (.lconst 1, 1) := by decide +kernel
theorem d_Model_valueOf_78 : decode b_Model_valueOf 78 = .ok (.lmul, 1) := by decide +kernel
theorem d_Model_valueOf_79 : decode b_Model_valueOf 79 = .ok (.lstore_n 3, 1) := by decide +kernel
theorem d_Model_valueOf_80 : decode b_Model_valueOf 80 = .ok (.iinc 6 1, 3) := by decide +kernel
theorem d_Model_valueOf_83 : decode b_Model_valueOf 83 = .ok (.goto (-49), 3) := by decide +kernel
theorem d_Model_valueOf_86 : decode b_Model_valueOf 86 = .ok (.iinc 5 1, 3) := by decide +kernel
theorem d_Model_valueOf_89 : decode b_Model_valueOf 89 = .ok (.goto (-84), 3) := by decide +kernel
theorem d_Model_valueOf_92 : decode b_Model_valueOf 92 = .ok (.lload_n 3, 1) := by decide +kernel
theorem d_Model_valueOf_93 : decode b_Model_valueOf 93 = .ok (.lreturn, 1) := by decide +kernel
theorem d_Model_images_0 : decode b_Model_images 0 = .ok (.iconst 0, 1) := by decide +kernel
theorem d_Model_images_1 : decode b_Model_images 1 = .ok (.istore_n 2, 1) := by decide +kernel
theorem d_Model_images_2 : decode b_Model_images 2 = .ok (.iconst 0, 1) := by decide +kernel
theorem d_Model_images_3 : decode b_Model_images 3 = .ok (.istore_n 3, 1) := by decide +kernel
theorem d_Model_images_4 : decode b_Model_images 4 = .ok (.iload_n 3, 1) := by decide +kernel
theorem d_Model_images_5 : decode b_Model_images 5 = .ok (.aload_n 0, 1) := by decide +kernel
theorem d_Model_images_6 : decode b_Model_images 6 = .ok (.iload_n 1, 1) := by decide +kernel
theorem d_Model_images_7 : decode b_Model_images 7 = .ok (.invokevirtual 75, 3) := by decide +kernel
theorem d_Model_images_10 : decode b_Model_images 10 = .ok (.if_icmp .ge 20, 3) := by decide +kernel
theorem d_Model_images_13 : decode b_Model_images 13 = .ok (.iload_n 2, 1) := by decide +kernel
theorem d_Model_images_14 : decode b_Model_images 14 = .ok (.iconst 1, 1) := by decide +kernel
theorem d_Model_images_15 : decode b_Model_images 15 = .ok (.aload_n 0, 1) := by decide +kernel
theorem d_Model_images_16 : decode b_Model_images 16 = .ok (.getfield 31, 3) := by decide +kernel
theorem d_Model_images_19 : decode b_Model_images 19 = .ok (.iload_n 3, 1) := by decide +kernel
theorem d_Model_images_20 : decode b_Model_images 20 = .ok (.iaload, 1) := by decide +kernel
theorem d_Model_images_21 : decode b_Model_images 21 = .ok (.ishl, 1) := by decide +kernel
theorem d_Model_images_22 : decode b_Model_images 22 = .ok (.ior, 1) := by decide +kernel
theorem d_Model_images_23 : decode b_Model_images 23 = .ok (.istore_n 2, 1) := by decide +kernel
theorem d_Model_images_24 : decode b_Model_images 24 = .ok (.iinc 3 1, 3) := by decide +kernel
theorem d_Model_images_27 : decode b_Model_images 27 = .ok (.goto (-23), 3) := by decide +kernel
theorem d_Model_images_30 : decode b_Model_images 30 = .ok (.iload_n 2, 1) := by decide +kernel
theorem d_Model_images_31 : decode b_Model_images 31 = .ok (.ireturn, 1) := by decide +kernel
theorem d_Model_keepsEdges_0 : decode b_Model_keepsEdges 0 = .ok (.iconst 0, 1) := by decide +kernel
theorem d_Model_keepsEdges_1 : decode b_Model_keepsEdges 1 = .ok (.istore_n 2, 1) := by decide +kernel
theorem d_Model_keepsEdges_2 : decode b_Model_keepsEdges 2 = .ok (.iload_n 2, 1) := by decide +kernel
theorem d_Model_keepsEdges_3 : decode b_Model_keepsEdges 3 = .ok (.bipush 64, 2) := by decide +kernel
theorem d_Model_keepsEdges_5 : decode b_Model_keepsEdges 5 = .ok (.if_icmp .ge 16, 3) := by decide +kernel
theorem d_Model_keepsEdges_8 : decode b_Model_keepsEdges 8 = .ok (.aload_n 0, 1) := by decide +kernel
theorem d_Model_keepsEdges_9 : decode b_Model_keepsEdges 9 = .ok (.getfield 43, 3) := by decide +kernel
theorem d_Model_keepsEdges_12 : decode b_Model_keepsEdges 12 = .ok (.iload_n 2, 1) := by decide +kernel
theorem d_Model_keepsEdges_13 : decode b_Model_keepsEdges 13 = .ok (.iconst 0, 1) := by decide +kernel
theorem d_Model_keepsEdges_14 : decode b_Model_keepsEdges 14 = .ok (.bastore, 1) := by decide +kernel
theorem d_Model_keepsEdges_15 : decode b_Model_keepsEdges 15 = .ok (.iinc 2 1, 3) := by decide +kernel
theorem d_Model_keepsEdges_18 : decode b_Model_keepsEdges 18 = .ok (.goto (-16), 3) := by decide +kernel
theorem d_Model_keepsEdges_21 : decode b_Model_keepsEdges 21 = .ok (.iconst 1, 1) := by decide +kernel
theorem d_Model_keepsEdges_22 : decode b_Model_keepsEdges 22 = .ok (.istore_n 2, 1) := by decide +kernel
theorem d_Model_keepsEdges_23 : decode b_Model_keepsEdges 23 = .ok (.iconst 0, 1) := by decide +kernel
theorem d_Model_keepsEdges_24 : decode b_Model_keepsEdges 24 = .ok (.istore_n 3, 1) := by decide +kernel
theorem d_Model_keepsEdges_25 : decode b_Model_keepsEdges 25 = .ok (.iload_n 3, 1) := by decide +kernel
theorem d_Model_keepsEdges_26 : decode b_Model_keepsEdges 26 = .ok (.aload_n 0, 1) := by decide +kernel
theorem d_Model_keepsEdges_27 : decode b_Model_keepsEdges 27 = .ok (.iload_n 1, 1) := by decide +kernel
theorem d_Model_keepsEdges_28 : decode b_Model_keepsEdges 28 = .ok (.invokevirtual 75, 3) := by decide +kernel
theorem d_Model_keepsEdges_31 : decode b_Model_keepsEdges 31 = .ok (.if_icmp .ge 122, 3) := by decide +kernel
theorem d_Model_keepsEdges_34 : decode b_Model_keepsEdges 34 = .ok (.iconst 0, 1) := by decide +kernel
theorem d_Model_keepsEdges_35 : decode b_Model_keepsEdges 35 = .ok (.istore 4, 2) := by decide +kernel
theorem d_Model_keepsEdges_37 : decode b_Model_keepsEdges 37 = .ok (.iload 4, 2) := by decide +kernel
theorem d_Model_keepsEdges_39 : decode b_Model_keepsEdges 39 = .ok (.iload_n 3, 1) := by decide +kernel
theorem d_Model_keepsEdges_40 : decode b_Model_keepsEdges 40 = .ok (.if_icmp .ge 107, 3) := by decide +kernel
theorem d_Model_keepsEdges_43 : decode b_Model_keepsEdges 43 = .ok (.aload_n 0, 1) := by decide +kernel
theorem d_Model_keepsEdges_44 : decode b_Model_keepsEdges 44 = .ok (.iload_n 1, 1) := by decide +kernel
theorem d_Model_keepsEdges_45 : decode b_Model_keepsEdges 45 = .ok (.iload_n 3, 1) := by decide +kernel
theorem d_Model_keepsEdges_46 : decode b_Model_keepsEdges 46 = .ok (.iload 4, 2) := by decide +kernel
theorem d_Model_keepsEdges_48 : decode b_Model_keepsEdges 48 = .ok (.invokevirtual 148, 3) := by decide +kernel
theorem d_Model_keepsEdges_51 : decode b_Model_keepsEdges 51 = .ok (.ifCond .eq 90, 3) := by decide +kernel
theorem d_Model_keepsEdges_54 : decode b_Model_keepsEdges 54 = .ok (.aload_n 0, 1) := by decide +kernel
theorem d_Model_keepsEdges_55 : decode b_Model_keepsEdges 55 = .ok (.getfield 31, 3) := by decide +kernel
theorem d_Model_keepsEdges_58 : decode b_Model_keepsEdges 58 = .ok (.iload_n 3, 1) := by decide +kernel
theorem d_Model_keepsEdges_59 : decode b_Model_keepsEdges 59 = .ok (.iaload, 1) := by decide +kernel
theorem d_Model_keepsEdges_60 : decode b_Model_keepsEdges 60 = .ok (.aload_n 0, 1) := by decide +kernel
theorem d_Model_keepsEdges_61 : decode b_Model_keepsEdges 61 = .ok (.getfield 31, 3) := by decide +kernel
theorem d_Model_keepsEdges_64 : decode b_Model_keepsEdges 64 = .ok (.iload 4, 2) := by decide +kernel
theorem d_Model_keepsEdges_66 : decode b_Model_keepsEdges 66 = .ok (.iaload, 1) := by decide +kernel
theorem d_Model_keepsEdges_67 : decode b_Model_keepsEdges 67 = .ok (.if_icmp .ge 12, 3) := by decide +kernel
theorem d_Model_keepsEdges_70 : decode b_Model_keepsEdges 70 = .ok (.aload_n 0, 1) := by decide +kernel
theorem d_Model_keepsEdges_71 : decode b_Model_keepsEdges 71 = .ok (.getfield 31, 3) := by decide +kernel
theorem d_Model_keepsEdges_74 : decode b_Model_keepsEdges 74 = .ok (.iload_n 3, 1) := by decide +kernel
theorem d_Model_keepsEdges_75 : decode b_Model_keepsEdges 75 = .ok (.iaload, 1) := by decide +kernel
theorem d_Model_keepsEdges_76 : decode b_Model_keepsEdges 76 = .ok (.goto 10, 3) := by decide +kernel
theorem d_Model_keepsEdges_79 : decode b_Model_keepsEdges 79 = .ok (.aload_n 0, 1) := by decide +kernel
theorem d_Model_keepsEdges_80 : decode b_Model_keepsEdges 80 = .ok (.getfield 31, 3) := by decide +kernel
theorem d_Model_keepsEdges_83 : decode b_Model_keepsEdges 83 = .ok (.iload 4, 2) := by decide +kernel
theorem d_Model_keepsEdges_85 : decode b_Model_keepsEdges 85 = .ok (.iaload, 1) := by decide +kernel
theorem d_Model_keepsEdges_86 : decode b_Model_keepsEdges 86 = .ok (.istore 5, 2) := by decide +kernel
theorem d_Model_keepsEdges_88 : decode b_Model_keepsEdges 88 = .ok (.bipush 8, 2) := by decide +kernel
theorem d_Model_keepsEdges_90 : decode b_Model_keepsEdges 90 = .ok (.iload 5, 2) := by decide +kernel
theorem d_Model_keepsEdges_92 : decode b_Model_keepsEdges 92 = .ok (.imul, 1) := by decide +kernel
theorem d_Model_keepsEdges_93 : decode b_Model_keepsEdges 93 = .ok (.aload_n 0, 1) := by decide +kernel
theorem d_Model_keepsEdges_94 : decode b_Model_keepsEdges 94 = .ok (.getfield 31, 3) := by decide +kernel
theorem d_Model_keepsEdges_97 : decode b_Model_keepsEdges 97 = .ok (.iload_n 3, 1) := by decide +kernel
theorem d_Model_keepsEdges_98 : decode b_Model_keepsEdges 98 = .ok (.iaload, 1) := by decide +kernel
theorem d_Model_keepsEdges_99 : decode b_Model_keepsEdges 99 = .ok (.iadd, 1) := by decide +kernel
theorem d_Model_keepsEdges_100 : decode b_Model_keepsEdges 100 = .ok (.aload_n 0, 1) := by decide +kernel
theorem d_Model_keepsEdges_101 : decode b_Model_keepsEdges 101 = .ok (.getfield 31, 3) := by decide +kernel
theorem d_Model_keepsEdges_104 : decode b_Model_keepsEdges 104 = .ok (.iload 4, 2) := by decide +kernel
theorem d_Model_keepsEdges_106 : decode b_Model_keepsEdges 106 = .ok (.iaload, 1) := by decide +kernel
theorem d_Model_keepsEdges_107 : decode b_Model_keepsEdges 107 = .ok (.iadd, 1) := by decide +kernel
theorem d_Model_keepsEdges_108 : decode b_Model_keepsEdges 108 = .ok (.iload 5, 2) := by decide +kernel
theorem d_Model_keepsEdges_110 : decode b_Model_keepsEdges 110 = .ok (.isub, 1) := by decide +kernel
theorem d_Model_keepsEdges_111 : decode b_Model_keepsEdges 111 = .ok (.istore 6, 2) := by decide +kernel
theorem d_Model_keepsEdges_113 : decode b_Model_keepsEdges 113 = .ok (.iload_n 2, 1) := by decide +kernel
theorem d_Model_keepsEdges_114 : decode b_Model_keepsEdges 114 = .ok (.ifCond .eq 17, 3) := by decide +kernel
theorem d_Model_keepsEdges_117 : decode b_Model_keepsEdges 117 = .ok (.aload_n 0, 1) := by decide +kernel
theorem d_Model_keepsEdges_118 : decode b_Model_keepsEdges 118 = .ok (.getfield 43, 3) := by decide +kernel
theorem d_Model_keepsEdges_121 : decode b_Model_keepsEdges 121 = .ok (.iload 6, 2) := by decide +kernel
theorem d_Model_keepsEdges_123 : decode b_Model_keepsEdges 123 = .ok (.baload, 1) := by decide +kernel
theorem d_Model_keepsEdges_124 : decode b_Model_keepsEdges 124 = .ok (.ifCond .ne 7, 3) := by decide +kernel
theorem d_Model_keepsEdges_127 : decode b_Model_keepsEdges 127 = .ok (.iconst 1, 1) := by decide +kernel
theorem d_Model_keepsEdges_128 : decode b_Model_keepsEdges 128 = .ok (.goto 4, 3) := by decide +kernel
theorem d_Model_keepsEdges_131 : decode b_Model_keepsEdges 131 = .ok (.iconst 0, 1) := by decide +kernel
theorem d_Model_keepsEdges_132 : decode b_Model_keepsEdges 132 = .ok (.istore_n 2, 1) := by decide +kernel
theorem d_Model_keepsEdges_133 : decode b_Model_keepsEdges 133 = .ok (.aload_n 0, 1) := by decide +kernel
theorem d_Model_keepsEdges_134 : decode b_Model_keepsEdges 134 = .ok (.getfield 43, 3) := by decide +kernel
theorem d_Model_keepsEdges_137 : decode b_Model_keepsEdges 137 = .ok (.iload 6, 2) := by decide +kernel
theorem d_Model_keepsEdges_139 : decode b_Model_keepsEdges 139 = .ok (.iconst 1, 1) := by decide +kernel
theorem d_Model_keepsEdges_140 : decode b_Model_keepsEdges 140 = .ok (.bastore, 1) := by decide +kernel
theorem d_Model_keepsEdges_141 : decode b_Model_keepsEdges 141 = .ok (.iinc 4 1, 3) := by decide +kernel
theorem d_Model_keepsEdges_144 : decode b_Model_keepsEdges 144 = .ok (.goto (-107), 3) := by decide +kernel
theorem d_Model_keepsEdges_147 : decode b_Model_keepsEdges 147 = .ok (.iinc 3 1, 3) := by decide +kernel
theorem d_Model_keepsEdges_150 : decode b_Model_keepsEdges 150 = .ok (.goto (-125), 3) := by decide +kernel
theorem d_Model_keepsEdges_153 : decode b_Model_keepsEdges 153 = .ok (.iload_n 2, 1) := by decide +kernel
theorem d_Model_keepsEdges_154 : decode b_Model_keepsEdges 154 = .ok (.ireturn, 1) := by decide +kernel
theorem d_Model_isCounted_0 : decode b_Model_isCounted 0 = .ok (.iload_n 3, 1) := by decide +kernel
theorem d_Model_isCounted_1 : decode b_Model_isCounted 1 = .ok (.tableswitch 85 0 5 #[39, 39, 41, 41, 63, 63], 39) := by decide +kernel
theorem d_Model_isCounted_40 : decode b_Model_isCounted 40 = .ok (.iconst 1, 1) := by decide +kernel
theorem d_Model_isCounted_41 : decode b_Model_isCounted 41 = .ok (.ireturn, 1) := by decide +kernel
theorem d_Model_isCounted_42 : decode b_Model_isCounted 42 = .ok (.aload_n 0, 1) := by decide +kernel
theorem d_Model_isCounted_43 : decode b_Model_isCounted 43 = .ok (.iload_n 1, 1) := by decide +kernel
theorem d_Model_isCounted_44 : decode b_Model_isCounted 44 = .ok (.invokevirtual 227, 3) := by decide +kernel
theorem d_Model_isCounted_47 : decode b_Model_isCounted 47 = .ok (.invokestatic 174, 3) := by decide +kernel
theorem d_Model_isCounted_50 : decode b_Model_isCounted 50 = .ok (.aload_n 0, 1) := by decide +kernel
theorem d_Model_isCounted_51 : decode b_Model_isCounted 51 = .ok (.iload_n 1, 1) := by decide +kernel
theorem d_Model_isCounted_52 : decode b_Model_isCounted 52 = .ok (.invokevirtual 75, 3) := by decide +kernel
theorem d_Model_isCounted_55 : decode b_Model_isCounted 55 = .ok (.if_icmp .ne 7, 3) := by decide +kernel
theorem d_Model_isCounted_58 : decode b_Model_isCounted 58 = .ok (.iconst 1, 1) := by decide +kernel
theorem d_Model_isCounted_59 : decode b_Model_isCounted 59 = .ok (.goto 4, 3) := by decide +kernel
theorem d_Model_isCounted_62 : decode b_Model_isCounted 62 = .ok (.iconst 0, 1) := by decide +kernel
theorem d_Model_isCounted_63 : decode b_Model_isCounted 63 = .ok (.ireturn, 1) := by decide +kernel
theorem d_Model_isCounted_64 : decode b_Model_isCounted 64 = .ok (.aload_n 0, 1) := by decide +kernel
theorem d_Model_isCounted_65 : decode b_Model_isCounted 65 = .ok (.iload_n 1, 1) := by decide +kernel
theorem d_Model_isCounted_66 : decode b_Model_isCounted 66 = .ok (.invokevirtual 227, 3) := by decide +kernel
theorem d_Model_isCounted_69 : decode b_Model_isCounted 69 = .ok (.invokestatic 174, 3) := by decide +kernel
theorem d_Model_isCounted_72 : decode b_Model_isCounted 72 = .ok (.aload_n 0, 1) := by decide +kernel
theorem d_Model_isCounted_73 : decode b_Model_isCounted 73 = .ok (.iload_n 2, 1) := by decide +kernel
theorem d_Model_isCounted_74 : decode b_Model_isCounted 74 = .ok (.invokevirtual 75, 3) := by decide +kernel
theorem d_Model_isCounted_77 : decode b_Model_isCounted 77 = .ok (.if_icmp .ne 7, 3) := by decide +kernel
theorem d_Model_isCounted_80 : decode b_Model_isCounted 80 = .ok (.iconst 1, 1) := by decide +kernel
theorem d_Model_isCounted_81 : decode b_Model_isCounted 81 = .ok (.goto 4, 3) := by decide +kernel
theorem d_Model_isCounted_84 : decode b_Model_isCounted 84 = .ok (.iconst 0, 1) := by decide +kernel
theorem d_Model_isCounted_85 : decode b_Model_isCounted 85 = .ok (.ireturn, 1) := by decide +kernel
theorem d_Model_isCounted_86 : decode b_Model_isCounted 86 = .ok (.aload_n 0, 1) := by decide +kernel
theorem d_Model_isCounted_87 : decode b_Model_isCounted 87 = .ok (.iload_n 1, 1) := by decide +kernel
theorem d_Model_isCounted_88 : decode b_Model_isCounted 88 = .ok (.invokevirtual 230, 3) := by decide +kernel
theorem d_Model_isCounted_91 : decode b_Model_isCounted 91 = .ok (.ireturn, 1) := by decide +kernel
theorem d_Model_countOf_0 : decode b_Model_countOf 0 = .ok (.iload_n 3, 1) := by decide +kernel
theorem d_Model_countOf_1 : decode b_Model_countOf 1 = .ok (.iconst 1, 1) := by decide +kernel
theorem d_Model_countOf_2 : decode b_Model_countOf 2 = .ok (.if_icmp .eq 13, 3) := by decide +kernel
theorem d_Model_countOf_5 : decode b_Model_countOf 5 = .ok (.iload_n 3, 1) := by decide +kernel
theorem d_Model_countOf_6 : decode b_Model_countOf 6 = .ok (.iconst 3, 1) := by decide +kernel
theorem d_Model_countOf_7 : decode b_Model_countOf 7 = .ok (.if_icmp .eq 8, 3) := by decide +kernel
theorem d_Model_countOf_10 : decode b_Model_countOf 10 = .ok (.iload_n 3, 1) := by decide +kernel
theorem d_Model_countOf_11 : decode b_Model_countOf 11 = .ok (.iconst 5, 1) := by decide +kernel
theorem d_Model_countOf_12 : decode b_Model_countOf 12 = .ok (.if_icmp .ne 7, 3) := by decide +kernel
theorem d_Model_countOf_15 : decode b_Model_countOf 15 = .ok (.iconst 1, 1) := by decide +kernel
theorem d_Model_countOf_16 : decode b_Model_countOf 16 = .ok (.goto 4, 3) := by decide +kernel
theorem d_Model_countOf_19 : decode b_Model_countOf 19 = .ok (.iconst 0, 1) := by decide +kernel
theorem d_Model_countOf_20 : decode b_Model_countOf 20 = .ok (.istore 4, 2) := by decide +kernel
theorem d_Model_countOf_22 : decode b_Model_countOf 22 = .ok (.lconst 0, 1) := by decide +kernel
theorem d_Model_countOf_23 : decode b_Model_countOf 23 = .ok (.lstore 5, 2) := by decide +kernel
theorem d_Model_countOf_25 : decode b_Model_countOf 25 = .ok (.aload_n 0, 1) := by decide +kernel
theorem d_Model_countOf_26 : decode b_Model_countOf 26 = .ok (.getfield 31, 3) := by decide +kernel
theorem d_Model_countOf_29 : decode b_Model_countOf 29 = .ok (.iconst 0, 1) := by decide +kernel
theorem d_Model_countOf_30 : decode b_Model_countOf 30 = .ok (.iconst (-1), 1) := by decide +kernel
theorem d_Model_countOf_31 : decode b_Model_countOf 31 = .ok (.iastore, 1) := by decide +kernel
theorem d_Model_countOf_32 : decode b_Model_countOf 32 = .ok (.aload_n 0, 1) := by decide +kernel
theorem d_Model_countOf_33 : decode b_Model_countOf 33 = .ok (.iload_n 1, 1) := by decide +kernel
theorem d_Model_countOf_34 : decode b_Model_countOf 34 = .ok (.iload_n 2, 1) := by decide +kernel
theorem d_Model_countOf_35 : decode b_Model_countOf 35 = .ok (.iconst 0, 1) := by decide +kernel
theorem d_Model_countOf_36 : decode b_Model_countOf 36 = .ok (.invokevirtual 233, 3) := by decide +kernel
theorem d_Model_countOf_39 : decode b_Model_countOf 39 = .ok (.istore 7, 2) := by decide +kernel
theorem d_Model_countOf_41 : decode b_Model_countOf 41 = .ok (.iload 7, 2) := by decide +kernel
theorem d_Model_countOf_43 : decode b_Model_countOf 43 = .ok (.ifCond .eq 67, 3) := by decide +kernel
theorem d_Model_countOf_46 : decode b_Model_countOf 46 = .ok (.aload_n 0, 1) := by decide +kernel
theorem d_Model_countOf_47 : decode b_Model_countOf 47 = .ok (.iload_n 1, 1) := by decide +kernel
theorem d_Model_countOf_48 : decode b_Model_countOf 48 = .ok (.iload_n 2, 1) := by decide +kernel
theorem d_Model_countOf_49 : decode b_Model_countOf 49 = .ok (.iload_n 3, 1) := by decide +kernel
theorem d_Model_countOf_50 : decode b_Model_countOf 50 = .ok (.invokevirtual 236, 3) := by decide +kernel
theorem d_Model_countOf_53 : decode b_Model_countOf 53 = .ok (.ifCond .eq 23, 3) := by decide +kernel
theorem d_Model_countOf_56 : decode b_Model_countOf 56 = .ok (.lload 5, 2) := by decide +kernel
theorem d_Model_countOf_58 : decode b_Model_countOf 58 = .ok (.iload 4, 2) := by decide +kernel
theorem d_Model_countOf_60 : decode b_Model_countOf 60 = .ok (.ifCond .eq 12, 3) := by decide +kernel
theorem d_Model_countOf_63 : decode b_Model_countOf 63 = .ok (.aload_n 0, 1) := by decide +kernel
theorem d_Model_countOf_64 : decode b_Model_countOf 64 = .ok (.iload_n 1, 1) := by decide +kernel
theorem d_Model_countOf_65 : decode b_Model_countOf 65 = .ok (.iload_n 2, 1) := by decide +kernel
theorem d_Model_countOf_66 : decode b_Model_countOf 66 = .ok (.invokevirtual 239, 3) := by decide +kernel
theorem d_Model_countOf_69 : decode b_Model_countOf 69 = .ok (.goto 4, 3) := by decide +kernel
theorem d_Model_countOf_72 : decode b_Model_countOf 72 = .ok (.lconst 1, 1) := by decide +kernel
theorem d_Model_countOf_73 : decode b_Model_countOf 73 = .ok (.ladd, 1) := by decide +kernel
theorem d_Model_countOf_74 : decode b_Model_countOf 74 = .ok (.lstore 5, 2) := by decide +kernel
theorem d_Model_countOf_76 : decode b_Model_countOf 76 = .ok (.aload_n 0, 1) := by decide +kernel
theorem d_Model_countOf_77 : decode b_Model_countOf 77 = .ok (.iload_n 1, 1) := by decide +kernel
theorem d_Model_countOf_78 : decode b_Model_countOf 78 = .ok (.invokevirtual 75, 3) := by decide +kernel
theorem d_Model_countOf_81 : decode b_Model_countOf 81 = .ok (.ifCond .le 23, 3) := by decide +kernel
theorem d_Model_countOf_84 : decode b_Model_countOf 84 = .ok (.aload_n 0, 1) := by decide +kernel
theorem d_Model_countOf_85 : decode b_Model_countOf 85 = .ok (.iload_n 1, 1) := by decide +kernel
theorem d_Model_countOf_86 : decode b_Model_countOf 86 = .ok (.iload_n 2, 1) := by decide +kernel
theorem d_Model_countOf_87 : decode b_Model_countOf 87 = .ok (.aload_n 0, 1) := by decide +kernel
theorem d_Model_countOf_88 : decode b_Model_countOf 88 = .ok (.iload_n 1, 1) := by decide +kernel
theorem d_Model_countOf_89 : decode b_Model_countOf 89 = .ok (.invokevirtual 75, 3) := by decide +kernel
theorem d_Model_countOf_92 : decode b_Model_countOf 92 = .ok (.iconst 1, 1) := by decide +kernel
theorem d_Model_countOf_93 : decode b_Model_countOf 93 = .ok (.isub, 1) := by decide +kernel
theorem d_Model_countOf_94 : decode b_Model_countOf 94 = .ok (.invokevirtual 233, 3) := by decide +kernel
theorem d_Model_countOf_97 : decode b_Model_countOf 97 = .ok (.ifCond .eq 7, 3) := by decide +kernel
theorem d_Model_countOf_100 : decode b_Model_countOf 100 = .ok (.iconst 1, 1) := by decide +kernel
theorem d_Model_countOf_101 : decode b_Model_countOf 101 = .ok (.goto 4, 3) := by decide +kernel
theorem d_Model_countOf_104 : decode b_Model_countOf 104 = .ok (.iconst 0, 1) := by decide +kernel
theorem d_Model_countOf_105 : decode b_Model_countOf 105 = .ok (.istore 7, 2) := by decide +kernel
theorem d_Model_countOf_107 : decode b_Model_countOf 107 = .ok (.goto (-66), 3) := by decide +kernel
theorem d_Model_countOf_110 : decode b_Model_countOf 110 = .ok (.lload 5, 2) := by decide +kernel
theorem d_Model_countOf_112 : decode b_Model_countOf 112 = .ok (.lreturn, 1) := by decide +kernel
theorem d_Model_count_0 : decode b_Model_count 0 = .ok (.iload_n 1, 1) := by decide +kernel
theorem d_Model_count_1 : decode b_Model_count 1 = .ok (.invokestatic 71, 3) := by decide +kernel
theorem d_Model_count_4 : decode b_Model_count 4 = .ok (.ifCond .eq 10, 3) := by decide +kernel
theorem d_Model_count_7 : decode b_Model_count 7 = .ok (.iload_n 2, 1) := by decide +kernel
theorem d_Model_count_8 : decode b_Model_count 8 = .ok (.invokestatic 71, 3) := by decide +kernel
theorem d_Model_count_11 : decode b_Model_count 11 = .ok (.ifCond .ne 10, 3) := by decide +kernel
theorem d_Model_count_14 : decode b_Model_count 14 = .ok (.aload_n 0, 1) := by decide +kernel
theorem d_Model_count_15 : decode b_Model_count 15 = .ok (.iconst 1, 1) := by decide +kernel
theorem d_Model_count_16 : decode b_Model_count 16 = .ok (.invokevirtual 93, 3) := by decide +kernel
theorem d_Model_count_19 : decode b_Model_count 19 = .ok (.i2l, 1) := by decide +kernel
theorem d_Model_count_20 : decode b_Model_count 20 = .ok (.lreturn, 1) := by decide +kernel
theorem d_Model_count_21 : decode b_Model_count 21 = .ok (.iload_n 3, 1) := by decide +kernel
theorem d_Model_count_22 : decode b_Model_count 22 = .ok (.iconst 0, 1) := by decide +kernel
theorem d_Model_count_23 : decode b_Model_count 23 = .ok (.bipush 6, 2) := by decide +kernel
theorem d_Model_count_25 : decode b_Model_count 25 = .ok (.invokestatic 67, 3) := by decide +kernel
theorem d_Model_count_28 : decode b_Model_count 28 = .ok (.ifCond .ne 10, 3) := by decide +kernel
theorem d_Model_count_31 : decode b_Model_count 31 = .ok (.aload_n 0, 1) := by decide +kernel
theorem d_Model_count_32 : decode b_Model_count 32 = .ok (.iconst 2, 1) := by decide +kernel
theorem d_Model_count_33 : decode b_Model_count 33 = .ok (.invokevirtual 93, 3) := by decide +kernel
theorem d_Model_count_36 : decode b_Model_count 36 = .ok (.i2l, 1) := by decide +kernel
theorem d_Model_count_37 : decode b_Model_count 37 = .ok (.lreturn, 1) := by decide +kernel
theorem d_Model_count_38 : decode b_Model_count 38 = .ok (.aload_n 0, 1) := by decide +kernel
theorem d_Model_count_39 : decode b_Model_count 39 = .ok (.iload_n 1, 1) := by decide +kernel
theorem d_Model_count_40 : decode b_Model_count 40 = .ok (.invokevirtual 75, 3) := by decide +kernel
theorem d_Model_count_43 : decode b_Model_count 43 = .ok (.bipush 6, 2) := by decide +kernel
theorem d_Model_count_45 : decode b_Model_count 45 = .ok (.if_icmp .le 10, 3) := by decide +kernel
theorem d_Model_count_48 : decode b_Model_count 48 = .ok (.aload_n 0, 1) := by decide +kernel
theorem d_Model_count_49 : decode b_Model_count 49 = .ok (.iconst 3, 1) := by decide +kernel
theorem d_Model_count_50 : decode b_Model_count 50 = .ok (.invokevirtual 93, 3) := by decide +kernel
theorem d_Model_count_53 : decode b_Model_count 53 = .ok (.i2l, 1) := by decide +kernel
theorem d_Model_count_54 : decode b_Model_count 54 = .ok (.lreturn, 1) := by decide +kernel
theorem d_Model_count_55 : decode b_Model_count 55 = .ok (.aload_n 0, 1) := by decide +kernel
theorem d_Model_count_56 : decode b_Model_count 56 = .ok (.iconst 0, 1) := by decide +kernel
theorem d_Model_count_57 : decode b_Model_count 57 = .ok (.putfield 63, 3) := by decide +kernel
theorem d_Model_count_60 : decode b_Model_count 60 = .ok (.aload_n 0, 1) := by decide +kernel
theorem d_Model_count_61 : decode b_Model_count 61 = .ok (.iload_n 1, 1) := by decide +kernel
theorem d_Model_count_62 : decode b_Model_count 62 = .ok (.iload_n 2, 1) := by decide +kernel
theorem d_Model_count_63 : decode b_Model_count 63 = .ok (.iload_n 3, 1) := by decide +kernel
theorem d_Model_count_64 : decode b_Model_count 64 = .ok (.invokevirtual 243, 3) := by decide +kernel
theorem d_Model_count_67 : decode b_Model_count 67 = .ok (.lreturn, 1) := by decide +kernel
theorem d_Model_density_0 : decode b_Model_density 0 = .ok (.iload_n 1, 1) := by decide +kernel
theorem d_Model_density_1 : decode b_Model_density 1 = .ok (.invokestatic 71, 3) := by decide +kernel
theorem d_Model_density_4 : decode b_Model_density 4 = .ok (.ifCond .eq 10, 3) := by decide +kernel
theorem d_Model_density_7 : decode b_Model_density 7 = .ok (.iload_n 2, 1) := by decide +kernel
theorem d_Model_density_8 : decode b_Model_density 8 = .ok (.invokestatic 71, 3) := by decide +kernel
theorem d_Model_density_11 : decode b_Model_density 11 = .ok (.ifCond .ne 10, 3) := by decide +kernel
theorem d_Model_density_14 : decode b_Model_density 14 = .ok (.aload_n 0, 1) := by decide +kernel
theorem d_Model_density_15 : decode b_Model_density 15 = .ok (.iconst 1, 1) := by decide +kernel
theorem d_Model_density_16 : decode b_Model_density 16 = .ok (.invokevirtual 93, 3) := by decide +kernel
theorem d_Model_density_19 : decode b_Model_density 19 = .ok (.i2l, 1) := by decide +kernel
theorem d_Model_density_20 : decode b_Model_density 20 = .ok (.lreturn, 1) := by decide +kernel
theorem d_Model_density_21 : decode b_Model_density 21 = .ok (.iload_n 3, 1) := by decide +kernel
theorem d_Model_density_22 : decode b_Model_density 22 = .ok (.iconst 0, 1) := by decide +kernel
theorem d_Model_density_23 : decode b_Model_density 23 = .ok (.iconst 1, 1) := by decide +kernel
theorem d_Model_density_24 : decode b_Model_density 24 = .ok (.invokestatic 67, 3) := by decide +kernel
theorem d_Model_density_27 : decode b_Model_density 27 = .ok (.ifCond .ne 10, 3) := by decide +kernel
theorem d_Model_density_30 : decode b_Model_density 30 = .ok (.aload_n 0, 1) := by decide +kernel
theorem d_Model_density_31 : decode b_Model_density 31 = .ok (.iconst 2, 1) := by decide +kernel
theorem d_Model_density_32 : decode b_Model_density 32 = .ok (.invokevirtual 93, 3) := by decide +kernel
theorem d_Model_density_35 : decode b_Model_density 35 = .ok (.i2l, 1) := by decide +kernel
theorem d_Model_density_36 : decode b_Model_density 36 = .ok (.lreturn, 1) := by decide +kernel
theorem d_Model_density_37 : decode b_Model_density 37 = .ok (.aload_n 0, 1) := by decide +kernel
theorem d_Model_density_38 : decode b_Model_density 38 = .ok (.iload_n 1, 1) := by decide +kernel
theorem d_Model_density_39 : decode b_Model_density 39 = .ok (.invokevirtual 75, 3) := by decide +kernel
theorem d_Model_density_42 : decode b_Model_density 42 = .ok (.bipush 6, 2) := by decide +kernel
theorem d_Model_density_44 : decode b_Model_density 44 = .ok (.if_icmp .gt 11, 3) := by decide +kernel
theorem d_Model_density_47 : decode b_Model_density 47 = .ok (.aload_n 0, 1) := by decide +kernel
theorem d_Model_density_48 : decode b_Model_density 48 = .ok (.iload_n 2, 1) := by decide +kernel
theorem d_Model_density_49 : decode b_Model_density 49 = .ok (.invokevirtual 75, 3) := by decide +kernel
theorem d_Model_density_52 : decode b_Model_density 52 = .ok (.ifCond .ne 10, 3) := by decide +kernel
theorem d_Model_density_55 : decode b_Model_density 55 = .ok (.aload_n 0, 1) := by decide +kernel
theorem d_Model_density_56 : decode b_Model_density 56 = .ok (.iconst 3, 1) := by decide +kernel
theorem d_Model_density_57 : decode b_Model_density 57 = .ok (.invokevirtual 93, 3) := by decide +kernel
theorem d_Model_density_60 : decode b_Model_density 60 = .ok (.i2l, 1) := by decide +kernel
theorem d_Model_density_61 : decode b_Model_density 61 = .ok (.lreturn, 1) := by decide +kernel
theorem d_Model_density_62 : decode b_Model_density 62 = .ok (.aload_n 0, 1) := by decide +kernel
theorem d_Model_density_63 : decode b_Model_density 63 = .ok (.iconst 0, 1) := by decide +kernel
theorem d_Model_density_64 : decode b_Model_density 64 = .ok (.putfield 63, 3) := by decide +kernel
theorem d_Model_density_67 : decode b_Model_density 67 = .ok (.aload_n 0, 1) := by decide +kernel
theorem d_Model_density_68 : decode b_Model_density 68 = .ok (.iload_n 1, 1) := by decide +kernel
theorem d_Model_density_69 : decode b_Model_density 69 = .ok (.iload_n 2, 1) := by decide +kernel
theorem d_Model_density_70 : decode b_Model_density 70 = .ok (.iconst 0, 1) := by decide +kernel
theorem d_Model_density_71 : decode b_Model_density 71 = .ok (.invokevirtual 243, 3) := by decide +kernel
theorem d_Model_density_74 : decode b_Model_density 74 = .ok (.lstore 4, 2) := by decide +kernel
theorem d_Model_density_76 : decode b_Model_density 76 = .ok (.lconst 1, 1) := by decide +kernel
theorem d_Model_density_77 : decode b_Model_density 77 = .ok (.lstore 6, 2) := by decide +kernel
theorem d_Model_density_79 : decode b_Model_density 79 = .ok (.iconst 0, 1) := by decide +kernel
theorem d_Model_density_80 : decode b_Model_density 80 = .ok (.istore 8, 2) := by decide +kernel
theorem d_Model_density_82 : decode b_Model_density 82 = .ok (.iload 8, 2) := by decide +kernel
theorem d_Model_density_84 : decode b_Model_density 84 = .ok (.aload_n 0, 1) := by decide +kernel
theorem d_Model_density_85 : decode b_Model_density 85 = .ok (.iload_n 1, 1) := by decide +kernel
theorem d_Model_density_86 : decode b_Model_density 86 = .ok (.invokevirtual 75, 3) := by decide +kernel
theorem d_Model_density_89 : decode b_Model_density 89 = .ok (.if_icmp .ge 20, 3) := by decide +kernel
theorem d_Model_density_92 : decode b_Model_density 92 = .ok (.lload 6, 2) := by decide +kernel
theorem d_Model_density_94 : decode b_Model_density 94 = .ok (.aload_n 0, 1) := by decide +kernel
theorem d_Model_density_95 : decode b_Model_density 95 = .ok (.iload_n 2, 1) := by decide +kernel
theorem d_Model_density_96 : decode b_Model_density 96 = .ok (.invokevirtual 75, 3) := by decide +kernel
theorem d_Model_density_99 : decode b_Model_density 99 = .ok (.i2l, 1) := by decide +kernel
theorem d_Model_density_100 : decode b_Model_density 100 = .ok (.lmul, 1) := by decide +kernel
theorem d_Model_density_101 : decode b_Model_density 101 = .ok (.lstore 6, 2) := by decide +kernel
theorem d_Model_density_103 : decode b_Model_density 103 = .ok (.iinc 8 1, 3) := by decide +kernel
theorem d_Model_density_106 : decode b_Model_density 106 = .ok (.goto (-24), 3) := by decide +kernel
theorem d_Model_density_109 : decode b_Model_density 109 = .ok (.lload 4, 2) := by decide +kernel
theorem d_Model_density_111 : decode b_Model_density 111 = .ok (.lstore 8, 2) := by decide +kernel
theorem d_Model_density_113 : decode b_Model_density 113 = .ok (.lload 6, 2) := by decide +kernel
theorem d_Model_density_115 : decode b_Model_density 115 = .ok (.lstore 10, 2) := by decide +kernel
theorem d_Model_density_117 : decode b_Model_density 117 = .ok (.lload 10, 2) := by decide +kernel
theorem d_Model_density_119 : decode b_Model_density 119 = .ok (.lconst 0, 1) := by decide +kernel
theorem d_Model_density_120 : decode b_Model_density 120 = .ok (.lcmp, 1) := by decide +kernel
theorem d_Model_density_121 : decode b_Model_density 121 = .ok (.ifCond .eq 21, 3) := by decide +kernel
theorem d_Model_density_124 : decode b_Model_density 124 = .ok (.lload 8, 2) := by decide +kernel
theorem d_Model_density_126 : decode b_Model_density 126 = .ok (.lload 10, 2) := by decide +kernel
theorem d_Model_density_128 : decode b_Model_density 128 = .ok (.lrem, 1) := by decide +kernel
theorem d_Model_density_129 : decode b_Model_density 129 = .ok (.lstore 12, 2) := by decide +kernel
theorem d_Model_density_131 : decode b_Model_density 131 = .ok (.lload 10, 2) := by decide +kernel
theorem d_Model_density_133 : decode b_Model_density 133 = .ok (.lstore 8, 2) := by decide +kernel
theorem d_Model_density_135 : decode b_Model_density 135 = .ok (.lload 12, 2) := by decide +kernel
theorem d_Model_density_137 : decode b_Model_density 137 = .ok (.lstore 10, 2) := by decide +kernel
theorem d_Model_density_139 : decode b_Model_density 139 = .ok (.goto (-22), 3) := by decide +kernel
theorem d_Model_density_142 : decode b_Model_density 142 = .ok (.iload_n 3, 1) := by decide +kernel
theorem d_Model_density_143 : decode b_Model_density 143 = .ok (.ifCond .ne 11, 3) := by decide +kernel
theorem d_Model_density_146 : decode b_Model_density 146 = .ok (.lload 4, 2) := by decide +kernel
theorem d_Model_density_148 : decode b_Model_density 148 = .ok (.lload 8, 2) := by decide +kernel
theorem d_Model_density_150 : decode b_Model_density 150 = .ok (.ldiv, 1) := by decide +kernel
theorem d_Model_density_151 : decode b_Model_density 151 = .ok (.goto 8, 3) := by decide +kernel
theorem d_Model_density_154 : decode b_Model_density 154 = .ok (.lload 6, 2) := by decide +kernel
theorem d_Model_density_156 : decode b_Model_density 156 = .ok (.lload 8, 2) := by decide +kernel
theorem d_Model_density_158 : decode b_Model_density 158 = .ok (.ldiv, 1) := by decide +kernel
theorem d_Model_density_159 : decode b_Model_density 159 = .ok (.lreturn, 1) := by decide +kernel
theorem d_Model_isLike_0 : decode b_Model_isLike 0 = .ok (.aload_n 0, 1) := by decide +kernel
theorem d_Model_isLike_1 : decode b_Model_isLike 1 = .ok (.iload_n 1, 1) := by decide +kernel
theorem d_Model_isLike_2 : decode b_Model_isLike 2 = .ok (.iload_n 3, 1) := by decide +kernel
theorem d_Model_isLike_3 : decode b_Model_isLike 3 = .ok (.invokevirtual 107, 3) := by decide +kernel
theorem d_Model_isLike_6 : decode b_Model_isLike 6 = .ok (.aload_n 0, 1) := by decide +kernel
theorem d_Model_isLike_7 : decode b_Model_isLike 7 = .ok (.iload_n 2, 1) := by decide +kernel
theorem d_Model_isLike_8 : decode b_Model_isLike 8 = .ok (.aload_n 0, 1) := by decide +kernel
theorem d_Model_isLike_9 : decode b_Model_isLike 9 = .ok (.getfield 31, 3) := by decide +kernel
theorem d_Model_isLike_12 : decode b_Model_isLike 12 = .ok (.iload_n 3, 1) := by decide +kernel
theorem d_Model_isLike_13 : decode b_Model_isLike 13 = .ok (.iaload, 1) := by decide +kernel
theorem d_Model_isLike_14 : decode b_Model_isLike 14 = .ok (.invokevirtual 107, 3) := by decide +kernel
theorem d_Model_isLike_17 : decode b_Model_isLike 17 = .ok (.if_icmp .ne 7, 3) := by decide +kernel
theorem d_Model_isLike_20 : decode b_Model_isLike 20 = .ok (.iconst 1, 1) := by decide +kernel
theorem d_Model_isLike_21 : decode b_Model_isLike 21 = .ok (.goto 4, 3) := by decide +kernel
theorem d_Model_isLike_24 : decode b_Model_isLike 24 = .ok (.iconst 0, 1) := by decide +kernel
theorem d_Model_isLike_25 : decode b_Model_isLike 25 = .ok (.istore 4, 2) := by decide +kernel
theorem d_Model_isLike_27 : decode b_Model_isLike 27 = .ok (.iconst 0, 1) := by decide +kernel
theorem d_Model_isLike_28 : decode b_Model_isLike 28 = .ok (.istore 5, 2) := by decide +kernel
theorem d_Model_isLike_30 : decode b_Model_isLike 30 = .ok (.iload 5, 2) := by decide +kernel
theorem d_Model_isLike_32 : decode b_Model_isLike 32 = .ok (.iload_n 3, 1) := by decide +kernel
theorem d_Model_isLike_33 : decode b_Model_isLike 33 = .ok (.if_icmp .gt 72, 3) := by decide +kernel
theorem d_Model_isLike_36 : decode b_Model_isLike 36 = .ok (.iload 4, 2) := by decide +kernel
theorem d_Model_isLike_38 : decode b_Model_isLike 38 = .ok (.ifCond .eq 67, 3) := by decide +kernel
theorem d_Model_isLike_41 : decode b_Model_isLike 41 = .ok (.iload 5, 2) := by decide +kernel
theorem d_Model_isLike_43 : decode b_Model_isLike 43 = .ok (.iload_n 3, 1) := by decide +kernel
theorem d_Model_isLike_44 : decode b_Model_isLike 44 = .ok (.if_icmp .eq 19, 3) := by decide +kernel
theorem d_Model_isLike_47 : decode b_Model_isLike 47 = .ok (.aload_n 0, 1) := by decide +kernel
theorem d_Model_isLike_48 : decode b_Model_isLike 48 = .ok (.getfield 31, 3) := by decide +kernel
theorem d_Model_isLike_51 : decode b_Model_isLike 51 = .ok (.iload 5, 2) := by decide +kernel
theorem d_Model_isLike_53 : decode b_Model_isLike 53 = .ok (.iaload, 1) := by decide +kernel
theorem d_Model_isLike_54 : decode b_Model_isLike 54 = .ok (.aload_n 0, 1) := by decide +kernel
theorem d_Model_isLike_55 : decode b_Model_isLike 55 = .ok (.getfield 31, 3) := by decide +kernel
theorem d_Model_isLike_58 : decode b_Model_isLike 58 = .ok (.iload_n 3, 1) := by decide +kernel
theorem d_Model_isLike_59 : decode b_Model_isLike 59 = .ok (.iaload, 1) := by decide +kernel
theorem d_Model_isLike_60 : decode b_Model_isLike 60 = .ok (.if_icmp .eq 36, 3) := by decide +kernel
theorem d_Model_isLike_63 : decode b_Model_isLike 63 = .ok (.aload_n 0, 1) := by decide +kernel
theorem d_Model_isLike_64 : decode b_Model_isLike 64 = .ok (.iload_n 1, 1) := by decide +kernel
theorem d_Model_isLike_65 : decode b_Model_isLike 65 = .ok (.iload_n 3, 1) := by decide +kernel
theorem d_Model_isLike_66 : decode b_Model_isLike 66 = .ok (.iload 5, 2) := by decide +kernel
theorem d_Model_isLike_68 : decode b_Model_isLike 68 = .ok (.invokevirtual 79, 3) := by decide +kernel
theorem d_Model_isLike_71 : decode b_Model_isLike 71 = .ok (.aload_n 0, 1) := by decide +kernel
theorem d_Model_isLike_72 : decode b_Model_isLike 72 = .ok (.iload_n 2, 1) := by decide +kernel
theorem d_Model_isLike_73 : decode b_Model_isLike 73 = .ok (.aload_n 0, 1) := by decide +kernel
theorem d_Model_isLike_74 : decode b_Model_isLike 74 = .ok (.getfield 31, 3) := by decide +kernel
theorem d_Model_isLike_77 : decode b_Model_isLike 77 = .ok (.iload_n 3, 1) := by decide +kernel
theorem d_Model_isLike_78 : decode b_Model_isLike 78 = .ok (.iaload, 1) := by decide +kernel
theorem d_Model_isLike_79 : decode b_Model_isLike 79 = .ok (.aload_n 0, 1) := by decide +kernel
theorem d_Model_isLike_80 : decode b_Model_isLike 80 = .ok (.getfield 31, 3) := by decide +kernel
theorem d_Model_isLike_83 : decode b_Model_isLike 83 = .ok (.iload 5, 2) := by decide +kernel
theorem d_Model_isLike_85 : decode b_Model_isLike 85 = .ok (.iaload, 1) := by decide +kernel
theorem d_Model_isLike_86 : decode b_Model_isLike 86 = .ok (.invokevirtual 79, 3) := by decide +kernel
theorem d_Model_isLike_89 : decode b_Model_isLike 89 = .ok (.if_icmp .ne 7, 3) := by decide +kernel
theorem d_Model_isLike_92 : decode b_Model_isLike 92 = .ok (.iconst 1, 1) := by decide +kernel
theorem d_Model_isLike_93 : decode b_Model_isLike 93 = .ok (.goto 4, 3) := by decide +kernel
theorem d_Model_isLike_96 : decode b_Model_isLike 96 = .ok (.iconst 0, 1) := by decide +kernel
theorem d_Model_isLike_97 : decode b_Model_isLike 97 = .ok (.istore 4, 2) := by decide +kernel
theorem d_Model_isLike_99 : decode b_Model_isLike 99 = .ok (.iinc 5 1, 3) := by decide +kernel
theorem d_Model_isLike_102 : decode b_Model_isLike 102 = .ok (.goto (-72), 3) := by decide +kernel
theorem d_Model_isLike_105 : decode b_Model_isLike 105 = .ok (.iload 4, 2) := by decide +kernel
theorem d_Model_isLike_107 : decode b_Model_isLike 107 = .ok (.ireturn, 1) := by decide +kernel
def f_Model_greedy (v1 : Int32) (v2 : Int32) (μ : HMem) : Option (Int32 × HMem) :=
  h_bd (f_Model_isVertex v1 v2 μ) (fun r3 μ_3 =>
  if ¬ r3 = 0 then
    h_bd (f_Model_eliminates v1 1 μ_3) (fun _ μ_18 =>
    h_chk v2 (h_len 130) (
    h_bd (f_Model_tells (μ_18.1 130 (Int32.toNatClampNeg (v2))) μ_18) (fun r28 μ_28 =>
    some (r28, μ_28))))
  else
    h_bd (f_Model_fails 1 μ_3) (fun r11 μ_11 =>
    some (r11, μ_11)))
def f_Model_isOrder_J68  (rec_ : Int32 → Int32 → Int32 → Int32 → Int32 → HMem → Option (Int32 × HMem)) (v1 : Int32) (v2 : Int32) (v3 : Int32) (v5 : Int32) (s0 : Int32) (s1 : Int32) (μ : HMem) : Option (Int32 × HMem) :=
h_let (s1 ||| s0) (fun v4_69 =>
if (10 : Int32) = 0 then none else
h_let (v3 / 10) (fun v3_75 =>
h_let (v5 + (-1)) (fun v5_76 =>
rec_ v1 v2 v3_75 v4_69 v5_76 μ)))
def f_Model_isOrder_L14_b (K82 : Int32 → Int32 → Int32 → Int32 → HMem → Option (Int32 × HMem)) (rec_ : Int32 → Int32 → Int32 → Int32 → Int32 → HMem → Option (Int32 × HMem)) (v1 : Int32) (v2 : Int32) (v3 : Int32) (v4 : Int32) (v5 : Int32) (μ : HMem) : Option (Int32 × HMem) :=
if v5 < 0 then
  K82 v1 v2 v3 v4 μ
else
  if (10 : Int32) = 0 then none else
  h_chk v5 (h_len 130) (h_let (h_wi μ 130 (Int32.toNatClampNeg (v5)) ((h_irem v3 10) - 1)) (fun μ_31 =>
  h_chk v5 (h_len 130) (
  h_bd (f_Model_size v1 μ_31) (fun r44 μ_44 =>
  h_bd (f_Model_in (μ_31.1 130 (Int32.toNatClampNeg (v5))) 0 (r44 - 1) μ_44) (fun r49 μ_49 =>
  if r49 = 0 then
    f_Model_isOrder_J68 rec_ v1 v2 v3 v5 0 v4 μ_49
  else
    h_chk v5 (h_len 130) (
    f_Model_isOrder_J68 rec_ v1 v2 v3 v5 (h_ishl 1 (μ_49.1 130 (Int32.toNatClampNeg (v5)))) v4 μ_49))))))
def f_Model_isOrder_L14 (K82 : Int32 → Int32 → Int32 → Int32 → HMem → Option (Int32 × HMem)) : Nat → Int32 → Int32 → Int32 → Int32 → Int32 → HMem → Option (Int32 × HMem)
  | 0, _, _, _, _, _, _ => none
  | fuel + 1, v1, v2, v3, v4, v5, μ => f_Model_isOrder_L14_b K82 (f_Model_isOrder_L14 K82 fuel) v1 v2 v3 v4 v5 μ
def f_Model_isOrder_J109   (s0 : Int32) (μ : HMem) : Option (Int32 × HMem) :=
if s0 &&& 1 = s0 then some (s0, μ) else none
def f_Model_isOrder_J108    (μ : HMem) : Option (Int32 × HMem) :=
f_Model_isOrder_J109 0 μ
def f_Model_isOrder_J82   (v1 : Int32) (v2 : Int32) (v3 : Int32) (v4 : Int32) (μ : HMem) : Option (Int32 × HMem) :=
if v2 ≤ 0 then
  f_Model_isOrder_J108 μ
else
  if ¬ v3 = 0 then
    f_Model_isOrder_J108 μ
  else
    h_bd (f_Model_size v1 μ) (fun r95 μ_95 =>
    if ¬ v4 = ((h_ishl 1 r95) - 1) then
      f_Model_isOrder_J108 μ_95
    else
      f_Model_isOrder_J109 1 μ_95)
def f_Model_isOrder (v1 : Int32) (v2 : Int32) (μ : HMem) : Option (Int32 × HMem) :=
  h_bd (f_Model_size v1 μ) (fun r7 μ_7 =>
  h_let (r7 - 1) (fun v5_12 =>
  f_Model_isOrder_L14 f_Model_isOrder_J82 h_fuel v1 v2 v2 0 v5_12 μ_7))
def f_Model_width_J62   (s0 : Int32) (μ : HMem) : Option (Int32 × HMem) :=
h_bd (f_Model_tells s0 μ) (fun r62 μ_62 =>
some (r62, μ_62))
def f_Model_width_J43   (v3 : Int32) (s0 : Int32) (s1 : Int32) (μ : HMem) : Option (Int32 × HMem) :=
h_bd (f_Model_eliminates s1 s0 μ) (fun _ μ_43 =>
if v3 = 0 then
  f_Model_width_J62 (μ_43.1 125 9) μ_43
else
  f_Model_width_J62 (μ_43.1 125 10) μ_43)
def f_Model_width_J32   (v1 : Int32) (v2 : Int32) (v3 : Int32) (μ : HMem) : Option (Int32 × HMem) :=
if ¬ v2 = 0 then
  f_Model_width_J43 v3 0 v1 μ
else
  f_Model_width_J43 v3 1 v1 μ
def f_Model_width (v1 : Int32) (v2 : Int32) (v3 : Int32) (μ : HMem) : Option (Int32 × HMem) :=
  h_bd (f_Model_isGraph v1 μ) (fun r1 μ_1 =>
  if ¬ r1 = 0 then
    if v2 = 0 then
      f_Model_width_J32 v1 v2 v3 μ_1
    else
      h_bd (f_Model_isOrder v1 v2 μ_1) (fun r20 μ_20 =>
      if ¬ r20 = 0 then
        f_Model_width_J32 v1 v2 v3 μ_20
      else
        h_bd (f_Model_fails 2 μ_20) (fun r28 μ_28 =>
        some (r28, μ_28)))
  else
    h_bd (f_Model_fails 1 μ_1) (fun r9 μ_9 =>
    some (r9, μ_9)))
def f_Model_comes_J68  (rec_ : Int32 → Int32 → Int32 → Int32 → Int32 → Int32 → HMem → Option (Int32 × HMem)) (v1 : Int32) (v2 : Int32) (v3 : Int32) (v5 : Int32) (v6 : Int32) (s0 : Int32) (s1 : Int32) (μ : HMem) : Option (Int32 × HMem) :=
h_let (s1 ||| s0) (fun v4_69 =>
h_let (v6 + 1) (fun v6_71 =>
rec_ v1 v2 v3 v4_69 v5 v6_71 μ))
def f_Model_comes_J67  (rec_ : Int32 → Int32 → Int32 → Int32 → Int32 → Int32 → HMem → Option (Int32 × HMem)) (v1 : Int32) (v2 : Int32) (v3 : Int32) (v5 : Int32) (v6 : Int32) (s0 : Int32) (μ : HMem) : Option (Int32 × HMem) :=
f_Model_comes_J68 rec_ v1 v2 v3 v5 v6 0 s0 μ
def f_Model_comes_J57  (rec_ : Int32 → Int32 → Int32 → Int32 → Int32 → Int32 → HMem → Option (Int32 × HMem)) (v1 : Int32) (v2 : Int32) (v3 : Int32) (v5 : Int32) (v6 : Int32) (s0 : Int32) (μ : HMem) : Option (Int32 × HMem) :=
h_bd (f_Model_near v1 v6 μ) (fun r61 μ_61 =>
f_Model_comes_J68 rec_ v1 v2 v3 v5 v6 r61 s0 μ_61)
def f_Model_comes_L18_b (K77 : Int32 → Int32 → Int32 → Int32 → Int32 → HMem → Option (Int32 × HMem)) (rec_ : Int32 → Int32 → Int32 → Int32 → Int32 → Int32 → HMem → Option (Int32 × HMem)) (v1 : Int32) (v2 : Int32) (v3 : Int32) (v4 : Int32) (v5 : Int32) (v6 : Int32) (μ : HMem) : Option (Int32 × HMem) :=
h_bd (f_Model_size v1 μ) (fun r22 μ_22 =>
if r22 ≤ v6 then
  K77 v1 v2 v3 v4 v5 μ_22
else
  if ¬ ((h_ishr v4 v6) &&& 1) = (1 : Int32) then
    f_Model_comes_J67 rec_ v1 v2 v3 v5 v6 v4 μ_22
  else
    if v6 = v3 then
      f_Model_comes_J57 rec_ v1 v2 v3 v5 v6 v4 μ_22
    else
      if ¬ ((h_ishr v2 v6) &&& 1) = (1 : Int32) then
        f_Model_comes_J67 rec_ v1 v2 v3 v5 v6 v4 μ_22
      else
        f_Model_comes_J57 rec_ v1 v2 v3 v5 v6 v4 μ_22)
def f_Model_comes_L18 (K77 : Int32 → Int32 → Int32 → Int32 → Int32 → HMem → Option (Int32 × HMem)) : Nat → Int32 → Int32 → Int32 → Int32 → Int32 → Int32 → HMem → Option (Int32 × HMem)
  | 0, _, _, _, _, _, _, _ => none
  | fuel + 1, v1, v2, v3, v4, v5, v6, μ => f_Model_comes_L18_b K77 (f_Model_comes_L18 K77 fuel) v1 v2 v3 v4 v5 v6 μ
def f_Model_comes_J77  (rec_ : Int32 → Int32 → Int32 → Int32 → Int32 → HMem → Option (Int32 × HMem)) (v1 : Int32) (v2 : Int32) (v3 : Int32) (v4 : Int32) (v5 : Int32) (μ : HMem) : Option (Int32 × HMem) :=
h_let (v5 + 1) (fun v5_77 =>
rec_ v1 v2 v3 v4 v5_77 μ)
def f_Model_comes_L8_b (K83 : Int32 → Int32 → Int32 → HMem → Option (Int32 × HMem)) (rec_ : Int32 → Int32 → Int32 → Int32 → Int32 → HMem → Option (Int32 × HMem)) (v1 : Int32) (v2 : Int32) (v3 : Int32) (v4 : Int32) (v5 : Int32) (μ : HMem) : Option (Int32 × HMem) :=
if (8 : Int32) ≤ v5 then
  K83 v2 v3 v4 μ
else
  f_Model_comes_L18 (f_Model_comes_J77 rec_) h_fuel v1 v2 v3 v4 v5 0 μ
def f_Model_comes_L8 (K83 : Int32 → Int32 → Int32 → HMem → Option (Int32 × HMem)) : Nat → Int32 → Int32 → Int32 → Int32 → Int32 → HMem → Option (Int32 × HMem)
  | 0, _, _, _, _, _, _ => none
  | fuel + 1, v1, v2, v3, v4, v5, μ => f_Model_comes_L8_b K83 (f_Model_comes_L8 K83 fuel) v1 v2 v3 v4 v5 μ
def f_Model_comes_J83   (v2 : Int32) (v3 : Int32) (v4 : Int32) (μ : HMem) : Option (Int32 × HMem) :=
h_bd (f_Model_bits ((v4 &&& (v2 ^^^ (-1))) &&& ((h_ishl 1 v3) ^^^ (-1))) μ) (fun r95 μ_95 =>
some (r95, μ_95))
def f_Model_comes (v1 : Int32) (v2 : Int32) (v3 : Int32) (μ : HMem) : Option (Int32 × HMem) :=
  h_let (h_ishl 1 v3) (fun v4_3 =>
  f_Model_comes_L8 f_Model_comes_J83 h_fuel v1 v2 v3 v4_3 0 μ)
def f_Model_treewidthOf_J130  (rec_ : Int32 → Int32 → Int32 → Int32 → HMem → Option (Int32 × HMem)) (v1 : Int32) (v2 : Int32) (v3 : Int32) (v4 : Int32) (μ : HMem) : Option (Int32 × HMem) :=
h_let (v4 + 1) (fun v4_130 =>
rec_ v1 v2 v3 v4_130 μ)
def f_Model_treewidthOf_J129  (rec_ : Int32 → Int32 → Int32 → Int32 → HMem → Option (Int32 × HMem)) (v1 : Int32) (v2 : Int32) (v3 : Int32) (v4 : Int32) (s0 : Int32) (s1 : Int32) (μ : HMem) : Option (Int32 × HMem) :=
h_chk s1 (h_len 132) (h_let (h_wi μ 132 (Int32.toNatClampNeg (s1)) s0) (fun μ_129 =>
f_Model_treewidthOf_J130 rec_ v1 v2 v3 v4 μ_129))
def f_Model_treewidthOf_J100  (rec_ : Int32 → Int32 → Int32 → Int32 → HMem → Option (Int32 × HMem)) (v1 : Int32) (v2 : Int32) (v3 : Int32) (v4 : Int32) (s0 : Int32) (μ : HMem) : Option (Int32 × HMem) :=
h_chk v3 (h_len 132) (
if (μ.1 132 (Int32.toNatClampNeg (v3))) ≤ s0 then
  h_chk v3 (h_len 132) (
  f_Model_treewidthOf_J129 rec_ v1 v2 v3 v4 (μ.1 132 (Int32.toNatClampNeg (v3))) v3 μ)
else
  f_Model_treewidthOf_J129 rec_ v1 v2 v3 v4 s0 v3 μ)
def f_Model_treewidthOf_L35_b (K136 : Int32 → Int32 → Int32 → HMem → Option (Int32 × HMem)) (rec_ : Int32 → Int32 → Int32 → Int32 → HMem → Option (Int32 × HMem)) (v1 : Int32) (v2 : Int32) (v3 : Int32) (v4 : Int32) (μ : HMem) : Option (Int32 × HMem) :=
h_bd (f_Model_size v1 μ) (fun r39 μ_39 =>
if r39 ≤ v4 then
  K136 v1 v2 v3 μ_39
else
  if ¬ ((h_ishr v3 v4) &&& 1) = (1 : Int32) then
    f_Model_treewidthOf_J130 rec_ v1 v2 v3 v4 μ_39
  else
    h_let (v3 &&& ((h_ishl 1 v4) ^^^ (-1))) (fun v5_63 =>
    h_bd (f_Model_comes v1 v5_63 v4 μ_39) (fun r71 μ_71 =>
    h_chk v5_63 (h_len 132) (
    if (μ_71.1 132 (Int32.toNatClampNeg (v5_63))) ≤ r71 then
      f_Model_treewidthOf_J100 rec_ v1 v2 v3 v4 r71 μ_71
    else
      h_chk v5_63 (h_len 132) (
      f_Model_treewidthOf_J100 rec_ v1 v2 v3 v4 (μ_71.1 132 (Int32.toNatClampNeg (v5_63))) μ_71)))))
def f_Model_treewidthOf_L35 (K136 : Int32 → Int32 → Int32 → HMem → Option (Int32 × HMem)) : Nat → Int32 → Int32 → Int32 → Int32 → HMem → Option (Int32 × HMem)
  | 0, _, _, _, _, _ => none
  | fuel + 1, v1, v2, v3, v4, μ => f_Model_treewidthOf_L35_b K136 (f_Model_treewidthOf_L35 K136 fuel) v1 v2 v3 v4 μ
def f_Model_treewidthOf_J136  (rec_ : Int32 → Int32 → Int32 → HMem → Option (Int32 × HMem)) (v1 : Int32) (v2 : Int32) (v3 : Int32) (μ : HMem) : Option (Int32 × HMem) :=
h_let (v3 + 1) (fun v3_136 =>
rec_ v1 v2 v3_136 μ)
def f_Model_treewidthOf_L19_b  (rec_ : Int32 → Int32 → Int32 → HMem → Option (Int32 × HMem)) (v1 : Int32) (v2 : Int32) (v3 : Int32) (μ : HMem) : Option (Int32 × HMem) :=
if v2 < v3 then
  h_chk v2 (h_len 132) (
  some ((μ.1 132 (Int32.toNatClampNeg (v2))), μ))
else
  h_chk v3 (h_len 132) (h_let (h_wi μ 132 (Int32.toNatClampNeg (v3)) 8) (fun μ_31 =>
  f_Model_treewidthOf_L35 (f_Model_treewidthOf_J136 rec_) h_fuel v1 v2 v3 0 μ_31))
def f_Model_treewidthOf_L19  : Nat → Int32 → Int32 → Int32 → HMem → Option (Int32 × HMem)
  | 0, _, _, _, _ => none
  | fuel + 1, v1, v2, v3, μ => f_Model_treewidthOf_L19_b  (f_Model_treewidthOf_L19  fuel) v1 v2 v3 μ
def f_Model_treewidthOf (v1 : Int32) (μ : HMem) : Option (Int32 × HMem) :=
  h_bd (f_Model_size v1 μ) (fun r3 μ_3 =>
  h_let ((h_ishl 1 r3) - 1) (fun v2_9 =>
  h_chk 0 (h_len 132) (h_let (h_wi μ_3 132 (Int32.toNatClampNeg (0)) (-1)) (fun μ_16 =>
  f_Model_treewidthOf_L19 h_fuel v1 v2_9 1 μ_16))))
def f_Model_treewidth_J24   (s0 : Int32) (μ : HMem) : Option (Int32 × HMem) :=
some (s0, μ)
def f_Model_treewidth (v1 : Int32) (μ : HMem) : Option (Int32 × HMem) :=
  h_bd (f_Model_isGraph v1 μ) (fun r1 μ_1 =>
  if r1 = 0 then
    h_bd (f_Model_fails 1 μ_1) (fun r21 μ_21 =>
    f_Model_treewidth_J24 r21 μ_21)
  else
    h_bd (f_Model_treewidthOf v1 μ_1) (fun r10 μ_10 =>
    h_bd (f_Model_tells r10 μ_10) (fun r13 μ_13 =>
    f_Model_treewidth_J24 r13 μ_13)))
def f_Model_bag (v1 : Int32) (v2 : Int32) (μ : HMem) : Option (Int32 × HMem) :=
  h_bd (f_Model_isVertex v1 v2 μ) (fun r3 μ_3 =>
  if ¬ r3 = 0 then
    h_bd (f_Model_eliminates v1 1 μ_3) (fun _ μ_18 =>
    h_chk v2 (h_len 131) (
    h_bd (f_Model_tells (μ_18.1 131 (Int32.toNatClampNeg (v2))) μ_18) (fun r28 μ_28 =>
    some (r28, μ_28))))
  else
    h_bd (f_Model_fails 1 μ_3) (fun r11 μ_11 =>
    some (r11, μ_11)))
def f_Model_fits_J54  (rec_ : Int32 → Int32 → Int32 → Int32 → Int32 → HMem → Option (Int32 × HMem)) (v1 : Int32) (v2 : Int32) (v3 : Int32) (v5 : Int32) (s0 : Int32) (μ : HMem) : Option (Int32 × HMem) :=
h_let (v5 + 1) (fun v5_56 =>
rec_ v1 v2 v3 s0 v5_56 μ)
def f_Model_fits_J49  (rec_ : Int32 → Int32 → Int32 → Int32 → Int32 → HMem → Option (Int32 × HMem)) (v1 : Int32) (v2 : Int32) (v3 : Int32) (v5 : Int32) (μ : HMem) : Option (Int32 × HMem) :=
f_Model_fits_J54 rec_ v1 v2 v3 v5 1 μ
def f_Model_fits_L6_b (K62 : Int32 → HMem → Option (Int32 × HMem)) (rec_ : Int32 → Int32 → Int32 → Int32 → Int32 → HMem → Option (Int32 × HMem)) (v1 : Int32) (v2 : Int32) (v3 : Int32) (v4 : Int32) (v5 : Int32) (μ : HMem) : Option (Int32 × HMem) :=
if v3 < v5 then
  K62 v4 μ
else
  if v4 = 0 then
    K62 v4 μ
  else
    h_bd (f_Model_isNear v1 v3 v5 μ) (fun r22 μ_22 =>
    if r22 = 0 then
      f_Model_fits_J49 rec_ v1 v2 v3 v5 μ_22
    else
      h_chk v3 (h_len 133) (
      h_chk v5 (h_len 133) (
      h_bd (f_Model_isNear v2 (μ_22.1 133 (Int32.toNatClampNeg (v3))) (μ_22.1 133 (Int32.toNatClampNeg (v5))) μ_22) (fun r43 μ_43 =>
      if r43 = 0 then
        f_Model_fits_J54 rec_ v1 v2 v3 v5 0 μ_43
      else
        f_Model_fits_J49 rec_ v1 v2 v3 v5 μ_43))))
def f_Model_fits_L6 (K62 : Int32 → HMem → Option (Int32 × HMem)) : Nat → Int32 → Int32 → Int32 → Int32 → Int32 → HMem → Option (Int32 × HMem)
  | 0, _, _, _, _, _, _ => none
  | fuel + 1, v1, v2, v3, v4, v5, μ => f_Model_fits_L6_b K62 (f_Model_fits_L6 K62 fuel) v1 v2 v3 v4 v5 μ
def f_Model_fits_J62   (v4 : Int32) (μ : HMem) : Option (Int32 × HMem) :=
if v4 &&& 1 = v4 then some (v4, μ) else none
def f_Model_fits (v1 : Int32) (v2 : Int32) (v3 : Int32) (μ : HMem) : Option (Int32 × HMem) :=
  f_Model_fits_L6 f_Model_fits_J62 h_fuel v1 v2 v3 1 0 μ
def f_Model_finds_L33_b (K73 : Int32 → Int32 → Int32 → Int32 → HMem → Option (Int32 × HMem)) (rec_ : Int32 → Int32 → Int32 → Int32 → HMem → Option (Int32 × HMem)) (v1 : Int32) (v2 : Int32) (v4 : Int32) (v5 : Int32) (μ : HMem) : Option (Int32 × HMem) :=
h_chk v5 (h_len 133) (
h_bd (f_Model_size v2 μ) (fun r42 μ_42 =>
if r42 ≤ (μ.1 133 (Int32.toNatClampNeg (v5))) then
  K73 v1 v2 v4 v5 μ_42
else
  h_bd (f_Model_fits v1 v2 v5 μ_42) (fun r53 μ_53 =>
  if ¬ r53 = 0 then
    K73 v1 v2 v4 v5 μ_53
  else
    h_chk v5 (h_len 133) (
    h_chk v5 (h_len 133) (h_let (h_wi μ_53 133 (Int32.toNatClampNeg (v5)) ((μ_53.1 133 (Int32.toNatClampNeg (v5))) + 1)) (fun μ_69 =>
    rec_ v1 v2 v4 v5 μ_69))))))
def f_Model_finds_L33 (K73 : Int32 → Int32 → Int32 → Int32 → HMem → Option (Int32 × HMem)) : Nat → Int32 → Int32 → Int32 → Int32 → HMem → Option (Int32 × HMem)
  | 0, _, _, _, _, _ => none
  | fuel + 1, v1, v2, v4, v5, μ => f_Model_finds_L33_b K73 (f_Model_finds_L33 K73 fuel) v1 v2 v4 v5 μ
def f_Model_finds_J73  (rec_ : Int32 → Int32 → Int32 → Int32 → HMem → Option (Int32 × HMem)) (v1 : Int32) (v2 : Int32) (v4 : Int32) (v5 : Int32) (μ : HMem) : Option (Int32 × HMem) :=
h_chk v5 (h_len 133) (
h_bd (f_Model_size v2 μ) (fun r82 μ_82 =>
if r82 ≤ (μ.1 133 (Int32.toNatClampNeg (v5))) then
  h_let (v5 + (-1)) (fun v5_102 =>
  rec_ v1 v2 v4 v5_102 μ_82)
else
  h_let (v5 + 1) (fun v5_88 =>
  h_chk v5_88 (h_len 133) (h_let (h_wi μ_82 133 (Int32.toNatClampNeg (v5_88)) (-1)) (fun μ_98 =>
  rec_ v1 v2 v4 v5_88 μ_98)))))
def f_Model_finds_L10_b (K108 : Int32 → Int32 → HMem → Option (Int32 × HMem)) (rec_ : Int32 → Int32 → Int32 → Int32 → HMem → Option (Int32 × HMem)) (v1 : Int32) (v2 : Int32) (v4 : Int32) (v5 : Int32) (μ : HMem) : Option (Int32 × HMem) :=
if v5 < 0 then
  K108 v4 v5 μ
else
  if v4 ≤ v5 then
    K108 v4 v5 μ
  else
    h_chk v5 (h_len 133) (
    h_chk v5 (h_len 133) (h_let (h_wi μ 133 (Int32.toNatClampNeg (v5)) ((μ.1 133 (Int32.toNatClampNeg (v5))) + 1)) (fun μ_32 =>
    f_Model_finds_L33 (f_Model_finds_J73 rec_) h_fuel v1 v2 v4 v5 μ_32)))
def f_Model_finds_L10 (K108 : Int32 → Int32 → HMem → Option (Int32 × HMem)) : Nat → Int32 → Int32 → Int32 → Int32 → HMem → Option (Int32 × HMem)
  | 0, _, _, _, _, _ => none
  | fuel + 1, v1, v2, v4, v5, μ => f_Model_finds_L10_b K108 (f_Model_finds_L10 K108 fuel) v1 v2 v4 v5 μ
def f_Model_finds_J120   (s0 : Int32) (μ : HMem) : Option (Int32 × HMem) :=
if s0 &&& 1 = s0 then some (s0, μ) else none
def f_Model_finds_J108   (v4 : Int32) (v5 : Int32) (μ : HMem) : Option (Int32 × HMem) :=
if ¬ v5 = v4 then
  f_Model_finds_J120 0 μ
else
  f_Model_finds_J120 1 μ
def f_Model_finds (v1 : Int32) (v2 : Int32) (v3 : Int32) (μ : HMem) : Option (Int32 × HMem) :=
  h_bd (f_Model_size v1 μ) (fun r2 μ_2 =>
  f_Model_finds_L10 f_Model_finds_J108 h_fuel v1 v2 r2 v3 μ_2)
def f_Model_firstImage_L29_b (K53 : Int32 → Int32 → Int32 → Int32 → HMem → Option (Int32 × HMem)) (rec_ : Int32 → Int32 → Int32 → Int32 → HMem → Option (Int32 × HMem)) (v1 : Int32) (v2 : Int32) (v3 : Int32) (v4 : Int32) (μ : HMem) : Option (Int32 × HMem) :=
h_bd (f_Model_isThere v1 v2 (-1) μ) (fun r33 μ_33 =>
if ¬ r33 = 0 then
  K53 v1 v2 v3 v4 μ_33
else
  h_chk v4 (h_len 135) (
  h_chk v4 (h_len 135) (h_let (h_wi μ_33 135 (Int32.toNatClampNeg (v4)) ((μ_33.1 135 (Int32.toNatClampNeg (v4))) + 1)) (fun μ_49 =>
  rec_ v1 v2 v3 v4 μ_49))))
def f_Model_firstImage_L29 (K53 : Int32 → Int32 → Int32 → Int32 → HMem → Option (Int32 × HMem)) : Nat → Int32 → Int32 → Int32 → Int32 → HMem → Option (Int32 × HMem)
  | 0, _, _, _, _, _ => none
  | fuel + 1, v1, v2, v3, v4, μ => f_Model_firstImage_L29_b K53 (f_Model_firstImage_L29 K53 fuel) v1 v2 v3 v4 μ
def f_Model_firstImage_J53  (rec_ : Int32 → Int32 → Int32 → Int32 → HMem → Option (Int32 × HMem)) (v1 : Int32) (v2 : Int32) (v3 : Int32) (v4 : Int32) (μ : HMem) : Option (Int32 × HMem) :=
h_let (v4 + 1) (fun v4_53 =>
rec_ v1 v2 v3 v4_53 μ)
def f_Model_firstImage_L15_b  (rec_ : Int32 → Int32 → Int32 → Int32 → HMem → Option (Int32 × HMem)) (v1 : Int32) (v2 : Int32) (v3 : Int32) (v4 : Int32) (μ : HMem) : Option (Int32 × HMem) :=
if v3 < v4 then
  h_chk v3 (h_len 135) (
  some ((μ.1 135 (Int32.toNatClampNeg (v3))), μ))
else
  h_chk v4 (h_len 135) (h_let (h_wi μ 135 (Int32.toNatClampNeg (v4)) 0) (fun μ_28 =>
  f_Model_firstImage_L29 (f_Model_firstImage_J53 rec_) h_fuel v1 v2 v3 v4 μ_28))
def f_Model_firstImage_L15  : Nat → Int32 → Int32 → Int32 → Int32 → HMem → Option (Int32 × HMem)
  | 0, _, _, _, _, _ => none
  | fuel + 1, v1, v2, v3, v4, μ => f_Model_firstImage_L15_b  (f_Model_firstImage_L15  fuel) v1 v2 v3 v4 μ
def f_Model_firstImage (v1 : Int32) (v2 : Int32) (v3 : Int32) (μ : HMem) : Option (Int32 × HMem) :=
  h_bd (f_Model_isFree v1 v2 (-1) μ) (fun r4 μ_4 =>
  if ¬ r4 = 0 then
    f_Model_firstImage_L15 h_fuel v1 v2 v3 0 μ_4
  else
    some ((-1), μ_4))
def f_Model_valueOf_J78  (rec_ : Int32 → Int32 → Int64 → Int32 → Int32 → HMem → Option (Int64 × HMem)) (v1 : Int32) (v2 : Int32) (v5 : Int32) (v6 : Int32) (s0 : Int64) (s1 : Int64) (μ : HMem) : Option (Int64 × HMem) :=
h_let (s1 * s0) (fun v3_79 =>
h_let (v6 + 1) (fun v6_80 =>
rec_ v1 v2 v3_79 v5 v6_80 μ))
def f_Model_valueOf_L34_b (K86 : Int32 → Int32 → Int64 → Int32 → HMem → Option (Int64 × HMem)) (rec_ : Int32 → Int32 → Int64 → Int32 → Int32 → HMem → Option (Int64 × HMem)) (v1 : Int32) (v2 : Int32) (v3 : Int64) (v5 : Int32) (v6 : Int32) (μ : HMem) : Option (Int64 × HMem) :=
if v5 < v6 then
  K86 v1 v2 v3 v5 μ
else
  h_bd (f_Model_isNear v1 v5 v6 μ) (fun r48 μ_48 =>
  if r48 = 0 then
    f_Model_valueOf_J78 rec_ v1 v2 v5 v6 1 v3 μ_48
  else
    h_chk v5 (h_len 133) (
    h_chk v6 (h_len 133) (
    h_bd (f_Model_between v2 (μ_48.1 133 (Int32.toNatClampNeg (v5))) (μ_48.1 133 (Int32.toNatClampNeg (v6))) μ_48) (fun r70 μ_70 =>
    f_Model_valueOf_J78 rec_ v1 v2 v5 v6 (Int32.toInt64 r70) v3 μ_70))))
def f_Model_valueOf_L34 (K86 : Int32 → Int32 → Int64 → Int32 → HMem → Option (Int64 × HMem)) : Nat → Int32 → Int32 → Int64 → Int32 → Int32 → HMem → Option (Int64 × HMem)
  | 0, _, _, _, _, _, _ => none
  | fuel + 1, v1, v2, v3, v5, v6, μ => f_Model_valueOf_L34_b K86 (f_Model_valueOf_L34 K86 fuel) v1 v2 v3 v5 v6 μ
def f_Model_valueOf_J86  (rec_ : Int32 → Int32 → Int64 → Int32 → HMem → Option (Int64 × HMem)) (v1 : Int32) (v2 : Int32) (v3 : Int64) (v5 : Int32) (μ : HMem) : Option (Int64 × HMem) :=
h_let (v5 + 1) (fun v5_86 =>
rec_ v1 v2 v3 v5_86 μ)
def f_Model_valueOf_L5_b  (rec_ : Int32 → Int32 → Int64 → Int32 → HMem → Option (Int64 × HMem)) (v1 : Int32) (v2 : Int32) (v3 : Int64) (v5 : Int32) (μ : HMem) : Option (Int64 × HMem) :=
h_bd (f_Model_size v1 μ) (fun r9 μ_9 =>
if r9 ≤ v5 then
  some (v3, μ_9)
else
  h_chk v5 (h_len 133) (
  h_bd (f_Model_weight v2 (μ_9.1 133 (Int32.toNatClampNeg (v5))) μ_9) (fun r25 μ_25 =>
  h_let (v3 * (Int32.toInt64 r25)) (fun v3_30 =>
  f_Model_valueOf_L34 (f_Model_valueOf_J86 rec_) h_fuel v1 v2 v3_30 v5 0 μ_25))))
def f_Model_valueOf_L5  : Nat → Int32 → Int32 → Int64 → Int32 → HMem → Option (Int64 × HMem)
  | 0, _, _, _, _, _ => none
  | fuel + 1, v1, v2, v3, v5, μ => f_Model_valueOf_L5_b  (f_Model_valueOf_L5  fuel) v1 v2 v3 v5 μ
def f_Model_valueOf (v1 : Int32) (v2 : Int32) (μ : HMem) : Option (Int64 × HMem) :=
  f_Model_valueOf_L5 h_fuel v1 v2 1 0 μ
def f_Model_images_L4_b  (rec_ : Int32 → Int32 → Int32 → HMem → Option (Int32 × HMem)) (v1 : Int32) (v2 : Int32) (v3 : Int32) (μ : HMem) : Option (Int32 × HMem) :=
h_bd (f_Model_size v1 μ) (fun r7 μ_7 =>
if r7 ≤ v3 then
  some (v2, μ_7)
else
  h_chk v3 (h_len 133) (
  h_let (v2 ||| (h_ishl 1 (μ_7.1 133 (Int32.toNatClampNeg (v3))))) (fun v2_23 =>
  h_let (v3 + 1) (fun v3_24 =>
  rec_ v1 v2_23 v3_24 μ_7))))
def f_Model_images_L4  : Nat → Int32 → Int32 → Int32 → HMem → Option (Int32 × HMem)
  | 0, _, _, _, _ => none
  | fuel + 1, v1, v2, v3, μ => f_Model_images_L4_b  (f_Model_images_L4  fuel) v1 v2 v3 μ
def f_Model_images (v1 : Int32) (μ : HMem) : Option (Int32 × HMem) :=
  f_Model_images_L4 h_fuel v1 0 0 μ
def f_Model_keepsEdges_L2_b (K21 : Int32 → HMem → Option (Int32 × HMem)) (rec_ : Int32 → Int32 → HMem → Option (Int32 × HMem)) (v1 : Int32) (v2 : Int32) (μ : HMem) : Option (Int32 × HMem) :=
if (64 : Int32) ≤ v2 then
  K21 v1 μ
else
  h_chk v2 (h_len 137) (h_let (h_wi μ 137 (Int32.toNatClampNeg (v2)) (0 &&& 1)) (fun μ_14 =>
  h_let (v2 + 1) (fun v2_15 =>
  rec_ v1 v2_15 μ_14)))
def f_Model_keepsEdges_L2 (K21 : Int32 → HMem → Option (Int32 × HMem)) : Nat → Int32 → Int32 → HMem → Option (Int32 × HMem)
  | 0, _, _, _ => none
  | fuel + 1, v1, v2, μ => f_Model_keepsEdges_L2_b K21 (f_Model_keepsEdges_L2 K21 fuel) v1 v2 μ
def f_Model_keepsEdges_J141  (rec_ : Int32 → Int32 → Int32 → Int32 → HMem → Option (Int32 × HMem)) (v1 : Int32) (v2 : Int32) (v3 : Int32) (v4 : Int32) (μ : HMem) : Option (Int32 × HMem) :=
h_let (v4 + 1) (fun v4_141 =>
rec_ v1 v2 v3 v4_141 μ)
def f_Model_keepsEdges_J132  (rec_ : Int32 → Int32 → Int32 → Int32 → HMem → Option (Int32 × HMem)) (v1 : Int32) (v3 : Int32) (v4 : Int32) (v6 : Int32) (s0 : Int32) (μ : HMem) : Option (Int32 × HMem) :=
h_chk v6 (h_len 137) (h_let (h_wi μ 137 (Int32.toNatClampNeg (v6)) (1 &&& 1)) (fun μ_140 =>
f_Model_keepsEdges_J141 rec_ v1 s0 v3 v4 μ_140))
def f_Model_keepsEdges_J131  (rec_ : Int32 → Int32 → Int32 → Int32 → HMem → Option (Int32 × HMem)) (v1 : Int32) (v3 : Int32) (v4 : Int32) (v6 : Int32) (μ : HMem) : Option (Int32 × HMem) :=
f_Model_keepsEdges_J132 rec_ v1 v3 v4 v6 0 μ
def f_Model_keepsEdges_J86  (rec_ : Int32 → Int32 → Int32 → Int32 → HMem → Option (Int32 × HMem)) (v1 : Int32) (v2 : Int32) (v3 : Int32) (v4 : Int32) (s0 : Int32) (μ : HMem) : Option (Int32 × HMem) :=
h_chk v3 (h_len 133) (
h_chk v4 (h_len 133) (
h_let ((((8 * s0) + (μ.1 133 (Int32.toNatClampNeg (v3)))) + (μ.1 133 (Int32.toNatClampNeg (v4)))) - s0) (fun v6_111 =>
if v2 = 0 then
  f_Model_keepsEdges_J131 rec_ v1 v3 v4 v6_111 μ
else
  h_chk v6_111 (h_len 137) (
  if ¬ (μ.1 137 (Int32.toNatClampNeg (v6_111))) = 0 then
    f_Model_keepsEdges_J131 rec_ v1 v3 v4 v6_111 μ
  else
    f_Model_keepsEdges_J132 rec_ v1 v3 v4 v6_111 1 μ))))
def f_Model_keepsEdges_L37_b (K147 : Int32 → Int32 → Int32 → HMem → Option (Int32 × HMem)) (rec_ : Int32 → Int32 → Int32 → Int32 → HMem → Option (Int32 × HMem)) (v1 : Int32) (v2 : Int32) (v3 : Int32) (v4 : Int32) (μ : HMem) : Option (Int32 × HMem) :=
if v3 ≤ v4 then
  K147 v1 v2 v3 μ
else
  h_bd (f_Model_isNear v1 v3 v4 μ) (fun r48 μ_48 =>
  if r48 = 0 then
    f_Model_keepsEdges_J141 rec_ v1 v2 v3 v4 μ_48
  else
    h_chk v3 (h_len 133) (
    h_chk v4 (h_len 133) (
    if (μ_48.1 133 (Int32.toNatClampNeg (v4))) ≤ (μ_48.1 133 (Int32.toNatClampNeg (v3))) then
      h_chk v4 (h_len 133) (
      f_Model_keepsEdges_J86 rec_ v1 v2 v3 v4 (μ_48.1 133 (Int32.toNatClampNeg (v4))) μ_48)
    else
      h_chk v3 (h_len 133) (
      f_Model_keepsEdges_J86 rec_ v1 v2 v3 v4 (μ_48.1 133 (Int32.toNatClampNeg (v3))) μ_48))))
def f_Model_keepsEdges_L37 (K147 : Int32 → Int32 → Int32 → HMem → Option (Int32 × HMem)) : Nat → Int32 → Int32 → Int32 → Int32 → HMem → Option (Int32 × HMem)
  | 0, _, _, _, _, _ => none
  | fuel + 1, v1, v2, v3, v4, μ => f_Model_keepsEdges_L37_b K147 (f_Model_keepsEdges_L37 K147 fuel) v1 v2 v3 v4 μ
def f_Model_keepsEdges_J147  (rec_ : Int32 → Int32 → Int32 → HMem → Option (Int32 × HMem)) (v1 : Int32) (v2 : Int32) (v3 : Int32) (μ : HMem) : Option (Int32 × HMem) :=
h_let (v3 + 1) (fun v3_147 =>
rec_ v1 v2 v3_147 μ)
def f_Model_keepsEdges_L25_b  (rec_ : Int32 → Int32 → Int32 → HMem → Option (Int32 × HMem)) (v1 : Int32) (v2 : Int32) (v3 : Int32) (μ : HMem) : Option (Int32 × HMem) :=
h_bd (f_Model_size v1 μ) (fun r28 μ_28 =>
if r28 ≤ v3 then
  if v2 &&& 1 = v2 then some (v2, μ_28) else none
else
  f_Model_keepsEdges_L37 (f_Model_keepsEdges_J147 rec_) h_fuel v1 v2 v3 0 μ_28)
def f_Model_keepsEdges_L25  : Nat → Int32 → Int32 → Int32 → HMem → Option (Int32 × HMem)
  | 0, _, _, _, _ => none
  | fuel + 1, v1, v2, v3, μ => f_Model_keepsEdges_L25_b  (f_Model_keepsEdges_L25  fuel) v1 v2 v3 μ
def f_Model_keepsEdges_J21   (v1 : Int32) (μ : HMem) : Option (Int32 × HMem) :=
f_Model_keepsEdges_L25 h_fuel v1 1 0 μ
def f_Model_keepsEdges (v1 : Int32) (μ : HMem) : Option (Int32 × HMem) :=
  f_Model_keepsEdges_L2 f_Model_keepsEdges_J21 h_fuel v1 0 μ
def f_Model_isCounted_J63   (s0 : Int32) (μ : HMem) : Option (Int32 × HMem) :=
if s0 &&& 1 = s0 then some (s0, μ) else none
def f_Model_isCounted_J85   (s0 : Int32) (μ : HMem) : Option (Int32 × HMem) :=
if s0 &&& 1 = s0 then some (s0, μ) else none
def f_Model_isCounted (v1 : Int32) (v2 : Int32) (v3 : Int32) (μ : HMem) : Option (Int32 × HMem) :=
  if (v3).toInt < 0 ∨ 5 < (v3).toInt then
    h_bd (f_Model_keepsEdges v1 μ) (fun r88 μ_88 =>
    if r88 &&& 1 = r88 then some (r88, μ_88) else none)
  else if v3 = 0 then
    if (1 : Int32) &&& 1 = 1 then some (1, μ) else none
  else if v3 = 1 then
    if (1 : Int32) &&& 1 = 1 then some (1, μ) else none
  else if v3 = 2 then
    h_bd (f_Model_images v1 μ) (fun r44 μ_44 =>
    h_bd (f_Model_bits r44 μ_44) (fun r47 μ_47 =>
    h_bd (f_Model_size v1 μ_47) (fun r52 μ_52 =>
    if ¬ r47 = r52 then
      f_Model_isCounted_J63 0 μ_52
    else
      f_Model_isCounted_J63 1 μ_52)))
  else if v3 = 3 then
    h_bd (f_Model_images v1 μ) (fun r44 μ_44 =>
    h_bd (f_Model_bits r44 μ_44) (fun r47 μ_47 =>
    h_bd (f_Model_size v1 μ_47) (fun r52 μ_52 =>
    if ¬ r47 = r52 then
      f_Model_isCounted_J63 0 μ_52
    else
      f_Model_isCounted_J63 1 μ_52)))
  else if v3 = 4 then
    h_bd (f_Model_images v1 μ) (fun r66 μ_66 =>
    h_bd (f_Model_bits r66 μ_66) (fun r69 μ_69 =>
    h_bd (f_Model_size v2 μ_69) (fun r74 μ_74 =>
    if ¬ r69 = r74 then
      f_Model_isCounted_J85 0 μ_74
    else
      f_Model_isCounted_J85 1 μ_74)))
  else if v3 = 5 then
    h_bd (f_Model_images v1 μ) (fun r66 μ_66 =>
    h_bd (f_Model_bits r66 μ_66) (fun r69 μ_69 =>
    h_bd (f_Model_size v2 μ_69) (fun r74 μ_74 =>
    if ¬ r69 = r74 then
      f_Model_isCounted_J85 0 μ_74
    else
      f_Model_isCounted_J85 1 μ_74)))
  else none
def f_Model_countOf_J105  (rec_ : Int32 → Int32 → Int32 → Int32 → Int64 → Int32 → HMem → Option (Int64 × HMem)) (v1 : Int32) (v2 : Int32) (v3 : Int32) (v4 : Int32) (v5 : Int64) (s0 : Int32) (μ : HMem) : Option (Int64 × HMem) :=
rec_ v1 v2 v3 v4 v5 s0 μ
def f_Model_countOf_J104  (rec_ : Int32 → Int32 → Int32 → Int32 → Int64 → Int32 → HMem → Option (Int64 × HMem)) (v1 : Int32) (v2 : Int32) (v3 : Int32) (v4 : Int32) (v5 : Int64) (μ : HMem) : Option (Int64 × HMem) :=
f_Model_countOf_J105 rec_ v1 v2 v3 v4 v5 0 μ
def f_Model_countOf_J76  (rec_ : Int32 → Int32 → Int32 → Int32 → Int64 → Int32 → HMem → Option (Int64 × HMem)) (v1 : Int32) (v2 : Int32) (v3 : Int32) (v4 : Int32) (v5 : Int64) (μ : HMem) : Option (Int64 × HMem) :=
h_bd (f_Model_size v1 μ) (fun r78 μ_78 =>
if r78 ≤ 0 then
  f_Model_countOf_J104 rec_ v1 v2 v3 v4 v5 μ_78
else
  h_bd (f_Model_size v1 μ_78) (fun r89 μ_89 =>
  h_bd (f_Model_finds v1 v2 (r89 - 1) μ_89) (fun r94 μ_94 =>
  if r94 = 0 then
    f_Model_countOf_J104 rec_ v1 v2 v3 v4 v5 μ_94
  else
    f_Model_countOf_J105 rec_ v1 v2 v3 v4 v5 1 μ_94)))
def f_Model_countOf_J73  (rec_ : Int32 → Int32 → Int32 → Int32 → Int64 → Int32 → HMem → Option (Int64 × HMem)) (v1 : Int32) (v2 : Int32) (v3 : Int32) (v4 : Int32) (s0 : Int64) (s1 : Int64) (μ : HMem) : Option (Int64 × HMem) :=
h_let (s1 + s0) (fun v5_74 =>
f_Model_countOf_J76 rec_ v1 v2 v3 v4 v5_74 μ)
def f_Model_countOf_L41_b  (rec_ : Int32 → Int32 → Int32 → Int32 → Int64 → Int32 → HMem → Option (Int64 × HMem)) (v1 : Int32) (v2 : Int32) (v3 : Int32) (v4 : Int32) (v5 : Int64) (v7 : Int32) (μ : HMem) : Option (Int64 × HMem) :=
if v7 = 0 then
  some (v5, μ)
else
  h_bd (f_Model_isCounted v1 v2 v3 μ) (fun r50 μ_50 =>
  if r50 = 0 then
    f_Model_countOf_J76 rec_ v1 v2 v3 v4 v5 μ_50
  else
    if v4 = 0 then
      f_Model_countOf_J73 rec_ v1 v2 v3 v4 1 v5 μ_50
    else
      h_bd (f_Model_valueOf v1 v2 μ_50) (fun r66 μ_66 =>
      f_Model_countOf_J73 rec_ v1 v2 v3 v4 r66 v5 μ_66))
def f_Model_countOf_L41  : Nat → Int32 → Int32 → Int32 → Int32 → Int64 → Int32 → HMem → Option (Int64 × HMem)
  | 0, _, _, _, _, _, _, _ => none
  | fuel + 1, v1, v2, v3, v4, v5, v7, μ => f_Model_countOf_L41_b  (f_Model_countOf_L41  fuel) v1 v2 v3 v4 v5 v7 μ
def f_Model_countOf_J20   (v1 : Int32) (v2 : Int32) (v3 : Int32) (s0 : Int32) (μ : HMem) : Option (Int64 × HMem) :=
h_chk 0 (h_len 133) (h_let (h_wi μ 133 (Int32.toNatClampNeg (0)) (-1)) (fun μ_31 =>
h_bd (f_Model_finds v1 v2 0 μ_31) (fun r36 μ_36 =>
f_Model_countOf_L41 h_fuel v1 v2 v3 s0 0 r36 μ_36)))
def f_Model_countOf_J15   (v1 : Int32) (v2 : Int32) (v3 : Int32) (μ : HMem) : Option (Int64 × HMem) :=
f_Model_countOf_J20 v1 v2 v3 1 μ
def f_Model_countOf (v1 : Int32) (v2 : Int32) (v3 : Int32) (μ : HMem) : Option (Int64 × HMem) :=
  if v3 = (1 : Int32) then
    f_Model_countOf_J15 v1 v2 v3 μ
  else
    if v3 = (3 : Int32) then
      f_Model_countOf_J15 v1 v2 v3 μ
    else
      if ¬ v3 = (5 : Int32) then
        f_Model_countOf_J20 v1 v2 v3 0 μ
      else
        f_Model_countOf_J15 v1 v2 v3 μ
def f_Model_count_J14    (μ : HMem) : Option (Int64 × HMem) :=
h_bd (f_Model_fails 1 μ) (fun r16 μ_16 =>
some ((Int32.toInt64 r16), μ_16))
def f_Model_count (v1 : Int32) (v2 : Int32) (v3 : Int32) (μ : HMem) : Option (Int64 × HMem) :=
  h_bd (f_Model_isGraph v1 μ) (fun r1 μ_1 =>
  if r1 = 0 then
    f_Model_count_J14 μ_1
  else
    h_bd (f_Model_isGraph v2 μ_1) (fun r8 μ_8 =>
    if ¬ r8 = 0 then
      h_bd (f_Model_in v3 0 6 μ_8) (fun r25 μ_25 =>
      if ¬ r25 = 0 then
        h_bd (f_Model_size v1 μ_25) (fun r40 μ_40 =>
        if r40 ≤ (6 : Int32) then
          h_let (h_wi μ_40 125 5 0) (fun μ_57 =>
          h_bd (f_Model_countOf v1 v2 v3 μ_57) (fun r64 μ_64 =>
          some (r64, μ_64)))
        else
          h_bd (f_Model_fails 3 μ_40) (fun r50 μ_50 =>
          some ((Int32.toInt64 r50), μ_50)))
      else
        h_bd (f_Model_fails 2 μ_25) (fun r33 μ_33 =>
        some ((Int32.toInt64 r33), μ_33)))
    else
      f_Model_count_J14 μ_8))
def f_Model_density_J14    (μ : HMem) : Option (Int64 × HMem) :=
h_bd (f_Model_fails 1 μ) (fun r16 μ_16 =>
some ((Int32.toInt64 r16), μ_16))
def f_Model_density_J55    (μ : HMem) : Option (Int64 × HMem) :=
h_bd (f_Model_fails 3 μ) (fun r57 μ_57 =>
some ((Int32.toInt64 r57), μ_57))
def f_Model_density_L82_b (K109 : Int32 → Int64 → Int64 → HMem → Option (Int64 × HMem)) (rec_ : Int32 → Int32 → Int32 → Int64 → Int64 → Int32 → HMem → Option (Int64 × HMem)) (v1 : Int32) (v2 : Int32) (v3 : Int32) (v4 : Int64) (v6 : Int64) (v8 : Int32) (μ : HMem) : Option (Int64 × HMem) :=
h_bd (f_Model_size v1 μ) (fun r86 μ_86 =>
if r86 ≤ v8 then
  K109 v3 v4 v6 μ_86
else
  h_bd (f_Model_size v2 μ_86) (fun r96 μ_96 =>
  h_let (v6 * (Int32.toInt64 r96)) (fun v6_101 =>
  h_let (v8 + 1) (fun v8_103 =>
  rec_ v1 v2 v3 v4 v6_101 v8_103 μ_96))))
def f_Model_density_L82 (K109 : Int32 → Int64 → Int64 → HMem → Option (Int64 × HMem)) : Nat → Int32 → Int32 → Int32 → Int64 → Int64 → Int32 → HMem → Option (Int64 × HMem)
  | 0, _, _, _, _, _, _, _ => none
  | fuel + 1, v1, v2, v3, v4, v6, v8, μ => f_Model_density_L82_b K109 (f_Model_density_L82 K109 fuel) v1 v2 v3 v4 v6 v8 μ
def f_Model_density_L117_b (K142 : Int32 → Int64 → Int64 → Int64 → HMem → Option (Int64 × HMem)) (rec_ : Int32 → Int64 → Int64 → Int64 → Int64 → HMem → Option (Int64 × HMem)) (v3 : Int32) (v4 : Int64) (v6 : Int64) (v8 : Int64) (v10 : Int64) (μ : HMem) : Option (Int64 × HMem) :=
if (lg_cmp v10 0) = 0 then
  K142 v3 v4 v6 v8 μ
else
  if v10 = 0 then none else
  h_let (h_lrem v8 v10) (fun v12_129 =>
  rec_ v3 v4 v6 v10 v12_129 μ)
def f_Model_density_L117 (K142 : Int32 → Int64 → Int64 → Int64 → HMem → Option (Int64 × HMem)) : Nat → Int32 → Int64 → Int64 → Int64 → Int64 → HMem → Option (Int64 × HMem)
  | 0, _, _, _, _, _, _ => none
  | fuel + 1, v3, v4, v6, v8, v10, μ => f_Model_density_L117_b K142 (f_Model_density_L117 K142 fuel) v3 v4 v6 v8 v10 μ
def f_Model_density_J159   (s0 : Int64) (μ : HMem) : Option (Int64 × HMem) :=
some (s0, μ)
def f_Model_density_J142   (v3 : Int32) (v4 : Int64) (v6 : Int64) (v8 : Int64) (μ : HMem) : Option (Int64 × HMem) :=
if ¬ v3 = 0 then
  if v8 = 0 then none else
  f_Model_density_J159 (v6 / v8) μ
else
  if v8 = 0 then none else
  f_Model_density_J159 (v4 / v8) μ
def f_Model_density_J109   (v3 : Int32) (v4 : Int64) (v6 : Int64) (μ : HMem) : Option (Int64 × HMem) :=
f_Model_density_L117 f_Model_density_J142 h_fuel v3 v4 v6 v4 v6 μ
def f_Model_density (v1 : Int32) (v2 : Int32) (v3 : Int32) (μ : HMem) : Option (Int64 × HMem) :=
  h_bd (f_Model_isGraph v1 μ) (fun r1 μ_1 =>
  if r1 = 0 then
    f_Model_density_J14 μ_1
  else
    h_bd (f_Model_isGraph v2 μ_1) (fun r8 μ_8 =>
    if ¬ r8 = 0 then
      h_bd (f_Model_in v3 0 1 μ_8) (fun r24 μ_24 =>
      if ¬ r24 = 0 then
        h_bd (f_Model_size v1 μ_24) (fun r39 μ_39 =>
        if (6 : Int32) < r39 then
          f_Model_density_J55 μ_39
        else
          h_bd (f_Model_size v2 μ_39) (fun r49 μ_49 =>
          if ¬ r49 = 0 then
            h_let (h_wi μ_49 125 5 0) (fun μ_64 =>
            h_bd (f_Model_countOf v1 v2 0 μ_64) (fun r71 μ_71 =>
            f_Model_density_L82 f_Model_density_J109 h_fuel v1 v2 v3 r71 1 0 μ_71))
          else
            f_Model_density_J55 μ_49))
      else
        h_bd (f_Model_fails 2 μ_24) (fun r32 μ_32 =>
        some ((Int32.toInt64 r32), μ_32)))
    else
      f_Model_density_J14 μ_8))
def f_Model_isLike_J97  (rec_ : Int32 → Int32 → Int32 → Int32 → Int32 → HMem → Option (Int32 × HMem)) (v1 : Int32) (v2 : Int32) (v3 : Int32) (v5 : Int32) (s0 : Int32) (μ : HMem) : Option (Int32 × HMem) :=
h_let (v5 + 1) (fun v5_99 =>
rec_ v1 v2 v3 s0 v5_99 μ)
def f_Model_isLike_J96  (rec_ : Int32 → Int32 → Int32 → Int32 → Int32 → HMem → Option (Int32 × HMem)) (v1 : Int32) (v2 : Int32) (v3 : Int32) (v5 : Int32) (μ : HMem) : Option (Int32 × HMem) :=
f_Model_isLike_J97 rec_ v1 v2 v3 v5 0 μ
def f_Model_isLike_J63  (rec_ : Int32 → Int32 → Int32 → Int32 → Int32 → HMem → Option (Int32 × HMem)) (v1 : Int32) (v2 : Int32) (v3 : Int32) (v5 : Int32) (μ : HMem) : Option (Int32 × HMem) :=
h_bd (f_Model_between v1 v3 v5 μ) (fun r68 μ_68 =>
h_chk v3 (h_len 133) (
h_chk v5 (h_len 133) (
h_bd (f_Model_between v2 (μ_68.1 133 (Int32.toNatClampNeg (v3))) (μ_68.1 133 (Int32.toNatClampNeg (v5))) μ_68) (fun r86 μ_86 =>
if ¬ r68 = r86 then
  f_Model_isLike_J96 rec_ v1 v2 v3 v5 μ_86
else
  f_Model_isLike_J97 rec_ v1 v2 v3 v5 1 μ_86))))
def f_Model_isLike_L30_b (K105 : Int32 → HMem → Option (Int32 × HMem)) (rec_ : Int32 → Int32 → Int32 → Int32 → Int32 → HMem → Option (Int32 × HMem)) (v1 : Int32) (v2 : Int32) (v3 : Int32) (v4 : Int32) (v5 : Int32) (μ : HMem) : Option (Int32 × HMem) :=
if v3 < v5 then
  K105 v4 μ
else
  if v4 = 0 then
    K105 v4 μ
  else
    if v5 = v3 then
      f_Model_isLike_J63 rec_ v1 v2 v3 v5 μ
    else
      h_chk v5 (h_len 133) (
      h_chk v3 (h_len 133) (
      if (μ.1 133 (Int32.toNatClampNeg (v5))) = (μ.1 133 (Int32.toNatClampNeg (v3))) then
        f_Model_isLike_J96 rec_ v1 v2 v3 v5 μ
      else
        f_Model_isLike_J63 rec_ v1 v2 v3 v5 μ))
def f_Model_isLike_L30 (K105 : Int32 → HMem → Option (Int32 × HMem)) : Nat → Int32 → Int32 → Int32 → Int32 → Int32 → HMem → Option (Int32 × HMem)
  | 0, _, _, _, _, _, _ => none
  | fuel + 1, v1, v2, v3, v4, v5, μ => f_Model_isLike_L30_b K105 (f_Model_isLike_L30 K105 fuel) v1 v2 v3 v4 v5 μ
def f_Model_isLike_J105   (v4 : Int32) (μ : HMem) : Option (Int32 × HMem) :=
if v4 &&& 1 = v4 then some (v4, μ) else none
def f_Model_isLike_J25   (v1 : Int32) (v2 : Int32) (v3 : Int32) (s0 : Int32) (μ : HMem) : Option (Int32 × HMem) :=
f_Model_isLike_L30 f_Model_isLike_J105 h_fuel v1 v2 v3 s0 0 μ
def f_Model_isLike (v1 : Int32) (v2 : Int32) (v3 : Int32) (μ : HMem) : Option (Int32 × HMem) :=
  h_bd (f_Model_weight v1 v3 μ) (fun r3 μ_3 =>
  h_chk v3 (h_len 133) (
  h_bd (f_Model_weight v2 (μ_3.1 133 (Int32.toNatClampNeg (v3))) μ_3) (fun r14 μ_14 =>
  if ¬ r3 = r14 then
    f_Model_isLike_J25 v1 v2 v3 0 μ_14
  else
    f_Model_isLike_J25 v1 v2 v3 1 μ_14)))
def p_Model_isOrder_14 (cx : HCx) (F_ : Int32 → Int32 → Int32 → Int32 → Int32 → HMem → Option (Int32 × HMem)) : Prop := ∀ (v1 : Int32) (v2 : Int32) (v3 : Int32) (v4 : Int32) (v5 : Int32) (μ : HMem), HX cx (HQ cx h_eI) (F_ v1 v2 v3 v4 v5 μ) 0 0 14 [(0, .ref 125), (1, .int v1), (2, .int v2), (3, .int v3), (4, .int v4), (5, .int v5)] [] μ
def p_Model_isOrder_82 (cx : HCx) (F_ : Int32 → Int32 → Int32 → Int32 → HMem → Option (Int32 × HMem)) : Prop := ∀ (v1 : Int32) (v2 : Int32) (v3 : Int32) (v4 : Int32) (μ : HMem), HX cx (HQ cx h_eI) (F_ v1 v2 v3 v4 μ) 0 0 82 [(0, .ref 125), (1, .int v1), (2, .int v2), (3, .int v3), (4, .int v4)] [] μ
def p_Model_comes_18 (cx : HCx) (F_ : Int32 → Int32 → Int32 → Int32 → Int32 → Int32 → HMem → Option (Int32 × HMem)) : Prop := ∀ (v1 : Int32) (v2 : Int32) (v3 : Int32) (v4 : Int32) (v5 : Int32) (v6 : Int32) (μ : HMem), HX cx (HQ cx h_eI) (F_ v1 v2 v3 v4 v5 v6 μ) 0 0 18 [(0, .ref 125), (1, .int v1), (2, .int v2), (3, .int v3), (4, .int v4), (5, .int v5), (6, .int v6)] [] μ
def p_Model_comes_77 (cx : HCx) (F_ : Int32 → Int32 → Int32 → Int32 → Int32 → HMem → Option (Int32 × HMem)) : Prop := ∀ (v1 : Int32) (v2 : Int32) (v3 : Int32) (v4 : Int32) (v5 : Int32) (μ : HMem), HX cx (HQ cx h_eI) (F_ v1 v2 v3 v4 v5 μ) 0 0 77 [(0, .ref 125), (1, .int v1), (2, .int v2), (3, .int v3), (4, .int v4), (5, .int v5)] [] μ
def p_Model_comes_8 (cx : HCx) (F_ : Int32 → Int32 → Int32 → Int32 → Int32 → HMem → Option (Int32 × HMem)) : Prop := ∀ (v1 : Int32) (v2 : Int32) (v3 : Int32) (v4 : Int32) (v5 : Int32) (μ : HMem), HX cx (HQ cx h_eI) (F_ v1 v2 v3 v4 v5 μ) 0 0 8 [(0, .ref 125), (1, .int v1), (2, .int v2), (3, .int v3), (4, .int v4), (5, .int v5)] [] μ
def p_Model_comes_83 (cx : HCx) (F_ : Int32 → Int32 → Int32 → HMem → Option (Int32 × HMem)) : Prop := ∀ (v2 : Int32) (v3 : Int32) (v4 : Int32) (μ : HMem), HX cx (HQ cx h_eI) (F_ v2 v3 v4 μ) 0 0 83 [(2, .int v2), (3, .int v3), (4, .int v4)] [] μ
def p_Model_treewidthOf_35 (cx : HCx) (F_ : Int32 → Int32 → Int32 → Int32 → HMem → Option (Int32 × HMem)) : Prop := ∀ (v1 : Int32) (v2 : Int32) (v3 : Int32) (v4 : Int32) (μ : HMem), HX cx (HQ cx h_eI) (F_ v1 v2 v3 v4 μ) 0 0 35 [(0, .ref 125), (1, .int v1), (2, .int v2), (3, .int v3), (4, .int v4)] [] μ
def p_Model_treewidthOf_136 (cx : HCx) (F_ : Int32 → Int32 → Int32 → HMem → Option (Int32 × HMem)) : Prop := ∀ (v1 : Int32) (v2 : Int32) (v3 : Int32) (μ : HMem), HX cx (HQ cx h_eI) (F_ v1 v2 v3 μ) 0 0 136 [(0, .ref 125), (1, .int v1), (2, .int v2), (3, .int v3)] [] μ
def p_Model_treewidthOf_19 (cx : HCx) (F_ : Int32 → Int32 → Int32 → HMem → Option (Int32 × HMem)) : Prop := ∀ (v1 : Int32) (v2 : Int32) (v3 : Int32) (μ : HMem), HX cx (HQ cx h_eI) (F_ v1 v2 v3 μ) 0 0 19 [(0, .ref 125), (1, .int v1), (2, .int v2), (3, .int v3)] [] μ
def p_Model_fits_6 (cx : HCx) (F_ : Int32 → Int32 → Int32 → Int32 → Int32 → HMem → Option (Int32 × HMem)) : Prop := ∀ (v1 : Int32) (v2 : Int32) (v3 : Int32) (v4 : Int32) (v5 : Int32) (μ : HMem), HX cx (HQ cx h_eI) (F_ v1 v2 v3 v4 v5 μ) 0 0 6 [(0, .ref 125), (1, .int v1), (2, .int v2), (3, .int v3), (4, .int v4), (5, .int v5)] [] μ
def p_Model_fits_62 (cx : HCx) (F_ : Int32 → HMem → Option (Int32 × HMem)) : Prop := ∀ (v4 : Int32) (μ : HMem), HX cx (HQ cx h_eI) (F_ v4 μ) 0 0 62 [(4, .int v4)] [] μ
def p_Model_finds_73 (cx : HCx) (F_ : Int32 → Int32 → Int32 → Int32 → HMem → Option (Int32 × HMem)) : Prop := ∀ (v1 : Int32) (v2 : Int32) (v4 : Int32) (v5 : Int32) (μ : HMem), HX cx (HQ cx h_eI) (F_ v1 v2 v4 v5 μ) 0 0 73 [(0, .ref 125), (1, .int v1), (2, .int v2), (4, .int v4), (5, .int v5)] [] μ
def p_Model_finds_33 (cx : HCx) (F_ : Int32 → Int32 → Int32 → Int32 → HMem → Option (Int32 × HMem)) : Prop := ∀ (v1 : Int32) (v2 : Int32) (v4 : Int32) (v5 : Int32) (μ : HMem), HX cx (HQ cx h_eI) (F_ v1 v2 v4 v5 μ) 0 0 33 [(0, .ref 125), (1, .int v1), (2, .int v2), (4, .int v4), (5, .int v5)] [] μ
def p_Model_finds_10 (cx : HCx) (F_ : Int32 → Int32 → Int32 → Int32 → HMem → Option (Int32 × HMem)) : Prop := ∀ (v1 : Int32) (v2 : Int32) (v4 : Int32) (v5 : Int32) (μ : HMem), HX cx (HQ cx h_eI) (F_ v1 v2 v4 v5 μ) 0 0 10 [(0, .ref 125), (1, .int v1), (2, .int v2), (4, .int v4), (5, .int v5)] [] μ
def p_Model_finds_108 (cx : HCx) (F_ : Int32 → Int32 → HMem → Option (Int32 × HMem)) : Prop := ∀ (v4 : Int32) (v5 : Int32) (μ : HMem), HX cx (HQ cx h_eI) (F_ v4 v5 μ) 0 0 108 [(4, .int v4), (5, .int v5)] [] μ
def p_Model_firstImage_53 (cx : HCx) (F_ : Int32 → Int32 → Int32 → Int32 → HMem → Option (Int32 × HMem)) : Prop := ∀ (v1 : Int32) (v2 : Int32) (v3 : Int32) (v4 : Int32) (μ : HMem), HX cx (HQ cx h_eI) (F_ v1 v2 v3 v4 μ) 0 0 53 [(0, .ref 125), (1, .int v1), (2, .int v2), (3, .int v3), (4, .int v4)] [] μ
def p_Model_firstImage_29 (cx : HCx) (F_ : Int32 → Int32 → Int32 → Int32 → HMem → Option (Int32 × HMem)) : Prop := ∀ (v1 : Int32) (v2 : Int32) (v3 : Int32) (v4 : Int32) (μ : HMem), HX cx (HQ cx h_eI) (F_ v1 v2 v3 v4 μ) 0 0 29 [(0, .ref 125), (1, .int v1), (2, .int v2), (3, .int v3), (4, .int v4)] [] μ
def p_Model_firstImage_15 (cx : HCx) (F_ : Int32 → Int32 → Int32 → Int32 → HMem → Option (Int32 × HMem)) : Prop := ∀ (v1 : Int32) (v2 : Int32) (v3 : Int32) (v4 : Int32) (μ : HMem), HX cx (HQ cx h_eI) (F_ v1 v2 v3 v4 μ) 0 0 15 [(0, .ref 125), (1, .int v1), (2, .int v2), (3, .int v3), (4, .int v4)] [] μ
def p_Model_valueOf_34 (cx : HCx) (F_ : Int32 → Int32 → Int64 → Int32 → Int32 → HMem → Option (Int64 × HMem)) : Prop := ∀ (v1 : Int32) (v2 : Int32) (v3 : Int64) (v5 : Int32) (v6 : Int32) (μ : HMem), HX cx (HQ cx h_eJ) (F_ v1 v2 v3 v5 v6 μ) 0 0 34 [(0, .ref 125), (1, .int v1), (2, .int v2), (3, .long v3), (5, .int v5), (6, .int v6)] [] μ
def p_Model_valueOf_86 (cx : HCx) (F_ : Int32 → Int32 → Int64 → Int32 → HMem → Option (Int64 × HMem)) : Prop := ∀ (v1 : Int32) (v2 : Int32) (v3 : Int64) (v5 : Int32) (μ : HMem), HX cx (HQ cx h_eJ) (F_ v1 v2 v3 v5 μ) 0 0 86 [(0, .ref 125), (1, .int v1), (2, .int v2), (3, .long v3), (5, .int v5)] [] μ
def p_Model_valueOf_5 (cx : HCx) (F_ : Int32 → Int32 → Int64 → Int32 → HMem → Option (Int64 × HMem)) : Prop := ∀ (v1 : Int32) (v2 : Int32) (v3 : Int64) (v5 : Int32) (μ : HMem), HX cx (HQ cx h_eJ) (F_ v1 v2 v3 v5 μ) 0 0 5 [(0, .ref 125), (1, .int v1), (2, .int v2), (3, .long v3), (5, .int v5)] [] μ
def p_Model_images_4 (cx : HCx) (F_ : Int32 → Int32 → Int32 → HMem → Option (Int32 × HMem)) : Prop := ∀ (v1 : Int32) (v2 : Int32) (v3 : Int32) (μ : HMem), HX cx (HQ cx h_eI) (F_ v1 v2 v3 μ) 0 0 4 [(0, .ref 125), (1, .int v1), (2, .int v2), (3, .int v3)] [] μ
def p_Model_keepsEdges_21 (cx : HCx) (F_ : Int32 → HMem → Option (Int32 × HMem)) : Prop := ∀ (v1 : Int32) (μ : HMem), HX cx (HQ cx h_eI) (F_ v1 μ) 0 0 21 [(0, .ref 125), (1, .int v1)] [] μ
def p_Model_keepsEdges_2 (cx : HCx) (F_ : Int32 → Int32 → HMem → Option (Int32 × HMem)) : Prop := ∀ (v1 : Int32) (v2 : Int32) (μ : HMem), HX cx (HQ cx h_eI) (F_ v1 v2 μ) 0 0 2 [(0, .ref 125), (1, .int v1), (2, .int v2)] [] μ
def p_Model_keepsEdges_37 (cx : HCx) (F_ : Int32 → Int32 → Int32 → Int32 → HMem → Option (Int32 × HMem)) : Prop := ∀ (v1 : Int32) (v2 : Int32) (v3 : Int32) (v4 : Int32) (μ : HMem), HX cx (HQ cx h_eI) (F_ v1 v2 v3 v4 μ) 0 0 37 [(0, .ref 125), (1, .int v1), (2, .int v2), (3, .int v3), (4, .int v4)] [] μ
def p_Model_keepsEdges_147 (cx : HCx) (F_ : Int32 → Int32 → Int32 → HMem → Option (Int32 × HMem)) : Prop := ∀ (v1 : Int32) (v2 : Int32) (v3 : Int32) (μ : HMem), HX cx (HQ cx h_eI) (F_ v1 v2 v3 μ) 0 0 147 [(0, .ref 125), (1, .int v1), (2, .int v2), (3, .int v3)] [] μ
def p_Model_keepsEdges_25 (cx : HCx) (F_ : Int32 → Int32 → Int32 → HMem → Option (Int32 × HMem)) : Prop := ∀ (v1 : Int32) (v2 : Int32) (v3 : Int32) (μ : HMem), HX cx (HQ cx h_eI) (F_ v1 v2 v3 μ) 0 0 25 [(0, .ref 125), (1, .int v1), (2, .int v2), (3, .int v3)] [] μ
def p_Model_countOf_41 (cx : HCx) (F_ : Int32 → Int32 → Int32 → Int32 → Int64 → Int32 → HMem → Option (Int64 × HMem)) : Prop := ∀ (v1 : Int32) (v2 : Int32) (v3 : Int32) (v4 : Int32) (v5 : Int64) (v7 : Int32) (μ : HMem), HX cx (HQ cx h_eJ) (F_ v1 v2 v3 v4 v5 v7 μ) 0 0 41 [(0, .ref 125), (1, .int v1), (2, .int v2), (3, .int v3), (4, .int v4), (5, .long v5), (7, .int v7)] [] μ
def p_Model_density_109 (cx : HCx) (F_ : Int32 → Int64 → Int64 → HMem → Option (Int64 × HMem)) : Prop := ∀ (v3 : Int32) (v4 : Int64) (v6 : Int64) (μ : HMem), HX cx (HQ cx h_eJ) (F_ v3 v4 v6 μ) 0 0 109 [(3, .int v3), (4, .long v4), (6, .long v6)] [] μ
def p_Model_density_82 (cx : HCx) (F_ : Int32 → Int32 → Int32 → Int64 → Int64 → Int32 → HMem → Option (Int64 × HMem)) : Prop := ∀ (v1 : Int32) (v2 : Int32) (v3 : Int32) (v4 : Int64) (v6 : Int64) (v8 : Int32) (μ : HMem), HX cx (HQ cx h_eJ) (F_ v1 v2 v3 v4 v6 v8 μ) 0 0 82 [(0, .ref 125), (1, .int v1), (2, .int v2), (3, .int v3), (4, .long v4), (6, .long v6), (8, .int v8)] [] μ
def p_Model_density_142 (cx : HCx) (F_ : Int32 → Int64 → Int64 → Int64 → HMem → Option (Int64 × HMem)) : Prop := ∀ (v3 : Int32) (v4 : Int64) (v6 : Int64) (v8 : Int64) (μ : HMem), HX cx (HQ cx h_eJ) (F_ v3 v4 v6 v8 μ) 0 0 142 [(3, .int v3), (4, .long v4), (6, .long v6), (8, .long v8)] [] μ
def p_Model_density_117 (cx : HCx) (F_ : Int32 → Int64 → Int64 → Int64 → Int64 → HMem → Option (Int64 × HMem)) : Prop := ∀ (v3 : Int32) (v4 : Int64) (v6 : Int64) (v8 : Int64) (v10 : Int64) (μ : HMem), HX cx (HQ cx h_eJ) (F_ v3 v4 v6 v8 v10 μ) 0 0 117 [(3, .int v3), (4, .long v4), (6, .long v6), (8, .long v8), (10, .long v10)] [] μ
def p_Model_isLike_30 (cx : HCx) (F_ : Int32 → Int32 → Int32 → Int32 → Int32 → HMem → Option (Int32 × HMem)) : Prop := ∀ (v1 : Int32) (v2 : Int32) (v3 : Int32) (v4 : Int32) (v5 : Int32) (μ : HMem), HX cx (HQ cx h_eI) (F_ v1 v2 v3 v4 v5 μ) 0 0 30 [(0, .ref 125), (1, .int v1), (2, .int v2), (3, .int v3), (4, .int v4), (5, .int v5)] [] μ
def p_Model_isLike_105 (cx : HCx) (F_ : Int32 → HMem → Option (Int32 × HMem)) : Prop := ∀ (v4 : Int32) (μ : HMem), HX cx (HQ cx h_eI) (F_ v4 μ) 0 0 105 [(4, .int v4)] [] μ
theorem t_Model_greedy_0 {cx : HCx} (hg : HGood cx R_Model b_Model_greedy 3 5 (some .int)) (hA : h_own cx) (v1 : Int32) (v2 : Int32) (μ : HMem) : HX cx (HQ cx h_eI) (f_Model_greedy v1 v2 μ) 0 0 0 [(0, .ref 125), (1, .int v1), (2, .int v2)] [] μ := by
  unfold f_Model_greedy
  refine r_aload_n hg 0 d_Model_greedy_0 rfl rfl ?_
  refine r_iload_n hg 1 d_Model_greedy_1 rfl rfl ?_
  refine r_iload_n hg 2 d_Model_greedy_2 rfl rfl ?_
  refine r_callV (As := [.int v1, .int v2]) hg (t_Model_isVertex v1 v2 μ) v_Model_isVertex c_Model rfl (by decide) rfl wm_Model_103 d_Model_greedy_3 rfl ⟨by decide, by decide⟩ (Nat.le_of_ble_eq_true rfl) rfl (fun r3 μ_3 _ => ?_)
  refine r_if_ne (tgt := 15) hg d_Model_greedy_6 (by decide) ?_ ?_
  · refine r_aload_n hg 0 d_Model_greedy_15 rfl rfl ?_
    refine r_iload_n hg 1 d_Model_greedy_16 rfl rfl ?_
    refine r_iconst (v := 1) hg d_Model_greedy_17 (by decide) ?_
    refine r_callV (As := [.int v1, .int 1]) hg (t_Model_eliminates v1 1 μ_3) v_Model_eliminates c_Model rfl (by decide) rfl wm_Model_189 d_Model_greedy_18 rfl ⟨by decide, by decide⟩ (Nat.le_of_ble_eq_true rfl) rfl (fun r18 μ_18 _ => ?_)
    refine r_aload_n hg 0 d_Model_greedy_21 rfl rfl ?_
    refine r_aload_n hg 0 d_Model_greedy_22 rfl rfl ?_
    refine r_get (v := .ref 130) hg c_Model (by decide) rfl (Nat.le_of_ble_eq_true rfl) rfl wf_Model_22 d_Model_greedy_23 rfl ?_
    refine r_iload_n hg 2 d_Model_greedy_26 rfl rfl ?_
    refine r_iald hg (by decide) rfl d_Model_greedy_27 ?_
    refine r_callV (As := [.int (μ_18.1 130 (Int32.toNatClampNeg (v2)))]) hg (t_Model_tells (μ_18.1 130 (Int32.toNatClampNeg (v2))) μ_18) v_Model_tells c_Model rfl (by decide) rfl wm_Model_171 d_Model_greedy_28 rfl ⟨by decide, by decide⟩ (Nat.le_of_ble_eq_true rfl) rfl (fun r28 μ_28 _ => ?_)
    exact r_iret hg hA rfl d_Model_greedy_31 rfl
  · refine r_aload_n hg 0 d_Model_greedy_9 rfl rfl ?_
    refine r_iconst (v := 1) hg d_Model_greedy_10 (by decide) ?_
    refine r_callV (As := [.int 1]) hg (t_Model_fails 1 μ_3) v_Model_fails c_Model rfl (by decide) rfl wm_Model_93 d_Model_greedy_11 rfl ⟨by decide, by decide⟩ (Nat.le_of_ble_eq_true rfl) rfl (fun r11 μ_11 _ => ?_)
    exact r_iret hg hA rfl d_Model_greedy_14 rfl
theorem t_Model_greedy (v1 : Int32) (v2 : Int32) (μ : HMem) : HSpec y_Model_greedy b_Model_greedy 3 (some .int) 5 h_eI [.ref 125, .int v1, .int v2] μ (f_Model_greedy v1 v2 μ) :=
  HSpec.of (by decide +kernel) (v_Model_greedy.1 _ (by simp)) (Nat.le_of_ble_eq_true rfl) (fun cx hA hg => t_Model_greedy_0 hg hA v1 v2 μ)
theorem t_Model_isOrder_J68 {cx : HCx} (hg : HGood cx R_Model b_Model_isOrder 6 2 (some .boolean)) (hA : h_own cx)  (rec_ : Int32 → Int32 → Int32 → Int32 → Int32 → HMem → Option (Int32 × HMem)) (hrec_ : p_Model_isOrder_14 cx rec_) (v1 : Int32) (v2 : Int32) (v3 : Int32) (v5 : Int32) (s0 : Int32) (s1 : Int32) (μ : HMem) : HX cx (HQ cx h_eI) (f_Model_isOrder_J68  rec_ v1 v2 v3 v5 s0 s1 μ) 0 0 68 [(0, .ref 125), (1, .int v1), (2, .int v2), (3, .int v3), (5, .int v5)] [.int s0, .int s1] μ := by
  unfold f_Model_isOrder_J68
  refine r_ior hg d_Model_isOrder_68 ?_
  refine r_letI (fun v4_69 => ?_)
  refine r_istore (l' := [(4, .int v4_69), (0, .ref 125), (1, .int v1), (2, .int v2), (3, .int v3), (5, .int v5)]) hg d_Model_isOrder_69 (Nat.le_of_ble_eq_true rfl) rfl ?_
  refine r_iload_n hg 4 d_Model_isOrder_71 rfl rfl ?_
  refine r_bipush (v := 10) hg d_Model_isOrder_72 (by decide) ?_
  refine r_idiv hg d_Model_isOrder_74 ?_
  refine r_letI (fun v3_75 => ?_)
  refine r_istore_n (l' := [(3, .int v3_75), (4, .int v4_69), (0, .ref 125), (1, .int v1), (2, .int v2), (5, .int v5)]) hg d_Model_isOrder_75 rfl (Nat.le_of_ble_eq_true rfl) rfl ?_
  refine r_letE (fun v5_76 he_76 => ?_)
  refine r_iinc (v := v5_76) (l' := [(5, .int v5_76), (3, .int v3_75), (4, .int v4_69), (0, .ref 125), (1, .int v1), (2, .int v2)]) hg 5 d_Model_isOrder_76 rfl he_76 (Nat.le_of_ble_eq_true rfl) rfl ?_
  refine r_goto (tgt := 14) hg d_Model_isOrder_79 (by decide) ?_
  refine r_sub [3, 4, 5, 1, 2, 0] rfl ?_
  exact hrec_ v1 v2 v3_75 v4_69 v5_76 μ
theorem t_Model_isOrder_L14_b {cx : HCx} (hg : HGood cx R_Model b_Model_isOrder 6 2 (some .boolean)) (hA : h_own cx) (K82 : Int32 → Int32 → Int32 → Int32 → HMem → Option (Int32 × HMem)) (hK82 : p_Model_isOrder_82 cx K82) (rec_ : Int32 → Int32 → Int32 → Int32 → Int32 → HMem → Option (Int32 × HMem)) (hrec_ : p_Model_isOrder_14 cx rec_) (v1 : Int32) (v2 : Int32) (v3 : Int32) (v4 : Int32) (v5 : Int32) (μ : HMem) : HX cx (HQ cx h_eI) (f_Model_isOrder_L14_b K82 rec_ v1 v2 v3 v4 v5 μ) 0 0 14 [(0, .ref 125), (1, .int v1), (2, .int v2), (3, .int v3), (4, .int v4), (5, .int v5)] [] μ := by
  unfold f_Model_isOrder_L14_b
  refine r_iload hg 5 d_Model_isOrder_14 rfl ?_
  refine r_if_lt (tgt := 82) hg d_Model_isOrder_16 (by decide) ?_ ?_
  · refine r_sub [0, 1, 2, 3, 4] rfl ?_
    exact hK82 v1 v2 v3 v4 μ
  · refine r_aload_n hg 0 d_Model_isOrder_19 rfl rfl ?_
    refine r_get (v := .ref 130) hg c_Model (by decide) rfl (Nat.le_of_ble_eq_true rfl) rfl wf_Model_22 d_Model_isOrder_20 rfl ?_
    refine r_iload hg 5 d_Model_isOrder_23 rfl ?_
    refine r_iload_n hg 3 d_Model_isOrder_25 rfl rfl ?_
    refine r_bipush (v := 10) hg d_Model_isOrder_26 (by decide) ?_
    refine r_irem hg d_Model_isOrder_28 ?_
    refine r_iconst (v := 1) hg d_Model_isOrder_29 (by decide) ?_
    refine r_isub hg d_Model_isOrder_30 ?_
    refine r_iast hg (by decide) rfl d_Model_isOrder_31 ?_
    refine r_letM (fun μ_31 => ?_)
    refine r_iload hg 4 d_Model_isOrder_32 rfl ?_
    refine r_aload_n hg 0 d_Model_isOrder_34 rfl rfl ?_
    refine r_get (v := .ref 130) hg c_Model (by decide) rfl (Nat.le_of_ble_eq_true rfl) rfl wf_Model_22 d_Model_isOrder_35 rfl ?_
    refine r_iload hg 5 d_Model_isOrder_38 rfl ?_
    refine r_iald hg (by decide) rfl d_Model_isOrder_40 ?_
    refine r_iconst (v := 0) hg d_Model_isOrder_41 (by decide) ?_
    refine r_aload_n hg 0 d_Model_isOrder_42 rfl rfl ?_
    refine r_iload_n hg 1 d_Model_isOrder_43 rfl rfl ?_
    refine r_callV (As := [.int v1]) hg (t_Model_size v1 μ_31) v_Model_size c_Model rfl (by decide) rfl wm_Model_75 d_Model_isOrder_44 rfl ⟨by decide, by decide⟩ (Nat.le_of_ble_eq_true rfl) rfl (fun r44 μ_44 _ => ?_)
    refine r_iconst (v := 1) hg d_Model_isOrder_47 (by decide) ?_
    refine r_isub hg d_Model_isOrder_48 ?_
    refine r_callS (As := [.int (μ_31.1 130 (Int32.toNatClampNeg (v5))), .int 0, .int (r44 - 1)]) hg (t_Model_in (μ_31.1 130 (Int32.toNatClampNeg (v5))) 0 (r44 - 1) μ_44) v_Model_in wm_Model_67 d_Model_isOrder_49 rfl ⟨by decide, by decide⟩ (Nat.le_of_ble_eq_true rfl) rfl (fun r49 μ_49 _ => ?_)
    refine r_if_eq (tgt := 67) hg d_Model_isOrder_52 (by decide) ?_ ?_
    · refine r_iconst (v := 0) hg d_Model_isOrder_67 (by decide) ?_
      refine r_sub [0, 1, 2, 3, 5] rfl ?_
      exact t_Model_isOrder_J68 hg hA rec_ hrec_ v1 v2 v3 v5 0 v4 μ_49
    · refine r_iconst (v := 1) hg d_Model_isOrder_55 (by decide) ?_
      refine r_aload_n hg 0 d_Model_isOrder_56 rfl rfl ?_
      refine r_get (v := .ref 130) hg c_Model (by decide) rfl (Nat.le_of_ble_eq_true rfl) rfl wf_Model_22 d_Model_isOrder_57 rfl ?_
      refine r_iload hg 5 d_Model_isOrder_60 rfl ?_
      refine r_iald hg (by decide) rfl d_Model_isOrder_62 ?_
      refine r_ishl hg d_Model_isOrder_63 ?_
      refine r_goto (tgt := 68) hg d_Model_isOrder_64 (by decide) ?_
      refine r_sub [0, 1, 2, 3, 5] rfl ?_
      exact t_Model_isOrder_J68 hg hA rec_ hrec_ v1 v2 v3 v5 (h_ishl 1 (μ_49.1 130 (Int32.toNatClampNeg (v5)))) v4 μ_49
theorem t_Model_isOrder_L14 {cx : HCx} (hg : HGood cx R_Model b_Model_isOrder 6 2 (some .boolean)) (hA : h_own cx) (K82 : Int32 → Int32 → Int32 → Int32 → HMem → Option (Int32 × HMem)) (hK82 : p_Model_isOrder_82 cx K82) : ∀ (fuel : Nat) (v1 : Int32) (v2 : Int32) (v3 : Int32) (v4 : Int32) (v5 : Int32) (μ : HMem), HX cx (HQ cx h_eI) (f_Model_isOrder_L14 K82 fuel v1 v2 v3 v4 v5 μ) 0 0 14 [(0, .ref 125), (1, .int v1), (2, .int v2), (3, .int v3), (4, .int v4), (5, .int v5)] [] μ
  | 0, _, _, _, _, _, _ => by unfold f_Model_isOrder_L14; exact HX.none
  | fuel + 1, v1, v2, v3, v4, v5, μ => by
    rw [f_Model_isOrder_L14]
    exact t_Model_isOrder_L14_b hg hA  K82 hK82 (f_Model_isOrder_L14 K82 fuel) (t_Model_isOrder_L14 hg hA  K82 hK82 fuel) v1 v2 v3 v4 v5 μ
theorem t_Model_isOrder_J109 {cx : HCx} (hg : HGood cx R_Model b_Model_isOrder 6 2 (some .boolean)) (hA : h_own cx)   (s0 : Int32) (μ : HMem) : HX cx (HQ cx h_eI) (f_Model_isOrder_J109   s0 μ) 0 0 109 [] [.int s0] μ := by
  unfold f_Model_isOrder_J109
  exact r_zretB hg hA rfl d_Model_isOrder_109 rfl
theorem t_Model_isOrder_J108 {cx : HCx} (hg : HGood cx R_Model b_Model_isOrder 6 2 (some .boolean)) (hA : h_own cx)    (μ : HMem) : HX cx (HQ cx h_eI) (f_Model_isOrder_J108   μ) 0 0 108 [] [] μ := by
  unfold f_Model_isOrder_J108
  refine r_iconst (v := 0) hg d_Model_isOrder_108 (by decide) ?_
  exact t_Model_isOrder_J109 hg hA 0 μ
theorem t_Model_isOrder_J82 {cx : HCx} (hg : HGood cx R_Model b_Model_isOrder 6 2 (some .boolean)) (hA : h_own cx)   (v1 : Int32) (v2 : Int32) (v3 : Int32) (v4 : Int32) (μ : HMem) : HX cx (HQ cx h_eI) (f_Model_isOrder_J82   v1 v2 v3 v4 μ) 0 0 82 [(0, .ref 125), (1, .int v1), (2, .int v2), (3, .int v3), (4, .int v4)] [] μ := by
  unfold f_Model_isOrder_J82
  refine r_iload_n hg 2 d_Model_isOrder_82 rfl rfl ?_
  refine r_if_le (tgt := 108) hg d_Model_isOrder_83 (by decide) ?_ ?_
  · refine r_sub [] rfl ?_
    exact t_Model_isOrder_J108 hg hA μ
  · refine r_iload_n hg 3 d_Model_isOrder_86 rfl rfl ?_
    refine r_if_ne (tgt := 108) hg d_Model_isOrder_87 (by decide) ?_ ?_
    · refine r_sub [] rfl ?_
      exact t_Model_isOrder_J108 hg hA μ
    · refine r_iload hg 4 d_Model_isOrder_90 rfl ?_
      refine r_iconst (v := 1) hg d_Model_isOrder_92 (by decide) ?_
      refine r_aload_n hg 0 d_Model_isOrder_93 rfl rfl ?_
      refine r_iload_n hg 1 d_Model_isOrder_94 rfl rfl ?_
      refine r_callV (As := [.int v1]) hg (t_Model_size v1 μ) v_Model_size c_Model rfl (by decide) rfl wm_Model_75 d_Model_isOrder_95 rfl ⟨by decide, by decide⟩ (Nat.le_of_ble_eq_true rfl) rfl (fun r95 μ_95 _ => ?_)
      refine r_ishl hg d_Model_isOrder_98 ?_
      refine r_iconst (v := 1) hg d_Model_isOrder_99 (by decide) ?_
      refine r_isub hg d_Model_isOrder_100 ?_
      refine r_icmp_ne (tgt := 108) hg d_Model_isOrder_101 (by decide) ?_ ?_
      · refine r_sub [] rfl ?_
        exact t_Model_isOrder_J108 hg hA μ_95
      · refine r_iconst (v := 1) hg d_Model_isOrder_104 (by decide) ?_
        refine r_goto (tgt := 109) hg d_Model_isOrder_105 (by decide) ?_
        refine r_sub [] rfl ?_
        exact t_Model_isOrder_J109 hg hA 1 μ_95
theorem t_Model_isOrder_0 {cx : HCx} (hg : HGood cx R_Model b_Model_isOrder 6 2 (some .boolean)) (hA : h_own cx) (v1 : Int32) (v2 : Int32) (μ : HMem) : HX cx (HQ cx h_eI) (f_Model_isOrder v1 v2 μ) 0 0 0 [(0, .ref 125), (1, .int v1), (2, .int v2)] [] μ := by
  unfold f_Model_isOrder
  refine r_iload_n hg 2 d_Model_isOrder_0 rfl rfl ?_
  refine r_istore_n (l' := [(3, .int v2), (0, .ref 125), (1, .int v1), (2, .int v2)]) hg d_Model_isOrder_1 rfl (Nat.le_of_ble_eq_true rfl) rfl ?_
  refine r_iconst (v := 0) hg d_Model_isOrder_2 (by decide) ?_
  refine r_istore (l' := [(4, .int 0), (3, .int v2), (0, .ref 125), (1, .int v1), (2, .int v2)]) hg d_Model_isOrder_3 (Nat.le_of_ble_eq_true rfl) rfl ?_
  refine r_aload_n hg 2 d_Model_isOrder_5 rfl rfl ?_
  refine r_iload_n hg 3 d_Model_isOrder_6 rfl rfl ?_
  refine r_callV (As := [.int v1]) hg (t_Model_size v1 μ) v_Model_size c_Model rfl (by decide) rfl wm_Model_75 d_Model_isOrder_7 rfl ⟨by decide, by decide⟩ (Nat.le_of_ble_eq_true rfl) rfl (fun r7 μ_7 _ => ?_)
  refine r_iconst (v := 1) hg d_Model_isOrder_10 (by decide) ?_
  refine r_isub hg d_Model_isOrder_11 ?_
  refine r_letI (fun v5_12 => ?_)
  refine r_istore (l' := [(5, .int v5_12), (4, .int 0), (3, .int v2), (0, .ref 125), (1, .int v1), (2, .int v2)]) hg d_Model_isOrder_12 (Nat.le_of_ble_eq_true rfl) rfl ?_
  refine r_sub [3, 4, 5, 2, 1, 0] rfl ?_
  exact t_Model_isOrder_L14 hg hA f_Model_isOrder_J82 (t_Model_isOrder_J82 hg hA) h_fuel v1 v2 v2 0 v5_12 μ_7
theorem t_Model_isOrder (v1 : Int32) (v2 : Int32) (μ : HMem) : HSpec y_Model_isOrder b_Model_isOrder 6 (some .boolean) 2 h_eI [.ref 125, .int v1, .int v2] μ (f_Model_isOrder v1 v2 μ) :=
  HSpec.of (by decide +kernel) (v_Model_isOrder.1 _ (by simp)) (Nat.le_of_ble_eq_true rfl) (fun cx hA hg => t_Model_isOrder_0 hg hA v1 v2 μ)
theorem t_Model_width_J62 {cx : HCx} (hg : HGood cx R_Model b_Model_width 4 5 (some .int)) (hA : h_own cx)   (s0 : Int32) (μ : HMem) : HX cx (HQ cx h_eI) (f_Model_width_J62   s0 μ) 0 0 62 [] [.int s0, .ref 125] μ := by
  unfold f_Model_width_J62
  refine r_callV (As := [.int s0]) hg (t_Model_tells s0 μ) v_Model_tells c_Model rfl (by decide) rfl wm_Model_171 d_Model_width_62 rfl ⟨by decide, by decide⟩ (Nat.le_of_ble_eq_true rfl) rfl (fun r62 μ_62 _ => ?_)
  exact r_iret hg hA rfl d_Model_width_65 rfl
theorem t_Model_width_J43 {cx : HCx} (hg : HGood cx R_Model b_Model_width 4 5 (some .int)) (hA : h_own cx)   (v3 : Int32) (s0 : Int32) (s1 : Int32) (μ : HMem) : HX cx (HQ cx h_eI) (f_Model_width_J43   v3 s0 s1 μ) 0 0 43 [(0, .ref 125), (3, .int v3)] [.int s0, .int s1, .ref 125] μ := by
  unfold f_Model_width_J43
  refine r_callV (As := [.int s1, .int s0]) hg (t_Model_eliminates s1 s0 μ) v_Model_eliminates c_Model rfl (by decide) rfl wm_Model_189 d_Model_width_43 rfl ⟨by decide, by decide⟩ (Nat.le_of_ble_eq_true rfl) rfl (fun r43 μ_43 _ => ?_)
  refine r_aload_n hg 0 d_Model_width_46 rfl rfl ?_
  refine r_iload_n hg 1 d_Model_width_47 rfl rfl ?_
  refine r_if_eq (tgt := 58) hg d_Model_width_48 (by decide) ?_ ?_
  · refine r_aload_n hg 0 d_Model_width_58 rfl rfl ?_
    refine r_get (v := .int (μ_43.1 125 9)) hg c_Model (by decide) rfl (Nat.le_of_ble_eq_true rfl) rfl wf_Model_177 d_Model_width_59 rfl ?_
    refine r_sub [] rfl ?_
    exact t_Model_width_J62 hg hA (μ_43.1 125 9) μ_43
  · refine r_aload_n hg 0 d_Model_width_51 rfl rfl ?_
    refine r_get (v := .int (μ_43.1 125 10)) hg c_Model (by decide) rfl (Nat.le_of_ble_eq_true rfl) rfl wf_Model_180 d_Model_width_52 rfl ?_
    refine r_goto (tgt := 62) hg d_Model_width_55 (by decide) ?_
    refine r_sub [] rfl ?_
    exact t_Model_width_J62 hg hA (μ_43.1 125 10) μ_43
theorem t_Model_width_J32 {cx : HCx} (hg : HGood cx R_Model b_Model_width 4 5 (some .int)) (hA : h_own cx)   (v1 : Int32) (v2 : Int32) (v3 : Int32) (μ : HMem) : HX cx (HQ cx h_eI) (f_Model_width_J32   v1 v2 v3 μ) 0 0 32 [(0, .ref 125), (1, .int v1), (2, .int v2), (3, .int v3)] [] μ := by
  unfold f_Model_width_J32
  refine r_aload_n hg 0 d_Model_width_32 rfl rfl ?_
  refine r_iload_n hg 1 d_Model_width_33 rfl rfl ?_
  refine r_iload_n hg 2 d_Model_width_34 rfl rfl ?_
  refine r_if_ne (tgt := 42) hg d_Model_width_35 (by decide) ?_ ?_
  · refine r_iconst (v := 0) hg d_Model_width_42 (by decide) ?_
    refine r_sub [0, 3] rfl ?_
    exact t_Model_width_J43 hg hA v3 0 v1 μ
  · refine r_iconst (v := 1) hg d_Model_width_38 (by decide) ?_
    refine r_goto (tgt := 43) hg d_Model_width_39 (by decide) ?_
    refine r_sub [0, 3] rfl ?_
    exact t_Model_width_J43 hg hA v3 1 v1 μ
theorem t_Model_width_0 {cx : HCx} (hg : HGood cx R_Model b_Model_width 4 5 (some .int)) (hA : h_own cx) (v1 : Int32) (v2 : Int32) (v3 : Int32) (μ : HMem) : HX cx (HQ cx h_eI) (f_Model_width v1 v2 v3 μ) 0 0 0 [(0, .ref 125), (1, .int v1), (2, .int v2), (3, .int v3)] [] μ := by
  unfold f_Model_width
  refine r_iload_n hg 1 d_Model_width_0 rfl rfl ?_
  refine r_callS (As := [.int v1]) hg (t_Model_isGraph v1 μ) v_Model_isGraph wm_Model_71 d_Model_width_1 rfl ⟨by decide, by decide⟩ (Nat.le_of_ble_eq_true rfl) rfl (fun r1 μ_1 _ => ?_)
  refine r_if_ne (tgt := 13) hg d_Model_width_4 (by decide) ?_ ?_
  · refine r_iload_n hg 2 d_Model_width_13 rfl rfl ?_
    refine r_if_eq (tgt := 32) hg d_Model_width_14 (by decide) ?_ ?_
    · exact t_Model_width_J32 hg hA v1 v2 v3 μ_1
    · refine r_aload_n hg 0 d_Model_width_17 rfl rfl ?_
      refine r_iload_n hg 1 d_Model_width_18 rfl rfl ?_
      refine r_iload_n hg 2 d_Model_width_19 rfl rfl ?_
      refine r_callV (As := [.int v1, .int v2]) hg (t_Model_isOrder v1 v2 μ_1) v_Model_isOrder c_Model rfl (by decide) rfl wm_Model_193 d_Model_width_20 rfl ⟨by decide, by decide⟩ (Nat.le_of_ble_eq_true rfl) rfl (fun r20 μ_20 _ => ?_)
      refine r_if_ne (tgt := 32) hg d_Model_width_23 (by decide) ?_ ?_
      · exact t_Model_width_J32 hg hA v1 v2 v3 μ_20
      · refine r_aload_n hg 0 d_Model_width_26 rfl rfl ?_
        refine r_iconst (v := 2) hg d_Model_width_27 (by decide) ?_
        refine r_callV (As := [.int 2]) hg (t_Model_fails 2 μ_20) v_Model_fails c_Model rfl (by decide) rfl wm_Model_93 d_Model_width_28 rfl ⟨by decide, by decide⟩ (Nat.le_of_ble_eq_true rfl) rfl (fun r28 μ_28 _ => ?_)
        exact r_iret hg hA rfl d_Model_width_31 rfl
  · refine r_aload_n hg 0 d_Model_width_7 rfl rfl ?_
    refine r_iconst (v := 1) hg d_Model_width_8 (by decide) ?_
    refine r_callV (As := [.int 1]) hg (t_Model_fails 1 μ_1) v_Model_fails c_Model rfl (by decide) rfl wm_Model_93 d_Model_width_9 rfl ⟨by decide, by decide⟩ (Nat.le_of_ble_eq_true rfl) rfl (fun r9 μ_9 _ => ?_)
    exact r_iret hg hA rfl d_Model_width_12 rfl
theorem t_Model_width (v1 : Int32) (v2 : Int32) (v3 : Int32) (μ : HMem) : HSpec y_Model_width b_Model_width 4 (some .int) 5 h_eI [.ref 125, .int v1, .int v2, .int v3] μ (f_Model_width v1 v2 v3 μ) :=
  HSpec.of (by decide +kernel) (v_Model_width.1 _ (by simp)) (Nat.le_of_ble_eq_true rfl) (fun cx hA hg => t_Model_width_0 hg hA v1 v2 v3 μ)
theorem t_Model_comes_J68 {cx : HCx} (hg : HGood cx R_Model b_Model_comes 7 4 (some .int)) (hA : h_own cx)  (rec_ : Int32 → Int32 → Int32 → Int32 → Int32 → Int32 → HMem → Option (Int32 × HMem)) (hrec_ : p_Model_comes_18 cx rec_) (v1 : Int32) (v2 : Int32) (v3 : Int32) (v5 : Int32) (v6 : Int32) (s0 : Int32) (s1 : Int32) (μ : HMem) : HX cx (HQ cx h_eI) (f_Model_comes_J68  rec_ v1 v2 v3 v5 v6 s0 s1 μ) 0 0 68 [(0, .ref 125), (1, .int v1), (2, .int v2), (3, .int v3), (5, .int v5), (6, .int v6)] [.int s0, .int s1] μ := by
  unfold f_Model_comes_J68
  refine r_ior hg d_Model_comes_68 ?_
  refine r_letI (fun v4_69 => ?_)
  refine r_istore (l' := [(4, .int v4_69), (0, .ref 125), (1, .int v1), (2, .int v2), (3, .int v3), (5, .int v5), (6, .int v6)]) hg d_Model_comes_69 (Nat.le_of_ble_eq_true rfl) rfl ?_
  refine r_letE (fun v6_71 he_71 => ?_)
  refine r_iinc (v := v6_71) (l' := [(6, .int v6_71), (4, .int v4_69), (0, .ref 125), (1, .int v1), (2, .int v2), (3, .int v3), (5, .int v5)]) hg 6 d_Model_comes_71 rfl he_71 (Nat.le_of_ble_eq_true rfl) rfl ?_
  refine r_goto (tgt := 18) hg d_Model_comes_74 (by decide) ?_
  refine r_sub [2, 3, 4, 5, 1, 6, 0] rfl ?_
  exact hrec_ v1 v2 v3 v4_69 v5 v6_71 μ
theorem t_Model_comes_J67 {cx : HCx} (hg : HGood cx R_Model b_Model_comes 7 4 (some .int)) (hA : h_own cx)  (rec_ : Int32 → Int32 → Int32 → Int32 → Int32 → Int32 → HMem → Option (Int32 × HMem)) (hrec_ : p_Model_comes_18 cx rec_) (v1 : Int32) (v2 : Int32) (v3 : Int32) (v5 : Int32) (v6 : Int32) (s0 : Int32) (μ : HMem) : HX cx (HQ cx h_eI) (f_Model_comes_J67  rec_ v1 v2 v3 v5 v6 s0 μ) 0 0 67 [(0, .ref 125), (1, .int v1), (2, .int v2), (3, .int v3), (5, .int v5), (6, .int v6)] [.int s0] μ := by
  unfold f_Model_comes_J67
  refine r_iconst (v := 0) hg d_Model_comes_67 (by decide) ?_
  exact t_Model_comes_J68 hg hA rec_ hrec_ v1 v2 v3 v5 v6 0 s0 μ
theorem t_Model_comes_J57 {cx : HCx} (hg : HGood cx R_Model b_Model_comes 7 4 (some .int)) (hA : h_own cx)  (rec_ : Int32 → Int32 → Int32 → Int32 → Int32 → Int32 → HMem → Option (Int32 × HMem)) (hrec_ : p_Model_comes_18 cx rec_) (v1 : Int32) (v2 : Int32) (v3 : Int32) (v5 : Int32) (v6 : Int32) (s0 : Int32) (μ : HMem) : HX cx (HQ cx h_eI) (f_Model_comes_J57  rec_ v1 v2 v3 v5 v6 s0 μ) 0 0 57 [(0, .ref 125), (1, .int v1), (2, .int v2), (3, .int v3), (5, .int v5), (6, .int v6)] [.int s0] μ := by
  unfold f_Model_comes_J57
  refine r_aload_n hg 0 d_Model_comes_57 rfl rfl ?_
  refine r_iload_n hg 1 d_Model_comes_58 rfl rfl ?_
  refine r_iload hg 5 d_Model_comes_59 rfl ?_
  refine r_callV (As := [.int v1, .int v6]) hg (t_Model_near v1 v6 μ) v_Model_near c_Model rfl (by decide) rfl wm_Model_161 d_Model_comes_61 rfl ⟨by decide, by decide⟩ (Nat.le_of_ble_eq_true rfl) rfl (fun r61 μ_61 _ => ?_)
  refine r_goto (tgt := 68) hg d_Model_comes_64 (by decide) ?_
  exact t_Model_comes_J68 hg hA rec_ hrec_ v1 v2 v3 v5 v6 r61 s0 μ_61
theorem t_Model_comes_L18_b {cx : HCx} (hg : HGood cx R_Model b_Model_comes 7 4 (some .int)) (hA : h_own cx) (K77 : Int32 → Int32 → Int32 → Int32 → Int32 → HMem → Option (Int32 × HMem)) (hK77 : p_Model_comes_77 cx K77) (rec_ : Int32 → Int32 → Int32 → Int32 → Int32 → Int32 → HMem → Option (Int32 × HMem)) (hrec_ : p_Model_comes_18 cx rec_) (v1 : Int32) (v2 : Int32) (v3 : Int32) (v4 : Int32) (v5 : Int32) (v6 : Int32) (μ : HMem) : HX cx (HQ cx h_eI) (f_Model_comes_L18_b K77 rec_ v1 v2 v3 v4 v5 v6 μ) 0 0 18 [(0, .ref 125), (1, .int v1), (2, .int v2), (3, .int v3), (4, .int v4), (5, .int v5), (6, .int v6)] [] μ := by
  unfold f_Model_comes_L18_b
  refine r_iload hg 6 d_Model_comes_18 rfl ?_
  refine r_aload_n hg 0 d_Model_comes_20 rfl rfl ?_
  refine r_iload_n hg 1 d_Model_comes_21 rfl rfl ?_
  refine r_callV (As := [.int v1]) hg (t_Model_size v1 μ) v_Model_size c_Model rfl (by decide) rfl wm_Model_75 d_Model_comes_22 rfl ⟨by decide, by decide⟩ (Nat.le_of_ble_eq_true rfl) rfl (fun r22 μ_22 _ => ?_)
  refine r_icmp_ge (tgt := 77) hg d_Model_comes_25 (by decide) ?_ ?_
  · refine r_sub [0, 1, 2, 3, 4, 5] rfl ?_
    exact hK77 v1 v2 v3 v4 v5 μ_22
  · refine r_iload hg 4 d_Model_comes_28 rfl ?_
    refine r_iload hg 4 d_Model_comes_30 rfl ?_
    refine r_iload hg 6 d_Model_comes_32 rfl ?_
    refine r_ishr hg d_Model_comes_34 ?_
    refine r_iconst (v := 1) hg d_Model_comes_35 (by decide) ?_
    refine r_iand hg d_Model_comes_36 ?_
    refine r_iconst (v := 1) hg d_Model_comes_37 (by decide) ?_
    refine r_icmp_ne (tgt := 67) hg d_Model_comes_38 (by decide) ?_ ?_
    · refine r_sub [0, 1, 2, 3, 5, 6] rfl ?_
      exact t_Model_comes_J67 hg hA rec_ hrec_ v1 v2 v3 v5 v6 v4 μ_22
    · refine r_iload hg 6 d_Model_comes_41 rfl ?_
      refine r_iload_n hg 3 d_Model_comes_43 rfl rfl ?_
      refine r_icmp_eq (tgt := 57) hg d_Model_comes_44 (by decide) ?_ ?_
      · refine r_sub [0, 1, 2, 3, 5, 6] rfl ?_
        exact t_Model_comes_J57 hg hA rec_ hrec_ v1 v2 v3 v5 v6 v4 μ_22
      · refine r_iload_n hg 2 d_Model_comes_47 rfl rfl ?_
        refine r_iload hg 6 d_Model_comes_48 rfl ?_
        refine r_ishr hg d_Model_comes_50 ?_
        refine r_iconst (v := 1) hg d_Model_comes_51 (by decide) ?_
        refine r_iand hg d_Model_comes_52 ?_
        refine r_iconst (v := 1) hg d_Model_comes_53 (by decide) ?_
        refine r_icmp_ne (tgt := 67) hg d_Model_comes_54 (by decide) ?_ ?_
        · refine r_sub [0, 1, 2, 3, 5, 6] rfl ?_
          exact t_Model_comes_J67 hg hA rec_ hrec_ v1 v2 v3 v5 v6 v4 μ_22
        · refine r_sub [0, 1, 2, 3, 5, 6] rfl ?_
          exact t_Model_comes_J57 hg hA rec_ hrec_ v1 v2 v3 v5 v6 v4 μ_22
theorem t_Model_comes_L18 {cx : HCx} (hg : HGood cx R_Model b_Model_comes 7 4 (some .int)) (hA : h_own cx) (K77 : Int32 → Int32 → Int32 → Int32 → Int32 → HMem → Option (Int32 × HMem)) (hK77 : p_Model_comes_77 cx K77) : ∀ (fuel : Nat) (v1 : Int32) (v2 : Int32) (v3 : Int32) (v4 : Int32) (v5 : Int32) (v6 : Int32) (μ : HMem), HX cx (HQ cx h_eI) (f_Model_comes_L18 K77 fuel v1 v2 v3 v4 v5 v6 μ) 0 0 18 [(0, .ref 125), (1, .int v1), (2, .int v2), (3, .int v3), (4, .int v4), (5, .int v5), (6, .int v6)] [] μ
  | 0, _, _, _, _, _, _, _ => by unfold f_Model_comes_L18; exact HX.none
  | fuel + 1, v1, v2, v3, v4, v5, v6, μ => by
    rw [f_Model_comes_L18]
    exact t_Model_comes_L18_b hg hA  K77 hK77 (f_Model_comes_L18 K77 fuel) (t_Model_comes_L18 hg hA  K77 hK77 fuel) v1 v2 v3 v4 v5 v6 μ
theorem t_Model_comes_J77 {cx : HCx} (hg : HGood cx R_Model b_Model_comes 7 4 (some .int)) (hA : h_own cx)  (rec_ : Int32 → Int32 → Int32 → Int32 → Int32 → HMem → Option (Int32 × HMem)) (hrec_ : p_Model_comes_8 cx rec_) (v1 : Int32) (v2 : Int32) (v3 : Int32) (v4 : Int32) (v5 : Int32) (μ : HMem) : HX cx (HQ cx h_eI) (f_Model_comes_J77  rec_ v1 v2 v3 v4 v5 μ) 0 0 77 [(0, .ref 125), (1, .int v1), (2, .int v2), (3, .int v3), (4, .int v4), (5, .int v5)] [] μ := by
  unfold f_Model_comes_J77
  refine r_letE (fun v5_77 he_77 => ?_)
  refine r_iinc (v := v5_77) (l' := [(5, .int v5_77), (0, .ref 125), (1, .int v1), (2, .int v2), (3, .int v3), (4, .int v4)]) hg 5 d_Model_comes_77 rfl he_77 (Nat.le_of_ble_eq_true rfl) rfl ?_
  refine r_goto (tgt := 8) hg d_Model_comes_80 (by decide) ?_
  refine r_sub [1, 2, 3, 4, 5, 0] rfl ?_
  exact hrec_ v1 v2 v3 v4 v5_77 μ
theorem t_Model_comes_L8_b {cx : HCx} (hg : HGood cx R_Model b_Model_comes 7 4 (some .int)) (hA : h_own cx) (K83 : Int32 → Int32 → Int32 → HMem → Option (Int32 × HMem)) (hK83 : p_Model_comes_83 cx K83) (rec_ : Int32 → Int32 → Int32 → Int32 → Int32 → HMem → Option (Int32 × HMem)) (hrec_ : p_Model_comes_8 cx rec_) (v1 : Int32) (v2 : Int32) (v3 : Int32) (v4 : Int32) (v5 : Int32) (μ : HMem) : HX cx (HQ cx h_eI) (f_Model_comes_L8_b K83 rec_ v1 v2 v3 v4 v5 μ) 0 0 8 [(0, .ref 125), (1, .int v1), (2, .int v2), (3, .int v3), (4, .int v4), (5, .int v5)] [] μ := by
  unfold f_Model_comes_L8_b
  refine r_iload hg 5 d_Model_comes_8 rfl ?_
  refine r_bipush (v := 8) hg d_Model_comes_10 (by decide) ?_
  refine r_icmp_ge (tgt := 83) hg d_Model_comes_12 (by decide) ?_ ?_
  · refine r_sub [2, 3, 4] rfl ?_
    exact hK83 v2 v3 v4 μ
  · refine r_iconst (v := 0) hg d_Model_comes_15 (by decide) ?_
    refine r_istore (l' := [(6, .int 0), (0, .ref 125), (1, .int v1), (2, .int v2), (3, .int v3), (4, .int v4), (5, .int v5)]) hg d_Model_comes_16 (Nat.le_of_ble_eq_true rfl) rfl ?_
    refine r_sub [1, 2, 3, 4, 5, 6, 0] rfl ?_
    exact t_Model_comes_L18 hg hA (f_Model_comes_J77 rec_) (t_Model_comes_J77 hg hA rec_ hrec_) h_fuel v1 v2 v3 v4 v5 0 μ
theorem t_Model_comes_L8 {cx : HCx} (hg : HGood cx R_Model b_Model_comes 7 4 (some .int)) (hA : h_own cx) (K83 : Int32 → Int32 → Int32 → HMem → Option (Int32 × HMem)) (hK83 : p_Model_comes_83 cx K83) : ∀ (fuel : Nat) (v1 : Int32) (v2 : Int32) (v3 : Int32) (v4 : Int32) (v5 : Int32) (μ : HMem), HX cx (HQ cx h_eI) (f_Model_comes_L8 K83 fuel v1 v2 v3 v4 v5 μ) 0 0 8 [(0, .ref 125), (1, .int v1), (2, .int v2), (3, .int v3), (4, .int v4), (5, .int v5)] [] μ
  | 0, _, _, _, _, _, _ => by unfold f_Model_comes_L8; exact HX.none
  | fuel + 1, v1, v2, v3, v4, v5, μ => by
    rw [f_Model_comes_L8]
    exact t_Model_comes_L8_b hg hA  K83 hK83 (f_Model_comes_L8 K83 fuel) (t_Model_comes_L8 hg hA  K83 hK83 fuel) v1 v2 v3 v4 v5 μ
theorem t_Model_comes_J83 {cx : HCx} (hg : HGood cx R_Model b_Model_comes 7 4 (some .int)) (hA : h_own cx)   (v2 : Int32) (v3 : Int32) (v4 : Int32) (μ : HMem) : HX cx (HQ cx h_eI) (f_Model_comes_J83   v2 v3 v4 μ) 0 0 83 [(2, .int v2), (3, .int v3), (4, .int v4)] [] μ := by
  unfold f_Model_comes_J83
  refine r_iload hg 2 d_Model_comes_83 rfl ?_
  refine r_iload_n hg 0 d_Model_comes_85 rfl rfl ?_
  refine r_iconst (v := -1) hg d_Model_comes_86 (by decide) ?_
  refine r_ixor hg d_Model_comes_87 ?_
  refine r_iand hg d_Model_comes_88 ?_
  refine r_iconst (v := 1) hg d_Model_comes_89 (by decide) ?_
  refine r_iload_n hg 1 d_Model_comes_90 rfl rfl ?_
  refine r_ishl hg d_Model_comes_91 ?_
  refine r_iconst (v := -1) hg d_Model_comes_92 (by decide) ?_
  refine r_ixor hg d_Model_comes_93 ?_
  refine r_iand hg d_Model_comes_94 ?_
  refine r_callS (As := [.int ((v4 &&& (v2 ^^^ (-1))) &&& ((h_ishl 1 v3) ^^^ (-1)))]) hg (t_Model_bits ((v4 &&& (v2 ^^^ (-1))) &&& ((h_ishl 1 v3) ^^^ (-1))) μ) v_Model_bits wm_Model_174 d_Model_comes_95 rfl ⟨by decide, by decide⟩ (Nat.le_of_ble_eq_true rfl) rfl (fun r95 μ_95 _ => ?_)
  exact r_iret hg hA rfl d_Model_comes_98 rfl
theorem t_Model_comes_0 {cx : HCx} (hg : HGood cx R_Model b_Model_comes 7 4 (some .int)) (hA : h_own cx) (v1 : Int32) (v2 : Int32) (v3 : Int32) (μ : HMem) : HX cx (HQ cx h_eI) (f_Model_comes v1 v2 v3 μ) 0 0 0 [(0, .ref 125), (1, .int v1), (2, .int v2), (3, .int v3)] [] μ := by
  unfold f_Model_comes
  refine r_iconst (v := 1) hg d_Model_comes_0 (by decide) ?_
  refine r_iload_n hg 3 d_Model_comes_1 rfl rfl ?_
  refine r_ishl hg d_Model_comes_2 ?_
  refine r_letI (fun v4_3 => ?_)
  refine r_istore (l' := [(4, .int v4_3), (0, .ref 125), (1, .int v1), (2, .int v2), (3, .int v3)]) hg d_Model_comes_3 (Nat.le_of_ble_eq_true rfl) rfl ?_
  refine r_iconst (v := 0) hg d_Model_comes_5 (by decide) ?_
  refine r_istore (l' := [(5, .int 0), (4, .int v4_3), (0, .ref 125), (1, .int v1), (2, .int v2), (3, .int v3)]) hg d_Model_comes_6 (Nat.le_of_ble_eq_true rfl) rfl ?_
  refine r_sub [2, 3, 4, 5, 1, 0] rfl ?_
  exact t_Model_comes_L8 hg hA f_Model_comes_J83 (t_Model_comes_J83 hg hA) h_fuel v1 v2 v3 v4_3 0 μ
theorem t_Model_comes (v1 : Int32) (v2 : Int32) (v3 : Int32) (μ : HMem) : HSpec y_Model_comes b_Model_comes 7 (some .int) 4 h_eI [.ref 125, .int v1, .int v2, .int v3] μ (f_Model_comes v1 v2 v3 μ) :=
  HSpec.of (by decide +kernel) (v_Model_comes.1 _ (by simp)) (Nat.le_of_ble_eq_true rfl) (fun cx hA hg => t_Model_comes_0 hg hA v1 v2 v3 μ)
theorem t_Model_treewidthOf_J130 {cx : HCx} (hg : HGood cx R_Model b_Model_treewidthOf 7 5 (some .int)) (hA : h_own cx)  (rec_ : Int32 → Int32 → Int32 → Int32 → HMem → Option (Int32 × HMem)) (hrec_ : p_Model_treewidthOf_35 cx rec_) (v1 : Int32) (v2 : Int32) (v3 : Int32) (v4 : Int32) (μ : HMem) : HX cx (HQ cx h_eI) (f_Model_treewidthOf_J130  rec_ v1 v2 v3 v4 μ) 0 0 130 [(0, .ref 125), (1, .int v1), (2, .int v2), (3, .int v3), (4, .int v4)] [] μ := by
  unfold f_Model_treewidthOf_J130
  refine r_letE (fun v4_130 he_130 => ?_)
  refine r_iinc (v := v4_130) (l' := [(4, .int v4_130), (0, .ref 125), (1, .int v1), (2, .int v2), (3, .int v3)]) hg 4 d_Model_treewidthOf_130 rfl he_130 (Nat.le_of_ble_eq_true rfl) rfl ?_
  refine r_goto (tgt := 35) hg d_Model_treewidthOf_133 (by decide) ?_
  refine r_sub [1, 2, 3, 4, 0] rfl ?_
  exact hrec_ v1 v2 v3 v4_130 μ
theorem t_Model_treewidthOf_J129 {cx : HCx} (hg : HGood cx R_Model b_Model_treewidthOf 7 5 (some .int)) (hA : h_own cx)  (rec_ : Int32 → Int32 → Int32 → Int32 → HMem → Option (Int32 × HMem)) (hrec_ : p_Model_treewidthOf_35 cx rec_) (v1 : Int32) (v2 : Int32) (v3 : Int32) (v4 : Int32) (s0 : Int32) (s1 : Int32) (μ : HMem) : HX cx (HQ cx h_eI) (f_Model_treewidthOf_J129  rec_ v1 v2 v3 v4 s0 s1 μ) 0 0 129 [(0, .ref 125), (1, .int v1), (2, .int v2), (3, .int v3), (4, .int v4)] [.int s0, .int s1, .ref 132] μ := by
  unfold f_Model_treewidthOf_J129
  refine r_iast hg (by decide) rfl d_Model_treewidthOf_129 ?_
  refine r_letM (fun μ_129 => ?_)
  exact t_Model_treewidthOf_J130 hg hA rec_ hrec_ v1 v2 v3 v4 μ_129
theorem t_Model_treewidthOf_J100 {cx : HCx} (hg : HGood cx R_Model b_Model_treewidthOf 7 5 (some .int)) (hA : h_own cx)  (rec_ : Int32 → Int32 → Int32 → Int32 → HMem → Option (Int32 × HMem)) (hrec_ : p_Model_treewidthOf_35 cx rec_) (v1 : Int32) (v2 : Int32) (v3 : Int32) (v4 : Int32) (s0 : Int32) (μ : HMem) : HX cx (HQ cx h_eI) (f_Model_treewidthOf_J100  rec_ v1 v2 v3 v4 s0 μ) 0 0 100 [(0, .ref 125), (1, .int v1), (2, .int v2), (3, .int v3), (4, .int v4)] [.int s0] μ := by
  unfold f_Model_treewidthOf_J100
  refine r_istore (l' := [(6, .int s0), (0, .ref 125), (1, .int v1), (2, .int v2), (3, .int v3), (4, .int v4)]) hg d_Model_treewidthOf_100 (Nat.le_of_ble_eq_true rfl) rfl ?_
  refine r_aload_n hg 1 d_Model_treewidthOf_102 rfl rfl ?_
  refine r_get (v := .ref 132) hg c_Model (by decide) rfl (Nat.le_of_ble_eq_true rfl) rfl wf_Model_28 d_Model_treewidthOf_103 rfl ?_
  refine r_iload_n hg 4 d_Model_treewidthOf_106 rfl rfl ?_
  refine r_iload hg 0 d_Model_treewidthOf_107 rfl ?_
  refine r_aload_n hg 1 d_Model_treewidthOf_109 rfl rfl ?_
  refine r_get (v := .ref 132) hg c_Model (by decide) rfl (Nat.le_of_ble_eq_true rfl) rfl wf_Model_28 d_Model_treewidthOf_110 rfl ?_
  refine r_iload_n hg 4 d_Model_treewidthOf_113 rfl rfl ?_
  refine r_iald hg (by decide) rfl d_Model_treewidthOf_114 ?_
  refine r_icmp_ge (tgt := 123) hg d_Model_treewidthOf_115 (by decide) ?_ ?_
  · refine r_aload_n hg 1 d_Model_treewidthOf_123 rfl rfl ?_
    refine r_get (v := .ref 132) hg c_Model (by decide) rfl (Nat.le_of_ble_eq_true rfl) rfl wf_Model_28 d_Model_treewidthOf_124 rfl ?_
    refine r_iload_n hg 4 d_Model_treewidthOf_127 rfl rfl ?_
    refine r_iald hg (by decide) rfl d_Model_treewidthOf_128 ?_
    refine r_sub [1, 2, 3, 4, 5] rfl ?_
    exact t_Model_treewidthOf_J129 hg hA rec_ hrec_ v1 v2 v3 v4 (μ.1 132 (Int32.toNatClampNeg (v3))) v3 μ
  · refine r_iload hg 0 d_Model_treewidthOf_118 rfl ?_
    refine r_goto (tgt := 129) hg d_Model_treewidthOf_120 (by decide) ?_
    refine r_sub [1, 2, 3, 4, 5] rfl ?_
    exact t_Model_treewidthOf_J129 hg hA rec_ hrec_ v1 v2 v3 v4 s0 v3 μ
theorem t_Model_treewidthOf_L35_b {cx : HCx} (hg : HGood cx R_Model b_Model_treewidthOf 7 5 (some .int)) (hA : h_own cx) (K136 : Int32 → Int32 → Int32 → HMem → Option (Int32 × HMem)) (hK136 : p_Model_treewidthOf_136 cx K136) (rec_ : Int32 → Int32 → Int32 → Int32 → HMem → Option (Int32 × HMem)) (hrec_ : p_Model_treewidthOf_35 cx rec_) (v1 : Int32) (v2 : Int32) (v3 : Int32) (v4 : Int32) (μ : HMem) : HX cx (HQ cx h_eI) (f_Model_treewidthOf_L35_b K136 rec_ v1 v2 v3 v4 μ) 0 0 35 [(0, .ref 125), (1, .int v1), (2, .int v2), (3, .int v3), (4, .int v4)] [] μ := by
  unfold f_Model_treewidthOf_L35_b
  refine r_iload hg 4 d_Model_treewidthOf_35 rfl ?_
  refine r_aload_n hg 0 d_Model_treewidthOf_37 rfl rfl ?_
  refine r_iload_n hg 1 d_Model_treewidthOf_38 rfl rfl ?_
  refine r_callV (As := [.int v1]) hg (t_Model_size v1 μ) v_Model_size c_Model rfl (by decide) rfl wm_Model_75 d_Model_treewidthOf_39 rfl ⟨by decide, by decide⟩ (Nat.le_of_ble_eq_true rfl) rfl (fun r39 μ_39 _ => ?_)
  refine r_icmp_ge (tgt := 136) hg d_Model_treewidthOf_42 (by decide) ?_ ?_
  · refine r_sub [0, 1, 2, 3] rfl ?_
    exact hK136 v1 v2 v3 μ_39
  · refine r_iload_n hg 3 d_Model_treewidthOf_45 rfl rfl ?_
    refine r_iload hg 4 d_Model_treewidthOf_46 rfl ?_
    refine r_ishr hg d_Model_treewidthOf_48 ?_
    refine r_iconst (v := 1) hg d_Model_treewidthOf_49 (by decide) ?_
    refine r_iand hg d_Model_treewidthOf_50 ?_
    refine r_iconst (v := 1) hg d_Model_treewidthOf_51 (by decide) ?_
    refine r_icmp_ne (tgt := 130) hg d_Model_treewidthOf_52 (by decide) ?_ ?_
    · exact t_Model_treewidthOf_J130 hg hA rec_ hrec_ v1 v2 v3 v4 μ_39
    · refine r_iload_n hg 3 d_Model_treewidthOf_55 rfl rfl ?_
      refine r_iconst (v := 1) hg d_Model_treewidthOf_56 (by decide) ?_
      refine r_iload hg 4 d_Model_treewidthOf_57 rfl ?_
      refine r_ishl hg d_Model_treewidthOf_59 ?_
      refine r_iconst (v := -1) hg d_Model_treewidthOf_60 (by decide) ?_
      refine r_ixor hg d_Model_treewidthOf_61 ?_
      refine r_iand hg d_Model_treewidthOf_62 ?_
      refine r_letI (fun v5_63 => ?_)
      refine r_istore (l' := [(5, .int v5_63), (0, .ref 125), (1, .int v1), (2, .int v2), (3, .int v3), (4, .int v4)]) hg d_Model_treewidthOf_63 (Nat.le_of_ble_eq_true rfl) rfl ?_
      refine r_aload_n hg 1 d_Model_treewidthOf_65 rfl rfl ?_
      refine r_iload_n hg 2 d_Model_treewidthOf_66 rfl rfl ?_
      refine r_iload hg 0 d_Model_treewidthOf_67 rfl ?_
      refine r_iload hg 5 d_Model_treewidthOf_69 rfl ?_
      refine r_callV (As := [.int v1, .int v5_63, .int v4]) hg (t_Model_comes v1 v5_63 v4 μ_39) v_Model_comes c_Model rfl (by decide) rfl wm_Model_196 d_Model_treewidthOf_71 rfl ⟨by decide, by decide⟩ (Nat.le_of_ble_eq_true rfl) rfl (fun r71 μ_71 _ => ?_)
      refine r_istore (l' := [(6, .int r71), (5, .int v5_63), (0, .ref 125), (1, .int v1), (2, .int v2), (3, .int v3), (4, .int v4)]) hg d_Model_treewidthOf_74 (Nat.le_of_ble_eq_true rfl) rfl ?_
      refine r_aload_n hg 2 d_Model_treewidthOf_76 rfl rfl ?_
      refine r_get (v := .ref 132) hg c_Model (by decide) rfl (Nat.le_of_ble_eq_true rfl) rfl wf_Model_28 d_Model_treewidthOf_77 rfl ?_
      refine r_iload hg 1 d_Model_treewidthOf_80 rfl ?_
      refine r_iald hg (by decide) rfl d_Model_treewidthOf_82 ?_
      refine r_iload hg 0 d_Model_treewidthOf_83 rfl ?_
      refine r_icmp_le (tgt := 98) hg d_Model_treewidthOf_85 (by decide) ?_ ?_
      · refine r_iload hg 0 d_Model_treewidthOf_98 rfl ?_
        refine r_sub [2, 3, 4, 5, 6] rfl ?_
        exact t_Model_treewidthOf_J100 hg hA rec_ hrec_ v1 v2 v3 v4 r71 μ_71
      · refine r_aload_n hg 2 d_Model_treewidthOf_88 rfl rfl ?_
        refine r_get (v := .ref 132) hg c_Model (by decide) rfl (Nat.le_of_ble_eq_true rfl) rfl wf_Model_28 d_Model_treewidthOf_89 rfl ?_
        refine r_iload hg 1 d_Model_treewidthOf_92 rfl ?_
        refine r_iald hg (by decide) rfl d_Model_treewidthOf_94 ?_
        refine r_goto (tgt := 100) hg d_Model_treewidthOf_95 (by decide) ?_
        refine r_sub [2, 3, 4, 5, 6] rfl ?_
        exact t_Model_treewidthOf_J100 hg hA rec_ hrec_ v1 v2 v3 v4 (μ_71.1 132 (Int32.toNatClampNeg (v5_63))) μ_71
theorem t_Model_treewidthOf_L35 {cx : HCx} (hg : HGood cx R_Model b_Model_treewidthOf 7 5 (some .int)) (hA : h_own cx) (K136 : Int32 → Int32 → Int32 → HMem → Option (Int32 × HMem)) (hK136 : p_Model_treewidthOf_136 cx K136) : ∀ (fuel : Nat) (v1 : Int32) (v2 : Int32) (v3 : Int32) (v4 : Int32) (μ : HMem), HX cx (HQ cx h_eI) (f_Model_treewidthOf_L35 K136 fuel v1 v2 v3 v4 μ) 0 0 35 [(0, .ref 125), (1, .int v1), (2, .int v2), (3, .int v3), (4, .int v4)] [] μ
  | 0, _, _, _, _, _ => by unfold f_Model_treewidthOf_L35; exact HX.none
  | fuel + 1, v1, v2, v3, v4, μ => by
    rw [f_Model_treewidthOf_L35]
    exact t_Model_treewidthOf_L35_b hg hA  K136 hK136 (f_Model_treewidthOf_L35 K136 fuel) (t_Model_treewidthOf_L35 hg hA  K136 hK136 fuel) v1 v2 v3 v4 μ
theorem t_Model_treewidthOf_J136 {cx : HCx} (hg : HGood cx R_Model b_Model_treewidthOf 7 5 (some .int)) (hA : h_own cx)  (rec_ : Int32 → Int32 → Int32 → HMem → Option (Int32 × HMem)) (hrec_ : p_Model_treewidthOf_19 cx rec_) (v1 : Int32) (v2 : Int32) (v3 : Int32) (μ : HMem) : HX cx (HQ cx h_eI) (f_Model_treewidthOf_J136  rec_ v1 v2 v3 μ) 0 0 136 [(0, .ref 125), (1, .int v1), (2, .int v2), (3, .int v3)] [] μ := by
  unfold f_Model_treewidthOf_J136
  refine r_letE (fun v3_136 he_136 => ?_)
  refine r_iinc (v := v3_136) (l' := [(3, .int v3_136), (0, .ref 125), (1, .int v1), (2, .int v2)]) hg 3 d_Model_treewidthOf_136 rfl he_136 (Nat.le_of_ble_eq_true rfl) rfl ?_
  refine r_goto (tgt := 19) hg d_Model_treewidthOf_139 (by decide) ?_
  refine r_sub [1, 2, 3, 0] rfl ?_
  exact hrec_ v1 v2 v3_136 μ
theorem t_Model_treewidthOf_L19_b {cx : HCx} (hg : HGood cx R_Model b_Model_treewidthOf 7 5 (some .int)) (hA : h_own cx)  (rec_ : Int32 → Int32 → Int32 → HMem → Option (Int32 × HMem)) (hrec_ : p_Model_treewidthOf_19 cx rec_) (v1 : Int32) (v2 : Int32) (v3 : Int32) (μ : HMem) : HX cx (HQ cx h_eI) (f_Model_treewidthOf_L19_b  rec_ v1 v2 v3 μ) 0 0 19 [(0, .ref 125), (1, .int v1), (2, .int v2), (3, .int v3)] [] μ := by
  unfold f_Model_treewidthOf_L19_b
  refine r_iload_n hg 3 d_Model_treewidthOf_19 rfl rfl ?_
  refine r_iload_n hg 2 d_Model_treewidthOf_20 rfl rfl ?_
  refine r_icmp_gt (tgt := 142) hg d_Model_treewidthOf_21 (by decide) ?_ ?_
  · refine r_aload_n hg 0 d_Model_treewidthOf_142 rfl rfl ?_
    refine r_get (v := .ref 132) hg c_Model (by decide) rfl (Nat.le_of_ble_eq_true rfl) rfl wf_Model_28 d_Model_treewidthOf_143 rfl ?_
    refine r_iload_n hg 2 d_Model_treewidthOf_146 rfl rfl ?_
    refine r_iald hg (by decide) rfl d_Model_treewidthOf_147 ?_
    exact r_iret hg hA rfl d_Model_treewidthOf_148 rfl
  · refine r_aload_n hg 0 d_Model_treewidthOf_24 rfl rfl ?_
    refine r_get (v := .ref 132) hg c_Model (by decide) rfl (Nat.le_of_ble_eq_true rfl) rfl wf_Model_28 d_Model_treewidthOf_25 rfl ?_
    refine r_iload_n hg 3 d_Model_treewidthOf_28 rfl rfl ?_
    refine r_bipush (v := 8) hg d_Model_treewidthOf_29 (by decide) ?_
    refine r_iast hg (by decide) rfl d_Model_treewidthOf_31 ?_
    refine r_letM (fun μ_31 => ?_)
    refine r_iconst (v := 0) hg d_Model_treewidthOf_32 (by decide) ?_
    refine r_istore (l' := [(4, .int 0), (0, .ref 125), (1, .int v1), (2, .int v2), (3, .int v3)]) hg d_Model_treewidthOf_33 (Nat.le_of_ble_eq_true rfl) rfl ?_
    refine r_sub [1, 2, 3, 4, 0] rfl ?_
    exact t_Model_treewidthOf_L35 hg hA (f_Model_treewidthOf_J136 rec_) (t_Model_treewidthOf_J136 hg hA rec_ hrec_) h_fuel v1 v2 v3 0 μ_31
theorem t_Model_treewidthOf_L19 {cx : HCx} (hg : HGood cx R_Model b_Model_treewidthOf 7 5 (some .int)) (hA : h_own cx)  : ∀ (fuel : Nat) (v1 : Int32) (v2 : Int32) (v3 : Int32) (μ : HMem), HX cx (HQ cx h_eI) (f_Model_treewidthOf_L19  fuel v1 v2 v3 μ) 0 0 19 [(0, .ref 125), (1, .int v1), (2, .int v2), (3, .int v3)] [] μ
  | 0, _, _, _, _ => by unfold f_Model_treewidthOf_L19; exact HX.none
  | fuel + 1, v1, v2, v3, μ => by
    rw [f_Model_treewidthOf_L19]
    exact t_Model_treewidthOf_L19_b hg hA   (f_Model_treewidthOf_L19  fuel) (t_Model_treewidthOf_L19 hg hA   fuel) v1 v2 v3 μ
theorem t_Model_treewidthOf_0 {cx : HCx} (hg : HGood cx R_Model b_Model_treewidthOf 7 5 (some .int)) (hA : h_own cx) (v1 : Int32) (μ : HMem) : HX cx (HQ cx h_eI) (f_Model_treewidthOf v1 μ) 0 0 0 [(0, .ref 125), (1, .int v1)] [] μ := by
  unfold f_Model_treewidthOf
  refine r_iconst (v := 1) hg d_Model_treewidthOf_0 (by decide) ?_
  refine r_aload_n hg 0 d_Model_treewidthOf_1 rfl rfl ?_
  refine r_iload_n hg 1 d_Model_treewidthOf_2 rfl rfl ?_
  refine r_callV (As := [.int v1]) hg (t_Model_size v1 μ) v_Model_size c_Model rfl (by decide) rfl wm_Model_75 d_Model_treewidthOf_3 rfl ⟨by decide, by decide⟩ (Nat.le_of_ble_eq_true rfl) rfl (fun r3 μ_3 _ => ?_)
  refine r_ishl hg d_Model_treewidthOf_6 ?_
  refine r_iconst (v := 1) hg d_Model_treewidthOf_7 (by decide) ?_
  refine r_isub hg d_Model_treewidthOf_8 ?_
  refine r_letI (fun v2_9 => ?_)
  refine r_istore_n (l' := [(2, .int v2_9), (0, .ref 125), (1, .int v1)]) hg d_Model_treewidthOf_9 rfl (Nat.le_of_ble_eq_true rfl) rfl ?_
  refine r_aload_n hg 1 d_Model_treewidthOf_10 rfl rfl ?_
  refine r_get (v := .ref 132) hg c_Model (by decide) rfl (Nat.le_of_ble_eq_true rfl) rfl wf_Model_28 d_Model_treewidthOf_11 rfl ?_
  refine r_iconst (v := 0) hg d_Model_treewidthOf_14 (by decide) ?_
  refine r_iconst (v := -1) hg d_Model_treewidthOf_15 (by decide) ?_
  refine r_iast hg (by decide) rfl d_Model_treewidthOf_16 ?_
  refine r_letM (fun μ_16 => ?_)
  refine r_iconst (v := 1) hg d_Model_treewidthOf_17 (by decide) ?_
  refine r_istore_n (l' := [(3, .int 1), (2, .int v2_9), (0, .ref 125), (1, .int v1)]) hg d_Model_treewidthOf_18 rfl (Nat.le_of_ble_eq_true rfl) rfl ?_
  refine r_sub [2, 3, 1, 0] rfl ?_
  exact t_Model_treewidthOf_L19 hg hA h_fuel v1 v2_9 1 μ_16
theorem t_Model_treewidthOf (v1 : Int32) (μ : HMem) : HSpec y_Model_treewidthOf b_Model_treewidthOf 7 (some .int) 5 h_eI [.ref 125, .int v1] μ (f_Model_treewidthOf v1 μ) :=
  HSpec.of (by decide +kernel) (v_Model_treewidthOf.1 _ (by simp)) (Nat.le_of_ble_eq_true rfl) (fun cx hA hg => t_Model_treewidthOf_0 hg hA v1 μ)
theorem t_Model_treewidth_J24 {cx : HCx} (hg : HGood cx R_Model b_Model_treewidth 2 6 (some .int)) (hA : h_own cx)   (s0 : Int32) (μ : HMem) : HX cx (HQ cx h_eI) (f_Model_treewidth_J24   s0 μ) 0 0 24 [] [.int s0] μ := by
  unfold f_Model_treewidth_J24
  exact r_iret hg hA rfl d_Model_treewidth_24 rfl
theorem t_Model_treewidth_0 {cx : HCx} (hg : HGood cx R_Model b_Model_treewidth 2 6 (some .int)) (hA : h_own cx) (v1 : Int32) (μ : HMem) : HX cx (HQ cx h_eI) (f_Model_treewidth v1 μ) 0 0 0 [(0, .ref 125), (1, .int v1)] [] μ := by
  unfold f_Model_treewidth
  refine r_iload_n hg 1 d_Model_treewidth_0 rfl rfl ?_
  refine r_callS (As := [.int v1]) hg (t_Model_isGraph v1 μ) v_Model_isGraph wm_Model_71 d_Model_treewidth_1 rfl ⟨by decide, by decide⟩ (Nat.le_of_ble_eq_true rfl) rfl (fun r1 μ_1 _ => ?_)
  refine r_if_eq (tgt := 19) hg d_Model_treewidth_4 (by decide) ?_ ?_
  · refine r_aload_n hg 0 d_Model_treewidth_19 rfl rfl ?_
    refine r_iconst (v := 1) hg d_Model_treewidth_20 (by decide) ?_
    refine r_callV (As := [.int 1]) hg (t_Model_fails 1 μ_1) v_Model_fails c_Model rfl (by decide) rfl wm_Model_93 d_Model_treewidth_21 rfl ⟨by decide, by decide⟩ (Nat.le_of_ble_eq_true rfl) rfl (fun r21 μ_21 _ => ?_)
    refine r_sub [] rfl ?_
    exact t_Model_treewidth_J24 hg hA r21 μ_21
  · refine r_aload_n hg 0 d_Model_treewidth_7 rfl rfl ?_
    refine r_aload_n hg 0 d_Model_treewidth_8 rfl rfl ?_
    refine r_iload_n hg 1 d_Model_treewidth_9 rfl rfl ?_
    refine r_callV (As := [.int v1]) hg (t_Model_treewidthOf v1 μ_1) v_Model_treewidthOf c_Model rfl (by decide) rfl wm_Model_199 d_Model_treewidth_10 rfl ⟨by decide, by decide⟩ (Nat.le_of_ble_eq_true rfl) rfl (fun r10 μ_10 _ => ?_)
    refine r_callV (As := [.int r10]) hg (t_Model_tells r10 μ_10) v_Model_tells c_Model rfl (by decide) rfl wm_Model_171 d_Model_treewidth_13 rfl ⟨by decide, by decide⟩ (Nat.le_of_ble_eq_true rfl) rfl (fun r13 μ_13 _ => ?_)
    refine r_goto (tgt := 24) hg d_Model_treewidth_16 (by decide) ?_
    refine r_sub [] rfl ?_
    exact t_Model_treewidth_J24 hg hA r13 μ_13
theorem t_Model_treewidth (v1 : Int32) (μ : HMem) : HSpec y_Model_treewidth b_Model_treewidth 2 (some .int) 6 h_eI [.ref 125, .int v1] μ (f_Model_treewidth v1 μ) :=
  HSpec.of (by decide +kernel) (v_Model_treewidth.1 _ (by simp)) (Nat.le_of_ble_eq_true rfl) (fun cx hA hg => t_Model_treewidth_0 hg hA v1 μ)
theorem t_Model_bag_0 {cx : HCx} (hg : HGood cx R_Model b_Model_bag 3 5 (some .int)) (hA : h_own cx) (v1 : Int32) (v2 : Int32) (μ : HMem) : HX cx (HQ cx h_eI) (f_Model_bag v1 v2 μ) 0 0 0 [(0, .ref 125), (1, .int v1), (2, .int v2)] [] μ := by
  unfold f_Model_bag
  refine r_aload_n hg 0 d_Model_bag_0 rfl rfl ?_
  refine r_iload_n hg 1 d_Model_bag_1 rfl rfl ?_
  refine r_iload_n hg 2 d_Model_bag_2 rfl rfl ?_
  refine r_callV (As := [.int v1, .int v2]) hg (t_Model_isVertex v1 v2 μ) v_Model_isVertex c_Model rfl (by decide) rfl wm_Model_103 d_Model_bag_3 rfl ⟨by decide, by decide⟩ (Nat.le_of_ble_eq_true rfl) rfl (fun r3 μ_3 _ => ?_)
  refine r_if_ne (tgt := 15) hg d_Model_bag_6 (by decide) ?_ ?_
  · refine r_aload_n hg 0 d_Model_bag_15 rfl rfl ?_
    refine r_iload_n hg 1 d_Model_bag_16 rfl rfl ?_
    refine r_iconst (v := 1) hg d_Model_bag_17 (by decide) ?_
    refine r_callV (As := [.int v1, .int 1]) hg (t_Model_eliminates v1 1 μ_3) v_Model_eliminates c_Model rfl (by decide) rfl wm_Model_189 d_Model_bag_18 rfl ⟨by decide, by decide⟩ (Nat.le_of_ble_eq_true rfl) rfl (fun r18 μ_18 _ => ?_)
    refine r_aload_n hg 0 d_Model_bag_21 rfl rfl ?_
    refine r_aload_n hg 0 d_Model_bag_22 rfl rfl ?_
    refine r_get (v := .ref 131) hg c_Model (by decide) rfl (Nat.le_of_ble_eq_true rfl) rfl wf_Model_25 d_Model_bag_23 rfl ?_
    refine r_iload_n hg 2 d_Model_bag_26 rfl rfl ?_
    refine r_iald hg (by decide) rfl d_Model_bag_27 ?_
    refine r_callV (As := [.int (μ_18.1 131 (Int32.toNatClampNeg (v2)))]) hg (t_Model_tells (μ_18.1 131 (Int32.toNatClampNeg (v2))) μ_18) v_Model_tells c_Model rfl (by decide) rfl wm_Model_171 d_Model_bag_28 rfl ⟨by decide, by decide⟩ (Nat.le_of_ble_eq_true rfl) rfl (fun r28 μ_28 _ => ?_)
    exact r_iret hg hA rfl d_Model_bag_31 rfl
  · refine r_aload_n hg 0 d_Model_bag_9 rfl rfl ?_
    refine r_iconst (v := 1) hg d_Model_bag_10 (by decide) ?_
    refine r_callV (As := [.int 1]) hg (t_Model_fails 1 μ_3) v_Model_fails c_Model rfl (by decide) rfl wm_Model_93 d_Model_bag_11 rfl ⟨by decide, by decide⟩ (Nat.le_of_ble_eq_true rfl) rfl (fun r11 μ_11 _ => ?_)
    exact r_iret hg hA rfl d_Model_bag_14 rfl
theorem t_Model_bag (v1 : Int32) (v2 : Int32) (μ : HMem) : HSpec y_Model_bag b_Model_bag 3 (some .int) 5 h_eI [.ref 125, .int v1, .int v2] μ (f_Model_bag v1 v2 μ) :=
  HSpec.of (by decide +kernel) (v_Model_bag.1 _ (by simp)) (Nat.le_of_ble_eq_true rfl) (fun cx hA hg => t_Model_bag_0 hg hA v1 v2 μ)
theorem t_Model_fits_J54 {cx : HCx} (hg : HGood cx R_Model b_Model_fits 6 3 (some .boolean)) (hA : h_own cx)  (rec_ : Int32 → Int32 → Int32 → Int32 → Int32 → HMem → Option (Int32 × HMem)) (hrec_ : p_Model_fits_6 cx rec_) (v1 : Int32) (v2 : Int32) (v3 : Int32) (v5 : Int32) (s0 : Int32) (μ : HMem) : HX cx (HQ cx h_eI) (f_Model_fits_J54  rec_ v1 v2 v3 v5 s0 μ) 0 0 54 [(0, .ref 125), (1, .int v1), (2, .int v2), (3, .int v3), (5, .int v5)] [.int s0] μ := by
  unfold f_Model_fits_J54
  refine r_istore (l' := [(4, .int s0), (0, .ref 125), (1, .int v1), (2, .int v2), (3, .int v3), (5, .int v5)]) hg d_Model_fits_54 (Nat.le_of_ble_eq_true rfl) rfl ?_
  refine r_letE (fun v5_56 he_56 => ?_)
  refine r_iinc (v := v5_56) (l' := [(5, .int v5_56), (4, .int s0), (0, .ref 125), (1, .int v1), (2, .int v2), (3, .int v3)]) hg 5 d_Model_fits_56 rfl he_56 (Nat.le_of_ble_eq_true rfl) rfl ?_
  refine r_goto (tgt := 6) hg d_Model_fits_59 (by decide) ?_
  refine r_sub [2, 3, 4, 5, 1, 0] rfl ?_
  exact hrec_ v1 v2 v3 s0 v5_56 μ
theorem t_Model_fits_J49 {cx : HCx} (hg : HGood cx R_Model b_Model_fits 6 3 (some .boolean)) (hA : h_own cx)  (rec_ : Int32 → Int32 → Int32 → Int32 → Int32 → HMem → Option (Int32 × HMem)) (hrec_ : p_Model_fits_6 cx rec_) (v1 : Int32) (v2 : Int32) (v3 : Int32) (v5 : Int32) (μ : HMem) : HX cx (HQ cx h_eI) (f_Model_fits_J49  rec_ v1 v2 v3 v5 μ) 0 0 49 [(0, .ref 125), (1, .int v1), (2, .int v2), (3, .int v3), (5, .int v5)] [] μ := by
  unfold f_Model_fits_J49
  refine r_iconst (v := 1) hg d_Model_fits_49 (by decide) ?_
  refine r_goto (tgt := 54) hg d_Model_fits_50 (by decide) ?_
  exact t_Model_fits_J54 hg hA rec_ hrec_ v1 v2 v3 v5 1 μ
theorem t_Model_fits_L6_b {cx : HCx} (hg : HGood cx R_Model b_Model_fits 6 3 (some .boolean)) (hA : h_own cx) (K62 : Int32 → HMem → Option (Int32 × HMem)) (hK62 : p_Model_fits_62 cx K62) (rec_ : Int32 → Int32 → Int32 → Int32 → Int32 → HMem → Option (Int32 × HMem)) (hrec_ : p_Model_fits_6 cx rec_) (v1 : Int32) (v2 : Int32) (v3 : Int32) (v4 : Int32) (v5 : Int32) (μ : HMem) : HX cx (HQ cx h_eI) (f_Model_fits_L6_b K62 rec_ v1 v2 v3 v4 v5 μ) 0 0 6 [(0, .ref 125), (1, .int v1), (2, .int v2), (3, .int v3), (4, .int v4), (5, .int v5)] [] μ := by
  unfold f_Model_fits_L6_b
  refine r_iload hg 5 d_Model_fits_6 rfl ?_
  refine r_iload_n hg 3 d_Model_fits_8 rfl rfl ?_
  refine r_icmp_gt (tgt := 62) hg d_Model_fits_9 (by decide) ?_ ?_
  · refine r_sub [4] rfl ?_
    exact hK62 v4 μ
  · refine r_iload hg 4 d_Model_fits_12 rfl ?_
    refine r_if_eq (tgt := 62) hg d_Model_fits_14 (by decide) ?_ ?_
    · refine r_sub [4] rfl ?_
      exact hK62 v4 μ
    · refine r_aload_n hg 0 d_Model_fits_17 rfl rfl ?_
      refine r_iload_n hg 1 d_Model_fits_18 rfl rfl ?_
      refine r_iload_n hg 3 d_Model_fits_19 rfl rfl ?_
      refine r_iload hg 5 d_Model_fits_20 rfl ?_
      refine r_callV (As := [.int v1, .int v3, .int v5]) hg (t_Model_isNear v1 v3 v5 μ) v_Model_isNear c_Model rfl (by decide) rfl wm_Model_148 d_Model_fits_22 rfl ⟨by decide, by decide⟩ (Nat.le_of_ble_eq_true rfl) rfl (fun r22 μ_22 _ => ?_)
      refine r_if_eq (tgt := 49) hg d_Model_fits_25 (by decide) ?_ ?_
      · refine r_sub [0, 1, 2, 3, 5] rfl ?_
        exact t_Model_fits_J49 hg hA rec_ hrec_ v1 v2 v3 v5 μ_22
      · refine r_aload_n hg 0 d_Model_fits_28 rfl rfl ?_
        refine r_iload_n hg 2 d_Model_fits_29 rfl rfl ?_
        refine r_aload_n hg 0 d_Model_fits_30 rfl rfl ?_
        refine r_get (v := .ref 133) hg c_Model (by decide) rfl (Nat.le_of_ble_eq_true rfl) rfl wf_Model_31 d_Model_fits_31 rfl ?_
        refine r_iload_n hg 3 d_Model_fits_34 rfl rfl ?_
        refine r_iald hg (by decide) rfl d_Model_fits_35 ?_
        refine r_aload_n hg 0 d_Model_fits_36 rfl rfl ?_
        refine r_get (v := .ref 133) hg c_Model (by decide) rfl (Nat.le_of_ble_eq_true rfl) rfl wf_Model_31 d_Model_fits_37 rfl ?_
        refine r_iload hg 5 d_Model_fits_40 rfl ?_
        refine r_iald hg (by decide) rfl d_Model_fits_42 ?_
        refine r_callV (As := [.int v2, .int (μ_22.1 133 (Int32.toNatClampNeg (v3))), .int (μ_22.1 133 (Int32.toNatClampNeg (v5)))]) hg (t_Model_isNear v2 (μ_22.1 133 (Int32.toNatClampNeg (v3))) (μ_22.1 133 (Int32.toNatClampNeg (v5))) μ_22) v_Model_isNear c_Model rfl (by decide) rfl wm_Model_148 d_Model_fits_43 rfl ⟨by decide, by decide⟩ (Nat.le_of_ble_eq_true rfl) rfl (fun r43 μ_43 _ => ?_)
        refine r_if_eq (tgt := 53) hg d_Model_fits_46 (by decide) ?_ ?_
        · refine r_iconst (v := 0) hg d_Model_fits_53 (by decide) ?_
          refine r_sub [0, 1, 2, 3, 5] rfl ?_
          exact t_Model_fits_J54 hg hA rec_ hrec_ v1 v2 v3 v5 0 μ_43
        · refine r_sub [0, 1, 2, 3, 5] rfl ?_
          exact t_Model_fits_J49 hg hA rec_ hrec_ v1 v2 v3 v5 μ_43
theorem t_Model_fits_L6 {cx : HCx} (hg : HGood cx R_Model b_Model_fits 6 3 (some .boolean)) (hA : h_own cx) (K62 : Int32 → HMem → Option (Int32 × HMem)) (hK62 : p_Model_fits_62 cx K62) : ∀ (fuel : Nat) (v1 : Int32) (v2 : Int32) (v3 : Int32) (v4 : Int32) (v5 : Int32) (μ : HMem), HX cx (HQ cx h_eI) (f_Model_fits_L6 K62 fuel v1 v2 v3 v4 v5 μ) 0 0 6 [(0, .ref 125), (1, .int v1), (2, .int v2), (3, .int v3), (4, .int v4), (5, .int v5)] [] μ
  | 0, _, _, _, _, _, _ => by unfold f_Model_fits_L6; exact HX.none
  | fuel + 1, v1, v2, v3, v4, v5, μ => by
    rw [f_Model_fits_L6]
    exact t_Model_fits_L6_b hg hA  K62 hK62 (f_Model_fits_L6 K62 fuel) (t_Model_fits_L6 hg hA  K62 hK62 fuel) v1 v2 v3 v4 v5 μ
theorem t_Model_fits_J62 {cx : HCx} (hg : HGood cx R_Model b_Model_fits 6 3 (some .boolean)) (hA : h_own cx)   (v4 : Int32) (μ : HMem) : HX cx (HQ cx h_eI) (f_Model_fits_J62   v4 μ) 0 0 62 [(4, .int v4)] [] μ := by
  unfold f_Model_fits_J62
  refine r_iload hg 0 d_Model_fits_62 rfl ?_
  exact r_zretB hg hA rfl d_Model_fits_64 rfl
theorem t_Model_fits_0 {cx : HCx} (hg : HGood cx R_Model b_Model_fits 6 3 (some .boolean)) (hA : h_own cx) (v1 : Int32) (v2 : Int32) (v3 : Int32) (μ : HMem) : HX cx (HQ cx h_eI) (f_Model_fits v1 v2 v3 μ) 0 0 0 [(0, .ref 125), (1, .int v1), (2, .int v2), (3, .int v3)] [] μ := by
  unfold f_Model_fits
  refine r_iconst (v := 1) hg d_Model_fits_0 (by decide) ?_
  refine r_istore (l' := [(4, .int 1), (0, .ref 125), (1, .int v1), (2, .int v2), (3, .int v3)]) hg d_Model_fits_1 (Nat.le_of_ble_eq_true rfl) rfl ?_
  refine r_iconst (v := 0) hg d_Model_fits_3 (by decide) ?_
  refine r_istore (l' := [(5, .int 0), (4, .int 1), (0, .ref 125), (1, .int v1), (2, .int v2), (3, .int v3)]) hg d_Model_fits_4 (Nat.le_of_ble_eq_true rfl) rfl ?_
  refine r_sub [2, 3, 4, 5, 1, 0] rfl ?_
  exact t_Model_fits_L6 hg hA f_Model_fits_J62 (t_Model_fits_J62 hg hA) h_fuel v1 v2 v3 1 0 μ
theorem t_Model_fits (v1 : Int32) (v2 : Int32) (v3 : Int32) (μ : HMem) : HSpec y_Model_fits b_Model_fits 6 (some .boolean) 3 h_eI [.ref 125, .int v1, .int v2, .int v3] μ (f_Model_fits v1 v2 v3 μ) :=
  HSpec.of (by decide +kernel) (v_Model_fits.1 _ (by simp)) (Nat.le_of_ble_eq_true rfl) (fun cx hA hg => t_Model_fits_0 hg hA v1 v2 v3 μ)
theorem t_Model_finds_L33_b {cx : HCx} (hg : HGood cx R_Model b_Model_finds 6 4 (some .boolean)) (hA : h_own cx) (K73 : Int32 → Int32 → Int32 → Int32 → HMem → Option (Int32 × HMem)) (hK73 : p_Model_finds_73 cx K73) (rec_ : Int32 → Int32 → Int32 → Int32 → HMem → Option (Int32 × HMem)) (hrec_ : p_Model_finds_33 cx rec_) (v1 : Int32) (v2 : Int32) (v4 : Int32) (v5 : Int32) (μ : HMem) : HX cx (HQ cx h_eI) (f_Model_finds_L33_b K73 rec_ v1 v2 v4 v5 μ) 0 0 33 [(0, .ref 125), (1, .int v1), (2, .int v2), (4, .int v4), (5, .int v5)] [] μ := by
  unfold f_Model_finds_L33_b
  refine r_aload_n hg 0 d_Model_finds_33 rfl rfl ?_
  refine r_get (v := .ref 133) hg c_Model (by decide) rfl (Nat.le_of_ble_eq_true rfl) rfl wf_Model_31 d_Model_finds_34 rfl ?_
  refine r_iload hg 4 d_Model_finds_37 rfl ?_
  refine r_iald hg (by decide) rfl d_Model_finds_39 ?_
  refine r_aload_n hg 0 d_Model_finds_40 rfl rfl ?_
  refine r_iload_n hg 2 d_Model_finds_41 rfl rfl ?_
  refine r_callV (As := [.int v2]) hg (t_Model_size v2 μ) v_Model_size c_Model rfl (by decide) rfl wm_Model_75 d_Model_finds_42 rfl ⟨by decide, by decide⟩ (Nat.le_of_ble_eq_true rfl) rfl (fun r42 μ_42 _ => ?_)
  refine r_icmp_ge (tgt := 73) hg d_Model_finds_45 (by decide) ?_ ?_
  · exact hK73 v1 v2 v4 v5 μ_42
  · refine r_aload_n hg 0 d_Model_finds_48 rfl rfl ?_
    refine r_iload_n hg 1 d_Model_finds_49 rfl rfl ?_
    refine r_iload_n hg 2 d_Model_finds_50 rfl rfl ?_
    refine r_iload hg 4 d_Model_finds_51 rfl ?_
    refine r_callV (As := [.int v1, .int v2, .int v5]) hg (t_Model_fits v1 v2 v5 μ_42) v_Model_fits c_Model rfl (by decide) rfl wm_Model_202 d_Model_finds_53 rfl ⟨by decide, by decide⟩ (Nat.le_of_ble_eq_true rfl) rfl (fun r53 μ_53 _ => ?_)
    refine r_if_ne (tgt := 73) hg d_Model_finds_56 (by decide) ?_ ?_
    · exact hK73 v1 v2 v4 v5 μ_53
    · refine r_aload_n hg 0 d_Model_finds_59 rfl rfl ?_
      refine r_get (v := .ref 133) hg c_Model (by decide) rfl (Nat.le_of_ble_eq_true rfl) rfl wf_Model_31 d_Model_finds_60 rfl ?_
      refine r_iload hg 4 d_Model_finds_63 rfl ?_
      refine r_dup2 hg d_Model_finds_65 rfl rfl ?_
      refine r_iald hg (by decide) rfl d_Model_finds_66 ?_
      refine r_iconst (v := 1) hg d_Model_finds_67 (by decide) ?_
      refine r_iadd hg d_Model_finds_68 ?_
      refine r_iast hg (by decide) rfl d_Model_finds_69 ?_
      refine r_letM (fun μ_69 => ?_)
      refine r_goto (tgt := 33) hg d_Model_finds_70 (by decide) ?_
      exact hrec_ v1 v2 v4 v5 μ_69
theorem t_Model_finds_L33 {cx : HCx} (hg : HGood cx R_Model b_Model_finds 6 4 (some .boolean)) (hA : h_own cx) (K73 : Int32 → Int32 → Int32 → Int32 → HMem → Option (Int32 × HMem)) (hK73 : p_Model_finds_73 cx K73) : ∀ (fuel : Nat) (v1 : Int32) (v2 : Int32) (v4 : Int32) (v5 : Int32) (μ : HMem), HX cx (HQ cx h_eI) (f_Model_finds_L33 K73 fuel v1 v2 v4 v5 μ) 0 0 33 [(0, .ref 125), (1, .int v1), (2, .int v2), (4, .int v4), (5, .int v5)] [] μ
  | 0, _, _, _, _, _ => by unfold f_Model_finds_L33; exact HX.none
  | fuel + 1, v1, v2, v4, v5, μ => by
    rw [f_Model_finds_L33]
    exact t_Model_finds_L33_b hg hA  K73 hK73 (f_Model_finds_L33 K73 fuel) (t_Model_finds_L33 hg hA  K73 hK73 fuel) v1 v2 v4 v5 μ
theorem t_Model_finds_J73 {cx : HCx} (hg : HGood cx R_Model b_Model_finds 6 4 (some .boolean)) (hA : h_own cx)  (rec_ : Int32 → Int32 → Int32 → Int32 → HMem → Option (Int32 × HMem)) (hrec_ : p_Model_finds_10 cx rec_) (v1 : Int32) (v2 : Int32) (v4 : Int32) (v5 : Int32) (μ : HMem) : HX cx (HQ cx h_eI) (f_Model_finds_J73  rec_ v1 v2 v4 v5 μ) 0 0 73 [(0, .ref 125), (1, .int v1), (2, .int v2), (4, .int v4), (5, .int v5)] [] μ := by
  unfold f_Model_finds_J73
  refine r_aload_n hg 0 d_Model_finds_73 rfl rfl ?_
  refine r_get (v := .ref 133) hg c_Model (by decide) rfl (Nat.le_of_ble_eq_true rfl) rfl wf_Model_31 d_Model_finds_74 rfl ?_
  refine r_iload hg 4 d_Model_finds_77 rfl ?_
  refine r_iald hg (by decide) rfl d_Model_finds_79 ?_
  refine r_aload_n hg 0 d_Model_finds_80 rfl rfl ?_
  refine r_iload_n hg 2 d_Model_finds_81 rfl rfl ?_
  refine r_callV (As := [.int v2]) hg (t_Model_size v2 μ) v_Model_size c_Model rfl (by decide) rfl wm_Model_75 d_Model_finds_82 rfl ⟨by decide, by decide⟩ (Nat.le_of_ble_eq_true rfl) rfl (fun r82 μ_82 _ => ?_)
  refine r_icmp_ge (tgt := 102) hg d_Model_finds_85 (by decide) ?_ ?_
  · refine r_letE (fun v5_102 he_102 => ?_)
    refine r_iinc (v := v5_102) (l' := [(5, .int v5_102), (0, .ref 125), (1, .int v1), (2, .int v2), (4, .int v4)]) hg 4 d_Model_finds_102 rfl he_102 (Nat.le_of_ble_eq_true rfl) rfl ?_
    refine r_goto (tgt := 10) hg d_Model_finds_105 (by decide) ?_
    refine r_sub [1, 2, 3, 4, 0] rfl ?_
    exact hrec_ v1 v2 v4 v5_102 μ_82
  · refine r_letE (fun v5_88 he_88 => ?_)
    refine r_iinc (v := v5_88) (l' := [(5, .int v5_88), (0, .ref 125), (1, .int v1), (2, .int v2), (4, .int v4)]) hg 4 d_Model_finds_88 rfl he_88 (Nat.le_of_ble_eq_true rfl) rfl ?_
    refine r_aload_n hg 1 d_Model_finds_91 rfl rfl ?_
    refine r_get (v := .ref 133) hg c_Model (by decide) rfl (Nat.le_of_ble_eq_true rfl) rfl wf_Model_31 d_Model_finds_92 rfl ?_
    refine r_iload hg 0 d_Model_finds_95 rfl ?_
    refine r_iconst (v := -1) hg d_Model_finds_97 (by decide) ?_
    refine r_iast hg (by decide) rfl d_Model_finds_98 ?_
    refine r_letM (fun μ_98 => ?_)
    refine r_goto (tgt := 10) hg d_Model_finds_99 (by decide) ?_
    refine r_sub [1, 2, 3, 4, 0] rfl ?_
    exact hrec_ v1 v2 v4 v5_88 μ_98
theorem t_Model_finds_L10_b {cx : HCx} (hg : HGood cx R_Model b_Model_finds 6 4 (some .boolean)) (hA : h_own cx) (K108 : Int32 → Int32 → HMem → Option (Int32 × HMem)) (hK108 : p_Model_finds_108 cx K108) (rec_ : Int32 → Int32 → Int32 → Int32 → HMem → Option (Int32 × HMem)) (hrec_ : p_Model_finds_10 cx rec_) (v1 : Int32) (v2 : Int32) (v4 : Int32) (v5 : Int32) (μ : HMem) : HX cx (HQ cx h_eI) (f_Model_finds_L10_b K108 rec_ v1 v2 v4 v5 μ) 0 0 10 [(0, .ref 125), (1, .int v1), (2, .int v2), (4, .int v4), (5, .int v5)] [] μ := by
  unfold f_Model_finds_L10_b
  refine r_iload hg 4 d_Model_finds_10 rfl ?_
  refine r_if_lt (tgt := 108) hg d_Model_finds_12 (by decide) ?_ ?_
  · refine r_sub [3, 4] rfl ?_
    exact hK108 v4 v5 μ
  · refine r_iload hg 4 d_Model_finds_15 rfl ?_
    refine r_iload hg 3 d_Model_finds_17 rfl ?_
    refine r_icmp_ge (tgt := 108) hg d_Model_finds_19 (by decide) ?_ ?_
    · refine r_sub [3, 4] rfl ?_
      exact hK108 v4 v5 μ
    · refine r_aload_n hg 0 d_Model_finds_22 rfl rfl ?_
      refine r_get (v := .ref 133) hg c_Model (by decide) rfl (Nat.le_of_ble_eq_true rfl) rfl wf_Model_31 d_Model_finds_23 rfl ?_
      refine r_iload hg 4 d_Model_finds_26 rfl ?_
      refine r_dup2 hg d_Model_finds_28 rfl rfl ?_
      refine r_iald hg (by decide) rfl d_Model_finds_29 ?_
      refine r_iconst (v := 1) hg d_Model_finds_30 (by decide) ?_
      refine r_iadd hg d_Model_finds_31 ?_
      refine r_iast hg (by decide) rfl d_Model_finds_32 ?_
      refine r_letM (fun μ_32 => ?_)
      exact t_Model_finds_L33 hg hA (f_Model_finds_J73 rec_) (t_Model_finds_J73 hg hA rec_ hrec_) h_fuel v1 v2 v4 v5 μ_32
theorem t_Model_finds_L10 {cx : HCx} (hg : HGood cx R_Model b_Model_finds 6 4 (some .boolean)) (hA : h_own cx) (K108 : Int32 → Int32 → HMem → Option (Int32 × HMem)) (hK108 : p_Model_finds_108 cx K108) : ∀ (fuel : Nat) (v1 : Int32) (v2 : Int32) (v4 : Int32) (v5 : Int32) (μ : HMem), HX cx (HQ cx h_eI) (f_Model_finds_L10 K108 fuel v1 v2 v4 v5 μ) 0 0 10 [(0, .ref 125), (1, .int v1), (2, .int v2), (4, .int v4), (5, .int v5)] [] μ
  | 0, _, _, _, _, _ => by unfold f_Model_finds_L10; exact HX.none
  | fuel + 1, v1, v2, v4, v5, μ => by
    rw [f_Model_finds_L10]
    exact t_Model_finds_L10_b hg hA  K108 hK108 (f_Model_finds_L10 K108 fuel) (t_Model_finds_L10 hg hA  K108 hK108 fuel) v1 v2 v4 v5 μ
theorem t_Model_finds_J120 {cx : HCx} (hg : HGood cx R_Model b_Model_finds 6 4 (some .boolean)) (hA : h_own cx)   (s0 : Int32) (μ : HMem) : HX cx (HQ cx h_eI) (f_Model_finds_J120   s0 μ) 0 0 120 [] [.int s0] μ := by
  unfold f_Model_finds_J120
  exact r_zretB hg hA rfl d_Model_finds_120 rfl
theorem t_Model_finds_J108 {cx : HCx} (hg : HGood cx R_Model b_Model_finds 6 4 (some .boolean)) (hA : h_own cx)   (v4 : Int32) (v5 : Int32) (μ : HMem) : HX cx (HQ cx h_eI) (f_Model_finds_J108   v4 v5 μ) 0 0 108 [(4, .int v4), (5, .int v5)] [] μ := by
  unfold f_Model_finds_J108
  refine r_iload hg 1 d_Model_finds_108 rfl ?_
  refine r_iload hg 0 d_Model_finds_110 rfl ?_
  refine r_icmp_ne (tgt := 119) hg d_Model_finds_112 (by decide) ?_ ?_
  · refine r_iconst (v := 0) hg d_Model_finds_119 (by decide) ?_
    refine r_sub [] rfl ?_
    exact t_Model_finds_J120 hg hA 0 μ
  · refine r_iconst (v := 1) hg d_Model_finds_115 (by decide) ?_
    refine r_goto (tgt := 120) hg d_Model_finds_116 (by decide) ?_
    refine r_sub [] rfl ?_
    exact t_Model_finds_J120 hg hA 1 μ
theorem t_Model_finds_0 {cx : HCx} (hg : HGood cx R_Model b_Model_finds 6 4 (some .boolean)) (hA : h_own cx) (v1 : Int32) (v2 : Int32) (v3 : Int32) (μ : HMem) : HX cx (HQ cx h_eI) (f_Model_finds v1 v2 v3 μ) 0 0 0 [(0, .ref 125), (1, .int v1), (2, .int v2), (3, .int v3)] [] μ := by
  unfold f_Model_finds
  refine r_aload_n hg 0 d_Model_finds_0 rfl rfl ?_
  refine r_iload_n hg 1 d_Model_finds_1 rfl rfl ?_
  refine r_callV (As := [.int v1]) hg (t_Model_size v1 μ) v_Model_size c_Model rfl (by decide) rfl wm_Model_75 d_Model_finds_2 rfl ⟨by decide, by decide⟩ (Nat.le_of_ble_eq_true rfl) rfl (fun r2 μ_2 _ => ?_)
  refine r_istore (l' := [(4, .int r2), (0, .ref 125), (1, .int v1), (2, .int v2), (3, .int v3)]) hg d_Model_finds_5 (Nat.le_of_ble_eq_true rfl) rfl ?_
  refine r_iload_n hg 4 d_Model_finds_7 rfl rfl ?_
  refine r_istore (l' := [(5, .int v3), (4, .int r2), (0, .ref 125), (1, .int v1), (2, .int v2), (3, .int v3)]) hg d_Model_finds_8 (Nat.le_of_ble_eq_true rfl) rfl ?_
  refine r_sub [2, 3, 4, 1, 0] rfl ?_
  exact t_Model_finds_L10 hg hA f_Model_finds_J108 (t_Model_finds_J108 hg hA) h_fuel v1 v2 r2 v3 μ_2
theorem t_Model_finds (v1 : Int32) (v2 : Int32) (v3 : Int32) (μ : HMem) : HSpec y_Model_finds b_Model_finds 6 (some .boolean) 4 h_eI [.ref 125, .int v1, .int v2, .int v3] μ (f_Model_finds v1 v2 v3 μ) :=
  HSpec.of (by decide +kernel) (v_Model_finds.1 _ (by simp)) (Nat.le_of_ble_eq_true rfl) (fun cx hA hg => t_Model_finds_0 hg hA v1 v2 v3 μ)
theorem t_Model_firstImage_L29_b {cx : HCx} (hg : HGood cx R_Model b_Model_firstImage 5 7 (some .int)) (hA : h_own cx) (K53 : Int32 → Int32 → Int32 → Int32 → HMem → Option (Int32 × HMem)) (hK53 : p_Model_firstImage_53 cx K53) (rec_ : Int32 → Int32 → Int32 → Int32 → HMem → Option (Int32 × HMem)) (hrec_ : p_Model_firstImage_29 cx rec_) (v1 : Int32) (v2 : Int32) (v3 : Int32) (v4 : Int32) (μ : HMem) : HX cx (HQ cx h_eI) (f_Model_firstImage_L29_b K53 rec_ v1 v2 v3 v4 μ) 0 0 29 [(0, .ref 125), (1, .int v1), (2, .int v2), (3, .int v3), (4, .int v4)] [] μ := by
  unfold f_Model_firstImage_L29_b
  refine r_aload_n hg 0 d_Model_firstImage_29 rfl rfl ?_
  refine r_iload_n hg 1 d_Model_firstImage_30 rfl rfl ?_
  refine r_iload_n hg 2 d_Model_firstImage_31 rfl rfl ?_
  refine r_iconst (v := -1) hg d_Model_firstImage_32 (by decide) ?_
  refine r_callV (As := [.int v1, .int v2, .int (-1)]) hg (t_Model_isThere v1 v2 (-1) μ) v_Model_isThere c_Model rfl (by decide) rfl wm_Model_221 d_Model_firstImage_33 rfl ⟨by decide, by decide⟩ (Nat.le_of_ble_eq_true rfl) rfl (fun r33 μ_33 _ => ?_)
  refine r_if_ne (tgt := 53) hg d_Model_firstImage_36 (by decide) ?_ ?_
  · exact hK53 v1 v2 v3 v4 μ_33
  · refine r_aload_n hg 0 d_Model_firstImage_39 rfl rfl ?_
    refine r_get (v := .ref 135) hg c_Model (by decide) rfl (Nat.le_of_ble_eq_true rfl) rfl wf_Model_37 d_Model_firstImage_40 rfl ?_
    refine r_iload hg 4 d_Model_firstImage_43 rfl ?_
    refine r_dup2 hg d_Model_firstImage_45 rfl rfl ?_
    refine r_iald hg (by decide) rfl d_Model_firstImage_46 ?_
    refine r_iconst (v := 1) hg d_Model_firstImage_47 (by decide) ?_
    refine r_iadd hg d_Model_firstImage_48 ?_
    refine r_iast hg (by decide) rfl d_Model_firstImage_49 ?_
    refine r_letM (fun μ_49 => ?_)
    refine r_goto (tgt := 29) hg d_Model_firstImage_50 (by decide) ?_
    exact hrec_ v1 v2 v3 v4 μ_49
theorem t_Model_firstImage_L29 {cx : HCx} (hg : HGood cx R_Model b_Model_firstImage 5 7 (some .int)) (hA : h_own cx) (K53 : Int32 → Int32 → Int32 → Int32 → HMem → Option (Int32 × HMem)) (hK53 : p_Model_firstImage_53 cx K53) : ∀ (fuel : Nat) (v1 : Int32) (v2 : Int32) (v3 : Int32) (v4 : Int32) (μ : HMem), HX cx (HQ cx h_eI) (f_Model_firstImage_L29 K53 fuel v1 v2 v3 v4 μ) 0 0 29 [(0, .ref 125), (1, .int v1), (2, .int v2), (3, .int v3), (4, .int v4)] [] μ
  | 0, _, _, _, _, _ => by unfold f_Model_firstImage_L29; exact HX.none
  | fuel + 1, v1, v2, v3, v4, μ => by
    rw [f_Model_firstImage_L29]
    exact t_Model_firstImage_L29_b hg hA  K53 hK53 (f_Model_firstImage_L29 K53 fuel) (t_Model_firstImage_L29 hg hA  K53 hK53 fuel) v1 v2 v3 v4 μ
theorem t_Model_firstImage_J53 {cx : HCx} (hg : HGood cx R_Model b_Model_firstImage 5 7 (some .int)) (hA : h_own cx)  (rec_ : Int32 → Int32 → Int32 → Int32 → HMem → Option (Int32 × HMem)) (hrec_ : p_Model_firstImage_15 cx rec_) (v1 : Int32) (v2 : Int32) (v3 : Int32) (v4 : Int32) (μ : HMem) : HX cx (HQ cx h_eI) (f_Model_firstImage_J53  rec_ v1 v2 v3 v4 μ) 0 0 53 [(0, .ref 125), (1, .int v1), (2, .int v2), (3, .int v3), (4, .int v4)] [] μ := by
  unfold f_Model_firstImage_J53
  refine r_letE (fun v4_53 he_53 => ?_)
  refine r_iinc (v := v4_53) (l' := [(4, .int v4_53), (0, .ref 125), (1, .int v1), (2, .int v2), (3, .int v3)]) hg 4 d_Model_firstImage_53 rfl he_53 (Nat.le_of_ble_eq_true rfl) rfl ?_
  refine r_goto (tgt := 15) hg d_Model_firstImage_56 (by decide) ?_
  refine r_sub [1, 2, 3, 4, 0] rfl ?_
  exact hrec_ v1 v2 v3 v4_53 μ
theorem t_Model_firstImage_L15_b {cx : HCx} (hg : HGood cx R_Model b_Model_firstImage 5 7 (some .int)) (hA : h_own cx)  (rec_ : Int32 → Int32 → Int32 → Int32 → HMem → Option (Int32 × HMem)) (hrec_ : p_Model_firstImage_15 cx rec_) (v1 : Int32) (v2 : Int32) (v3 : Int32) (v4 : Int32) (μ : HMem) : HX cx (HQ cx h_eI) (f_Model_firstImage_L15_b  rec_ v1 v2 v3 v4 μ) 0 0 15 [(0, .ref 125), (1, .int v1), (2, .int v2), (3, .int v3), (4, .int v4)] [] μ := by
  unfold f_Model_firstImage_L15_b
  refine r_iload hg 4 d_Model_firstImage_15 rfl ?_
  refine r_iload_n hg 3 d_Model_firstImage_17 rfl rfl ?_
  refine r_icmp_gt (tgt := 59) hg d_Model_firstImage_18 (by decide) ?_ ?_
  · refine r_aload_n hg 0 d_Model_firstImage_59 rfl rfl ?_
    refine r_get (v := .ref 135) hg c_Model (by decide) rfl (Nat.le_of_ble_eq_true rfl) rfl wf_Model_37 d_Model_firstImage_60 rfl ?_
    refine r_iload_n hg 3 d_Model_firstImage_63 rfl rfl ?_
    refine r_iald hg (by decide) rfl d_Model_firstImage_64 ?_
    exact r_iret hg hA rfl d_Model_firstImage_65 rfl
  · refine r_aload_n hg 0 d_Model_firstImage_21 rfl rfl ?_
    refine r_get (v := .ref 135) hg c_Model (by decide) rfl (Nat.le_of_ble_eq_true rfl) rfl wf_Model_37 d_Model_firstImage_22 rfl ?_
    refine r_iload hg 4 d_Model_firstImage_25 rfl ?_
    refine r_iconst (v := 0) hg d_Model_firstImage_27 (by decide) ?_
    refine r_iast hg (by decide) rfl d_Model_firstImage_28 ?_
    refine r_letM (fun μ_28 => ?_)
    exact t_Model_firstImage_L29 hg hA (f_Model_firstImage_J53 rec_) (t_Model_firstImage_J53 hg hA rec_ hrec_) h_fuel v1 v2 v3 v4 μ_28
theorem t_Model_firstImage_L15 {cx : HCx} (hg : HGood cx R_Model b_Model_firstImage 5 7 (some .int)) (hA : h_own cx)  : ∀ (fuel : Nat) (v1 : Int32) (v2 : Int32) (v3 : Int32) (v4 : Int32) (μ : HMem), HX cx (HQ cx h_eI) (f_Model_firstImage_L15  fuel v1 v2 v3 v4 μ) 0 0 15 [(0, .ref 125), (1, .int v1), (2, .int v2), (3, .int v3), (4, .int v4)] [] μ
  | 0, _, _, _, _, _ => by unfold f_Model_firstImage_L15; exact HX.none
  | fuel + 1, v1, v2, v3, v4, μ => by
    rw [f_Model_firstImage_L15]
    exact t_Model_firstImage_L15_b hg hA   (f_Model_firstImage_L15  fuel) (t_Model_firstImage_L15 hg hA   fuel) v1 v2 v3 v4 μ
theorem t_Model_firstImage_0 {cx : HCx} (hg : HGood cx R_Model b_Model_firstImage 5 7 (some .int)) (hA : h_own cx) (v1 : Int32) (v2 : Int32) (v3 : Int32) (μ : HMem) : HX cx (HQ cx h_eI) (f_Model_firstImage v1 v2 v3 μ) 0 0 0 [(0, .ref 125), (1, .int v1), (2, .int v2), (3, .int v3)] [] μ := by
  unfold f_Model_firstImage
  refine r_aload_n hg 0 d_Model_firstImage_0 rfl rfl ?_
  refine r_iload_n hg 1 d_Model_firstImage_1 rfl rfl ?_
  refine r_iload_n hg 2 d_Model_firstImage_2 rfl rfl ?_
  refine r_iconst (v := -1) hg d_Model_firstImage_3 (by decide) ?_
  refine r_callV (As := [.int v1, .int v2, .int (-1)]) hg (t_Model_isFree v1 v2 (-1) μ) v_Model_isFree c_Model rfl (by decide) rfl wm_Model_224 d_Model_firstImage_4 rfl ⟨by decide, by decide⟩ (Nat.le_of_ble_eq_true rfl) rfl (fun r4 μ_4 _ => ?_)
  refine r_if_ne (tgt := 12) hg d_Model_firstImage_7 (by decide) ?_ ?_
  · refine r_iconst (v := 0) hg d_Model_firstImage_12 (by decide) ?_
    refine r_istore (l' := [(4, .int 0), (0, .ref 125), (1, .int v1), (2, .int v2), (3, .int v3)]) hg d_Model_firstImage_13 (Nat.le_of_ble_eq_true rfl) rfl ?_
    refine r_sub [1, 2, 3, 4, 0] rfl ?_
    exact t_Model_firstImage_L15 hg hA h_fuel v1 v2 v3 0 μ_4
  · refine r_iconst (v := -1) hg d_Model_firstImage_10 (by decide) ?_
    exact r_iret hg hA rfl d_Model_firstImage_11 rfl
theorem t_Model_firstImage (v1 : Int32) (v2 : Int32) (v3 : Int32) (μ : HMem) : HSpec y_Model_firstImage b_Model_firstImage 5 (some .int) 7 h_eI [.ref 125, .int v1, .int v2, .int v3] μ (f_Model_firstImage v1 v2 v3 μ) :=
  HSpec.of (by decide +kernel) (v_Model_firstImage.1 _ (by simp)) (Nat.le_of_ble_eq_true rfl) (fun cx hA hg => t_Model_firstImage_0 hg hA v1 v2 v3 μ)
theorem t_Model_valueOf_J78 {cx : HCx} (hg : HGood cx R_Model b_Model_valueOf 7 3 (some .long)) (hA : h_own cx)  (rec_ : Int32 → Int32 → Int64 → Int32 → Int32 → HMem → Option (Int64 × HMem)) (hrec_ : p_Model_valueOf_34 cx rec_) (v1 : Int32) (v2 : Int32) (v5 : Int32) (v6 : Int32) (s0 : Int64) (s1 : Int64) (μ : HMem) : HX cx (HQ cx h_eJ) (f_Model_valueOf_J78  rec_ v1 v2 v5 v6 s0 s1 μ) 0 0 78 [(0, .ref 125), (1, .int v1), (2, .int v2), (5, .int v5), (6, .int v6)] [.long s0, .long s1] μ := by
  unfold f_Model_valueOf_J78
  refine r_lmul hg d_Model_valueOf_78 ?_
  refine r_letJ (fun v3_79 => ?_)
  refine r_lstore_n (l' := [(3, .long v3_79), (0, .ref 125), (1, .int v1), (2, .int v2), (5, .int v5), (6, .int v6)]) hg d_Model_valueOf_79 rfl (Nat.le_of_ble_eq_true rfl) rfl ?_
  refine r_letE (fun v6_80 he_80 => ?_)
  refine r_iinc (v := v6_80) (l' := [(6, .int v6_80), (3, .long v3_79), (0, .ref 125), (1, .int v1), (2, .int v2), (5, .int v5)]) hg 5 d_Model_valueOf_80 rfl he_80 (Nat.le_of_ble_eq_true rfl) rfl ?_
  refine r_goto (tgt := 34) hg d_Model_valueOf_83 (by decide) ?_
  refine r_sub [2, 3, 4, 1, 5, 0] rfl ?_
  exact hrec_ v1 v2 v3_79 v5 v6_80 μ
theorem t_Model_valueOf_L34_b {cx : HCx} (hg : HGood cx R_Model b_Model_valueOf 7 3 (some .long)) (hA : h_own cx) (K86 : Int32 → Int32 → Int64 → Int32 → HMem → Option (Int64 × HMem)) (hK86 : p_Model_valueOf_86 cx K86) (rec_ : Int32 → Int32 → Int64 → Int32 → Int32 → HMem → Option (Int64 × HMem)) (hrec_ : p_Model_valueOf_34 cx rec_) (v1 : Int32) (v2 : Int32) (v3 : Int64) (v5 : Int32) (v6 : Int32) (μ : HMem) : HX cx (HQ cx h_eJ) (f_Model_valueOf_L34_b K86 rec_ v1 v2 v3 v5 v6 μ) 0 0 34 [(0, .ref 125), (1, .int v1), (2, .int v2), (3, .long v3), (5, .int v5), (6, .int v6)] [] μ := by
  unfold f_Model_valueOf_L34_b
  refine r_iload hg 5 d_Model_valueOf_34 rfl ?_
  refine r_iload hg 4 d_Model_valueOf_36 rfl ?_
  refine r_icmp_gt (tgt := 86) hg d_Model_valueOf_38 (by decide) ?_ ?_
  · refine r_sub [0, 1, 2, 3, 4] rfl ?_
    exact hK86 v1 v2 v3 v5 μ
  · refine r_lload_n hg 3 d_Model_valueOf_41 rfl rfl ?_
    refine r_aload_n hg 0 d_Model_valueOf_42 rfl rfl ?_
    refine r_iload_n hg 1 d_Model_valueOf_43 rfl rfl ?_
    refine r_iload hg 4 d_Model_valueOf_44 rfl ?_
    refine r_iload hg 5 d_Model_valueOf_46 rfl ?_
    refine r_callV (As := [.int v1, .int v5, .int v6]) hg (t_Model_isNear v1 v5 v6 μ) v_Model_isNear c_Model rfl (by decide) rfl wm_Model_148 d_Model_valueOf_48 rfl ⟨by decide, by decide⟩ (Nat.le_of_ble_eq_true rfl) rfl (fun r48 μ_48 _ => ?_)
    refine r_if_eq (tgt := 77) hg d_Model_valueOf_51 (by decide) ?_ ?_
    · refine r_lconst (v := 1) hg d_Model_valueOf_77 (by decide) ?_
      refine r_sub [0, 1, 2, 4, 5] rfl ?_
      exact t_Model_valueOf_J78 hg hA rec_ hrec_ v1 v2 v5 v6 1 v3 μ_48
    · refine r_aload_n hg 0 d_Model_valueOf_54 rfl rfl ?_
      refine r_iload_n hg 2 d_Model_valueOf_55 rfl rfl ?_
      refine r_aload_n hg 0 d_Model_valueOf_56 rfl rfl ?_
      refine r_get (v := .ref 133) hg c_Model (by decide) rfl (Nat.le_of_ble_eq_true rfl) rfl wf_Model_31 d_Model_valueOf_57 rfl ?_
      refine r_iload hg 4 d_Model_valueOf_60 rfl ?_
      refine r_iald hg (by decide) rfl d_Model_valueOf_62 ?_
      refine r_aload_n hg 0 d_Model_valueOf_63 rfl rfl ?_
      refine r_get (v := .ref 133) hg c_Model (by decide) rfl (Nat.le_of_ble_eq_true rfl) rfl wf_Model_31 d_Model_valueOf_64 rfl ?_
      refine r_iload hg 5 d_Model_valueOf_67 rfl ?_
      refine r_iald hg (by decide) rfl d_Model_valueOf_69 ?_
      refine r_callV (As := [.int v2, .int (μ_48.1 133 (Int32.toNatClampNeg (v5))), .int (μ_48.1 133 (Int32.toNatClampNeg (v6)))]) hg (t_Model_between v2 (μ_48.1 133 (Int32.toNatClampNeg (v5))) (μ_48.1 133 (Int32.toNatClampNeg (v6))) μ_48) v_Model_between c_Model rfl (by decide) rfl wm_Model_79 d_Model_valueOf_70 rfl ⟨by decide, by decide⟩ (Nat.le_of_ble_eq_true rfl) rfl (fun r70 μ_70 _ => ?_)
      refine r_i2l hg d_Model_valueOf_73 ?_
      refine r_goto (tgt := 78) hg d_Model_valueOf_74 (by decide) ?_
      refine r_sub [0, 1, 2, 4, 5] rfl ?_
      exact t_Model_valueOf_J78 hg hA rec_ hrec_ v1 v2 v5 v6 (Int32.toInt64 r70) v3 μ_70
theorem t_Model_valueOf_L34 {cx : HCx} (hg : HGood cx R_Model b_Model_valueOf 7 3 (some .long)) (hA : h_own cx) (K86 : Int32 → Int32 → Int64 → Int32 → HMem → Option (Int64 × HMem)) (hK86 : p_Model_valueOf_86 cx K86) : ∀ (fuel : Nat) (v1 : Int32) (v2 : Int32) (v3 : Int64) (v5 : Int32) (v6 : Int32) (μ : HMem), HX cx (HQ cx h_eJ) (f_Model_valueOf_L34 K86 fuel v1 v2 v3 v5 v6 μ) 0 0 34 [(0, .ref 125), (1, .int v1), (2, .int v2), (3, .long v3), (5, .int v5), (6, .int v6)] [] μ
  | 0, _, _, _, _, _, _ => by unfold f_Model_valueOf_L34; exact HX.none
  | fuel + 1, v1, v2, v3, v5, v6, μ => by
    rw [f_Model_valueOf_L34]
    exact t_Model_valueOf_L34_b hg hA  K86 hK86 (f_Model_valueOf_L34 K86 fuel) (t_Model_valueOf_L34 hg hA  K86 hK86 fuel) v1 v2 v3 v5 v6 μ
theorem t_Model_valueOf_J86 {cx : HCx} (hg : HGood cx R_Model b_Model_valueOf 7 3 (some .long)) (hA : h_own cx)  (rec_ : Int32 → Int32 → Int64 → Int32 → HMem → Option (Int64 × HMem)) (hrec_ : p_Model_valueOf_5 cx rec_) (v1 : Int32) (v2 : Int32) (v3 : Int64) (v5 : Int32) (μ : HMem) : HX cx (HQ cx h_eJ) (f_Model_valueOf_J86  rec_ v1 v2 v3 v5 μ) 0 0 86 [(0, .ref 125), (1, .int v1), (2, .int v2), (3, .long v3), (5, .int v5)] [] μ := by
  unfold f_Model_valueOf_J86
  refine r_letE (fun v5_86 he_86 => ?_)
  refine r_iinc (v := v5_86) (l' := [(5, .int v5_86), (0, .ref 125), (1, .int v1), (2, .int v2), (3, .long v3)]) hg 4 d_Model_valueOf_86 rfl he_86 (Nat.le_of_ble_eq_true rfl) rfl ?_
  refine r_goto (tgt := 5) hg d_Model_valueOf_89 (by decide) ?_
  refine r_sub [1, 2, 3, 4, 0] rfl ?_
  exact hrec_ v1 v2 v3 v5_86 μ
theorem t_Model_valueOf_L5_b {cx : HCx} (hg : HGood cx R_Model b_Model_valueOf 7 3 (some .long)) (hA : h_own cx)  (rec_ : Int32 → Int32 → Int64 → Int32 → HMem → Option (Int64 × HMem)) (hrec_ : p_Model_valueOf_5 cx rec_) (v1 : Int32) (v2 : Int32) (v3 : Int64) (v5 : Int32) (μ : HMem) : HX cx (HQ cx h_eJ) (f_Model_valueOf_L5_b  rec_ v1 v2 v3 v5 μ) 0 0 5 [(0, .ref 125), (1, .int v1), (2, .int v2), (3, .long v3), (5, .int v5)] [] μ := by
  unfold f_Model_valueOf_L5_b
  refine r_iload hg 4 d_Model_valueOf_5 rfl ?_
  refine r_aload_n hg 0 d_Model_valueOf_7 rfl rfl ?_
  refine r_iload_n hg 1 d_Model_valueOf_8 rfl rfl ?_
  refine r_callV (As := [.int v1]) hg (t_Model_size v1 μ) v_Model_size c_Model rfl (by decide) rfl wm_Model_75 d_Model_valueOf_9 rfl ⟨by decide, by decide⟩ (Nat.le_of_ble_eq_true rfl) rfl (fun r9 μ_9 _ => ?_)
  refine r_icmp_ge (tgt := 92) hg d_Model_valueOf_12 (by decide) ?_ ?_
  · refine r_lload_n hg 3 d_Model_valueOf_92 rfl rfl ?_
    exact r_lret hg hA rfl d_Model_valueOf_93 rfl
  · refine r_lload_n hg 3 d_Model_valueOf_15 rfl rfl ?_
    refine r_aload_n hg 0 d_Model_valueOf_16 rfl rfl ?_
    refine r_iload_n hg 2 d_Model_valueOf_17 rfl rfl ?_
    refine r_aload_n hg 0 d_Model_valueOf_18 rfl rfl ?_
    refine r_get (v := .ref 133) hg c_Model (by decide) rfl (Nat.le_of_ble_eq_true rfl) rfl wf_Model_31 d_Model_valueOf_19 rfl ?_
    refine r_iload hg 4 d_Model_valueOf_22 rfl ?_
    refine r_iald hg (by decide) rfl d_Model_valueOf_24 ?_
    refine r_callV (As := [.int v2, .int (μ_9.1 133 (Int32.toNatClampNeg (v5)))]) hg (t_Model_weight v2 (μ_9.1 133 (Int32.toNatClampNeg (v5))) μ_9) v_Model_weight c_Model rfl (by decide) rfl wm_Model_107 d_Model_valueOf_25 rfl ⟨by decide, by decide⟩ (Nat.le_of_ble_eq_true rfl) rfl (fun r25 μ_25 _ => ?_)
    refine r_i2l hg d_Model_valueOf_28 ?_
    refine r_lmul hg d_Model_valueOf_29 ?_
    refine r_letJ (fun v3_30 => ?_)
    refine r_lstore_n (l' := [(3, .long v3_30), (0, .ref 125), (1, .int v1), (2, .int v2), (5, .int v5)]) hg d_Model_valueOf_30 rfl (Nat.le_of_ble_eq_true rfl) rfl ?_
    refine r_iconst (v := 0) hg d_Model_valueOf_31 (by decide) ?_
    refine r_istore (l' := [(6, .int 0), (3, .long v3_30), (0, .ref 125), (1, .int v1), (2, .int v2), (5, .int v5)]) hg d_Model_valueOf_32 (Nat.le_of_ble_eq_true rfl) rfl ?_
    refine r_sub [2, 3, 4, 1, 5, 0] rfl ?_
    exact t_Model_valueOf_L34 hg hA (f_Model_valueOf_J86 rec_) (t_Model_valueOf_J86 hg hA rec_ hrec_) h_fuel v1 v2 v3_30 v5 0 μ_25
theorem t_Model_valueOf_L5 {cx : HCx} (hg : HGood cx R_Model b_Model_valueOf 7 3 (some .long)) (hA : h_own cx)  : ∀ (fuel : Nat) (v1 : Int32) (v2 : Int32) (v3 : Int64) (v5 : Int32) (μ : HMem), HX cx (HQ cx h_eJ) (f_Model_valueOf_L5  fuel v1 v2 v3 v5 μ) 0 0 5 [(0, .ref 125), (1, .int v1), (2, .int v2), (3, .long v3), (5, .int v5)] [] μ
  | 0, _, _, _, _, _ => by unfold f_Model_valueOf_L5; exact HX.none
  | fuel + 1, v1, v2, v3, v5, μ => by
    rw [f_Model_valueOf_L5]
    exact t_Model_valueOf_L5_b hg hA   (f_Model_valueOf_L5  fuel) (t_Model_valueOf_L5 hg hA   fuel) v1 v2 v3 v5 μ
theorem t_Model_valueOf_0 {cx : HCx} (hg : HGood cx R_Model b_Model_valueOf 7 3 (some .long)) (hA : h_own cx) (v1 : Int32) (v2 : Int32) (μ : HMem) : HX cx (HQ cx h_eJ) (f_Model_valueOf v1 v2 μ) 0 0 0 [(0, .ref 125), (1, .int v1), (2, .int v2)] [] μ := by
  unfold f_Model_valueOf
  refine r_lconst (v := 1) hg d_Model_valueOf_0 (by decide) ?_
  refine r_lstore_n (l' := [(3, .long 1), (0, .ref 125), (1, .int v1), (2, .int v2)]) hg d_Model_valueOf_1 rfl (Nat.le_of_ble_eq_true rfl) rfl ?_
  refine r_iconst (v := 0) hg d_Model_valueOf_2 (by decide) ?_
  refine r_istore (l' := [(5, .int 0), (3, .long 1), (0, .ref 125), (1, .int v1), (2, .int v2)]) hg d_Model_valueOf_3 (Nat.le_of_ble_eq_true rfl) rfl ?_
  refine r_sub [2, 3, 4, 1, 0] rfl ?_
  exact t_Model_valueOf_L5 hg hA h_fuel v1 v2 1 0 μ
theorem t_Model_valueOf (v1 : Int32) (v2 : Int32) (μ : HMem) : HSpec y_Model_valueOf b_Model_valueOf 7 (some .long) 3 h_eJ [.ref 125, .int v1, .int v2] μ (f_Model_valueOf v1 v2 μ) :=
  HSpec.of (by decide +kernel) (v_Model_valueOf.1 _ (by simp)) (Nat.le_of_ble_eq_true rfl) (fun cx hA hg => t_Model_valueOf_0 hg hA v1 v2 μ)
theorem t_Model_images_L4_b {cx : HCx} (hg : HGood cx R_Model b_Model_images 4 2 (some .int)) (hA : h_own cx)  (rec_ : Int32 → Int32 → Int32 → HMem → Option (Int32 × HMem)) (hrec_ : p_Model_images_4 cx rec_) (v1 : Int32) (v2 : Int32) (v3 : Int32) (μ : HMem) : HX cx (HQ cx h_eI) (f_Model_images_L4_b  rec_ v1 v2 v3 μ) 0 0 4 [(0, .ref 125), (1, .int v1), (2, .int v2), (3, .int v3)] [] μ := by
  unfold f_Model_images_L4_b
  refine r_iload_n hg 3 d_Model_images_4 rfl rfl ?_
  refine r_aload_n hg 0 d_Model_images_5 rfl rfl ?_
  refine r_iload_n hg 1 d_Model_images_6 rfl rfl ?_
  refine r_callV (As := [.int v1]) hg (t_Model_size v1 μ) v_Model_size c_Model rfl (by decide) rfl wm_Model_75 d_Model_images_7 rfl ⟨by decide, by decide⟩ (Nat.le_of_ble_eq_true rfl) rfl (fun r7 μ_7 _ => ?_)
  refine r_icmp_ge (tgt := 30) hg d_Model_images_10 (by decide) ?_ ?_
  · refine r_iload_n hg 2 d_Model_images_30 rfl rfl ?_
    exact r_iret hg hA rfl d_Model_images_31 rfl
  · refine r_iload_n hg 2 d_Model_images_13 rfl rfl ?_
    refine r_iconst (v := 1) hg d_Model_images_14 (by decide) ?_
    refine r_aload_n hg 0 d_Model_images_15 rfl rfl ?_
    refine r_get (v := .ref 133) hg c_Model (by decide) rfl (Nat.le_of_ble_eq_true rfl) rfl wf_Model_31 d_Model_images_16 rfl ?_
    refine r_iload_n hg 3 d_Model_images_19 rfl rfl ?_
    refine r_iald hg (by decide) rfl d_Model_images_20 ?_
    refine r_ishl hg d_Model_images_21 ?_
    refine r_ior hg d_Model_images_22 ?_
    refine r_letI (fun v2_23 => ?_)
    refine r_istore_n (l' := [(2, .int v2_23), (0, .ref 125), (1, .int v1), (3, .int v3)]) hg d_Model_images_23 rfl (Nat.le_of_ble_eq_true rfl) rfl ?_
    refine r_letE (fun v3_24 he_24 => ?_)
    refine r_iinc (v := v3_24) (l' := [(3, .int v3_24), (2, .int v2_23), (0, .ref 125), (1, .int v1)]) hg 3 d_Model_images_24 rfl he_24 (Nat.le_of_ble_eq_true rfl) rfl ?_
    refine r_goto (tgt := 4) hg d_Model_images_27 (by decide) ?_
    refine r_sub [2, 3, 1, 0] rfl ?_
    exact hrec_ v1 v2_23 v3_24 μ_7
theorem t_Model_images_L4 {cx : HCx} (hg : HGood cx R_Model b_Model_images 4 2 (some .int)) (hA : h_own cx)  : ∀ (fuel : Nat) (v1 : Int32) (v2 : Int32) (v3 : Int32) (μ : HMem), HX cx (HQ cx h_eI) (f_Model_images_L4  fuel v1 v2 v3 μ) 0 0 4 [(0, .ref 125), (1, .int v1), (2, .int v2), (3, .int v3)] [] μ
  | 0, _, _, _, _ => by unfold f_Model_images_L4; exact HX.none
  | fuel + 1, v1, v2, v3, μ => by
    rw [f_Model_images_L4]
    exact t_Model_images_L4_b hg hA   (f_Model_images_L4  fuel) (t_Model_images_L4 hg hA   fuel) v1 v2 v3 μ
theorem t_Model_images_0 {cx : HCx} (hg : HGood cx R_Model b_Model_images 4 2 (some .int)) (hA : h_own cx) (v1 : Int32) (μ : HMem) : HX cx (HQ cx h_eI) (f_Model_images v1 μ) 0 0 0 [(0, .ref 125), (1, .int v1)] [] μ := by
  unfold f_Model_images
  refine r_iconst (v := 0) hg d_Model_images_0 (by decide) ?_
  refine r_istore_n (l' := [(2, .int 0), (0, .ref 125), (1, .int v1)]) hg d_Model_images_1 rfl (Nat.le_of_ble_eq_true rfl) rfl ?_
  refine r_iconst (v := 0) hg d_Model_images_2 (by decide) ?_
  refine r_istore_n (l' := [(3, .int 0), (2, .int 0), (0, .ref 125), (1, .int v1)]) hg d_Model_images_3 rfl (Nat.le_of_ble_eq_true rfl) rfl ?_
  refine r_sub [2, 3, 1, 0] rfl ?_
  exact t_Model_images_L4 hg hA h_fuel v1 0 0 μ
theorem t_Model_images (v1 : Int32) (μ : HMem) : HSpec y_Model_images b_Model_images 4 (some .int) 2 h_eI [.ref 125, .int v1] μ (f_Model_images v1 μ) :=
  HSpec.of (by decide +kernel) (v_Model_images.1 _ (by simp)) (Nat.le_of_ble_eq_true rfl) (fun cx hA hg => t_Model_images_0 hg hA v1 μ)
theorem t_Model_keepsEdges_L2_b {cx : HCx} (hg : HGood cx R_Model b_Model_keepsEdges 7 3 (some .boolean)) (hA : h_own cx) (K21 : Int32 → HMem → Option (Int32 × HMem)) (hK21 : p_Model_keepsEdges_21 cx K21) (rec_ : Int32 → Int32 → HMem → Option (Int32 × HMem)) (hrec_ : p_Model_keepsEdges_2 cx rec_) (v1 : Int32) (v2 : Int32) (μ : HMem) : HX cx (HQ cx h_eI) (f_Model_keepsEdges_L2_b K21 rec_ v1 v2 μ) 0 0 2 [(0, .ref 125), (1, .int v1), (2, .int v2)] [] μ := by
  unfold f_Model_keepsEdges_L2_b
  refine r_iload_n hg 2 d_Model_keepsEdges_2 rfl rfl ?_
  refine r_bipush (v := 64) hg d_Model_keepsEdges_3 (by decide) ?_
  refine r_icmp_ge (tgt := 21) hg d_Model_keepsEdges_5 (by decide) ?_ ?_
  · refine r_sub [0, 1] rfl ?_
    exact hK21 v1 μ
  · refine r_aload_n hg 0 d_Model_keepsEdges_8 rfl rfl ?_
    refine r_get (v := .ref 137) hg c_Model (by decide) rfl (Nat.le_of_ble_eq_true rfl) rfl wf_Model_43 d_Model_keepsEdges_9 rfl ?_
    refine r_iload_n hg 2 d_Model_keepsEdges_12 rfl rfl ?_
    refine r_iconst (v := 0) hg d_Model_keepsEdges_13 (by decide) ?_
    refine r_zast hg (by decide) rfl d_Model_keepsEdges_14 ?_
    refine r_letM (fun μ_14 => ?_)
    refine r_letE (fun v2_15 he_15 => ?_)
    refine r_iinc (v := v2_15) (l' := [(2, .int v2_15), (0, .ref 125), (1, .int v1)]) hg 2 d_Model_keepsEdges_15 rfl he_15 (Nat.le_of_ble_eq_true rfl) rfl ?_
    refine r_goto (tgt := 2) hg d_Model_keepsEdges_18 (by decide) ?_
    refine r_sub [1, 2, 0] rfl ?_
    exact hrec_ v1 v2_15 μ_14
theorem t_Model_keepsEdges_L2 {cx : HCx} (hg : HGood cx R_Model b_Model_keepsEdges 7 3 (some .boolean)) (hA : h_own cx) (K21 : Int32 → HMem → Option (Int32 × HMem)) (hK21 : p_Model_keepsEdges_21 cx K21) : ∀ (fuel : Nat) (v1 : Int32) (v2 : Int32) (μ : HMem), HX cx (HQ cx h_eI) (f_Model_keepsEdges_L2 K21 fuel v1 v2 μ) 0 0 2 [(0, .ref 125), (1, .int v1), (2, .int v2)] [] μ
  | 0, _, _, _ => by unfold f_Model_keepsEdges_L2; exact HX.none
  | fuel + 1, v1, v2, μ => by
    rw [f_Model_keepsEdges_L2]
    exact t_Model_keepsEdges_L2_b hg hA  K21 hK21 (f_Model_keepsEdges_L2 K21 fuel) (t_Model_keepsEdges_L2 hg hA  K21 hK21 fuel) v1 v2 μ
theorem t_Model_keepsEdges_J141 {cx : HCx} (hg : HGood cx R_Model b_Model_keepsEdges 7 3 (some .boolean)) (hA : h_own cx)  (rec_ : Int32 → Int32 → Int32 → Int32 → HMem → Option (Int32 × HMem)) (hrec_ : p_Model_keepsEdges_37 cx rec_) (v1 : Int32) (v2 : Int32) (v3 : Int32) (v4 : Int32) (μ : HMem) : HX cx (HQ cx h_eI) (f_Model_keepsEdges_J141  rec_ v1 v2 v3 v4 μ) 0 0 141 [(0, .ref 125), (1, .int v1), (2, .int v2), (3, .int v3), (4, .int v4)] [] μ := by
  unfold f_Model_keepsEdges_J141
  refine r_letE (fun v4_141 he_141 => ?_)
  refine r_iinc (v := v4_141) (l' := [(4, .int v4_141), (0, .ref 125), (1, .int v1), (2, .int v2), (3, .int v3)]) hg 4 d_Model_keepsEdges_141 rfl he_141 (Nat.le_of_ble_eq_true rfl) rfl ?_
  refine r_goto (tgt := 37) hg d_Model_keepsEdges_144 (by decide) ?_
  refine r_sub [1, 2, 3, 4, 0] rfl ?_
  exact hrec_ v1 v2 v3 v4_141 μ
theorem t_Model_keepsEdges_J132 {cx : HCx} (hg : HGood cx R_Model b_Model_keepsEdges 7 3 (some .boolean)) (hA : h_own cx)  (rec_ : Int32 → Int32 → Int32 → Int32 → HMem → Option (Int32 × HMem)) (hrec_ : p_Model_keepsEdges_37 cx rec_) (v1 : Int32) (v3 : Int32) (v4 : Int32) (v6 : Int32) (s0 : Int32) (μ : HMem) : HX cx (HQ cx h_eI) (f_Model_keepsEdges_J132  rec_ v1 v3 v4 v6 s0 μ) 0 0 132 [(0, .ref 125), (1, .int v1), (3, .int v3), (4, .int v4), (6, .int v6)] [.int s0] μ := by
  unfold f_Model_keepsEdges_J132
  refine r_istore_n (l' := [(2, .int s0), (0, .ref 125), (1, .int v1), (3, .int v3), (4, .int v4), (6, .int v6)]) hg d_Model_keepsEdges_132 rfl (Nat.le_of_ble_eq_true rfl) rfl ?_
  refine r_aload_n hg 1 d_Model_keepsEdges_133 rfl rfl ?_
  refine r_get (v := .ref 137) hg c_Model (by decide) rfl (Nat.le_of_ble_eq_true rfl) rfl wf_Model_43 d_Model_keepsEdges_134 rfl ?_
  refine r_iload hg 5 d_Model_keepsEdges_137 rfl ?_
  refine r_iconst (v := 1) hg d_Model_keepsEdges_139 (by decide) ?_
  refine r_zast hg (by decide) rfl d_Model_keepsEdges_140 ?_
  refine r_letM (fun μ_140 => ?_)
  refine r_sub [1, 2, 0, 3, 4] rfl ?_
  exact t_Model_keepsEdges_J141 hg hA rec_ hrec_ v1 s0 v3 v4 μ_140
theorem t_Model_keepsEdges_J131 {cx : HCx} (hg : HGood cx R_Model b_Model_keepsEdges 7 3 (some .boolean)) (hA : h_own cx)  (rec_ : Int32 → Int32 → Int32 → Int32 → HMem → Option (Int32 × HMem)) (hrec_ : p_Model_keepsEdges_37 cx rec_) (v1 : Int32) (v3 : Int32) (v4 : Int32) (v6 : Int32) (μ : HMem) : HX cx (HQ cx h_eI) (f_Model_keepsEdges_J131  rec_ v1 v3 v4 v6 μ) 0 0 131 [(0, .ref 125), (1, .int v1), (3, .int v3), (4, .int v4), (6, .int v6)] [] μ := by
  unfold f_Model_keepsEdges_J131
  refine r_iconst (v := 0) hg d_Model_keepsEdges_131 (by decide) ?_
  exact t_Model_keepsEdges_J132 hg hA rec_ hrec_ v1 v3 v4 v6 0 μ
theorem t_Model_keepsEdges_J86 {cx : HCx} (hg : HGood cx R_Model b_Model_keepsEdges 7 3 (some .boolean)) (hA : h_own cx)  (rec_ : Int32 → Int32 → Int32 → Int32 → HMem → Option (Int32 × HMem)) (hrec_ : p_Model_keepsEdges_37 cx rec_) (v1 : Int32) (v2 : Int32) (v3 : Int32) (v4 : Int32) (s0 : Int32) (μ : HMem) : HX cx (HQ cx h_eI) (f_Model_keepsEdges_J86  rec_ v1 v2 v3 v4 s0 μ) 0 0 86 [(0, .ref 125), (1, .int v1), (2, .int v2), (3, .int v3), (4, .int v4)] [.int s0] μ := by
  unfold f_Model_keepsEdges_J86
  refine r_istore (l' := [(5, .int s0), (0, .ref 125), (1, .int v1), (2, .int v2), (3, .int v3), (4, .int v4)]) hg d_Model_keepsEdges_86 (Nat.le_of_ble_eq_true rfl) rfl ?_
  refine r_bipush (v := 8) hg d_Model_keepsEdges_88 (by decide) ?_
  refine r_iload hg 0 d_Model_keepsEdges_90 rfl ?_
  refine r_imul hg d_Model_keepsEdges_92 ?_
  refine r_aload_n hg 1 d_Model_keepsEdges_93 rfl rfl ?_
  refine r_get (v := .ref 133) hg c_Model (by decide) rfl (Nat.le_of_ble_eq_true rfl) rfl wf_Model_31 d_Model_keepsEdges_94 rfl ?_
  refine r_iload_n hg 4 d_Model_keepsEdges_97 rfl rfl ?_
  refine r_iald hg (by decide) rfl d_Model_keepsEdges_98 ?_
  refine r_iadd hg d_Model_keepsEdges_99 ?_
  refine r_aload_n hg 1 d_Model_keepsEdges_100 rfl rfl ?_
  refine r_get (v := .ref 133) hg c_Model (by decide) rfl (Nat.le_of_ble_eq_true rfl) rfl wf_Model_31 d_Model_keepsEdges_101 rfl ?_
  refine r_iload hg 5 d_Model_keepsEdges_104 rfl ?_
  refine r_iald hg (by decide) rfl d_Model_keepsEdges_106 ?_
  refine r_iadd hg d_Model_keepsEdges_107 ?_
  refine r_iload hg 0 d_Model_keepsEdges_108 rfl ?_
  refine r_isub hg d_Model_keepsEdges_110 ?_
  refine r_letI (fun v6_111 => ?_)
  refine r_istore (l' := [(6, .int v6_111), (5, .int s0), (0, .ref 125), (1, .int v1), (2, .int v2), (3, .int v3), (4, .int v4)]) hg d_Model_keepsEdges_111 (Nat.le_of_ble_eq_true rfl) rfl ?_
  refine r_iload_n hg 4 d_Model_keepsEdges_113 rfl rfl ?_
  refine r_if_eq (tgt := 131) hg d_Model_keepsEdges_114 (by decide) ?_ ?_
  · refine r_sub [2, 3, 5, 6, 0] rfl ?_
    exact t_Model_keepsEdges_J131 hg hA rec_ hrec_ v1 v3 v4 v6_111 μ
  · refine r_aload_n hg 2 d_Model_keepsEdges_117 rfl rfl ?_
    refine r_get (v := .ref 137) hg c_Model (by decide) rfl (Nat.le_of_ble_eq_true rfl) rfl wf_Model_43 d_Model_keepsEdges_118 rfl ?_
    refine r_iload hg 0 d_Model_keepsEdges_121 rfl ?_
    refine r_zald hg (by decide) rfl d_Model_keepsEdges_123 ?_
    refine r_if_ne (tgt := 131) hg d_Model_keepsEdges_124 (by decide) ?_ ?_
    · refine r_sub [2, 3, 5, 6, 0] rfl ?_
      exact t_Model_keepsEdges_J131 hg hA rec_ hrec_ v1 v3 v4 v6_111 μ
    · refine r_iconst (v := 1) hg d_Model_keepsEdges_127 (by decide) ?_
      refine r_goto (tgt := 132) hg d_Model_keepsEdges_128 (by decide) ?_
      refine r_sub [2, 3, 5, 6, 0] rfl ?_
      exact t_Model_keepsEdges_J132 hg hA rec_ hrec_ v1 v3 v4 v6_111 1 μ
theorem t_Model_keepsEdges_L37_b {cx : HCx} (hg : HGood cx R_Model b_Model_keepsEdges 7 3 (some .boolean)) (hA : h_own cx) (K147 : Int32 → Int32 → Int32 → HMem → Option (Int32 × HMem)) (hK147 : p_Model_keepsEdges_147 cx K147) (rec_ : Int32 → Int32 → Int32 → Int32 → HMem → Option (Int32 × HMem)) (hrec_ : p_Model_keepsEdges_37 cx rec_) (v1 : Int32) (v2 : Int32) (v3 : Int32) (v4 : Int32) (μ : HMem) : HX cx (HQ cx h_eI) (f_Model_keepsEdges_L37_b K147 rec_ v1 v2 v3 v4 μ) 0 0 37 [(0, .ref 125), (1, .int v1), (2, .int v2), (3, .int v3), (4, .int v4)] [] μ := by
  unfold f_Model_keepsEdges_L37_b
  refine r_iload hg 4 d_Model_keepsEdges_37 rfl ?_
  refine r_iload_n hg 3 d_Model_keepsEdges_39 rfl rfl ?_
  refine r_icmp_ge (tgt := 147) hg d_Model_keepsEdges_40 (by decide) ?_ ?_
  · refine r_sub [0, 1, 2, 3] rfl ?_
    exact hK147 v1 v2 v3 μ
  · refine r_aload_n hg 0 d_Model_keepsEdges_43 rfl rfl ?_
    refine r_iload_n hg 1 d_Model_keepsEdges_44 rfl rfl ?_
    refine r_iload_n hg 3 d_Model_keepsEdges_45 rfl rfl ?_
    refine r_iload hg 4 d_Model_keepsEdges_46 rfl ?_
    refine r_callV (As := [.int v1, .int v3, .int v4]) hg (t_Model_isNear v1 v3 v4 μ) v_Model_isNear c_Model rfl (by decide) rfl wm_Model_148 d_Model_keepsEdges_48 rfl ⟨by decide, by decide⟩ (Nat.le_of_ble_eq_true rfl) rfl (fun r48 μ_48 _ => ?_)
    refine r_if_eq (tgt := 141) hg d_Model_keepsEdges_51 (by decide) ?_ ?_
    · exact t_Model_keepsEdges_J141 hg hA rec_ hrec_ v1 v2 v3 v4 μ_48
    · refine r_aload_n hg 0 d_Model_keepsEdges_54 rfl rfl ?_
      refine r_get (v := .ref 133) hg c_Model (by decide) rfl (Nat.le_of_ble_eq_true rfl) rfl wf_Model_31 d_Model_keepsEdges_55 rfl ?_
      refine r_iload_n hg 3 d_Model_keepsEdges_58 rfl rfl ?_
      refine r_iald hg (by decide) rfl d_Model_keepsEdges_59 ?_
      refine r_aload_n hg 0 d_Model_keepsEdges_60 rfl rfl ?_
      refine r_get (v := .ref 133) hg c_Model (by decide) rfl (Nat.le_of_ble_eq_true rfl) rfl wf_Model_31 d_Model_keepsEdges_61 rfl ?_
      refine r_iload hg 4 d_Model_keepsEdges_64 rfl ?_
      refine r_iald hg (by decide) rfl d_Model_keepsEdges_66 ?_
      refine r_icmp_ge (tgt := 79) hg d_Model_keepsEdges_67 (by decide) ?_ ?_
      · refine r_aload_n hg 0 d_Model_keepsEdges_79 rfl rfl ?_
        refine r_get (v := .ref 133) hg c_Model (by decide) rfl (Nat.le_of_ble_eq_true rfl) rfl wf_Model_31 d_Model_keepsEdges_80 rfl ?_
        refine r_iload hg 4 d_Model_keepsEdges_83 rfl ?_
        refine r_iald hg (by decide) rfl d_Model_keepsEdges_85 ?_
        exact t_Model_keepsEdges_J86 hg hA rec_ hrec_ v1 v2 v3 v4 (μ_48.1 133 (Int32.toNatClampNeg (v4))) μ_48
      · refine r_aload_n hg 0 d_Model_keepsEdges_70 rfl rfl ?_
        refine r_get (v := .ref 133) hg c_Model (by decide) rfl (Nat.le_of_ble_eq_true rfl) rfl wf_Model_31 d_Model_keepsEdges_71 rfl ?_
        refine r_iload_n hg 3 d_Model_keepsEdges_74 rfl rfl ?_
        refine r_iald hg (by decide) rfl d_Model_keepsEdges_75 ?_
        refine r_goto (tgt := 86) hg d_Model_keepsEdges_76 (by decide) ?_
        exact t_Model_keepsEdges_J86 hg hA rec_ hrec_ v1 v2 v3 v4 (μ_48.1 133 (Int32.toNatClampNeg (v3))) μ_48
theorem t_Model_keepsEdges_L37 {cx : HCx} (hg : HGood cx R_Model b_Model_keepsEdges 7 3 (some .boolean)) (hA : h_own cx) (K147 : Int32 → Int32 → Int32 → HMem → Option (Int32 × HMem)) (hK147 : p_Model_keepsEdges_147 cx K147) : ∀ (fuel : Nat) (v1 : Int32) (v2 : Int32) (v3 : Int32) (v4 : Int32) (μ : HMem), HX cx (HQ cx h_eI) (f_Model_keepsEdges_L37 K147 fuel v1 v2 v3 v4 μ) 0 0 37 [(0, .ref 125), (1, .int v1), (2, .int v2), (3, .int v3), (4, .int v4)] [] μ
  | 0, _, _, _, _, _ => by unfold f_Model_keepsEdges_L37; exact HX.none
  | fuel + 1, v1, v2, v3, v4, μ => by
    rw [f_Model_keepsEdges_L37]
    exact t_Model_keepsEdges_L37_b hg hA  K147 hK147 (f_Model_keepsEdges_L37 K147 fuel) (t_Model_keepsEdges_L37 hg hA  K147 hK147 fuel) v1 v2 v3 v4 μ
theorem t_Model_keepsEdges_J147 {cx : HCx} (hg : HGood cx R_Model b_Model_keepsEdges 7 3 (some .boolean)) (hA : h_own cx)  (rec_ : Int32 → Int32 → Int32 → HMem → Option (Int32 × HMem)) (hrec_ : p_Model_keepsEdges_25 cx rec_) (v1 : Int32) (v2 : Int32) (v3 : Int32) (μ : HMem) : HX cx (HQ cx h_eI) (f_Model_keepsEdges_J147  rec_ v1 v2 v3 μ) 0 0 147 [(0, .ref 125), (1, .int v1), (2, .int v2), (3, .int v3)] [] μ := by
  unfold f_Model_keepsEdges_J147
  refine r_letE (fun v3_147 he_147 => ?_)
  refine r_iinc (v := v3_147) (l' := [(3, .int v3_147), (0, .ref 125), (1, .int v1), (2, .int v2)]) hg 3 d_Model_keepsEdges_147 rfl he_147 (Nat.le_of_ble_eq_true rfl) rfl ?_
  refine r_goto (tgt := 25) hg d_Model_keepsEdges_150 (by decide) ?_
  refine r_sub [1, 2, 3, 0] rfl ?_
  exact hrec_ v1 v2 v3_147 μ
theorem t_Model_keepsEdges_L25_b {cx : HCx} (hg : HGood cx R_Model b_Model_keepsEdges 7 3 (some .boolean)) (hA : h_own cx)  (rec_ : Int32 → Int32 → Int32 → HMem → Option (Int32 × HMem)) (hrec_ : p_Model_keepsEdges_25 cx rec_) (v1 : Int32) (v2 : Int32) (v3 : Int32) (μ : HMem) : HX cx (HQ cx h_eI) (f_Model_keepsEdges_L25_b  rec_ v1 v2 v3 μ) 0 0 25 [(0, .ref 125), (1, .int v1), (2, .int v2), (3, .int v3)] [] μ := by
  unfold f_Model_keepsEdges_L25_b
  refine r_iload_n hg 3 d_Model_keepsEdges_25 rfl rfl ?_
  refine r_aload_n hg 0 d_Model_keepsEdges_26 rfl rfl ?_
  refine r_iload_n hg 1 d_Model_keepsEdges_27 rfl rfl ?_
  refine r_callV (As := [.int v1]) hg (t_Model_size v1 μ) v_Model_size c_Model rfl (by decide) rfl wm_Model_75 d_Model_keepsEdges_28 rfl ⟨by decide, by decide⟩ (Nat.le_of_ble_eq_true rfl) rfl (fun r28 μ_28 _ => ?_)
  refine r_icmp_ge (tgt := 153) hg d_Model_keepsEdges_31 (by decide) ?_ ?_
  · refine r_iload_n hg 2 d_Model_keepsEdges_153 rfl rfl ?_
    exact r_zretB hg hA rfl d_Model_keepsEdges_154 rfl
  · refine r_iconst (v := 0) hg d_Model_keepsEdges_34 (by decide) ?_
    refine r_istore (l' := [(4, .int 0), (0, .ref 125), (1, .int v1), (2, .int v2), (3, .int v3)]) hg d_Model_keepsEdges_35 (Nat.le_of_ble_eq_true rfl) rfl ?_
    refine r_sub [1, 2, 3, 4, 0] rfl ?_
    exact t_Model_keepsEdges_L37 hg hA (f_Model_keepsEdges_J147 rec_) (t_Model_keepsEdges_J147 hg hA rec_ hrec_) h_fuel v1 v2 v3 0 μ_28
theorem t_Model_keepsEdges_L25 {cx : HCx} (hg : HGood cx R_Model b_Model_keepsEdges 7 3 (some .boolean)) (hA : h_own cx)  : ∀ (fuel : Nat) (v1 : Int32) (v2 : Int32) (v3 : Int32) (μ : HMem), HX cx (HQ cx h_eI) (f_Model_keepsEdges_L25  fuel v1 v2 v3 μ) 0 0 25 [(0, .ref 125), (1, .int v1), (2, .int v2), (3, .int v3)] [] μ
  | 0, _, _, _, _ => by unfold f_Model_keepsEdges_L25; exact HX.none
  | fuel + 1, v1, v2, v3, μ => by
    rw [f_Model_keepsEdges_L25]
    exact t_Model_keepsEdges_L25_b hg hA   (f_Model_keepsEdges_L25  fuel) (t_Model_keepsEdges_L25 hg hA   fuel) v1 v2 v3 μ
theorem t_Model_keepsEdges_J21 {cx : HCx} (hg : HGood cx R_Model b_Model_keepsEdges 7 3 (some .boolean)) (hA : h_own cx)   (v1 : Int32) (μ : HMem) : HX cx (HQ cx h_eI) (f_Model_keepsEdges_J21   v1 μ) 0 0 21 [(0, .ref 125), (1, .int v1)] [] μ := by
  unfold f_Model_keepsEdges_J21
  refine r_iconst (v := 1) hg d_Model_keepsEdges_21 (by decide) ?_
  refine r_istore_n (l' := [(2, .int 1), (0, .ref 125), (1, .int v1)]) hg d_Model_keepsEdges_22 rfl (Nat.le_of_ble_eq_true rfl) rfl ?_
  refine r_iconst (v := 0) hg d_Model_keepsEdges_23 (by decide) ?_
  refine r_istore_n (l' := [(3, .int 0), (2, .int 1), (0, .ref 125), (1, .int v1)]) hg d_Model_keepsEdges_24 rfl (Nat.le_of_ble_eq_true rfl) rfl ?_
  refine r_sub [2, 3, 1, 0] rfl ?_
  exact t_Model_keepsEdges_L25 hg hA h_fuel v1 1 0 μ
theorem t_Model_keepsEdges_0 {cx : HCx} (hg : HGood cx R_Model b_Model_keepsEdges 7 3 (some .boolean)) (hA : h_own cx) (v1 : Int32) (μ : HMem) : HX cx (HQ cx h_eI) (f_Model_keepsEdges v1 μ) 0 0 0 [(0, .ref 125), (1, .int v1)] [] μ := by
  unfold f_Model_keepsEdges
  refine r_iconst (v := 0) hg d_Model_keepsEdges_0 (by decide) ?_
  refine r_istore_n (l' := [(2, .int 0), (0, .ref 125), (1, .int v1)]) hg d_Model_keepsEdges_1 rfl (Nat.le_of_ble_eq_true rfl) rfl ?_
  refine r_sub [1, 2, 0] rfl ?_
  exact t_Model_keepsEdges_L2 hg hA f_Model_keepsEdges_J21 (t_Model_keepsEdges_J21 hg hA) h_fuel v1 0 μ
theorem t_Model_keepsEdges (v1 : Int32) (μ : HMem) : HSpec y_Model_keepsEdges b_Model_keepsEdges 7 (some .boolean) 3 h_eI [.ref 125, .int v1] μ (f_Model_keepsEdges v1 μ) :=
  HSpec.of (by decide +kernel) (v_Model_keepsEdges.1 _ (by simp)) (Nat.le_of_ble_eq_true rfl) (fun cx hA hg => t_Model_keepsEdges_0 hg hA v1 μ)
theorem t_Model_isCounted_J63 {cx : HCx} (hg : HGood cx R_Model b_Model_isCounted 4 4 (some .boolean)) (hA : h_own cx)   (s0 : Int32) (μ : HMem) : HX cx (HQ cx h_eI) (f_Model_isCounted_J63   s0 μ) 0 0 63 [] [.int s0] μ := by
  unfold f_Model_isCounted_J63
  exact r_zretB hg hA rfl d_Model_isCounted_63 rfl
theorem t_Model_isCounted_J85 {cx : HCx} (hg : HGood cx R_Model b_Model_isCounted 4 4 (some .boolean)) (hA : h_own cx)   (s0 : Int32) (μ : HMem) : HX cx (HQ cx h_eI) (f_Model_isCounted_J85   s0 μ) 0 0 85 [] [.int s0] μ := by
  unfold f_Model_isCounted_J85
  exact r_zretB hg hA rfl d_Model_isCounted_85 rfl
theorem t_Model_isCounted_0 {cx : HCx} (hg : HGood cx R_Model b_Model_isCounted 4 4 (some .boolean)) (hA : h_own cx) (v1 : Int32) (v2 : Int32) (v3 : Int32) (μ : HMem) : HX cx (HQ cx h_eI) (f_Model_isCounted v1 v2 v3 μ) 0 0 0 [(0, .ref 125), (1, .int v1), (2, .int v2), (3, .int v3)] [] μ := by
  unfold f_Model_isCounted
  refine r_iload_n hg 3 d_Model_isCounted_0 rfl rfl ?_
  refine h_ite (fun hs_ => ?_) (fun hs_ => ?_)
  · refine r_tswOut (tgt := 86) hg d_Model_isCounted_1 hs_ (by decide) ?_
    refine r_aload_n hg 0 d_Model_isCounted_86 rfl rfl ?_
    refine r_iload_n hg 1 d_Model_isCounted_87 rfl rfl ?_
    refine r_callV (As := [.int v1]) hg (t_Model_keepsEdges v1 μ) v_Model_keepsEdges c_Model rfl (by decide) rfl wm_Model_230 d_Model_isCounted_88 rfl ⟨by decide, by decide⟩ (Nat.le_of_ble_eq_true rfl) rfl (fun r88 μ_88 _ => ?_)
    exact r_zretB hg hA rfl d_Model_isCounted_91 rfl
  refine h_ite (fun he_ => ?_) (fun _ => ?_)
  · refine r_tswIn (tgt := 40) (y := 0) (off := 39) hg d_Model_isCounted_1 he_ (by decide) (by decide) (by decide) (by decide) ?_
    refine r_iconst (v := 1) hg d_Model_isCounted_40 (by decide) ?_
    exact r_zretB hg hA rfl d_Model_isCounted_41 rfl
  refine h_ite (fun he_ => ?_) (fun _ => ?_)
  · refine r_tswIn (tgt := 40) (y := 1) (off := 39) hg d_Model_isCounted_1 he_ (by decide) (by decide) (by decide) (by decide) ?_
    refine r_iconst (v := 1) hg d_Model_isCounted_40 (by decide) ?_
    exact r_zretB hg hA rfl d_Model_isCounted_41 rfl
  refine h_ite (fun he_ => ?_) (fun _ => ?_)
  · refine r_tswIn (tgt := 42) (y := 2) (off := 41) hg d_Model_isCounted_1 he_ (by decide) (by decide) (by decide) (by decide) ?_
    refine r_aload_n hg 0 d_Model_isCounted_42 rfl rfl ?_
    refine r_iload_n hg 1 d_Model_isCounted_43 rfl rfl ?_
    refine r_callV (As := [.int v1]) hg (t_Model_images v1 μ) v_Model_images c_Model rfl (by decide) rfl wm_Model_227 d_Model_isCounted_44 rfl ⟨by decide, by decide⟩ (Nat.le_of_ble_eq_true rfl) rfl (fun r44 μ_44 _ => ?_)
    refine r_callS (As := [.int r44]) hg (t_Model_bits r44 μ_44) v_Model_bits wm_Model_174 d_Model_isCounted_47 rfl ⟨by decide, by decide⟩ (Nat.le_of_ble_eq_true rfl) rfl (fun r47 μ_47 _ => ?_)
    refine r_aload_n hg 0 d_Model_isCounted_50 rfl rfl ?_
    refine r_iload_n hg 1 d_Model_isCounted_51 rfl rfl ?_
    refine r_callV (As := [.int v1]) hg (t_Model_size v1 μ_47) v_Model_size c_Model rfl (by decide) rfl wm_Model_75 d_Model_isCounted_52 rfl ⟨by decide, by decide⟩ (Nat.le_of_ble_eq_true rfl) rfl (fun r52 μ_52 _ => ?_)
    refine r_icmp_ne (tgt := 62) hg d_Model_isCounted_55 (by decide) ?_ ?_
    · refine r_iconst (v := 0) hg d_Model_isCounted_62 (by decide) ?_
      refine r_sub [] rfl ?_
      exact t_Model_isCounted_J63 hg hA 0 μ_52
    · refine r_iconst (v := 1) hg d_Model_isCounted_58 (by decide) ?_
      refine r_goto (tgt := 63) hg d_Model_isCounted_59 (by decide) ?_
      refine r_sub [] rfl ?_
      exact t_Model_isCounted_J63 hg hA 1 μ_52
  refine h_ite (fun he_ => ?_) (fun _ => ?_)
  · refine r_tswIn (tgt := 42) (y := 3) (off := 41) hg d_Model_isCounted_1 he_ (by decide) (by decide) (by decide) (by decide) ?_
    refine r_aload_n hg 0 d_Model_isCounted_42 rfl rfl ?_
    refine r_iload_n hg 1 d_Model_isCounted_43 rfl rfl ?_
    refine r_callV (As := [.int v1]) hg (t_Model_images v1 μ) v_Model_images c_Model rfl (by decide) rfl wm_Model_227 d_Model_isCounted_44 rfl ⟨by decide, by decide⟩ (Nat.le_of_ble_eq_true rfl) rfl (fun r44 μ_44 _ => ?_)
    refine r_callS (As := [.int r44]) hg (t_Model_bits r44 μ_44) v_Model_bits wm_Model_174 d_Model_isCounted_47 rfl ⟨by decide, by decide⟩ (Nat.le_of_ble_eq_true rfl) rfl (fun r47 μ_47 _ => ?_)
    refine r_aload_n hg 0 d_Model_isCounted_50 rfl rfl ?_
    refine r_iload_n hg 1 d_Model_isCounted_51 rfl rfl ?_
    refine r_callV (As := [.int v1]) hg (t_Model_size v1 μ_47) v_Model_size c_Model rfl (by decide) rfl wm_Model_75 d_Model_isCounted_52 rfl ⟨by decide, by decide⟩ (Nat.le_of_ble_eq_true rfl) rfl (fun r52 μ_52 _ => ?_)
    refine r_icmp_ne (tgt := 62) hg d_Model_isCounted_55 (by decide) ?_ ?_
    · refine r_iconst (v := 0) hg d_Model_isCounted_62 (by decide) ?_
      refine r_sub [] rfl ?_
      exact t_Model_isCounted_J63 hg hA 0 μ_52
    · refine r_iconst (v := 1) hg d_Model_isCounted_58 (by decide) ?_
      refine r_goto (tgt := 63) hg d_Model_isCounted_59 (by decide) ?_
      refine r_sub [] rfl ?_
      exact t_Model_isCounted_J63 hg hA 1 μ_52
  refine h_ite (fun he_ => ?_) (fun _ => ?_)
  · refine r_tswIn (tgt := 64) (y := 4) (off := 63) hg d_Model_isCounted_1 he_ (by decide) (by decide) (by decide) (by decide) ?_
    refine r_aload_n hg 0 d_Model_isCounted_64 rfl rfl ?_
    refine r_iload_n hg 1 d_Model_isCounted_65 rfl rfl ?_
    refine r_callV (As := [.int v1]) hg (t_Model_images v1 μ) v_Model_images c_Model rfl (by decide) rfl wm_Model_227 d_Model_isCounted_66 rfl ⟨by decide, by decide⟩ (Nat.le_of_ble_eq_true rfl) rfl (fun r66 μ_66 _ => ?_)
    refine r_callS (As := [.int r66]) hg (t_Model_bits r66 μ_66) v_Model_bits wm_Model_174 d_Model_isCounted_69 rfl ⟨by decide, by decide⟩ (Nat.le_of_ble_eq_true rfl) rfl (fun r69 μ_69 _ => ?_)
    refine r_aload_n hg 0 d_Model_isCounted_72 rfl rfl ?_
    refine r_iload_n hg 2 d_Model_isCounted_73 rfl rfl ?_
    refine r_callV (As := [.int v2]) hg (t_Model_size v2 μ_69) v_Model_size c_Model rfl (by decide) rfl wm_Model_75 d_Model_isCounted_74 rfl ⟨by decide, by decide⟩ (Nat.le_of_ble_eq_true rfl) rfl (fun r74 μ_74 _ => ?_)
    refine r_icmp_ne (tgt := 84) hg d_Model_isCounted_77 (by decide) ?_ ?_
    · refine r_iconst (v := 0) hg d_Model_isCounted_84 (by decide) ?_
      refine r_sub [] rfl ?_
      exact t_Model_isCounted_J85 hg hA 0 μ_74
    · refine r_iconst (v := 1) hg d_Model_isCounted_80 (by decide) ?_
      refine r_goto (tgt := 85) hg d_Model_isCounted_81 (by decide) ?_
      refine r_sub [] rfl ?_
      exact t_Model_isCounted_J85 hg hA 1 μ_74
  refine h_ite (fun he_ => ?_) (fun _ => ?_)
  · refine r_tswIn (tgt := 64) (y := 5) (off := 63) hg d_Model_isCounted_1 he_ (by decide) (by decide) (by decide) (by decide) ?_
    refine r_aload_n hg 0 d_Model_isCounted_64 rfl rfl ?_
    refine r_iload_n hg 1 d_Model_isCounted_65 rfl rfl ?_
    refine r_callV (As := [.int v1]) hg (t_Model_images v1 μ) v_Model_images c_Model rfl (by decide) rfl wm_Model_227 d_Model_isCounted_66 rfl ⟨by decide, by decide⟩ (Nat.le_of_ble_eq_true rfl) rfl (fun r66 μ_66 _ => ?_)
    refine r_callS (As := [.int r66]) hg (t_Model_bits r66 μ_66) v_Model_bits wm_Model_174 d_Model_isCounted_69 rfl ⟨by decide, by decide⟩ (Nat.le_of_ble_eq_true rfl) rfl (fun r69 μ_69 _ => ?_)
    refine r_aload_n hg 0 d_Model_isCounted_72 rfl rfl ?_
    refine r_iload_n hg 2 d_Model_isCounted_73 rfl rfl ?_
    refine r_callV (As := [.int v2]) hg (t_Model_size v2 μ_69) v_Model_size c_Model rfl (by decide) rfl wm_Model_75 d_Model_isCounted_74 rfl ⟨by decide, by decide⟩ (Nat.le_of_ble_eq_true rfl) rfl (fun r74 μ_74 _ => ?_)
    refine r_icmp_ne (tgt := 84) hg d_Model_isCounted_77 (by decide) ?_ ?_
    · refine r_iconst (v := 0) hg d_Model_isCounted_84 (by decide) ?_
      refine r_sub [] rfl ?_
      exact t_Model_isCounted_J85 hg hA 0 μ_74
    · refine r_iconst (v := 1) hg d_Model_isCounted_80 (by decide) ?_
      refine r_goto (tgt := 85) hg d_Model_isCounted_81 (by decide) ?_
      refine r_sub [] rfl ?_
      exact t_Model_isCounted_J85 hg hA 1 μ_74
  exact HX.none
theorem t_Model_isCounted (v1 : Int32) (v2 : Int32) (v3 : Int32) (μ : HMem) : HSpec y_Model_isCounted b_Model_isCounted 4 (some .boolean) 4 h_eI [.ref 125, .int v1, .int v2, .int v3] μ (f_Model_isCounted v1 v2 v3 μ) :=
  HSpec.of (by decide +kernel) (v_Model_isCounted.1 _ (by simp)) (Nat.le_of_ble_eq_true rfl) (fun cx hA hg => t_Model_isCounted_0 hg hA v1 v2 v3 μ)
theorem t_Model_countOf_J105 {cx : HCx} (hg : HGood cx R_Model b_Model_countOf 8 5 (some .long)) (hA : h_own cx)  (rec_ : Int32 → Int32 → Int32 → Int32 → Int64 → Int32 → HMem → Option (Int64 × HMem)) (hrec_ : p_Model_countOf_41 cx rec_) (v1 : Int32) (v2 : Int32) (v3 : Int32) (v4 : Int32) (v5 : Int64) (s0 : Int32) (μ : HMem) : HX cx (HQ cx h_eJ) (f_Model_countOf_J105  rec_ v1 v2 v3 v4 v5 s0 μ) 0 0 105 [(0, .ref 125), (1, .int v1), (2, .int v2), (3, .int v3), (4, .int v4), (5, .long v5)] [.int s0] μ := by
  unfold f_Model_countOf_J105
  refine r_istore (l' := [(7, .int s0), (0, .ref 125), (1, .int v1), (2, .int v2), (3, .int v3), (4, .int v4), (5, .long v5)]) hg d_Model_countOf_105 (Nat.le_of_ble_eq_true rfl) rfl ?_
  refine r_goto (tgt := 41) hg d_Model_countOf_107 (by decide) ?_
  refine r_sub [1, 2, 3, 4, 5, 6, 0] rfl ?_
  exact hrec_ v1 v2 v3 v4 v5 s0 μ
theorem t_Model_countOf_J104 {cx : HCx} (hg : HGood cx R_Model b_Model_countOf 8 5 (some .long)) (hA : h_own cx)  (rec_ : Int32 → Int32 → Int32 → Int32 → Int64 → Int32 → HMem → Option (Int64 × HMem)) (hrec_ : p_Model_countOf_41 cx rec_) (v1 : Int32) (v2 : Int32) (v3 : Int32) (v4 : Int32) (v5 : Int64) (μ : HMem) : HX cx (HQ cx h_eJ) (f_Model_countOf_J104  rec_ v1 v2 v3 v4 v5 μ) 0 0 104 [(0, .ref 125), (1, .int v1), (2, .int v2), (3, .int v3), (4, .int v4), (5, .long v5)] [] μ := by
  unfold f_Model_countOf_J104
  refine r_iconst (v := 0) hg d_Model_countOf_104 (by decide) ?_
  exact t_Model_countOf_J105 hg hA rec_ hrec_ v1 v2 v3 v4 v5 0 μ
theorem t_Model_countOf_J76 {cx : HCx} (hg : HGood cx R_Model b_Model_countOf 8 5 (some .long)) (hA : h_own cx)  (rec_ : Int32 → Int32 → Int32 → Int32 → Int64 → Int32 → HMem → Option (Int64 × HMem)) (hrec_ : p_Model_countOf_41 cx rec_) (v1 : Int32) (v2 : Int32) (v3 : Int32) (v4 : Int32) (v5 : Int64) (μ : HMem) : HX cx (HQ cx h_eJ) (f_Model_countOf_J76  rec_ v1 v2 v3 v4 v5 μ) 0 0 76 [(0, .ref 125), (1, .int v1), (2, .int v2), (3, .int v3), (4, .int v4), (5, .long v5)] [] μ := by
  unfold f_Model_countOf_J76
  refine r_aload_n hg 0 d_Model_countOf_76 rfl rfl ?_
  refine r_iload_n hg 1 d_Model_countOf_77 rfl rfl ?_
  refine r_callV (As := [.int v1]) hg (t_Model_size v1 μ) v_Model_size c_Model rfl (by decide) rfl wm_Model_75 d_Model_countOf_78 rfl ⟨by decide, by decide⟩ (Nat.le_of_ble_eq_true rfl) rfl (fun r78 μ_78 _ => ?_)
  refine r_if_le (tgt := 104) hg d_Model_countOf_81 (by decide) ?_ ?_
  · exact t_Model_countOf_J104 hg hA rec_ hrec_ v1 v2 v3 v4 v5 μ_78
  · refine r_aload_n hg 0 d_Model_countOf_84 rfl rfl ?_
    refine r_iload_n hg 1 d_Model_countOf_85 rfl rfl ?_
    refine r_iload_n hg 2 d_Model_countOf_86 rfl rfl ?_
    refine r_aload_n hg 0 d_Model_countOf_87 rfl rfl ?_
    refine r_iload_n hg 1 d_Model_countOf_88 rfl rfl ?_
    refine r_callV (As := [.int v1]) hg (t_Model_size v1 μ_78) v_Model_size c_Model rfl (by decide) rfl wm_Model_75 d_Model_countOf_89 rfl ⟨by decide, by decide⟩ (Nat.le_of_ble_eq_true rfl) rfl (fun r89 μ_89 _ => ?_)
    refine r_iconst (v := 1) hg d_Model_countOf_92 (by decide) ?_
    refine r_isub hg d_Model_countOf_93 ?_
    refine r_callV (As := [.int v1, .int v2, .int (r89 - 1)]) hg (t_Model_finds v1 v2 (r89 - 1) μ_89) v_Model_finds c_Model rfl (by decide) rfl wm_Model_233 d_Model_countOf_94 rfl ⟨by decide, by decide⟩ (Nat.le_of_ble_eq_true rfl) rfl (fun r94 μ_94 _ => ?_)
    refine r_if_eq (tgt := 104) hg d_Model_countOf_97 (by decide) ?_ ?_
    · exact t_Model_countOf_J104 hg hA rec_ hrec_ v1 v2 v3 v4 v5 μ_94
    · refine r_iconst (v := 1) hg d_Model_countOf_100 (by decide) ?_
      refine r_goto (tgt := 105) hg d_Model_countOf_101 (by decide) ?_
      exact t_Model_countOf_J105 hg hA rec_ hrec_ v1 v2 v3 v4 v5 1 μ_94
theorem t_Model_countOf_J73 {cx : HCx} (hg : HGood cx R_Model b_Model_countOf 8 5 (some .long)) (hA : h_own cx)  (rec_ : Int32 → Int32 → Int32 → Int32 → Int64 → Int32 → HMem → Option (Int64 × HMem)) (hrec_ : p_Model_countOf_41 cx rec_) (v1 : Int32) (v2 : Int32) (v3 : Int32) (v4 : Int32) (s0 : Int64) (s1 : Int64) (μ : HMem) : HX cx (HQ cx h_eJ) (f_Model_countOf_J73  rec_ v1 v2 v3 v4 s0 s1 μ) 0 0 73 [(0, .ref 125), (1, .int v1), (2, .int v2), (3, .int v3), (4, .int v4)] [.long s0, .long s1] μ := by
  unfold f_Model_countOf_J73
  refine r_ladd hg d_Model_countOf_73 ?_
  refine r_letJ (fun v5_74 => ?_)
  refine r_lstore (l' := [(5, .long v5_74), (0, .ref 125), (1, .int v1), (2, .int v2), (3, .int v3), (4, .int v4)]) hg d_Model_countOf_74 (Nat.le_of_ble_eq_true rfl) rfl ?_
  refine r_sub [1, 2, 3, 4, 5, 0] rfl ?_
  exact t_Model_countOf_J76 hg hA rec_ hrec_ v1 v2 v3 v4 v5_74 μ
theorem t_Model_countOf_L41_b {cx : HCx} (hg : HGood cx R_Model b_Model_countOf 8 5 (some .long)) (hA : h_own cx)  (rec_ : Int32 → Int32 → Int32 → Int32 → Int64 → Int32 → HMem → Option (Int64 × HMem)) (hrec_ : p_Model_countOf_41 cx rec_) (v1 : Int32) (v2 : Int32) (v3 : Int32) (v4 : Int32) (v5 : Int64) (v7 : Int32) (μ : HMem) : HX cx (HQ cx h_eJ) (f_Model_countOf_L41_b  rec_ v1 v2 v3 v4 v5 v7 μ) 0 0 41 [(0, .ref 125), (1, .int v1), (2, .int v2), (3, .int v3), (4, .int v4), (5, .long v5), (7, .int v7)] [] μ := by
  unfold f_Model_countOf_L41_b
  refine r_iload hg 6 d_Model_countOf_41 rfl ?_
  refine r_if_eq (tgt := 110) hg d_Model_countOf_43 (by decide) ?_ ?_
  · refine r_lload hg 5 d_Model_countOf_110 rfl ?_
    exact r_lret hg hA rfl d_Model_countOf_112 rfl
  · refine r_aload_n hg 0 d_Model_countOf_46 rfl rfl ?_
    refine r_iload_n hg 1 d_Model_countOf_47 rfl rfl ?_
    refine r_iload_n hg 2 d_Model_countOf_48 rfl rfl ?_
    refine r_iload_n hg 3 d_Model_countOf_49 rfl rfl ?_
    refine r_callV (As := [.int v1, .int v2, .int v3]) hg (t_Model_isCounted v1 v2 v3 μ) v_Model_isCounted c_Model rfl (by decide) rfl wm_Model_236 d_Model_countOf_50 rfl ⟨by decide, by decide⟩ (Nat.le_of_ble_eq_true rfl) rfl (fun r50 μ_50 _ => ?_)
    refine r_if_eq (tgt := 76) hg d_Model_countOf_53 (by decide) ?_ ?_
    · refine r_sub [0, 1, 2, 3, 4, 5] rfl ?_
      exact t_Model_countOf_J76 hg hA rec_ hrec_ v1 v2 v3 v4 v5 μ_50
    · refine r_lload hg 5 d_Model_countOf_56 rfl ?_
      refine r_iload hg 4 d_Model_countOf_58 rfl ?_
      refine r_if_eq (tgt := 72) hg d_Model_countOf_60 (by decide) ?_ ?_
      · refine r_lconst (v := 1) hg d_Model_countOf_72 (by decide) ?_
        refine r_sub [0, 1, 2, 3, 4] rfl ?_
        exact t_Model_countOf_J73 hg hA rec_ hrec_ v1 v2 v3 v4 1 v5 μ_50
      · refine r_aload_n hg 0 d_Model_countOf_63 rfl rfl ?_
        refine r_iload_n hg 1 d_Model_countOf_64 rfl rfl ?_
        refine r_iload_n hg 2 d_Model_countOf_65 rfl rfl ?_
        refine r_callV (As := [.int v1, .int v2]) hg (t_Model_valueOf v1 v2 μ_50) v_Model_valueOf c_Model rfl (by decide) rfl wm_Model_239 d_Model_countOf_66 rfl ⟨by decide, by decide⟩ (Nat.le_of_ble_eq_true rfl) rfl (fun r66 μ_66 _ => ?_)
        refine r_goto (tgt := 73) hg d_Model_countOf_69 (by decide) ?_
        refine r_sub [0, 1, 2, 3, 4] rfl ?_
        exact t_Model_countOf_J73 hg hA rec_ hrec_ v1 v2 v3 v4 r66 v5 μ_66
theorem t_Model_countOf_L41 {cx : HCx} (hg : HGood cx R_Model b_Model_countOf 8 5 (some .long)) (hA : h_own cx)  : ∀ (fuel : Nat) (v1 : Int32) (v2 : Int32) (v3 : Int32) (v4 : Int32) (v5 : Int64) (v7 : Int32) (μ : HMem), HX cx (HQ cx h_eJ) (f_Model_countOf_L41  fuel v1 v2 v3 v4 v5 v7 μ) 0 0 41 [(0, .ref 125), (1, .int v1), (2, .int v2), (3, .int v3), (4, .int v4), (5, .long v5), (7, .int v7)] [] μ
  | 0, _, _, _, _, _, _, _ => by unfold f_Model_countOf_L41; exact HX.none
  | fuel + 1, v1, v2, v3, v4, v5, v7, μ => by
    rw [f_Model_countOf_L41]
    exact t_Model_countOf_L41_b hg hA   (f_Model_countOf_L41  fuel) (t_Model_countOf_L41 hg hA   fuel) v1 v2 v3 v4 v5 v7 μ
theorem t_Model_countOf_J20 {cx : HCx} (hg : HGood cx R_Model b_Model_countOf 8 5 (some .long)) (hA : h_own cx)   (v1 : Int32) (v2 : Int32) (v3 : Int32) (s0 : Int32) (μ : HMem) : HX cx (HQ cx h_eJ) (f_Model_countOf_J20   v1 v2 v3 s0 μ) 0 0 20 [(0, .ref 125), (1, .int v1), (2, .int v2), (3, .int v3)] [.int s0] μ := by
  unfold f_Model_countOf_J20
  refine r_istore (l' := [(4, .int s0), (0, .ref 125), (1, .int v1), (2, .int v2), (3, .int v3)]) hg d_Model_countOf_20 (Nat.le_of_ble_eq_true rfl) rfl ?_
  refine r_lconst (v := 0) hg d_Model_countOf_22 (by decide) ?_
  refine r_lstore (l' := [(5, .long 0), (4, .int s0), (0, .ref 125), (1, .int v1), (2, .int v2), (3, .int v3)]) hg d_Model_countOf_23 (Nat.le_of_ble_eq_true rfl) rfl ?_
  refine r_aload_n hg 2 d_Model_countOf_25 rfl rfl ?_
  refine r_get (v := .ref 133) hg c_Model (by decide) rfl (Nat.le_of_ble_eq_true rfl) rfl wf_Model_31 d_Model_countOf_26 rfl ?_
  refine r_iconst (v := 0) hg d_Model_countOf_29 (by decide) ?_
  refine r_iconst (v := -1) hg d_Model_countOf_30 (by decide) ?_
  refine r_iast hg (by decide) rfl d_Model_countOf_31 ?_
  refine r_letM (fun μ_31 => ?_)
  refine r_aload_n hg 2 d_Model_countOf_32 rfl rfl ?_
  refine r_iload_n hg 3 d_Model_countOf_33 rfl rfl ?_
  refine r_iload_n hg 4 d_Model_countOf_34 rfl rfl ?_
  refine r_iconst (v := 0) hg d_Model_countOf_35 (by decide) ?_
  refine r_callV (As := [.int v1, .int v2, .int 0]) hg (t_Model_finds v1 v2 0 μ_31) v_Model_finds c_Model rfl (by decide) rfl wm_Model_233 d_Model_countOf_36 rfl ⟨by decide, by decide⟩ (Nat.le_of_ble_eq_true rfl) rfl (fun r36 μ_36 _ => ?_)
  refine r_istore (l' := [(7, .int r36), (5, .long 0), (4, .int s0), (0, .ref 125), (1, .int v1), (2, .int v2), (3, .int v3)]) hg d_Model_countOf_39 (Nat.le_of_ble_eq_true rfl) rfl ?_
  refine r_sub [3, 4, 5, 6, 2, 1, 0] rfl ?_
  exact t_Model_countOf_L41 hg hA h_fuel v1 v2 v3 s0 0 r36 μ_36
theorem t_Model_countOf_J15 {cx : HCx} (hg : HGood cx R_Model b_Model_countOf 8 5 (some .long)) (hA : h_own cx)   (v1 : Int32) (v2 : Int32) (v3 : Int32) (μ : HMem) : HX cx (HQ cx h_eJ) (f_Model_countOf_J15   v1 v2 v3 μ) 0 0 15 [(0, .ref 125), (1, .int v1), (2, .int v2), (3, .int v3)] [] μ := by
  unfold f_Model_countOf_J15
  refine r_iconst (v := 1) hg d_Model_countOf_15 (by decide) ?_
  refine r_goto (tgt := 20) hg d_Model_countOf_16 (by decide) ?_
  exact t_Model_countOf_J20 hg hA v1 v2 v3 1 μ
theorem t_Model_countOf_0 {cx : HCx} (hg : HGood cx R_Model b_Model_countOf 8 5 (some .long)) (hA : h_own cx) (v1 : Int32) (v2 : Int32) (v3 : Int32) (μ : HMem) : HX cx (HQ cx h_eJ) (f_Model_countOf v1 v2 v3 μ) 0 0 0 [(0, .ref 125), (1, .int v1), (2, .int v2), (3, .int v3)] [] μ := by
  unfold f_Model_countOf
  refine r_iload_n hg 3 d_Model_countOf_0 rfl rfl ?_
  refine r_iconst (v := 1) hg d_Model_countOf_1 (by decide) ?_
  refine r_icmp_eq (tgt := 15) hg d_Model_countOf_2 (by decide) ?_ ?_
  · exact t_Model_countOf_J15 hg hA v1 v2 v3 μ
  · refine r_iload_n hg 3 d_Model_countOf_5 rfl rfl ?_
    refine r_iconst (v := 3) hg d_Model_countOf_6 (by decide) ?_
    refine r_icmp_eq (tgt := 15) hg d_Model_countOf_7 (by decide) ?_ ?_
    · exact t_Model_countOf_J15 hg hA v1 v2 v3 μ
    · refine r_iload_n hg 3 d_Model_countOf_10 rfl rfl ?_
      refine r_iconst (v := 5) hg d_Model_countOf_11 (by decide) ?_
      refine r_icmp_ne (tgt := 19) hg d_Model_countOf_12 (by decide) ?_ ?_
      · refine r_iconst (v := 0) hg d_Model_countOf_19 (by decide) ?_
        exact t_Model_countOf_J20 hg hA v1 v2 v3 0 μ
      · exact t_Model_countOf_J15 hg hA v1 v2 v3 μ
theorem t_Model_countOf (v1 : Int32) (v2 : Int32) (v3 : Int32) (μ : HMem) : HSpec y_Model_countOf b_Model_countOf 8 (some .long) 5 h_eJ [.ref 125, .int v1, .int v2, .int v3] μ (f_Model_countOf v1 v2 v3 μ) :=
  HSpec.of (by decide +kernel) (v_Model_countOf.1 _ (by simp)) (Nat.le_of_ble_eq_true rfl) (fun cx hA hg => t_Model_countOf_0 hg hA v1 v2 v3 μ)
theorem t_Model_count_J14 {cx : HCx} (hg : HGood cx R_Model b_Model_count 4 6 (some .long)) (hA : h_own cx)    (μ : HMem) : HX cx (HQ cx h_eJ) (f_Model_count_J14   μ) 0 0 14 [(0, .ref 125)] [] μ := by
  unfold f_Model_count_J14
  refine r_aload_n hg 0 d_Model_count_14 rfl rfl ?_
  refine r_iconst (v := 1) hg d_Model_count_15 (by decide) ?_
  refine r_callV (As := [.int 1]) hg (t_Model_fails 1 μ) v_Model_fails c_Model rfl (by decide) rfl wm_Model_93 d_Model_count_16 rfl ⟨by decide, by decide⟩ (Nat.le_of_ble_eq_true rfl) rfl (fun r16 μ_16 _ => ?_)
  refine r_i2l hg d_Model_count_19 ?_
  exact r_lret hg hA rfl d_Model_count_20 rfl
theorem t_Model_count_0 {cx : HCx} (hg : HGood cx R_Model b_Model_count 4 6 (some .long)) (hA : h_own cx) (v1 : Int32) (v2 : Int32) (v3 : Int32) (μ : HMem) : HX cx (HQ cx h_eJ) (f_Model_count v1 v2 v3 μ) 0 0 0 [(0, .ref 125), (1, .int v1), (2, .int v2), (3, .int v3)] [] μ := by
  unfold f_Model_count
  refine r_iload_n hg 1 d_Model_count_0 rfl rfl ?_
  refine r_callS (As := [.int v1]) hg (t_Model_isGraph v1 μ) v_Model_isGraph wm_Model_71 d_Model_count_1 rfl ⟨by decide, by decide⟩ (Nat.le_of_ble_eq_true rfl) rfl (fun r1 μ_1 _ => ?_)
  refine r_if_eq (tgt := 14) hg d_Model_count_4 (by decide) ?_ ?_
  · refine r_sub [0] rfl ?_
    exact t_Model_count_J14 hg hA μ_1
  · refine r_iload_n hg 2 d_Model_count_7 rfl rfl ?_
    refine r_callS (As := [.int v2]) hg (t_Model_isGraph v2 μ_1) v_Model_isGraph wm_Model_71 d_Model_count_8 rfl ⟨by decide, by decide⟩ (Nat.le_of_ble_eq_true rfl) rfl (fun r8 μ_8 _ => ?_)
    refine r_if_ne (tgt := 21) hg d_Model_count_11 (by decide) ?_ ?_
    · refine r_iload_n hg 3 d_Model_count_21 rfl rfl ?_
      refine r_iconst (v := 0) hg d_Model_count_22 (by decide) ?_
      refine r_bipush (v := 6) hg d_Model_count_23 (by decide) ?_
      refine r_callS (As := [.int v3, .int 0, .int 6]) hg (t_Model_in v3 0 6 μ_8) v_Model_in wm_Model_67 d_Model_count_25 rfl ⟨by decide, by decide⟩ (Nat.le_of_ble_eq_true rfl) rfl (fun r25 μ_25 _ => ?_)
      refine r_if_ne (tgt := 38) hg d_Model_count_28 (by decide) ?_ ?_
      · refine r_aload_n hg 0 d_Model_count_38 rfl rfl ?_
        refine r_iload_n hg 1 d_Model_count_39 rfl rfl ?_
        refine r_callV (As := [.int v1]) hg (t_Model_size v1 μ_25) v_Model_size c_Model rfl (by decide) rfl wm_Model_75 d_Model_count_40 rfl ⟨by decide, by decide⟩ (Nat.le_of_ble_eq_true rfl) rfl (fun r40 μ_40 _ => ?_)
        refine r_bipush (v := 6) hg d_Model_count_43 (by decide) ?_
        refine r_icmp_le (tgt := 55) hg d_Model_count_45 (by decide) ?_ ?_
        · refine r_aload_n hg 0 d_Model_count_55 rfl rfl ?_
          refine r_iconst (v := 0) hg d_Model_count_56 (by decide) ?_
          refine r_put hg c_Model t_Model_ok n_Model (by decide) rfl (Nat.le_of_ble_eq_true rfl) rfl rfl (by decide +kernel) wf_Model_63 d_Model_count_57 ?_
          refine r_letM (fun μ_57 => ?_)
          refine r_aload_n hg 0 d_Model_count_60 rfl rfl ?_
          refine r_iload_n hg 1 d_Model_count_61 rfl rfl ?_
          refine r_iload_n hg 2 d_Model_count_62 rfl rfl ?_
          refine r_iload_n hg 3 d_Model_count_63 rfl rfl ?_
          refine r_callV (As := [.int v1, .int v2, .int v3]) hg (t_Model_countOf v1 v2 v3 μ_57) v_Model_countOf c_Model rfl (by decide) rfl wm_Model_243 d_Model_count_64 rfl ⟨by decide, by decide⟩ (Nat.le_of_ble_eq_true rfl) rfl (fun r64 μ_64 _ => ?_)
          exact r_lret hg hA rfl d_Model_count_67 rfl
        · refine r_aload_n hg 0 d_Model_count_48 rfl rfl ?_
          refine r_iconst (v := 3) hg d_Model_count_49 (by decide) ?_
          refine r_callV (As := [.int 3]) hg (t_Model_fails 3 μ_40) v_Model_fails c_Model rfl (by decide) rfl wm_Model_93 d_Model_count_50 rfl ⟨by decide, by decide⟩ (Nat.le_of_ble_eq_true rfl) rfl (fun r50 μ_50 _ => ?_)
          refine r_i2l hg d_Model_count_53 ?_
          exact r_lret hg hA rfl d_Model_count_54 rfl
      · refine r_aload_n hg 0 d_Model_count_31 rfl rfl ?_
        refine r_iconst (v := 2) hg d_Model_count_32 (by decide) ?_
        refine r_callV (As := [.int 2]) hg (t_Model_fails 2 μ_25) v_Model_fails c_Model rfl (by decide) rfl wm_Model_93 d_Model_count_33 rfl ⟨by decide, by decide⟩ (Nat.le_of_ble_eq_true rfl) rfl (fun r33 μ_33 _ => ?_)
        refine r_i2l hg d_Model_count_36 ?_
        exact r_lret hg hA rfl d_Model_count_37 rfl
    · refine r_sub [0] rfl ?_
      exact t_Model_count_J14 hg hA μ_8
theorem t_Model_count (v1 : Int32) (v2 : Int32) (v3 : Int32) (μ : HMem) : HSpec y_Model_count b_Model_count 4 (some .long) 6 h_eJ [.ref 125, .int v1, .int v2, .int v3] μ (f_Model_count v1 v2 v3 μ) :=
  HSpec.of (by decide +kernel) (v_Model_count.1 _ (by simp)) (Nat.le_of_ble_eq_true rfl) (fun cx hA hg => t_Model_count_0 hg hA v1 v2 v3 μ)
theorem t_Model_density_J14 {cx : HCx} (hg : HGood cx R_Model b_Model_density 14 6 (some .long)) (hA : h_own cx)    (μ : HMem) : HX cx (HQ cx h_eJ) (f_Model_density_J14   μ) 0 0 14 [(0, .ref 125)] [] μ := by
  unfold f_Model_density_J14
  refine r_aload_n hg 0 d_Model_density_14 rfl rfl ?_
  refine r_iconst (v := 1) hg d_Model_density_15 (by decide) ?_
  refine r_callV (As := [.int 1]) hg (t_Model_fails 1 μ) v_Model_fails c_Model rfl (by decide) rfl wm_Model_93 d_Model_density_16 rfl ⟨by decide, by decide⟩ (Nat.le_of_ble_eq_true rfl) rfl (fun r16 μ_16 _ => ?_)
  refine r_i2l hg d_Model_density_19 ?_
  exact r_lret hg hA rfl d_Model_density_20 rfl
theorem t_Model_density_J55 {cx : HCx} (hg : HGood cx R_Model b_Model_density 14 6 (some .long)) (hA : h_own cx)    (μ : HMem) : HX cx (HQ cx h_eJ) (f_Model_density_J55   μ) 0 0 55 [(0, .ref 125)] [] μ := by
  unfold f_Model_density_J55
  refine r_aload_n hg 0 d_Model_density_55 rfl rfl ?_
  refine r_iconst (v := 3) hg d_Model_density_56 (by decide) ?_
  refine r_callV (As := [.int 3]) hg (t_Model_fails 3 μ) v_Model_fails c_Model rfl (by decide) rfl wm_Model_93 d_Model_density_57 rfl ⟨by decide, by decide⟩ (Nat.le_of_ble_eq_true rfl) rfl (fun r57 μ_57 _ => ?_)
  refine r_i2l hg d_Model_density_60 ?_
  exact r_lret hg hA rfl d_Model_density_61 rfl
theorem t_Model_density_L82_b {cx : HCx} (hg : HGood cx R_Model b_Model_density 14 6 (some .long)) (hA : h_own cx) (K109 : Int32 → Int64 → Int64 → HMem → Option (Int64 × HMem)) (hK109 : p_Model_density_109 cx K109) (rec_ : Int32 → Int32 → Int32 → Int64 → Int64 → Int32 → HMem → Option (Int64 × HMem)) (hrec_ : p_Model_density_82 cx rec_) (v1 : Int32) (v2 : Int32) (v3 : Int32) (v4 : Int64) (v6 : Int64) (v8 : Int32) (μ : HMem) : HX cx (HQ cx h_eJ) (f_Model_density_L82_b K109 rec_ v1 v2 v3 v4 v6 v8 μ) 0 0 82 [(0, .ref 125), (1, .int v1), (2, .int v2), (3, .int v3), (4, .long v4), (6, .long v6), (8, .int v8)] [] μ := by
  unfold f_Model_density_L82_b
  refine r_iload hg 6 d_Model_density_82 rfl ?_
  refine r_aload_n hg 0 d_Model_density_84 rfl rfl ?_
  refine r_iload_n hg 1 d_Model_density_85 rfl rfl ?_
  refine r_callV (As := [.int v1]) hg (t_Model_size v1 μ) v_Model_size c_Model rfl (by decide) rfl wm_Model_75 d_Model_density_86 rfl ⟨by decide, by decide⟩ (Nat.le_of_ble_eq_true rfl) rfl (fun r86 μ_86 _ => ?_)
  refine r_icmp_ge (tgt := 109) hg d_Model_density_89 (by decide) ?_ ?_
  · refine r_sub [3, 4, 5] rfl ?_
    exact hK109 v3 v4 v6 μ_86
  · refine r_lload hg 5 d_Model_density_92 rfl ?_
    refine r_aload_n hg 0 d_Model_density_94 rfl rfl ?_
    refine r_iload_n hg 2 d_Model_density_95 rfl rfl ?_
    refine r_callV (As := [.int v2]) hg (t_Model_size v2 μ_86) v_Model_size c_Model rfl (by decide) rfl wm_Model_75 d_Model_density_96 rfl ⟨by decide, by decide⟩ (Nat.le_of_ble_eq_true rfl) rfl (fun r96 μ_96 _ => ?_)
    refine r_i2l hg d_Model_density_99 ?_
    refine r_lmul hg d_Model_density_100 ?_
    refine r_letJ (fun v6_101 => ?_)
    refine r_lstore (l' := [(6, .long v6_101), (0, .ref 125), (1, .int v1), (2, .int v2), (3, .int v3), (4, .long v4), (8, .int v8)]) hg d_Model_density_101 (Nat.le_of_ble_eq_true rfl) rfl ?_
    refine r_letE (fun v8_103 he_103 => ?_)
    refine r_iinc (v := v8_103) (l' := [(8, .int v8_103), (6, .long v6_101), (0, .ref 125), (1, .int v1), (2, .int v2), (3, .int v3), (4, .long v4)]) hg 6 d_Model_density_103 rfl he_103 (Nat.le_of_ble_eq_true rfl) rfl ?_
    refine r_goto (tgt := 82) hg d_Model_density_106 (by decide) ?_
    refine r_sub [2, 3, 4, 5, 6, 1, 0] rfl ?_
    exact hrec_ v1 v2 v3 v4 v6_101 v8_103 μ_96
theorem t_Model_density_L82 {cx : HCx} (hg : HGood cx R_Model b_Model_density 14 6 (some .long)) (hA : h_own cx) (K109 : Int32 → Int64 → Int64 → HMem → Option (Int64 × HMem)) (hK109 : p_Model_density_109 cx K109) : ∀ (fuel : Nat) (v1 : Int32) (v2 : Int32) (v3 : Int32) (v4 : Int64) (v6 : Int64) (v8 : Int32) (μ : HMem), HX cx (HQ cx h_eJ) (f_Model_density_L82 K109 fuel v1 v2 v3 v4 v6 v8 μ) 0 0 82 [(0, .ref 125), (1, .int v1), (2, .int v2), (3, .int v3), (4, .long v4), (6, .long v6), (8, .int v8)] [] μ
  | 0, _, _, _, _, _, _, _ => by unfold f_Model_density_L82; exact HX.none
  | fuel + 1, v1, v2, v3, v4, v6, v8, μ => by
    rw [f_Model_density_L82]
    exact t_Model_density_L82_b hg hA  K109 hK109 (f_Model_density_L82 K109 fuel) (t_Model_density_L82 hg hA  K109 hK109 fuel) v1 v2 v3 v4 v6 v8 μ
theorem t_Model_density_L117_b {cx : HCx} (hg : HGood cx R_Model b_Model_density 14 6 (some .long)) (hA : h_own cx) (K142 : Int32 → Int64 → Int64 → Int64 → HMem → Option (Int64 × HMem)) (hK142 : p_Model_density_142 cx K142) (rec_ : Int32 → Int64 → Int64 → Int64 → Int64 → HMem → Option (Int64 × HMem)) (hrec_ : p_Model_density_117 cx rec_) (v3 : Int32) (v4 : Int64) (v6 : Int64) (v8 : Int64) (v10 : Int64) (μ : HMem) : HX cx (HQ cx h_eJ) (f_Model_density_L117_b K142 rec_ v3 v4 v6 v8 v10 μ) 0 0 117 [(3, .int v3), (4, .long v4), (6, .long v6), (8, .long v8), (10, .long v10)] [] μ := by
  unfold f_Model_density_L117_b
  refine r_lload hg 4 d_Model_density_117 rfl ?_
  refine r_lconst (v := 0) hg d_Model_density_119 (by decide) ?_
  refine r_lcmp hg d_Model_density_120 ?_
  refine r_if_eq (tgt := 142) hg d_Model_density_121 (by decide) ?_ ?_
  · refine r_sub [0, 1, 2, 3] rfl ?_
    exact hK142 v3 v4 v6 v8 μ
  · refine r_lload hg 3 d_Model_density_124 rfl ?_
    refine r_lload hg 4 d_Model_density_126 rfl ?_
    refine r_lrem hg d_Model_density_128 ?_
    refine r_letJ (fun v12_129 => ?_)
    refine r_lstore (l' := [(12, .long v12_129), (3, .int v3), (4, .long v4), (6, .long v6), (8, .long v8), (10, .long v10)]) hg d_Model_density_129 (Nat.le_of_ble_eq_true rfl) rfl ?_
    refine r_lload hg 5 d_Model_density_131 rfl ?_
    refine r_lstore (l' := [(8, .long v10), (12, .long v12_129), (3, .int v3), (4, .long v4), (6, .long v6), (10, .long v10)]) hg d_Model_density_133 (Nat.le_of_ble_eq_true rfl) rfl ?_
    refine r_lload hg 1 d_Model_density_135 rfl ?_
    refine r_lstore (l' := [(10, .long v12_129), (8, .long v10), (12, .long v12_129), (3, .int v3), (4, .long v4), (6, .long v6)]) hg d_Model_density_137 (Nat.le_of_ble_eq_true rfl) rfl ?_
    refine r_goto (tgt := 117) hg d_Model_density_139 (by decide) ?_
    refine r_sub [3, 4, 5, 1, 0] rfl ?_
    exact hrec_ v3 v4 v6 v10 v12_129 μ
theorem t_Model_density_L117 {cx : HCx} (hg : HGood cx R_Model b_Model_density 14 6 (some .long)) (hA : h_own cx) (K142 : Int32 → Int64 → Int64 → Int64 → HMem → Option (Int64 × HMem)) (hK142 : p_Model_density_142 cx K142) : ∀ (fuel : Nat) (v3 : Int32) (v4 : Int64) (v6 : Int64) (v8 : Int64) (v10 : Int64) (μ : HMem), HX cx (HQ cx h_eJ) (f_Model_density_L117 K142 fuel v3 v4 v6 v8 v10 μ) 0 0 117 [(3, .int v3), (4, .long v4), (6, .long v6), (8, .long v8), (10, .long v10)] [] μ
  | 0, _, _, _, _, _, _ => by unfold f_Model_density_L117; exact HX.none
  | fuel + 1, v3, v4, v6, v8, v10, μ => by
    rw [f_Model_density_L117]
    exact t_Model_density_L117_b hg hA  K142 hK142 (f_Model_density_L117 K142 fuel) (t_Model_density_L117 hg hA  K142 hK142 fuel) v3 v4 v6 v8 v10 μ
theorem t_Model_density_J159 {cx : HCx} (hg : HGood cx R_Model b_Model_density 14 6 (some .long)) (hA : h_own cx)   (s0 : Int64) (μ : HMem) : HX cx (HQ cx h_eJ) (f_Model_density_J159   s0 μ) 0 0 159 [] [.long s0] μ := by
  unfold f_Model_density_J159
  exact r_lret hg hA rfl d_Model_density_159 rfl
theorem t_Model_density_J142 {cx : HCx} (hg : HGood cx R_Model b_Model_density 14 6 (some .long)) (hA : h_own cx)   (v3 : Int32) (v4 : Int64) (v6 : Int64) (v8 : Int64) (μ : HMem) : HX cx (HQ cx h_eJ) (f_Model_density_J142   v3 v4 v6 v8 μ) 0 0 142 [(3, .int v3), (4, .long v4), (6, .long v6), (8, .long v8)] [] μ := by
  unfold f_Model_density_J142
  refine r_iload_n hg 0 d_Model_density_142 rfl rfl ?_
  refine r_if_ne (tgt := 154) hg d_Model_density_143 (by decide) ?_ ?_
  · refine r_lload hg 2 d_Model_density_154 rfl ?_
    refine r_lload hg 3 d_Model_density_156 rfl ?_
    refine r_ldiv hg d_Model_density_158 ?_
    refine r_sub [] rfl ?_
    exact t_Model_density_J159 hg hA (v6 / v8) μ
  · refine r_lload hg 1 d_Model_density_146 rfl ?_
    refine r_lload hg 3 d_Model_density_148 rfl ?_
    refine r_ldiv hg d_Model_density_150 ?_
    refine r_goto (tgt := 159) hg d_Model_density_151 (by decide) ?_
    refine r_sub [] rfl ?_
    exact t_Model_density_J159 hg hA (v4 / v8) μ
theorem t_Model_density_J109 {cx : HCx} (hg : HGood cx R_Model b_Model_density 14 6 (some .long)) (hA : h_own cx)   (v3 : Int32) (v4 : Int64) (v6 : Int64) (μ : HMem) : HX cx (HQ cx h_eJ) (f_Model_density_J109   v3 v4 v6 μ) 0 0 109 [(3, .int v3), (4, .long v4), (6, .long v6)] [] μ := by
  unfold f_Model_density_J109
  refine r_lload hg 1 d_Model_density_109 rfl ?_
  refine r_lstore (l' := [(8, .long v4), (3, .int v3), (4, .long v4), (6, .long v6)]) hg d_Model_density_111 (Nat.le_of_ble_eq_true rfl) rfl ?_
  refine r_lload hg 3 d_Model_density_113 rfl ?_
  refine r_lstore (l' := [(10, .long v6), (8, .long v4), (3, .int v3), (4, .long v4), (6, .long v6)]) hg d_Model_density_115 (Nat.le_of_ble_eq_true rfl) rfl ?_
  refine r_sub [2, 3, 4, 1, 0] rfl ?_
  exact t_Model_density_L117 hg hA f_Model_density_J142 (t_Model_density_J142 hg hA) h_fuel v3 v4 v6 v4 v6 μ
theorem t_Model_density_0 {cx : HCx} (hg : HGood cx R_Model b_Model_density 14 6 (some .long)) (hA : h_own cx) (v1 : Int32) (v2 : Int32) (v3 : Int32) (μ : HMem) : HX cx (HQ cx h_eJ) (f_Model_density v1 v2 v3 μ) 0 0 0 [(0, .ref 125), (1, .int v1), (2, .int v2), (3, .int v3)] [] μ := by
  unfold f_Model_density
  refine r_iload_n hg 1 d_Model_density_0 rfl rfl ?_
  refine r_callS (As := [.int v1]) hg (t_Model_isGraph v1 μ) v_Model_isGraph wm_Model_71 d_Model_density_1 rfl ⟨by decide, by decide⟩ (Nat.le_of_ble_eq_true rfl) rfl (fun r1 μ_1 _ => ?_)
  refine r_if_eq (tgt := 14) hg d_Model_density_4 (by decide) ?_ ?_
  · refine r_sub [0] rfl ?_
    exact t_Model_density_J14 hg hA μ_1
  · refine r_iload_n hg 2 d_Model_density_7 rfl rfl ?_
    refine r_callS (As := [.int v2]) hg (t_Model_isGraph v2 μ_1) v_Model_isGraph wm_Model_71 d_Model_density_8 rfl ⟨by decide, by decide⟩ (Nat.le_of_ble_eq_true rfl) rfl (fun r8 μ_8 _ => ?_)
    refine r_if_ne (tgt := 21) hg d_Model_density_11 (by decide) ?_ ?_
    · refine r_iload_n hg 3 d_Model_density_21 rfl rfl ?_
      refine r_iconst (v := 0) hg d_Model_density_22 (by decide) ?_
      refine r_iconst (v := 1) hg d_Model_density_23 (by decide) ?_
      refine r_callS (As := [.int v3, .int 0, .int 1]) hg (t_Model_in v3 0 1 μ_8) v_Model_in wm_Model_67 d_Model_density_24 rfl ⟨by decide, by decide⟩ (Nat.le_of_ble_eq_true rfl) rfl (fun r24 μ_24 _ => ?_)
      refine r_if_ne (tgt := 37) hg d_Model_density_27 (by decide) ?_ ?_
      · refine r_aload_n hg 0 d_Model_density_37 rfl rfl ?_
        refine r_iload_n hg 1 d_Model_density_38 rfl rfl ?_
        refine r_callV (As := [.int v1]) hg (t_Model_size v1 μ_24) v_Model_size c_Model rfl (by decide) rfl wm_Model_75 d_Model_density_39 rfl ⟨by decide, by decide⟩ (Nat.le_of_ble_eq_true rfl) rfl (fun r39 μ_39 _ => ?_)
        refine r_bipush (v := 6) hg d_Model_density_42 (by decide) ?_
        refine r_icmp_gt (tgt := 55) hg d_Model_density_44 (by decide) ?_ ?_
        · refine r_sub [0] rfl ?_
          exact t_Model_density_J55 hg hA μ_39
        · refine r_aload_n hg 0 d_Model_density_47 rfl rfl ?_
          refine r_iload_n hg 2 d_Model_density_48 rfl rfl ?_
          refine r_callV (As := [.int v2]) hg (t_Model_size v2 μ_39) v_Model_size c_Model rfl (by decide) rfl wm_Model_75 d_Model_density_49 rfl ⟨by decide, by decide⟩ (Nat.le_of_ble_eq_true rfl) rfl (fun r49 μ_49 _ => ?_)
          refine r_if_ne (tgt := 62) hg d_Model_density_52 (by decide) ?_ ?_
          · refine r_aload_n hg 0 d_Model_density_62 rfl rfl ?_
            refine r_iconst (v := 0) hg d_Model_density_63 (by decide) ?_
            refine r_put hg c_Model t_Model_ok n_Model (by decide) rfl (Nat.le_of_ble_eq_true rfl) rfl rfl (by decide +kernel) wf_Model_63 d_Model_density_64 ?_
            refine r_letM (fun μ_64 => ?_)
            refine r_aload_n hg 0 d_Model_density_67 rfl rfl ?_
            refine r_iload_n hg 1 d_Model_density_68 rfl rfl ?_
            refine r_iload_n hg 2 d_Model_density_69 rfl rfl ?_
            refine r_iconst (v := 0) hg d_Model_density_70 (by decide) ?_
            refine r_callV (As := [.int v1, .int v2, .int 0]) hg (t_Model_countOf v1 v2 0 μ_64) v_Model_countOf c_Model rfl (by decide) rfl wm_Model_243 d_Model_density_71 rfl ⟨by decide, by decide⟩ (Nat.le_of_ble_eq_true rfl) rfl (fun r71 μ_71 _ => ?_)
            refine r_lstore (l' := [(4, .long r71), (0, .ref 125), (1, .int v1), (2, .int v2), (3, .int v3)]) hg d_Model_density_74 (Nat.le_of_ble_eq_true rfl) rfl ?_
            refine r_lconst (v := 1) hg d_Model_density_76 (by decide) ?_
            refine r_lstore (l' := [(6, .long 1), (4, .long r71), (0, .ref 125), (1, .int v1), (2, .int v2), (3, .int v3)]) hg d_Model_density_77 (Nat.le_of_ble_eq_true rfl) rfl ?_
            refine r_iconst (v := 0) hg d_Model_density_79 (by decide) ?_
            refine r_istore (l' := [(8, .int 0), (6, .long 1), (4, .long r71), (0, .ref 125), (1, .int v1), (2, .int v2), (3, .int v3)]) hg d_Model_density_80 (Nat.le_of_ble_eq_true rfl) rfl ?_
            refine r_sub [3, 4, 5, 6, 2, 1, 0] rfl ?_
            exact t_Model_density_L82 hg hA f_Model_density_J109 (t_Model_density_J109 hg hA) h_fuel v1 v2 v3 r71 1 0 μ_71
          · refine r_sub [0] rfl ?_
            exact t_Model_density_J55 hg hA μ_49
      · refine r_aload_n hg 0 d_Model_density_30 rfl rfl ?_
        refine r_iconst (v := 2) hg d_Model_density_31 (by decide) ?_
        refine r_callV (As := [.int 2]) hg (t_Model_fails 2 μ_24) v_Model_fails c_Model rfl (by decide) rfl wm_Model_93 d_Model_density_32 rfl ⟨by decide, by decide⟩ (Nat.le_of_ble_eq_true rfl) rfl (fun r32 μ_32 _ => ?_)
        refine r_i2l hg d_Model_density_35 ?_
        exact r_lret hg hA rfl d_Model_density_36 rfl
    · refine r_sub [0] rfl ?_
      exact t_Model_density_J14 hg hA μ_8
theorem t_Model_density (v1 : Int32) (v2 : Int32) (v3 : Int32) (μ : HMem) : HSpec y_Model_density b_Model_density 14 (some .long) 6 h_eJ [.ref 125, .int v1, .int v2, .int v3] μ (f_Model_density v1 v2 v3 μ) :=
  HSpec.of (by decide +kernel) (v_Model_density.1 _ (by simp)) (Nat.le_of_ble_eq_true rfl) (fun cx hA hg => t_Model_density_0 hg hA v1 v2 v3 μ)
theorem t_Model_isLike_J97 {cx : HCx} (hg : HGood cx R_Model b_Model_isLike 6 2 (some .boolean)) (hA : h_own cx)  (rec_ : Int32 → Int32 → Int32 → Int32 → Int32 → HMem → Option (Int32 × HMem)) (hrec_ : p_Model_isLike_30 cx rec_) (v1 : Int32) (v2 : Int32) (v3 : Int32) (v5 : Int32) (s0 : Int32) (μ : HMem) : HX cx (HQ cx h_eI) (f_Model_isLike_J97  rec_ v1 v2 v3 v5 s0 μ) 0 0 97 [(0, .ref 125), (1, .int v1), (2, .int v2), (3, .int v3), (5, .int v5)] [.int s0] μ := by
  unfold f_Model_isLike_J97
  refine r_istore (l' := [(4, .int s0), (0, .ref 125), (1, .int v1), (2, .int v2), (3, .int v3), (5, .int v5)]) hg d_Model_isLike_97 (Nat.le_of_ble_eq_true rfl) rfl ?_
  refine r_letE (fun v5_99 he_99 => ?_)
  refine r_iinc (v := v5_99) (l' := [(5, .int v5_99), (4, .int s0), (0, .ref 125), (1, .int v1), (2, .int v2), (3, .int v3)]) hg 5 d_Model_isLike_99 rfl he_99 (Nat.le_of_ble_eq_true rfl) rfl ?_
  refine r_goto (tgt := 30) hg d_Model_isLike_102 (by decide) ?_
  refine r_sub [2, 3, 4, 5, 1, 0] rfl ?_
  exact hrec_ v1 v2 v3 s0 v5_99 μ
theorem t_Model_isLike_J96 {cx : HCx} (hg : HGood cx R_Model b_Model_isLike 6 2 (some .boolean)) (hA : h_own cx)  (rec_ : Int32 → Int32 → Int32 → Int32 → Int32 → HMem → Option (Int32 × HMem)) (hrec_ : p_Model_isLike_30 cx rec_) (v1 : Int32) (v2 : Int32) (v3 : Int32) (v5 : Int32) (μ : HMem) : HX cx (HQ cx h_eI) (f_Model_isLike_J96  rec_ v1 v2 v3 v5 μ) 0 0 96 [(0, .ref 125), (1, .int v1), (2, .int v2), (3, .int v3), (5, .int v5)] [] μ := by
  unfold f_Model_isLike_J96
  refine r_iconst (v := 0) hg d_Model_isLike_96 (by decide) ?_
  exact t_Model_isLike_J97 hg hA rec_ hrec_ v1 v2 v3 v5 0 μ
theorem t_Model_isLike_J63 {cx : HCx} (hg : HGood cx R_Model b_Model_isLike 6 2 (some .boolean)) (hA : h_own cx)  (rec_ : Int32 → Int32 → Int32 → Int32 → Int32 → HMem → Option (Int32 × HMem)) (hrec_ : p_Model_isLike_30 cx rec_) (v1 : Int32) (v2 : Int32) (v3 : Int32) (v5 : Int32) (μ : HMem) : HX cx (HQ cx h_eI) (f_Model_isLike_J63  rec_ v1 v2 v3 v5 μ) 0 0 63 [(0, .ref 125), (1, .int v1), (2, .int v2), (3, .int v3), (5, .int v5)] [] μ := by
  unfold f_Model_isLike_J63
  refine r_aload_n hg 0 d_Model_isLike_63 rfl rfl ?_
  refine r_iload_n hg 1 d_Model_isLike_64 rfl rfl ?_
  refine r_iload_n hg 3 d_Model_isLike_65 rfl rfl ?_
  refine r_iload hg 4 d_Model_isLike_66 rfl ?_
  refine r_callV (As := [.int v1, .int v3, .int v5]) hg (t_Model_between v1 v3 v5 μ) v_Model_between c_Model rfl (by decide) rfl wm_Model_79 d_Model_isLike_68 rfl ⟨by decide, by decide⟩ (Nat.le_of_ble_eq_true rfl) rfl (fun r68 μ_68 _ => ?_)
  refine r_aload_n hg 0 d_Model_isLike_71 rfl rfl ?_
  refine r_iload_n hg 2 d_Model_isLike_72 rfl rfl ?_
  refine r_aload_n hg 0 d_Model_isLike_73 rfl rfl ?_
  refine r_get (v := .ref 133) hg c_Model (by decide) rfl (Nat.le_of_ble_eq_true rfl) rfl wf_Model_31 d_Model_isLike_74 rfl ?_
  refine r_iload_n hg 3 d_Model_isLike_77 rfl rfl ?_
  refine r_iald hg (by decide) rfl d_Model_isLike_78 ?_
  refine r_aload_n hg 0 d_Model_isLike_79 rfl rfl ?_
  refine r_get (v := .ref 133) hg c_Model (by decide) rfl (Nat.le_of_ble_eq_true rfl) rfl wf_Model_31 d_Model_isLike_80 rfl ?_
  refine r_iload hg 4 d_Model_isLike_83 rfl ?_
  refine r_iald hg (by decide) rfl d_Model_isLike_85 ?_
  refine r_callV (As := [.int v2, .int (μ_68.1 133 (Int32.toNatClampNeg (v3))), .int (μ_68.1 133 (Int32.toNatClampNeg (v5)))]) hg (t_Model_between v2 (μ_68.1 133 (Int32.toNatClampNeg (v3))) (μ_68.1 133 (Int32.toNatClampNeg (v5))) μ_68) v_Model_between c_Model rfl (by decide) rfl wm_Model_79 d_Model_isLike_86 rfl ⟨by decide, by decide⟩ (Nat.le_of_ble_eq_true rfl) rfl (fun r86 μ_86 _ => ?_)
  refine r_icmp_ne (tgt := 96) hg d_Model_isLike_89 (by decide) ?_ ?_
  · exact t_Model_isLike_J96 hg hA rec_ hrec_ v1 v2 v3 v5 μ_86
  · refine r_iconst (v := 1) hg d_Model_isLike_92 (by decide) ?_
    refine r_goto (tgt := 97) hg d_Model_isLike_93 (by decide) ?_
    exact t_Model_isLike_J97 hg hA rec_ hrec_ v1 v2 v3 v5 1 μ_86
theorem t_Model_isLike_L30_b {cx : HCx} (hg : HGood cx R_Model b_Model_isLike 6 2 (some .boolean)) (hA : h_own cx) (K105 : Int32 → HMem → Option (Int32 × HMem)) (hK105 : p_Model_isLike_105 cx K105) (rec_ : Int32 → Int32 → Int32 → Int32 → Int32 → HMem → Option (Int32 × HMem)) (hrec_ : p_Model_isLike_30 cx rec_) (v1 : Int32) (v2 : Int32) (v3 : Int32) (v4 : Int32) (v5 : Int32) (μ : HMem) : HX cx (HQ cx h_eI) (f_Model_isLike_L30_b K105 rec_ v1 v2 v3 v4 v5 μ) 0 0 30 [(0, .ref 125), (1, .int v1), (2, .int v2), (3, .int v3), (4, .int v4), (5, .int v5)] [] μ := by
  unfold f_Model_isLike_L30_b
  refine r_iload hg 5 d_Model_isLike_30 rfl ?_
  refine r_iload_n hg 3 d_Model_isLike_32 rfl rfl ?_
  refine r_icmp_gt (tgt := 105) hg d_Model_isLike_33 (by decide) ?_ ?_
  · refine r_sub [4] rfl ?_
    exact hK105 v4 μ
  · refine r_iload hg 4 d_Model_isLike_36 rfl ?_
    refine r_if_eq (tgt := 105) hg d_Model_isLike_38 (by decide) ?_ ?_
    · refine r_sub [4] rfl ?_
      exact hK105 v4 μ
    · refine r_iload hg 5 d_Model_isLike_41 rfl ?_
      refine r_iload_n hg 3 d_Model_isLike_43 rfl rfl ?_
      refine r_icmp_eq (tgt := 63) hg d_Model_isLike_44 (by decide) ?_ ?_
      · refine r_sub [0, 1, 2, 3, 5] rfl ?_
        exact t_Model_isLike_J63 hg hA rec_ hrec_ v1 v2 v3 v5 μ
      · refine r_aload_n hg 0 d_Model_isLike_47 rfl rfl ?_
        refine r_get (v := .ref 133) hg c_Model (by decide) rfl (Nat.le_of_ble_eq_true rfl) rfl wf_Model_31 d_Model_isLike_48 rfl ?_
        refine r_iload hg 5 d_Model_isLike_51 rfl ?_
        refine r_iald hg (by decide) rfl d_Model_isLike_53 ?_
        refine r_aload_n hg 0 d_Model_isLike_54 rfl rfl ?_
        refine r_get (v := .ref 133) hg c_Model (by decide) rfl (Nat.le_of_ble_eq_true rfl) rfl wf_Model_31 d_Model_isLike_55 rfl ?_
        refine r_iload_n hg 3 d_Model_isLike_58 rfl rfl ?_
        refine r_iald hg (by decide) rfl d_Model_isLike_59 ?_
        refine r_icmp_eq (tgt := 96) hg d_Model_isLike_60 (by decide) ?_ ?_
        · refine r_sub [0, 1, 2, 3, 5] rfl ?_
          exact t_Model_isLike_J96 hg hA rec_ hrec_ v1 v2 v3 v5 μ
        · refine r_sub [0, 1, 2, 3, 5] rfl ?_
          exact t_Model_isLike_J63 hg hA rec_ hrec_ v1 v2 v3 v5 μ
theorem t_Model_isLike_L30 {cx : HCx} (hg : HGood cx R_Model b_Model_isLike 6 2 (some .boolean)) (hA : h_own cx) (K105 : Int32 → HMem → Option (Int32 × HMem)) (hK105 : p_Model_isLike_105 cx K105) : ∀ (fuel : Nat) (v1 : Int32) (v2 : Int32) (v3 : Int32) (v4 : Int32) (v5 : Int32) (μ : HMem), HX cx (HQ cx h_eI) (f_Model_isLike_L30 K105 fuel v1 v2 v3 v4 v5 μ) 0 0 30 [(0, .ref 125), (1, .int v1), (2, .int v2), (3, .int v3), (4, .int v4), (5, .int v5)] [] μ
  | 0, _, _, _, _, _, _ => by unfold f_Model_isLike_L30; exact HX.none
  | fuel + 1, v1, v2, v3, v4, v5, μ => by
    rw [f_Model_isLike_L30]
    exact t_Model_isLike_L30_b hg hA  K105 hK105 (f_Model_isLike_L30 K105 fuel) (t_Model_isLike_L30 hg hA  K105 hK105 fuel) v1 v2 v3 v4 v5 μ
theorem t_Model_isLike_J105 {cx : HCx} (hg : HGood cx R_Model b_Model_isLike 6 2 (some .boolean)) (hA : h_own cx)   (v4 : Int32) (μ : HMem) : HX cx (HQ cx h_eI) (f_Model_isLike_J105   v4 μ) 0 0 105 [(4, .int v4)] [] μ := by
  unfold f_Model_isLike_J105
  refine r_iload hg 0 d_Model_isLike_105 rfl ?_
  exact r_zretB hg hA rfl d_Model_isLike_107 rfl
theorem t_Model_isLike_J25 {cx : HCx} (hg : HGood cx R_Model b_Model_isLike 6 2 (some .boolean)) (hA : h_own cx)   (v1 : Int32) (v2 : Int32) (v3 : Int32) (s0 : Int32) (μ : HMem) : HX cx (HQ cx h_eI) (f_Model_isLike_J25   v1 v2 v3 s0 μ) 0 0 25 [(0, .ref 125), (1, .int v1), (2, .int v2), (3, .int v3)] [.int s0] μ := by
  unfold f_Model_isLike_J25
  refine r_istore (l' := [(4, .int s0), (0, .ref 125), (1, .int v1), (2, .int v2), (3, .int v3)]) hg d_Model_isLike_25 (Nat.le_of_ble_eq_true rfl) rfl ?_
  refine r_iconst (v := 0) hg d_Model_isLike_27 (by decide) ?_
  refine r_istore (l' := [(5, .int 0), (4, .int s0), (0, .ref 125), (1, .int v1), (2, .int v2), (3, .int v3)]) hg d_Model_isLike_28 (Nat.le_of_ble_eq_true rfl) rfl ?_
  refine r_sub [2, 3, 4, 5, 1, 0] rfl ?_
  exact t_Model_isLike_L30 hg hA f_Model_isLike_J105 (t_Model_isLike_J105 hg hA) h_fuel v1 v2 v3 s0 0 μ
theorem t_Model_isLike_0 {cx : HCx} (hg : HGood cx R_Model b_Model_isLike 6 2 (some .boolean)) (hA : h_own cx) (v1 : Int32) (v2 : Int32) (v3 : Int32) (μ : HMem) : HX cx (HQ cx h_eI) (f_Model_isLike v1 v2 v3 μ) 0 0 0 [(0, .ref 125), (1, .int v1), (2, .int v2), (3, .int v3)] [] μ := by
  unfold f_Model_isLike
  refine r_aload_n hg 0 d_Model_isLike_0 rfl rfl ?_
  refine r_iload_n hg 1 d_Model_isLike_1 rfl rfl ?_
  refine r_iload_n hg 3 d_Model_isLike_2 rfl rfl ?_
  refine r_callV (As := [.int v1, .int v3]) hg (t_Model_weight v1 v3 μ) v_Model_weight c_Model rfl (by decide) rfl wm_Model_107 d_Model_isLike_3 rfl ⟨by decide, by decide⟩ (Nat.le_of_ble_eq_true rfl) rfl (fun r3 μ_3 _ => ?_)
  refine r_aload_n hg 0 d_Model_isLike_6 rfl rfl ?_
  refine r_iload_n hg 2 d_Model_isLike_7 rfl rfl ?_
  refine r_aload_n hg 0 d_Model_isLike_8 rfl rfl ?_
  refine r_get (v := .ref 133) hg c_Model (by decide) rfl (Nat.le_of_ble_eq_true rfl) rfl wf_Model_31 d_Model_isLike_9 rfl ?_
  refine r_iload_n hg 3 d_Model_isLike_12 rfl rfl ?_
  refine r_iald hg (by decide) rfl d_Model_isLike_13 ?_
  refine r_callV (As := [.int v2, .int (μ_3.1 133 (Int32.toNatClampNeg (v3)))]) hg (t_Model_weight v2 (μ_3.1 133 (Int32.toNatClampNeg (v3))) μ_3) v_Model_weight c_Model rfl (by decide) rfl wm_Model_107 d_Model_isLike_14 rfl ⟨by decide, by decide⟩ (Nat.le_of_ble_eq_true rfl) rfl (fun r14 μ_14 _ => ?_)
  refine r_icmp_ne (tgt := 24) hg d_Model_isLike_17 (by decide) ?_ ?_
  · refine r_iconst (v := 0) hg d_Model_isLike_24 (by decide) ?_
    exact t_Model_isLike_J25 hg hA v1 v2 v3 0 μ_14
  · refine r_iconst (v := 1) hg d_Model_isLike_20 (by decide) ?_
    refine r_goto (tgt := 25) hg d_Model_isLike_21 (by decide) ?_
    exact t_Model_isLike_J25 hg hA v1 v2 v3 1 μ_14
theorem t_Model_isLike (v1 : Int32) (v2 : Int32) (v3 : Int32) (μ : HMem) : HSpec y_Model_isLike b_Model_isLike 6 (some .boolean) 2 h_eI [.ref 125, .int v1, .int v2, .int v3] μ (f_Model_isLike v1 v2 v3 μ) :=
  HSpec.of (by decide +kernel) (v_Model_isLike.1 _ (by simp)) (Nat.le_of_ble_eq_true rfl) (fun cx hA hg => t_Model_isLike_0 hg hA v1 v2 v3 μ)
