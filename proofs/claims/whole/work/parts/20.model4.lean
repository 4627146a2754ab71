/-! pure programs and their proofs: model4 (written by gen.py) -/
def y_Model_bijectionsOf : MethodName := ⟨R_Model, "bijectionsOf", "(II)I"⟩
abbrev b_Model_bijectionsOf : ByteArray := prog_12_method_68_code
theorem v_Model_bijectionsOf : HVirt y_Model_bijectionsOf b_Model_bijectionsOf 6 (some .int) 2 := ⟨List.forall_mem_cons.mpr ⟨h_inI 1477 (by decide +kernel) rfl, List.forall_mem_cons.mpr ⟨h_inI 76 (by decide +kernel) rfl, List.forall_mem_cons.mpr ⟨h_inI 110 (by decide +kernel) rfl, List.forall_mem_cons.mpr ⟨h_inI 1478 (by decide +kernel) rfl, fun _ h => absurd h List.not_mem_nil⟩⟩⟩⟩, by decide, by decide, by decide +kernel⟩
def y_Model_automorphisms : MethodName := ⟨R_Model, "automorphisms", "(I)I"⟩
abbrev b_Model_automorphisms : ByteArray := prog_12_method_69_code
theorem v_Model_automorphisms : HVirt y_Model_automorphisms b_Model_automorphisms 2 (some .int) 1 := ⟨List.forall_mem_cons.mpr ⟨h_inI 1472 (by decide +kernel) rfl, List.forall_mem_cons.mpr ⟨h_inI 1473 (by decide +kernel) rfl, List.forall_mem_cons.mpr ⟨h_inI 110 (by decide +kernel) rfl, List.forall_mem_cons.mpr ⟨h_inI 1474 (by decide +kernel) rfl, fun _ h => absurd h List.not_mem_nil⟩⟩⟩⟩, by decide, by decide, by decide +kernel⟩
def y_Model_isomorphic : MethodName := ⟨R_Model, "isomorphic", "(II)Z"⟩
abbrev b_Model_isomorphic : ByteArray := prog_12_method_70_code
theorem v_Model_isomorphic : HVirt y_Model_isomorphic b_Model_isomorphic 3 (some .boolean) 2 := ⟨List.forall_mem_cons.mpr ⟨h_inI 1484 (by decide +kernel) rfl, List.forall_mem_cons.mpr ⟨h_inI 1485 (by decide +kernel) rfl, List.forall_mem_cons.mpr ⟨h_inI 110 (by decide +kernel) rfl, List.forall_mem_cons.mpr ⟨h_inI 1486 (by decide +kernel) rfl, fun _ h => absurd h List.not_mem_nil⟩⟩⟩⟩, by decide, by decide, by decide +kernel⟩
def y_Model_image : MethodName := ⟨R_Model, "image", "(III)I"⟩
abbrev b_Model_image : ByteArray := prog_12_method_71_code
theorem v_Model_image : HVirt y_Model_image b_Model_image 4 (some .int) 3 := ⟨List.forall_mem_cons.mpr ⟨h_inI 1488 (by decide +kernel) rfl, List.forall_mem_cons.mpr ⟨h_inI 1489 (by decide +kernel) rfl, List.forall_mem_cons.mpr ⟨h_inI 110 (by decide +kernel) rfl, List.forall_mem_cons.mpr ⟨h_inI 1490 (by decide +kernel) rfl, fun _ h => absurd h List.not_mem_nil⟩⟩⟩⟩, by decide, by decide, by decide +kernel⟩
def y_Model_compared : MethodName := ⟨R_Model, "compared", "(II)I"⟩
abbrev b_Model_compared : ByteArray := prog_12_method_72_code
theorem v_Model_compared : HVirt y_Model_compared b_Model_compared 3 (some .int) 2 := ⟨List.forall_mem_cons.mpr ⟨h_inI 1501 (by decide +kernel) rfl, List.forall_mem_cons.mpr ⟨h_inI 79 (by decide +kernel) rfl, List.forall_mem_cons.mpr ⟨h_inI 110 (by decide +kernel) rfl, List.forall_mem_cons.mpr ⟨h_inI 1502 (by decide +kernel) rfl, fun _ h => absurd h List.not_mem_nil⟩⟩⟩⟩, by decide, by decide, by decide +kernel⟩
def y_Model_compare : MethodName := ⟨R_Model, "compare", "(II)I"⟩
abbrev b_Model_compare : ByteArray := prog_12_method_73_code
theorem v_Model_compare : HVirt y_Model_compare b_Model_compare 3 (some .int) 2 := ⟨List.forall_mem_cons.mpr ⟨h_inI 1496 (by decide +kernel) rfl, List.forall_mem_cons.mpr ⟨h_inI 1497 (by decide +kernel) rfl, List.forall_mem_cons.mpr ⟨h_inI 110 (by decide +kernel) rfl, List.forall_mem_cons.mpr ⟨h_inI 1498 (by decide +kernel) rfl, fun _ h => absurd h List.not_mem_nil⟩⟩⟩⟩, by decide, by decide, by decide +kernel⟩
def y_Model_isApart : MethodName := ⟨R_Model, "isApart", "(II)Z"⟩
abbrev b_Model_isApart : ByteArray := prog_12_method_74_code
theorem v_Model_isApart : HVirt y_Model_isApart b_Model_isApart 5 (some .boolean) 2 := ⟨List.forall_mem_cons.mpr ⟨h_inI 1513 (by decide +kernel) rfl, List.forall_mem_cons.mpr ⟨h_inI 81 (by decide +kernel) rfl, List.forall_mem_cons.mpr ⟨h_inI 110 (by decide +kernel) rfl, List.forall_mem_cons.mpr ⟨h_inI 1514 (by decide +kernel) rfl, fun _ h => absurd h List.not_mem_nil⟩⟩⟩⟩, by decide, by decide, by decide +kernel⟩
def y_Model_partitions : MethodName := ⟨R_Model, "partitions", "(I)V"⟩
abbrev b_Model_partitions : ByteArray := prog_12_method_75_code
theorem v_Model_partitions : HVirt y_Model_partitions b_Model_partitions 4 none 1 := ⟨List.forall_mem_cons.mpr ⟨h_inI 1509 (by decide +kernel) rfl, List.forall_mem_cons.mpr ⟨h_inI 80 (by decide +kernel) rfl, List.forall_mem_cons.mpr ⟨h_inI 110 (by decide +kernel) rfl, List.forall_mem_cons.mpr ⟨h_inI 1510 (by decide +kernel) rfl, fun _ h => absurd h List.not_mem_nil⟩⟩⟩⟩, by decide, by decide, by decide +kernel⟩
def y_Model_colorings : MethodName := ⟨R_Model, "colorings", "(II)J"⟩
abbrev b_Model_colorings : ByteArray := prog_12_method_76_code
theorem v_Model_colorings : HVirt y_Model_colorings b_Model_colorings 8 (some .long) 2 := ⟨List.forall_mem_cons.mpr ⟨h_inI 1504 (by decide +kernel) rfl, List.forall_mem_cons.mpr ⟨h_inI 1505 (by decide +kernel) rfl, List.forall_mem_cons.mpr ⟨h_inI 110 (by decide +kernel) rfl, List.forall_mem_cons.mpr ⟨h_inI 1506 (by decide +kernel) rfl, fun _ h => absurd h List.not_mem_nil⟩⟩⟩⟩, by decide, by decide, by decide +kernel⟩
def y_Model_chromatic : MethodName := ⟨R_Model, "chromatic", "(I)I"⟩
abbrev b_Model_chromatic : ByteArray := prog_12_method_77_code
theorem v_Model_chromatic : HVirt y_Model_chromatic b_Model_chromatic 4 (some .int) 1 := ⟨List.forall_mem_cons.mpr ⟨h_inI 1516 (by decide +kernel) rfl, List.forall_mem_cons.mpr ⟨h_inI 1517 (by decide +kernel) rfl, List.forall_mem_cons.mpr ⟨h_inI 110 (by decide +kernel) rfl, List.forall_mem_cons.mpr ⟨h_inI 1518 (by decide +kernel) rfl, fun _ h => absurd h List.not_mem_nil⟩⟩⟩⟩, by decide, by decide, by decide +kernel⟩
def y_Model_isIndependent : MethodName := ⟨R_Model, "isIndependent", "(II)Z"⟩
abbrev b_Model_isIndependent : ByteArray := prog_12_method_78_code
theorem v_Model_isIndependent : HVirt y_Model_isIndependent b_Model_isIndependent 5 (some .boolean) 2 := ⟨List.forall_mem_cons.mpr ⟨h_inI 1525 (by decide +kernel) rfl, List.forall_mem_cons.mpr ⟨h_inI 82 (by decide +kernel) rfl, List.forall_mem_cons.mpr ⟨h_inI 110 (by decide +kernel) rfl, List.forall_mem_cons.mpr ⟨h_inI 1526 (by decide +kernel) rfl, fun _ h => absurd h List.not_mem_nil⟩⟩⟩⟩, by decide, by decide, by decide +kernel⟩
def y_Model_independent : MethodName := ⟨R_Model, "independent", "(II)I"⟩
abbrev b_Model_independent : ByteArray := prog_12_method_79_code
theorem v_Model_independent : HVirt y_Model_independent b_Model_independent 5 (some .int) 2 := ⟨List.forall_mem_cons.mpr ⟨h_inI 1520 (by decide +kernel) rfl, List.forall_mem_cons.mpr ⟨h_inI 1521 (by decide +kernel) rfl, List.forall_mem_cons.mpr ⟨h_inI 110 (by decide +kernel) rfl, List.forall_mem_cons.mpr ⟨h_inI 1522 (by decide +kernel) rfl, fun _ h => absurd h List.not_mem_nil⟩⟩⟩⟩, by decide, by decide, by decide +kernel⟩
def y_Model_walksFrom : MethodName := ⟨R_Model, "walksFrom", "(III)V"⟩
abbrev b_Model_walksFrom : ByteArray := prog_12_method_80_code
theorem v_Model_walksFrom : HVirt y_Model_walksFrom b_Model_walksFrom 7 none 3 := ⟨List.forall_mem_cons.mpr ⟨h_inI 1533 (by decide +kernel) rfl, List.forall_mem_cons.mpr ⟨h_inI 83 (by decide +kernel) rfl, List.forall_mem_cons.mpr ⟨h_inI 110 (by decide +kernel) rfl, List.forall_mem_cons.mpr ⟨h_inI 1534 (by decide +kernel) rfl, fun _ h => absurd h List.not_mem_nil⟩⟩⟩⟩, by decide, by decide, by decide +kernel⟩
def y_Model_walks : MethodName := ⟨R_Model, "walks", "(IIZ)J"⟩
abbrev b_Model_walks : ByteArray := prog_12_method_81_code
theorem v_Model_walks : HVirt y_Model_walks b_Model_walks 8 (some .long) 3 := ⟨List.forall_mem_cons.mpr ⟨h_inI 1528 (by decide +kernel) rfl, List.forall_mem_cons.mpr ⟨h_inI 1529 (by decide +kernel) rfl, List.forall_mem_cons.mpr ⟨h_inI 110 (by decide +kernel) rfl, List.forall_mem_cons.mpr ⟨h_inI 1530 (by decide +kernel) rfl, fun _ h => absurd h List.not_mem_nil⟩⟩⟩⟩, by decide, by decide, by decide +kernel⟩
def y_Model_isFold : MethodName := ⟨R_Model, "isFold", "(III)Z"⟩
abbrev b_Model_isFold : ByteArray := prog_12_method_82_code
theorem v_Model_isFold : HVirt y_Model_isFold b_Model_isFold 6 (some .boolean) 3 := ⟨List.forall_mem_cons.mpr ⟨h_inI 1545 (by decide +kernel) rfl, List.forall_mem_cons.mpr ⟨h_inI 85 (by decide +kernel) rfl, List.forall_mem_cons.mpr ⟨h_inI 110 (by decide +kernel) rfl, List.forall_mem_cons.mpr ⟨h_inI 1546 (by decide +kernel) rfl, fun _ h => absurd h List.not_mem_nil⟩⟩⟩⟩, by decide, by decide, by decide +kernel⟩
def y_Model_foldsOf : MethodName := ⟨R_Model, "foldsOf", "(II)I"⟩
abbrev b_Model_foldsOf : ByteArray := prog_12_method_83_code
theorem v_Model_foldsOf : HVirt y_Model_foldsOf b_Model_foldsOf 5 (some .int) 2 := ⟨List.forall_mem_cons.mpr ⟨h_inI 1541 (by decide +kernel) rfl, List.forall_mem_cons.mpr ⟨h_inI 84 (by decide +kernel) rfl, List.forall_mem_cons.mpr ⟨h_inI 110 (by decide +kernel) rfl, List.forall_mem_cons.mpr ⟨h_inI 1542 (by decide +kernel) rfl, fun _ h => absurd h List.not_mem_nil⟩⟩⟩⟩, by decide, by decide, by decide +kernel⟩
def y_Model_folds : MethodName := ⟨R_Model, "folds", "(II)I"⟩
abbrev b_Model_folds : ByteArray := prog_12_method_84_code
theorem v_Model_folds : HVirt y_Model_folds b_Model_folds 3 (some .int) 2 := ⟨List.forall_mem_cons.mpr ⟨h_inI 1536 (by decide +kernel) rfl, List.forall_mem_cons.mpr ⟨h_inI 1537 (by decide +kernel) rfl, List.forall_mem_cons.mpr ⟨h_inI 110 (by decide +kernel) rfl, List.forall_mem_cons.mpr ⟨h_inI 1538 (by decide +kernel) rfl, fun _ h => absurd h List.not_mem_nil⟩⟩⟩⟩, by decide, by decide, by decide +kernel⟩
def y_Model_lowestFolded : MethodName := ⟨R_Model, "lowestFolded", "(I)I"⟩
abbrev b_Model_lowestFolded : ByteArray := prog_12_method_85_code
theorem v_Model_lowestFolded : HVirt y_Model_lowestFolded b_Model_lowestFolded 4 (some .int) 1 := ⟨List.forall_mem_cons.mpr ⟨h_inI 1553 (by decide +kernel) rfl, List.forall_mem_cons.mpr ⟨h_inI 86 (by decide +kernel) rfl, List.forall_mem_cons.mpr ⟨h_inI 110 (by decide +kernel) rfl, List.forall_mem_cons.mpr ⟨h_inI 1554 (by decide +kernel) rfl, fun _ h => absurd h List.not_mem_nil⟩⟩⟩⟩, by decide, by decide, by decide +kernel⟩
def y_Model_dismantle : MethodName := ⟨R_Model, "dismantle", "(I)I"⟩
abbrev b_Model_dismantle : ByteArray := prog_12_method_86_code
theorem v_Model_dismantle : HVirt y_Model_dismantle b_Model_dismantle 4 (some .int) 1 := ⟨List.forall_mem_cons.mpr ⟨h_inI 1548 (by decide +kernel) rfl, List.forall_mem_cons.mpr ⟨h_inI 1549 (by decide +kernel) rfl, List.forall_mem_cons.mpr ⟨h_inI 110 (by decide +kernel) rfl, List.forall_mem_cons.mpr ⟨h_inI 1550 (by decide +kernel) rfl, fun _ h => absurd h List.not_mem_nil⟩⟩⟩⟩, by decide, by decide, by decide +kernel⟩
def y_Model_isCore : MethodName := ⟨R_Model, "isCore", "(I)Z"⟩
abbrev b_Model_isCore : ByteArray := prog_12_method_89_code
theorem v_Model_isCore : HVirt y_Model_isCore b_Model_isCore 2 (some .boolean) 1 := ⟨List.forall_mem_cons.mpr ⟨h_inI 1556 (by decide +kernel) rfl, List.forall_mem_cons.mpr ⟨h_inI 1557 (by decide +kernel) rfl, List.forall_mem_cons.mpr ⟨h_inI 110 (by decide +kernel) rfl, List.forall_mem_cons.mpr ⟨h_inI 1558 (by decide +kernel) rfl, fun _ h => absurd h List.not_mem_nil⟩⟩⟩⟩, by decide, by decide, by decide +kernel⟩
def y_Model_coreOf : MethodName := ⟨R_Model, "coreOf", "(I)I"⟩
abbrev b_Model_coreOf : ByteArray := prog_12_method_90_code
theorem v_Model_coreOf : HVirt y_Model_coreOf b_Model_coreOf 2 (some .int) 1 := ⟨List.forall_mem_cons.mpr ⟨h_inI 1565 (by decide +kernel) rfl, List.forall_mem_cons.mpr ⟨h_inI 87 (by decide +kernel) rfl, List.forall_mem_cons.mpr ⟨h_inI 110 (by decide +kernel) rfl, List.forall_mem_cons.mpr ⟨h_inI 1566 (by decide +kernel) rfl, fun _ h => absurd h List.not_mem_nil⟩⟩⟩⟩, by decide, by decide, by decide +kernel⟩
def y_Model_coreSize : MethodName := ⟨R_Model, "coreSize", "(I)I"⟩
abbrev b_Model_coreSize : ByteArray := prog_12_method_91_code
theorem v_Model_coreSize : HVirt y_Model_coreSize b_Model_coreSize 2 (some .int) 1 := ⟨List.forall_mem_cons.mpr ⟨h_inI 1560 (by decide +kernel) rfl, List.forall_mem_cons.mpr ⟨h_inI 1561 (by decide +kernel) rfl, List.forall_mem_cons.mpr ⟨h_inI 110 (by decide +kernel) rfl, List.forall_mem_cons.mpr ⟨h_inI 1562 (by decide +kernel) rfl, fun _ h => absurd h List.not_mem_nil⟩⟩⟩⟩, by decide, by decide, by decide +kernel⟩
def y_Model_append : MethodName := ⟨R_Model, "append", "(I)I"⟩
abbrev b_Model_append : ByteArray := prog_12_method_92_code
theorem v_Model_append : HVirt y_Model_append b_Model_append 2 (some .int) 1 := ⟨List.forall_mem_cons.mpr ⟨h_inI 1568 (by decide +kernel) rfl, List.forall_mem_cons.mpr ⟨h_inI 1569 (by decide +kernel) rfl, List.forall_mem_cons.mpr ⟨h_inI 110 (by decide +kernel) rfl, List.forall_mem_cons.mpr ⟨h_inI 1570 (by decide +kernel) rfl, fun _ h => absurd h List.not_mem_nil⟩⟩⟩⟩, by decide, by decide, by decide +kernel⟩
theorem wm_Model_247 : Cond.methodLink R_Model 247 y_Model_isLike ∈ h_tb := h_inI 1479 (by decide +kernel) rfl
theorem wm_Model_250 : Cond.methodLink R_Model 250 y_Model_bijectionsOf ∈ h_tb := h_inI 1475 (by decide +kernel) rfl
theorem wm_Model_253 : Cond.methodLink R_Model 253 y_Model_firstImage ∈ h_tb := h_inI 1491 (by decide +kernel) rfl
theorem wm_Model_256 : Cond.methodLink R_Model 256 y_Model_compared ∈ h_tb := h_inI 1499 (by decide +kernel) rfl
theorem wf_Model_47 : Cond.fieldLink R_Model 47 (F_Model 17).1 (F_Model 17).2.1 (F_Model 17).2.2.1 ∈ h_tb := h_inI 1144 (by decide +kernel) rfl
theorem wf_Model_51 : Cond.fieldLink R_Model 51 (F_Model 18).1 (F_Model 18).2.1 (F_Model 18).2.2.1 ∈ h_tb := h_inI 1145 (by decide +kernel) rfl
theorem wm_Model_259 : Cond.methodLink R_Model 259 y_Model_isApart ∈ h_tb := h_inI 1511 (by decide +kernel) rfl
theorem wm_Model_262 : Cond.methodLink R_Model 262 y_Model_partitions ∈ h_tb := h_inI 1507 (by decide +kernel) rfl
theorem wm_Model_265 : Cond.methodLink R_Model 265 y_Model_isIndependent ∈ h_tb := h_inI 1523 (by decide +kernel) rfl
theorem wf_Model_54 : Cond.fieldLink R_Model 54 (F_Model 19).1 (F_Model 19).2.1 (F_Model 19).2.2.1 ∈ h_tb := h_inI 1146 (by decide +kernel) rfl
theorem wf_Model_57 : Cond.fieldLink R_Model 57 (F_Model 20).1 (F_Model 20).2.1 (F_Model 20).2.2.1 ∈ h_tb := h_inI 1147 (by decide +kernel) rfl
theorem wm_Model_268 : Cond.methodLink R_Model 268 y_Model_walksFrom ∈ h_tb := h_inI 1531 (by decide +kernel) rfl
theorem wm_Model_271 : Cond.methodLink R_Model 271 y_Model_isFold ∈ h_tb := h_inI 1543 (by decide +kernel) rfl
theorem wm_Model_274 : Cond.methodLink R_Model 274 y_Model_foldsOf ∈ h_tb := h_inI 1539 (by decide +kernel) rfl
theorem wm_Model_277 : Cond.methodLink R_Model 277 y_Model_lowestFolded ∈ h_tb := h_inI 1551 (by decide +kernel) rfl
theorem wm_Model_286 : Cond.methodLink R_Model 286 y_Model_coreOf ∈ h_tb := h_inI 1563 (by decide +kernel) rfl
theorem wf_Model_16 : Cond.fieldLink R_Model 16 (F_Model 3).1 (F_Model 3).2.1 (F_Model 3).2.2.1 ∈ h_tb := h_inI 1130 (by decide +kernel) rfl
theorem wf_Model_289 : Cond.fieldLink R_Model 289 (F_Model 4).1 (F_Model 4).2.1 (F_Model 4).2.2.1 ∈ h_tb := h_inI 1131 (by decide +kernel) rfl
theorem d_Model_bijectionsOf_0 : decode b_Model_bijectionsOf 0 = .ok (.aload_n 0, 1) := by decide +kernel
theorem d_Model_bijectionsOf_1 : decode b_Model_bijectionsOf 1 = .ok (.iload_n 1, 1) := by decide +kernel
theorem d_Model_bijectionsOf_2 : decode b_Model_bijectionsOf 2 = .ok (.invokevirtual 75, 3) := by decide +kernel
theorem d_Model_bijectionsOf_5 : decode b_Model_bijectionsOf 5 = .ok (.istore_n 3, 1) := by decide +kernel
theorem d_Model_bijectionsOf_6 : decode b_Model_bijectionsOf 6 = .ok (.iconst 0, 1) := by decide +kernel
theorem d_Model_bijectionsOf_7 : decode b_Model_bijectionsOf 7 = .ok (.istore 4, 2) := by decide +kernel
theorem d_Model_bijectionsOf_9 : decode b_Model_bijectionsOf 9 = .ok (.iload_n 3, 1) := by decide +kernel
theorem d_Model_bijectionsOf_10 : decode b_Model_bijectionsOf 10 = .ok (.aload_n 0, 1) := by decide +kernel
theorem d_Model_bijectionsOf_11 : decode b_Model_bijectionsOf 11 = .ok (.iload_n 2, 1) := by decide +kernel
theorem d_Model_bijectionsOf_12 : decode b_Model_bijectionsOf 12 = .ok (.invokevirtual 75, 3) := by decide +kernel
theorem d_Model_bijectionsOf_15 : decode b_Model_bijectionsOf 15 = .ok (.if_icmp .ne 7, 3) := by decide +kernel
theorem d_Model_bijectionsOf_18 : decode b_Model_bijectionsOf 18 = .ok (.iconst 0, 1) := by decide +kernel
theorem d_Model_bijectionsOf_19 : decode b_Model_bijectionsOf 19 = .ok (.goto 4, 3) := by decide +kernel
theorem d_Model_bijectionsOf_22 : decode b_Model_bijectionsOf 22 = .ok (.iconst (-1), 1) := by decide +kernel
theorem d_Model_bijectionsOf_23 : decode b_Model_bijectionsOf 23 = .ok (.istore 5, 2) := by decide +kernel
theorem d_Model_bijectionsOf_25 : decode b_Model_bijectionsOf 25 = .ok (.aload_n 0, 1) := by decide +kernel
theorem d_Model_bijectionsOf_26 : decode b_Model_bijectionsOf 26 = .ok (.getfield 31, 3) := by decide +kernel
theorem d_Model_bijectionsOf_29 : decode b_Model_bijectionsOf 29 = .ok (.iconst 0, 1) := by decide +kernel
theorem d_Model_bijectionsOf_30 : decode b_Model_bijectionsOf 30 = .ok (.iconst (-1), 1) := by decide +kernel
theorem d_Model_bijectionsOf_31 : decode b_Model_bijectionsOf 31 = .ok (.iastore, 1) := by decide +kernel
theorem d_Model_bijectionsOf_32 : decode b_Model_bijectionsOf 32 = .ok (.iload 5, 2) := by decide +kernel
theorem d_Model_bijectionsOf_34 : decode b_Model_bijectionsOf 34 = .ok (.ifCond .lt 96, 3) := by decide +kernel
theorem d_Model_bijectionsOf_37 : decode b_Model_bijectionsOf 37 = .ok (.iload 5, 2) := by decide +kernel
theorem d_Model_bijectionsOf_39 : decode b_Model_bijectionsOf 39 = .ok (.iload_n 3, 1) := by decide +kernel
theorem d_Model_bijectionsOf_40 : decode b_Model_bijectionsOf 40 = .ok (.if_icmp .ne 12, 3) := by decide +kernel
theorem d_Model_bijectionsOf_43 : decode b_Model_bijectionsOf 43 = .ok (.iinc 4 1, 3) := by decide +kernel
theorem d_Model_bijectionsOf_46 : decode b_Model_bijectionsOf 46 = .ok (.iinc 5 (-1), 3) := by decide +kernel
theorem d_Model_bijectionsOf_49 : decode b_Model_bijectionsOf 49 = .ok (.goto (-17), 3) := by decide +kernel
theorem d_Model_bijectionsOf_52 : decode b_Model_bijectionsOf 52 = .ok (.aload_n 0, 1) := by decide +kernel
theorem d_Model_bijectionsOf_53 : decode b_Model_bijectionsOf 53 = .ok (.getfield 31, 3) := by decide +kernel
theorem d_Model_bijectionsOf_56 : decode b_Model_bijectionsOf 56 = .ok (.iload 5, 2) := by decide +kernel
theorem d_Model_bijectionsOf_58 : decode b_Model_bijectionsOf 58 = .ok (.dup2, 1) := by decide +kernel
theorem d_Model_bijectionsOf_59 : decode b_Model_bijectionsOf 59 = .ok (.iaload, 1) := by decide +kernel
theorem d_Model_bijectionsOf_60 : decode b_Model_bijectionsOf 60 = .ok (.iconst 1, 1) := by decide +kernel
theorem d_Model_bijectionsOf_61 : decode b_Model_bijectionsOf 61 = .ok (.iadd, 1) := by decide +kernel
theorem d_Model_bijectionsOf_62 : decode b_Model_bijectionsOf 62 = .ok (.iastore, 1) := by decide +kernel
theorem d_Model_bijectionsOf_63 : decode b_Model_bijectionsOf 63 = .ok (.aload_n 0, 1) := by decide +kernel
theorem d_Model_bijectionsOf_64 : decode b_Model_bijectionsOf 64 = .ok (.getfield 31, 3) := by decide +kernel
theorem d_Model_bijectionsOf_67 : decode b_Model_bijectionsOf 67 = .ok (.iload 5, 2) := by decide +kernel
theorem d_Model_bijectionsOf_69 : decode b_Model_bijectionsOf 69 = .ok (.iaload, 1) := by decide +kernel
theorem d_Model_bijectionsOf_70 : decode b_Model_bijectionsOf 70 = .ok (.iload_n 3, 1) := by decide +kernel
theorem d_Model_bijectionsOf_71 : decode b_Model_bijectionsOf 71 = .ok (.if_icmp .ge 28, 3) := by decide +kernel
theorem d_Model_bijectionsOf_74 : decode b_Model_bijectionsOf 74 = .ok (.aload_n 0, 1) := by decide +kernel
theorem d_Model_bijectionsOf_75 : decode b_Model_bijectionsOf 75 = .ok (.iload_n 1, 1) := by decide +kernel
theorem d_Model_bijectionsOf_76 : decode b_Model_bijectionsOf 76 = .ok (.iload_n 2, 1) := by decide +kernel
theorem d_Model_bijectionsOf_77 : decode b_Model_bijectionsOf 77 = .ok (.iload 5, 2) := by decide +kernel
theorem d_Model_bijectionsOf_79 : decode b_Model_bijectionsOf 79 = .ok (.invokevirtual 247, 3) := by decide +kernel
theorem d_Model_bijectionsOf_82 : decode b_Model_bijectionsOf 82 = .ok (.ifCond .ne 17, 3) := by decide +kernel
theorem d_Model_bijectionsOf_85 : decode b_Model_bijectionsOf 85 = .ok (.aload_n 0, 1) := by decide +kernel
theorem d_Model_bijectionsOf_86 : decode b_Model_bijectionsOf 86 = .ok (.getfield 31, 3) := by decide +kernel
theorem d_Model_bijectionsOf_89 : decode b_Model_bijectionsOf 89 = .ok (.iload 5, 2) := by decide +kernel
theorem d_Model_bijectionsOf_91 : decode b_Model_bijectionsOf 91 = .ok (.dup2, 1) := by decide +kernel
theorem d_Model_bijectionsOf_92 : decode b_Model_bijectionsOf 92 = .ok (.iaload, 1) := by decide +kernel
theorem d_Model_bijectionsOf_93 : decode b_Model_bijectionsOf 93 = .ok (.iconst 1, 1) := by decide +kernel
theorem d_Model_bijectionsOf_94 : decode b_Model_bijectionsOf 94 = .ok (.iadd, 1) := by decide +kernel
theorem d_Model_bijectionsOf_95 : decode b_Model_bijectionsOf 95 = .ok (.iastore, 1) := by decide +kernel
theorem d_Model_bijectionsOf_96 : decode b_Model_bijectionsOf 96 = .ok (.goto (-33), 3) := by decide +kernel
theorem d_Model_bijectionsOf_99 : decode b_Model_bijectionsOf 99 = .ok (.aload_n 0, 1) := by decide +kernel
theorem d_Model_bijectionsOf_100 : decode b_Model_bijectionsOf 100 = .ok (.getfield 31, 3) := by decide +kernel
theorem d_Model_bijectionsOf_103 : decode b_Model_bijectionsOf 103 = .ok (.iload 5, 2) := by decide +kernel
theorem d_Model_bijectionsOf_105 : decode b_Model_bijectionsOf 105 = .ok (.iaload, 1) := by decide +kernel
theorem d_Model_bijectionsOf_106 : decode b_Model_bijectionsOf 106 = .ok (.iload_n 3, 1) := by decide +kernel
theorem d_Model_bijectionsOf_107 : decode b_Model_bijectionsOf 107 = .ok (.if_icmp .ge 17, 3) := by decide +kernel
theorem d_Model_bijectionsOf_110 : decode b_Model_bijectionsOf 110 = .ok (.iinc 5 1, 3) := by decide +kernel
theorem d_Model_bijectionsOf_113 : decode b_Model_bijectionsOf 113 = .ok (.aload_n 0, 1) := by decide +kernel
theorem d_Model_bijectionsOf_114 : decode b_Model_bijectionsOf 114 = .ok (.getfield 31, 3) := by decide +kernel
theorem d_Model_bijectionsOf_117 : decode b_Model_bijectionsOf 117 = .ok (.iload 5, 2) := by decide +kernel
theorem d_Model_bijectionsOf_119 : decode b_Model_bijectionsOf 119 = .ok (.iconst (-1), 1) := by decide +kernel
theorem d_Model_bijectionsOf_120 : decode b_Model_bijectionsOf 120 = .ok (.iastore, 1) := by decide +kernel
theorem d_Model_bijectionsOf_121 : decode b_Model_bijectionsOf 121 = .ok (.goto (-89), 3) := by decide +kernel
theorem d_Model_bijectionsOf_124 : decode b_Model_bijectionsOf 124 = .ok (.iinc 5 (-1), 3) := by decide +kernel
theorem d_Model_bijectionsOf_127 : decode b_Model_bijectionsOf 127 = .ok (.goto (-95), 3) := by decide +kernel
theorem d_Model_bijectionsOf_130 : decode b_Model_bijectionsOf 130 = .ok (.iload 4, 2) := by decide +kernel
theorem d_Model_bijectionsOf_132 : decode b_Model_bijectionsOf 132 = .ok (.ireturn, 1) := by decide +kernel
theorem d_Model_automorphisms_0 : decode b_Model_automorphisms 0 = .ok (.iload_n 1, 1) := by decide +kernel
theorem d_Model_automorphisms_1 : decode b_Model_automorphisms 1 = .ok (.invokestatic 71, 3) := by decide +kernel
theorem d_Model_automorphisms_4 : decode b_Model_automorphisms 4 = .ok (.ifCond .eq 16, 3) := by decide +kernel
theorem d_Model_automorphisms_7 : decode b_Model_automorphisms 7 = .ok (.aload_n 0, 1) := by decide +kernel
theorem d_Model_automorphisms_8 : decode b_Model_automorphisms 8 = .ok (.aload_n 0, 1) := by decide +kernel
theorem d_Model_automorphisms_9 : decode b_Model_automorphisms 9 = .ok (.iload_n 1, 1) := by decide +kernel
theorem d_Model_automorphisms_10 : decode b_Model_automorphisms 10 = .ok (.iload_n 1, 1) := by decide +kernel
theorem d_Model_automorphisms_11 : decode b_Model_automorphisms 11 = .ok (.invokevirtual 250, 3) := by decide +kernel
theorem d_Model_automorphisms_14 : decode b_Model_automorphisms 14 = .ok (.invokevirtual 171, 3) := by decide +kernel
theorem d_Model_automorphisms_17 : decode b_Model_automorphisms 17 = .ok (.goto 8, 3) := by decide +kernel
theorem d_Model_automorphisms_20 : decode b_Model_automorphisms 20 = .ok (.aload_n 0, 1) := by decide +kernel
theorem d_Model_automorphisms_21 : decode b_Model_automorphisms 21 = .ok (.iconst 1, 1) := by decide +kernel
theorem d_Model_automorphisms_22 : decode b_Model_automorphisms 22 = .ok (.invokevirtual 93, 3) := by decide +kernel
theorem d_Model_automorphisms_25 : decode b_Model_automorphisms 25 = .ok (.ireturn, 1) := by decide +kernel
theorem d_Model_isomorphic_0 : decode b_Model_isomorphic 0 = .ok (.aload_n 0, 1) := by decide +kernel
theorem d_Model_isomorphic_1 : decode b_Model_isomorphic 1 = .ok (.iload_n 1, 1) := by decide +kernel
theorem d_Model_isomorphic_2 : decode b_Model_isomorphic 2 = .ok (.invokestatic 71, 3) := by decide +kernel
theorem d_Model_isomorphic_5 : decode b_Model_isomorphic 5 = .ok (.ifCond .eq 14, 3) := by decide +kernel
theorem d_Model_isomorphic_8 : decode b_Model_isomorphic 8 = .ok (.iload_n 2, 1) := by decide +kernel
theorem d_Model_isomorphic_9 : decode b_Model_isomorphic 9 = .ok (.invokestatic 71, 3) := by decide +kernel
theorem d_Model_isomorphic_12 : decode b_Model_isomorphic 12 = .ok (.ifCond .eq 7, 3) := by decide +kernel
theorem d_Model_isomorphic_15 : decode b_Model_isomorphic 15 = .ok (.iconst 0, 1) := by decide +kernel
theorem d_Model_isomorphic_16 : decode b_Model_isomorphic 16 = .ok (.goto 4, 3) := by decide +kernel
theorem d_Model_isomorphic_19 : decode b_Model_isomorphic 19 = .ok (.iconst 1, 1) := by decide +kernel
theorem d_Model_isomorphic_20 : decode b_Model_isomorphic 20 = .ok (.putfield 63, 3) := by decide +kernel
theorem d_Model_isomorphic_23 : decode b_Model_isomorphic 23 = .ok (.aload_n 0, 1) := by decide +kernel
theorem d_Model_isomorphic_24 : decode b_Model_isomorphic 24 = .ok (.getfield 63, 3) := by decide +kernel
theorem d_Model_isomorphic_27 : decode b_Model_isomorphic 27 = .ok (.ifCond .ne 16, 3) := by decide +kernel
theorem d_Model_isomorphic_30 : decode b_Model_isomorphic 30 = .ok (.aload_n 0, 1) := by decide +kernel
theorem d_Model_isomorphic_31 : decode b_Model_isomorphic 31 = .ok (.iload_n 1, 1) := by decide +kernel
theorem d_Model_isomorphic_32 : decode b_Model_isomorphic 32 = .ok (.iload_n 2, 1) := by decide +kernel
theorem d_Model_isomorphic_33 : decode b_Model_isomorphic 33 = .ok (.invokevirtual 250, 3) := by decide +kernel
theorem d_Model_isomorphic_36 : decode b_Model_isomorphic 36 = .ok (.ifCond .le 7, 3) := by decide +kernel
theorem d_Model_isomorphic_39 : decode b_Model_isomorphic 39 = .ok (.iconst 1, 1) := by decide +kernel
theorem d_Model_isomorphic_40 : decode b_Model_isomorphic 40 = .ok (.goto 4, 3) := by decide +kernel
theorem d_Model_isomorphic_43 : decode b_Model_isomorphic 43 = .ok (.iconst 0, 1) := by decide +kernel
theorem d_Model_isomorphic_44 : decode b_Model_isomorphic 44 = .ok (.ireturn, 1) := by decide +kernel
theorem d_Model_image_0 : decode b_Model_image 0 = .ok (.aload_n 0, 1) := by decide +kernel
theorem d_Model_image_1 : decode b_Model_image 1 = .ok (.iload_n 1, 1) := by decide +kernel
theorem d_Model_image_2 : decode b_Model_image 2 = .ok (.iload_n 3, 1) := by decide +kernel
theorem d_Model_image_3 : decode b_Model_image 3 = .ok (.invokevirtual 103, 3) := by decide +kernel
theorem d_Model_image_6 : decode b_Model_image 6 = .ok (.ifCond .eq 10, 3) := by decide +kernel
theorem d_Model_image_9 : decode b_Model_image 9 = .ok (.iload_n 2, 1) := by decide +kernel
theorem d_Model_image_10 : decode b_Model_image 10 = .ok (.invokestatic 71, 3) := by decide +kernel
theorem d_Model_image_13 : decode b_Model_image 13 = .ok (.ifCond .ne 9, 3) := by decide +kernel
theorem d_Model_image_16 : decode b_Model_image 16 = .ok (.aload_n 0, 1) := by decide +kernel
theorem d_Model_image_17 : decode b_Model_image 17 = .ok (.iconst 1, 1) := by decide +kernel
theorem d_Model_image_18 : decode b_Model_image 18 = .ok (.invokevirtual 93, 3) := by decide +kernel
theorem d_Model_image_21 : decode b_Model_image 21 = .ok (.ireturn, 1) := by decide +kernel
theorem d_Model_image_22 : decode b_Model_image 22 = .ok (.aload_n 0, 1) := by decide +kernel
theorem d_Model_image_23 : decode b_Model_image 23 = .ok (.aload_n 0, 1) := by decide +kernel
theorem d_Model_image_24 : decode b_Model_image 24 = .ok (.iload_n 1, 1) := by decide +kernel
theorem d_Model_image_25 : decode b_Model_image 25 = .ok (.iload_n 2, 1) := by decide +kernel
theorem d_Model_image_26 : decode b_Model_image 26 = .ok (.iload_n 3, 1) := by decide +kernel
theorem d_Model_image_27 : decode b_Model_image 27 = .ok (.invokevirtual 253, 3) := by decide +kernel
theorem d_Model_image_30 : decode b_Model_image 30 = .ok (.invokevirtual 171, 3) := by decide +kernel
theorem d_Model_image_33 : decode b_Model_image 33 = .ok (.ireturn, 1) := by decide +kernel
theorem d_Model_compared_0 : decode b_Model_compared 0 = .ok (.aload_n 0, 1) := by decide +kernel
theorem d_Model_compared_1 : decode b_Model_compared 1 = .ok (.iload_n 1, 1) := by decide +kernel
theorem d_Model_compared_2 : decode b_Model_compared 2 = .ok (.iload_n 2, 1) := by decide +kernel
theorem d_Model_compared_3 : decode b_Model_compared 3 = .ok (.iconst (-1), 1) := by decide +kernel
theorem d_Model_compared_4 : decode b_Model_compared 4 = .ok (.invokevirtual 224, 3) := by decide +kernel
theorem d_Model_compared_7 : decode b_Model_compared 7 = .ok (.ifCond .eq 7, 3) := by decide +kernel
theorem d_Model_compared_10 : decode b_Model_compared 10 = .ok (.iconst 1, 1) := by decide +kernel
theorem d_Model_compared_11 : decode b_Model_compared 11 = .ok (.goto 4, 3) := by decide +kernel
theorem d_Model_compared_14 : decode b_Model_compared 14 = .ok (.iconst 0, 1) := by decide +kernel
theorem d_Model_compared_15 : decode b_Model_compared 15 = .ok (.aload_n 0, 1) := by decide +kernel
theorem d_Model_compared_16 : decode b_Model_compared 16 = .ok (.iload_n 2, 1) := by decide +kernel
theorem d_Model_compared_17 : decode b_Model_compared 17 = .ok (.iload_n 1, 1) := by decide +kernel
theorem d_Model_compared_18 : decode b_Model_compared 18 = .ok (.iconst (-1), 1) := by decide +kernel
theorem d_Model_compared_19 : decode b_Model_compared 19 = .ok (.invokevirtual 224, 3) := by decide +kernel
theorem d_Model_compared_22 : decode b_Model_compared 22 = .ok (.ifCond .eq 7, 3) := by decide +kernel
theorem d_Model_compared_25 : decode b_Model_compared 25 = .ok (.iconst 2, 1) := by decide +kernel
theorem d_Model_compared_26 : decode b_Model_compared 26 = .ok (.goto 4, 3) := by decide +kernel
theorem d_Model_compared_29 : decode b_Model_compared 29 = .ok (.iconst 0, 1) := by decide +kernel
theorem d_Model_compared_30 : decode b_Model_compared 30 = .ok (.iadd, 1) := by decide +kernel
theorem d_Model_compared_31 : decode b_Model_compared 31 = .ok (.ireturn, 1) := by decide +kernel
theorem d_Model_compare_0 : decode b_Model_compare 0 = .ok (.iload_n 1, 1) := by decide +kernel
theorem d_Model_compare_1 : decode b_Model_compare 1 = .ok (.invokestatic 71, 3) := by decide +kernel
theorem d_Model_compare_4 : decode b_Model_compare 4 = .ok (.ifCond .eq 23, 3) := by decide +kernel
theorem d_Model_compare_7 : decode b_Model_compare 7 = .ok (.iload_n 2, 1) := by decide +kernel
theorem d_Model_compare_8 : decode b_Model_compare 8 = .ok (.invokestatic 71, 3) := by decide +kernel
theorem d_Model_compare_11 : decode b_Model_compare 11 = .ok (.ifCond .eq 16, 3) := by decide +kernel
theorem d_Model_compare_14 : decode b_Model_compare 14 = .ok (.aload_n 0, 1) := by decide +kernel
theorem d_Model_compare_15 : decode b_Model_compare 15 = .ok (.aload_n 0, 1) := by decide +kernel
theorem d_Model_compare_16 : decode b_Model_compare 16 = .ok (.iload_n 1, 1) := by decide +kernel
theorem d_Model_compare_17 : decode b_Model_compare 17 = .ok (.iload_n 2, 1) := by decide +kernel
theorem d_Model_compare_18 : decode b_Model_compare 18 = .ok (.invokevirtual 256, 3) := by decide +kernel
theorem d_Model_compare_21 : decode b_Model_compare 21 = .ok (.invokevirtual 171, 3) := by decide +kernel
theorem d_Model_compare_24 : decode b_Model_compare 24 = .ok (.goto 8, 3) := by decide +kernel
theorem d_Model_compare_27 : decode b_Model_compare 27 = .ok (.aload_n 0, 1) := by decide +kernel
theorem d_Model_compare_28 : decode b_Model_compare 28 = .ok (.iconst 1, 1) := by decide +kernel
theorem d_Model_compare_29 : decode b_Model_compare 29 = .ok (.invokevirtual 93, 3) := by decide +kernel
theorem d_Model_compare_32 : decode b_Model_compare 32 = .ok (.ireturn, 1) := by decide +kernel
theorem d_Model_isApart_0 : decode b_Model_isApart 0 = .ok (.aload_n 0, 1) := by decide +kernel
theorem d_Model_isApart_1 : decode b_Model_isApart 1 = .ok (.iload_n 1, 1) := by decide +kernel
theorem d_Model_isApart_2 : decode b_Model_isApart 2 = .ok (.iload_n 2, 1) := by decide +kernel
theorem d_Model_isApart_3 : decode b_Model_isApart 3 = .ok (.iload_n 2, 1) := by decide +kernel
theorem d_Model_isApart_4 : decode b_Model_isApart 4 = .ok (.invokevirtual 148, 3) := by decide +kernel
theorem d_Model_isApart_7 : decode b_Model_isApart 7 = .ok (.ifCond .ne 7, 3) := by decide +kernel
theorem d_Model_isApart_10 : decode b_Model_isApart 10 = .ok (.iconst 1, 1) := by decide +kernel
theorem d_Model_isApart_11 : decode b_Model_isApart 11 = .ok (.goto 4, 3) := by decide +kernel
theorem d_Model_isApart_14 : decode b_Model_isApart 14 = .ok (.iconst 0, 1) := by decide +kernel
theorem d_Model_isApart_15 : decode b_Model_isApart 15 = .ok (.istore_n 3, 1) := by decide +kernel
theorem d_Model_isApart_16 : decode b_Model_isApart 16 = .ok (.iconst 0, 1) := by decide +kernel
theorem d_Model_isApart_17 : decode b_Model_isApart 17 = .ok (.istore 4, 2) := by decide +kernel
theorem d_Model_isApart_19 : decode b_Model_isApart 19 = .ok (.iload 4, 2) := by decide +kernel
theorem d_Model_isApart_21 : decode b_Model_isApart 21 = .ok (.iload_n 2, 1) := by decide +kernel
theorem d_Model_isApart_22 : decode b_Model_isApart 22 = .ok (.if_icmp .ge 46, 3) := by decide +kernel
theorem d_Model_isApart_25 : decode b_Model_isApart 25 = .ok (.iload_n 3, 1) := by decide +kernel
theorem d_Model_isApart_26 : decode b_Model_isApart 26 = .ok (.ifCond .eq 42, 3) := by decide +kernel
theorem d_Model_isApart_29 : decode b_Model_isApart 29 = .ok (.aload_n 0, 1) := by decide +kernel
theorem d_Model_isApart_30 : decode b_Model_isApart 30 = .ok (.getfield 31, 3) := by decide +kernel
theorem d_Model_isApart_33 : decode b_Model_isApart 33 = .ok (.iload 4, 2) := by decide +kernel
theorem d_Model_isApart_35 : decode b_Model_isApart 35 = .ok (.iaload, 1) := by decide +kernel
theorem d_Model_isApart_36 : decode b_Model_isApart 36 = .ok (.aload_n 0, 1) := by decide +kernel
theorem d_Model_isApart_37 : decode b_Model_isApart 37 = .ok (.getfield 31, 3) := by decide +kernel
theorem d_Model_isApart_40 : decode b_Model_isApart 40 = .ok (.iload_n 2, 1) := by decide +kernel
theorem d_Model_isApart_41 : decode b_Model_isApart 41 = .ok (.iaload, 1) := by decide +kernel
theorem d_Model_isApart_42 : decode b_Model_isApart 42 = .ok (.if_icmp .ne 14, 3) := by decide +kernel
theorem d_Model_isApart_45 : decode b_Model_isApart 45 = .ok (.aload_n 0, 1) := by decide +kernel
theorem d_Model_isApart_46 : decode b_Model_isApart 46 = .ok (.iload_n 1, 1) := by decide +kernel
theorem d_Model_isApart_47 : decode b_Model_isApart 47 = .ok (.iload_n 2, 1) := by decide +kernel
theorem d_Model_isApart_48 : decode b_Model_isApart 48 = .ok (.iload 4, 2) := by decide +kernel
theorem d_Model_isApart_50 : decode b_Model_isApart 50 = .ok (.invokevirtual 148, 3) := by decide +kernel
theorem d_Model_isApart_53 : decode b_Model_isApart 53 = .ok (.ifCond .ne 7, 3) := by decide +kernel
theorem d_Model_isApart_56 : decode b_Model_isApart 56 = .ok (.iconst 1, 1) := by decide +kernel
theorem d_Model_isApart_57 : decode b_Model_isApart 57 = .ok (.goto 4, 3) := by decide +kernel
theorem d_Model_isApart_60 : decode b_Model_isApart 60 = .ok (.iconst 0, 1) := by decide +kernel
theorem d_Model_isApart_61 : decode b_Model_isApart 61 = .ok (.istore_n 3, 1) := by decide +kernel
theorem d_Model_isApart_62 : decode b_Model_isApart 62 = .ok (.iinc 4 1, 3) := by decide +kernel
theorem d_Model_isApart_65 : decode b_Model_isApart 65 = .ok (.goto (-46), 3) := by decide +kernel
theorem d_Model_isApart_68 : decode b_Model_isApart 68 = .ok (.iload_n 3, 1) := by decide +kernel
theorem d_Model_isApart_69 : decode b_Model_isApart 69 = .ok (.ireturn, 1) := by decide +kernel
theorem d_Model_partitions_0 : decode b_Model_partitions 0 = .ok (.aload_n 0, 1) := by decide +kernel
theorem d_Model_partitions_1 : decode b_Model_partitions 1 = .ok (.iload_n 1, 1) := by decide +kernel
theorem d_Model_partitions_2 : decode b_Model_partitions 2 = .ok (.invokevirtual 75, 3) := by decide +kernel
theorem d_Model_partitions_5 : decode b_Model_partitions 5 = .ok (.istore_n 2, 1) := by decide +kernel
theorem d_Model_partitions_6 : decode b_Model_partitions 6 = .ok (.iconst 0, 1) := by decide +kernel
theorem d_Model_partitions_7 : decode b_Model_partitions 7 = .ok (.istore_n 3, 1) := by decide +kernel
theorem d_Model_partitions_8 : decode b_Model_partitions 8 = .ok (.iload_n 3, 1) := by decide +kernel
theorem d_Model_partitions_9 : decode b_Model_partitions 9 = .ok (.bipush 9, 2) := by decide +kernel
theorem d_Model_partitions_11 : decode b_Model_partitions 11 = .ok (.if_icmp .ge 16, 3) := by decide +kernel
theorem d_Model_partitions_14 : decode b_Model_partitions 14 = .ok (.aload_n 0, 1) := by decide +kernel
theorem d_Model_partitions_15 : decode b_Model_partitions 15 = .ok (.getfield 47, 3) := by decide +kernel
theorem d_Model_partitions_18 : decode b_Model_partitions 18 = .ok (.iload_n 3, 1) := by decide +kernel
theorem d_Model_partitions_19 : decode b_Model_partitions 19 = .ok (.lconst 0, 1) := by decide +kernel
theorem d_Model_partitions_20 : decode b_Model_partitions 20 = .ok (.lastore, 1) := by decide +kernel
theorem d_Model_partitions_21 : decode b_Model_partitions 21 = .ok (.iinc 3 1, 3) := by decide +kernel
theorem d_Model_partitions_24 : decode b_Model_partitions 24 = .ok (.goto (-16), 3) := by decide +kernel
theorem d_Model_partitions_27 : decode b_Model_partitions 27 = .ok (.iconst 0, 1) := by decide +kernel
theorem d_Model_partitions_28 : decode b_Model_partitions 28 = .ok (.istore_n 3, 1) := by decide +kernel
theorem d_Model_partitions_29 : decode b_Model_partitions 29 = .ok (.aload_n 0, 1) := by decide +kernel
theorem d_Model_partitions_30 : decode b_Model_partitions 30 = .ok (.getfield 31, 3) := by decide +kernel
theorem d_Model_partitions_33 : decode b_Model_partitions 33 = .ok (.iconst 0, 1) := by decide +kernel
theorem d_Model_partitions_34 : decode b_Model_partitions 34 = .ok (.iconst (-1), 1) := by decide +kernel
theorem d_Model_partitions_35 : decode b_Model_partitions 35 = .ok (.iastore, 1) := by decide +kernel
theorem d_Model_partitions_36 : decode b_Model_partitions 36 = .ok (.aload_n 0, 1) := by decide +kernel
theorem d_Model_partitions_37 : decode b_Model_partitions 37 = .ok (.getfield 51, 3) := by decide +kernel
theorem d_Model_partitions_40 : decode b_Model_partitions 40 = .ok (.iconst 0, 1) := by decide +kernel
theorem d_Model_partitions_41 : decode b_Model_partitions 41 = .ok (.iconst 0, 1) := by decide +kernel
theorem d_Model_partitions_42 : decode b_Model_partitions 42 = .ok (.iastore, 1) := by decide +kernel
theorem d_Model_partitions_43 : decode b_Model_partitions 43 = .ok (.iload_n 3, 1) := by decide +kernel
theorem d_Model_partitions_44 : decode b_Model_partitions 44 = .ok (.ifCond .lt 150, 3) := by decide +kernel
theorem d_Model_partitions_47 : decode b_Model_partitions 47 = .ok (.iload_n 3, 1) := by decide +kernel
theorem d_Model_partitions_48 : decode b_Model_partitions 48 = .ok (.iload_n 2, 1) := by decide +kernel
theorem d_Model_partitions_49 : decode b_Model_partitions 49 = .ok (.if_icmp .ne 24, 3) := by decide +kernel
theorem d_Model_partitions_52 : decode b_Model_partitions 52 = .ok (.aload_n 0, 1) := by decide +kernel
theorem d_Model_partitions_53 : decode b_Model_partitions 53 = .ok (.getfield 47, 3) := by decide +kernel
theorem d_Model_partitions_56 : decode b_Model_partitions 56 = .ok (.aload_n 0, 1) := by decide +kernel
theorem d_Model_partitions_57 : decode b_Model_partitions 57 = .ok (.getfield 51, 3) := by decide +kernel
theorem d_Model_partitions_60 : decode b_Model_partitions 60 = .ok (.iload_n 2, 1) := by decide +kernel
theorem d_Model_partitions_61 : decode b_Model_partitions 61 = .ok (.iaload, 1) := by decide +kernel
theorem d_Model_partitions_62 : decode b_Model_partitions 62 = .ok (.dup2, 1) := by decide +kernel
theorem d_Model_partitions_63 : decode b_Model_partitions 63 = .ok (.laload, 1) := by decide +kernel
theorem d_Model_partitions_64 : decode b_Model_partitions 64 = .ok (.lconst 1, 1) := by decide +kernel
theorem d_Model_partitions_65 : decode b_Model_partitions 65 = .ok (.ladd, 1) := by decide +kernel
theorem d_Model_partitions_66 : decode b_Model_partitions 66 = .ok (.lastore, 1) := by decide +kernel
theorem d_Model_partitions_67 : decode b_Model_partitions 67 = .ok (.iinc 3 (-1), 3) := by decide +kernel
theorem d_Model_partitions_70 : decode b_Model_partitions 70 = .ok (.goto (-27), 3) := by decide +kernel
theorem d_Model_partitions_73 : decode b_Model_partitions 73 = .ok (.aload_n 0, 1) := by decide +kernel
theorem d_Model_partitions_74 : decode b_Model_partitions 74 = .ok (.getfield 31, 3) := by decide +kernel
theorem d_Model_partitions_77 : decode b_Model_partitions 77 = .ok (.iload_n 3, 1) := by decide +kernel
theorem d_Model_partitions_78 : decode b_Model_partitions 78 = .ok (.dup2, 1) := by decide +kernel
theorem d_Model_partitions_79 : decode b_Model_partitions 79 = .ok (.iaload, 1) := by decide +kernel
theorem d_Model_partitions_80 : decode b_Model_partitions 80 = .ok (.iconst 1, 1) := by decide +kernel
theorem d_Model_partitions_81 : decode b_Model_partitions 81 = .ok (.iadd, 1) := by decide +kernel
theorem d_Model_partitions_82 : decode b_Model_partitions 82 = .ok (.iastore, 1) := by decide +kernel
theorem d_Model_partitions_83 : decode b_Model_partitions 83 = .ok (.aload_n 0, 1) := by decide +kernel
theorem d_Model_partitions_84 : decode b_Model_partitions 84 = .ok (.getfield 31, 3) := by decide +kernel
theorem d_Model_partitions_87 : decode b_Model_partitions 87 = .ok (.iload_n 3, 1) := by decide +kernel
theorem d_Model_partitions_88 : decode b_Model_partitions 88 = .ok (.iaload, 1) := by decide +kernel
theorem d_Model_partitions_89 : decode b_Model_partitions 89 = .ok (.aload_n 0, 1) := by decide +kernel
theorem d_Model_partitions_90 : decode b_Model_partitions 90 = .ok (.getfield 51, 3) := by decide +kernel
theorem d_Model_partitions_93 : decode b_Model_partitions 93 = .ok (.iload_n 3, 1) := by decide +kernel
theorem d_Model_partitions_94 : decode b_Model_partitions 94 = .ok (.iaload, 1) := by decide +kernel
theorem d_Model_partitions_95 : decode b_Model_partitions 95 = .ok (.if_icmp .gt 25, 3) := by decide +kernel
theorem d_Model_partitions_98 : decode b_Model_partitions 98 = .ok (.aload_n 0, 1) := by decide +kernel
theorem d_Model_partitions_99 : decode b_Model_partitions 99 = .ok (.iload_n 1, 1) := by decide +kernel
theorem d_Model_partitions_100 : decode b_Model_partitions 100 = .ok (.iload_n 3, 1) := by decide +kernel
theorem d_Model_partitions_101 : decode b_Model_partitions 101 = .ok (.invokevirtual 259, 3) := by decide +kernel
theorem d_Model_partitions_104 : decode b_Model_partitions 104 = .ok (.ifCond .ne 16, 3) := by decide +kernel
theorem d_Model_partitions_107 : decode b_Model_partitions 107 = .ok (.aload_n 0, 1) := by decide +kernel
theorem d_Model_partitions_108 : decode b_Model_partitions 108 = .ok (.getfield 31, 3) := by decide +kernel
theorem d_Model_partitions_111 : decode b_Model_partitions 111 = .ok (.iload_n 3, 1) := by decide +kernel
theorem d_Model_partitions_112 : decode b_Model_partitions 112 = .ok (.dup2, 1) := by decide +kernel
theorem d_Model_partitions_113 : decode b_Model_partitions 113 = .ok (.iaload, 1) := by decide +kernel
theorem d_Model_partitions_114 : decode b_Model_partitions 114 = .ok (.iconst 1, 1) := by decide +kernel
theorem d_Model_partitions_115 : decode b_Model_partitions 115 = .ok (.iadd, 1) := by decide +kernel
theorem d_Model_partitions_116 : decode b_Model_partitions 116 = .ok (.iastore, 1) := by decide +kernel
theorem d_Model_partitions_117 : decode b_Model_partitions 117 = .ok (.goto (-34), 3) := by decide +kernel
theorem d_Model_partitions_120 : decode b_Model_partitions 120 = .ok (.aload_n 0, 1) := by decide +kernel
theorem d_Model_partitions_121 : decode b_Model_partitions 121 = .ok (.getfield 31, 3) := by decide +kernel
theorem d_Model_partitions_124 : decode b_Model_partitions 124 = .ok (.iload_n 3, 1) := by decide +kernel
theorem d_Model_partitions_125 : decode b_Model_partitions 125 = .ok (.iaload, 1) := by decide +kernel
theorem d_Model_partitions_126 : decode b_Model_partitions 126 = .ok (.aload_n 0, 1) := by decide +kernel
theorem d_Model_partitions_127 : decode b_Model_partitions 127 = .ok (.getfield 51, 3) := by decide +kernel
theorem d_Model_partitions_130 : decode b_Model_partitions 130 = .ok (.iload_n 3, 1) := by decide +kernel
theorem d_Model_partitions_131 : decode b_Model_partitions 131 = .ok (.iaload, 1) := by decide +kernel
theorem d_Model_partitions_132 : decode b_Model_partitions 132 = .ok (.if_icmp .gt 56, 3) := by decide +kernel
theorem d_Model_partitions_135 : decode b_Model_partitions 135 = .ok (.aload_n 0, 1) := by decide +kernel
theorem d_Model_partitions_136 : decode b_Model_partitions 136 = .ok (.getfield 51, 3) := by decide +kernel
theorem d_Model_partitions_139 : decode b_Model_partitions 139 = .ok (.iload_n 3, 1) := by decide +kernel
theorem d_Model_partitions_140 : decode b_Model_partitions 140 = .ok (.iconst 1, 1) := by decide +kernel
theorem d_Model_partitions_141 : decode b_Model_partitions 141 = .ok (.iadd, 1) := by decide +kernel
theorem d_Model_partitions_142 : decode b_Model_partitions 142 = .ok (.aload_n 0, 1) := by decide +kernel
theorem d_Model_partitions_143 : decode b_Model_partitions 143 = .ok (.getfield 31, 3) := by decide +kernel
theorem d_Model_partitions_146 : decode b_Model_partitions 146 = .ok (.iload_n 3, 1) := by decide +kernel
theorem d_Model_partitions_147 : decode b_Model_partitions 147 = .ok (.iaload, 1) := by decide +kernel
theorem d_Model_partitions_148 : decode b_Model_partitions 148 = .ok (.aload_n 0, 1) := by decide +kernel
theorem d_Model_partitions_149 : decode b_Model_partitions 149 = .ok (.getfield 51, 3) := by decide +kernel
theorem d_Model_partitions_152 : decode b_Model_partitions 152 = .ok (.iload_n 3, 1) := by decide +kernel
theorem d_Model_partitions_153 : decode b_Model_partitions 153 = .ok (.iaload, 1) := by decide +kernel
theorem d_Model_partitions_154 : decode b_Model_partitions 154 = .ok (.if_icmp .ne 14, 3) := by decide +kernel
theorem d_Model_partitions_157 : decode b_Model_partitions 157 = .ok (.aload_n 0, 1) := by decide +kernel
theorem d_Model_partitions_158 : decode b_Model_partitions 158 = .ok (.getfield 51, 3) := by decide +kernel
theorem d_Model_partitions_161 : decode b_Model_partitions 161 = .ok (.iload_n 3, 1) := by decide +kernel
theorem d_Model_partitions_162 : decode b_Model_partitions 162 = .ok (.iaload, 1) := by decide +kernel
theorem d_Model_partitions_163 : decode b_Model_partitions 163 = .ok (.iconst 1, 1) := by decide +kernel
theorem d_Model_partitions_164 : decode b_Model_partitions 164 = .ok (.iadd, 1) := by decide +kernel
theorem d_Model_partitions_165 : decode b_Model_partitions 165 = .ok (.goto 9, 3) := by decide +kernel
theorem d_Model_partitions_168 : decode b_Model_partitions 168 = .ok (.aload_n 0, 1) := by decide +kernel
theorem d_Model_partitions_169 : decode b_Model_partitions 169 = .ok (.getfield 51, 3) := by decide +kernel
theorem d_Model_partitions_172 : decode b_Model_partitions 172 = .ok (.iload_n 3, 1) := by decide +kernel
theorem d_Model_partitions_173 : decode b_Model_partitions 173 = .ok (.iaload, 1) := by decide +kernel
theorem d_Model_partitions_174 : decode b_Model_partitions 174 = .ok (.iastore, 1) := by decide +kernel
theorem d_Model_partitions_175 : decode b_Model_partitions 175 = .ok (.iinc 3 1, 3) := by decide +kernel
theorem d_Model_partitions_178 : decode b_Model_partitions 178 = .ok (.aload_n 0, 1) := by decide +kernel
theorem d_Model_partitions_179 : decode b_Model_partitions 179 = .ok (.getfield 31, 3) := by decide +kernel
theorem d_Model_partitions_182 : decode b_Model_partitions 182 = .ok (.iload_n 3, 1) := by decide +kernel
theorem d_Model_partitions_183 : decode b_Model_partitions 183 = .ok (.iconst (-1), 1) := by decide +kernel
theorem d_Model_partitions_184 : decode b_Model_partitions 184 = .ok (.iastore, 1) := by decide +kernel
theorem d_Model_partitions_185 : decode b_Model_partitions 185 = .ok (.goto (-142), 3) := by decide +kernel
theorem d_Model_partitions_188 : decode b_Model_partitions 188 = .ok (.iinc 3 (-1), 3) := by decide +kernel
theorem d_Model_partitions_191 : decode b_Model_partitions 191 = .ok (.goto (-148), 3) := by decide +kernel
theorem d_Model_partitions_194 : decode b_Model_partitions 194 = .ok (.return_, 1) := by decide +kernel
theorem d_Model_colorings_0 : decode b_Model_colorings 0 = .ok (.iload_n 1, 1) := by decide +kernel
theorem d_Model_colorings_1 : decode b_Model_colorings 1 = .ok (.invokestatic 71, 3) := by decide +kernel
theorem d_Model_colorings_4 : decode b_Model_colorings 4 = .ok (.ifCond .ne 10, 3) := by decide +kernel
theorem d_Model_colorings_7 : decode b_Model_colorings 7 = .ok (.aload_n 0, 1) := by decide +kernel
theorem d_Model_colorings_8 : decode b_Model_colorings 8 = .ok (.iconst 1, 1) := by decide +kernel
theorem d_Model_colorings_9 : decode b_Model_colorings 9 = .ok (.invokevirtual 93, 3) := by decide +kernel
theorem d_Model_colorings_12 : decode b_Model_colorings 12 = .ok (.i2l, 1) := by decide +kernel
theorem d_Model_colorings_13 : decode b_Model_colorings 13 = .ok (.lreturn, 1) := by decide +kernel
theorem d_Model_colorings_14 : decode b_Model_colorings 14 = .ok (.iload_n 2, 1) := by decide +kernel
theorem d_Model_colorings_15 : decode b_Model_colorings 15 = .ok (.iconst 0, 1) := by decide +kernel
theorem d_Model_colorings_16 : decode b_Model_colorings 16 = .ok (.bipush 20, 2) := by decide +kernel
theorem d_Model_colorings_18 : decode b_Model_colorings 18 = .ok (.invokestatic 67, 3) := by decide +kernel
theorem d_Model_colorings_21 : decode b_Model_colorings 21 = .ok (.ifCond .ne 10, 3) := by decide +kernel
theorem d_Model_colorings_24 : decode b_Model_colorings 24 = .ok (.aload_n 0, 1) := by decide +kernel
theorem d_Model_colorings_25 : decode b_Model_colorings 25 = .ok (.iconst 2, 1) := by decide +kernel
theorem d_Model_colorings_26 : decode b_Model_colorings 26 = .ok (.invokevirtual 93, 3) := by decide +kernel
theorem d_Model_colorings_29 : decode b_Model_colorings 29 = .ok (.i2l, 1) := by decide +kernel
theorem d_Model_colorings_30 : decode b_Model_colorings 30 = .ok (.lreturn, 1) := by decide +kernel
theorem d_Model_colorings_31 : decode b_Model_colorings 31 = .ok (.aload_n 0, 1) := by decide +kernel
theorem d_Model_colorings_32 : decode b_Model_colorings 32 = .ok (.iconst 0, 1) := by decide +kernel
theorem d_Model_colorings_33 : decode b_Model_colorings 33 = .ok (.putfield 63, 3) := by decide +kernel
theorem d_Model_colorings_36 : decode b_Model_colorings 36 = .ok (.aload_n 0, 1) := by decide +kernel
theorem d_Model_colorings_37 : decode b_Model_colorings 37 = .ok (.iload_n 1, 1) := by decide +kernel
theorem d_Model_colorings_38 : decode b_Model_colorings 38 = .ok (.invokevirtual 262, 3) := by decide +kernel
theorem d_Model_colorings_41 : decode b_Model_colorings 41 = .ok (.lconst 0, 1) := by decide +kernel
theorem d_Model_colorings_42 : decode b_Model_colorings 42 = .ok (.lstore_n 3, 1) := by decide +kernel
theorem d_Model_colorings_43 : decode b_Model_colorings 43 = .ok (.lconst 1, 1) := by decide +kernel
theorem d_Model_colorings_44 : decode b_Model_colorings 44 = .ok (.lstore 5, 2) := by decide +kernel
theorem d_Model_colorings_46 : decode b_Model_colorings 46 = .ok (.iconst 0, 1) := by decide +kernel
theorem d_Model_colorings_47 : decode b_Model_colorings 47 = .ok (.istore 7, 2) := by decide +kernel
theorem d_Model_colorings_49 : decode b_Model_colorings 49 = .ok (.iload 7, 2) := by decide +kernel
theorem d_Model_colorings_51 : decode b_Model_colorings 51 = .ok (.bipush 9, 2) := by decide +kernel
theorem d_Model_colorings_53 : decode b_Model_colorings 53 = .ok (.if_icmp .ge 42, 3) := by decide +kernel
theorem d_Model_colorings_56 : decode b_Model_colorings 56 = .ok (.lload_n 3, 1) := by decide +kernel
theorem d_Model_colorings_57 : decode b_Model_colorings 57 = .ok (.aload_n 0, 1) := by decide +kernel
theorem d_Model_colorings_58 : decode b_Model_colorings 58 = .ok (.getfield 47, 3) := by decide +kernel
theorem d_Model_colorings_61 : decode b_Model_colorings 61 = .ok (.iload 7, 2) := by decide +kernel
theorem d_Model_colorings_63 : decode b_Model_colorings 63 = .ok (.laload, 1) := by decide +kernel
theorem d_Model_colorings_64 : decode b_Model_colorings 64 = .ok (.lload 5, 2) := by decide +kernel
theorem d_Model_colorings_66 : decode b_Model_colorings 66 = .ok (.lmul, 1) := by decide +kernel
theorem d_Model_colorings_67 : decode b_Model_colorings 67 = .ok (.ladd, 1) := by decide +kernel
theorem d_Model_colorings_68 : decode b_Model_colorings 68 = .ok (.lstore_n 3, 1) := by decide +kernel
theorem d_Model_colorings_69 : decode b_Model_colorings 69 = .ok (.lload 5, 2) := by decide +kernel
theorem d_Model_colorings_71 : decode b_Model_colorings 71 = .ok (.iload_n 2, 1) := by decide +kernel
theorem d_Model_colorings_72 : decode b_Model_colorings 72 = .ok (.iload 7, 2) := by decide +kernel
theorem d_Model_colorings_74 : decode b_Model_colorings 74 = .ok (.if_icmp .le 11, 3) := by decide +kernel
theorem d_Model_colorings_77 : decode b_Model_colorings 77 = .ok (.iload_n 2, 1) := by decide +kernel
theorem d_Model_colorings_78 : decode b_Model_colorings 78 = .ok (.iload 7, 2) := by decide +kernel
theorem d_Model_colorings_80 : decode b_Model_colorings 80 = .ok (.isub, 1) := by decide +kernel
theorem d_Model_colorings_81 : decode b_Model_colorings 81 = .ok (.i2l, 1) := by decide +kernel
theorem d_Model_colorings_82 : decode b_Model_colorings 82 = .ok (.goto 4, 3) := by decide +kernel
theorem d_Model_colorings_85 : decode b_Model_colorings 85 = .ok (.lconst 0, 1) := by decide +kernel
theorem d_Model_colorings_86 : decode b_Model_colorings 86 = .ok (.lmul, 1) := by decide +kernel
theorem d_Model_colorings_87 : decode b_Model_colorings 87 = .ok (.lstore 5, 2) := by decide +kernel
theorem d_Model_colorings_89 : decode b_Model_colorings 89 = .ok (.iinc 7 1, 3) := by decide +kernel
theorem d_Model_colorings_92 : decode b_Model_colorings 92 = .ok (.goto (-43), 3) := by decide +kernel
theorem d_Model_colorings_95 : decode b_Model_colorings 95 = .ok (.lload_n 3, 1) := by decide +kernel
theorem d_Model_colorings_96 : decode b_Model_colorings 96 = .ok (.lreturn, 1) := by decide +kernel
theorem d_Model_chromatic_0 : decode b_Model_chromatic 0 = .ok (.iload_n 1, 1) := by decide +kernel
theorem d_Model_chromatic_1 : decode b_Model_chromatic 1 = .ok (.invokestatic 71, 3) := by decide +kernel
theorem d_Model_chromatic_4 : decode b_Model_chromatic 4 = .ok (.ifCond .ne 9, 3) := by decide +kernel
theorem d_Model_chromatic_7 : decode b_Model_chromatic 7 = .ok (.aload_n 0, 1) := by decide +kernel
theorem d_Model_chromatic_8 : decode b_Model_chromatic 8 = .ok (.iconst 1, 1) := by decide +kernel
theorem d_Model_chromatic_9 : decode b_Model_chromatic 9 = .ok (.invokevirtual 93, 3) := by decide +kernel
theorem d_Model_chromatic_12 : decode b_Model_chromatic 12 = .ok (.ireturn, 1) := by decide +kernel
theorem d_Model_chromatic_13 : decode b_Model_chromatic 13 = .ok (.aload_n 0, 1) := by decide +kernel
theorem d_Model_chromatic_14 : decode b_Model_chromatic 14 = .ok (.iload_n 1, 1) := by decide +kernel
theorem d_Model_chromatic_15 : decode b_Model_chromatic 15 = .ok (.invokevirtual 262, 3) := by decide +kernel
theorem d_Model_chromatic_18 : decode b_Model_chromatic 18 = .ok (.iconst (-1), 1) := by decide +kernel
theorem d_Model_chromatic_19 : decode b_Model_chromatic 19 = .ok (.istore_n 2, 1) := by decide +kernel
theorem d_Model_chromatic_20 : decode b_Model_chromatic 20 = .ok (.bipush 8, 2) := by decide +kernel
theorem d_Model_chromatic_22 : decode b_Model_chromatic 22 = .ok (.istore_n 3, 1) := by decide +kernel
theorem d_Model_chromatic_23 : decode b_Model_chromatic 23 = .ok (.iload_n 3, 1) := by decide +kernel
theorem d_Model_chromatic_24 : decode b_Model_chromatic 24 = .ok (.ifCond .lt 26, 3) := by decide +kernel
theorem d_Model_chromatic_27 : decode b_Model_chromatic 27 = .ok (.aload_n 0, 1) := by decide +kernel
theorem d_Model_chromatic_28 : decode b_Model_chromatic 28 = .ok (.getfield 47, 3) := by decide +kernel
theorem d_Model_chromatic_31 : decode b_Model_chromatic 31 = .ok (.iload_n 3, 1) := by decide +kernel
theorem d_Model_chromatic_32 : decode b_Model_chromatic 32 = .ok (.laload, 1) := by decide +kernel
theorem d_Model_chromatic_33 : decode b_Model_chromatic 33 = .ok (.lconst 0, 1) := by decide +kernel
theorem d_Model_chromatic_34 : decode b_Model_chromatic 34 = .ok (.lcmp, 1) := by decide +kernel
theorem d_Model_chromatic_35 : decode b_Model_chromatic 35 = .ok (.ifCond .le 7, 3) := by decide +kernel
theorem d_Model_chromatic_38 : decode b_Model_chromatic 38 = .ok (.iload_n 3, 1) := by decide +kernel
theorem d_Model_chromatic_39 : decode b_Model_chromatic 39 = .ok (.goto 4, 3) := by decide +kernel
theorem d_Model_chromatic_42 : decode b_Model_chromatic 42 = .ok (.iload_n 2, 1) := by decide +kernel
theorem d_Model_chromatic_43 : decode b_Model_chromatic 43 = .ok (.istore_n 2, 1) := by decide +kernel
theorem d_Model_chromatic_44 : decode b_Model_chromatic 44 = .ok (.iinc 3 (-1), 3) := by decide +kernel
theorem d_Model_chromatic_47 : decode b_Model_chromatic 47 = .ok (.goto (-24), 3) := by decide +kernel
theorem d_Model_chromatic_50 : decode b_Model_chromatic 50 = .ok (.aload_n 0, 1) := by decide +kernel
theorem d_Model_chromatic_51 : decode b_Model_chromatic 51 = .ok (.iload_n 2, 1) := by decide +kernel
theorem d_Model_chromatic_52 : decode b_Model_chromatic 52 = .ok (.invokevirtual 171, 3) := by decide +kernel
theorem d_Model_chromatic_55 : decode b_Model_chromatic 55 = .ok (.ireturn, 1) := by decide +kernel
theorem d_Model_isIndependent_0 : decode b_Model_isIndependent 0 = .ok (.iconst 1, 1) := by decide +kernel
theorem d_Model_isIndependent_1 : decode b_Model_isIndependent 1 = .ok (.istore_n 3, 1) := by decide +kernel
theorem d_Model_isIndependent_2 : decode b_Model_isIndependent 2 = .ok (.iconst 0, 1) := by decide +kernel
theorem d_Model_isIndependent_3 : decode b_Model_isIndependent 3 = .ok (.istore 4, 2) := by decide +kernel
theorem d_Model_isIndependent_5 : decode b_Model_isIndependent 5 = .ok (.iload 4, 2) := by decide +kernel
theorem d_Model_isIndependent_7 : decode b_Model_isIndependent 7 = .ok (.aload_n 0, 1) := by decide +kernel
theorem d_Model_isIndependent_8 : decode b_Model_isIndependent 8 = .ok (.iload_n 1, 1) := by decide +kernel
theorem d_Model_isIndependent_9 : decode b_Model_isIndependent 9 = .ok (.invokevirtual 75, 3) := by decide +kernel
theorem d_Model_isIndependent_12 : decode b_Model_isIndependent 12 = .ok (.if_icmp .ge 40, 3) := by decide +kernel
theorem d_Model_isIndependent_15 : decode b_Model_isIndependent 15 = .ok (.iload_n 3, 1) := by decide +kernel
theorem d_Model_isIndependent_16 : decode b_Model_isIndependent 16 = .ok (.ifCond .eq 28, 3) := by decide +kernel
theorem d_Model_isIndependent_19 : decode b_Model_isIndependent 19 = .ok (.iload_n 2, 1) := by decide +kernel
theorem d_Model_isIndependent_20 : decode b_Model_isIndependent 20 = .ok (.iload 4, 2) := by decide +kernel
theorem d_Model_isIndependent_22 : decode b_Model_isIndependent 22 = .ok (.ishr, 1) := by decide +kernel
theorem d_Model_isIndependent_23 : decode b_Model_isIndependent 23 = .ok (.iconst 1, 1) := by decide +kernel
theorem d_Model_isIndependent_24 : decode b_Model_isIndependent 24 = .ok (.iand, 1) := by decide +kernel
theorem d_Model_isIndependent_25 : decode b_Model_isIndependent 25 = .ok (.ifCond .eq 15, 3) := by decide +kernel
theorem d_Model_isIndependent_28 : decode b_Model_isIndependent 28 = .ok (.aload_n 0, 1) := by decide +kernel
theorem d_Model_isIndependent_29 : decode b_Model_isIndependent 29 = .ok (.iload_n 1, 1) := by decide +kernel
theorem d_Model_isIndependent_30 : decode b_Model_isIndependent 30 = .ok (.iload 4, 2) := by decide +kernel
theorem d_Model_isIndependent_32 : decode b_Model_isIndependent 32 = .ok (.invokevirtual 161, 3) := by decide +kernel
theorem d_Model_isIndependent_35 : decode b_Model_isIndependent 35 = .ok (.iload_n 2, 1) := by decide +kernel
theorem d_Model_isIndependent_36 : decode b_Model_isIndependent 36 = .ok (.iand, 1) := by decide +kernel
theorem d_Model_isIndependent_37 : decode b_Model_isIndependent 37 = .ok (.ifCond .ne 7, 3) := by decide +kernel
theorem d_Model_isIndependent_40 : decode b_Model_isIndependent 40 = .ok (.iconst 1, 1) := by decide +kernel
theorem d_Model_isIndependent_41 : decode b_Model_isIndependent 41 = .ok (.goto 4, 3) := by decide +kernel
theorem d_Model_isIndependent_44 : decode b_Model_isIndependent 44 = .ok (.iconst 0, 1) := by decide +kernel
theorem d_Model_isIndependent_45 : decode b_Model_isIndependent 45 = .ok (.istore_n 3, 1) := by decide +kernel
theorem d_Model_isIndependent_46 : decode b_Model_isIndependent 46 = .ok (.iinc 4 1, 3) := by decide +kernel
theorem d_Model_isIndependent_49 : decode b_Model_isIndependent 49 = .ok (.goto (-44), 3) := by decide +kernel
theorem d_Model_isIndependent_52 : decode b_Model_isIndependent 52 = .ok (.iload_n 3, 1) := by decide +kernel
theorem d_Model_isIndependent_53 : decode b_Model_isIndependent 53 = .ok (.ireturn, 1) := by decide +kernel
theorem d_Model_independent_0 : decode b_Model_independent 0 = .ok (.iload_n 1, 1) := by decide +kernel
theorem d_Model_independent_1 : decode b_Model_independent 1 = .ok (.invokestatic 71, 3) := by decide +kernel
theorem d_Model_independent_4 : decode b_Model_independent 4 = .ok (.ifCond .ne 9, 3) := by decide +kernel
theorem d_Model_independent_7 : decode b_Model_independent 7 = .ok (.aload_n 0, 1) := by decide +kernel
theorem d_Model_independent_8 : decode b_Model_independent 8 = .ok (.iconst 1, 1) := by decide +kernel
theorem d_Model_independent_9 : decode b_Model_independent 9 = .ok (.invokevirtual 93, 3) := by decide +kernel
theorem d_Model_independent_12 : decode b_Model_independent 12 = .ok (.ireturn, 1) := by decide +kernel
theorem d_Model_independent_13 : decode b_Model_independent 13 = .ok (.iload_n 2, 1) := by decide +kernel
theorem d_Model_independent_14 : decode b_Model_independent 14 = .ok (.iconst (-1), 1) := by decide +kernel
theorem d_Model_independent_15 : decode b_Model_independent 15 = .ok (.bipush 8, 2) := by decide +kernel
theorem d_Model_independent_17 : decode b_Model_independent 17 = .ok (.invokestatic 67, 3) := by decide +kernel
theorem d_Model_independent_20 : decode b_Model_independent 20 = .ok (.ifCond .ne 9, 3) := by decide +kernel
theorem d_Model_independent_23 : decode b_Model_independent 23 = .ok (.aload_n 0, 1) := by decide +kernel
theorem d_Model_independent_24 : decode b_Model_independent 24 = .ok (.iconst 2, 1) := by decide +kernel
theorem d_Model_independent_25 : decode b_Model_independent 25 = .ok (.invokevirtual 93, 3) := by decide +kernel
theorem d_Model_independent_28 : decode b_Model_independent 28 = .ok (.ireturn, 1) := by decide +kernel
theorem d_Model_independent_29 : decode b_Model_independent 29 = .ok (.iconst 0, 1) := by decide +kernel
theorem d_Model_independent_30 : decode b_Model_independent 30 = .ok (.istore_n 3, 1) := by decide +kernel
theorem d_Model_independent_31 : decode b_Model_independent 31 = .ok (.iconst 0, 1) := by decide +kernel
theorem d_Model_independent_32 : decode b_Model_independent 32 = .ok (.istore 4, 2) := by decide +kernel
theorem d_Model_independent_34 : decode b_Model_independent 34 = .ok (.iload 4, 2) := by decide +kernel
theorem d_Model_independent_36 : decode b_Model_independent 36 = .ok (.iconst 1, 1) := by decide +kernel
theorem d_Model_independent_37 : decode b_Model_independent 37 = .ok (.aload_n 0, 1) := by decide +kernel
theorem d_Model_independent_38 : decode b_Model_independent 38 = .ok (.iload_n 1, 1) := by decide +kernel
theorem d_Model_independent_39 : decode b_Model_independent 39 = .ok (.invokevirtual 75, 3) := by decide +kernel
theorem d_Model_independent_42 : decode b_Model_independent 42 = .ok (.ishl, 1) := by decide +kernel
theorem d_Model_independent_43 : decode b_Model_independent 43 = .ok (.if_icmp .ge 41, 3) := by decide +kernel
theorem d_Model_independent_46 : decode b_Model_independent 46 = .ok (.iload_n 3, 1) := by decide +kernel
theorem d_Model_independent_47 : decode b_Model_independent 47 = .ok (.iload_n 2, 1) := by decide +kernel
theorem d_Model_independent_48 : decode b_Model_independent 48 = .ok (.iconst (-1), 1) := by decide +kernel
theorem d_Model_independent_49 : decode b_Model_independent 49 = .ok (.if_icmp .eq 12, 3) := by decide +kernel
theorem d_Model_independent_52 : decode b_Model_independent 52 = .ok (.iload 4, 2) := by decide +kernel
theorem d_Model_independent_54 : decode b_Model_independent 54 = .ok (.invokestatic 174, 3) := by decide +kernel
theorem d_Model_independent_57 : decode b_Model_independent 57 = .ok (.iload_n 2, 1) := by decide +kernel
theorem d_Model_independent_58 : decode b_Model_independent 58 = .ok (.if_icmp .ne 17, 3) := by decide +kernel
theorem d_Model_independent_61 : decode b_Model_independent 61 = .ok (.aload_n 0, 1) := by decide +kernel
theorem d_Model_independent_62 : decode b_Model_independent 62 = .ok (.iload_n 1, 1) := by decide +kernel
theorem d_Model_independent_63 : decode b_Model_independent 63 = .ok (.iload 4, 2) := by decide +kernel
theorem d_Model_independent_65 : decode b_Model_independent 65 = .ok (.invokevirtual 265, 3) := by decide +kernel
theorem d_Model_independent_68 : decode b_Model_independent 68 = .ok (.ifCond .eq 7, 3) := by decide +kernel
theorem d_Model_independent_71 : decode b_Model_independent 71 = .ok (.iconst 1, 1) := by decide +kernel
theorem d_Model_independent_72 : decode b_Model_independent 72 = .ok (.goto 4, 3) := by decide +kernel
theorem d_Model_independent_75 : decode b_Model_independent 75 = .ok (.iconst 0, 1) := by decide +kernel
theorem d_Model_independent_76 : decode b_Model_independent 76 = .ok (.iadd, 1) := by decide +kernel
theorem d_Model_independent_77 : decode b_Model_independent 77 = .ok (.istore_n 3, 1) := by decide +kernel
theorem d_Model_independent_78 : decode b_Model_independent 78 = .ok (.iinc 4 1, 3) := by decide +kernel
theorem d_Model_independent_81 : decode b_Model_independent 81 = .ok (.goto (-47), 3) := by decide +kernel
theorem d_Model_independent_84 : decode b_Model_independent 84 = .ok (.aload_n 0, 1) := by decide +kernel
theorem d_Model_independent_85 : decode b_Model_independent 85 = .ok (.iload_n 3, 1) := by decide +kernel
theorem d_Model_independent_86 : decode b_Model_independent 86 = .ok (.invokevirtual 171, 3) := by decide +kernel
theorem d_Model_independent_89 : decode b_Model_independent 89 = .ok (.ireturn, 1) := by decide +kernel
theorem d_Model_walksFrom_0 : decode b_Model_walksFrom 0 = .ok (.iconst 0, 1) := by decide +kernel
theorem d_Model_walksFrom_1 : decode b_Model_walksFrom 1 = .ok (.istore 4, 2) := by decide +kernel
theorem d_Model_walksFrom_3 : decode b_Model_walksFrom 3 = .ok (.iload 4, 2) := by decide +kernel
theorem d_Model_walksFrom_5 : decode b_Model_walksFrom 5 = .ok (.bipush 8, 2) := by decide +kernel
theorem d_Model_walksFrom_7 : decode b_Model_walksFrom 7 = .ok (.if_icmp .ge 27, 3) := by decide +kernel
theorem d_Model_walksFrom_10 : decode b_Model_walksFrom 10 = .ok (.aload_n 0, 1) := by decide +kernel
theorem d_Model_walksFrom_11 : decode b_Model_walksFrom 11 = .ok (.getfield 54, 3) := by decide +kernel
theorem d_Model_walksFrom_14 : decode b_Model_walksFrom 14 = .ok (.iload 4, 2) := by decide +kernel
theorem d_Model_walksFrom_16 : decode b_Model_walksFrom 16 = .ok (.iload 4, 2) := by decide +kernel
theorem d_Model_walksFrom_18 : decode b_Model_walksFrom 18 = .ok (.iload_n 2, 1) := by decide +kernel
theorem d_Model_walksFrom_19 : decode b_Model_walksFrom 19 = .ok (.if_icmp .ne 7, 3) := by decide +kernel
theorem d_Model_walksFrom_22 : decode b_Model_walksFrom 22 = .ok (.lconst 1, 1) := by decide +kernel
theorem d_Model_walksFrom_23 : decode b_Model_walksFrom 23 = .ok (.goto 4, 3) := by decide +kernel
theorem d_Model_walksFrom_26 : decode b_Model_walksFrom 26 = .ok (.lconst 0, 1) := by decide +kernel
theorem d_Model_walksFrom_27 : decode b_Model_walksFrom 27 = .ok (.lastore, 1) := by decide +kernel
theorem d_Model_walksFrom_28 : decode b_Model_walksFrom 28 = .ok (.iinc 4 1, 3) := by decide +kernel
theorem d_Model_walksFrom_31 : decode b_Model_walksFrom 31 = .ok (.goto (-28), 3) := by decide +kernel
theorem d_Model_walksFrom_34 : decode b_Model_walksFrom 34 = .ok (.iconst 0, 1) := by decide +kernel
theorem d_Model_walksFrom_35 : decode b_Model_walksFrom 35 = .ok (.istore 4, 2) := by decide +kernel
theorem d_Model_walksFrom_37 : decode b_Model_walksFrom 37 = .ok (.iload 4, 2) := by decide +kernel
theorem d_Model_walksFrom_39 : decode b_Model_walksFrom 39 = .ok (.iload_n 3, 1) := by decide +kernel
theorem d_Model_walksFrom_40 : decode b_Model_walksFrom 40 = .ok (.if_icmp .ge 116, 3) := by decide +kernel
theorem d_Model_walksFrom_43 : decode b_Model_walksFrom 43 = .ok (.iconst 0, 1) := by decide +kernel
theorem d_Model_walksFrom_44 : decode b_Model_walksFrom 44 = .ok (.istore 5, 2) := by decide +kernel
theorem d_Model_walksFrom_46 : decode b_Model_walksFrom 46 = .ok (.iload 5, 2) := by decide +kernel
theorem d_Model_walksFrom_48 : decode b_Model_walksFrom 48 = .ok (.aload_n 0, 1) := by decide +kernel
theorem d_Model_walksFrom_49 : decode b_Model_walksFrom 49 = .ok (.iload_n 1, 1) := by decide +kernel
theorem d_Model_walksFrom_50 : decode b_Model_walksFrom 50 = .ok (.invokevirtual 75, 3) := by decide +kernel
theorem d_Model_walksFrom_53 : decode b_Model_walksFrom 53 = .ok (.if_icmp .ge 64, 3) := by decide +kernel
theorem d_Model_walksFrom_56 : decode b_Model_walksFrom 56 = .ok (.aload_n 0, 1) := by decide +kernel
theorem d_Model_walksFrom_57 : decode b_Model_walksFrom 57 = .ok (.getfield 57, 3) := by decide +kernel
theorem d_Model_walksFrom_60 : decode b_Model_walksFrom 60 = .ok (.iload 5, 2) := by decide +kernel
theorem d_Model_walksFrom_62 : decode b_Model_walksFrom 62 = .ok (.lconst 0, 1) := by decide +kernel
theorem d_Model_walksFrom_63 : decode b_Model_walksFrom 63 = .ok (.lastore, 1) := by decide +kernel
theorem d_Model_walksFrom_64 : decode b_Model_walksFrom 64 = .ok (.iconst 0, 1) := by decide +kernel
theorem d_Model_walksFrom_65 : decode b_Model_walksFrom 65 = .ok (.istore 6, 2) := by decide +kernel
theorem d_Model_walksFrom_67 : decode b_Model_walksFrom 67 = .ok (.iload 6, 2) := by decide +kernel
theorem d_Model_walksFrom_69 : decode b_Model_walksFrom 69 = .ok (.aload_n 0, 1) := by decide +kernel
theorem d_Model_walksFrom_70 : decode b_Model_walksFrom 70 = .ok (.iload_n 1, 1) := by decide +kernel
theorem d_Model_walksFrom_71 : decode b_Model_walksFrom 71 = .ok (.invokevirtual 75, 3) := by decide +kernel
theorem d_Model_walksFrom_74 : decode b_Model_walksFrom 74 = .ok (.if_icmp .ge 37, 3) := by decide +kernel
theorem d_Model_walksFrom_77 : decode b_Model_walksFrom 77 = .ok (.aload_n 0, 1) := by decide +kernel
theorem d_Model_walksFrom_78 : decode b_Model_walksFrom 78 = .ok (.getfield 57, 3) := by decide +kernel
theorem d_Model_walksFrom_81 : decode b_Model_walksFrom 81 = .ok (.iload 5, 2) := by decide +kernel
theorem d_Model_walksFrom_83 : decode b_Model_walksFrom 83 = .ok (.dup2, 1) := by decide +kernel
theorem d_Model_walksFrom_84 : decode b_Model_walksFrom 84 = .ok (.laload, 1) := by decide +kernel
theorem d_Model_walksFrom_85 : decode b_Model_walksFrom 85 = .ok (.aload_n 0, 1) := by decide +kernel
theorem d_Model_walksFrom_86 : decode b_Model_walksFrom 86 = .ok (.getfield 54, 3) := by decide +kernel
theorem d_Model_walksFrom_89 : decode b_Model_walksFrom 89 = .ok (.iload 6, 2) := by decide +kernel
theorem d_Model_walksFrom_91 : decode b_Model_walksFrom 91 = .ok (.laload, 1) := by decide +kernel
theorem d_Model_walksFrom_92 : decode b_Model_walksFrom 92 = .ok (.aload_n 0, 1) := by decide +kernel
theorem d_Model_walksFrom_93 : decode b_Model_walksFrom 93 = .ok (.iload_n 1, 1) := by decide +kernel
theorem d_Model_walksFrom_94 : decode b_Model_walksFrom 94 = .ok (.iload 6, 2) := by decide +kernel
theorem d_Model_walksFrom_96 : decode b_Model_walksFrom 96 = .ok (.iload 5, 2) := by decide +kernel
theorem d_Model_walksFrom_98 : decode b_Model_walksFrom 98 = .ok (.invokevirtual 79, 3) := by decide +kernel
theorem d_Model_walksFrom_101 : decode b_Model_walksFrom 101 = .ok (.i2l, 1) := by decide +kernel
theorem d_Model_walksFrom_102 : decode b_Model_walksFrom 102 = .ok (.lmul, 1) := by decide +kernel
theorem d_Model_walksFrom_103 : decode b_Model_walksFrom 103 = .ok (.ladd, 1) := by decide +kernel
theorem d_Model_walksFrom_104 : decode b_Model_walksFrom 104 = .ok (.lastore, 1) := by decide +kernel
theorem d_Model_walksFrom_105 : decode b_Model_walksFrom 105 = .ok (.iinc 6 1, 3) := by decide +kernel
theorem d_Model_walksFrom_108 : decode b_Model_walksFrom 108 = .ok (.goto (-41), 3) := by decide +kernel
theorem d_Model_walksFrom_111 : decode b_Model_walksFrom 111 = .ok (.iinc 5 1, 3) := by decide +kernel
theorem d_Model_walksFrom_114 : decode b_Model_walksFrom 114 = .ok (.goto (-68), 3) := by decide +kernel
theorem d_Model_walksFrom_117 : decode b_Model_walksFrom 117 = .ok (.iconst 0, 1) := by decide +kernel
theorem d_Model_walksFrom_118 : decode b_Model_walksFrom 118 = .ok (.istore 5, 2) := by decide +kernel
theorem d_Model_walksFrom_120 : decode b_Model_walksFrom 120 = .ok (.iload 5, 2) := by decide +kernel
theorem d_Model_walksFrom_122 : decode b_Model_walksFrom 122 = .ok (.aload_n 0, 1) := by decide +kernel
theorem d_Model_walksFrom_123 : decode b_Model_walksFrom 123 = .ok (.iload_n 1, 1) := by decide +kernel
theorem d_Model_walksFrom_124 : decode b_Model_walksFrom 124 = .ok (.invokevirtual 75, 3) := by decide +kernel
theorem d_Model_walksFrom_127 : decode b_Model_walksFrom 127 = .ok (.if_icmp .ge 23, 3) := by decide +kernel
theorem d_Model_walksFrom_130 : decode b_Model_walksFrom 130 = .ok (.aload_n 0, 1) := by decide +kernel
theorem d_Model_walksFrom_131 : decode b_Model_walksFrom 131 = .ok (.getfield 54, 3) := by decide +kernel
theorem d_Model_walksFrom_134 : decode b_Model_walksFrom 134 = .ok (.iload 5, 2) := by decide +kernel
theorem d_Model_walksFrom_136 : decode b_Model_walksFrom 136 = .ok (.aload_n 0, 1) := by decide +kernel
theorem d_Model_walksFrom_137 : decode b_Model_walksFrom 137 = .ok (.getfield 57, 3) := by decide +kernel
theorem d_Model_walksFrom_140 : decode b_Model_walksFrom 140 = .ok (.iload 5, 2) := by decide +kernel
theorem d_Model_walksFrom_142 : decode b_Model_walksFrom 142 = .ok (.laload, 1) := by decide +kernel
theorem d_Model_walksFrom_143 : decode b_Model_walksFrom 143 = .ok (.lastore, 1) := by decide +kernel
theorem d_Model_walksFrom_144 : decode b_Model_walksFrom 144 = .ok (.iinc 5 1, 3) := by decide +kernel
theorem d_Model_walksFrom_147 : decode b_Model_walksFrom 147 = .ok (.goto (-27), 3) := by decide +kernel
theorem d_Model_walksFrom_150 : decode b_Model_walksFrom 150 = .ok (.iinc 4 1, 3) := by decide +kernel
theorem d_Model_walksFrom_153 : decode b_Model_walksFrom 153 = .ok (.goto (-116), 3) := by decide +kernel
theorem d_Model_walksFrom_156 : decode b_Model_walksFrom 156 = .ok (.return_, 1) := by decide +kernel
theorem d_Model_walks_0 : decode b_Model_walks 0 = .ok (.iload_n 1, 1) := by decide +kernel
theorem d_Model_walks_1 : decode b_Model_walks 1 = .ok (.invokestatic 71, 3) := by decide +kernel
theorem d_Model_walks_4 : decode b_Model_walks 4 = .ok (.ifCond .ne 10, 3) := by decide +kernel
theorem d_Model_walks_7 : decode b_Model_walks 7 = .ok (.aload_n 0, 1) := by decide +kernel
theorem d_Model_walks_8 : decode b_Model_walks 8 = .ok (.iconst 1, 1) := by decide +kernel
theorem d_Model_walks_9 : decode b_Model_walks 9 = .ok (.invokevirtual 93, 3) := by decide +kernel
theorem d_Model_walks_12 : decode b_Model_walks 12 = .ok (.i2l, 1) := by decide +kernel
theorem d_Model_walks_13 : decode b_Model_walks 13 = .ok (.lreturn, 1) := by decide +kernel
theorem d_Model_walks_14 : decode b_Model_walks 14 = .ok (.iload_n 2, 1) := by decide +kernel
theorem d_Model_walks_15 : decode b_Model_walks 15 = .ok (.iconst 0, 1) := by decide +kernel
theorem d_Model_walks_16 : decode b_Model_walks 16 = .ok (.bipush 12, 2) := by decide +kernel
theorem d_Model_walks_18 : decode b_Model_walks 18 = .ok (.invokestatic 67, 3) := by decide +kernel
theorem d_Model_walks_21 : decode b_Model_walks 21 = .ok (.ifCond .ne 10, 3) := by decide +kernel
theorem d_Model_walks_24 : decode b_Model_walks 24 = .ok (.aload_n 0, 1) := by decide +kernel
theorem d_Model_walks_25 : decode b_Model_walks 25 = .ok (.iconst 2, 1) := by decide +kernel
theorem d_Model_walks_26 : decode b_Model_walks 26 = .ok (.invokevirtual 93, 3) := by decide +kernel
theorem d_Model_walks_29 : decode b_Model_walks 29 = .ok (.i2l, 1) := by decide +kernel
theorem d_Model_walks_30 : decode b_Model_walks 30 = .ok (.lreturn, 1) := by decide +kernel
theorem d_Model_walks_31 : decode b_Model_walks 31 = .ok (.aload_n 0, 1) := by decide +kernel
theorem d_Model_walks_32 : decode b_Model_walks 32 = .ok (.iconst 0, 1) := by decide +kernel
theorem d_Model_walks_33 : decode b_Model_walks 33 = .ok (.putfield 63, 3) := by decide +kernel
theorem d_Model_walks_36 : decode b_Model_walks 36 = .ok (.lconst 0, 1) := by decide +kernel
theorem d_Model_walks_37 : decode b_Model_walks 37 = .ok (.lstore 4, 2) := by decide +kernel
theorem d_Model_walks_39 : decode b_Model_walks 39 = .ok (.iconst 0, 1) := by decide +kernel
theorem d_Model_walks_40 : decode b_Model_walks 40 = .ok (.istore 6, 2) := by decide +kernel
theorem d_Model_walks_42 : decode b_Model_walks 42 = .ok (.iload 6, 2) := by decide +kernel
theorem d_Model_walks_44 : decode b_Model_walks 44 = .ok (.aload_n 0, 1) := by decide +kernel
theorem d_Model_walks_45 : decode b_Model_walks 45 = .ok (.iload_n 1, 1) := by decide +kernel
theorem d_Model_walks_46 : decode b_Model_walks 46 = .ok (.invokevirtual 75, 3) := by decide +kernel
theorem d_Model_walks_49 : decode b_Model_walks 49 = .ok (.if_icmp .ge 63, 3) := by decide +kernel
theorem d_Model_walks_52 : decode b_Model_walks 52 = .ok (.aload_n 0, 1) := by decide +kernel
theorem d_Model_walks_53 : decode b_Model_walks 53 = .ok (.iload_n 1, 1) := by decide +kernel
theorem d_Model_walks_54 : decode b_Model_walks 54 = .ok (.iload 6, 2) := by decide +kernel
theorem d_Model_walks_56 : decode b_Model_walks 56 = .ok (.iload_n 2, 1) := by decide +kernel
theorem d_Model_walks_57 : decode b_Model_walks 57 = .ok (.invokevirtual 268, 3) := by decide +kernel
theorem d_Model_walks_60 : decode b_Model_walks 60 = .ok (.iconst 0, 1) := by decide +kernel
theorem d_Model_walks_61 : decode b_Model_walks 61 = .ok (.istore 7, 2) := by decide +kernel
theorem d_Model_walks_63 : decode b_Model_walks 63 = .ok (.iload 7, 2) := by decide +kernel
theorem d_Model_walks_65 : decode b_Model_walks 65 = .ok (.aload_n 0, 1) := by decide +kernel
theorem d_Model_walks_66 : decode b_Model_walks 66 = .ok (.iload_n 1, 1) := by decide +kernel
theorem d_Model_walks_67 : decode b_Model_walks 67 = .ok (.invokevirtual 75, 3) := by decide +kernel
theorem d_Model_walks_70 : decode b_Model_walks 70 = .ok (.if_icmp .ge 36, 3) := by decide +kernel
theorem d_Model_walks_73 : decode b_Model_walks 73 = .ok (.lload 4, 2) := by decide +kernel
theorem d_Model_walks_75 : decode b_Model_walks 75 = .ok (.iload_n 3, 1) := by decide +kernel
theorem d_Model_walks_76 : decode b_Model_walks 76 = .ok (.ifCond .eq 14, 3) := by decide +kernel
theorem d_Model_walks_79 : decode b_Model_walks 79 = .ok (.iload 7, 2) := by decide +kernel
theorem d_Model_walks_81 : decode b_Model_walks 81 = .ok (.iload 6, 2) := by decide +kernel
theorem d_Model_walks_83 : decode b_Model_walks 83 = .ok (.if_icmp .eq 7, 3) := by decide +kernel
theorem d_Model_walks_86 : decode b_Model_walks 86 = .ok (.lconst 0, 1) := by decide +kernel
theorem d_Model_walks_87 : decode b_Model_walks 87 = .ok (.goto 10, 3) := by decide +kernel
theorem d_Model_walks_90 : decode b_Model_walks 90 = .ok (.aload_n 0, 1) := by decide +kernel
theorem d_Model_walks_91 : decode b_Model_walks 91 = .ok (.getfield 54, 3) := by decide +kernel
theorem d_Model_walks_94 : decode b_Model_walks 94 = .ok (.iload 7, 2) := by decide +kernel
theorem d_Model_walks_96 : decode b_Model_walks 96 = .ok (.laload, 1) := by decide +kernel
theorem d_Model_walks_97 : decode b_Model_walks 97 = .ok (.ladd, 1) := by decide +kernel
theorem d_Model_walks_98 : decode b_Model_walks 98 = .ok (.lstore 4, 2) := by decide +kernel
theorem d_Model_walks_100 : decode b_Model_walks 100 = .ok (.iinc 7 1, 3) := by decide +kernel
theorem d_Model_walks_103 : decode b_Model_walks 103 = .ok (.goto (-40), 3) := by decide +kernel
theorem d_Model_walks_106 : decode b_Model_walks 106 = .ok (.iinc 6 1, 3) := by decide +kernel
theorem d_Model_walks_109 : decode b_Model_walks 109 = .ok (.goto (-67), 3) := by decide +kernel
theorem d_Model_walks_112 : decode b_Model_walks 112 = .ok (.lload 4, 2) := by decide +kernel
theorem d_Model_walks_114 : decode b_Model_walks 114 = .ok (.lreturn, 1) := by decide +kernel
theorem d_Model_isFold_0 : decode b_Model_isFold 0 = .ok (.iload_n 2, 1) := by decide +kernel
theorem d_Model_isFold_1 : decode b_Model_isFold 1 = .ok (.iload_n 3, 1) := by decide +kernel
theorem d_Model_isFold_2 : decode b_Model_isFold 2 = .ok (.if_icmp .eq 7, 3) := by decide +kernel
theorem d_Model_isFold_5 : decode b_Model_isFold 5 = .ok (.iconst 1, 1) := by decide +kernel
theorem d_Model_isFold_6 : decode b_Model_isFold 6 = .ok (.goto 4, 3) := by decide +kernel
theorem d_Model_isFold_9 : decode b_Model_isFold 9 = .ok (.iconst 0, 1) := by decide +kernel
theorem d_Model_isFold_10 : decode b_Model_isFold 10 = .ok (.istore 4, 2) := by decide +kernel
theorem d_Model_isFold_12 : decode b_Model_isFold 12 = .ok (.iconst 0, 1) := by decide +kernel
theorem d_Model_isFold_13 : decode b_Model_isFold 13 = .ok (.istore 5, 2) := by decide +kernel
theorem d_Model_isFold_15 : decode b_Model_isFold 15 = .ok (.iload 5, 2) := by decide +kernel
theorem d_Model_isFold_17 : decode b_Model_isFold 17 = .ok (.aload_n 0, 1) := by decide +kernel
theorem d_Model_isFold_18 : decode b_Model_isFold 18 = .ok (.iload_n 1, 1) := by decide +kernel
theorem d_Model_isFold_19 : decode b_Model_isFold 19 = .ok (.invokevirtual 75, 3) := by decide +kernel
theorem d_Model_isFold_22 : decode b_Model_isFold 22 = .ok (.if_icmp .ge 53, 3) := by decide +kernel
theorem d_Model_isFold_25 : decode b_Model_isFold 25 = .ok (.iload 4, 2) := by decide +kernel
theorem d_Model_isFold_27 : decode b_Model_isFold 27 = .ok (.ifCond .eq 48, 3) := by decide +kernel
theorem d_Model_isFold_30 : decode b_Model_isFold 30 = .ok (.aload_n 0, 1) := by decide +kernel
theorem d_Model_isFold_31 : decode b_Model_isFold 31 = .ok (.iload_n 1, 1) := by decide +kernel
theorem d_Model_isFold_32 : decode b_Model_isFold 32 = .ok (.iload_n 2, 1) := by decide +kernel
theorem d_Model_isFold_33 : decode b_Model_isFold 33 = .ok (.iload 5, 2) := by decide +kernel
theorem d_Model_isFold_35 : decode b_Model_isFold 35 = .ok (.invokevirtual 148, 3) := by decide +kernel
theorem d_Model_isFold_38 : decode b_Model_isFold 38 = .ok (.ifCond .eq 24, 3) := by decide +kernel
theorem d_Model_isFold_41 : decode b_Model_isFold 41 = .ok (.aload_n 0, 1) := by decide +kernel
theorem d_Model_isFold_42 : decode b_Model_isFold 42 = .ok (.iload_n 1, 1) := by decide +kernel
theorem d_Model_isFold_43 : decode b_Model_isFold 43 = .ok (.iload_n 3, 1) := by decide +kernel
theorem d_Model_isFold_44 : decode b_Model_isFold 44 = .ok (.iload 5, 2) := by decide +kernel
theorem d_Model_isFold_46 : decode b_Model_isFold 46 = .ok (.iload_n 2, 1) := by decide +kernel
theorem d_Model_isFold_47 : decode b_Model_isFold 47 = .ok (.if_icmp .ne 7, 3) := by decide +kernel
theorem d_Model_isFold_50 : decode b_Model_isFold 50 = .ok (.iload_n 3, 1) := by decide +kernel
theorem d_Model_isFold_51 : decode b_Model_isFold 51 = .ok (.goto 5, 3) := by decide +kernel
theorem d_Model_isFold_54 : decode b_Model_isFold 54 = .ok (.iload 5, 2) := by decide +kernel
theorem d_Model_isFold_56 : decode b_Model_isFold 56 = .ok (.invokevirtual 148, 3) := by decide +kernel
theorem d_Model_isFold_59 : decode b_Model_isFold 59 = .ok (.ifCond .eq 7, 3) := by decide +kernel
theorem d_Model_isFold_62 : decode b_Model_isFold 62 = .ok (.iconst 1, 1) := by decide +kernel
theorem d_Model_isFold_63 : decode b_Model_isFold 63 = .ok (.goto 4, 3) := by decide +kernel
theorem d_Model_isFold_66 : decode b_Model_isFold 66 = .ok (.iconst 0, 1) := by decide +kernel
theorem d_Model_isFold_67 : decode b_Model_isFold 67 = .ok (.istore 4, 2) := by decide +kernel
theorem d_Model_isFold_69 : decode b_Model_isFold 69 = .ok (.iinc 5 1, 3) := by decide +kernel
theorem d_Model_isFold_72 : decode b_Model_isFold 72 = .ok (.goto (-57), 3) := by decide +kernel
theorem d_Model_isFold_75 : decode b_Model_isFold 75 = .ok (.iload 4, 2) := by decide +kernel
theorem d_Model_isFold_77 : decode b_Model_isFold 77 = .ok (.ireturn, 1) := by decide +kernel
theorem d_Model_foldsOf_0 : decode b_Model_foldsOf 0 = .ok (.iconst 0, 1) := by decide +kernel
theorem d_Model_foldsOf_1 : decode b_Model_foldsOf 1 = .ok (.istore_n 3, 1) := by decide +kernel
theorem d_Model_foldsOf_2 : decode b_Model_foldsOf 2 = .ok (.iconst 0, 1) := by decide +kernel
theorem d_Model_foldsOf_3 : decode b_Model_foldsOf 3 = .ok (.istore 4, 2) := by decide +kernel
theorem d_Model_foldsOf_5 : decode b_Model_foldsOf 5 = .ok (.iload 4, 2) := by decide +kernel
theorem d_Model_foldsOf_7 : decode b_Model_foldsOf 7 = .ok (.aload_n 0, 1) := by decide +kernel
theorem d_Model_foldsOf_8 : decode b_Model_foldsOf 8 = .ok (.iload_n 1, 1) := by decide +kernel
theorem d_Model_foldsOf_9 : decode b_Model_foldsOf 9 = .ok (.invokevirtual 75, 3) := by decide +kernel
theorem d_Model_foldsOf_12 : decode b_Model_foldsOf 12 = .ok (.if_icmp .ge 31, 3) := by decide +kernel
theorem d_Model_foldsOf_15 : decode b_Model_foldsOf 15 = .ok (.iload_n 3, 1) := by decide +kernel
theorem d_Model_foldsOf_16 : decode b_Model_foldsOf 16 = .ok (.aload_n 0, 1) := by decide +kernel
theorem d_Model_foldsOf_17 : decode b_Model_foldsOf 17 = .ok (.iload_n 1, 1) := by decide +kernel
theorem d_Model_foldsOf_18 : decode b_Model_foldsOf 18 = .ok (.iload_n 2, 1) := by decide +kernel
theorem d_Model_foldsOf_19 : decode b_Model_foldsOf 19 = .ok (.iload 4, 2) := by decide +kernel
theorem d_Model_foldsOf_21 : decode b_Model_foldsOf 21 = .ok (.invokevirtual 271, 3) := by decide +kernel
theorem d_Model_foldsOf_24 : decode b_Model_foldsOf 24 = .ok (.ifCond .eq 10, 3) := by decide +kernel
theorem d_Model_foldsOf_27 : decode b_Model_foldsOf 27 = .ok (.iconst 1, 1) := by decide +kernel
theorem d_Model_foldsOf_28 : decode b_Model_foldsOf 28 = .ok (.iload 4, 2) := by decide +kernel
theorem d_Model_foldsOf_30 : decode b_Model_foldsOf 30 = .ok (.ishl, 1) := by decide +kernel
theorem d_Model_foldsOf_31 : decode b_Model_foldsOf 31 = .ok (.goto 4, 3) := by decide +kernel
theorem d_Model_foldsOf_34 : decode b_Model_foldsOf 34 = .ok (.iconst 0, 1) := by decide +kernel
theorem d_Model_foldsOf_35 : decode b_Model_foldsOf 35 = .ok (.ior, 1) := by decide +kernel
theorem d_Model_foldsOf_36 : decode b_Model_foldsOf 36 = .ok (.istore_n 3, 1) := by decide +kernel
theorem d_Model_foldsOf_37 : decode b_Model_foldsOf 37 = .ok (.iinc 4 1, 3) := by decide +kernel
theorem d_Model_foldsOf_40 : decode b_Model_foldsOf 40 = .ok (.goto (-35), 3) := by decide +kernel
theorem d_Model_foldsOf_43 : decode b_Model_foldsOf 43 = .ok (.iload_n 3, 1) := by decide +kernel
theorem d_Model_foldsOf_44 : decode b_Model_foldsOf 44 = .ok (.ireturn, 1) := by decide +kernel
theorem d_Model_folds_0 : decode b_Model_folds 0 = .ok (.aload_n 0, 1) := by decide +kernel
theorem d_Model_folds_1 : decode b_Model_folds 1 = .ok (.iload_n 1, 1) := by decide +kernel
theorem d_Model_folds_2 : decode b_Model_folds 2 = .ok (.iload_n 2, 1) := by decide +kernel
theorem d_Model_folds_3 : decode b_Model_folds 3 = .ok (.invokevirtual 103, 3) := by decide +kernel
theorem d_Model_folds_6 : decode b_Model_folds 6 = .ok (.ifCond .eq 16, 3) := by decide +kernel
theorem d_Model_folds_9 : decode b_Model_folds 9 = .ok (.aload_n 0, 1) := by decide +kernel
theorem d_Model_folds_10 : decode b_Model_folds 10 = .ok (.aload_n 0, 1) := by decide +kernel
theorem d_Model_folds_11 : decode b_Model_folds 11 = .ok (.iload_n 1, 1) := by decide +kernel
theorem d_Model_folds_12 : decode b_Model_folds 12 = .ok (.iload_n 2, 1) := by decide +kernel
theorem d_Model_folds_13 : decode b_Model_folds 13 = .ok (.invokevirtual 274, 3) := by decide +kernel
theorem d_Model_folds_16 : decode b_Model_folds 16 = .ok (.invokevirtual 171, 3) := by decide +kernel
theorem d_Model_folds_19 : decode b_Model_folds 19 = .ok (.goto 8, 3) := by decide +kernel
theorem d_Model_folds_22 : decode b_Model_folds 22 = .ok (.aload_n 0, 1) := by decide +kernel
theorem d_Model_folds_23 : decode b_Model_folds 23 = .ok (.iconst 1, 1) := by decide +kernel
theorem d_Model_folds_24 : decode b_Model_folds 24 = .ok (.invokevirtual 93, 3) := by decide +kernel
theorem d_Model_folds_27 : decode b_Model_folds 27 = .ok (.ireturn, 1) := by decide +kernel
theorem d_Model_lowestFolded_0 : decode b_Model_lowestFolded 0 = .ok (.iconst (-1), 1) := by decide +kernel
theorem d_Model_lowestFolded_1 : decode b_Model_lowestFolded 1 = .ok (.istore_n 2, 1) := by decide +kernel
theorem d_Model_lowestFolded_2 : decode b_Model_lowestFolded 2 = .ok (.aload_n 0, 1) := by decide +kernel
theorem d_Model_lowestFolded_3 : decode b_Model_lowestFolded 3 = .ok (.iload_n 1, 1) := by decide +kernel
theorem d_Model_lowestFolded_4 : decode b_Model_lowestFolded 4 = .ok (.invokevirtual 75, 3) := by decide +kernel
theorem d_Model_lowestFolded_7 : decode b_Model_lowestFolded 7 = .ok (.iconst 1, 1) := by decide +kernel
theorem d_Model_lowestFolded_8 : decode b_Model_lowestFolded 8 = .ok (.isub, 1) := by decide +kernel
theorem d_Model_lowestFolded_9 : decode b_Model_lowestFolded 9 = .ok (.istore_n 3, 1) := by decide +kernel
theorem d_Model_lowestFolded_10 : decode b_Model_lowestFolded 10 = .ok (.iload_n 3, 1) := by decide +kernel
theorem d_Model_lowestFolded_11 : decode b_Model_lowestFolded 11 = .ok (.ifCond .lt 24, 3) := by decide +kernel
theorem d_Model_lowestFolded_14 : decode b_Model_lowestFolded 14 = .ok (.aload_n 0, 1) := by decide +kernel
theorem d_Model_lowestFolded_15 : decode b_Model_lowestFolded 15 = .ok (.iload_n 1, 1) := by decide +kernel
theorem d_Model_lowestFolded_16 : decode b_Model_lowestFolded 16 = .ok (.iload_n 3, 1) := by decide +kernel
theorem d_Model_lowestFolded_17 : decode b_Model_lowestFolded 17 = .ok (.invokevirtual 274, 3) := by decide +kernel
theorem d_Model_lowestFolded_20 : decode b_Model_lowestFolded 20 = .ok (.ifCond .eq 7, 3) := by decide +kernel
theorem d_Model_lowestFolded_23 : decode b_Model_lowestFolded 23 = .ok (.iload_n 3, 1) := by decide +kernel
theorem d_Model_lowestFolded_24 : decode b_Model_lowestFolded 24 = .ok (.goto 4, 3) := by decide +kernel
theorem d_Model_lowestFolded_27 : decode b_Model_lowestFolded 27 = .ok (.iload_n 2, 1) := by decide +kernel
theorem d_Model_lowestFolded_28 : decode b_Model_lowestFolded 28 = .ok (.istore_n 2, 1) := by decide +kernel
theorem d_Model_lowestFolded_29 : decode b_Model_lowestFolded 29 = .ok (.iinc 3 (-1), 3) := by decide +kernel
theorem d_Model_lowestFolded_32 : decode b_Model_lowestFolded 32 = .ok (.goto (-22), 3) := by decide +kernel
theorem d_Model_lowestFolded_35 : decode b_Model_lowestFolded 35 = .ok (.iload_n 2, 1) := by decide +kernel
theorem d_Model_lowestFolded_36 : decode b_Model_lowestFolded 36 = .ok (.ireturn, 1) := by decide +kernel
theorem d_Model_dismantle_0 : decode b_Model_dismantle 0 = .ok (.iload_n 1, 1) := by decide +kernel
theorem d_Model_dismantle_1 : decode b_Model_dismantle 1 = .ok (.invokestatic 71, 3) := by decide +kernel
theorem d_Model_dismantle_4 : decode b_Model_dismantle 4 = .ok (.ifCond .ne 9, 3) := by decide +kernel
theorem d_Model_dismantle_7 : decode b_Model_dismantle 7 = .ok (.aload_n 0, 1) := by decide +kernel
theorem d_Model_dismantle_8 : decode b_Model_dismantle 8 = .ok (.iconst 1, 1) := by decide +kernel
theorem d_Model_dismantle_9 : decode b_Model_dismantle 9 = .ok (.invokevirtual 93, 3) := by decide +kernel
theorem d_Model_dismantle_12 : decode b_Model_dismantle 12 = .ok (.ireturn, 1) := by decide +kernel
theorem d_Model_dismantle_13 : decode b_Model_dismantle 13 = .ok (.aload_n 0, 1) := by decide +kernel
theorem d_Model_dismantle_14 : decode b_Model_dismantle 14 = .ok (.iload_n 1, 1) := by decide +kernel
theorem d_Model_dismantle_15 : decode b_Model_dismantle 15 = .ok (.iconst 4, 1) := by decide +kernel
theorem d_Model_dismantle_16 : decode b_Model_dismantle 16 = .ok (.invokevirtual 89, 3) := by decide +kernel
theorem d_Model_dismantle_19 : decode b_Model_dismantle 19 = .ok (.iconst 0, 1) := by decide +kernel
theorem d_Model_dismantle_20 : decode b_Model_dismantle 20 = .ok (.istore_n 2, 1) := by decide +kernel
theorem d_Model_dismantle_21 : decode b_Model_dismantle 21 = .ok (.aload_n 0, 1) := by decide +kernel
theorem d_Model_dismantle_22 : decode b_Model_dismantle 22 = .ok (.iconst 4, 1) := by decide +kernel
theorem d_Model_dismantle_23 : decode b_Model_dismantle 23 = .ok (.invokevirtual 277, 3) := by decide +kernel
theorem d_Model_dismantle_26 : decode b_Model_dismantle 26 = .ok (.istore_n 3, 1) := by decide +kernel
theorem d_Model_dismantle_27 : decode b_Model_dismantle 27 = .ok (.iload_n 3, 1) := by decide +kernel
theorem d_Model_dismantle_28 : decode b_Model_dismantle 28 = .ok (.iconst (-1), 1) := by decide +kernel
theorem d_Model_dismantle_29 : decode b_Model_dismantle 29 = .ok (.if_icmp .eq 21, 3) := by decide +kernel
theorem d_Model_dismantle_32 : decode b_Model_dismantle 32 = .ok (.aload_n 0, 1) := by decide +kernel
theorem d_Model_dismantle_33 : decode b_Model_dismantle 33 = .ok (.iconst 4, 1) := by decide +kernel
theorem d_Model_dismantle_34 : decode b_Model_dismantle 34 = .ok (.iload_n 3, 1) := by decide +kernel
theorem d_Model_dismantle_35 : decode b_Model_dismantle 35 = .ok (.invokevirtual 280, 3) := by decide +kernel
theorem d_Model_dismantle_38 : decode b_Model_dismantle 38 = .ok (.iinc 2 1, 3) := by decide +kernel
theorem d_Model_dismantle_41 : decode b_Model_dismantle 41 = .ok (.aload_n 0, 1) := by decide +kernel
theorem d_Model_dismantle_42 : decode b_Model_dismantle 42 = .ok (.iconst 4, 1) := by decide +kernel
theorem d_Model_dismantle_43 : decode b_Model_dismantle 43 = .ok (.invokevirtual 277, 3) := by decide +kernel
theorem d_Model_dismantle_46 : decode b_Model_dismantle 46 = .ok (.istore_n 3, 1) := by decide +kernel
theorem d_Model_dismantle_47 : decode b_Model_dismantle 47 = .ok (.goto (-20), 3) := by decide +kernel
theorem d_Model_dismantle_50 : decode b_Model_dismantle 50 = .ok (.aload_n 0, 1) := by decide +kernel
theorem d_Model_dismantle_51 : decode b_Model_dismantle 51 = .ok (.iload_n 1, 1) := by decide +kernel
theorem d_Model_dismantle_52 : decode b_Model_dismantle 52 = .ok (.invokevirtual 99, 3) := by decide +kernel
theorem d_Model_dismantle_55 : decode b_Model_dismantle 55 = .ok (.iload_n 2, 1) := by decide +kernel
theorem d_Model_dismantle_56 : decode b_Model_dismantle 56 = .ok (.ireturn, 1) := by decide +kernel
theorem d_Model_isCore_0 : decode b_Model_isCore 0 = .ok (.aload_n 0, 1) := by decide +kernel
theorem d_Model_isCore_1 : decode b_Model_isCore 1 = .ok (.iload_n 1, 1) := by decide +kernel
theorem d_Model_isCore_2 : decode b_Model_isCore 2 = .ok (.invokestatic 71, 3) := by decide +kernel
theorem d_Model_isCore_5 : decode b_Model_isCore 5 = .ok (.ifCond .eq 7, 3) := by decide +kernel
theorem d_Model_isCore_8 : decode b_Model_isCore 8 = .ok (.iconst 0, 1) := by decide +kernel
theorem d_Model_isCore_9 : decode b_Model_isCore 9 = .ok (.goto 4, 3) := by decide +kernel
theorem d_Model_isCore_12 : decode b_Model_isCore 12 = .ok (.iconst 1, 1) := by decide +kernel
theorem d_Model_isCore_13 : decode b_Model_isCore 13 = .ok (.putfield 63, 3) := by decide +kernel
theorem d_Model_isCore_16 : decode b_Model_isCore 16 = .ok (.aload_n 0, 1) := by decide +kernel
theorem d_Model_isCore_17 : decode b_Model_isCore 17 = .ok (.getfield 63, 3) := by decide +kernel
theorem d_Model_isCore_20 : decode b_Model_isCore 20 = .ok (.ifCond .ne 16, 3) := by decide +kernel
theorem d_Model_isCore_23 : decode b_Model_isCore 23 = .ok (.aload_n 0, 1) := by decide +kernel
theorem d_Model_isCore_24 : decode b_Model_isCore 24 = .ok (.iload_n 1, 1) := by decide +kernel
theorem d_Model_isCore_25 : decode b_Model_isCore 25 = .ok (.invokevirtual 283, 3) := by decide +kernel
theorem d_Model_isCore_28 : decode b_Model_isCore 28 = .ok (.iconst (-1), 1) := by decide +kernel
theorem d_Model_isCore_29 : decode b_Model_isCore 29 = .ok (.if_icmp .ne 7, 3) := by decide +kernel
theorem d_Model_isCore_32 : decode b_Model_isCore 32 = .ok (.iconst 1, 1) := by decide +kernel
theorem d_Model_isCore_33 : decode b_Model_isCore 33 = .ok (.goto 4, 3) := by decide +kernel
theorem d_Model_isCore_36 : decode b_Model_isCore 36 = .ok (.iconst 0, 1) := by decide +kernel
theorem d_Model_isCore_37 : decode b_Model_isCore 37 = .ok (.ireturn, 1) := by decide +kernel
theorem d_Model_coreOf_0 : decode b_Model_coreOf 0 = .ok (.aload_n 0, 1) := by decide +kernel
theorem d_Model_coreOf_1 : decode b_Model_coreOf 1 = .ok (.iload_n 1, 1) := by decide +kernel
theorem d_Model_coreOf_2 : decode b_Model_coreOf 2 = .ok (.iconst 4, 1) := by decide +kernel
theorem d_Model_coreOf_3 : decode b_Model_coreOf 3 = .ok (.invokevirtual 89, 3) := by decide +kernel
theorem d_Model_coreOf_6 : decode b_Model_coreOf 6 = .ok (.aload_n 0, 1) := by decide +kernel
theorem d_Model_coreOf_7 : decode b_Model_coreOf 7 = .ok (.invokevirtual 154, 3) := by decide +kernel
theorem d_Model_coreOf_10 : decode b_Model_coreOf 10 = .ok (.ireturn, 1) := by decide +kernel
theorem d_Model_coreSize_0 : decode b_Model_coreSize 0 = .ok (.iload_n 1, 1) := by decide +kernel
theorem d_Model_coreSize_1 : decode b_Model_coreSize 1 = .ok (.invokestatic 71, 3) := by decide +kernel
theorem d_Model_coreSize_4 : decode b_Model_coreSize 4 = .ok (.ifCond .eq 15, 3) := by decide +kernel
theorem d_Model_coreSize_7 : decode b_Model_coreSize 7 = .ok (.aload_n 0, 1) := by decide +kernel
theorem d_Model_coreSize_8 : decode b_Model_coreSize 8 = .ok (.aload_n 0, 1) := by decide +kernel
theorem d_Model_coreSize_9 : decode b_Model_coreSize 9 = .ok (.iload_n 1, 1) := by decide +kernel
theorem d_Model_coreSize_10 : decode b_Model_coreSize 10 = .ok (.invokevirtual 286, 3) := by decide +kernel
theorem d_Model_coreSize_13 : decode b_Model_coreSize 13 = .ok (.invokevirtual 171, 3) := by decide +kernel
theorem d_Model_coreSize_16 : decode b_Model_coreSize 16 = .ok (.goto 8, 3) := by decide +kernel
theorem d_Model_coreSize_19 : decode b_Model_coreSize 19 = .ok (.aload_n 0, 1) := by decide +kernel
theorem d_Model_coreSize_20 : decode b_Model_coreSize 20 = .ok (.iconst 1, 1) := by decide +kernel
theorem d_Model_coreSize_21 : decode b_Model_coreSize 21 = .ok (.invokevirtual 93, 3) := by decide +kernel
theorem d_Model_coreSize_24 : decode b_Model_coreSize 24 = .ok (.ireturn, 1) := by decide +kernel
theorem d_Model_append_0 : decode b_Model_append 0 = .ok (.iload_n 1, 1) := by decide +kernel
theorem d_Model_append_1 : decode b_Model_append 1 = .ok (.iconst 0, 1) := by decide +kernel
theorem d_Model_append_2 : decode b_Model_append 2 = .ok (.bipush 127, 2) := by decide +kernel
theorem d_Model_append_4 : decode b_Model_append 4 = .ok (.invokestatic 67, 3) := by decide +kernel
theorem d_Model_append_7 : decode b_Model_append 7 = .ok (.ifCond .ne 9, 3) := by decide +kernel
theorem d_Model_append_10 : decode b_Model_append 10 = .ok (.aload_n 0, 1) := by decide +kernel
theorem d_Model_append_11 : decode b_Model_append 11 = .ok (.iconst 1, 1) := by decide +kernel
theorem d_Model_append_12 : decode b_Model_append 12 = .ok (.invokevirtual 93, 3) := by decide +kernel
theorem d_Model_append_15 : decode b_Model_append 15 = .ok (.ireturn, 1) := by decide +kernel
theorem d_Model_append_16 : decode b_Model_append 16 = .ok (.aload_n 0, 1) := by decide +kernel
theorem d_Model_append_17 : decode b_Model_append 17 = .ok (.getfield 289, 3) := by decide +kernel
theorem d_Model_append_20 : decode b_Model_append 20 = .ok (.bipush 120, 2) := by decide +kernel
theorem d_Model_append_22 : decode b_Model_append 22 = .ok (.if_icmp .ne 9, 3) := by decide +kernel
theorem d_Model_append_25 : decode b_Model_append 25 = .ok (.aload_n 0, 1) := by decide +kernel
theorem d_Model_append_26 : decode b_Model_append 26 = .ok (.iconst 2, 1) := by decide +kernel
theorem d_Model_append_27 : decode b_Model_append 27 = .ok (.invokevirtual 93, 3) := by decide +kernel
theorem d_Model_append_30 : decode b_Model_append 30 = .ok (.ireturn, 1) := by decide +kernel
theorem d_Model_append_31 : decode b_Model_append 31 = .ok (.aload_n 0, 1) := by decide +kernel
theorem d_Model_append_32 : decode b_Model_append 32 = .ok (.getfield 16, 3) := by decide +kernel
theorem d_Model_append_35 : decode b_Model_append 35 = .ok (.aload_n 0, 1) := by decide +kernel
theorem d_Model_append_36 : decode b_Model_append 36 = .ok (.getfield 289, 3) := by decide +kernel
theorem d_Model_append_39 : decode b_Model_append 39 = .ok (.iload_n 1, 1) := by decide +kernel
theorem d_Model_append_40 : decode b_Model_append 40 = .ok (.iastore, 1) := by decide +kernel
theorem d_Model_append_41 : decode b_Model_append 41 = .ok (.aload_n 0, 1) := by decide +kernel
theorem d_Model_append_42 : decode b_Model_append 42 = .ok (.dup, 1) := by decide +kernel
theorem d_Model_append_43 : decode b_Model_append 43 = .ok (.getfield 289, 3) := by decide +kernel
theorem d_Model_append_46 : decode b_Model_append 46 = .ok (.iconst 1, 1) := by decide +kernel
theorem d_Model_append_47 : decode b_Model_append 47 = .ok (.iadd, 1) := by decide +kernel
theorem d_Model_append_48 : decode b_Model_append 48 = .ok (.putfield 289, 3) := by decide +kernel
theorem d_Model_append_51 : decode b_Model_append 51 = .ok (.aload_n 0, 1) := by decide +kernel
theorem d_Model_append_52 : decode b_Model_append 52 = .ok (.aload_n 0, 1) := by decide +kernel
theorem d_Model_append_53 : decode b_Model_append 53 = .ok (.getfield 289, 3) := by decide +kernel
theorem d_Model_append_56 : decode b_Model_append 56 = .ok (.invokevirtual 171, 3) := by decide +kernel
theorem d_Model_append_59 : decode b_Model_append 59 = .ok (.ireturn, 1) := by decide +kernel
def f_Model_bijectionsOf_L63_b (K99 : Int32 → Int32 → Int32 → Int32 → Int32 → HMem → Option (Int32 × HMem)) (rec_ : Int32 → Int32 → Int32 → Int32 → Int32 → HMem → Option (Int32 × HMem)) (v1 : Int32) (v2 : Int32) (v3 : Int32) (v4 : Int32) (v5 : Int32) (μ : HMem) : Option (Int32 × HMem) :=
h_chk v5 (h_len 133) (
if v3 ≤ (μ.1 133 (Int32.toNatClampNeg (v5))) then
  K99 v1 v2 v3 v4 v5 μ
else
  h_bd (f_Model_isLike v1 v2 v5 μ) (fun r79 μ_79 =>
  if ¬ r79 = 0 then
    K99 v1 v2 v3 v4 v5 μ_79
  else
    h_chk v5 (h_len 133) (
    h_chk v5 (h_len 133) (h_let (h_wi μ_79 133 (Int32.toNatClampNeg (v5)) ((μ_79.1 133 (Int32.toNatClampNeg (v5))) + 1)) (fun μ_95 =>
    rec_ v1 v2 v3 v4 v5 μ_95)))))
def f_Model_bijectionsOf_L63 (K99 : Int32 → Int32 → Int32 → Int32 → Int32 → HMem → Option (Int32 × HMem)) : Nat → Int32 → Int32 → Int32 → Int32 → Int32 → HMem → Option (Int32 × HMem)
  | 0, _, _, _, _, _, _ => none
  | fuel + 1, v1, v2, v3, v4, v5, μ => f_Model_bijectionsOf_L63_b K99 (f_Model_bijectionsOf_L63 K99 fuel) v1 v2 v3 v4 v5 μ
def f_Model_bijectionsOf_J99  (rec_ : Int32 → Int32 → Int32 → Int32 → Int32 → HMem → Option (Int32 × HMem)) (v1 : Int32) (v2 : Int32) (v3 : Int32) (v4 : Int32) (v5 : Int32) (μ : HMem) : Option (Int32 × HMem) :=
h_chk v5 (h_len 133) (
if v3 ≤ (μ.1 133 (Int32.toNatClampNeg (v5))) then
  h_let (v5 + (-1)) (fun v5_124 =>
  rec_ v1 v2 v3 v4 v5_124 μ)
else
  h_let (v5 + 1) (fun v5_110 =>
  h_chk v5_110 (h_len 133) (h_let (h_wi μ 133 (Int32.toNatClampNeg (v5_110)) (-1)) (fun μ_120 =>
  rec_ v1 v2 v3 v4 v5_110 μ_120))))
def f_Model_bijectionsOf_L32_b  (rec_ : Int32 → Int32 → Int32 → Int32 → Int32 → HMem → Option (Int32 × HMem)) (v1 : Int32) (v2 : Int32) (v3 : Int32) (v4 : Int32) (v5 : Int32) (μ : HMem) : Option (Int32 × HMem) :=
if v5 < 0 then
  some (v4, μ)
else
  if ¬ v5 = v3 then
    h_chk v5 (h_len 133) (
    h_chk v5 (h_len 133) (h_let (h_wi μ 133 (Int32.toNatClampNeg (v5)) ((μ.1 133 (Int32.toNatClampNeg (v5))) + 1)) (fun μ_62 =>
    f_Model_bijectionsOf_L63 (f_Model_bijectionsOf_J99 rec_) h_fuel v1 v2 v3 v4 v5 μ_62)))
  else
    h_let (v4 + 1) (fun v4_43 =>
    h_let (v5 + (-1)) (fun v5_46 =>
    rec_ v1 v2 v3 v4_43 v5_46 μ))
def f_Model_bijectionsOf_L32  : Nat → Int32 → Int32 → Int32 → Int32 → Int32 → HMem → Option (Int32 × HMem)
  | 0, _, _, _, _, _, _ => none
  | fuel + 1, v1, v2, v3, v4, v5, μ => f_Model_bijectionsOf_L32_b  (f_Model_bijectionsOf_L32  fuel) v1 v2 v3 v4 v5 μ
def f_Model_bijectionsOf_J23   (v1 : Int32) (v2 : Int32) (v3 : Int32) (v4 : Int32) (s0 : Int32) (μ : HMem) : Option (Int32 × HMem) :=
h_chk 0 (h_len 133) (h_let (h_wi μ 133 (Int32.toNatClampNeg (0)) (-1)) (fun μ_31 =>
f_Model_bijectionsOf_L32 h_fuel v1 v2 v3 v4 s0 μ_31))
def f_Model_bijectionsOf (v1 : Int32) (v2 : Int32) (μ : HMem) : Option (Int32 × HMem) :=
  h_bd (f_Model_size v1 μ) (fun r2 μ_2 =>
  h_bd (f_Model_size v2 μ_2) (fun r12 μ_12 =>
  if ¬ r2 = r12 then
    f_Model_bijectionsOf_J23 v1 v2 r2 0 (-1) μ_12
  else
    f_Model_bijectionsOf_J23 v1 v2 r2 0 0 μ_12))
def f_Model_automorphisms_J25   (s0 : Int32) (μ : HMem) : Option (Int32 × HMem) :=
some (s0, μ)
def f_Model_automorphisms (v1 : Int32) (μ : HMem) : Option (Int32 × HMem) :=
  h_bd (f_Model_isGraph v1 μ) (fun r1 μ_1 =>
  if r1 = 0 then
    h_bd (f_Model_fails 1 μ_1) (fun r22 μ_22 =>
    f_Model_automorphisms_J25 r22 μ_22)
  else
    h_bd (f_Model_bijectionsOf v1 v1 μ_1) (fun r11 μ_11 =>
    h_bd (f_Model_tells r11 μ_11) (fun r14 μ_14 =>
    f_Model_automorphisms_J25 r14 μ_14)))
def f_Model_isomorphic_J44   (s0 : Int32) (μ : HMem) : Option (Int32 × HMem) :=
if s0 &&& 1 = s0 then some (s0, μ) else none
def f_Model_isomorphic_J43    (μ : HMem) : Option (Int32 × HMem) :=
f_Model_isomorphic_J44 0 μ
def f_Model_isomorphic_J20   (v1 : Int32) (v2 : Int32) (s0 : Int32) (μ : HMem) : Option (Int32 × HMem) :=
h_let (h_wi μ 125 5 s0) (fun μ_20 =>
if ¬ (μ_20.1 125 5) = 0 then
  f_Model_isomorphic_J43 μ_20
else
  h_bd (f_Model_bijectionsOf v1 v2 μ_20) (fun r33 μ_33 =>
  if r33 ≤ 0 then
    f_Model_isomorphic_J43 μ_33
  else
    f_Model_isomorphic_J44 1 μ_33))
def f_Model_isomorphic_J19   (v1 : Int32) (v2 : Int32) (μ : HMem) : Option (Int32 × HMem) :=
f_Model_isomorphic_J20 v1 v2 1 μ
def f_Model_isomorphic (v1 : Int32) (v2 : Int32) (μ : HMem) : Option (Int32 × HMem) :=
  h_bd (f_Model_isGraph v1 μ) (fun r2 μ_2 =>
  if r2 = 0 then
    f_Model_isomorphic_J19 v1 v2 μ_2
  else
    h_bd (f_Model_isGraph v2 μ_2) (fun r9 μ_9 =>
    if r9 = 0 then
      f_Model_isomorphic_J19 v1 v2 μ_9
    else
      f_Model_isomorphic_J20 v1 v2 0 μ_9))
def f_Model_image_J16    (μ : HMem) : Option (Int32 × HMem) :=
h_bd (f_Model_fails 1 μ) (fun r18 μ_18 =>
some (r18, μ_18))
def f_Model_image (v1 : Int32) (v2 : Int32) (v3 : Int32) (μ : HMem) : Option (Int32 × HMem) :=
  h_bd (f_Model_isVertex v1 v3 μ) (fun r3 μ_3 =>
  if r3 = 0 then
    f_Model_image_J16 μ_3
  else
    h_bd (f_Model_isGraph v2 μ_3) (fun r10 μ_10 =>
    if ¬ r10 = 0 then
      h_bd (f_Model_firstImage v1 v2 v3 μ_10) (fun r27 μ_27 =>
      h_bd (f_Model_tells r27 μ_27) (fun r30 μ_30 =>
      some (r30, μ_30)))
    else
      f_Model_image_J16 μ_10))
def f_Model_compared_J30   (s0 : Int32) (s1 : Int32) (μ : HMem) : Option (Int32 × HMem) :=
some ((s1 + s0), μ)
def f_Model_compared_J15   (v1 : Int32) (v2 : Int32) (s0 : Int32) (μ : HMem) : Option (Int32 × HMem) :=
h_bd (f_Model_isFree v2 v1 (-1) μ) (fun r19 μ_19 =>
if r19 = 0 then
  f_Model_compared_J30 0 s0 μ_19
else
  f_Model_compared_J30 2 s0 μ_19)
def f_Model_compared (v1 : Int32) (v2 : Int32) (μ : HMem) : Option (Int32 × HMem) :=
  h_bd (f_Model_isFree v1 v2 (-1) μ) (fun r4 μ_4 =>
  if r4 = 0 then
    f_Model_compared_J15 v1 v2 0 μ_4
  else
    f_Model_compared_J15 v1 v2 1 μ_4)
def f_Model_compare_J32   (s0 : Int32) (μ : HMem) : Option (Int32 × HMem) :=
some (s0, μ)
def f_Model_compare_J27    (μ : HMem) : Option (Int32 × HMem) :=
h_bd (f_Model_fails 1 μ) (fun r29 μ_29 =>
f_Model_compare_J32 r29 μ_29)
def f_Model_compare (v1 : Int32) (v2 : Int32) (μ : HMem) : Option (Int32 × HMem) :=
  h_bd (f_Model_isGraph v1 μ) (fun r1 μ_1 =>
  if r1 = 0 then
    f_Model_compare_J27 μ_1
  else
    h_bd (f_Model_isGraph v2 μ_1) (fun r8 μ_8 =>
    if r8 = 0 then
      f_Model_compare_J27 μ_8
    else
      h_bd (f_Model_compared v1 v2 μ_8) (fun r18 μ_18 =>
      h_bd (f_Model_tells r18 μ_18) (fun r21 μ_21 =>
      f_Model_compare_J32 r21 μ_21))))
def f_Model_isApart_J61  (rec_ : Int32 → Int32 → Int32 → Int32 → HMem → Option (Int32 × HMem)) (v1 : Int32) (v2 : Int32) (v4 : Int32) (s0 : Int32) (μ : HMem) : Option (Int32 × HMem) :=
h_let (v4 + 1) (fun v4_62 =>
rec_ v1 v2 s0 v4_62 μ)
def f_Model_isApart_J56  (rec_ : Int32 → Int32 → Int32 → Int32 → HMem → Option (Int32 × HMem)) (v1 : Int32) (v2 : Int32) (v4 : Int32) (μ : HMem) : Option (Int32 × HMem) :=
f_Model_isApart_J61 rec_ v1 v2 v4 1 μ
def f_Model_isApart_L19_b (K68 : Int32 → HMem → Option (Int32 × HMem)) (rec_ : Int32 → Int32 → Int32 → Int32 → HMem → Option (Int32 × HMem)) (v1 : Int32) (v2 : Int32) (v3 : Int32) (v4 : Int32) (μ : HMem) : Option (Int32 × HMem) :=
if v2 ≤ v4 then
  K68 v3 μ
else
  if v3 = 0 then
    K68 v3 μ
  else
    h_chk v4 (h_len 133) (
    h_chk v2 (h_len 133) (
    if ¬ (μ.1 133 (Int32.toNatClampNeg (v4))) = (μ.1 133 (Int32.toNatClampNeg (v2))) then
      f_Model_isApart_J56 rec_ v1 v2 v4 μ
    else
      h_bd (f_Model_isNear v1 v2 v4 μ) (fun r50 μ_50 =>
      if ¬ r50 = 0 then
        f_Model_isApart_J61 rec_ v1 v2 v4 0 μ_50
      else
        f_Model_isApart_J56 rec_ v1 v2 v4 μ_50)))
def f_Model_isApart_L19 (K68 : Int32 → HMem → Option (Int32 × HMem)) : Nat → Int32 → Int32 → Int32 → Int32 → HMem → Option (Int32 × HMem)
  | 0, _, _, _, _, _ => none
  | fuel + 1, v1, v2, v3, v4, μ => f_Model_isApart_L19_b K68 (f_Model_isApart_L19 K68 fuel) v1 v2 v3 v4 μ
def f_Model_isApart_J68   (v3 : Int32) (μ : HMem) : Option (Int32 × HMem) :=
if v3 &&& 1 = v3 then some (v3, μ) else none
def f_Model_isApart_J15   (v1 : Int32) (v2 : Int32) (s0 : Int32) (μ : HMem) : Option (Int32 × HMem) :=
f_Model_isApart_L19 f_Model_isApart_J68 h_fuel v1 v2 s0 0 μ
def f_Model_isApart (v1 : Int32) (v2 : Int32) (μ : HMem) : Option (Int32 × HMem) :=
  h_bd (f_Model_isNear v1 v2 v2 μ) (fun r4 μ_4 =>
  if ¬ r4 = 0 then
    f_Model_isApart_J15 v1 v2 0 μ_4
  else
    f_Model_isApart_J15 v1 v2 1 μ_4)
def f_Model_partitions_L8_b (K27 : Int32 → Int32 → HMem → Option (Unit × HMem)) (rec_ : Int32 → Int32 → Int32 → HMem → Option (Unit × HMem)) (v1 : Int32) (v2 : Int32) (v3 : Int32) (μ : HMem) : Option (Unit × HMem) :=
if (9 : Int32) ≤ v3 then
  K27 v1 v2 μ
else
  h_chk v3 (h_len 138) (h_let (h_wl μ 138 (Int32.toNatClampNeg (v3)) 0) (fun μ_20 =>
  h_let (v3 + 1) (fun v3_21 =>
  rec_ v1 v2 v3_21 μ_20)))
def f_Model_partitions_L8 (K27 : Int32 → Int32 → HMem → Option (Unit × HMem)) : Nat → Int32 → Int32 → Int32 → HMem → Option (Unit × HMem)
  | 0, _, _, _, _ => none
  | fuel + 1, v1, v2, v3, μ => f_Model_partitions_L8_b K27 (f_Model_partitions_L8 K27 fuel) v1 v2 v3 μ
def f_Model_partitions_L83_b (K120 : Int32 → Int32 → Int32 → HMem → Option (Unit × HMem)) (rec_ : Int32 → Int32 → Int32 → HMem → Option (Unit × HMem)) (v1 : Int32) (v2 : Int32) (v3 : Int32) (μ : HMem) : Option (Unit × HMem) :=
h_chk v3 (h_len 133) (
h_chk v3 (h_len 139) (
if (μ.1 139 (Int32.toNatClampNeg (v3))) < (μ.1 133 (Int32.toNatClampNeg (v3))) then
  K120 v1 v2 v3 μ
else
  h_bd (f_Model_isApart v1 v3 μ) (fun r101 μ_101 =>
  if ¬ r101 = 0 then
    K120 v1 v2 v3 μ_101
  else
    h_chk v3 (h_len 133) (
    h_chk v3 (h_len 133) (h_let (h_wi μ_101 133 (Int32.toNatClampNeg (v3)) ((μ_101.1 133 (Int32.toNatClampNeg (v3))) + 1)) (fun μ_116 =>
    rec_ v1 v2 v3 μ_116))))))
def f_Model_partitions_L83 (K120 : Int32 → Int32 → Int32 → HMem → Option (Unit × HMem)) : Nat → Int32 → Int32 → Int32 → HMem → Option (Unit × HMem)
  | 0, _, _, _, _ => none
  | fuel + 1, v1, v2, v3, μ => f_Model_partitions_L83_b K120 (f_Model_partitions_L83 K120 fuel) v1 v2 v3 μ
def f_Model_partitions_J174  (rec_ : Int32 → Int32 → Int32 → HMem → Option (Unit × HMem)) (v1 : Int32) (v2 : Int32) (v3 : Int32) (s0 : Int32) (s1 : Int32) (μ : HMem) : Option (Unit × HMem) :=
h_chk s1 (h_len 139) (h_let (h_wi μ 139 (Int32.toNatClampNeg (s1)) s0) (fun μ_174 =>
h_let (v3 + 1) (fun v3_175 =>
h_chk v3_175 (h_len 133) (h_let (h_wi μ_174 133 (Int32.toNatClampNeg (v3_175)) (-1)) (fun μ_184 =>
rec_ v1 v2 v3_175 μ_184)))))
def f_Model_partitions_J120  (rec_ : Int32 → Int32 → Int32 → HMem → Option (Unit × HMem)) (v1 : Int32) (v2 : Int32) (v3 : Int32) (μ : HMem) : Option (Unit × HMem) :=
h_chk v3 (h_len 133) (
h_chk v3 (h_len 139) (
if (μ.1 139 (Int32.toNatClampNeg (v3))) < (μ.1 133 (Int32.toNatClampNeg (v3))) then
  h_let (v3 + (-1)) (fun v3_188 =>
  rec_ v1 v2 v3_188 μ)
else
  h_chk v3 (h_len 133) (
  h_chk v3 (h_len 139) (
  if ¬ (μ.1 133 (Int32.toNatClampNeg (v3))) = (μ.1 139 (Int32.toNatClampNeg (v3))) then
    h_chk v3 (h_len 139) (
    f_Model_partitions_J174 rec_ v1 v2 v3 (μ.1 139 (Int32.toNatClampNeg (v3))) (v3 + 1) μ)
  else
    h_chk v3 (h_len 139) (
    f_Model_partitions_J174 rec_ v1 v2 v3 ((μ.1 139 (Int32.toNatClampNeg (v3))) + 1) (v3 + 1) μ)))))
def f_Model_partitions_L43_b  (rec_ : Int32 → Int32 → Int32 → HMem → Option (Unit × HMem)) (v1 : Int32) (v2 : Int32) (v3 : Int32) (μ : HMem) : Option (Unit × HMem) :=
if v3 < 0 then
  some ((), μ)
else
  if ¬ v3 = v2 then
    h_chk v3 (h_len 133) (
    h_chk v3 (h_len 133) (h_let (h_wi μ 133 (Int32.toNatClampNeg (v3)) ((μ.1 133 (Int32.toNatClampNeg (v3))) + 1)) (fun μ_82 =>
    f_Model_partitions_L83 (f_Model_partitions_J120 rec_) h_fuel v1 v2 v3 μ_82)))
  else
    h_chk v2 (h_len 139) (
    h_chk (μ.1 139 (Int32.toNatClampNeg (v2))) (h_len 138) (
    h_chk (μ.1 139 (Int32.toNatClampNeg (v2))) (h_len 138) (h_let (h_wl μ 138 (Int32.toNatClampNeg (μ.1 139 (Int32.toNatClampNeg (v2)))) ((μ.2 138 (Int32.toNatClampNeg (μ.1 139 (Int32.toNatClampNeg (v2))))) + 1)) (fun μ_66 =>
    h_let (v3 + (-1)) (fun v3_67 =>
    rec_ v1 v2 v3_67 μ_66)))))
def f_Model_partitions_L43  : Nat → Int32 → Int32 → Int32 → HMem → Option (Unit × HMem)
  | 0, _, _, _, _ => none
  | fuel + 1, v1, v2, v3, μ => f_Model_partitions_L43_b  (f_Model_partitions_L43  fuel) v1 v2 v3 μ
def f_Model_partitions_J27   (v1 : Int32) (v2 : Int32) (μ : HMem) : Option (Unit × HMem) :=
h_chk 0 (h_len 133) (h_let (h_wi μ 133 (Int32.toNatClampNeg (0)) (-1)) (fun μ_35 =>
h_chk 0 (h_len 139) (h_let (h_wi μ_35 139 (Int32.toNatClampNeg (0)) 0) (fun μ_42 =>
f_Model_partitions_L43 h_fuel v1 v2 0 μ_42))))
def f_Model_partitions (v1 : Int32) (μ : HMem) : Option (Unit × HMem) :=
  h_bd (f_Model_size v1 μ) (fun r2 μ_2 =>
  f_Model_partitions_L8 f_Model_partitions_J27 h_fuel v1 r2 0 μ_2)
def f_Model_colorings_J86  (rec_ : Int32 → Int64 → Int64 → Int32 → HMem → Option (Int64 × HMem)) (v2 : Int32) (v3 : Int64) (v7 : Int32) (s0 : Int64) (s1 : Int64) (μ : HMem) : Option (Int64 × HMem) :=
h_let (s1 * s0) (fun v5_87 =>
h_let (v7 + 1) (fun v7_89 =>
rec_ v2 v3 v5_87 v7_89 μ))
def f_Model_colorings_L49_b  (rec_ : Int32 → Int64 → Int64 → Int32 → HMem → Option (Int64 × HMem)) (v2 : Int32) (v3 : Int64) (v5 : Int64) (v7 : Int32) (μ : HMem) : Option (Int64 × HMem) :=
if (9 : Int32) ≤ v7 then
  some (v3, μ)
else
  h_chk v7 (h_len 138) (
  h_let (v3 + ((μ.2 138 (Int32.toNatClampNeg (v7))) * v5)) (fun v3_68 =>
  if v2 ≤ v7 then
    f_Model_colorings_J86 rec_ v2 v3_68 v7 0 v5 μ
  else
    f_Model_colorings_J86 rec_ v2 v3_68 v7 (Int32.toInt64 (v2 - v7)) v5 μ))
def f_Model_colorings_L49  : Nat → Int32 → Int64 → Int64 → Int32 → HMem → Option (Int64 × HMem)
  | 0, _, _, _, _, _ => none
  | fuel + 1, v2, v3, v5, v7, μ => f_Model_colorings_L49_b  (f_Model_colorings_L49  fuel) v2 v3 v5 v7 μ
def f_Model_colorings (v1 : Int32) (v2 : Int32) (μ : HMem) : Option (Int64 × HMem) :=
  h_bd (f_Model_isGraph v1 μ) (fun r1 μ_1 =>
  if ¬ r1 = 0 then
    h_bd (f_Model_in v2 0 20 μ_1) (fun r18 μ_18 =>
    if ¬ r18 = 0 then
      h_let (h_wi μ_18 125 5 0) (fun μ_33 =>
      h_bd (f_Model_partitions v1 μ_33) (fun _ μ_38 =>
      f_Model_colorings_L49 h_fuel v2 0 1 0 μ_38))
    else
      h_bd (f_Model_fails 2 μ_18) (fun r26 μ_26 =>
      some ((Int32.toInt64 r26), μ_26)))
  else
    h_bd (f_Model_fails 1 μ_1) (fun r9 μ_9 =>
    some ((Int32.toInt64 r9), μ_9)))
def f_Model_chromatic_J43  (rec_ : Int32 → Int32 → HMem → Option (Int32 × HMem)) (v3 : Int32) (s0 : Int32) (μ : HMem) : Option (Int32 × HMem) :=
h_let (v3 + (-1)) (fun v3_44 =>
rec_ s0 v3_44 μ)
def f_Model_chromatic_L23_b (K50 : Int32 → HMem → Option (Int32 × HMem)) (rec_ : Int32 → Int32 → HMem → Option (Int32 × HMem)) (v2 : Int32) (v3 : Int32) (μ : HMem) : Option (Int32 × HMem) :=
if v3 < 0 then
  K50 v2 μ
else
  h_chk v3 (h_len 138) (
  if (lg_cmp (μ.2 138 (Int32.toNatClampNeg (v3))) 0) ≤ 0 then
    f_Model_chromatic_J43 rec_ v3 v2 μ
  else
    f_Model_chromatic_J43 rec_ v3 v3 μ)
def f_Model_chromatic_L23 (K50 : Int32 → HMem → Option (Int32 × HMem)) : Nat → Int32 → Int32 → HMem → Option (Int32 × HMem)
  | 0, _, _, _ => none
  | fuel + 1, v2, v3, μ => f_Model_chromatic_L23_b K50 (f_Model_chromatic_L23 K50 fuel) v2 v3 μ
def f_Model_chromatic_J50   (v2 : Int32) (μ : HMem) : Option (Int32 × HMem) :=
h_bd (f_Model_tells v2 μ) (fun r52 μ_52 =>
some (r52, μ_52))
def f_Model_chromatic (v1 : Int32) (μ : HMem) : Option (Int32 × HMem) :=
  h_bd (f_Model_isGraph v1 μ) (fun r1 μ_1 =>
  if ¬ r1 = 0 then
    h_bd (f_Model_partitions v1 μ_1) (fun _ μ_15 =>
    f_Model_chromatic_L23 f_Model_chromatic_J50 h_fuel (-1) 8 μ_15)
  else
    h_bd (f_Model_fails 1 μ_1) (fun r9 μ_9 =>
    some (r9, μ_9)))
def f_Model_isIndependent_J45  (rec_ : Int32 → Int32 → Int32 → Int32 → HMem → Option (Int32 × HMem)) (v1 : Int32) (v2 : Int32) (v4 : Int32) (s0 : Int32) (μ : HMem) : Option (Int32 × HMem) :=
h_let (v4 + 1) (fun v4_46 =>
rec_ v1 v2 s0 v4_46 μ)
def f_Model_isIndependent_J44  (rec_ : Int32 → Int32 → Int32 → Int32 → HMem → Option (Int32 × HMem)) (v1 : Int32) (v2 : Int32) (v4 : Int32) (μ : HMem) : Option (Int32 × HMem) :=
f_Model_isIndependent_J45 rec_ v1 v2 v4 0 μ
def f_Model_isIndependent_J40  (rec_ : Int32 → Int32 → Int32 → Int32 → HMem → Option (Int32 × HMem)) (v1 : Int32) (v2 : Int32) (v4 : Int32) (μ : HMem) : Option (Int32 × HMem) :=
f_Model_isIndependent_J45 rec_ v1 v2 v4 1 μ
def f_Model_isIndependent_L5_b  (rec_ : Int32 → Int32 → Int32 → Int32 → HMem → Option (Int32 × HMem)) (v1 : Int32) (v2 : Int32) (v3 : Int32) (v4 : Int32) (μ : HMem) : Option (Int32 × HMem) :=
h_bd (f_Model_size v1 μ) (fun r9 μ_9 =>
if r9 ≤ v4 then
  if v3 &&& 1 = v3 then some (v3, μ_9) else none
else
  if v3 = 0 then
    f_Model_isIndependent_J44 rec_ v1 v2 v4 μ_9
  else
    if ((h_ishr v2 v4) &&& 1) = 0 then
      f_Model_isIndependent_J40 rec_ v1 v2 v4 μ_9
    else
      h_bd (f_Model_near v1 v4 μ_9) (fun r32 μ_32 =>
      if ¬ (r32 &&& v2) = 0 then
        f_Model_isIndependent_J44 rec_ v1 v2 v4 μ_32
      else
        f_Model_isIndependent_J40 rec_ v1 v2 v4 μ_32))
def f_Model_isIndependent_L5  : Nat → Int32 → Int32 → Int32 → Int32 → HMem → Option (Int32 × HMem)
  | 0, _, _, _, _, _ => none
  | fuel + 1, v1, v2, v3, v4, μ => f_Model_isIndependent_L5_b  (f_Model_isIndependent_L5  fuel) v1 v2 v3 v4 μ
def f_Model_isIndependent (v1 : Int32) (v2 : Int32) (μ : HMem) : Option (Int32 × HMem) :=
  f_Model_isIndependent_L5 h_fuel v1 v2 1 0 μ
def f_Model_independent_J76  (rec_ : Int32 → Int32 → Int32 → Int32 → HMem → Option (Int32 × HMem)) (v1 : Int32) (v2 : Int32) (v4 : Int32) (s0 : Int32) (s1 : Int32) (μ : HMem) : Option (Int32 × HMem) :=
h_let (s1 + s0) (fun v3_77 =>
h_let (v4 + 1) (fun v4_78 =>
rec_ v1 v2 v3_77 v4_78 μ))
def f_Model_independent_J75  (rec_ : Int32 → Int32 → Int32 → Int32 → HMem → Option (Int32 × HMem)) (v1 : Int32) (v2 : Int32) (v4 : Int32) (s0 : Int32) (μ : HMem) : Option (Int32 × HMem) :=
f_Model_independent_J76 rec_ v1 v2 v4 0 s0 μ
def f_Model_independent_J61  (rec_ : Int32 → Int32 → Int32 → Int32 → HMem → Option (Int32 × HMem)) (v1 : Int32) (v2 : Int32) (v4 : Int32) (s0 : Int32) (μ : HMem) : Option (Int32 × HMem) :=
h_bd (f_Model_isIndependent v1 v4 μ) (fun r65 μ_65 =>
if r65 = 0 then
  f_Model_independent_J75 rec_ v1 v2 v4 s0 μ_65
else
  f_Model_independent_J76 rec_ v1 v2 v4 1 s0 μ_65)
def f_Model_independent_L34_b (K84 : Int32 → HMem → Option (Int32 × HMem)) (rec_ : Int32 → Int32 → Int32 → Int32 → HMem → Option (Int32 × HMem)) (v1 : Int32) (v2 : Int32) (v3 : Int32) (v4 : Int32) (μ : HMem) : Option (Int32 × HMem) :=
h_bd (f_Model_size v1 μ) (fun r39 μ_39 =>
if (h_ishl 1 r39) ≤ v4 then
  K84 v3 μ_39
else
  if v2 = (-1 : Int32) then
    f_Model_independent_J61 rec_ v1 v2 v4 v3 μ_39
  else
    h_bd (f_Model_bits v4 μ_39) (fun r54 μ_54 =>
    if ¬ r54 = v2 then
      f_Model_independent_J75 rec_ v1 v2 v4 v3 μ_54
    else
      f_Model_independent_J61 rec_ v1 v2 v4 v3 μ_54))
def f_Model_independent_L34 (K84 : Int32 → HMem → Option (Int32 × HMem)) : Nat → Int32 → Int32 → Int32 → Int32 → HMem → Option (Int32 × HMem)
  | 0, _, _, _, _, _ => none
  | fuel + 1, v1, v2, v3, v4, μ => f_Model_independent_L34_b K84 (f_Model_independent_L34 K84 fuel) v1 v2 v3 v4 μ
def f_Model_independent_J84   (v3 : Int32) (μ : HMem) : Option (Int32 × HMem) :=
h_bd (f_Model_tells v3 μ) (fun r86 μ_86 =>
some (r86, μ_86))
def f_Model_independent (v1 : Int32) (v2 : Int32) (μ : HMem) : Option (Int32 × HMem) :=
  h_bd (f_Model_isGraph v1 μ) (fun r1 μ_1 =>
  if ¬ r1 = 0 then
    h_bd (f_Model_in v2 (-1) 8 μ_1) (fun r17 μ_17 =>
    if ¬ r17 = 0 then
      f_Model_independent_L34 f_Model_independent_J84 h_fuel v1 v2 0 0 μ_17
    else
      h_bd (f_Model_fails 2 μ_17) (fun r25 μ_25 =>
      some (r25, μ_25)))
  else
    h_bd (f_Model_fails 1 μ_1) (fun r9 μ_9 =>
    some (r9, μ_9)))
def f_Model_walksFrom_J27  (rec_ : Int32 → Int32 → Int32 → Int32 → HMem → Option (Unit × HMem)) (v1 : Int32) (v2 : Int32) (v3 : Int32) (v4 : Int32) (s0 : Int64) (s1 : Int32) (μ : HMem) : Option (Unit × HMem) :=
h_chk s1 (h_len 140) (h_let (h_wl μ 140 (Int32.toNatClampNeg (s1)) s0) (fun μ_27 =>
h_let (v4 + 1) (fun v4_28 =>
rec_ v1 v2 v3 v4_28 μ_27)))
def f_Model_walksFrom_L3_b (K34 : Int32 → Int32 → HMem → Option (Unit × HMem)) (rec_ : Int32 → Int32 → Int32 → Int32 → HMem → Option (Unit × HMem)) (v1 : Int32) (v2 : Int32) (v3 : Int32) (v4 : Int32) (μ : HMem) : Option (Unit × HMem) :=
if (8 : Int32) ≤ v4 then
  K34 v1 v3 μ
else
  if ¬ v4 = v2 then
    f_Model_walksFrom_J27 rec_ v1 v2 v3 v4 0 v4 μ
  else
    f_Model_walksFrom_J27 rec_ v1 v2 v3 v4 1 v4 μ
def f_Model_walksFrom_L3 (K34 : Int32 → Int32 → HMem → Option (Unit × HMem)) : Nat → Int32 → Int32 → Int32 → Int32 → HMem → Option (Unit × HMem)
  | 0, _, _, _, _, _ => none
  | fuel + 1, v1, v2, v3, v4, μ => f_Model_walksFrom_L3_b K34 (f_Model_walksFrom_L3 K34 fuel) v1 v2 v3 v4 μ
def f_Model_walksFrom_L67_b (K111 : Int32 → Int32 → Int32 → Int32 → HMem → Option (Unit × HMem)) (rec_ : Int32 → Int32 → Int32 → Int32 → Int32 → HMem → Option (Unit × HMem)) (v1 : Int32) (v3 : Int32) (v4 : Int32) (v5 : Int32) (v6 : Int32) (μ : HMem) : Option (Unit × HMem) :=
h_bd (f_Model_size v1 μ) (fun r71 μ_71 =>
if r71 ≤ v6 then
  K111 v1 v3 v4 v5 μ_71
else
  h_chk v5 (h_len 141) (
  h_chk v6 (h_len 140) (
  h_bd (f_Model_between v1 v6 v5 μ_71) (fun r98 μ_98 =>
  h_chk v5 (h_len 141) (h_let (h_wl μ_98 141 (Int32.toNatClampNeg (v5)) ((μ_71.2 141 (Int32.toNatClampNeg (v5))) + ((μ_71.2 140 (Int32.toNatClampNeg (v6))) * (Int32.toInt64 r98)))) (fun μ_104 =>
  h_let (v6 + 1) (fun v6_105 =>
  rec_ v1 v3 v4 v5 v6_105 μ_104)))))))
def f_Model_walksFrom_L67 (K111 : Int32 → Int32 → Int32 → Int32 → HMem → Option (Unit × HMem)) : Nat → Int32 → Int32 → Int32 → Int32 → Int32 → HMem → Option (Unit × HMem)
  | 0, _, _, _, _, _, _ => none
  | fuel + 1, v1, v3, v4, v5, v6, μ => f_Model_walksFrom_L67_b K111 (f_Model_walksFrom_L67 K111 fuel) v1 v3 v4 v5 v6 μ
def f_Model_walksFrom_J111  (rec_ : Int32 → Int32 → Int32 → Int32 → HMem → Option (Unit × HMem)) (v1 : Int32) (v3 : Int32) (v4 : Int32) (v5 : Int32) (μ : HMem) : Option (Unit × HMem) :=
h_let (v5 + 1) (fun v5_111 =>
rec_ v1 v3 v4 v5_111 μ)
def f_Model_walksFrom_L46_b (K117 : Int32 → Int32 → Int32 → HMem → Option (Unit × HMem)) (rec_ : Int32 → Int32 → Int32 → Int32 → HMem → Option (Unit × HMem)) (v1 : Int32) (v3 : Int32) (v4 : Int32) (v5 : Int32) (μ : HMem) : Option (Unit × HMem) :=
h_bd (f_Model_size v1 μ) (fun r50 μ_50 =>
if r50 ≤ v5 then
  K117 v1 v3 v4 μ_50
else
  h_chk v5 (h_len 141) (h_let (h_wl μ_50 141 (Int32.toNatClampNeg (v5)) 0) (fun μ_63 =>
  f_Model_walksFrom_L67 (f_Model_walksFrom_J111 rec_) h_fuel v1 v3 v4 v5 0 μ_63)))
def f_Model_walksFrom_L46 (K117 : Int32 → Int32 → Int32 → HMem → Option (Unit × HMem)) : Nat → Int32 → Int32 → Int32 → Int32 → HMem → Option (Unit × HMem)
  | 0, _, _, _, _, _ => none
  | fuel + 1, v1, v3, v4, v5, μ => f_Model_walksFrom_L46_b K117 (f_Model_walksFrom_L46 K117 fuel) v1 v3 v4 v5 μ
def f_Model_walksFrom_L120_b (K150 : Int32 → Int32 → Int32 → HMem → Option (Unit × HMem)) (rec_ : Int32 → Int32 → Int32 → Int32 → HMem → Option (Unit × HMem)) (v1 : Int32) (v3 : Int32) (v4 : Int32) (v5 : Int32) (μ : HMem) : Option (Unit × HMem) :=
h_bd (f_Model_size v1 μ) (fun r124 μ_124 =>
if r124 ≤ v5 then
  K150 v1 v3 v4 μ_124
else
  h_chk v5 (h_len 141) (
  h_chk v5 (h_len 140) (h_let (h_wl μ_124 140 (Int32.toNatClampNeg (v5)) (μ_124.2 141 (Int32.toNatClampNeg (v5)))) (fun μ_143 =>
  h_let (v5 + 1) (fun v5_144 =>
  rec_ v1 v3 v4 v5_144 μ_143)))))
def f_Model_walksFrom_L120 (K150 : Int32 → Int32 → Int32 → HMem → Option (Unit × HMem)) : Nat → Int32 → Int32 → Int32 → Int32 → HMem → Option (Unit × HMem)
  | 0, _, _, _, _, _ => none
  | fuel + 1, v1, v3, v4, v5, μ => f_Model_walksFrom_L120_b K150 (f_Model_walksFrom_L120 K150 fuel) v1 v3 v4 v5 μ
def f_Model_walksFrom_J150  (rec_ : Int32 → Int32 → Int32 → HMem → Option (Unit × HMem)) (v1 : Int32) (v3 : Int32) (v4 : Int32) (μ : HMem) : Option (Unit × HMem) :=
h_let (v4 + 1) (fun v4_150 =>
rec_ v1 v3 v4_150 μ)
def f_Model_walksFrom_J117  (rec_ : Int32 → Int32 → Int32 → HMem → Option (Unit × HMem)) (v1 : Int32) (v3 : Int32) (v4 : Int32) (μ : HMem) : Option (Unit × HMem) :=
f_Model_walksFrom_L120 (f_Model_walksFrom_J150 rec_) h_fuel v1 v3 v4 0 μ
def f_Model_walksFrom_L37_b  (rec_ : Int32 → Int32 → Int32 → HMem → Option (Unit × HMem)) (v1 : Int32) (v3 : Int32) (v4 : Int32) (μ : HMem) : Option (Unit × HMem) :=
if v3 ≤ v4 then
  some ((), μ)
else
  f_Model_walksFrom_L46 (f_Model_walksFrom_J117 rec_) h_fuel v1 v3 v4 0 μ
def f_Model_walksFrom_L37  : Nat → Int32 → Int32 → Int32 → HMem → Option (Unit × HMem)
  | 0, _, _, _, _ => none
  | fuel + 1, v1, v3, v4, μ => f_Model_walksFrom_L37_b  (f_Model_walksFrom_L37  fuel) v1 v3 v4 μ
def f_Model_walksFrom_J34   (v1 : Int32) (v3 : Int32) (μ : HMem) : Option (Unit × HMem) :=
f_Model_walksFrom_L37 h_fuel v1 v3 0 μ
def f_Model_walksFrom (v1 : Int32) (v2 : Int32) (v3 : Int32) (μ : HMem) : Option (Unit × HMem) :=
  f_Model_walksFrom_L3 f_Model_walksFrom_J34 h_fuel v1 v2 v3 0 μ
def f_Model_walks_J97  (rec_ : Int32 → Int32 → Int32 → Int64 → Int32 → Int32 → HMem → Option (Int64 × HMem)) (v1 : Int32) (v2 : Int32) (v3 : Int32) (v6 : Int32) (v7 : Int32) (s0 : Int64) (s1 : Int64) (μ : HMem) : Option (Int64 × HMem) :=
h_let (s1 + s0) (fun v4_98 =>
h_let (v7 + 1) (fun v7_100 =>
rec_ v1 v2 v3 v4_98 v6 v7_100 μ))
def f_Model_walks_J90  (rec_ : Int32 → Int32 → Int32 → Int64 → Int32 → Int32 → HMem → Option (Int64 × HMem)) (v1 : Int32) (v2 : Int32) (v3 : Int32) (v6 : Int32) (v7 : Int32) (s0 : Int64) (μ : HMem) : Option (Int64 × HMem) :=
h_chk v7 (h_len 140) (
f_Model_walks_J97 rec_ v1 v2 v3 v6 v7 (μ.2 140 (Int32.toNatClampNeg (v7))) s0 μ)
def f_Model_walks_L63_b (K106 : Int32 → Int32 → Int32 → Int64 → Int32 → HMem → Option (Int64 × HMem)) (rec_ : Int32 → Int32 → Int32 → Int64 → Int32 → Int32 → HMem → Option (Int64 × HMem)) (v1 : Int32) (v2 : Int32) (v3 : Int32) (v4 : Int64) (v6 : Int32) (v7 : Int32) (μ : HMem) : Option (Int64 × HMem) :=
h_bd (f_Model_size v1 μ) (fun r67 μ_67 =>
if r67 ≤ v7 then
  K106 v1 v2 v3 v4 v6 μ_67
else
  if v3 = 0 then
    f_Model_walks_J90 rec_ v1 v2 v3 v6 v7 v4 μ_67
  else
    if v7 = v6 then
      f_Model_walks_J90 rec_ v1 v2 v3 v6 v7 v4 μ_67
    else
      f_Model_walks_J97 rec_ v1 v2 v3 v6 v7 0 v4 μ_67)
def f_Model_walks_L63 (K106 : Int32 → Int32 → Int32 → Int64 → Int32 → HMem → Option (Int64 × HMem)) : Nat → Int32 → Int32 → Int32 → Int64 → Int32 → Int32 → HMem → Option (Int64 × HMem)
  | 0, _, _, _, _, _, _, _ => none
  | fuel + 1, v1, v2, v3, v4, v6, v7, μ => f_Model_walks_L63_b K106 (f_Model_walks_L63 K106 fuel) v1 v2 v3 v4 v6 v7 μ
def f_Model_walks_J106  (rec_ : Int32 → Int32 → Int32 → Int64 → Int32 → HMem → Option (Int64 × HMem)) (v1 : Int32) (v2 : Int32) (v3 : Int32) (v4 : Int64) (v6 : Int32) (μ : HMem) : Option (Int64 × HMem) :=
h_let (v6 + 1) (fun v6_106 =>
rec_ v1 v2 v3 v4 v6_106 μ)
def f_Model_walks_L42_b  (rec_ : Int32 → Int32 → Int32 → Int64 → Int32 → HMem → Option (Int64 × HMem)) (v1 : Int32) (v2 : Int32) (v3 : Int32) (v4 : Int64) (v6 : Int32) (μ : HMem) : Option (Int64 × HMem) :=
h_bd (f_Model_size v1 μ) (fun r46 μ_46 =>
if r46 ≤ v6 then
  some (v4, μ_46)
else
  h_bd (f_Model_walksFrom v1 v6 v2 μ_46) (fun _ μ_57 =>
  f_Model_walks_L63 (f_Model_walks_J106 rec_) h_fuel v1 v2 v3 v4 v6 0 μ_57))
def f_Model_walks_L42  : Nat → Int32 → Int32 → Int32 → Int64 → Int32 → HMem → Option (Int64 × HMem)
  | 0, _, _, _, _, _, _ => none
  | fuel + 1, v1, v2, v3, v4, v6, μ => f_Model_walks_L42_b  (f_Model_walks_L42  fuel) v1 v2 v3 v4 v6 μ
def f_Model_walks (v1 : Int32) (v2 : Int32) (v3 : Int32) (μ : HMem) : Option (Int64 × HMem) :=
  h_bd (f_Model_isGraph v1 μ) (fun r1 μ_1 =>
  if ¬ r1 = 0 then
    h_bd (f_Model_in v2 0 12 μ_1) (fun r18 μ_18 =>
    if ¬ r18 = 0 then
      h_let (h_wi μ_18 125 5 0) (fun μ_33 =>
      f_Model_walks_L42 h_fuel v1 v2 v3 0 0 μ_33)
    else
      h_bd (f_Model_fails 2 μ_18) (fun r26 μ_26 =>
      some ((Int32.toInt64 r26), μ_26)))
  else
    h_bd (f_Model_fails 1 μ_1) (fun r9 μ_9 =>
    some ((Int32.toInt64 r9), μ_9)))
def f_Model_isFold_J67  (rec_ : Int32 → Int32 → Int32 → Int32 → Int32 → HMem → Option (Int32 × HMem)) (v1 : Int32) (v2 : Int32) (v3 : Int32) (v5 : Int32) (s0 : Int32) (μ : HMem) : Option (Int32 × HMem) :=
h_let (v5 + 1) (fun v5_69 =>
rec_ v1 v2 v3 s0 v5_69 μ)
def f_Model_isFold_J62  (rec_ : Int32 → Int32 → Int32 → Int32 → Int32 → HMem → Option (Int32 × HMem)) (v1 : Int32) (v2 : Int32) (v3 : Int32) (v5 : Int32) (μ : HMem) : Option (Int32 × HMem) :=
f_Model_isFold_J67 rec_ v1 v2 v3 v5 1 μ
def f_Model_isFold_J56  (rec_ : Int32 → Int32 → Int32 → Int32 → Int32 → HMem → Option (Int32 × HMem)) (v1 : Int32) (v2 : Int32) (v3 : Int32) (v5 : Int32) (s0 : Int32) (s1 : Int32) (s2 : Int32) (μ : HMem) : Option (Int32 × HMem) :=
h_bd (f_Model_isNear s2 s1 s0 μ) (fun r56 μ_56 =>
if r56 = 0 then
  f_Model_isFold_J67 rec_ v1 v2 v3 v5 0 μ_56
else
  f_Model_isFold_J62 rec_ v1 v2 v3 v5 μ_56)
def f_Model_isFold_L15_b (K75 : Int32 → HMem → Option (Int32 × HMem)) (rec_ : Int32 → Int32 → Int32 → Int32 → Int32 → HMem → Option (Int32 × HMem)) (v1 : Int32) (v2 : Int32) (v3 : Int32) (v4 : Int32) (v5 : Int32) (μ : HMem) : Option (Int32 × HMem) :=
h_bd (f_Model_size v1 μ) (fun r19 μ_19 =>
if r19 ≤ v5 then
  K75 v4 μ_19
else
  if v4 = 0 then
    K75 v4 μ_19
  else
    h_bd (f_Model_isNear v1 v2 v5 μ_19) (fun r35 μ_35 =>
    if r35 = 0 then
      f_Model_isFold_J62 rec_ v1 v2 v3 v5 μ_35
    else
      if ¬ v5 = v2 then
        f_Model_isFold_J56 rec_ v1 v2 v3 v5 v5 v3 v1 μ_35
      else
        f_Model_isFold_J56 rec_ v1 v2 v3 v5 v3 v3 v1 μ_35))
def f_Model_isFold_L15 (K75 : Int32 → HMem → Option (Int32 × HMem)) : Nat → Int32 → Int32 → Int32 → Int32 → Int32 → HMem → Option (Int32 × HMem)
  | 0, _, _, _, _, _, _ => none
  | fuel + 1, v1, v2, v3, v4, v5, μ => f_Model_isFold_L15_b K75 (f_Model_isFold_L15 K75 fuel) v1 v2 v3 v4 v5 μ
def f_Model_isFold_J75   (v4 : Int32) (μ : HMem) : Option (Int32 × HMem) :=
if v4 &&& 1 = v4 then some (v4, μ) else none
def f_Model_isFold_J10   (v1 : Int32) (v2 : Int32) (v3 : Int32) (s0 : Int32) (μ : HMem) : Option (Int32 × HMem) :=
f_Model_isFold_L15 f_Model_isFold_J75 h_fuel v1 v2 v3 s0 0 μ
def f_Model_isFold (v1 : Int32) (v2 : Int32) (v3 : Int32) (μ : HMem) : Option (Int32 × HMem) :=
  if v2 = v3 then
    f_Model_isFold_J10 v1 v2 v3 0 μ
  else
    f_Model_isFold_J10 v1 v2 v3 1 μ
def f_Model_foldsOf_J35  (rec_ : Int32 → Int32 → Int32 → Int32 → HMem → Option (Int32 × HMem)) (v1 : Int32) (v2 : Int32) (v4 : Int32) (s0 : Int32) (s1 : Int32) (μ : HMem) : Option (Int32 × HMem) :=
h_let (s1 ||| s0) (fun v3_36 =>
h_let (v4 + 1) (fun v4_37 =>
rec_ v1 v2 v3_36 v4_37 μ))
def f_Model_foldsOf_L5_b  (rec_ : Int32 → Int32 → Int32 → Int32 → HMem → Option (Int32 × HMem)) (v1 : Int32) (v2 : Int32) (v3 : Int32) (v4 : Int32) (μ : HMem) : Option (Int32 × HMem) :=
h_bd (f_Model_size v1 μ) (fun r9 μ_9 =>
if r9 ≤ v4 then
  some (v3, μ_9)
else
  h_bd (f_Model_isFold v1 v2 v4 μ_9) (fun r21 μ_21 =>
  if r21 = 0 then
    f_Model_foldsOf_J35 rec_ v1 v2 v4 0 v3 μ_21
  else
    f_Model_foldsOf_J35 rec_ v1 v2 v4 (h_ishl 1 v4) v3 μ_21))
def f_Model_foldsOf_L5  : Nat → Int32 → Int32 → Int32 → Int32 → HMem → Option (Int32 × HMem)
  | 0, _, _, _, _, _ => none
  | fuel + 1, v1, v2, v3, v4, μ => f_Model_foldsOf_L5_b  (f_Model_foldsOf_L5  fuel) v1 v2 v3 v4 μ
def f_Model_foldsOf (v1 : Int32) (v2 : Int32) (μ : HMem) : Option (Int32 × HMem) :=
  f_Model_foldsOf_L5 h_fuel v1 v2 0 0 μ
def f_Model_folds_J27   (s0 : Int32) (μ : HMem) : Option (Int32 × HMem) :=
some (s0, μ)
def f_Model_folds (v1 : Int32) (v2 : Int32) (μ : HMem) : Option (Int32 × HMem) :=
  h_bd (f_Model_isVertex v1 v2 μ) (fun r3 μ_3 =>
  if r3 = 0 then
    h_bd (f_Model_fails 1 μ_3) (fun r24 μ_24 =>
    f_Model_folds_J27 r24 μ_24)
  else
    h_bd (f_Model_foldsOf v1 v2 μ_3) (fun r13 μ_13 =>
    h_bd (f_Model_tells r13 μ_13) (fun r16 μ_16 =>
    f_Model_folds_J27 r16 μ_16)))
def f_Model_lowestFolded_J28  (rec_ : Int32 → Int32 → Int32 → HMem → Option (Int32 × HMem)) (v1 : Int32) (v3 : Int32) (s0 : Int32) (μ : HMem) : Option (Int32 × HMem) :=
h_let (v3 + (-1)) (fun v3_29 =>
rec_ v1 s0 v3_29 μ)
def f_Model_lowestFolded_L10_b  (rec_ : Int32 → Int32 → Int32 → HMem → Option (Int32 × HMem)) (v1 : Int32) (v2 : Int32) (v3 : Int32) (μ : HMem) : Option (Int32 × HMem) :=
if v3 < 0 then
  some (v2, μ)
else
  h_bd (f_Model_foldsOf v1 v3 μ) (fun r17 μ_17 =>
  if r17 = 0 then
    f_Model_lowestFolded_J28 rec_ v1 v3 v2 μ_17
  else
    f_Model_lowestFolded_J28 rec_ v1 v3 v3 μ_17)
def f_Model_lowestFolded_L10  : Nat → Int32 → Int32 → Int32 → HMem → Option (Int32 × HMem)
  | 0, _, _, _, _ => none
  | fuel + 1, v1, v2, v3, μ => f_Model_lowestFolded_L10_b  (f_Model_lowestFolded_L10  fuel) v1 v2 v3 μ
def f_Model_lowestFolded (v1 : Int32) (μ : HMem) : Option (Int32 × HMem) :=
  h_bd (f_Model_size v1 μ) (fun r4 μ_4 =>
  h_let (r4 - 1) (fun v3_9 =>
  f_Model_lowestFolded_L10 h_fuel v1 (-1) v3_9 μ_4))
def f_Model_dismantle_L27_b (K50 : Int32 → Int32 → HMem → Option (Int32 × HMem)) (rec_ : Int32 → Int32 → Int32 → HMem → Option (Int32 × HMem)) (v1 : Int32) (v2 : Int32) (v3 : Int32) (μ : HMem) : Option (Int32 × HMem) :=
if v3 = (-1 : Int32) then
  K50 v1 v2 μ
else
  h_bd (f_Model_drops 4 v3 μ) (fun _ μ_35 =>
  h_let (v2 + 1) (fun v2_38 =>
  h_bd (f_Model_lowestFolded 4 μ_35) (fun r43 μ_43 =>
  rec_ v1 v2_38 r43 μ_43)))
def f_Model_dismantle_L27 (K50 : Int32 → Int32 → HMem → Option (Int32 × HMem)) : Nat → Int32 → Int32 → Int32 → HMem → Option (Int32 × HMem)
  | 0, _, _, _, _ => none
  | fuel + 1, v1, v2, v3, μ => f_Model_dismantle_L27_b K50 (f_Model_dismantle_L27 K50 fuel) v1 v2 v3 μ
def f_Model_dismantle_J50   (v1 : Int32) (v2 : Int32) (μ : HMem) : Option (Int32 × HMem) :=
h_bd (f_Model_keeps v1 μ) (fun _ μ_52 =>
some (v2, μ_52))
def f_Model_dismantle (v1 : Int32) (μ : HMem) : Option (Int32 × HMem) :=
  h_bd (f_Model_isGraph v1 μ) (fun r1 μ_1 =>
  if ¬ r1 = 0 then
    h_bd (f_Model_copies v1 4 μ_1) (fun _ μ_16 =>
    h_bd (f_Model_lowestFolded 4 μ_16) (fun r23 μ_23 =>
    f_Model_dismantle_L27 f_Model_dismantle_J50 h_fuel v1 0 r23 μ_23))
  else
    h_bd (f_Model_fails 1 μ_1) (fun r9 μ_9 =>
    some (r9, μ_9)))
def f_Model_isCore_J37   (s0 : Int32) (μ : HMem) : Option (Int32 × HMem) :=
if s0 &&& 1 = s0 then some (s0, μ) else none
def f_Model_isCore_J36    (μ : HMem) : Option (Int32 × HMem) :=
f_Model_isCore_J37 0 μ
def f_Model_isCore_J13   (v1 : Int32) (s0 : Int32) (μ : HMem) : Option (Int32 × HMem) :=
h_let (h_wi μ 125 5 s0) (fun μ_13 =>
if ¬ (μ_13.1 125 5) = 0 then
  f_Model_isCore_J36 μ_13
else
  h_bd (f_Model_lowestSpared v1 μ_13) (fun r25 μ_25 =>
  if ¬ r25 = (-1 : Int32) then
    f_Model_isCore_J36 μ_25
  else
    f_Model_isCore_J37 1 μ_25))
def f_Model_isCore (v1 : Int32) (μ : HMem) : Option (Int32 × HMem) :=
  h_bd (f_Model_isGraph v1 μ) (fun r2 μ_2 =>
  if r2 = 0 then
    f_Model_isCore_J13 v1 1 μ_2
  else
    f_Model_isCore_J13 v1 0 μ_2)
def f_Model_coreOf (v1 : Int32) (μ : HMem) : Option (Int32 × HMem) :=
  h_bd (f_Model_copies v1 4 μ) (fun _ μ_3 =>
  h_bd (f_Model_shrinks  μ_3) (fun r7 μ_7 =>
  some (r7, μ_7)))
def f_Model_coreSize_J24   (s0 : Int32) (μ : HMem) : Option (Int32 × HMem) :=
some (s0, μ)
def f_Model_coreSize (v1 : Int32) (μ : HMem) : Option (Int32 × HMem) :=
  h_bd (f_Model_isGraph v1 μ) (fun r1 μ_1 =>
  if r1 = 0 then
    h_bd (f_Model_fails 1 μ_1) (fun r21 μ_21 =>
    f_Model_coreSize_J24 r21 μ_21)
  else
    h_bd (f_Model_coreOf v1 μ_1) (fun r10 μ_10 =>
    h_bd (f_Model_tells r10 μ_10) (fun r13 μ_13 =>
    f_Model_coreSize_J24 r13 μ_13)))
def f_Model_append (v1 : Int32) (μ : HMem) : Option (Int32 × HMem) :=
  h_bd (f_Model_in v1 0 127 μ) (fun r4 μ_4 =>
  if ¬ r4 = 0 then
    if ¬ (μ_4.1 125 4) = (120 : Int32) then
      h_chk (μ_4.1 125 4) (h_len 128) (h_let (h_wi μ_4 128 (Int32.toNatClampNeg (μ_4.1 125 4)) v1) (fun μ_40 =>
      h_let (h_wi μ_40 125 4 ((μ_40.1 125 4) + 1)) (fun μ_48 =>
      h_bd (f_Model_tells (μ_48.1 125 4) μ_48) (fun r56 μ_56 =>
      some (r56, μ_56)))))
    else
      h_bd (f_Model_fails 2 μ_4) (fun r27 μ_27 =>
      some (r27, μ_27))
  else
    h_bd (f_Model_fails 1 μ_4) (fun r12 μ_12 =>
    some (r12, μ_12)))
def p_Model_bijectionsOf_99 (cx : HCx) (F_ : Int32 → Int32 → Int32 → Int32 → Int32 → HMem → Option (Int32 × HMem)) : Prop := ∀ (v1 : Int32) (v2 : Int32) (v3 : Int32) (v4 : Int32) (v5 : Int32) (μ : HMem), HX cx (HQ cx h_eI) (F_ v1 v2 v3 v4 v5 μ) 0 0 99 [(0, .ref 125), (1, .int v1), (2, .int v2), (3, .int v3), (4, .int v4), (5, .int v5)] [] μ
def p_Model_bijectionsOf_63 (cx : HCx) (F_ : Int32 → Int32 → Int32 → Int32 → Int32 → HMem → Option (Int32 × HMem)) : Prop := ∀ (v1 : Int32) (v2 : Int32) (v3 : Int32) (v4 : Int32) (v5 : Int32) (μ : HMem), HX cx (HQ cx h_eI) (F_ v1 v2 v3 v4 v5 μ) 0 0 63 [(0, .ref 125), (1, .int v1), (2, .int v2), (3, .int v3), (4, .int v4), (5, .int v5)] [] μ
def p_Model_bijectionsOf_32 (cx : HCx) (F_ : Int32 → Int32 → Int32 → Int32 → Int32 → HMem → Option (Int32 × HMem)) : Prop := ∀ (v1 : Int32) (v2 : Int32) (v3 : Int32) (v4 : Int32) (v5 : Int32) (μ : HMem), HX cx (HQ cx h_eI) (F_ v1 v2 v3 v4 v5 μ) 0 0 32 [(0, .ref 125), (1, .int v1), (2, .int v2), (3, .int v3), (4, .int v4), (5, .int v5)] [] μ
def p_Model_isApart_19 (cx : HCx) (F_ : Int32 → Int32 → Int32 → Int32 → HMem → Option (Int32 × HMem)) : Prop := ∀ (v1 : Int32) (v2 : Int32) (v3 : Int32) (v4 : Int32) (μ : HMem), HX cx (HQ cx h_eI) (F_ v1 v2 v3 v4 μ) 0 0 19 [(0, .ref 125), (1, .int v1), (2, .int v2), (3, .int v3), (4, .int v4)] [] μ
def p_Model_isApart_68 (cx : HCx) (F_ : Int32 → HMem → Option (Int32 × HMem)) : Prop := ∀ (v3 : Int32) (μ : HMem), HX cx (HQ cx h_eI) (F_ v3 μ) 0 0 68 [(3, .int v3)] [] μ
def p_Model_partitions_27 (cx : HCx) (F_ : Int32 → Int32 → HMem → Option (Unit × HMem)) : Prop := ∀ (v1 : Int32) (v2 : Int32) (μ : HMem), HX cx (HQ cx h_eV) (F_ v1 v2 μ) 0 0 27 [(0, .ref 125), (1, .int v1), (2, .int v2)] [] μ
def p_Model_partitions_8 (cx : HCx) (F_ : Int32 → Int32 → Int32 → HMem → Option (Unit × HMem)) : Prop := ∀ (v1 : Int32) (v2 : Int32) (v3 : Int32) (μ : HMem), HX cx (HQ cx h_eV) (F_ v1 v2 v3 μ) 0 0 8 [(0, .ref 125), (1, .int v1), (2, .int v2), (3, .int v3)] [] μ
def p_Model_partitions_120 (cx : HCx) (F_ : Int32 → Int32 → Int32 → HMem → Option (Unit × HMem)) : Prop := ∀ (v1 : Int32) (v2 : Int32) (v3 : Int32) (μ : HMem), HX cx (HQ cx h_eV) (F_ v1 v2 v3 μ) 0 0 120 [(0, .ref 125), (1, .int v1), (2, .int v2), (3, .int v3)] [] μ
def p_Model_partitions_83 (cx : HCx) (F_ : Int32 → Int32 → Int32 → HMem → Option (Unit × HMem)) : Prop := ∀ (v1 : Int32) (v2 : Int32) (v3 : Int32) (μ : HMem), HX cx (HQ cx h_eV) (F_ v1 v2 v3 μ) 0 0 83 [(0, .ref 125), (1, .int v1), (2, .int v2), (3, .int v3)] [] μ
def p_Model_partitions_43 (cx : HCx) (F_ : Int32 → Int32 → Int32 → HMem → Option (Unit × HMem)) : Prop := ∀ (v1 : Int32) (v2 : Int32) (v3 : Int32) (μ : HMem), HX cx (HQ cx h_eV) (F_ v1 v2 v3 μ) 0 0 43 [(0, .ref 125), (1, .int v1), (2, .int v2), (3, .int v3)] [] μ
def p_Model_colorings_49 (cx : HCx) (F_ : Int32 → Int64 → Int64 → Int32 → HMem → Option (Int64 × HMem)) : Prop := ∀ (v2 : Int32) (v3 : Int64) (v5 : Int64) (v7 : Int32) (μ : HMem), HX cx (HQ cx h_eJ) (F_ v2 v3 v5 v7 μ) 0 0 49 [(0, .ref 125), (2, .int v2), (3, .long v3), (5, .long v5), (7, .int v7)] [] μ
def p_Model_chromatic_23 (cx : HCx) (F_ : Int32 → Int32 → HMem → Option (Int32 × HMem)) : Prop := ∀ (v2 : Int32) (v3 : Int32) (μ : HMem), HX cx (HQ cx h_eI) (F_ v2 v3 μ) 0 0 23 [(0, .ref 125), (2, .int v2), (3, .int v3)] [] μ
def p_Model_chromatic_50 (cx : HCx) (F_ : Int32 → HMem → Option (Int32 × HMem)) : Prop := ∀ (v2 : Int32) (μ : HMem), HX cx (HQ cx h_eI) (F_ v2 μ) 0 0 50 [(0, .ref 125), (2, .int v2)] [] μ
def p_Model_isIndependent_5 (cx : HCx) (F_ : Int32 → Int32 → Int32 → Int32 → HMem → Option (Int32 × HMem)) : Prop := ∀ (v1 : Int32) (v2 : Int32) (v3 : Int32) (v4 : Int32) (μ : HMem), HX cx (HQ cx h_eI) (F_ v1 v2 v3 v4 μ) 0 0 5 [(0, .ref 125), (1, .int v1), (2, .int v2), (3, .int v3), (4, .int v4)] [] μ
def p_Model_independent_34 (cx : HCx) (F_ : Int32 → Int32 → Int32 → Int32 → HMem → Option (Int32 × HMem)) : Prop := ∀ (v1 : Int32) (v2 : Int32) (v3 : Int32) (v4 : Int32) (μ : HMem), HX cx (HQ cx h_eI) (F_ v1 v2 v3 v4 μ) 0 0 34 [(0, .ref 125), (1, .int v1), (2, .int v2), (3, .int v3), (4, .int v4)] [] μ
def p_Model_independent_84 (cx : HCx) (F_ : Int32 → HMem → Option (Int32 × HMem)) : Prop := ∀ (v3 : Int32) (μ : HMem), HX cx (HQ cx h_eI) (F_ v3 μ) 0 0 84 [(0, .ref 125), (3, .int v3)] [] μ
def p_Model_walksFrom_3 (cx : HCx) (F_ : Int32 → Int32 → Int32 → Int32 → HMem → Option (Unit × HMem)) : Prop := ∀ (v1 : Int32) (v2 : Int32) (v3 : Int32) (v4 : Int32) (μ : HMem), HX cx (HQ cx h_eV) (F_ v1 v2 v3 v4 μ) 0 0 3 [(0, .ref 125), (1, .int v1), (2, .int v2), (3, .int v3), (4, .int v4)] [] μ
def p_Model_walksFrom_34 (cx : HCx) (F_ : Int32 → Int32 → HMem → Option (Unit × HMem)) : Prop := ∀ (v1 : Int32) (v3 : Int32) (μ : HMem), HX cx (HQ cx h_eV) (F_ v1 v3 μ) 0 0 34 [(0, .ref 125), (1, .int v1), (3, .int v3)] [] μ
def p_Model_walksFrom_111 (cx : HCx) (F_ : Int32 → Int32 → Int32 → Int32 → HMem → Option (Unit × HMem)) : Prop := ∀ (v1 : Int32) (v3 : Int32) (v4 : Int32) (v5 : Int32) (μ : HMem), HX cx (HQ cx h_eV) (F_ v1 v3 v4 v5 μ) 0 0 111 [(0, .ref 125), (1, .int v1), (3, .int v3), (4, .int v4), (5, .int v5)] [] μ
def p_Model_walksFrom_67 (cx : HCx) (F_ : Int32 → Int32 → Int32 → Int32 → Int32 → HMem → Option (Unit × HMem)) : Prop := ∀ (v1 : Int32) (v3 : Int32) (v4 : Int32) (v5 : Int32) (v6 : Int32) (μ : HMem), HX cx (HQ cx h_eV) (F_ v1 v3 v4 v5 v6 μ) 0 0 67 [(0, .ref 125), (1, .int v1), (3, .int v3), (4, .int v4), (5, .int v5), (6, .int v6)] [] μ
def p_Model_walksFrom_46 (cx : HCx) (F_ : Int32 → Int32 → Int32 → Int32 → HMem → Option (Unit × HMem)) : Prop := ∀ (v1 : Int32) (v3 : Int32) (v4 : Int32) (v5 : Int32) (μ : HMem), HX cx (HQ cx h_eV) (F_ v1 v3 v4 v5 μ) 0 0 46 [(0, .ref 125), (1, .int v1), (3, .int v3), (4, .int v4), (5, .int v5)] [] μ
def p_Model_walksFrom_117 (cx : HCx) (F_ : Int32 → Int32 → Int32 → HMem → Option (Unit × HMem)) : Prop := ∀ (v1 : Int32) (v3 : Int32) (v4 : Int32) (μ : HMem), HX cx (HQ cx h_eV) (F_ v1 v3 v4 μ) 0 0 117 [(0, .ref 125), (1, .int v1), (3, .int v3), (4, .int v4)] [] μ
def p_Model_walksFrom_150 (cx : HCx) (F_ : Int32 → Int32 → Int32 → HMem → Option (Unit × HMem)) : Prop := ∀ (v1 : Int32) (v3 : Int32) (v4 : Int32) (μ : HMem), HX cx (HQ cx h_eV) (F_ v1 v3 v4 μ) 0 0 150 [(0, .ref 125), (1, .int v1), (3, .int v3), (4, .int v4)] [] μ
def p_Model_walksFrom_120 (cx : HCx) (F_ : Int32 → Int32 → Int32 → Int32 → HMem → Option (Unit × HMem)) : Prop := ∀ (v1 : Int32) (v3 : Int32) (v4 : Int32) (v5 : Int32) (μ : HMem), HX cx (HQ cx h_eV) (F_ v1 v3 v4 v5 μ) 0 0 120 [(0, .ref 125), (1, .int v1), (3, .int v3), (4, .int v4), (5, .int v5)] [] μ
def p_Model_walksFrom_37 (cx : HCx) (F_ : Int32 → Int32 → Int32 → HMem → Option (Unit × HMem)) : Prop := ∀ (v1 : Int32) (v3 : Int32) (v4 : Int32) (μ : HMem), HX cx (HQ cx h_eV) (F_ v1 v3 v4 μ) 0 0 37 [(0, .ref 125), (1, .int v1), (3, .int v3), (4, .int v4)] [] μ
def p_Model_walks_63 (cx : HCx) (F_ : Int32 → Int32 → Int32 → Int64 → Int32 → Int32 → HMem → Option (Int64 × HMem)) : Prop := ∀ (v1 : Int32) (v2 : Int32) (v3 : Int32) (v4 : Int64) (v6 : Int32) (v7 : Int32) (μ : HMem), HX cx (HQ cx h_eJ) (F_ v1 v2 v3 v4 v6 v7 μ) 0 0 63 [(0, .ref 125), (1, .int v1), (2, .int v2), (3, .int v3), (4, .long v4), (6, .int v6), (7, .int v7)] [] μ
def p_Model_walks_106 (cx : HCx) (F_ : Int32 → Int32 → Int32 → Int64 → Int32 → HMem → Option (Int64 × HMem)) : Prop := ∀ (v1 : Int32) (v2 : Int32) (v3 : Int32) (v4 : Int64) (v6 : Int32) (μ : HMem), HX cx (HQ cx h_eJ) (F_ v1 v2 v3 v4 v6 μ) 0 0 106 [(0, .ref 125), (1, .int v1), (2, .int v2), (3, .int v3), (4, .long v4), (6, .int v6)] [] μ
def p_Model_walks_42 (cx : HCx) (F_ : Int32 → Int32 → Int32 → Int64 → Int32 → HMem → Option (Int64 × HMem)) : Prop := ∀ (v1 : Int32) (v2 : Int32) (v3 : Int32) (v4 : Int64) (v6 : Int32) (μ : HMem), HX cx (HQ cx h_eJ) (F_ v1 v2 v3 v4 v6 μ) 0 0 42 [(0, .ref 125), (1, .int v1), (2, .int v2), (3, .int v3), (4, .long v4), (6, .int v6)] [] μ
def p_Model_isFold_15 (cx : HCx) (F_ : Int32 → Int32 → Int32 → Int32 → Int32 → HMem → Option (Int32 × HMem)) : Prop := ∀ (v1 : Int32) (v2 : Int32) (v3 : Int32) (v4 : Int32) (v5 : Int32) (μ : HMem), HX cx (HQ cx h_eI) (F_ v1 v2 v3 v4 v5 μ) 0 0 15 [(0, .ref 125), (1, .int v1), (2, .int v2), (3, .int v3), (4, .int v4), (5, .int v5)] [] μ
def p_Model_isFold_75 (cx : HCx) (F_ : Int32 → HMem → Option (Int32 × HMem)) : Prop := ∀ (v4 : Int32) (μ : HMem), HX cx (HQ cx h_eI) (F_ v4 μ) 0 0 75 [(4, .int v4)] [] μ
def p_Model_foldsOf_5 (cx : HCx) (F_ : Int32 → Int32 → Int32 → Int32 → HMem → Option (Int32 × HMem)) : Prop := ∀ (v1 : Int32) (v2 : Int32) (v3 : Int32) (v4 : Int32) (μ : HMem), HX cx (HQ cx h_eI) (F_ v1 v2 v3 v4 μ) 0 0 5 [(0, .ref 125), (1, .int v1), (2, .int v2), (3, .int v3), (4, .int v4)] [] μ
def p_Model_lowestFolded_10 (cx : HCx) (F_ : Int32 → Int32 → Int32 → HMem → Option (Int32 × HMem)) : Prop := ∀ (v1 : Int32) (v2 : Int32) (v3 : Int32) (μ : HMem), HX cx (HQ cx h_eI) (F_ v1 v2 v3 μ) 0 0 10 [(0, .ref 125), (1, .int v1), (2, .int v2), (3, .int v3)] [] μ
def p_Model_dismantle_50 (cx : HCx) (F_ : Int32 → Int32 → HMem → Option (Int32 × HMem)) : Prop := ∀ (v1 : Int32) (v2 : Int32) (μ : HMem), HX cx (HQ cx h_eI) (F_ v1 v2 μ) 0 0 50 [(0, .ref 125), (1, .int v1), (2, .int v2)] [] μ
def p_Model_dismantle_27 (cx : HCx) (F_ : Int32 → Int32 → Int32 → HMem → Option (Int32 × HMem)) : Prop := ∀ (v1 : Int32) (v2 : Int32) (v3 : Int32) (μ : HMem), HX cx (HQ cx h_eI) (F_ v1 v2 v3 μ) 0 0 27 [(0, .ref 125), (1, .int v1), (2, .int v2), (3, .int v3)] [] μ
theorem t_Model_bijectionsOf_L63_b {cx : HCx} (hg : HGood cx R_Model b_Model_bijectionsOf 6 3 (some .int)) (hA : h_own cx) (K99 : Int32 → Int32 → Int32 → Int32 → Int32 → HMem → Option (Int32 × HMem)) (hK99 : p_Model_bijectionsOf_99 cx K99) (rec_ : Int32 → Int32 → Int32 → Int32 → Int32 → HMem → Option (Int32 × HMem)) (hrec_ : p_Model_bijectionsOf_63 cx rec_) (v1 : Int32) (v2 : Int32) (v3 : Int32) (v4 : Int32) (v5 : Int32) (μ : HMem) : HX cx (HQ cx h_eI) (f_Model_bijectionsOf_L63_b K99 rec_ v1 v2 v3 v4 v5 μ) 0 0 63 [(0, .ref 125), (1, .int v1), (2, .int v2), (3, .int v3), (4, .int v4), (5, .int v5)] [] μ := by
  unfold f_Model_bijectionsOf_L63_b
  refine r_aload_n hg 0 d_Model_bijectionsOf_63 rfl rfl ?_
  refine r_get (v := .ref 133) hg c_Model (by decide) rfl (Nat.le_of_ble_eq_true rfl) rfl wf_Model_31 d_Model_bijectionsOf_64 rfl ?_
  refine r_iload hg 5 d_Model_bijectionsOf_67 rfl ?_
  refine r_iald hg (by decide) rfl d_Model_bijectionsOf_69 ?_
  refine r_iload_n hg 3 d_Model_bijectionsOf_70 rfl rfl ?_
  refine r_icmp_ge (tgt := 99) hg d_Model_bijectionsOf_71 (by decide) ?_ ?_
  · exact hK99 v1 v2 v3 v4 v5 μ
  · refine r_aload_n hg 0 d_Model_bijectionsOf_74 rfl rfl ?_
    refine r_iload_n hg 1 d_Model_bijectionsOf_75 rfl rfl ?_
    refine r_iload_n hg 2 d_Model_bijectionsOf_76 rfl rfl ?_
    refine r_iload hg 5 d_Model_bijectionsOf_77 rfl ?_
    refine r_callV (As := [.int v1, .int v2, .int v5]) hg (t_Model_isLike v1 v2 v5 μ) v_Model_isLike c_Model rfl (by decide) rfl wm_Model_247 d_Model_bijectionsOf_79 rfl ⟨by decide, by decide⟩ (Nat.le_of_ble_eq_true rfl) rfl (fun r79 μ_79 _ => ?_)
    refine r_if_ne (tgt := 99) hg d_Model_bijectionsOf_82 (by decide) ?_ ?_
    · exact hK99 v1 v2 v3 v4 v5 μ_79
    · refine r_aload_n hg 0 d_Model_bijectionsOf_85 rfl rfl ?_
      refine r_get (v := .ref 133) hg c_Model (by decide) rfl (Nat.le_of_ble_eq_true rfl) rfl wf_Model_31 d_Model_bijectionsOf_86 rfl ?_
      refine r_iload hg 5 d_Model_bijectionsOf_89 rfl ?_
      refine r_dup2 hg d_Model_bijectionsOf_91 rfl rfl ?_
      refine r_iald hg (by decide) rfl d_Model_bijectionsOf_92 ?_
      refine r_iconst (v := 1) hg d_Model_bijectionsOf_93 (by decide) ?_
      refine r_iadd hg d_Model_bijectionsOf_94 ?_
      refine r_iast hg (by decide) rfl d_Model_bijectionsOf_95 ?_
      refine r_letM (fun μ_95 => ?_)
      refine r_goto (tgt := 63) hg d_Model_bijectionsOf_96 (by decide) ?_
      exact hrec_ v1 v2 v3 v4 v5 μ_95
theorem t_Model_bijectionsOf_L63 {cx : HCx} (hg : HGood cx R_Model b_Model_bijectionsOf 6 3 (some .int)) (hA : h_own cx) (K99 : Int32 → Int32 → Int32 → Int32 → Int32 → HMem → Option (Int32 × HMem)) (hK99 : p_Model_bijectionsOf_99 cx K99) : ∀ (fuel : Nat) (v1 : Int32) (v2 : Int32) (v3 : Int32) (v4 : Int32) (v5 : Int32) (μ : HMem), HX cx (HQ cx h_eI) (f_Model_bijectionsOf_L63 K99 fuel v1 v2 v3 v4 v5 μ) 0 0 63 [(0, .ref 125), (1, .int v1), (2, .int v2), (3, .int v3), (4, .int v4), (5, .int v5)] [] μ
  | 0, _, _, _, _, _, _ => by unfold f_Model_bijectionsOf_L63; exact HX.none
  | fuel + 1, v1, v2, v3, v4, v5, μ => by
    rw [f_Model_bijectionsOf_L63]
    exact t_Model_bijectionsOf_L63_b hg hA  K99 hK99 (f_Model_bijectionsOf_L63 K99 fuel) (t_Model_bijectionsOf_L63 hg hA  K99 hK99 fuel) v1 v2 v3 v4 v5 μ
theorem t_Model_bijectionsOf_J99 {cx : HCx} (hg : HGood cx R_Model b_Model_bijectionsOf 6 3 (some .int)) (hA : h_own cx)  (rec_ : Int32 → Int32 → Int32 → Int32 → Int32 → HMem → Option (Int32 × HMem)) (hrec_ : p_Model_bijectionsOf_32 cx rec_) (v1 : Int32) (v2 : Int32) (v3 : Int32) (v4 : Int32) (v5 : Int32) (μ : HMem) : HX cx (HQ cx h_eI) (f_Model_bijectionsOf_J99  rec_ v1 v2 v3 v4 v5 μ) 0 0 99 [(0, .ref 125), (1, .int v1), (2, .int v2), (3, .int v3), (4, .int v4), (5, .int v5)] [] μ := by
  unfold f_Model_bijectionsOf_J99
  refine r_aload_n hg 0 d_Model_bijectionsOf_99 rfl rfl ?_
  refine r_get (v := .ref 133) hg c_Model (by decide) rfl (Nat.le_of_ble_eq_true rfl) rfl wf_Model_31 d_Model_bijectionsOf_100 rfl ?_
  refine r_iload hg 5 d_Model_bijectionsOf_103 rfl ?_
  refine r_iald hg (by decide) rfl d_Model_bijectionsOf_105 ?_
  refine r_iload_n hg 3 d_Model_bijectionsOf_106 rfl rfl ?_
  refine r_icmp_ge (tgt := 124) hg d_Model_bijectionsOf_107 (by decide) ?_ ?_
  · refine r_letE (fun v5_124 he_124 => ?_)
    refine r_iinc (v := v5_124) (l' := [(5, .int v5_124), (0, .ref 125), (1, .int v1), (2, .int v2), (3, .int v3), (4, .int v4)]) hg 5 d_Model_bijectionsOf_124 rfl he_124 (Nat.le_of_ble_eq_true rfl) rfl ?_
    refine r_goto (tgt := 32) hg d_Model_bijectionsOf_127 (by decide) ?_
    refine r_sub [1, 2, 3, 4, 5, 0] rfl ?_
    exact hrec_ v1 v2 v3 v4 v5_124 μ
  · refine r_letE (fun v5_110 he_110 => ?_)
    refine r_iinc (v := v5_110) (l' := [(5, .int v5_110), (0, .ref 125), (1, .int v1), (2, .int v2), (3, .int v3), (4, .int v4)]) hg 5 d_Model_bijectionsOf_110 rfl he_110 (Nat.le_of_ble_eq_true rfl) rfl ?_
    refine r_aload_n hg 1 d_Model_bijectionsOf_113 rfl rfl ?_
    refine r_get (v := .ref 133) hg c_Model (by decide) rfl (Nat.le_of_ble_eq_true rfl) rfl wf_Model_31 d_Model_bijectionsOf_114 rfl ?_
    refine r_iload hg 0 d_Model_bijectionsOf_117 rfl ?_
    refine r_iconst (v := -1) hg d_Model_bijectionsOf_119 (by decide) ?_
    refine r_iast hg (by decide) rfl d_Model_bijectionsOf_120 ?_
    refine r_letM (fun μ_120 => ?_)
    refine r_goto (tgt := 32) hg d_Model_bijectionsOf_121 (by decide) ?_
    refine r_sub [1, 2, 3, 4, 5, 0] rfl ?_
    exact hrec_ v1 v2 v3 v4 v5_110 μ_120
theorem t_Model_bijectionsOf_L32_b {cx : HCx} (hg : HGood cx R_Model b_Model_bijectionsOf 6 3 (some .int)) (hA : h_own cx)  (rec_ : Int32 → Int32 → Int32 → Int32 → Int32 → HMem → Option (Int32 × HMem)) (hrec_ : p_Model_bijectionsOf_32 cx rec_) (v1 : Int32) (v2 : Int32) (v3 : Int32) (v4 : Int32) (v5 : Int32) (μ : HMem) : HX cx (HQ cx h_eI) (f_Model_bijectionsOf_L32_b  rec_ v1 v2 v3 v4 v5 μ) 0 0 32 [(0, .ref 125), (1, .int v1), (2, .int v2), (3, .int v3), (4, .int v4), (5, .int v5)] [] μ := by
  unfold f_Model_bijectionsOf_L32_b
  refine r_iload hg 5 d_Model_bijectionsOf_32 rfl ?_
  refine r_if_lt (tgt := 130) hg d_Model_bijectionsOf_34 (by decide) ?_ ?_
  · refine r_iload hg 4 d_Model_bijectionsOf_130 rfl ?_
    exact r_iret hg hA rfl d_Model_bijectionsOf_132 rfl
  · refine r_iload hg 5 d_Model_bijectionsOf_37 rfl ?_
    refine r_iload_n hg 3 d_Model_bijectionsOf_39 rfl rfl ?_
    refine r_icmp_ne (tgt := 52) hg d_Model_bijectionsOf_40 (by decide) ?_ ?_
    · refine r_aload_n hg 0 d_Model_bijectionsOf_52 rfl rfl ?_
      refine r_get (v := .ref 133) hg c_Model (by decide) rfl (Nat.le_of_ble_eq_true rfl) rfl wf_Model_31 d_Model_bijectionsOf_53 rfl ?_
      refine r_iload hg 5 d_Model_bijectionsOf_56 rfl ?_
      refine r_dup2 hg d_Model_bijectionsOf_58 rfl rfl ?_
      refine r_iald hg (by decide) rfl d_Model_bijectionsOf_59 ?_
      refine r_iconst (v := 1) hg d_Model_bijectionsOf_60 (by decide) ?_
      refine r_iadd hg d_Model_bijectionsOf_61 ?_
      refine r_iast hg (by decide) rfl d_Model_bijectionsOf_62 ?_
      refine r_letM (fun μ_62 => ?_)
      exact t_Model_bijectionsOf_L63 hg hA (f_Model_bijectionsOf_J99 rec_) (t_Model_bijectionsOf_J99 hg hA rec_ hrec_) h_fuel v1 v2 v3 v4 v5 μ_62
    · refine r_letE (fun v4_43 he_43 => ?_)
      refine r_iinc (v := v4_43) (l' := [(4, .int v4_43), (0, .ref 125), (1, .int v1), (2, .int v2), (3, .int v3), (5, .int v5)]) hg 4 d_Model_bijectionsOf_43 rfl he_43 (Nat.le_of_ble_eq_true rfl) rfl ?_
      refine r_letE (fun v5_46 he_46 => ?_)
      refine r_iinc (v := v5_46) (l' := [(5, .int v5_46), (4, .int v4_43), (0, .ref 125), (1, .int v1), (2, .int v2), (3, .int v3)]) hg 5 d_Model_bijectionsOf_46 rfl he_46 (Nat.le_of_ble_eq_true rfl) rfl ?_
      refine r_goto (tgt := 32) hg d_Model_bijectionsOf_49 (by decide) ?_
      refine r_sub [2, 3, 4, 5, 1, 0] rfl ?_
      exact hrec_ v1 v2 v3 v4_43 v5_46 μ
theorem t_Model_bijectionsOf_L32 {cx : HCx} (hg : HGood cx R_Model b_Model_bijectionsOf 6 3 (some .int)) (hA : h_own cx)  : ∀ (fuel : Nat) (v1 : Int32) (v2 : Int32) (v3 : Int32) (v4 : Int32) (v5 : Int32) (μ : HMem), HX cx (HQ cx h_eI) (f_Model_bijectionsOf_L32  fuel v1 v2 v3 v4 v5 μ) 0 0 32 [(0, .ref 125), (1, .int v1), (2, .int v2), (3, .int v3), (4, .int v4), (5, .int v5)] [] μ
  | 0, _, _, _, _, _, _ => by unfold f_Model_bijectionsOf_L32; exact HX.none
  | fuel + 1, v1, v2, v3, v4, v5, μ => by
    rw [f_Model_bijectionsOf_L32]
    exact t_Model_bijectionsOf_L32_b hg hA   (f_Model_bijectionsOf_L32  fuel) (t_Model_bijectionsOf_L32 hg hA   fuel) v1 v2 v3 v4 v5 μ
theorem t_Model_bijectionsOf_J23 {cx : HCx} (hg : HGood cx R_Model b_Model_bijectionsOf 6 3 (some .int)) (hA : h_own cx)   (v1 : Int32) (v2 : Int32) (v3 : Int32) (v4 : Int32) (s0 : Int32) (μ : HMem) : HX cx (HQ cx h_eI) (f_Model_bijectionsOf_J23   v1 v2 v3 v4 s0 μ) 0 0 23 [(0, .ref 125), (1, .int v1), (2, .int v2), (3, .int v3), (4, .int v4)] [.int s0] μ := by
  unfold f_Model_bijectionsOf_J23
  refine r_istore (l' := [(5, .int s0), (0, .ref 125), (1, .int v1), (2, .int v2), (3, .int v3), (4, .int v4)]) hg d_Model_bijectionsOf_23 (Nat.le_of_ble_eq_true rfl) rfl ?_
  refine r_aload_n hg 1 d_Model_bijectionsOf_25 rfl rfl ?_
  refine r_get (v := .ref 133) hg c_Model (by decide) rfl (Nat.le_of_ble_eq_true rfl) rfl wf_Model_31 d_Model_bijectionsOf_26 rfl ?_
  refine r_iconst (v := 0) hg d_Model_bijectionsOf_29 (by decide) ?_
  refine r_iconst (v := -1) hg d_Model_bijectionsOf_30 (by decide) ?_
  refine r_iast hg (by decide) rfl d_Model_bijectionsOf_31 ?_
  refine r_letM (fun μ_31 => ?_)
  refine r_sub [1, 2, 3, 4, 5, 0] rfl ?_
  exact t_Model_bijectionsOf_L32 hg hA h_fuel v1 v2 v3 v4 s0 μ_31
theorem t_Model_bijectionsOf_0 {cx : HCx} (hg : HGood cx R_Model b_Model_bijectionsOf 6 3 (some .int)) (hA : h_own cx) (v1 : Int32) (v2 : Int32) (μ : HMem) : HX cx (HQ cx h_eI) (f_Model_bijectionsOf v1 v2 μ) 0 0 0 [(0, .ref 125), (1, .int v1), (2, .int v2)] [] μ := by
  unfold f_Model_bijectionsOf
  refine r_aload_n hg 0 d_Model_bijectionsOf_0 rfl rfl ?_
  refine r_iload_n hg 1 d_Model_bijectionsOf_1 rfl rfl ?_
  refine r_callV (As := [.int v1]) hg (t_Model_size v1 μ) v_Model_size c_Model rfl (by decide) rfl wm_Model_75 d_Model_bijectionsOf_2 rfl ⟨by decide, by decide⟩ (Nat.le_of_ble_eq_true rfl) rfl (fun r2 μ_2 _ => ?_)
  refine r_istore_n (l' := [(3, .int r2), (0, .ref 125), (1, .int v1), (2, .int v2)]) hg d_Model_bijectionsOf_5 rfl (Nat.le_of_ble_eq_true rfl) rfl ?_
  refine r_iconst (v := 0) hg d_Model_bijectionsOf_6 (by decide) ?_
  refine r_istore (l' := [(4, .int 0), (3, .int r2), (0, .ref 125), (1, .int v1), (2, .int v2)]) hg d_Model_bijectionsOf_7 (Nat.le_of_ble_eq_true rfl) rfl ?_
  refine r_iload_n hg 1 d_Model_bijectionsOf_9 rfl rfl ?_
  refine r_aload_n hg 2 d_Model_bijectionsOf_10 rfl rfl ?_
  refine r_iload_n hg 4 d_Model_bijectionsOf_11 rfl rfl ?_
  refine r_callV (As := [.int v2]) hg (t_Model_size v2 μ_2) v_Model_size c_Model rfl (by decide) rfl wm_Model_75 d_Model_bijectionsOf_12 rfl ⟨by decide, by decide⟩ (Nat.le_of_ble_eq_true rfl) rfl (fun r12 μ_12 _ => ?_)
  refine r_icmp_ne (tgt := 22) hg d_Model_bijectionsOf_15 (by decide) ?_ ?_
  · refine r_iconst (v := -1) hg d_Model_bijectionsOf_22 (by decide) ?_
    refine r_sub [2, 3, 4, 1, 0] rfl ?_
    exact t_Model_bijectionsOf_J23 hg hA v1 v2 r2 0 (-1) μ_12
  · refine r_iconst (v := 0) hg d_Model_bijectionsOf_18 (by decide) ?_
    refine r_goto (tgt := 23) hg d_Model_bijectionsOf_19 (by decide) ?_
    refine r_sub [2, 3, 4, 1, 0] rfl ?_
    exact t_Model_bijectionsOf_J23 hg hA v1 v2 r2 0 0 μ_12
theorem t_Model_bijectionsOf (v1 : Int32) (v2 : Int32) (μ : HMem) : HSpec y_Model_bijectionsOf b_Model_bijectionsOf 6 (some .int) 3 h_eI [.ref 125, .int v1, .int v2] μ (f_Model_bijectionsOf v1 v2 μ) :=
  HSpec.of (by decide +kernel) (v_Model_bijectionsOf.1 _ (by simp)) (Nat.le_of_ble_eq_true rfl) (fun cx hA hg => t_Model_bijectionsOf_0 hg hA v1 v2 μ)
theorem t_Model_automorphisms_J25 {cx : HCx} (hg : HGood cx R_Model b_Model_automorphisms 2 4 (some .int)) (hA : h_own cx)   (s0 : Int32) (μ : HMem) : HX cx (HQ cx h_eI) (f_Model_automorphisms_J25   s0 μ) 0 0 25 [] [.int s0] μ := by
  unfold f_Model_automorphisms_J25
  exact r_iret hg hA rfl d_Model_automorphisms_25 rfl
theorem t_Model_automorphisms_0 {cx : HCx} (hg : HGood cx R_Model b_Model_automorphisms 2 4 (some .int)) (hA : h_own cx) (v1 : Int32) (μ : HMem) : HX cx (HQ cx h_eI) (f_Model_automorphisms v1 μ) 0 0 0 [(0, .ref 125), (1, .int v1)] [] μ := by
  unfold f_Model_automorphisms
  refine r_iload_n hg 1 d_Model_automorphisms_0 rfl rfl ?_
  refine r_callS (As := [.int v1]) hg (t_Model_isGraph v1 μ) v_Model_isGraph wm_Model_71 d_Model_automorphisms_1 rfl ⟨by decide, by decide⟩ (Nat.le_of_ble_eq_true rfl) rfl (fun r1 μ_1 _ => ?_)
  refine r_if_eq (tgt := 20) hg d_Model_automorphisms_4 (by decide) ?_ ?_
  · refine r_aload_n hg 0 d_Model_automorphisms_20 rfl rfl ?_
    refine r_iconst (v := 1) hg d_Model_automorphisms_21 (by decide) ?_
    refine r_callV (As := [.int 1]) hg (t_Model_fails 1 μ_1) v_Model_fails c_Model rfl (by decide) rfl wm_Model_93 d_Model_automorphisms_22 rfl ⟨by decide, by decide⟩ (Nat.le_of_ble_eq_true rfl) rfl (fun r22 μ_22 _ => ?_)
    refine r_sub [] rfl ?_
    exact t_Model_automorphisms_J25 hg hA r22 μ_22
  · refine r_aload_n hg 0 d_Model_automorphisms_7 rfl rfl ?_
    refine r_aload_n hg 0 d_Model_automorphisms_8 rfl rfl ?_
    refine r_iload_n hg 1 d_Model_automorphisms_9 rfl rfl ?_
    refine r_iload_n hg 1 d_Model_automorphisms_10 rfl rfl ?_
    refine r_callV (As := [.int v1, .int v1]) hg (t_Model_bijectionsOf v1 v1 μ_1) v_Model_bijectionsOf c_Model rfl (by decide) rfl wm_Model_250 d_Model_automorphisms_11 rfl ⟨by decide, by decide⟩ (Nat.le_of_ble_eq_true rfl) rfl (fun r11 μ_11 _ => ?_)
    refine r_callV (As := [.int r11]) hg (t_Model_tells r11 μ_11) v_Model_tells c_Model rfl (by decide) rfl wm_Model_171 d_Model_automorphisms_14 rfl ⟨by decide, by decide⟩ (Nat.le_of_ble_eq_true rfl) rfl (fun r14 μ_14 _ => ?_)
    refine r_goto (tgt := 25) hg d_Model_automorphisms_17 (by decide) ?_
    refine r_sub [] rfl ?_
    exact t_Model_automorphisms_J25 hg hA r14 μ_14
theorem t_Model_automorphisms (v1 : Int32) (μ : HMem) : HSpec y_Model_automorphisms b_Model_automorphisms 2 (some .int) 4 h_eI [.ref 125, .int v1] μ (f_Model_automorphisms v1 μ) :=
  HSpec.of (by decide +kernel) (v_Model_automorphisms.1 _ (by simp)) (Nat.le_of_ble_eq_true rfl) (fun cx hA hg => t_Model_automorphisms_0 hg hA v1 μ)
theorem t_Model_isomorphic_J44 {cx : HCx} (hg : HGood cx R_Model b_Model_isomorphic 3 4 (some .boolean)) (hA : h_own cx)   (s0 : Int32) (μ : HMem) : HX cx (HQ cx h_eI) (f_Model_isomorphic_J44   s0 μ) 0 0 44 [] [.int s0] μ := by
  unfold f_Model_isomorphic_J44
  exact r_zretB hg hA rfl d_Model_isomorphic_44 rfl
theorem t_Model_isomorphic_J43 {cx : HCx} (hg : HGood cx R_Model b_Model_isomorphic 3 4 (some .boolean)) (hA : h_own cx)    (μ : HMem) : HX cx (HQ cx h_eI) (f_Model_isomorphic_J43   μ) 0 0 43 [] [] μ := by
  unfold f_Model_isomorphic_J43
  refine r_iconst (v := 0) hg d_Model_isomorphic_43 (by decide) ?_
  exact t_Model_isomorphic_J44 hg hA 0 μ
theorem t_Model_isomorphic_J20 {cx : HCx} (hg : HGood cx R_Model b_Model_isomorphic 3 4 (some .boolean)) (hA : h_own cx)   (v1 : Int32) (v2 : Int32) (s0 : Int32) (μ : HMem) : HX cx (HQ cx h_eI) (f_Model_isomorphic_J20   v1 v2 s0 μ) 0 0 20 [(0, .ref 125), (1, .int v1), (2, .int v2)] [.int s0, .ref 125] μ := by
  unfold f_Model_isomorphic_J20
  refine r_put hg c_Model t_Model_ok n_Model (by decide) rfl (Nat.le_of_ble_eq_true rfl) rfl rfl (by decide +kernel) wf_Model_63 d_Model_isomorphic_20 ?_
  refine r_letM (fun μ_20 => ?_)
  refine r_aload_n hg 0 d_Model_isomorphic_23 rfl rfl ?_
  refine r_get (v := .int (μ_20.1 125 5)) hg c_Model (by decide) rfl (Nat.le_of_ble_eq_true rfl) rfl wf_Model_63 d_Model_isomorphic_24 rfl ?_
  refine r_if_ne (tgt := 43) hg d_Model_isomorphic_27 (by decide) ?_ ?_
  · refine r_sub [] rfl ?_
    exact t_Model_isomorphic_J43 hg hA μ_20
  · refine r_aload_n hg 0 d_Model_isomorphic_30 rfl rfl ?_
    refine r_iload_n hg 1 d_Model_isomorphic_31 rfl rfl ?_
    refine r_iload_n hg 2 d_Model_isomorphic_32 rfl rfl ?_
    refine r_callV (As := [.int v1, .int v2]) hg (t_Model_bijectionsOf v1 v2 μ_20) v_Model_bijectionsOf c_Model rfl (by decide) rfl wm_Model_250 d_Model_isomorphic_33 rfl ⟨by decide, by decide⟩ (Nat.le_of_ble_eq_true rfl) rfl (fun r33 μ_33 _ => ?_)
    refine r_if_le (tgt := 43) hg d_Model_isomorphic_36 (by decide) ?_ ?_
    · refine r_sub [] rfl ?_
      exact t_Model_isomorphic_J43 hg hA μ_33
    · refine r_iconst (v := 1) hg d_Model_isomorphic_39 (by decide) ?_
      refine r_goto (tgt := 44) hg d_Model_isomorphic_40 (by decide) ?_
      refine r_sub [] rfl ?_
      exact t_Model_isomorphic_J44 hg hA 1 μ_33
theorem t_Model_isomorphic_J19 {cx : HCx} (hg : HGood cx R_Model b_Model_isomorphic 3 4 (some .boolean)) (hA : h_own cx)   (v1 : Int32) (v2 : Int32) (μ : HMem) : HX cx (HQ cx h_eI) (f_Model_isomorphic_J19   v1 v2 μ) 0 0 19 [(0, .ref 125), (1, .int v1), (2, .int v2)] [.ref 125] μ := by
  unfold f_Model_isomorphic_J19
  refine r_iconst (v := 1) hg d_Model_isomorphic_19 (by decide) ?_
  exact t_Model_isomorphic_J20 hg hA v1 v2 1 μ
theorem t_Model_isomorphic_0 {cx : HCx} (hg : HGood cx R_Model b_Model_isomorphic 3 4 (some .boolean)) (hA : h_own cx) (v1 : Int32) (v2 : Int32) (μ : HMem) : HX cx (HQ cx h_eI) (f_Model_isomorphic v1 v2 μ) 0 0 0 [(0, .ref 125), (1, .int v1), (2, .int v2)] [] μ := by
  unfold f_Model_isomorphic
  refine r_aload_n hg 0 d_Model_isomorphic_0 rfl rfl ?_
  refine r_iload_n hg 1 d_Model_isomorphic_1 rfl rfl ?_
  refine r_callS (As := [.int v1]) hg (t_Model_isGraph v1 μ) v_Model_isGraph wm_Model_71 d_Model_isomorphic_2 rfl ⟨by decide, by decide⟩ (Nat.le_of_ble_eq_true rfl) rfl (fun r2 μ_2 _ => ?_)
  refine r_if_eq (tgt := 19) hg d_Model_isomorphic_5 (by decide) ?_ ?_
  · exact t_Model_isomorphic_J19 hg hA v1 v2 μ_2
  · refine r_iload_n hg 2 d_Model_isomorphic_8 rfl rfl ?_
    refine r_callS (As := [.int v2]) hg (t_Model_isGraph v2 μ_2) v_Model_isGraph wm_Model_71 d_Model_isomorphic_9 rfl ⟨by decide, by decide⟩ (Nat.le_of_ble_eq_true rfl) rfl (fun r9 μ_9 _ => ?_)
    refine r_if_eq (tgt := 19) hg d_Model_isomorphic_12 (by decide) ?_ ?_
    · exact t_Model_isomorphic_J19 hg hA v1 v2 μ_9
    · refine r_iconst (v := 0) hg d_Model_isomorphic_15 (by decide) ?_
      refine r_goto (tgt := 20) hg d_Model_isomorphic_16 (by decide) ?_
      exact t_Model_isomorphic_J20 hg hA v1 v2 0 μ_9
theorem t_Model_isomorphic (v1 : Int32) (v2 : Int32) (μ : HMem) : HSpec y_Model_isomorphic b_Model_isomorphic 3 (some .boolean) 4 h_eI [.ref 125, .int v1, .int v2] μ (f_Model_isomorphic v1 v2 μ) :=
  HSpec.of (by decide +kernel) (v_Model_isomorphic.1 _ (by simp)) (Nat.le_of_ble_eq_true rfl) (fun cx hA hg => t_Model_isomorphic_0 hg hA v1 v2 μ)
theorem t_Model_image_J16 {cx : HCx} (hg : HGood cx R_Model b_Model_image 4 8 (some .int)) (hA : h_own cx)    (μ : HMem) : HX cx (HQ cx h_eI) (f_Model_image_J16   μ) 0 0 16 [(0, .ref 125)] [] μ := by
  unfold f_Model_image_J16
  refine r_aload_n hg 0 d_Model_image_16 rfl rfl ?_
  refine r_iconst (v := 1) hg d_Model_image_17 (by decide) ?_
  refine r_callV (As := [.int 1]) hg (t_Model_fails 1 μ) v_Model_fails c_Model rfl (by decide) rfl wm_Model_93 d_Model_image_18 rfl ⟨by decide, by decide⟩ (Nat.le_of_ble_eq_true rfl) rfl (fun r18 μ_18 _ => ?_)
  exact r_iret hg hA rfl d_Model_image_21 rfl
theorem t_Model_image_0 {cx : HCx} (hg : HGood cx R_Model b_Model_image 4 8 (some .int)) (hA : h_own cx) (v1 : Int32) (v2 : Int32) (v3 : Int32) (μ : HMem) : HX cx (HQ cx h_eI) (f_Model_image v1 v2 v3 μ) 0 0 0 [(0, .ref 125), (1, .int v1), (2, .int v2), (3, .int v3)] [] μ := by
  unfold f_Model_image
  refine r_aload_n hg 0 d_Model_image_0 rfl rfl ?_
  refine r_iload_n hg 1 d_Model_image_1 rfl rfl ?_
  refine r_iload_n hg 3 d_Model_image_2 rfl rfl ?_
  refine r_callV (As := [.int v1, .int v3]) hg (t_Model_isVertex v1 v3 μ) v_Model_isVertex c_Model rfl (by decide) rfl wm_Model_103 d_Model_image_3 rfl ⟨by decide, by decide⟩ (Nat.le_of_ble_eq_true rfl) rfl (fun r3 μ_3 _ => ?_)
  refine r_if_eq (tgt := 16) hg d_Model_image_6 (by decide) ?_ ?_
  · refine r_sub [0] rfl ?_
    exact t_Model_image_J16 hg hA μ_3
  · refine r_iload_n hg 2 d_Model_image_9 rfl rfl ?_
    refine r_callS (As := [.int v2]) hg (t_Model_isGraph v2 μ_3) v_Model_isGraph wm_Model_71 d_Model_image_10 rfl ⟨by decide, by decide⟩ (Nat.le_of_ble_eq_true rfl) rfl (fun r10 μ_10 _ => ?_)
    refine r_if_ne (tgt := 22) hg d_Model_image_13 (by decide) ?_ ?_
    · refine r_aload_n hg 0 d_Model_image_22 rfl rfl ?_
      refine r_aload_n hg 0 d_Model_image_23 rfl rfl ?_
      refine r_iload_n hg 1 d_Model_image_24 rfl rfl ?_
      refine r_iload_n hg 2 d_Model_image_25 rfl rfl ?_
      refine r_iload_n hg 3 d_Model_image_26 rfl rfl ?_
      refine r_callV (As := [.int v1, .int v2, .int v3]) hg (t_Model_firstImage v1 v2 v3 μ_10) v_Model_firstImage c_Model rfl (by decide) rfl wm_Model_253 d_Model_image_27 rfl ⟨by decide, by decide⟩ (Nat.le_of_ble_eq_true rfl) rfl (fun r27 μ_27 _ => ?_)
      refine r_callV (As := [.int r27]) hg (t_Model_tells r27 μ_27) v_Model_tells c_Model rfl (by decide) rfl wm_Model_171 d_Model_image_30 rfl ⟨by decide, by decide⟩ (Nat.le_of_ble_eq_true rfl) rfl (fun r30 μ_30 _ => ?_)
      exact r_iret hg hA rfl d_Model_image_33 rfl
    · refine r_sub [0] rfl ?_
      exact t_Model_image_J16 hg hA μ_10
theorem t_Model_image (v1 : Int32) (v2 : Int32) (v3 : Int32) (μ : HMem) : HSpec y_Model_image b_Model_image 4 (some .int) 8 h_eI [.ref 125, .int v1, .int v2, .int v3] μ (f_Model_image v1 v2 v3 μ) :=
  HSpec.of (by decide +kernel) (v_Model_image.1 _ (by simp)) (Nat.le_of_ble_eq_true rfl) (fun cx hA hg => t_Model_image_0 hg hA v1 v2 v3 μ)
theorem t_Model_compared_J30 {cx : HCx} (hg : HGood cx R_Model b_Model_compared 3 7 (some .int)) (hA : h_own cx)   (s0 : Int32) (s1 : Int32) (μ : HMem) : HX cx (HQ cx h_eI) (f_Model_compared_J30   s0 s1 μ) 0 0 30 [] [.int s0, .int s1] μ := by
  unfold f_Model_compared_J30
  refine r_iadd hg d_Model_compared_30 ?_
  exact r_iret hg hA rfl d_Model_compared_31 rfl
theorem t_Model_compared_J15 {cx : HCx} (hg : HGood cx R_Model b_Model_compared 3 7 (some .int)) (hA : h_own cx)   (v1 : Int32) (v2 : Int32) (s0 : Int32) (μ : HMem) : HX cx (HQ cx h_eI) (f_Model_compared_J15   v1 v2 s0 μ) 0 0 15 [(0, .ref 125), (1, .int v1), (2, .int v2)] [.int s0] μ := by
  unfold f_Model_compared_J15
  refine r_aload_n hg 0 d_Model_compared_15 rfl rfl ?_
  refine r_iload_n hg 2 d_Model_compared_16 rfl rfl ?_
  refine r_iload_n hg 1 d_Model_compared_17 rfl rfl ?_
  refine r_iconst (v := -1) hg d_Model_compared_18 (by decide) ?_
  refine r_callV (As := [.int v2, .int v1, .int (-1)]) hg (t_Model_isFree v2 v1 (-1) μ) v_Model_isFree c_Model rfl (by decide) rfl wm_Model_224 d_Model_compared_19 rfl ⟨by decide, by decide⟩ (Nat.le_of_ble_eq_true rfl) rfl (fun r19 μ_19 _ => ?_)
  refine r_if_eq (tgt := 29) hg d_Model_compared_22 (by decide) ?_ ?_
  · refine r_iconst (v := 0) hg d_Model_compared_29 (by decide) ?_
    refine r_sub [] rfl ?_
    exact t_Model_compared_J30 hg hA 0 s0 μ_19
  · refine r_iconst (v := 2) hg d_Model_compared_25 (by decide) ?_
    refine r_goto (tgt := 30) hg d_Model_compared_26 (by decide) ?_
    refine r_sub [] rfl ?_
    exact t_Model_compared_J30 hg hA 2 s0 μ_19
theorem t_Model_compared_0 {cx : HCx} (hg : HGood cx R_Model b_Model_compared 3 7 (some .int)) (hA : h_own cx) (v1 : Int32) (v2 : Int32) (μ : HMem) : HX cx (HQ cx h_eI) (f_Model_compared v1 v2 μ) 0 0 0 [(0, .ref 125), (1, .int v1), (2, .int v2)] [] μ := by
  unfold f_Model_compared
  refine r_aload_n hg 0 d_Model_compared_0 rfl rfl ?_
  refine r_iload_n hg 1 d_Model_compared_1 rfl rfl ?_
  refine r_iload_n hg 2 d_Model_compared_2 rfl rfl ?_
  refine r_iconst (v := -1) hg d_Model_compared_3 (by decide) ?_
  refine r_callV (As := [.int v1, .int v2, .int (-1)]) hg (t_Model_isFree v1 v2 (-1) μ) v_Model_isFree c_Model rfl (by decide) rfl wm_Model_224 d_Model_compared_4 rfl ⟨by decide, by decide⟩ (Nat.le_of_ble_eq_true rfl) rfl (fun r4 μ_4 _ => ?_)
  refine r_if_eq (tgt := 14) hg d_Model_compared_7 (by decide) ?_ ?_
  · refine r_iconst (v := 0) hg d_Model_compared_14 (by decide) ?_
    exact t_Model_compared_J15 hg hA v1 v2 0 μ_4
  · refine r_iconst (v := 1) hg d_Model_compared_10 (by decide) ?_
    refine r_goto (tgt := 15) hg d_Model_compared_11 (by decide) ?_
    exact t_Model_compared_J15 hg hA v1 v2 1 μ_4
theorem t_Model_compared (v1 : Int32) (v2 : Int32) (μ : HMem) : HSpec y_Model_compared b_Model_compared 3 (some .int) 7 h_eI [.ref 125, .int v1, .int v2] μ (f_Model_compared v1 v2 μ) :=
  HSpec.of (by decide +kernel) (v_Model_compared.1 _ (by simp)) (Nat.le_of_ble_eq_true rfl) (fun cx hA hg => t_Model_compared_0 hg hA v1 v2 μ)
theorem t_Model_compare_J32 {cx : HCx} (hg : HGood cx R_Model b_Model_compare 3 8 (some .int)) (hA : h_own cx)   (s0 : Int32) (μ : HMem) : HX cx (HQ cx h_eI) (f_Model_compare_J32   s0 μ) 0 0 32 [] [.int s0] μ := by
  unfold f_Model_compare_J32
  exact r_iret hg hA rfl d_Model_compare_32 rfl
theorem t_Model_compare_J27 {cx : HCx} (hg : HGood cx R_Model b_Model_compare 3 8 (some .int)) (hA : h_own cx)    (μ : HMem) : HX cx (HQ cx h_eI) (f_Model_compare_J27   μ) 0 0 27 [(0, .ref 125)] [] μ := by
  unfold f_Model_compare_J27
  refine r_aload_n hg 0 d_Model_compare_27 rfl rfl ?_
  refine r_iconst (v := 1) hg d_Model_compare_28 (by decide) ?_
  refine r_callV (As := [.int 1]) hg (t_Model_fails 1 μ) v_Model_fails c_Model rfl (by decide) rfl wm_Model_93 d_Model_compare_29 rfl ⟨by decide, by decide⟩ (Nat.le_of_ble_eq_true rfl) rfl (fun r29 μ_29 _ => ?_)
  refine r_sub [] rfl ?_
  exact t_Model_compare_J32 hg hA r29 μ_29
theorem t_Model_compare_0 {cx : HCx} (hg : HGood cx R_Model b_Model_compare 3 8 (some .int)) (hA : h_own cx) (v1 : Int32) (v2 : Int32) (μ : HMem) : HX cx (HQ cx h_eI) (f_Model_compare v1 v2 μ) 0 0 0 [(0, .ref 125), (1, .int v1), (2, .int v2)] [] μ := by
  unfold f_Model_compare
  refine r_iload_n hg 1 d_Model_compare_0 rfl rfl ?_
  refine r_callS (As := [.int v1]) hg (t_Model_isGraph v1 μ) v_Model_isGraph wm_Model_71 d_Model_compare_1 rfl ⟨by decide, by decide⟩ (Nat.le_of_ble_eq_true rfl) rfl (fun r1 μ_1 _ => ?_)
  refine r_if_eq (tgt := 27) hg d_Model_compare_4 (by decide) ?_ ?_
  · refine r_sub [0] rfl ?_
    exact t_Model_compare_J27 hg hA μ_1
  · refine r_iload_n hg 2 d_Model_compare_7 rfl rfl ?_
    refine r_callS (As := [.int v2]) hg (t_Model_isGraph v2 μ_1) v_Model_isGraph wm_Model_71 d_Model_compare_8 rfl ⟨by decide, by decide⟩ (Nat.le_of_ble_eq_true rfl) rfl (fun r8 μ_8 _ => ?_)
    refine r_if_eq (tgt := 27) hg d_Model_compare_11 (by decide) ?_ ?_
    · refine r_sub [0] rfl ?_
      exact t_Model_compare_J27 hg hA μ_8
    · refine r_aload_n hg 0 d_Model_compare_14 rfl rfl ?_
      refine r_aload_n hg 0 d_Model_compare_15 rfl rfl ?_
      refine r_iload_n hg 1 d_Model_compare_16 rfl rfl ?_
      refine r_iload_n hg 2 d_Model_compare_17 rfl rfl ?_
      refine r_callV (As := [.int v1, .int v2]) hg (t_Model_compared v1 v2 μ_8) v_Model_compared c_Model rfl (by decide) rfl wm_Model_256 d_Model_compare_18 rfl ⟨by decide, by decide⟩ (Nat.le_of_ble_eq_true rfl) rfl (fun r18 μ_18 _ => ?_)
      refine r_callV (As := [.int r18]) hg (t_Model_tells r18 μ_18) v_Model_tells c_Model rfl (by decide) rfl wm_Model_171 d_Model_compare_21 rfl ⟨by decide, by decide⟩ (Nat.le_of_ble_eq_true rfl) rfl (fun r21 μ_21 _ => ?_)
      refine r_goto (tgt := 32) hg d_Model_compare_24 (by decide) ?_
      refine r_sub [] rfl ?_
      exact t_Model_compare_J32 hg hA r21 μ_21
theorem t_Model_compare (v1 : Int32) (v2 : Int32) (μ : HMem) : HSpec y_Model_compare b_Model_compare 3 (some .int) 8 h_eI [.ref 125, .int v1, .int v2] μ (f_Model_compare v1 v2 μ) :=
  HSpec.of (by decide +kernel) (v_Model_compare.1 _ (by simp)) (Nat.le_of_ble_eq_true rfl) (fun cx hA hg => t_Model_compare_0 hg hA v1 v2 μ)
theorem t_Model_isApart_J61 {cx : HCx} (hg : HGood cx R_Model b_Model_isApart 5 3 (some .boolean)) (hA : h_own cx)  (rec_ : Int32 → Int32 → Int32 → Int32 → HMem → Option (Int32 × HMem)) (hrec_ : p_Model_isApart_19 cx rec_) (v1 : Int32) (v2 : Int32) (v4 : Int32) (s0 : Int32) (μ : HMem) : HX cx (HQ cx h_eI) (f_Model_isApart_J61  rec_ v1 v2 v4 s0 μ) 0 0 61 [(0, .ref 125), (1, .int v1), (2, .int v2), (4, .int v4)] [.int s0] μ := by
  unfold f_Model_isApart_J61
  refine r_istore_n (l' := [(3, .int s0), (0, .ref 125), (1, .int v1), (2, .int v2), (4, .int v4)]) hg d_Model_isApart_61 rfl (Nat.le_of_ble_eq_true rfl) rfl ?_
  refine r_letE (fun v4_62 he_62 => ?_)
  refine r_iinc (v := v4_62) (l' := [(4, .int v4_62), (3, .int s0), (0, .ref 125), (1, .int v1), (2, .int v2)]) hg 4 d_Model_isApart_62 rfl he_62 (Nat.le_of_ble_eq_true rfl) rfl ?_
  refine r_goto (tgt := 19) hg d_Model_isApart_65 (by decide) ?_
  refine r_sub [2, 3, 4, 1, 0] rfl ?_
  exact hrec_ v1 v2 s0 v4_62 μ
theorem t_Model_isApart_J56 {cx : HCx} (hg : HGood cx R_Model b_Model_isApart 5 3 (some .boolean)) (hA : h_own cx)  (rec_ : Int32 → Int32 → Int32 → Int32 → HMem → Option (Int32 × HMem)) (hrec_ : p_Model_isApart_19 cx rec_) (v1 : Int32) (v2 : Int32) (v4 : Int32) (μ : HMem) : HX cx (HQ cx h_eI) (f_Model_isApart_J56  rec_ v1 v2 v4 μ) 0 0 56 [(0, .ref 125), (1, .int v1), (2, .int v2), (4, .int v4)] [] μ := by
  unfold f_Model_isApart_J56
  refine r_iconst (v := 1) hg d_Model_isApart_56 (by decide) ?_
  refine r_goto (tgt := 61) hg d_Model_isApart_57 (by decide) ?_
  exact t_Model_isApart_J61 hg hA rec_ hrec_ v1 v2 v4 1 μ
theorem t_Model_isApart_L19_b {cx : HCx} (hg : HGood cx R_Model b_Model_isApart 5 3 (some .boolean)) (hA : h_own cx) (K68 : Int32 → HMem → Option (Int32 × HMem)) (hK68 : p_Model_isApart_68 cx K68) (rec_ : Int32 → Int32 → Int32 → Int32 → HMem → Option (Int32 × HMem)) (hrec_ : p_Model_isApart_19 cx rec_) (v1 : Int32) (v2 : Int32) (v3 : Int32) (v4 : Int32) (μ : HMem) : HX cx (HQ cx h_eI) (f_Model_isApart_L19_b K68 rec_ v1 v2 v3 v4 μ) 0 0 19 [(0, .ref 125), (1, .int v1), (2, .int v2), (3, .int v3), (4, .int v4)] [] μ := by
  unfold f_Model_isApart_L19_b
  refine r_iload hg 4 d_Model_isApart_19 rfl ?_
  refine r_iload_n hg 2 d_Model_isApart_21 rfl rfl ?_
  refine r_icmp_ge (tgt := 68) hg d_Model_isApart_22 (by decide) ?_ ?_
  · refine r_sub [3] rfl ?_
    exact hK68 v3 μ
  · refine r_iload_n hg 3 d_Model_isApart_25 rfl rfl ?_
    refine r_if_eq (tgt := 68) hg d_Model_isApart_26 (by decide) ?_ ?_
    · refine r_sub [3] rfl ?_
      exact hK68 v3 μ
    · refine r_aload_n hg 0 d_Model_isApart_29 rfl rfl ?_
      refine r_get (v := .ref 133) hg c_Model (by decide) rfl (Nat.le_of_ble_eq_true rfl) rfl wf_Model_31 d_Model_isApart_30 rfl ?_
      refine r_iload hg 4 d_Model_isApart_33 rfl ?_
      refine r_iald hg (by decide) rfl d_Model_isApart_35 ?_
      refine r_aload_n hg 0 d_Model_isApart_36 rfl rfl ?_
      refine r_get (v := .ref 133) hg c_Model (by decide) rfl (Nat.le_of_ble_eq_true rfl) rfl wf_Model_31 d_Model_isApart_37 rfl ?_
      refine r_iload_n hg 2 d_Model_isApart_40 rfl rfl ?_
      refine r_iald hg (by decide) rfl d_Model_isApart_41 ?_
      refine r_icmp_ne (tgt := 56) hg d_Model_isApart_42 (by decide) ?_ ?_
      · refine r_sub [0, 1, 2, 4] rfl ?_
        exact t_Model_isApart_J56 hg hA rec_ hrec_ v1 v2 v4 μ
      · refine r_aload_n hg 0 d_Model_isApart_45 rfl rfl ?_
        refine r_iload_n hg 1 d_Model_isApart_46 rfl rfl ?_
        refine r_iload_n hg 2 d_Model_isApart_47 rfl rfl ?_
        refine r_iload hg 4 d_Model_isApart_48 rfl ?_
        refine r_callV (As := [.int v1, .int v2, .int v4]) hg (t_Model_isNear v1 v2 v4 μ) v_Model_isNear c_Model rfl (by decide) rfl wm_Model_148 d_Model_isApart_50 rfl ⟨by decide, by decide⟩ (Nat.le_of_ble_eq_true rfl) rfl (fun r50 μ_50 _ => ?_)
        refine r_if_ne (tgt := 60) hg d_Model_isApart_53 (by decide) ?_ ?_
        · refine r_iconst (v := 0) hg d_Model_isApart_60 (by decide) ?_
          refine r_sub [0, 1, 2, 4] rfl ?_
          exact t_Model_isApart_J61 hg hA rec_ hrec_ v1 v2 v4 0 μ_50
        · refine r_sub [0, 1, 2, 4] rfl ?_
          exact t_Model_isApart_J56 hg hA rec_ hrec_ v1 v2 v4 μ_50
theorem t_Model_isApart_L19 {cx : HCx} (hg : HGood cx R_Model b_Model_isApart 5 3 (some .boolean)) (hA : h_own cx) (K68 : Int32 → HMem → Option (Int32 × HMem)) (hK68 : p_Model_isApart_68 cx K68) : ∀ (fuel : Nat) (v1 : Int32) (v2 : Int32) (v3 : Int32) (v4 : Int32) (μ : HMem), HX cx (HQ cx h_eI) (f_Model_isApart_L19 K68 fuel v1 v2 v3 v4 μ) 0 0 19 [(0, .ref 125), (1, .int v1), (2, .int v2), (3, .int v3), (4, .int v4)] [] μ
  | 0, _, _, _, _, _ => by unfold f_Model_isApart_L19; exact HX.none
  | fuel + 1, v1, v2, v3, v4, μ => by
    rw [f_Model_isApart_L19]
    exact t_Model_isApart_L19_b hg hA  K68 hK68 (f_Model_isApart_L19 K68 fuel) (t_Model_isApart_L19 hg hA  K68 hK68 fuel) v1 v2 v3 v4 μ
theorem t_Model_isApart_J68 {cx : HCx} (hg : HGood cx R_Model b_Model_isApart 5 3 (some .boolean)) (hA : h_own cx)   (v3 : Int32) (μ : HMem) : HX cx (HQ cx h_eI) (f_Model_isApart_J68   v3 μ) 0 0 68 [(3, .int v3)] [] μ := by
  unfold f_Model_isApart_J68
  refine r_iload_n hg 0 d_Model_isApart_68 rfl rfl ?_
  exact r_zretB hg hA rfl d_Model_isApart_69 rfl
theorem t_Model_isApart_J15 {cx : HCx} (hg : HGood cx R_Model b_Model_isApart 5 3 (some .boolean)) (hA : h_own cx)   (v1 : Int32) (v2 : Int32) (s0 : Int32) (μ : HMem) : HX cx (HQ cx h_eI) (f_Model_isApart_J15   v1 v2 s0 μ) 0 0 15 [(0, .ref 125), (1, .int v1), (2, .int v2)] [.int s0] μ := by
  unfold f_Model_isApart_J15
  refine r_istore_n (l' := [(3, .int s0), (0, .ref 125), (1, .int v1), (2, .int v2)]) hg d_Model_isApart_15 rfl (Nat.le_of_ble_eq_true rfl) rfl ?_
  refine r_iconst (v := 0) hg d_Model_isApart_16 (by decide) ?_
  refine r_istore (l' := [(4, .int 0), (3, .int s0), (0, .ref 125), (1, .int v1), (2, .int v2)]) hg d_Model_isApart_17 (Nat.le_of_ble_eq_true rfl) rfl ?_
  refine r_sub [2, 3, 4, 1, 0] rfl ?_
  exact t_Model_isApart_L19 hg hA f_Model_isApart_J68 (t_Model_isApart_J68 hg hA) h_fuel v1 v2 s0 0 μ
theorem t_Model_isApart_0 {cx : HCx} (hg : HGood cx R_Model b_Model_isApart 5 3 (some .boolean)) (hA : h_own cx) (v1 : Int32) (v2 : Int32) (μ : HMem) : HX cx (HQ cx h_eI) (f_Model_isApart v1 v2 μ) 0 0 0 [(0, .ref 125), (1, .int v1), (2, .int v2)] [] μ := by
  unfold f_Model_isApart
  refine r_aload_n hg 0 d_Model_isApart_0 rfl rfl ?_
  refine r_iload_n hg 1 d_Model_isApart_1 rfl rfl ?_
  refine r_iload_n hg 2 d_Model_isApart_2 rfl rfl ?_
  refine r_iload_n hg 2 d_Model_isApart_3 rfl rfl ?_
  refine r_callV (As := [.int v1, .int v2, .int v2]) hg (t_Model_isNear v1 v2 v2 μ) v_Model_isNear c_Model rfl (by decide) rfl wm_Model_148 d_Model_isApart_4 rfl ⟨by decide, by decide⟩ (Nat.le_of_ble_eq_true rfl) rfl (fun r4 μ_4 _ => ?_)
  refine r_if_ne (tgt := 14) hg d_Model_isApart_7 (by decide) ?_ ?_
  · refine r_iconst (v := 0) hg d_Model_isApart_14 (by decide) ?_
    exact t_Model_isApart_J15 hg hA v1 v2 0 μ_4
  · refine r_iconst (v := 1) hg d_Model_isApart_10 (by decide) ?_
    refine r_goto (tgt := 15) hg d_Model_isApart_11 (by decide) ?_
    exact t_Model_isApart_J15 hg hA v1 v2 1 μ_4
theorem t_Model_isApart (v1 : Int32) (v2 : Int32) (μ : HMem) : HSpec y_Model_isApart b_Model_isApart 5 (some .boolean) 3 h_eI [.ref 125, .int v1, .int v2] μ (f_Model_isApart v1 v2 μ) :=
  HSpec.of (by decide +kernel) (v_Model_isApart.1 _ (by simp)) (Nat.le_of_ble_eq_true rfl) (fun cx hA hg => t_Model_isApart_0 hg hA v1 v2 μ)
theorem t_Model_partitions_L8_b {cx : HCx} (hg : HGood cx R_Model b_Model_partitions 4 4 none) (hA : h_own cx) (K27 : Int32 → Int32 → HMem → Option (Unit × HMem)) (hK27 : p_Model_partitions_27 cx K27) (rec_ : Int32 → Int32 → Int32 → HMem → Option (Unit × HMem)) (hrec_ : p_Model_partitions_8 cx rec_) (v1 : Int32) (v2 : Int32) (v3 : Int32) (μ : HMem) : HX cx (HQ cx h_eV) (f_Model_partitions_L8_b K27 rec_ v1 v2 v3 μ) 0 0 8 [(0, .ref 125), (1, .int v1), (2, .int v2), (3, .int v3)] [] μ := by
  unfold f_Model_partitions_L8_b
  refine r_iload_n hg 3 d_Model_partitions_8 rfl rfl ?_
  refine r_bipush (v := 9) hg d_Model_partitions_9 (by decide) ?_
  refine r_icmp_ge (tgt := 27) hg d_Model_partitions_11 (by decide) ?_ ?_
  · refine r_sub [0, 1, 2] rfl ?_
    exact hK27 v1 v2 μ
  · refine r_aload_n hg 0 d_Model_partitions_14 rfl rfl ?_
    refine r_get (v := .ref 138) hg c_Model (by decide) rfl (Nat.le_of_ble_eq_true rfl) rfl wf_Model_47 d_Model_partitions_15 rfl ?_
    refine r_iload_n hg 3 d_Model_partitions_18 rfl rfl ?_
    refine r_lconst (v := 0) hg d_Model_partitions_19 (by decide) ?_
    refine r_last hg (by decide) rfl d_Model_partitions_20 ?_
    refine r_letM (fun μ_20 => ?_)
    refine r_letE (fun v3_21 he_21 => ?_)
    refine r_iinc (v := v3_21) (l' := [(3, .int v3_21), (0, .ref 125), (1, .int v1), (2, .int v2)]) hg 3 d_Model_partitions_21 rfl he_21 (Nat.le_of_ble_eq_true rfl) rfl ?_
    refine r_goto (tgt := 8) hg d_Model_partitions_24 (by decide) ?_
    refine r_sub [1, 2, 3, 0] rfl ?_
    exact hrec_ v1 v2 v3_21 μ_20
theorem t_Model_partitions_L8 {cx : HCx} (hg : HGood cx R_Model b_Model_partitions 4 4 none) (hA : h_own cx) (K27 : Int32 → Int32 → HMem → Option (Unit × HMem)) (hK27 : p_Model_partitions_27 cx K27) : ∀ (fuel : Nat) (v1 : Int32) (v2 : Int32) (v3 : Int32) (μ : HMem), HX cx (HQ cx h_eV) (f_Model_partitions_L8 K27 fuel v1 v2 v3 μ) 0 0 8 [(0, .ref 125), (1, .int v1), (2, .int v2), (3, .int v3)] [] μ
  | 0, _, _, _, _ => by unfold f_Model_partitions_L8; exact HX.none
  | fuel + 1, v1, v2, v3, μ => by
    rw [f_Model_partitions_L8]
    exact t_Model_partitions_L8_b hg hA  K27 hK27 (f_Model_partitions_L8 K27 fuel) (t_Model_partitions_L8 hg hA  K27 hK27 fuel) v1 v2 v3 μ
theorem t_Model_partitions_L83_b {cx : HCx} (hg : HGood cx R_Model b_Model_partitions 4 4 none) (hA : h_own cx) (K120 : Int32 → Int32 → Int32 → HMem → Option (Unit × HMem)) (hK120 : p_Model_partitions_120 cx K120) (rec_ : Int32 → Int32 → Int32 → HMem → Option (Unit × HMem)) (hrec_ : p_Model_partitions_83 cx rec_) (v1 : Int32) (v2 : Int32) (v3 : Int32) (μ : HMem) : HX cx (HQ cx h_eV) (f_Model_partitions_L83_b K120 rec_ v1 v2 v3 μ) 0 0 83 [(0, .ref 125), (1, .int v1), (2, .int v2), (3, .int v3)] [] μ := by
  unfold f_Model_partitions_L83_b
  refine r_aload_n hg 0 d_Model_partitions_83 rfl rfl ?_
  refine r_get (v := .ref 133) hg c_Model (by decide) rfl (Nat.le_of_ble_eq_true rfl) rfl wf_Model_31 d_Model_partitions_84 rfl ?_
  refine r_iload_n hg 3 d_Model_partitions_87 rfl rfl ?_
  refine r_iald hg (by decide) rfl d_Model_partitions_88 ?_
  refine r_aload_n hg 0 d_Model_partitions_89 rfl rfl ?_
  refine r_get (v := .ref 139) hg c_Model (by decide) rfl (Nat.le_of_ble_eq_true rfl) rfl wf_Model_51 d_Model_partitions_90 rfl ?_
  refine r_iload_n hg 3 d_Model_partitions_93 rfl rfl ?_
  refine r_iald hg (by decide) rfl d_Model_partitions_94 ?_
  refine r_icmp_gt (tgt := 120) hg d_Model_partitions_95 (by decide) ?_ ?_
  · exact hK120 v1 v2 v3 μ
  · refine r_aload_n hg 0 d_Model_partitions_98 rfl rfl ?_
    refine r_iload_n hg 1 d_Model_partitions_99 rfl rfl ?_
    refine r_iload_n hg 3 d_Model_partitions_100 rfl rfl ?_
    refine r_callV (As := [.int v1, .int v3]) hg (t_Model_isApart v1 v3 μ) v_Model_isApart c_Model rfl (by decide) rfl wm_Model_259 d_Model_partitions_101 rfl ⟨by decide, by decide⟩ (Nat.le_of_ble_eq_true rfl) rfl (fun r101 μ_101 _ => ?_)
    refine r_if_ne (tgt := 120) hg d_Model_partitions_104 (by decide) ?_ ?_
    · exact hK120 v1 v2 v3 μ_101
    · refine r_aload_n hg 0 d_Model_partitions_107 rfl rfl ?_
      refine r_get (v := .ref 133) hg c_Model (by decide) rfl (Nat.le_of_ble_eq_true rfl) rfl wf_Model_31 d_Model_partitions_108 rfl ?_
      refine r_iload_n hg 3 d_Model_partitions_111 rfl rfl ?_
      refine r_dup2 hg d_Model_partitions_112 rfl rfl ?_
      refine r_iald hg (by decide) rfl d_Model_partitions_113 ?_
      refine r_iconst (v := 1) hg d_Model_partitions_114 (by decide) ?_
      refine r_iadd hg d_Model_partitions_115 ?_
      refine r_iast hg (by decide) rfl d_Model_partitions_116 ?_
      refine r_letM (fun μ_116 => ?_)
      refine r_goto (tgt := 83) hg d_Model_partitions_117 (by decide) ?_
      exact hrec_ v1 v2 v3 μ_116
theorem t_Model_partitions_L83 {cx : HCx} (hg : HGood cx R_Model b_Model_partitions 4 4 none) (hA : h_own cx) (K120 : Int32 → Int32 → Int32 → HMem → Option (Unit × HMem)) (hK120 : p_Model_partitions_120 cx K120) : ∀ (fuel : Nat) (v1 : Int32) (v2 : Int32) (v3 : Int32) (μ : HMem), HX cx (HQ cx h_eV) (f_Model_partitions_L83 K120 fuel v1 v2 v3 μ) 0 0 83 [(0, .ref 125), (1, .int v1), (2, .int v2), (3, .int v3)] [] μ
  | 0, _, _, _, _ => by unfold f_Model_partitions_L83; exact HX.none
  | fuel + 1, v1, v2, v3, μ => by
    rw [f_Model_partitions_L83]
    exact t_Model_partitions_L83_b hg hA  K120 hK120 (f_Model_partitions_L83 K120 fuel) (t_Model_partitions_L83 hg hA  K120 hK120 fuel) v1 v2 v3 μ
theorem t_Model_partitions_J174 {cx : HCx} (hg : HGood cx R_Model b_Model_partitions 4 4 none) (hA : h_own cx)  (rec_ : Int32 → Int32 → Int32 → HMem → Option (Unit × HMem)) (hrec_ : p_Model_partitions_43 cx rec_) (v1 : Int32) (v2 : Int32) (v3 : Int32) (s0 : Int32) (s1 : Int32) (μ : HMem) : HX cx (HQ cx h_eV) (f_Model_partitions_J174  rec_ v1 v2 v3 s0 s1 μ) 0 0 174 [(0, .ref 125), (1, .int v1), (2, .int v2), (3, .int v3)] [.int s0, .int s1, .ref 139] μ := by
  unfold f_Model_partitions_J174
  refine r_iast hg (by decide) rfl d_Model_partitions_174 ?_
  refine r_letM (fun μ_174 => ?_)
  refine r_letE (fun v3_175 he_175 => ?_)
  refine r_iinc (v := v3_175) (l' := [(3, .int v3_175), (0, .ref 125), (1, .int v1), (2, .int v2)]) hg 3 d_Model_partitions_175 rfl he_175 (Nat.le_of_ble_eq_true rfl) rfl ?_
  refine r_aload_n hg 1 d_Model_partitions_178 rfl rfl ?_
  refine r_get (v := .ref 133) hg c_Model (by decide) rfl (Nat.le_of_ble_eq_true rfl) rfl wf_Model_31 d_Model_partitions_179 rfl ?_
  refine r_iload_n hg 0 d_Model_partitions_182 rfl rfl ?_
  refine r_iconst (v := -1) hg d_Model_partitions_183 (by decide) ?_
  refine r_iast hg (by decide) rfl d_Model_partitions_184 ?_
  refine r_letM (fun μ_184 => ?_)
  refine r_goto (tgt := 43) hg d_Model_partitions_185 (by decide) ?_
  refine r_sub [1, 2, 3, 0] rfl ?_
  exact hrec_ v1 v2 v3_175 μ_184
theorem t_Model_partitions_J120 {cx : HCx} (hg : HGood cx R_Model b_Model_partitions 4 4 none) (hA : h_own cx)  (rec_ : Int32 → Int32 → Int32 → HMem → Option (Unit × HMem)) (hrec_ : p_Model_partitions_43 cx rec_) (v1 : Int32) (v2 : Int32) (v3 : Int32) (μ : HMem) : HX cx (HQ cx h_eV) (f_Model_partitions_J120  rec_ v1 v2 v3 μ) 0 0 120 [(0, .ref 125), (1, .int v1), (2, .int v2), (3, .int v3)] [] μ := by
  unfold f_Model_partitions_J120
  refine r_aload_n hg 0 d_Model_partitions_120 rfl rfl ?_
  refine r_get (v := .ref 133) hg c_Model (by decide) rfl (Nat.le_of_ble_eq_true rfl) rfl wf_Model_31 d_Model_partitions_121 rfl ?_
  refine r_iload_n hg 3 d_Model_partitions_124 rfl rfl ?_
  refine r_iald hg (by decide) rfl d_Model_partitions_125 ?_
  refine r_aload_n hg 0 d_Model_partitions_126 rfl rfl ?_
  refine r_get (v := .ref 139) hg c_Model (by decide) rfl (Nat.le_of_ble_eq_true rfl) rfl wf_Model_51 d_Model_partitions_127 rfl ?_
  refine r_iload_n hg 3 d_Model_partitions_130 rfl rfl ?_
  refine r_iald hg (by decide) rfl d_Model_partitions_131 ?_
  refine r_icmp_gt (tgt := 188) hg d_Model_partitions_132 (by decide) ?_ ?_
  · refine r_letE (fun v3_188 he_188 => ?_)
    refine r_iinc (v := v3_188) (l' := [(3, .int v3_188), (0, .ref 125), (1, .int v1), (2, .int v2)]) hg 3 d_Model_partitions_188 rfl he_188 (Nat.le_of_ble_eq_true rfl) rfl ?_
    refine r_goto (tgt := 43) hg d_Model_partitions_191 (by decide) ?_
    refine r_sub [1, 2, 3, 0] rfl ?_
    exact hrec_ v1 v2 v3_188 μ
  · refine r_aload_n hg 0 d_Model_partitions_135 rfl rfl ?_
    refine r_get (v := .ref 139) hg c_Model (by decide) rfl (Nat.le_of_ble_eq_true rfl) rfl wf_Model_51 d_Model_partitions_136 rfl ?_
    refine r_iload_n hg 3 d_Model_partitions_139 rfl rfl ?_
    refine r_iconst (v := 1) hg d_Model_partitions_140 (by decide) ?_
    refine r_iadd hg d_Model_partitions_141 ?_
    refine r_aload_n hg 0 d_Model_partitions_142 rfl rfl ?_
    refine r_get (v := .ref 133) hg c_Model (by decide) rfl (Nat.le_of_ble_eq_true rfl) rfl wf_Model_31 d_Model_partitions_143 rfl ?_
    refine r_iload_n hg 3 d_Model_partitions_146 rfl rfl ?_
    refine r_iald hg (by decide) rfl d_Model_partitions_147 ?_
    refine r_aload_n hg 0 d_Model_partitions_148 rfl rfl ?_
    refine r_get (v := .ref 139) hg c_Model (by decide) rfl (Nat.le_of_ble_eq_true rfl) rfl wf_Model_51 d_Model_partitions_149 rfl ?_
    refine r_iload_n hg 3 d_Model_partitions_152 rfl rfl ?_
    refine r_iald hg (by decide) rfl d_Model_partitions_153 ?_
    refine r_icmp_ne (tgt := 168) hg d_Model_partitions_154 (by decide) ?_ ?_
    · refine r_aload_n hg 0 d_Model_partitions_168 rfl rfl ?_
      refine r_get (v := .ref 139) hg c_Model (by decide) rfl (Nat.le_of_ble_eq_true rfl) rfl wf_Model_51 d_Model_partitions_169 rfl ?_
      refine r_iload_n hg 3 d_Model_partitions_172 rfl rfl ?_
      refine r_iald hg (by decide) rfl d_Model_partitions_173 ?_
      exact t_Model_partitions_J174 hg hA rec_ hrec_ v1 v2 v3 (μ.1 139 (Int32.toNatClampNeg (v3))) (v3 + 1) μ
    · refine r_aload_n hg 0 d_Model_partitions_157 rfl rfl ?_
      refine r_get (v := .ref 139) hg c_Model (by decide) rfl (Nat.le_of_ble_eq_true rfl) rfl wf_Model_51 d_Model_partitions_158 rfl ?_
      refine r_iload_n hg 3 d_Model_partitions_161 rfl rfl ?_
      refine r_iald hg (by decide) rfl d_Model_partitions_162 ?_
      refine r_iconst (v := 1) hg d_Model_partitions_163 (by decide) ?_
      refine r_iadd hg d_Model_partitions_164 ?_
      refine r_goto (tgt := 174) hg d_Model_partitions_165 (by decide) ?_
      exact t_Model_partitions_J174 hg hA rec_ hrec_ v1 v2 v3 ((μ.1 139 (Int32.toNatClampNeg (v3))) + 1) (v3 + 1) μ
theorem t_Model_partitions_L43_b {cx : HCx} (hg : HGood cx R_Model b_Model_partitions 4 4 none) (hA : h_own cx)  (rec_ : Int32 → Int32 → Int32 → HMem → Option (Unit × HMem)) (hrec_ : p_Model_partitions_43 cx rec_) (v1 : Int32) (v2 : Int32) (v3 : Int32) (μ : HMem) : HX cx (HQ cx h_eV) (f_Model_partitions_L43_b  rec_ v1 v2 v3 μ) 0 0 43 [(0, .ref 125), (1, .int v1), (2, .int v2), (3, .int v3)] [] μ := by
  unfold f_Model_partitions_L43_b
  refine r_iload_n hg 3 d_Model_partitions_43 rfl rfl ?_
  refine r_if_lt (tgt := 194) hg d_Model_partitions_44 (by decide) ?_ ?_
  · exact r_vret hg hA rfl d_Model_partitions_194 rfl
  · refine r_iload_n hg 3 d_Model_partitions_47 rfl rfl ?_
    refine r_iload_n hg 2 d_Model_partitions_48 rfl rfl ?_
    refine r_icmp_ne (tgt := 73) hg d_Model_partitions_49 (by decide) ?_ ?_
    · refine r_aload_n hg 0 d_Model_partitions_73 rfl rfl ?_
      refine r_get (v := .ref 133) hg c_Model (by decide) rfl (Nat.le_of_ble_eq_true rfl) rfl wf_Model_31 d_Model_partitions_74 rfl ?_
      refine r_iload_n hg 3 d_Model_partitions_77 rfl rfl ?_
      refine r_dup2 hg d_Model_partitions_78 rfl rfl ?_
      refine r_iald hg (by decide) rfl d_Model_partitions_79 ?_
      refine r_iconst (v := 1) hg d_Model_partitions_80 (by decide) ?_
      refine r_iadd hg d_Model_partitions_81 ?_
      refine r_iast hg (by decide) rfl d_Model_partitions_82 ?_
      refine r_letM (fun μ_82 => ?_)
      exact t_Model_partitions_L83 hg hA (f_Model_partitions_J120 rec_) (t_Model_partitions_J120 hg hA rec_ hrec_) h_fuel v1 v2 v3 μ_82
    · refine r_aload_n hg 0 d_Model_partitions_52 rfl rfl ?_
      refine r_get (v := .ref 138) hg c_Model (by decide) rfl (Nat.le_of_ble_eq_true rfl) rfl wf_Model_47 d_Model_partitions_53 rfl ?_
      refine r_aload_n hg 0 d_Model_partitions_56 rfl rfl ?_
      refine r_get (v := .ref 139) hg c_Model (by decide) rfl (Nat.le_of_ble_eq_true rfl) rfl wf_Model_51 d_Model_partitions_57 rfl ?_
      refine r_iload_n hg 2 d_Model_partitions_60 rfl rfl ?_
      refine r_iald hg (by decide) rfl d_Model_partitions_61 ?_
      refine r_dup2 hg d_Model_partitions_62 rfl rfl ?_
      refine r_lald hg (by decide) rfl d_Model_partitions_63 ?_
      refine r_lconst (v := 1) hg d_Model_partitions_64 (by decide) ?_
      refine r_ladd hg d_Model_partitions_65 ?_
      refine r_last hg (by decide) rfl d_Model_partitions_66 ?_
      refine r_letM (fun μ_66 => ?_)
      refine r_letE (fun v3_67 he_67 => ?_)
      refine r_iinc (v := v3_67) (l' := [(3, .int v3_67), (0, .ref 125), (1, .int v1), (2, .int v2)]) hg 3 d_Model_partitions_67 rfl he_67 (Nat.le_of_ble_eq_true rfl) rfl ?_
      refine r_goto (tgt := 43) hg d_Model_partitions_70 (by decide) ?_
      refine r_sub [1, 2, 3, 0] rfl ?_
      exact hrec_ v1 v2 v3_67 μ_66
theorem t_Model_partitions_L43 {cx : HCx} (hg : HGood cx R_Model b_Model_partitions 4 4 none) (hA : h_own cx)  : ∀ (fuel : Nat) (v1 : Int32) (v2 : Int32) (v3 : Int32) (μ : HMem), HX cx (HQ cx h_eV) (f_Model_partitions_L43  fuel v1 v2 v3 μ) 0 0 43 [(0, .ref 125), (1, .int v1), (2, .int v2), (3, .int v3)] [] μ
  | 0, _, _, _, _ => by unfold f_Model_partitions_L43; exact HX.none
  | fuel + 1, v1, v2, v3, μ => by
    rw [f_Model_partitions_L43]
    exact t_Model_partitions_L43_b hg hA   (f_Model_partitions_L43  fuel) (t_Model_partitions_L43 hg hA   fuel) v1 v2 v3 μ
theorem t_Model_partitions_J27 {cx : HCx} (hg : HGood cx R_Model b_Model_partitions 4 4 none) (hA : h_own cx)   (v1 : Int32) (v2 : Int32) (μ : HMem) : HX cx (HQ cx h_eV) (f_Model_partitions_J27   v1 v2 μ) 0 0 27 [(0, .ref 125), (1, .int v1), (2, .int v2)] [] μ := by
  unfold f_Model_partitions_J27
  refine r_iconst (v := 0) hg d_Model_partitions_27 (by decide) ?_
  refine r_istore_n (l' := [(3, .int 0), (0, .ref 125), (1, .int v1), (2, .int v2)]) hg d_Model_partitions_28 rfl (Nat.le_of_ble_eq_true rfl) rfl ?_
  refine r_aload_n hg 1 d_Model_partitions_29 rfl rfl ?_
  refine r_get (v := .ref 133) hg c_Model (by decide) rfl (Nat.le_of_ble_eq_true rfl) rfl wf_Model_31 d_Model_partitions_30 rfl ?_
  refine r_iconst (v := 0) hg d_Model_partitions_33 (by decide) ?_
  refine r_iconst (v := -1) hg d_Model_partitions_34 (by decide) ?_
  refine r_iast hg (by decide) rfl d_Model_partitions_35 ?_
  refine r_letM (fun μ_35 => ?_)
  refine r_aload_n hg 1 d_Model_partitions_36 rfl rfl ?_
  refine r_get (v := .ref 139) hg c_Model (by decide) rfl (Nat.le_of_ble_eq_true rfl) rfl wf_Model_51 d_Model_partitions_37 rfl ?_
  refine r_iconst (v := 0) hg d_Model_partitions_40 (by decide) ?_
  refine r_iconst (v := 0) hg d_Model_partitions_41 (by decide) ?_
  refine r_iast hg (by decide) rfl d_Model_partitions_42 ?_
  refine r_letM (fun μ_42 => ?_)
  refine r_sub [1, 2, 3, 0] rfl ?_
  exact t_Model_partitions_L43 hg hA h_fuel v1 v2 0 μ_42
theorem t_Model_partitions_0 {cx : HCx} (hg : HGood cx R_Model b_Model_partitions 4 4 none) (hA : h_own cx) (v1 : Int32) (μ : HMem) : HX cx (HQ cx h_eV) (f_Model_partitions v1 μ) 0 0 0 [(0, .ref 125), (1, .int v1)] [] μ := by
  unfold f_Model_partitions
  refine r_aload_n hg 0 d_Model_partitions_0 rfl rfl ?_
  refine r_iload_n hg 1 d_Model_partitions_1 rfl rfl ?_
  refine r_callV (As := [.int v1]) hg (t_Model_size v1 μ) v_Model_size c_Model rfl (by decide) rfl wm_Model_75 d_Model_partitions_2 rfl ⟨by decide, by decide⟩ (Nat.le_of_ble_eq_true rfl) rfl (fun r2 μ_2 _ => ?_)
  refine r_istore_n (l' := [(2, .int r2), (0, .ref 125), (1, .int v1)]) hg d_Model_partitions_5 rfl (Nat.le_of_ble_eq_true rfl) rfl ?_
  refine r_iconst (v := 0) hg d_Model_partitions_6 (by decide) ?_
  refine r_istore_n (l' := [(3, .int 0), (2, .int r2), (0, .ref 125), (1, .int v1)]) hg d_Model_partitions_7 rfl (Nat.le_of_ble_eq_true rfl) rfl ?_
  refine r_sub [2, 3, 1, 0] rfl ?_
  exact t_Model_partitions_L8 hg hA f_Model_partitions_J27 (t_Model_partitions_J27 hg hA) h_fuel v1 r2 0 μ_2
theorem t_Model_partitions (v1 : Int32) (μ : HMem) : HSpec y_Model_partitions b_Model_partitions 4 none 4 h_eV [.ref 125, .int v1] μ (f_Model_partitions v1 μ) :=
  HSpec.of (by decide +kernel) (v_Model_partitions.1 _ (by simp)) (Nat.le_of_ble_eq_true rfl) (fun cx hA hg => t_Model_partitions_0 hg hA v1 μ)
theorem t_Model_colorings_J86 {cx : HCx} (hg : HGood cx R_Model b_Model_colorings 8 5 (some .long)) (hA : h_own cx)  (rec_ : Int32 → Int64 → Int64 → Int32 → HMem → Option (Int64 × HMem)) (hrec_ : p_Model_colorings_49 cx rec_) (v2 : Int32) (v3 : Int64) (v7 : Int32) (s0 : Int64) (s1 : Int64) (μ : HMem) : HX cx (HQ cx h_eJ) (f_Model_colorings_J86  rec_ v2 v3 v7 s0 s1 μ) 0 0 86 [(0, .ref 125), (2, .int v2), (3, .long v3), (7, .int v7)] [.long s0, .long s1] μ := by
  unfold f_Model_colorings_J86
  refine r_lmul hg d_Model_colorings_86 ?_
  refine r_letJ (fun v5_87 => ?_)
  refine r_lstore (l' := [(5, .long v5_87), (0, .ref 125), (2, .int v2), (3, .long v3), (7, .int v7)]) hg d_Model_colorings_87 (Nat.le_of_ble_eq_true rfl) rfl ?_
  refine r_letE (fun v7_89 he_89 => ?_)
  refine r_iinc (v := v7_89) (l' := [(7, .int v7_89), (5, .long v5_87), (0, .ref 125), (2, .int v2), (3, .long v3)]) hg 4 d_Model_colorings_89 rfl he_89 (Nat.le_of_ble_eq_true rfl) rfl ?_
  refine r_goto (tgt := 49) hg d_Model_colorings_92 (by decide) ?_
  refine r_sub [2, 3, 4, 1, 0] rfl ?_
  exact hrec_ v2 v3 v5_87 v7_89 μ
theorem t_Model_colorings_L49_b {cx : HCx} (hg : HGood cx R_Model b_Model_colorings 8 5 (some .long)) (hA : h_own cx)  (rec_ : Int32 → Int64 → Int64 → Int32 → HMem → Option (Int64 × HMem)) (hrec_ : p_Model_colorings_49 cx rec_) (v2 : Int32) (v3 : Int64) (v5 : Int64) (v7 : Int32) (μ : HMem) : HX cx (HQ cx h_eJ) (f_Model_colorings_L49_b  rec_ v2 v3 v5 v7 μ) 0 0 49 [(0, .ref 125), (2, .int v2), (3, .long v3), (5, .long v5), (7, .int v7)] [] μ := by
  unfold f_Model_colorings_L49_b
  refine r_iload hg 4 d_Model_colorings_49 rfl ?_
  refine r_bipush (v := 9) hg d_Model_colorings_51 (by decide) ?_
  refine r_icmp_ge (tgt := 95) hg d_Model_colorings_53 (by decide) ?_ ?_
  · refine r_lload_n hg 2 d_Model_colorings_95 rfl rfl ?_
    exact r_lret hg hA rfl d_Model_colorings_96 rfl
  · refine r_lload_n hg 2 d_Model_colorings_56 rfl rfl ?_
    refine r_aload_n hg 0 d_Model_colorings_57 rfl rfl ?_
    refine r_get (v := .ref 138) hg c_Model (by decide) rfl (Nat.le_of_ble_eq_true rfl) rfl wf_Model_47 d_Model_colorings_58 rfl ?_
    refine r_iload hg 4 d_Model_colorings_61 rfl ?_
    refine r_lald hg (by decide) rfl d_Model_colorings_63 ?_
    refine r_lload hg 3 d_Model_colorings_64 rfl ?_
    refine r_lmul hg d_Model_colorings_66 ?_
    refine r_ladd hg d_Model_colorings_67 ?_
    refine r_letJ (fun v3_68 => ?_)
    refine r_lstore_n (l' := [(3, .long v3_68), (0, .ref 125), (2, .int v2), (5, .long v5), (7, .int v7)]) hg d_Model_colorings_68 rfl (Nat.le_of_ble_eq_true rfl) rfl ?_
    refine r_lload hg 3 d_Model_colorings_69 rfl ?_
    refine r_iload_n hg 2 d_Model_colorings_71 rfl rfl ?_
    refine r_iload hg 4 d_Model_colorings_72 rfl ?_
    refine r_icmp_le (tgt := 85) hg d_Model_colorings_74 (by decide) ?_ ?_
    · refine r_lconst (v := 0) hg d_Model_colorings_85 (by decide) ?_
      refine r_sub [1, 2, 0, 4] rfl ?_
      exact t_Model_colorings_J86 hg hA rec_ hrec_ v2 v3_68 v7 0 v5 μ
    · refine r_iload_n hg 2 d_Model_colorings_77 rfl rfl ?_
      refine r_iload hg 4 d_Model_colorings_78 rfl ?_
      refine r_isub hg d_Model_colorings_80 ?_
      refine r_i2l hg d_Model_colorings_81 ?_
      refine r_goto (tgt := 86) hg d_Model_colorings_82 (by decide) ?_
      refine r_sub [1, 2, 0, 4] rfl ?_
      exact t_Model_colorings_J86 hg hA rec_ hrec_ v2 v3_68 v7 (Int32.toInt64 (v2 - v7)) v5 μ
theorem t_Model_colorings_L49 {cx : HCx} (hg : HGood cx R_Model b_Model_colorings 8 5 (some .long)) (hA : h_own cx)  : ∀ (fuel : Nat) (v2 : Int32) (v3 : Int64) (v5 : Int64) (v7 : Int32) (μ : HMem), HX cx (HQ cx h_eJ) (f_Model_colorings_L49  fuel v2 v3 v5 v7 μ) 0 0 49 [(0, .ref 125), (2, .int v2), (3, .long v3), (5, .long v5), (7, .int v7)] [] μ
  | 0, _, _, _, _, _ => by unfold f_Model_colorings_L49; exact HX.none
  | fuel + 1, v2, v3, v5, v7, μ => by
    rw [f_Model_colorings_L49]
    exact t_Model_colorings_L49_b hg hA   (f_Model_colorings_L49  fuel) (t_Model_colorings_L49 hg hA   fuel) v2 v3 v5 v7 μ
theorem t_Model_colorings_0 {cx : HCx} (hg : HGood cx R_Model b_Model_colorings 8 5 (some .long)) (hA : h_own cx) (v1 : Int32) (v2 : Int32) (μ : HMem) : HX cx (HQ cx h_eJ) (f_Model_colorings v1 v2 μ) 0 0 0 [(0, .ref 125), (1, .int v1), (2, .int v2)] [] μ := by
  unfold f_Model_colorings
  refine r_iload_n hg 1 d_Model_colorings_0 rfl rfl ?_
  refine r_callS (As := [.int v1]) hg (t_Model_isGraph v1 μ) v_Model_isGraph wm_Model_71 d_Model_colorings_1 rfl ⟨by decide, by decide⟩ (Nat.le_of_ble_eq_true rfl) rfl (fun r1 μ_1 _ => ?_)
  refine r_if_ne (tgt := 14) hg d_Model_colorings_4 (by decide) ?_ ?_
  · refine r_iload_n hg 2 d_Model_colorings_14 rfl rfl ?_
    refine r_iconst (v := 0) hg d_Model_colorings_15 (by decide) ?_
    refine r_bipush (v := 20) hg d_Model_colorings_16 (by decide) ?_
    refine r_callS (As := [.int v2, .int 0, .int 20]) hg (t_Model_in v2 0 20 μ_1) v_Model_in wm_Model_67 d_Model_colorings_18 rfl ⟨by decide, by decide⟩ (Nat.le_of_ble_eq_true rfl) rfl (fun r18 μ_18 _ => ?_)
    refine r_if_ne (tgt := 31) hg d_Model_colorings_21 (by decide) ?_ ?_
    · refine r_aload_n hg 0 d_Model_colorings_31 rfl rfl ?_
      refine r_iconst (v := 0) hg d_Model_colorings_32 (by decide) ?_
      refine r_put hg c_Model t_Model_ok n_Model (by decide) rfl (Nat.le_of_ble_eq_true rfl) rfl rfl (by decide +kernel) wf_Model_63 d_Model_colorings_33 ?_
      refine r_letM (fun μ_33 => ?_)
      refine r_aload_n hg 0 d_Model_colorings_36 rfl rfl ?_
      refine r_iload_n hg 1 d_Model_colorings_37 rfl rfl ?_
      refine r_callV (As := [.int v1]) hg (t_Model_partitions v1 μ_33) v_Model_partitions c_Model rfl (by decide) rfl wm_Model_262 d_Model_colorings_38 rfl ⟨by decide, by decide⟩ (Nat.le_of_ble_eq_true rfl) rfl (fun r38 μ_38 _ => ?_)
      refine r_lconst (v := 0) hg d_Model_colorings_41 (by decide) ?_
      refine r_lstore_n (l' := [(3, .long 0), (0, .ref 125), (1, .int v1), (2, .int v2)]) hg d_Model_colorings_42 rfl (Nat.le_of_ble_eq_true rfl) rfl ?_
      refine r_lconst (v := 1) hg d_Model_colorings_43 (by decide) ?_
      refine r_lstore (l' := [(5, .long 1), (3, .long 0), (0, .ref 125), (1, .int v1), (2, .int v2)]) hg d_Model_colorings_44 (Nat.le_of_ble_eq_true rfl) rfl ?_
      refine r_iconst (v := 0) hg d_Model_colorings_46 (by decide) ?_
      refine r_istore (l' := [(7, .int 0), (5, .long 1), (3, .long 0), (0, .ref 125), (1, .int v1), (2, .int v2)]) hg d_Model_colorings_47 (Nat.le_of_ble_eq_true rfl) rfl ?_
      refine r_sub [3, 5, 2, 1, 0] rfl ?_
      exact t_Model_colorings_L49 hg hA h_fuel v2 0 1 0 μ_38
    · refine r_aload_n hg 0 d_Model_colorings_24 rfl rfl ?_
      refine r_iconst (v := 2) hg d_Model_colorings_25 (by decide) ?_
      refine r_callV (As := [.int 2]) hg (t_Model_fails 2 μ_18) v_Model_fails c_Model rfl (by decide) rfl wm_Model_93 d_Model_colorings_26 rfl ⟨by decide, by decide⟩ (Nat.le_of_ble_eq_true rfl) rfl (fun r26 μ_26 _ => ?_)
      refine r_i2l hg d_Model_colorings_29 ?_
      exact r_lret hg hA rfl d_Model_colorings_30 rfl
  · refine r_aload_n hg 0 d_Model_colorings_7 rfl rfl ?_
    refine r_iconst (v := 1) hg d_Model_colorings_8 (by decide) ?_
    refine r_callV (As := [.int 1]) hg (t_Model_fails 1 μ_1) v_Model_fails c_Model rfl (by decide) rfl wm_Model_93 d_Model_colorings_9 rfl ⟨by decide, by decide⟩ (Nat.le_of_ble_eq_true rfl) rfl (fun r9 μ_9 _ => ?_)
    refine r_i2l hg d_Model_colorings_12 ?_
    exact r_lret hg hA rfl d_Model_colorings_13 rfl
theorem t_Model_colorings (v1 : Int32) (v2 : Int32) (μ : HMem) : HSpec y_Model_colorings b_Model_colorings 8 (some .long) 5 h_eJ [.ref 125, .int v1, .int v2] μ (f_Model_colorings v1 v2 μ) :=
  HSpec.of (by decide +kernel) (v_Model_colorings.1 _ (by simp)) (Nat.le_of_ble_eq_true rfl) (fun cx hA hg => t_Model_colorings_0 hg hA v1 v2 μ)
theorem t_Model_chromatic_J43 {cx : HCx} (hg : HGood cx R_Model b_Model_chromatic 4 5 (some .int)) (hA : h_own cx)  (rec_ : Int32 → Int32 → HMem → Option (Int32 × HMem)) (hrec_ : p_Model_chromatic_23 cx rec_) (v3 : Int32) (s0 : Int32) (μ : HMem) : HX cx (HQ cx h_eI) (f_Model_chromatic_J43  rec_ v3 s0 μ) 0 0 43 [(0, .ref 125), (3, .int v3)] [.int s0] μ := by
  unfold f_Model_chromatic_J43
  refine r_istore_n (l' := [(2, .int s0), (0, .ref 125), (3, .int v3)]) hg d_Model_chromatic_43 rfl (Nat.le_of_ble_eq_true rfl) rfl ?_
  refine r_letE (fun v3_44 he_44 => ?_)
  refine r_iinc (v := v3_44) (l' := [(3, .int v3_44), (2, .int s0), (0, .ref 125)]) hg 2 d_Model_chromatic_44 rfl he_44 (Nat.le_of_ble_eq_true rfl) rfl ?_
  refine r_goto (tgt := 23) hg d_Model_chromatic_47 (by decide) ?_
  refine r_sub [2, 1, 0] rfl ?_
  exact hrec_ s0 v3_44 μ
theorem t_Model_chromatic_L23_b {cx : HCx} (hg : HGood cx R_Model b_Model_chromatic 4 5 (some .int)) (hA : h_own cx) (K50 : Int32 → HMem → Option (Int32 × HMem)) (hK50 : p_Model_chromatic_50 cx K50) (rec_ : Int32 → Int32 → HMem → Option (Int32 × HMem)) (hrec_ : p_Model_chromatic_23 cx rec_) (v2 : Int32) (v3 : Int32) (μ : HMem) : HX cx (HQ cx h_eI) (f_Model_chromatic_L23_b K50 rec_ v2 v3 μ) 0 0 23 [(0, .ref 125), (2, .int v2), (3, .int v3)] [] μ := by
  unfold f_Model_chromatic_L23_b
  refine r_iload_n hg 2 d_Model_chromatic_23 rfl rfl ?_
  refine r_if_lt (tgt := 50) hg d_Model_chromatic_24 (by decide) ?_ ?_
  · refine r_sub [0, 1] rfl ?_
    exact hK50 v2 μ
  · refine r_aload_n hg 0 d_Model_chromatic_27 rfl rfl ?_
    refine r_get (v := .ref 138) hg c_Model (by decide) rfl (Nat.le_of_ble_eq_true rfl) rfl wf_Model_47 d_Model_chromatic_28 rfl ?_
    refine r_iload_n hg 2 d_Model_chromatic_31 rfl rfl ?_
    refine r_lald hg (by decide) rfl d_Model_chromatic_32 ?_
    refine r_lconst (v := 0) hg d_Model_chromatic_33 (by decide) ?_
    refine r_lcmp hg d_Model_chromatic_34 ?_
    refine r_if_le (tgt := 42) hg d_Model_chromatic_35 (by decide) ?_ ?_
    · refine r_iload_n hg 1 d_Model_chromatic_42 rfl rfl ?_
      refine r_sub [0, 2] rfl ?_
      exact t_Model_chromatic_J43 hg hA rec_ hrec_ v3 v2 μ
    · refine r_iload_n hg 2 d_Model_chromatic_38 rfl rfl ?_
      refine r_goto (tgt := 43) hg d_Model_chromatic_39 (by decide) ?_
      refine r_sub [0, 2] rfl ?_
      exact t_Model_chromatic_J43 hg hA rec_ hrec_ v3 v3 μ
theorem t_Model_chromatic_L23 {cx : HCx} (hg : HGood cx R_Model b_Model_chromatic 4 5 (some .int)) (hA : h_own cx) (K50 : Int32 → HMem → Option (Int32 × HMem)) (hK50 : p_Model_chromatic_50 cx K50) : ∀ (fuel : Nat) (v2 : Int32) (v3 : Int32) (μ : HMem), HX cx (HQ cx h_eI) (f_Model_chromatic_L23 K50 fuel v2 v3 μ) 0 0 23 [(0, .ref 125), (2, .int v2), (3, .int v3)] [] μ
  | 0, _, _, _ => by unfold f_Model_chromatic_L23; exact HX.none
  | fuel + 1, v2, v3, μ => by
    rw [f_Model_chromatic_L23]
    exact t_Model_chromatic_L23_b hg hA  K50 hK50 (f_Model_chromatic_L23 K50 fuel) (t_Model_chromatic_L23 hg hA  K50 hK50 fuel) v2 v3 μ
theorem t_Model_chromatic_J50 {cx : HCx} (hg : HGood cx R_Model b_Model_chromatic 4 5 (some .int)) (hA : h_own cx)   (v2 : Int32) (μ : HMem) : HX cx (HQ cx h_eI) (f_Model_chromatic_J50   v2 μ) 0 0 50 [(0, .ref 125), (2, .int v2)] [] μ := by
  unfold f_Model_chromatic_J50
  refine r_aload_n hg 0 d_Model_chromatic_50 rfl rfl ?_
  refine r_iload_n hg 1 d_Model_chromatic_51 rfl rfl ?_
  refine r_callV (As := [.int v2]) hg (t_Model_tells v2 μ) v_Model_tells c_Model rfl (by decide) rfl wm_Model_171 d_Model_chromatic_52 rfl ⟨by decide, by decide⟩ (Nat.le_of_ble_eq_true rfl) rfl (fun r52 μ_52 _ => ?_)
  exact r_iret hg hA rfl d_Model_chromatic_55 rfl
theorem t_Model_chromatic_0 {cx : HCx} (hg : HGood cx R_Model b_Model_chromatic 4 5 (some .int)) (hA : h_own cx) (v1 : Int32) (μ : HMem) : HX cx (HQ cx h_eI) (f_Model_chromatic v1 μ) 0 0 0 [(0, .ref 125), (1, .int v1)] [] μ := by
  unfold f_Model_chromatic
  refine r_iload_n hg 1 d_Model_chromatic_0 rfl rfl ?_
  refine r_callS (As := [.int v1]) hg (t_Model_isGraph v1 μ) v_Model_isGraph wm_Model_71 d_Model_chromatic_1 rfl ⟨by decide, by decide⟩ (Nat.le_of_ble_eq_true rfl) rfl (fun r1 μ_1 _ => ?_)
  refine r_if_ne (tgt := 13) hg d_Model_chromatic_4 (by decide) ?_ ?_
  · refine r_aload_n hg 0 d_Model_chromatic_13 rfl rfl ?_
    refine r_iload_n hg 1 d_Model_chromatic_14 rfl rfl ?_
    refine r_callV (As := [.int v1]) hg (t_Model_partitions v1 μ_1) v_Model_partitions c_Model rfl (by decide) rfl wm_Model_262 d_Model_chromatic_15 rfl ⟨by decide, by decide⟩ (Nat.le_of_ble_eq_true rfl) rfl (fun r15 μ_15 _ => ?_)
    refine r_iconst (v := -1) hg d_Model_chromatic_18 (by decide) ?_
    refine r_istore_n (l' := [(2, .int (-1)), (0, .ref 125), (1, .int v1)]) hg d_Model_chromatic_19 rfl (Nat.le_of_ble_eq_true rfl) rfl ?_
    refine r_bipush (v := 8) hg d_Model_chromatic_20 (by decide) ?_
    refine r_istore_n (l' := [(3, .int 8), (2, .int (-1)), (0, .ref 125), (1, .int v1)]) hg d_Model_chromatic_22 rfl (Nat.le_of_ble_eq_true rfl) rfl ?_
    refine r_sub [2, 1, 0] rfl ?_
    exact t_Model_chromatic_L23 hg hA f_Model_chromatic_J50 (t_Model_chromatic_J50 hg hA) h_fuel (-1) 8 μ_15
  · refine r_aload_n hg 0 d_Model_chromatic_7 rfl rfl ?_
    refine r_iconst (v := 1) hg d_Model_chromatic_8 (by decide) ?_
    refine r_callV (As := [.int 1]) hg (t_Model_fails 1 μ_1) v_Model_fails c_Model rfl (by decide) rfl wm_Model_93 d_Model_chromatic_9 rfl ⟨by decide, by decide⟩ (Nat.le_of_ble_eq_true rfl) rfl (fun r9 μ_9 _ => ?_)
    exact r_iret hg hA rfl d_Model_chromatic_12 rfl
theorem t_Model_chromatic (v1 : Int32) (μ : HMem) : HSpec y_Model_chromatic b_Model_chromatic 4 (some .int) 5 h_eI [.ref 125, .int v1] μ (f_Model_chromatic v1 μ) :=
  HSpec.of (by decide +kernel) (v_Model_chromatic.1 _ (by simp)) (Nat.le_of_ble_eq_true rfl) (fun cx hA hg => t_Model_chromatic_0 hg hA v1 μ)
theorem t_Model_isIndependent_J45 {cx : HCx} (hg : HGood cx R_Model b_Model_isIndependent 5 4 (some .boolean)) (hA : h_own cx)  (rec_ : Int32 → Int32 → Int32 → Int32 → HMem → Option (Int32 × HMem)) (hrec_ : p_Model_isIndependent_5 cx rec_) (v1 : Int32) (v2 : Int32) (v4 : Int32) (s0 : Int32) (μ : HMem) : HX cx (HQ cx h_eI) (f_Model_isIndependent_J45  rec_ v1 v2 v4 s0 μ) 0 0 45 [(0, .ref 125), (1, .int v1), (2, .int v2), (4, .int v4)] [.int s0] μ := by
  unfold f_Model_isIndependent_J45
  refine r_istore_n (l' := [(3, .int s0), (0, .ref 125), (1, .int v1), (2, .int v2), (4, .int v4)]) hg d_Model_isIndependent_45 rfl (Nat.le_of_ble_eq_true rfl) rfl ?_
  refine r_letE (fun v4_46 he_46 => ?_)
  refine r_iinc (v := v4_46) (l' := [(4, .int v4_46), (3, .int s0), (0, .ref 125), (1, .int v1), (2, .int v2)]) hg 4 d_Model_isIndependent_46 rfl he_46 (Nat.le_of_ble_eq_true rfl) rfl ?_
  refine r_goto (tgt := 5) hg d_Model_isIndependent_49 (by decide) ?_
  refine r_sub [2, 3, 4, 1, 0] rfl ?_
  exact hrec_ v1 v2 s0 v4_46 μ
theorem t_Model_isIndependent_J44 {cx : HCx} (hg : HGood cx R_Model b_Model_isIndependent 5 4 (some .boolean)) (hA : h_own cx)  (rec_ : Int32 → Int32 → Int32 → Int32 → HMem → Option (Int32 × HMem)) (hrec_ : p_Model_isIndependent_5 cx rec_) (v1 : Int32) (v2 : Int32) (v4 : Int32) (μ : HMem) : HX cx (HQ cx h_eI) (f_Model_isIndependent_J44  rec_ v1 v2 v4 μ) 0 0 44 [(0, .ref 125), (1, .int v1), (2, .int v2), (4, .int v4)] [] μ := by
  unfold f_Model_isIndependent_J44
  refine r_iconst (v := 0) hg d_Model_isIndependent_44 (by decide) ?_
  exact t_Model_isIndependent_J45 hg hA rec_ hrec_ v1 v2 v4 0 μ
theorem t_Model_isIndependent_J40 {cx : HCx} (hg : HGood cx R_Model b_Model_isIndependent 5 4 (some .boolean)) (hA : h_own cx)  (rec_ : Int32 → Int32 → Int32 → Int32 → HMem → Option (Int32 × HMem)) (hrec_ : p_Model_isIndependent_5 cx rec_) (v1 : Int32) (v2 : Int32) (v4 : Int32) (μ : HMem) : HX cx (HQ cx h_eI) (f_Model_isIndependent_J40  rec_ v1 v2 v4 μ) 0 0 40 [(0, .ref 125), (1, .int v1), (2, .int v2), (4, .int v4)] [] μ := by
  unfold f_Model_isIndependent_J40
  refine r_iconst (v := 1) hg d_Model_isIndependent_40 (by decide) ?_
  refine r_goto (tgt := 45) hg d_Model_isIndependent_41 (by decide) ?_
  exact t_Model_isIndependent_J45 hg hA rec_ hrec_ v1 v2 v4 1 μ
theorem t_Model_isIndependent_L5_b {cx : HCx} (hg : HGood cx R_Model b_Model_isIndependent 5 4 (some .boolean)) (hA : h_own cx)  (rec_ : Int32 → Int32 → Int32 → Int32 → HMem → Option (Int32 × HMem)) (hrec_ : p_Model_isIndependent_5 cx rec_) (v1 : Int32) (v2 : Int32) (v3 : Int32) (v4 : Int32) (μ : HMem) : HX cx (HQ cx h_eI) (f_Model_isIndependent_L5_b  rec_ v1 v2 v3 v4 μ) 0 0 5 [(0, .ref 125), (1, .int v1), (2, .int v2), (3, .int v3), (4, .int v4)] [] μ := by
  unfold f_Model_isIndependent_L5_b
  refine r_iload hg 4 d_Model_isIndependent_5 rfl ?_
  refine r_aload_n hg 0 d_Model_isIndependent_7 rfl rfl ?_
  refine r_iload_n hg 1 d_Model_isIndependent_8 rfl rfl ?_
  refine r_callV (As := [.int v1]) hg (t_Model_size v1 μ) v_Model_size c_Model rfl (by decide) rfl wm_Model_75 d_Model_isIndependent_9 rfl ⟨by decide, by decide⟩ (Nat.le_of_ble_eq_true rfl) rfl (fun r9 μ_9 _ => ?_)
  refine r_icmp_ge (tgt := 52) hg d_Model_isIndependent_12 (by decide) ?_ ?_
  · refine r_iload_n hg 3 d_Model_isIndependent_52 rfl rfl ?_
    exact r_zretB hg hA rfl d_Model_isIndependent_53 rfl
  · refine r_iload_n hg 3 d_Model_isIndependent_15 rfl rfl ?_
    refine r_if_eq (tgt := 44) hg d_Model_isIndependent_16 (by decide) ?_ ?_
    · refine r_sub [0, 1, 2, 4] rfl ?_
      exact t_Model_isIndependent_J44 hg hA rec_ hrec_ v1 v2 v4 μ_9
    · refine r_iload_n hg 2 d_Model_isIndependent_19 rfl rfl ?_
      refine r_iload hg 4 d_Model_isIndependent_20 rfl ?_
      refine r_ishr hg d_Model_isIndependent_22 ?_
      refine r_iconst (v := 1) hg d_Model_isIndependent_23 (by decide) ?_
      refine r_iand hg d_Model_isIndependent_24 ?_
      refine r_if_eq (tgt := 40) hg d_Model_isIndependent_25 (by decide) ?_ ?_
      · refine r_sub [0, 1, 2, 4] rfl ?_
        exact t_Model_isIndependent_J40 hg hA rec_ hrec_ v1 v2 v4 μ_9
      · refine r_aload_n hg 0 d_Model_isIndependent_28 rfl rfl ?_
        refine r_iload_n hg 1 d_Model_isIndependent_29 rfl rfl ?_
        refine r_iload hg 4 d_Model_isIndependent_30 rfl ?_
        refine r_callV (As := [.int v1, .int v4]) hg (t_Model_near v1 v4 μ_9) v_Model_near c_Model rfl (by decide) rfl wm_Model_161 d_Model_isIndependent_32 rfl ⟨by decide, by decide⟩ (Nat.le_of_ble_eq_true rfl) rfl (fun r32 μ_32 _ => ?_)
        refine r_iload_n hg 2 d_Model_isIndependent_35 rfl rfl ?_
        refine r_iand hg d_Model_isIndependent_36 ?_
        refine r_if_ne (tgt := 44) hg d_Model_isIndependent_37 (by decide) ?_ ?_
        · refine r_sub [0, 1, 2, 4] rfl ?_
          exact t_Model_isIndependent_J44 hg hA rec_ hrec_ v1 v2 v4 μ_32
        · refine r_sub [0, 1, 2, 4] rfl ?_
          exact t_Model_isIndependent_J40 hg hA rec_ hrec_ v1 v2 v4 μ_32
theorem t_Model_isIndependent_L5 {cx : HCx} (hg : HGood cx R_Model b_Model_isIndependent 5 4 (some .boolean)) (hA : h_own cx)  : ∀ (fuel : Nat) (v1 : Int32) (v2 : Int32) (v3 : Int32) (v4 : Int32) (μ : HMem), HX cx (HQ cx h_eI) (f_Model_isIndependent_L5  fuel v1 v2 v3 v4 μ) 0 0 5 [(0, .ref 125), (1, .int v1), (2, .int v2), (3, .int v3), (4, .int v4)] [] μ
  | 0, _, _, _, _, _ => by unfold f_Model_isIndependent_L5; exact HX.none
  | fuel + 1, v1, v2, v3, v4, μ => by
    rw [f_Model_isIndependent_L5]
    exact t_Model_isIndependent_L5_b hg hA   (f_Model_isIndependent_L5  fuel) (t_Model_isIndependent_L5 hg hA   fuel) v1 v2 v3 v4 μ
theorem t_Model_isIndependent_0 {cx : HCx} (hg : HGood cx R_Model b_Model_isIndependent 5 4 (some .boolean)) (hA : h_own cx) (v1 : Int32) (v2 : Int32) (μ : HMem) : HX cx (HQ cx h_eI) (f_Model_isIndependent v1 v2 μ) 0 0 0 [(0, .ref 125), (1, .int v1), (2, .int v2)] [] μ := by
  unfold f_Model_isIndependent
  refine r_iconst (v := 1) hg d_Model_isIndependent_0 (by decide) ?_
  refine r_istore_n (l' := [(3, .int 1), (0, .ref 125), (1, .int v1), (2, .int v2)]) hg d_Model_isIndependent_1 rfl (Nat.le_of_ble_eq_true rfl) rfl ?_
  refine r_iconst (v := 0) hg d_Model_isIndependent_2 (by decide) ?_
  refine r_istore (l' := [(4, .int 0), (3, .int 1), (0, .ref 125), (1, .int v1), (2, .int v2)]) hg d_Model_isIndependent_3 (Nat.le_of_ble_eq_true rfl) rfl ?_
  refine r_sub [2, 3, 4, 1, 0] rfl ?_
  exact t_Model_isIndependent_L5 hg hA h_fuel v1 v2 1 0 μ
theorem t_Model_isIndependent (v1 : Int32) (v2 : Int32) (μ : HMem) : HSpec y_Model_isIndependent b_Model_isIndependent 5 (some .boolean) 4 h_eI [.ref 125, .int v1, .int v2] μ (f_Model_isIndependent v1 v2 μ) :=
  HSpec.of (by decide +kernel) (v_Model_isIndependent.1 _ (by simp)) (Nat.le_of_ble_eq_true rfl) (fun cx hA hg => t_Model_isIndependent_0 hg hA v1 v2 μ)
theorem t_Model_independent_J76 {cx : HCx} (hg : HGood cx R_Model b_Model_independent 5 5 (some .int)) (hA : h_own cx)  (rec_ : Int32 → Int32 → Int32 → Int32 → HMem → Option (Int32 × HMem)) (hrec_ : p_Model_independent_34 cx rec_) (v1 : Int32) (v2 : Int32) (v4 : Int32) (s0 : Int32) (s1 : Int32) (μ : HMem) : HX cx (HQ cx h_eI) (f_Model_independent_J76  rec_ v1 v2 v4 s0 s1 μ) 0 0 76 [(0, .ref 125), (1, .int v1), (2, .int v2), (4, .int v4)] [.int s0, .int s1] μ := by
  unfold f_Model_independent_J76
  refine r_iadd hg d_Model_independent_76 ?_
  refine r_letI (fun v3_77 => ?_)
  refine r_istore_n (l' := [(3, .int v3_77), (0, .ref 125), (1, .int v1), (2, .int v2), (4, .int v4)]) hg d_Model_independent_77 rfl (Nat.le_of_ble_eq_true rfl) rfl ?_
  refine r_letE (fun v4_78 he_78 => ?_)
  refine r_iinc (v := v4_78) (l' := [(4, .int v4_78), (3, .int v3_77), (0, .ref 125), (1, .int v1), (2, .int v2)]) hg 4 d_Model_independent_78 rfl he_78 (Nat.le_of_ble_eq_true rfl) rfl ?_
  refine r_goto (tgt := 34) hg d_Model_independent_81 (by decide) ?_
  refine r_sub [2, 3, 4, 1, 0] rfl ?_
  exact hrec_ v1 v2 v3_77 v4_78 μ
theorem t_Model_independent_J75 {cx : HCx} (hg : HGood cx R_Model b_Model_independent 5 5 (some .int)) (hA : h_own cx)  (rec_ : Int32 → Int32 → Int32 → Int32 → HMem → Option (Int32 × HMem)) (hrec_ : p_Model_independent_34 cx rec_) (v1 : Int32) (v2 : Int32) (v4 : Int32) (s0 : Int32) (μ : HMem) : HX cx (HQ cx h_eI) (f_Model_independent_J75  rec_ v1 v2 v4 s0 μ) 0 0 75 [(0, .ref 125), (1, .int v1), (2, .int v2), (4, .int v4)] [.int s0] μ := by
  unfold f_Model_independent_J75
  refine r_iconst (v := 0) hg d_Model_independent_75 (by decide) ?_
  exact t_Model_independent_J76 hg hA rec_ hrec_ v1 v2 v4 0 s0 μ
theorem t_Model_independent_J61 {cx : HCx} (hg : HGood cx R_Model b_Model_independent 5 5 (some .int)) (hA : h_own cx)  (rec_ : Int32 → Int32 → Int32 → Int32 → HMem → Option (Int32 × HMem)) (hrec_ : p_Model_independent_34 cx rec_) (v1 : Int32) (v2 : Int32) (v4 : Int32) (s0 : Int32) (μ : HMem) : HX cx (HQ cx h_eI) (f_Model_independent_J61  rec_ v1 v2 v4 s0 μ) 0 0 61 [(0, .ref 125), (1, .int v1), (2, .int v2), (4, .int v4)] [.int s0] μ := by
  unfold f_Model_independent_J61
  refine r_aload_n hg 0 d_Model_independent_61 rfl rfl ?_
  refine r_iload_n hg 1 d_Model_independent_62 rfl rfl ?_
  refine r_iload hg 3 d_Model_independent_63 rfl ?_
  refine r_callV (As := [.int v1, .int v4]) hg (t_Model_isIndependent v1 v4 μ) v_Model_isIndependent c_Model rfl (by decide) rfl wm_Model_265 d_Model_independent_65 rfl ⟨by decide, by decide⟩ (Nat.le_of_ble_eq_true rfl) rfl (fun r65 μ_65 _ => ?_)
  refine r_if_eq (tgt := 75) hg d_Model_independent_68 (by decide) ?_ ?_
  · exact t_Model_independent_J75 hg hA rec_ hrec_ v1 v2 v4 s0 μ_65
  · refine r_iconst (v := 1) hg d_Model_independent_71 (by decide) ?_
    refine r_goto (tgt := 76) hg d_Model_independent_72 (by decide) ?_
    exact t_Model_independent_J76 hg hA rec_ hrec_ v1 v2 v4 1 s0 μ_65
theorem t_Model_independent_L34_b {cx : HCx} (hg : HGood cx R_Model b_Model_independent 5 5 (some .int)) (hA : h_own cx) (K84 : Int32 → HMem → Option (Int32 × HMem)) (hK84 : p_Model_independent_84 cx K84) (rec_ : Int32 → Int32 → Int32 → Int32 → HMem → Option (Int32 × HMem)) (hrec_ : p_Model_independent_34 cx rec_) (v1 : Int32) (v2 : Int32) (v3 : Int32) (v4 : Int32) (μ : HMem) : HX cx (HQ cx h_eI) (f_Model_independent_L34_b K84 rec_ v1 v2 v3 v4 μ) 0 0 34 [(0, .ref 125), (1, .int v1), (2, .int v2), (3, .int v3), (4, .int v4)] [] μ := by
  unfold f_Model_independent_L34_b
  refine r_iload hg 4 d_Model_independent_34 rfl ?_
  refine r_iconst (v := 1) hg d_Model_independent_36 (by decide) ?_
  refine r_aload_n hg 0 d_Model_independent_37 rfl rfl ?_
  refine r_iload_n hg 1 d_Model_independent_38 rfl rfl ?_
  refine r_callV (As := [.int v1]) hg (t_Model_size v1 μ) v_Model_size c_Model rfl (by decide) rfl wm_Model_75 d_Model_independent_39 rfl ⟨by decide, by decide⟩ (Nat.le_of_ble_eq_true rfl) rfl (fun r39 μ_39 _ => ?_)
  refine r_ishl hg d_Model_independent_42 ?_
  refine r_icmp_ge (tgt := 84) hg d_Model_independent_43 (by decide) ?_ ?_
  · refine r_sub [0, 3] rfl ?_
    exact hK84 v3 μ_39
  · refine r_iload_n hg 3 d_Model_independent_46 rfl rfl ?_
    refine r_iload_n hg 2 d_Model_independent_47 rfl rfl ?_
    refine r_iconst (v := -1) hg d_Model_independent_48 (by decide) ?_
    refine r_icmp_eq (tgt := 61) hg d_Model_independent_49 (by decide) ?_ ?_
    · refine r_sub [0, 1, 2, 4] rfl ?_
      exact t_Model_independent_J61 hg hA rec_ hrec_ v1 v2 v4 v3 μ_39
    · refine r_iload hg 4 d_Model_independent_52 rfl ?_
      refine r_callS (As := [.int v4]) hg (t_Model_bits v4 μ_39) v_Model_bits wm_Model_174 d_Model_independent_54 rfl ⟨by decide, by decide⟩ (Nat.le_of_ble_eq_true rfl) rfl (fun r54 μ_54 _ => ?_)
      refine r_iload_n hg 2 d_Model_independent_57 rfl rfl ?_
      refine r_icmp_ne (tgt := 75) hg d_Model_independent_58 (by decide) ?_ ?_
      · refine r_sub [0, 1, 2, 4] rfl ?_
        exact t_Model_independent_J75 hg hA rec_ hrec_ v1 v2 v4 v3 μ_54
      · refine r_sub [0, 1, 2, 4] rfl ?_
        exact t_Model_independent_J61 hg hA rec_ hrec_ v1 v2 v4 v3 μ_54
theorem t_Model_independent_L34 {cx : HCx} (hg : HGood cx R_Model b_Model_independent 5 5 (some .int)) (hA : h_own cx) (K84 : Int32 → HMem → Option (Int32 × HMem)) (hK84 : p_Model_independent_84 cx K84) : ∀ (fuel : Nat) (v1 : Int32) (v2 : Int32) (v3 : Int32) (v4 : Int32) (μ : HMem), HX cx (HQ cx h_eI) (f_Model_independent_L34 K84 fuel v1 v2 v3 v4 μ) 0 0 34 [(0, .ref 125), (1, .int v1), (2, .int v2), (3, .int v3), (4, .int v4)] [] μ
  | 0, _, _, _, _, _ => by unfold f_Model_independent_L34; exact HX.none
  | fuel + 1, v1, v2, v3, v4, μ => by
    rw [f_Model_independent_L34]
    exact t_Model_independent_L34_b hg hA  K84 hK84 (f_Model_independent_L34 K84 fuel) (t_Model_independent_L34 hg hA  K84 hK84 fuel) v1 v2 v3 v4 μ
theorem t_Model_independent_J84 {cx : HCx} (hg : HGood cx R_Model b_Model_independent 5 5 (some .int)) (hA : h_own cx)   (v3 : Int32) (μ : HMem) : HX cx (HQ cx h_eI) (f_Model_independent_J84   v3 μ) 0 0 84 [(0, .ref 125), (3, .int v3)] [] μ := by
  unfold f_Model_independent_J84
  refine r_aload_n hg 0 d_Model_independent_84 rfl rfl ?_
  refine r_iload_n hg 1 d_Model_independent_85 rfl rfl ?_
  refine r_callV (As := [.int v3]) hg (t_Model_tells v3 μ) v_Model_tells c_Model rfl (by decide) rfl wm_Model_171 d_Model_independent_86 rfl ⟨by decide, by decide⟩ (Nat.le_of_ble_eq_true rfl) rfl (fun r86 μ_86 _ => ?_)
  exact r_iret hg hA rfl d_Model_independent_89 rfl
theorem t_Model_independent_0 {cx : HCx} (hg : HGood cx R_Model b_Model_independent 5 5 (some .int)) (hA : h_own cx) (v1 : Int32) (v2 : Int32) (μ : HMem) : HX cx (HQ cx h_eI) (f_Model_independent v1 v2 μ) 0 0 0 [(0, .ref 125), (1, .int v1), (2, .int v2)] [] μ := by
  unfold f_Model_independent
  refine r_iload_n hg 1 d_Model_independent_0 rfl rfl ?_
  refine r_callS (As := [.int v1]) hg (t_Model_isGraph v1 μ) v_Model_isGraph wm_Model_71 d_Model_independent_1 rfl ⟨by decide, by decide⟩ (Nat.le_of_ble_eq_true rfl) rfl (fun r1 μ_1 _ => ?_)
  refine r_if_ne (tgt := 13) hg d_Model_independent_4 (by decide) ?_ ?_
  · refine r_iload_n hg 2 d_Model_independent_13 rfl rfl ?_
    refine r_iconst (v := -1) hg d_Model_independent_14 (by decide) ?_
    refine r_bipush (v := 8) hg d_Model_independent_15 (by decide) ?_
    refine r_callS (As := [.int v2, .int (-1), .int 8]) hg (t_Model_in v2 (-1) 8 μ_1) v_Model_in wm_Model_67 d_Model_independent_17 rfl ⟨by decide, by decide⟩ (Nat.le_of_ble_eq_true rfl) rfl (fun r17 μ_17 _ => ?_)
    refine r_if_ne (tgt := 29) hg d_Model_independent_20 (by decide) ?_ ?_
    · refine r_iconst (v := 0) hg d_Model_independent_29 (by decide) ?_
      refine r_istore_n (l' := [(3, .int 0), (0, .ref 125), (1, .int v1), (2, .int v2)]) hg d_Model_independent_30 rfl (Nat.le_of_ble_eq_true rfl) rfl ?_
      refine r_iconst (v := 0) hg d_Model_independent_31 (by decide) ?_
      refine r_istore (l' := [(4, .int 0), (3, .int 0), (0, .ref 125), (1, .int v1), (2, .int v2)]) hg d_Model_independent_32 (Nat.le_of_ble_eq_true rfl) rfl ?_
      refine r_sub [2, 3, 4, 1, 0] rfl ?_
      exact t_Model_independent_L34 hg hA f_Model_independent_J84 (t_Model_independent_J84 hg hA) h_fuel v1 v2 0 0 μ_17
    · refine r_aload_n hg 0 d_Model_independent_23 rfl rfl ?_
      refine r_iconst (v := 2) hg d_Model_independent_24 (by decide) ?_
      refine r_callV (As := [.int 2]) hg (t_Model_fails 2 μ_17) v_Model_fails c_Model rfl (by decide) rfl wm_Model_93 d_Model_independent_25 rfl ⟨by decide, by decide⟩ (Nat.le_of_ble_eq_true rfl) rfl (fun r25 μ_25 _ => ?_)
      exact r_iret hg hA rfl d_Model_independent_28 rfl
  · refine r_aload_n hg 0 d_Model_independent_7 rfl rfl ?_
    refine r_iconst (v := 1) hg d_Model_independent_8 (by decide) ?_
    refine r_callV (As := [.int 1]) hg (t_Model_fails 1 μ_1) v_Model_fails c_Model rfl (by decide) rfl wm_Model_93 d_Model_independent_9 rfl ⟨by decide, by decide⟩ (Nat.le_of_ble_eq_true rfl) rfl (fun r9 μ_9 _ => ?_)
    exact r_iret hg hA rfl d_Model_independent_12 rfl
theorem t_Model_independent (v1 : Int32) (v2 : Int32) (μ : HMem) : HSpec y_Model_independent b_Model_independent 5 (some .int) 5 h_eI [.ref 125, .int v1, .int v2] μ (f_Model_independent v1 v2 μ) :=
  HSpec.of (by decide +kernel) (v_Model_independent.1 _ (by simp)) (Nat.le_of_ble_eq_true rfl) (fun cx hA hg => t_Model_independent_0 hg hA v1 v2 μ)
theorem t_Model_walksFrom_J27 {cx : HCx} (hg : HGood cx R_Model b_Model_walksFrom 7 2 none) (hA : h_own cx)  (rec_ : Int32 → Int32 → Int32 → Int32 → HMem → Option (Unit × HMem)) (hrec_ : p_Model_walksFrom_3 cx rec_) (v1 : Int32) (v2 : Int32) (v3 : Int32) (v4 : Int32) (s0 : Int64) (s1 : Int32) (μ : HMem) : HX cx (HQ cx h_eV) (f_Model_walksFrom_J27  rec_ v1 v2 v3 v4 s0 s1 μ) 0 0 27 [(0, .ref 125), (1, .int v1), (2, .int v2), (3, .int v3), (4, .int v4)] [.long s0, .int s1, .ref 140] μ := by
  unfold f_Model_walksFrom_J27
  refine r_last hg (by decide) rfl d_Model_walksFrom_27 ?_
  refine r_letM (fun μ_27 => ?_)
  refine r_letE (fun v4_28 he_28 => ?_)
  refine r_iinc (v := v4_28) (l' := [(4, .int v4_28), (0, .ref 125), (1, .int v1), (2, .int v2), (3, .int v3)]) hg 4 d_Model_walksFrom_28 rfl he_28 (Nat.le_of_ble_eq_true rfl) rfl ?_
  refine r_goto (tgt := 3) hg d_Model_walksFrom_31 (by decide) ?_
  refine r_sub [1, 2, 3, 4, 0] rfl ?_
  exact hrec_ v1 v2 v3 v4_28 μ_27
theorem t_Model_walksFrom_L3_b {cx : HCx} (hg : HGood cx R_Model b_Model_walksFrom 7 2 none) (hA : h_own cx) (K34 : Int32 → Int32 → HMem → Option (Unit × HMem)) (hK34 : p_Model_walksFrom_34 cx K34) (rec_ : Int32 → Int32 → Int32 → Int32 → HMem → Option (Unit × HMem)) (hrec_ : p_Model_walksFrom_3 cx rec_) (v1 : Int32) (v2 : Int32) (v3 : Int32) (v4 : Int32) (μ : HMem) : HX cx (HQ cx h_eV) (f_Model_walksFrom_L3_b K34 rec_ v1 v2 v3 v4 μ) 0 0 3 [(0, .ref 125), (1, .int v1), (2, .int v2), (3, .int v3), (4, .int v4)] [] μ := by
  unfold f_Model_walksFrom_L3_b
  refine r_iload hg 4 d_Model_walksFrom_3 rfl ?_
  refine r_bipush (v := 8) hg d_Model_walksFrom_5 (by decide) ?_
  refine r_icmp_ge (tgt := 34) hg d_Model_walksFrom_7 (by decide) ?_ ?_
  · refine r_sub [0, 1, 3] rfl ?_
    exact hK34 v1 v3 μ
  · refine r_aload_n hg 0 d_Model_walksFrom_10 rfl rfl ?_
    refine r_get (v := .ref 140) hg c_Model (by decide) rfl (Nat.le_of_ble_eq_true rfl) rfl wf_Model_54 d_Model_walksFrom_11 rfl ?_
    refine r_iload hg 4 d_Model_walksFrom_14 rfl ?_
    refine r_iload hg 4 d_Model_walksFrom_16 rfl ?_
    refine r_iload_n hg 2 d_Model_walksFrom_18 rfl rfl ?_
    refine r_icmp_ne (tgt := 26) hg d_Model_walksFrom_19 (by decide) ?_ ?_
    · refine r_lconst (v := 0) hg d_Model_walksFrom_26 (by decide) ?_
      exact t_Model_walksFrom_J27 hg hA rec_ hrec_ v1 v2 v3 v4 0 v4 μ
    · refine r_lconst (v := 1) hg d_Model_walksFrom_22 (by decide) ?_
      refine r_goto (tgt := 27) hg d_Model_walksFrom_23 (by decide) ?_
      exact t_Model_walksFrom_J27 hg hA rec_ hrec_ v1 v2 v3 v4 1 v4 μ
theorem t_Model_walksFrom_L3 {cx : HCx} (hg : HGood cx R_Model b_Model_walksFrom 7 2 none) (hA : h_own cx) (K34 : Int32 → Int32 → HMem → Option (Unit × HMem)) (hK34 : p_Model_walksFrom_34 cx K34) : ∀ (fuel : Nat) (v1 : Int32) (v2 : Int32) (v3 : Int32) (v4 : Int32) (μ : HMem), HX cx (HQ cx h_eV) (f_Model_walksFrom_L3 K34 fuel v1 v2 v3 v4 μ) 0 0 3 [(0, .ref 125), (1, .int v1), (2, .int v2), (3, .int v3), (4, .int v4)] [] μ
  | 0, _, _, _, _, _ => by unfold f_Model_walksFrom_L3; exact HX.none
  | fuel + 1, v1, v2, v3, v4, μ => by
    rw [f_Model_walksFrom_L3]
    exact t_Model_walksFrom_L3_b hg hA  K34 hK34 (f_Model_walksFrom_L3 K34 fuel) (t_Model_walksFrom_L3 hg hA  K34 hK34 fuel) v1 v2 v3 v4 μ
theorem t_Model_walksFrom_L67_b {cx : HCx} (hg : HGood cx R_Model b_Model_walksFrom 7 2 none) (hA : h_own cx) (K111 : Int32 → Int32 → Int32 → Int32 → HMem → Option (Unit × HMem)) (hK111 : p_Model_walksFrom_111 cx K111) (rec_ : Int32 → Int32 → Int32 → Int32 → Int32 → HMem → Option (Unit × HMem)) (hrec_ : p_Model_walksFrom_67 cx rec_) (v1 : Int32) (v3 : Int32) (v4 : Int32) (v5 : Int32) (v6 : Int32) (μ : HMem) : HX cx (HQ cx h_eV) (f_Model_walksFrom_L67_b K111 rec_ v1 v3 v4 v5 v6 μ) 0 0 67 [(0, .ref 125), (1, .int v1), (3, .int v3), (4, .int v4), (5, .int v5), (6, .int v6)] [] μ := by
  unfold f_Model_walksFrom_L67_b
  refine r_iload hg 5 d_Model_walksFrom_67 rfl ?_
  refine r_aload_n hg 0 d_Model_walksFrom_69 rfl rfl ?_
  refine r_iload_n hg 1 d_Model_walksFrom_70 rfl rfl ?_
  refine r_callV (As := [.int v1]) hg (t_Model_size v1 μ) v_Model_size c_Model rfl (by decide) rfl wm_Model_75 d_Model_walksFrom_71 rfl ⟨by decide, by decide⟩ (Nat.le_of_ble_eq_true rfl) rfl (fun r71 μ_71 _ => ?_)
  refine r_icmp_ge (tgt := 111) hg d_Model_walksFrom_74 (by decide) ?_ ?_
  · refine r_sub [0, 1, 2, 3, 4] rfl ?_
    exact hK111 v1 v3 v4 v5 μ_71
  · refine r_aload_n hg 0 d_Model_walksFrom_77 rfl rfl ?_
    refine r_get (v := .ref 141) hg c_Model (by decide) rfl (Nat.le_of_ble_eq_true rfl) rfl wf_Model_57 d_Model_walksFrom_78 rfl ?_
    refine r_iload hg 4 d_Model_walksFrom_81 rfl ?_
    refine r_dup2 hg d_Model_walksFrom_83 rfl rfl ?_
    refine r_lald hg (by decide) rfl d_Model_walksFrom_84 ?_
    refine r_aload_n hg 0 d_Model_walksFrom_85 rfl rfl ?_
    refine r_get (v := .ref 140) hg c_Model (by decide) rfl (Nat.le_of_ble_eq_true rfl) rfl wf_Model_54 d_Model_walksFrom_86 rfl ?_
    refine r_iload hg 5 d_Model_walksFrom_89 rfl ?_
    refine r_lald hg (by decide) rfl d_Model_walksFrom_91 ?_
    refine r_aload_n hg 0 d_Model_walksFrom_92 rfl rfl ?_
    refine r_iload_n hg 1 d_Model_walksFrom_93 rfl rfl ?_
    refine r_iload hg 5 d_Model_walksFrom_94 rfl ?_
    refine r_iload hg 4 d_Model_walksFrom_96 rfl ?_
    refine r_callV (As := [.int v1, .int v6, .int v5]) hg (t_Model_between v1 v6 v5 μ_71) v_Model_between c_Model rfl (by decide) rfl wm_Model_79 d_Model_walksFrom_98 rfl ⟨by decide, by decide⟩ (Nat.le_of_ble_eq_true rfl) rfl (fun r98 μ_98 _ => ?_)
    refine r_i2l hg d_Model_walksFrom_101 ?_
    refine r_lmul hg d_Model_walksFrom_102 ?_
    refine r_ladd hg d_Model_walksFrom_103 ?_
    refine r_last hg (by decide) rfl d_Model_walksFrom_104 ?_
    refine r_letM (fun μ_104 => ?_)
    refine r_letE (fun v6_105 he_105 => ?_)
    refine r_iinc (v := v6_105) (l' := [(6, .int v6_105), (0, .ref 125), (1, .int v1), (3, .int v3), (4, .int v4), (5, .int v5)]) hg 5 d_Model_walksFrom_105 rfl he_105 (Nat.le_of_ble_eq_true rfl) rfl ?_
    refine r_goto (tgt := 67) hg d_Model_walksFrom_108 (by decide) ?_
    refine r_sub [1, 2, 3, 4, 5, 0] rfl ?_
    exact hrec_ v1 v3 v4 v5 v6_105 μ_104
theorem t_Model_walksFrom_L67 {cx : HCx} (hg : HGood cx R_Model b_Model_walksFrom 7 2 none) (hA : h_own cx) (K111 : Int32 → Int32 → Int32 → Int32 → HMem → Option (Unit × HMem)) (hK111 : p_Model_walksFrom_111 cx K111) : ∀ (fuel : Nat) (v1 : Int32) (v3 : Int32) (v4 : Int32) (v5 : Int32) (v6 : Int32) (μ : HMem), HX cx (HQ cx h_eV) (f_Model_walksFrom_L67 K111 fuel v1 v3 v4 v5 v6 μ) 0 0 67 [(0, .ref 125), (1, .int v1), (3, .int v3), (4, .int v4), (5, .int v5), (6, .int v6)] [] μ
  | 0, _, _, _, _, _, _ => by unfold f_Model_walksFrom_L67; exact HX.none
  | fuel + 1, v1, v3, v4, v5, v6, μ => by
    rw [f_Model_walksFrom_L67]
    exact t_Model_walksFrom_L67_b hg hA  K111 hK111 (f_Model_walksFrom_L67 K111 fuel) (t_Model_walksFrom_L67 hg hA  K111 hK111 fuel) v1 v3 v4 v5 v6 μ
theorem t_Model_walksFrom_J111 {cx : HCx} (hg : HGood cx R_Model b_Model_walksFrom 7 2 none) (hA : h_own cx)  (rec_ : Int32 → Int32 → Int32 → Int32 → HMem → Option (Unit × HMem)) (hrec_ : p_Model_walksFrom_46 cx rec_) (v1 : Int32) (v3 : Int32) (v4 : Int32) (v5 : Int32) (μ : HMem) : HX cx (HQ cx h_eV) (f_Model_walksFrom_J111  rec_ v1 v3 v4 v5 μ) 0 0 111 [(0, .ref 125), (1, .int v1), (3, .int v3), (4, .int v4), (5, .int v5)] [] μ := by
  unfold f_Model_walksFrom_J111
  refine r_letE (fun v5_111 he_111 => ?_)
  refine r_iinc (v := v5_111) (l' := [(5, .int v5_111), (0, .ref 125), (1, .int v1), (3, .int v3), (4, .int v4)]) hg 4 d_Model_walksFrom_111 rfl he_111 (Nat.le_of_ble_eq_true rfl) rfl ?_
  refine r_goto (tgt := 46) hg d_Model_walksFrom_114 (by decide) ?_
  refine r_sub [1, 2, 3, 4, 0] rfl ?_
  exact hrec_ v1 v3 v4 v5_111 μ
theorem t_Model_walksFrom_L46_b {cx : HCx} (hg : HGood cx R_Model b_Model_walksFrom 7 2 none) (hA : h_own cx) (K117 : Int32 → Int32 → Int32 → HMem → Option (Unit × HMem)) (hK117 : p_Model_walksFrom_117 cx K117) (rec_ : Int32 → Int32 → Int32 → Int32 → HMem → Option (Unit × HMem)) (hrec_ : p_Model_walksFrom_46 cx rec_) (v1 : Int32) (v3 : Int32) (v4 : Int32) (v5 : Int32) (μ : HMem) : HX cx (HQ cx h_eV) (f_Model_walksFrom_L46_b K117 rec_ v1 v3 v4 v5 μ) 0 0 46 [(0, .ref 125), (1, .int v1), (3, .int v3), (4, .int v4), (5, .int v5)] [] μ := by
  unfold f_Model_walksFrom_L46_b
  refine r_iload hg 4 d_Model_walksFrom_46 rfl ?_
  refine r_aload_n hg 0 d_Model_walksFrom_48 rfl rfl ?_
  refine r_iload_n hg 1 d_Model_walksFrom_49 rfl rfl ?_
  refine r_callV (As := [.int v1]) hg (t_Model_size v1 μ) v_Model_size c_Model rfl (by decide) rfl wm_Model_75 d_Model_walksFrom_50 rfl ⟨by decide, by decide⟩ (Nat.le_of_ble_eq_true rfl) rfl (fun r50 μ_50 _ => ?_)
  refine r_icmp_ge (tgt := 117) hg d_Model_walksFrom_53 (by decide) ?_ ?_
  · refine r_sub [0, 1, 2, 3] rfl ?_
    exact hK117 v1 v3 v4 μ_50
  · refine r_aload_n hg 0 d_Model_walksFrom_56 rfl rfl ?_
    refine r_get (v := .ref 141) hg c_Model (by decide) rfl (Nat.le_of_ble_eq_true rfl) rfl wf_Model_57 d_Model_walksFrom_57 rfl ?_
    refine r_iload hg 4 d_Model_walksFrom_60 rfl ?_
    refine r_lconst (v := 0) hg d_Model_walksFrom_62 (by decide) ?_
    refine r_last hg (by decide) rfl d_Model_walksFrom_63 ?_
    refine r_letM (fun μ_63 => ?_)
    refine r_iconst (v := 0) hg d_Model_walksFrom_64 (by decide) ?_
    refine r_istore (l' := [(6, .int 0), (0, .ref 125), (1, .int v1), (3, .int v3), (4, .int v4), (5, .int v5)]) hg d_Model_walksFrom_65 (Nat.le_of_ble_eq_true rfl) rfl ?_
    refine r_sub [1, 2, 3, 4, 5, 0] rfl ?_
    exact t_Model_walksFrom_L67 hg hA (f_Model_walksFrom_J111 rec_) (t_Model_walksFrom_J111 hg hA rec_ hrec_) h_fuel v1 v3 v4 v5 0 μ_63
theorem t_Model_walksFrom_L46 {cx : HCx} (hg : HGood cx R_Model b_Model_walksFrom 7 2 none) (hA : h_own cx) (K117 : Int32 → Int32 → Int32 → HMem → Option (Unit × HMem)) (hK117 : p_Model_walksFrom_117 cx K117) : ∀ (fuel : Nat) (v1 : Int32) (v3 : Int32) (v4 : Int32) (v5 : Int32) (μ : HMem), HX cx (HQ cx h_eV) (f_Model_walksFrom_L46 K117 fuel v1 v3 v4 v5 μ) 0 0 46 [(0, .ref 125), (1, .int v1), (3, .int v3), (4, .int v4), (5, .int v5)] [] μ
  | 0, _, _, _, _, _ => by unfold f_Model_walksFrom_L46; exact HX.none
  | fuel + 1, v1, v3, v4, v5, μ => by
    rw [f_Model_walksFrom_L46]
    exact t_Model_walksFrom_L46_b hg hA  K117 hK117 (f_Model_walksFrom_L46 K117 fuel) (t_Model_walksFrom_L46 hg hA  K117 hK117 fuel) v1 v3 v4 v5 μ
theorem t_Model_walksFrom_L120_b {cx : HCx} (hg : HGood cx R_Model b_Model_walksFrom 7 2 none) (hA : h_own cx) (K150 : Int32 → Int32 → Int32 → HMem → Option (Unit × HMem)) (hK150 : p_Model_walksFrom_150 cx K150) (rec_ : Int32 → Int32 → Int32 → Int32 → HMem → Option (Unit × HMem)) (hrec_ : p_Model_walksFrom_120 cx rec_) (v1 : Int32) (v3 : Int32) (v4 : Int32) (v5 : Int32) (μ : HMem) : HX cx (HQ cx h_eV) (f_Model_walksFrom_L120_b K150 rec_ v1 v3 v4 v5 μ) 0 0 120 [(0, .ref 125), (1, .int v1), (3, .int v3), (4, .int v4), (5, .int v5)] [] μ := by
  unfold f_Model_walksFrom_L120_b
  refine r_iload hg 4 d_Model_walksFrom_120 rfl ?_
  refine r_aload_n hg 0 d_Model_walksFrom_122 rfl rfl ?_
  refine r_iload_n hg 1 d_Model_walksFrom_123 rfl rfl ?_
  refine r_callV (As := [.int v1]) hg (t_Model_size v1 μ) v_Model_size c_Model rfl (by decide) rfl wm_Model_75 d_Model_walksFrom_124 rfl ⟨by decide, by decide⟩ (Nat.le_of_ble_eq_true rfl) rfl (fun r124 μ_124 _ => ?_)
  refine r_icmp_ge (tgt := 150) hg d_Model_walksFrom_127 (by decide) ?_ ?_
  · refine r_sub [0, 1, 2, 3] rfl ?_
    exact hK150 v1 v3 v4 μ_124
  · refine r_aload_n hg 0 d_Model_walksFrom_130 rfl rfl ?_
    refine r_get (v := .ref 140) hg c_Model (by decide) rfl (Nat.le_of_ble_eq_true rfl) rfl wf_Model_54 d_Model_walksFrom_131 rfl ?_
    refine r_iload hg 4 d_Model_walksFrom_134 rfl ?_
    refine r_aload_n hg 0 d_Model_walksFrom_136 rfl rfl ?_
    refine r_get (v := .ref 141) hg c_Model (by decide) rfl (Nat.le_of_ble_eq_true rfl) rfl wf_Model_57 d_Model_walksFrom_137 rfl ?_
    refine r_iload hg 4 d_Model_walksFrom_140 rfl ?_
    refine r_lald hg (by decide) rfl d_Model_walksFrom_142 ?_
    refine r_last hg (by decide) rfl d_Model_walksFrom_143 ?_
    refine r_letM (fun μ_143 => ?_)
    refine r_letE (fun v5_144 he_144 => ?_)
    refine r_iinc (v := v5_144) (l' := [(5, .int v5_144), (0, .ref 125), (1, .int v1), (3, .int v3), (4, .int v4)]) hg 4 d_Model_walksFrom_144 rfl he_144 (Nat.le_of_ble_eq_true rfl) rfl ?_
    refine r_goto (tgt := 120) hg d_Model_walksFrom_147 (by decide) ?_
    refine r_sub [1, 2, 3, 4, 0] rfl ?_
    exact hrec_ v1 v3 v4 v5_144 μ_143
theorem t_Model_walksFrom_L120 {cx : HCx} (hg : HGood cx R_Model b_Model_walksFrom 7 2 none) (hA : h_own cx) (K150 : Int32 → Int32 → Int32 → HMem → Option (Unit × HMem)) (hK150 : p_Model_walksFrom_150 cx K150) : ∀ (fuel : Nat) (v1 : Int32) (v3 : Int32) (v4 : Int32) (v5 : Int32) (μ : HMem), HX cx (HQ cx h_eV) (f_Model_walksFrom_L120 K150 fuel v1 v3 v4 v5 μ) 0 0 120 [(0, .ref 125), (1, .int v1), (3, .int v3), (4, .int v4), (5, .int v5)] [] μ
  | 0, _, _, _, _, _ => by unfold f_Model_walksFrom_L120; exact HX.none
  | fuel + 1, v1, v3, v4, v5, μ => by
    rw [f_Model_walksFrom_L120]
    exact t_Model_walksFrom_L120_b hg hA  K150 hK150 (f_Model_walksFrom_L120 K150 fuel) (t_Model_walksFrom_L120 hg hA  K150 hK150 fuel) v1 v3 v4 v5 μ
theorem t_Model_walksFrom_J150 {cx : HCx} (hg : HGood cx R_Model b_Model_walksFrom 7 2 none) (hA : h_own cx)  (rec_ : Int32 → Int32 → Int32 → HMem → Option (Unit × HMem)) (hrec_ : p_Model_walksFrom_37 cx rec_) (v1 : Int32) (v3 : Int32) (v4 : Int32) (μ : HMem) : HX cx (HQ cx h_eV) (f_Model_walksFrom_J150  rec_ v1 v3 v4 μ) 0 0 150 [(0, .ref 125), (1, .int v1), (3, .int v3), (4, .int v4)] [] μ := by
  unfold f_Model_walksFrom_J150
  refine r_letE (fun v4_150 he_150 => ?_)
  refine r_iinc (v := v4_150) (l' := [(4, .int v4_150), (0, .ref 125), (1, .int v1), (3, .int v3)]) hg 3 d_Model_walksFrom_150 rfl he_150 (Nat.le_of_ble_eq_true rfl) rfl ?_
  refine r_goto (tgt := 37) hg d_Model_walksFrom_153 (by decide) ?_
  refine r_sub [1, 2, 3, 0] rfl ?_
  exact hrec_ v1 v3 v4_150 μ
theorem t_Model_walksFrom_J117 {cx : HCx} (hg : HGood cx R_Model b_Model_walksFrom 7 2 none) (hA : h_own cx)  (rec_ : Int32 → Int32 → Int32 → HMem → Option (Unit × HMem)) (hrec_ : p_Model_walksFrom_37 cx rec_) (v1 : Int32) (v3 : Int32) (v4 : Int32) (μ : HMem) : HX cx (HQ cx h_eV) (f_Model_walksFrom_J117  rec_ v1 v3 v4 μ) 0 0 117 [(0, .ref 125), (1, .int v1), (3, .int v3), (4, .int v4)] [] μ := by
  unfold f_Model_walksFrom_J117
  refine r_iconst (v := 0) hg d_Model_walksFrom_117 (by decide) ?_
  refine r_istore (l' := [(5, .int 0), (0, .ref 125), (1, .int v1), (3, .int v3), (4, .int v4)]) hg d_Model_walksFrom_118 (Nat.le_of_ble_eq_true rfl) rfl ?_
  refine r_sub [1, 2, 3, 4, 0] rfl ?_
  exact t_Model_walksFrom_L120 hg hA (f_Model_walksFrom_J150 rec_) (t_Model_walksFrom_J150 hg hA rec_ hrec_) h_fuel v1 v3 v4 0 μ
theorem t_Model_walksFrom_L37_b {cx : HCx} (hg : HGood cx R_Model b_Model_walksFrom 7 2 none) (hA : h_own cx)  (rec_ : Int32 → Int32 → Int32 → HMem → Option (Unit × HMem)) (hrec_ : p_Model_walksFrom_37 cx rec_) (v1 : Int32) (v3 : Int32) (v4 : Int32) (μ : HMem) : HX cx (HQ cx h_eV) (f_Model_walksFrom_L37_b  rec_ v1 v3 v4 μ) 0 0 37 [(0, .ref 125), (1, .int v1), (3, .int v3), (4, .int v4)] [] μ := by
  unfold f_Model_walksFrom_L37_b
  refine r_iload hg 3 d_Model_walksFrom_37 rfl ?_
  refine r_iload_n hg 2 d_Model_walksFrom_39 rfl rfl ?_
  refine r_icmp_ge (tgt := 156) hg d_Model_walksFrom_40 (by decide) ?_ ?_
  · exact r_vret hg hA rfl d_Model_walksFrom_156 rfl
  · refine r_iconst (v := 0) hg d_Model_walksFrom_43 (by decide) ?_
    refine r_istore (l' := [(5, .int 0), (0, .ref 125), (1, .int v1), (3, .int v3), (4, .int v4)]) hg d_Model_walksFrom_44 (Nat.le_of_ble_eq_true rfl) rfl ?_
    refine r_sub [1, 2, 3, 4, 0] rfl ?_
    exact t_Model_walksFrom_L46 hg hA (f_Model_walksFrom_J117 rec_) (t_Model_walksFrom_J117 hg hA rec_ hrec_) h_fuel v1 v3 v4 0 μ
theorem t_Model_walksFrom_L37 {cx : HCx} (hg : HGood cx R_Model b_Model_walksFrom 7 2 none) (hA : h_own cx)  : ∀ (fuel : Nat) (v1 : Int32) (v3 : Int32) (v4 : Int32) (μ : HMem), HX cx (HQ cx h_eV) (f_Model_walksFrom_L37  fuel v1 v3 v4 μ) 0 0 37 [(0, .ref 125), (1, .int v1), (3, .int v3), (4, .int v4)] [] μ
  | 0, _, _, _, _ => by unfold f_Model_walksFrom_L37; exact HX.none
  | fuel + 1, v1, v3, v4, μ => by
    rw [f_Model_walksFrom_L37]
    exact t_Model_walksFrom_L37_b hg hA   (f_Model_walksFrom_L37  fuel) (t_Model_walksFrom_L37 hg hA   fuel) v1 v3 v4 μ
theorem t_Model_walksFrom_J34 {cx : HCx} (hg : HGood cx R_Model b_Model_walksFrom 7 2 none) (hA : h_own cx)   (v1 : Int32) (v3 : Int32) (μ : HMem) : HX cx (HQ cx h_eV) (f_Model_walksFrom_J34   v1 v3 μ) 0 0 34 [(0, .ref 125), (1, .int v1), (3, .int v3)] [] μ := by
  unfold f_Model_walksFrom_J34
  refine r_iconst (v := 0) hg d_Model_walksFrom_34 (by decide) ?_
  refine r_istore (l' := [(4, .int 0), (0, .ref 125), (1, .int v1), (3, .int v3)]) hg d_Model_walksFrom_35 (Nat.le_of_ble_eq_true rfl) rfl ?_
  refine r_sub [1, 2, 3, 0] rfl ?_
  exact t_Model_walksFrom_L37 hg hA h_fuel v1 v3 0 μ
theorem t_Model_walksFrom_0 {cx : HCx} (hg : HGood cx R_Model b_Model_walksFrom 7 2 none) (hA : h_own cx) (v1 : Int32) (v2 : Int32) (v3 : Int32) (μ : HMem) : HX cx (HQ cx h_eV) (f_Model_walksFrom v1 v2 v3 μ) 0 0 0 [(0, .ref 125), (1, .int v1), (2, .int v2), (3, .int v3)] [] μ := by
  unfold f_Model_walksFrom
  refine r_iconst (v := 0) hg d_Model_walksFrom_0 (by decide) ?_
  refine r_istore (l' := [(4, .int 0), (0, .ref 125), (1, .int v1), (2, .int v2), (3, .int v3)]) hg d_Model_walksFrom_1 (Nat.le_of_ble_eq_true rfl) rfl ?_
  refine r_sub [1, 2, 3, 4, 0] rfl ?_
  exact t_Model_walksFrom_L3 hg hA f_Model_walksFrom_J34 (t_Model_walksFrom_J34 hg hA) h_fuel v1 v2 v3 0 μ
theorem t_Model_walksFrom (v1 : Int32) (v2 : Int32) (v3 : Int32) (μ : HMem) : HSpec y_Model_walksFrom b_Model_walksFrom 7 none 2 h_eV [.ref 125, .int v1, .int v2, .int v3] μ (f_Model_walksFrom v1 v2 v3 μ) :=
  HSpec.of (by decide +kernel) (v_Model_walksFrom.1 _ (by simp)) (Nat.le_of_ble_eq_true rfl) (fun cx hA hg => t_Model_walksFrom_0 hg hA v1 v2 v3 μ)
theorem t_Model_walks_J97 {cx : HCx} (hg : HGood cx R_Model b_Model_walks 8 3 (some .long)) (hA : h_own cx)  (rec_ : Int32 → Int32 → Int32 → Int64 → Int32 → Int32 → HMem → Option (Int64 × HMem)) (hrec_ : p_Model_walks_63 cx rec_) (v1 : Int32) (v2 : Int32) (v3 : Int32) (v6 : Int32) (v7 : Int32) (s0 : Int64) (s1 : Int64) (μ : HMem) : HX cx (HQ cx h_eJ) (f_Model_walks_J97  rec_ v1 v2 v3 v6 v7 s0 s1 μ) 0 0 97 [(0, .ref 125), (1, .int v1), (2, .int v2), (3, .int v3), (6, .int v6), (7, .int v7)] [.long s0, .long s1] μ := by
  unfold f_Model_walks_J97
  refine r_ladd hg d_Model_walks_97 ?_
  refine r_letJ (fun v4_98 => ?_)
  refine r_lstore (l' := [(4, .long v4_98), (0, .ref 125), (1, .int v1), (2, .int v2), (3, .int v3), (6, .int v6), (7, .int v7)]) hg d_Model_walks_98 (Nat.le_of_ble_eq_true rfl) rfl ?_
  refine r_letE (fun v7_100 he_100 => ?_)
  refine r_iinc (v := v7_100) (l' := [(7, .int v7_100), (4, .long v4_98), (0, .ref 125), (1, .int v1), (2, .int v2), (3, .int v3), (6, .int v6)]) hg 6 d_Model_walks_100 rfl he_100 (Nat.le_of_ble_eq_true rfl) rfl ?_
  refine r_goto (tgt := 63) hg d_Model_walks_103 (by decide) ?_
  refine r_sub [2, 3, 4, 5, 1, 6, 0] rfl ?_
  exact hrec_ v1 v2 v3 v4_98 v6 v7_100 μ
theorem t_Model_walks_J90 {cx : HCx} (hg : HGood cx R_Model b_Model_walks 8 3 (some .long)) (hA : h_own cx)  (rec_ : Int32 → Int32 → Int32 → Int64 → Int32 → Int32 → HMem → Option (Int64 × HMem)) (hrec_ : p_Model_walks_63 cx rec_) (v1 : Int32) (v2 : Int32) (v3 : Int32) (v6 : Int32) (v7 : Int32) (s0 : Int64) (μ : HMem) : HX cx (HQ cx h_eJ) (f_Model_walks_J90  rec_ v1 v2 v3 v6 v7 s0 μ) 0 0 90 [(0, .ref 125), (1, .int v1), (2, .int v2), (3, .int v3), (6, .int v6), (7, .int v7)] [.long s0] μ := by
  unfold f_Model_walks_J90
  refine r_aload_n hg 0 d_Model_walks_90 rfl rfl ?_
  refine r_get (v := .ref 140) hg c_Model (by decide) rfl (Nat.le_of_ble_eq_true rfl) rfl wf_Model_54 d_Model_walks_91 rfl ?_
  refine r_iload hg 5 d_Model_walks_94 rfl ?_
  refine r_lald hg (by decide) rfl d_Model_walks_96 ?_
  exact t_Model_walks_J97 hg hA rec_ hrec_ v1 v2 v3 v6 v7 (μ.2 140 (Int32.toNatClampNeg (v7))) s0 μ
theorem t_Model_walks_L63_b {cx : HCx} (hg : HGood cx R_Model b_Model_walks 8 3 (some .long)) (hA : h_own cx) (K106 : Int32 → Int32 → Int32 → Int64 → Int32 → HMem → Option (Int64 × HMem)) (hK106 : p_Model_walks_106 cx K106) (rec_ : Int32 → Int32 → Int32 → Int64 → Int32 → Int32 → HMem → Option (Int64 × HMem)) (hrec_ : p_Model_walks_63 cx rec_) (v1 : Int32) (v2 : Int32) (v3 : Int32) (v4 : Int64) (v6 : Int32) (v7 : Int32) (μ : HMem) : HX cx (HQ cx h_eJ) (f_Model_walks_L63_b K106 rec_ v1 v2 v3 v4 v6 v7 μ) 0 0 63 [(0, .ref 125), (1, .int v1), (2, .int v2), (3, .int v3), (4, .long v4), (6, .int v6), (7, .int v7)] [] μ := by
  unfold f_Model_walks_L63_b
  refine r_iload hg 6 d_Model_walks_63 rfl ?_
  refine r_aload_n hg 0 d_Model_walks_65 rfl rfl ?_
  refine r_iload_n hg 1 d_Model_walks_66 rfl rfl ?_
  refine r_callV (As := [.int v1]) hg (t_Model_size v1 μ) v_Model_size c_Model rfl (by decide) rfl wm_Model_75 d_Model_walks_67 rfl ⟨by decide, by decide⟩ (Nat.le_of_ble_eq_true rfl) rfl (fun r67 μ_67 _ => ?_)
  refine r_icmp_ge (tgt := 106) hg d_Model_walks_70 (by decide) ?_ ?_
  · refine r_sub [0, 1, 2, 3, 4, 5] rfl ?_
    exact hK106 v1 v2 v3 v4 v6 μ_67
  · refine r_lload hg 4 d_Model_walks_73 rfl ?_
    refine r_iload_n hg 3 d_Model_walks_75 rfl rfl ?_
    refine r_if_eq (tgt := 90) hg d_Model_walks_76 (by decide) ?_ ?_
    · refine r_sub [0, 1, 2, 3, 5, 6] rfl ?_
      exact t_Model_walks_J90 hg hA rec_ hrec_ v1 v2 v3 v6 v7 v4 μ_67
    · refine r_iload hg 6 d_Model_walks_79 rfl ?_
      refine r_iload hg 5 d_Model_walks_81 rfl ?_
      refine r_icmp_eq (tgt := 90) hg d_Model_walks_83 (by decide) ?_ ?_
      · refine r_sub [0, 1, 2, 3, 5, 6] rfl ?_
        exact t_Model_walks_J90 hg hA rec_ hrec_ v1 v2 v3 v6 v7 v4 μ_67
      · refine r_lconst (v := 0) hg d_Model_walks_86 (by decide) ?_
        refine r_goto (tgt := 97) hg d_Model_walks_87 (by decide) ?_
        refine r_sub [0, 1, 2, 3, 5, 6] rfl ?_
        exact t_Model_walks_J97 hg hA rec_ hrec_ v1 v2 v3 v6 v7 0 v4 μ_67
theorem t_Model_walks_L63 {cx : HCx} (hg : HGood cx R_Model b_Model_walks 8 3 (some .long)) (hA : h_own cx) (K106 : Int32 → Int32 → Int32 → Int64 → Int32 → HMem → Option (Int64 × HMem)) (hK106 : p_Model_walks_106 cx K106) : ∀ (fuel : Nat) (v1 : Int32) (v2 : Int32) (v3 : Int32) (v4 : Int64) (v6 : Int32) (v7 : Int32) (μ : HMem), HX cx (HQ cx h_eJ) (f_Model_walks_L63 K106 fuel v1 v2 v3 v4 v6 v7 μ) 0 0 63 [(0, .ref 125), (1, .int v1), (2, .int v2), (3, .int v3), (4, .long v4), (6, .int v6), (7, .int v7)] [] μ
  | 0, _, _, _, _, _, _, _ => by unfold f_Model_walks_L63; exact HX.none
  | fuel + 1, v1, v2, v3, v4, v6, v7, μ => by
    rw [f_Model_walks_L63]
    exact t_Model_walks_L63_b hg hA  K106 hK106 (f_Model_walks_L63 K106 fuel) (t_Model_walks_L63 hg hA  K106 hK106 fuel) v1 v2 v3 v4 v6 v7 μ
theorem t_Model_walks_J106 {cx : HCx} (hg : HGood cx R_Model b_Model_walks 8 3 (some .long)) (hA : h_own cx)  (rec_ : Int32 → Int32 → Int32 → Int64 → Int32 → HMem → Option (Int64 × HMem)) (hrec_ : p_Model_walks_42 cx rec_) (v1 : Int32) (v2 : Int32) (v3 : Int32) (v4 : Int64) (v6 : Int32) (μ : HMem) : HX cx (HQ cx h_eJ) (f_Model_walks_J106  rec_ v1 v2 v3 v4 v6 μ) 0 0 106 [(0, .ref 125), (1, .int v1), (2, .int v2), (3, .int v3), (4, .long v4), (6, .int v6)] [] μ := by
  unfold f_Model_walks_J106
  refine r_letE (fun v6_106 he_106 => ?_)
  refine r_iinc (v := v6_106) (l' := [(6, .int v6_106), (0, .ref 125), (1, .int v1), (2, .int v2), (3, .int v3), (4, .long v4)]) hg 5 d_Model_walks_106 rfl he_106 (Nat.le_of_ble_eq_true rfl) rfl ?_
  refine r_goto (tgt := 42) hg d_Model_walks_109 (by decide) ?_
  refine r_sub [1, 2, 3, 4, 5, 0] rfl ?_
  exact hrec_ v1 v2 v3 v4 v6_106 μ
theorem t_Model_walks_L42_b {cx : HCx} (hg : HGood cx R_Model b_Model_walks 8 3 (some .long)) (hA : h_own cx)  (rec_ : Int32 → Int32 → Int32 → Int64 → Int32 → HMem → Option (Int64 × HMem)) (hrec_ : p_Model_walks_42 cx rec_) (v1 : Int32) (v2 : Int32) (v3 : Int32) (v4 : Int64) (v6 : Int32) (μ : HMem) : HX cx (HQ cx h_eJ) (f_Model_walks_L42_b  rec_ v1 v2 v3 v4 v6 μ) 0 0 42 [(0, .ref 125), (1, .int v1), (2, .int v2), (3, .int v3), (4, .long v4), (6, .int v6)] [] μ := by
  unfold f_Model_walks_L42_b
  refine r_iload hg 5 d_Model_walks_42 rfl ?_
  refine r_aload_n hg 0 d_Model_walks_44 rfl rfl ?_
  refine r_iload_n hg 1 d_Model_walks_45 rfl rfl ?_
  refine r_callV (As := [.int v1]) hg (t_Model_size v1 μ) v_Model_size c_Model rfl (by decide) rfl wm_Model_75 d_Model_walks_46 rfl ⟨by decide, by decide⟩ (Nat.le_of_ble_eq_true rfl) rfl (fun r46 μ_46 _ => ?_)
  refine r_icmp_ge (tgt := 112) hg d_Model_walks_49 (by decide) ?_ ?_
  · refine r_lload hg 4 d_Model_walks_112 rfl ?_
    exact r_lret hg hA rfl d_Model_walks_114 rfl
  · refine r_aload_n hg 0 d_Model_walks_52 rfl rfl ?_
    refine r_iload_n hg 1 d_Model_walks_53 rfl rfl ?_
    refine r_iload hg 5 d_Model_walks_54 rfl ?_
    refine r_iload_n hg 2 d_Model_walks_56 rfl rfl ?_
    refine r_callV (As := [.int v1, .int v6, .int v2]) hg (t_Model_walksFrom v1 v6 v2 μ_46) v_Model_walksFrom c_Model rfl (by decide) rfl wm_Model_268 d_Model_walks_57 rfl ⟨by decide, by decide⟩ (Nat.le_of_ble_eq_true rfl) rfl (fun r57 μ_57 _ => ?_)
    refine r_iconst (v := 0) hg d_Model_walks_60 (by decide) ?_
    refine r_istore (l' := [(7, .int 0), (0, .ref 125), (1, .int v1), (2, .int v2), (3, .int v3), (4, .long v4), (6, .int v6)]) hg d_Model_walks_61 (Nat.le_of_ble_eq_true rfl) rfl ?_
    refine r_sub [1, 2, 3, 4, 5, 6, 0] rfl ?_
    exact t_Model_walks_L63 hg hA (f_Model_walks_J106 rec_) (t_Model_walks_J106 hg hA rec_ hrec_) h_fuel v1 v2 v3 v4 v6 0 μ_57
theorem t_Model_walks_L42 {cx : HCx} (hg : HGood cx R_Model b_Model_walks 8 3 (some .long)) (hA : h_own cx)  : ∀ (fuel : Nat) (v1 : Int32) (v2 : Int32) (v3 : Int32) (v4 : Int64) (v6 : Int32) (μ : HMem), HX cx (HQ cx h_eJ) (f_Model_walks_L42  fuel v1 v2 v3 v4 v6 μ) 0 0 42 [(0, .ref 125), (1, .int v1), (2, .int v2), (3, .int v3), (4, .long v4), (6, .int v6)] [] μ
  | 0, _, _, _, _, _, _ => by unfold f_Model_walks_L42; exact HX.none
  | fuel + 1, v1, v2, v3, v4, v6, μ => by
    rw [f_Model_walks_L42]
    exact t_Model_walks_L42_b hg hA   (f_Model_walks_L42  fuel) (t_Model_walks_L42 hg hA   fuel) v1 v2 v3 v4 v6 μ
theorem t_Model_walks_0 {cx : HCx} (hg : HGood cx R_Model b_Model_walks 8 3 (some .long)) (hA : h_own cx) (v1 : Int32) (v2 : Int32) (v3 : Int32) (μ : HMem) : HX cx (HQ cx h_eJ) (f_Model_walks v1 v2 v3 μ) 0 0 0 [(0, .ref 125), (1, .int v1), (2, .int v2), (3, .int v3)] [] μ := by
  unfold f_Model_walks
  refine r_iload_n hg 1 d_Model_walks_0 rfl rfl ?_
  refine r_callS (As := [.int v1]) hg (t_Model_isGraph v1 μ) v_Model_isGraph wm_Model_71 d_Model_walks_1 rfl ⟨by decide, by decide⟩ (Nat.le_of_ble_eq_true rfl) rfl (fun r1 μ_1 _ => ?_)
  refine r_if_ne (tgt := 14) hg d_Model_walks_4 (by decide) ?_ ?_
  · refine r_iload_n hg 2 d_Model_walks_14 rfl rfl ?_
    refine r_iconst (v := 0) hg d_Model_walks_15 (by decide) ?_
    refine r_bipush (v := 12) hg d_Model_walks_16 (by decide) ?_
    refine r_callS (As := [.int v2, .int 0, .int 12]) hg (t_Model_in v2 0 12 μ_1) v_Model_in wm_Model_67 d_Model_walks_18 rfl ⟨by decide, by decide⟩ (Nat.le_of_ble_eq_true rfl) rfl (fun r18 μ_18 _ => ?_)
    refine r_if_ne (tgt := 31) hg d_Model_walks_21 (by decide) ?_ ?_
    · refine r_aload_n hg 0 d_Model_walks_31 rfl rfl ?_
      refine r_iconst (v := 0) hg d_Model_walks_32 (by decide) ?_
      refine r_put hg c_Model t_Model_ok n_Model (by decide) rfl (Nat.le_of_ble_eq_true rfl) rfl rfl (by decide +kernel) wf_Model_63 d_Model_walks_33 ?_
      refine r_letM (fun μ_33 => ?_)
      refine r_lconst (v := 0) hg d_Model_walks_36 (by decide) ?_
      refine r_lstore (l' := [(4, .long 0), (0, .ref 125), (1, .int v1), (2, .int v2), (3, .int v3)]) hg d_Model_walks_37 (Nat.le_of_ble_eq_true rfl) rfl ?_
      refine r_iconst (v := 0) hg d_Model_walks_39 (by decide) ?_
      refine r_istore (l' := [(6, .int 0), (4, .long 0), (0, .ref 125), (1, .int v1), (2, .int v2), (3, .int v3)]) hg d_Model_walks_40 (Nat.le_of_ble_eq_true rfl) rfl ?_
      refine r_sub [2, 3, 4, 5, 1, 0] rfl ?_
      exact t_Model_walks_L42 hg hA h_fuel v1 v2 v3 0 0 μ_33
    · refine r_aload_n hg 0 d_Model_walks_24 rfl rfl ?_
      refine r_iconst (v := 2) hg d_Model_walks_25 (by decide) ?_
      refine r_callV (As := [.int 2]) hg (t_Model_fails 2 μ_18) v_Model_fails c_Model rfl (by decide) rfl wm_Model_93 d_Model_walks_26 rfl ⟨by decide, by decide⟩ (Nat.le_of_ble_eq_true rfl) rfl (fun r26 μ_26 _ => ?_)
      refine r_i2l hg d_Model_walks_29 ?_
      exact r_lret hg hA rfl d_Model_walks_30 rfl
  · refine r_aload_n hg 0 d_Model_walks_7 rfl rfl ?_
    refine r_iconst (v := 1) hg d_Model_walks_8 (by decide) ?_
    refine r_callV (As := [.int 1]) hg (t_Model_fails 1 μ_1) v_Model_fails c_Model rfl (by decide) rfl wm_Model_93 d_Model_walks_9 rfl ⟨by decide, by decide⟩ (Nat.le_of_ble_eq_true rfl) rfl (fun r9 μ_9 _ => ?_)
    refine r_i2l hg d_Model_walks_12 ?_
    exact r_lret hg hA rfl d_Model_walks_13 rfl
theorem t_Model_walks (v1 : Int32) (v2 : Int32) (v3 : Int32) (μ : HMem) : HSpec y_Model_walks b_Model_walks 8 (some .long) 3 h_eJ [.ref 125, .int v1, .int v2, .int v3] μ (f_Model_walks v1 v2 v3 μ) :=
  HSpec.of (by decide +kernel) (v_Model_walks.1 _ (by simp)) (Nat.le_of_ble_eq_true rfl) (fun cx hA hg => t_Model_walks_0 hg hA v1 v2 v3 μ)
theorem t_Model_isFold_J67 {cx : HCx} (hg : HGood cx R_Model b_Model_isFold 6 3 (some .boolean)) (hA : h_own cx)  (rec_ : Int32 → Int32 → Int32 → Int32 → Int32 → HMem → Option (Int32 × HMem)) (hrec_ : p_Model_isFold_15 cx rec_) (v1 : Int32) (v2 : Int32) (v3 : Int32) (v5 : Int32) (s0 : Int32) (μ : HMem) : HX cx (HQ cx h_eI) (f_Model_isFold_J67  rec_ v1 v2 v3 v5 s0 μ) 0 0 67 [(0, .ref 125), (1, .int v1), (2, .int v2), (3, .int v3), (5, .int v5)] [.int s0] μ := by
  unfold f_Model_isFold_J67
  refine r_istore (l' := [(4, .int s0), (0, .ref 125), (1, .int v1), (2, .int v2), (3, .int v3), (5, .int v5)]) hg d_Model_isFold_67 (Nat.le_of_ble_eq_true rfl) rfl ?_
  refine r_letE (fun v5_69 he_69 => ?_)
  refine r_iinc (v := v5_69) (l' := [(5, .int v5_69), (4, .int s0), (0, .ref 125), (1, .int v1), (2, .int v2), (3, .int v3)]) hg 5 d_Model_isFold_69 rfl he_69 (Nat.le_of_ble_eq_true rfl) rfl ?_
  refine r_goto (tgt := 15) hg d_Model_isFold_72 (by decide) ?_
  refine r_sub [2, 3, 4, 5, 1, 0] rfl ?_
  exact hrec_ v1 v2 v3 s0 v5_69 μ
theorem t_Model_isFold_J62 {cx : HCx} (hg : HGood cx R_Model b_Model_isFold 6 3 (some .boolean)) (hA : h_own cx)  (rec_ : Int32 → Int32 → Int32 → Int32 → Int32 → HMem → Option (Int32 × HMem)) (hrec_ : p_Model_isFold_15 cx rec_) (v1 : Int32) (v2 : Int32) (v3 : Int32) (v5 : Int32) (μ : HMem) : HX cx (HQ cx h_eI) (f_Model_isFold_J62  rec_ v1 v2 v3 v5 μ) 0 0 62 [(0, .ref 125), (1, .int v1), (2, .int v2), (3, .int v3), (5, .int v5)] [] μ := by
  unfold f_Model_isFold_J62
  refine r_iconst (v := 1) hg d_Model_isFold_62 (by decide) ?_
  refine r_goto (tgt := 67) hg d_Model_isFold_63 (by decide) ?_
  exact t_Model_isFold_J67 hg hA rec_ hrec_ v1 v2 v3 v5 1 μ
theorem t_Model_isFold_J56 {cx : HCx} (hg : HGood cx R_Model b_Model_isFold 6 3 (some .boolean)) (hA : h_own cx)  (rec_ : Int32 → Int32 → Int32 → Int32 → Int32 → HMem → Option (Int32 × HMem)) (hrec_ : p_Model_isFold_15 cx rec_) (v1 : Int32) (v2 : Int32) (v3 : Int32) (v5 : Int32) (s0 : Int32) (s1 : Int32) (s2 : Int32) (μ : HMem) : HX cx (HQ cx h_eI) (f_Model_isFold_J56  rec_ v1 v2 v3 v5 s0 s1 s2 μ) 0 0 56 [(0, .ref 125), (1, .int v1), (2, .int v2), (3, .int v3), (5, .int v5)] [.int s0, .int s1, .int s2, .ref 125] μ := by
  unfold f_Model_isFold_J56
  refine r_callV (As := [.int s2, .int s1, .int s0]) hg (t_Model_isNear s2 s1 s0 μ) v_Model_isNear c_Model rfl (by decide) rfl wm_Model_148 d_Model_isFold_56 rfl ⟨by decide, by decide⟩ (Nat.le_of_ble_eq_true rfl) rfl (fun r56 μ_56 _ => ?_)
  refine r_if_eq (tgt := 66) hg d_Model_isFold_59 (by decide) ?_ ?_
  · refine r_iconst (v := 0) hg d_Model_isFold_66 (by decide) ?_
    exact t_Model_isFold_J67 hg hA rec_ hrec_ v1 v2 v3 v5 0 μ_56
  · exact t_Model_isFold_J62 hg hA rec_ hrec_ v1 v2 v3 v5 μ_56
theorem t_Model_isFold_L15_b {cx : HCx} (hg : HGood cx R_Model b_Model_isFold 6 3 (some .boolean)) (hA : h_own cx) (K75 : Int32 → HMem → Option (Int32 × HMem)) (hK75 : p_Model_isFold_75 cx K75) (rec_ : Int32 → Int32 → Int32 → Int32 → Int32 → HMem → Option (Int32 × HMem)) (hrec_ : p_Model_isFold_15 cx rec_) (v1 : Int32) (v2 : Int32) (v3 : Int32) (v4 : Int32) (v5 : Int32) (μ : HMem) : HX cx (HQ cx h_eI) (f_Model_isFold_L15_b K75 rec_ v1 v2 v3 v4 v5 μ) 0 0 15 [(0, .ref 125), (1, .int v1), (2, .int v2), (3, .int v3), (4, .int v4), (5, .int v5)] [] μ := by
  unfold f_Model_isFold_L15_b
  refine r_iload hg 5 d_Model_isFold_15 rfl ?_
  refine r_aload_n hg 0 d_Model_isFold_17 rfl rfl ?_
  refine r_iload_n hg 1 d_Model_isFold_18 rfl rfl ?_
  refine r_callV (As := [.int v1]) hg (t_Model_size v1 μ) v_Model_size c_Model rfl (by decide) rfl wm_Model_75 d_Model_isFold_19 rfl ⟨by decide, by decide⟩ (Nat.le_of_ble_eq_true rfl) rfl (fun r19 μ_19 _ => ?_)
  refine r_icmp_ge (tgt := 75) hg d_Model_isFold_22 (by decide) ?_ ?_
  · refine r_sub [4] rfl ?_
    exact hK75 v4 μ_19
  · refine r_iload hg 4 d_Model_isFold_25 rfl ?_
    refine r_if_eq (tgt := 75) hg d_Model_isFold_27 (by decide) ?_ ?_
    · refine r_sub [4] rfl ?_
      exact hK75 v4 μ_19
    · refine r_aload_n hg 0 d_Model_isFold_30 rfl rfl ?_
      refine r_iload_n hg 1 d_Model_isFold_31 rfl rfl ?_
      refine r_iload_n hg 2 d_Model_isFold_32 rfl rfl ?_
      refine r_iload hg 5 d_Model_isFold_33 rfl ?_
      refine r_callV (As := [.int v1, .int v2, .int v5]) hg (t_Model_isNear v1 v2 v5 μ_19) v_Model_isNear c_Model rfl (by decide) rfl wm_Model_148 d_Model_isFold_35 rfl ⟨by decide, by decide⟩ (Nat.le_of_ble_eq_true rfl) rfl (fun r35 μ_35 _ => ?_)
      refine r_if_eq (tgt := 62) hg d_Model_isFold_38 (by decide) ?_ ?_
      · refine r_sub [0, 1, 2, 3, 5] rfl ?_
        exact t_Model_isFold_J62 hg hA rec_ hrec_ v1 v2 v3 v5 μ_35
      · refine r_aload_n hg 0 d_Model_isFold_41 rfl rfl ?_
        refine r_iload_n hg 1 d_Model_isFold_42 rfl rfl ?_
        refine r_iload_n hg 3 d_Model_isFold_43 rfl rfl ?_
        refine r_iload hg 5 d_Model_isFold_44 rfl ?_
        refine r_iload_n hg 2 d_Model_isFold_46 rfl rfl ?_
        refine r_icmp_ne (tgt := 54) hg d_Model_isFold_47 (by decide) ?_ ?_
        · refine r_iload hg 5 d_Model_isFold_54 rfl ?_
          refine r_sub [0, 1, 2, 3, 5] rfl ?_
          exact t_Model_isFold_J56 hg hA rec_ hrec_ v1 v2 v3 v5 v5 v3 v1 μ_35
        · refine r_iload_n hg 3 d_Model_isFold_50 rfl rfl ?_
          refine r_goto (tgt := 56) hg d_Model_isFold_51 (by decide) ?_
          refine r_sub [0, 1, 2, 3, 5] rfl ?_
          exact t_Model_isFold_J56 hg hA rec_ hrec_ v1 v2 v3 v5 v3 v3 v1 μ_35
theorem t_Model_isFold_L15 {cx : HCx} (hg : HGood cx R_Model b_Model_isFold 6 3 (some .boolean)) (hA : h_own cx) (K75 : Int32 → HMem → Option (Int32 × HMem)) (hK75 : p_Model_isFold_75 cx K75) : ∀ (fuel : Nat) (v1 : Int32) (v2 : Int32) (v3 : Int32) (v4 : Int32) (v5 : Int32) (μ : HMem), HX cx (HQ cx h_eI) (f_Model_isFold_L15 K75 fuel v1 v2 v3 v4 v5 μ) 0 0 15 [(0, .ref 125), (1, .int v1), (2, .int v2), (3, .int v3), (4, .int v4), (5, .int v5)] [] μ
  | 0, _, _, _, _, _, _ => by unfold f_Model_isFold_L15; exact HX.none
  | fuel + 1, v1, v2, v3, v4, v5, μ => by
    rw [f_Model_isFold_L15]
    exact t_Model_isFold_L15_b hg hA  K75 hK75 (f_Model_isFold_L15 K75 fuel) (t_Model_isFold_L15 hg hA  K75 hK75 fuel) v1 v2 v3 v4 v5 μ
theorem t_Model_isFold_J75 {cx : HCx} (hg : HGood cx R_Model b_Model_isFold 6 3 (some .boolean)) (hA : h_own cx)   (v4 : Int32) (μ : HMem) : HX cx (HQ cx h_eI) (f_Model_isFold_J75   v4 μ) 0 0 75 [(4, .int v4)] [] μ := by
  unfold f_Model_isFold_J75
  refine r_iload hg 0 d_Model_isFold_75 rfl ?_
  exact r_zretB hg hA rfl d_Model_isFold_77 rfl
theorem t_Model_isFold_J10 {cx : HCx} (hg : HGood cx R_Model b_Model_isFold 6 3 (some .boolean)) (hA : h_own cx)   (v1 : Int32) (v2 : Int32) (v3 : Int32) (s0 : Int32) (μ : HMem) : HX cx (HQ cx h_eI) (f_Model_isFold_J10   v1 v2 v3 s0 μ) 0 0 10 [(0, .ref 125), (1, .int v1), (2, .int v2), (3, .int v3)] [.int s0] μ := by
  unfold f_Model_isFold_J10
  refine r_istore (l' := [(4, .int s0), (0, .ref 125), (1, .int v1), (2, .int v2), (3, .int v3)]) hg d_Model_isFold_10 (Nat.le_of_ble_eq_true rfl) rfl ?_
  refine r_iconst (v := 0) hg d_Model_isFold_12 (by decide) ?_
  refine r_istore (l' := [(5, .int 0), (4, .int s0), (0, .ref 125), (1, .int v1), (2, .int v2), (3, .int v3)]) hg d_Model_isFold_13 (Nat.le_of_ble_eq_true rfl) rfl ?_
  refine r_sub [2, 3, 4, 5, 1, 0] rfl ?_
  exact t_Model_isFold_L15 hg hA f_Model_isFold_J75 (t_Model_isFold_J75 hg hA) h_fuel v1 v2 v3 s0 0 μ
theorem t_Model_isFold_0 {cx : HCx} (hg : HGood cx R_Model b_Model_isFold 6 3 (some .boolean)) (hA : h_own cx) (v1 : Int32) (v2 : Int32) (v3 : Int32) (μ : HMem) : HX cx (HQ cx h_eI) (f_Model_isFold v1 v2 v3 μ) 0 0 0 [(0, .ref 125), (1, .int v1), (2, .int v2), (3, .int v3)] [] μ := by
  unfold f_Model_isFold
  refine r_iload_n hg 2 d_Model_isFold_0 rfl rfl ?_
  refine r_iload_n hg 3 d_Model_isFold_1 rfl rfl ?_
  refine r_icmp_eq (tgt := 9) hg d_Model_isFold_2 (by decide) ?_ ?_
  · refine r_iconst (v := 0) hg d_Model_isFold_9 (by decide) ?_
    exact t_Model_isFold_J10 hg hA v1 v2 v3 0 μ
  · refine r_iconst (v := 1) hg d_Model_isFold_5 (by decide) ?_
    refine r_goto (tgt := 10) hg d_Model_isFold_6 (by decide) ?_
    exact t_Model_isFold_J10 hg hA v1 v2 v3 1 μ
theorem t_Model_isFold (v1 : Int32) (v2 : Int32) (v3 : Int32) (μ : HMem) : HSpec y_Model_isFold b_Model_isFold 6 (some .boolean) 3 h_eI [.ref 125, .int v1, .int v2, .int v3] μ (f_Model_isFold v1 v2 v3 μ) :=
  HSpec.of (by decide +kernel) (v_Model_isFold.1 _ (by simp)) (Nat.le_of_ble_eq_true rfl) (fun cx hA hg => t_Model_isFold_0 hg hA v1 v2 v3 μ)
theorem t_Model_foldsOf_J35 {cx : HCx} (hg : HGood cx R_Model b_Model_foldsOf 5 4 (some .int)) (hA : h_own cx)  (rec_ : Int32 → Int32 → Int32 → Int32 → HMem → Option (Int32 × HMem)) (hrec_ : p_Model_foldsOf_5 cx rec_) (v1 : Int32) (v2 : Int32) (v4 : Int32) (s0 : Int32) (s1 : Int32) (μ : HMem) : HX cx (HQ cx h_eI) (f_Model_foldsOf_J35  rec_ v1 v2 v4 s0 s1 μ) 0 0 35 [(0, .ref 125), (1, .int v1), (2, .int v2), (4, .int v4)] [.int s0, .int s1] μ := by
  unfold f_Model_foldsOf_J35
  refine r_ior hg d_Model_foldsOf_35 ?_
  refine r_letI (fun v3_36 => ?_)
  refine r_istore_n (l' := [(3, .int v3_36), (0, .ref 125), (1, .int v1), (2, .int v2), (4, .int v4)]) hg d_Model_foldsOf_36 rfl (Nat.le_of_ble_eq_true rfl) rfl ?_
  refine r_letE (fun v4_37 he_37 => ?_)
  refine r_iinc (v := v4_37) (l' := [(4, .int v4_37), (3, .int v3_36), (0, .ref 125), (1, .int v1), (2, .int v2)]) hg 4 d_Model_foldsOf_37 rfl he_37 (Nat.le_of_ble_eq_true rfl) rfl ?_
  refine r_goto (tgt := 5) hg d_Model_foldsOf_40 (by decide) ?_
  refine r_sub [2, 3, 4, 1, 0] rfl ?_
  exact hrec_ v1 v2 v3_36 v4_37 μ
theorem t_Model_foldsOf_L5_b {cx : HCx} (hg : HGood cx R_Model b_Model_foldsOf 5 4 (some .int)) (hA : h_own cx)  (rec_ : Int32 → Int32 → Int32 → Int32 → HMem → Option (Int32 × HMem)) (hrec_ : p_Model_foldsOf_5 cx rec_) (v1 : Int32) (v2 : Int32) (v3 : Int32) (v4 : Int32) (μ : HMem) : HX cx (HQ cx h_eI) (f_Model_foldsOf_L5_b  rec_ v1 v2 v3 v4 μ) 0 0 5 [(0, .ref 125), (1, .int v1), (2, .int v2), (3, .int v3), (4, .int v4)] [] μ := by
  unfold f_Model_foldsOf_L5_b
  refine r_iload hg 4 d_Model_foldsOf_5 rfl ?_
  refine r_aload_n hg 0 d_Model_foldsOf_7 rfl rfl ?_
  refine r_iload_n hg 1 d_Model_foldsOf_8 rfl rfl ?_
  refine r_callV (As := [.int v1]) hg (t_Model_size v1 μ) v_Model_size c_Model rfl (by decide) rfl wm_Model_75 d_Model_foldsOf_9 rfl ⟨by decide, by decide⟩ (Nat.le_of_ble_eq_true rfl) rfl (fun r9 μ_9 _ => ?_)
  refine r_icmp_ge (tgt := 43) hg d_Model_foldsOf_12 (by decide) ?_ ?_
  · refine r_iload_n hg 3 d_Model_foldsOf_43 rfl rfl ?_
    exact r_iret hg hA rfl d_Model_foldsOf_44 rfl
  · refine r_iload_n hg 3 d_Model_foldsOf_15 rfl rfl ?_
    refine r_aload_n hg 0 d_Model_foldsOf_16 rfl rfl ?_
    refine r_iload_n hg 1 d_Model_foldsOf_17 rfl rfl ?_
    refine r_iload_n hg 2 d_Model_foldsOf_18 rfl rfl ?_
    refine r_iload hg 4 d_Model_foldsOf_19 rfl ?_
    refine r_callV (As := [.int v1, .int v2, .int v4]) hg (t_Model_isFold v1 v2 v4 μ_9) v_Model_isFold c_Model rfl (by decide) rfl wm_Model_271 d_Model_foldsOf_21 rfl ⟨by decide, by decide⟩ (Nat.le_of_ble_eq_true rfl) rfl (fun r21 μ_21 _ => ?_)
    refine r_if_eq (tgt := 34) hg d_Model_foldsOf_24 (by decide) ?_ ?_
    · refine r_iconst (v := 0) hg d_Model_foldsOf_34 (by decide) ?_
      refine r_sub [0, 1, 2, 4] rfl ?_
      exact t_Model_foldsOf_J35 hg hA rec_ hrec_ v1 v2 v4 0 v3 μ_21
    · refine r_iconst (v := 1) hg d_Model_foldsOf_27 (by decide) ?_
      refine r_iload hg 4 d_Model_foldsOf_28 rfl ?_
      refine r_ishl hg d_Model_foldsOf_30 ?_
      refine r_goto (tgt := 35) hg d_Model_foldsOf_31 (by decide) ?_
      refine r_sub [0, 1, 2, 4] rfl ?_
      exact t_Model_foldsOf_J35 hg hA rec_ hrec_ v1 v2 v4 (h_ishl 1 v4) v3 μ_21
theorem t_Model_foldsOf_L5 {cx : HCx} (hg : HGood cx R_Model b_Model_foldsOf 5 4 (some .int)) (hA : h_own cx)  : ∀ (fuel : Nat) (v1 : Int32) (v2 : Int32) (v3 : Int32) (v4 : Int32) (μ : HMem), HX cx (HQ cx h_eI) (f_Model_foldsOf_L5  fuel v1 v2 v3 v4 μ) 0 0 5 [(0, .ref 125), (1, .int v1), (2, .int v2), (3, .int v3), (4, .int v4)] [] μ
  | 0, _, _, _, _, _ => by unfold f_Model_foldsOf_L5; exact HX.none
  | fuel + 1, v1, v2, v3, v4, μ => by
    rw [f_Model_foldsOf_L5]
    exact t_Model_foldsOf_L5_b hg hA   (f_Model_foldsOf_L5  fuel) (t_Model_foldsOf_L5 hg hA   fuel) v1 v2 v3 v4 μ
theorem t_Model_foldsOf_0 {cx : HCx} (hg : HGood cx R_Model b_Model_foldsOf 5 4 (some .int)) (hA : h_own cx) (v1 : Int32) (v2 : Int32) (μ : HMem) : HX cx (HQ cx h_eI) (f_Model_foldsOf v1 v2 μ) 0 0 0 [(0, .ref 125), (1, .int v1), (2, .int v2)] [] μ := by
  unfold f_Model_foldsOf
  refine r_iconst (v := 0) hg d_Model_foldsOf_0 (by decide) ?_
  refine r_istore_n (l' := [(3, .int 0), (0, .ref 125), (1, .int v1), (2, .int v2)]) hg d_Model_foldsOf_1 rfl (Nat.le_of_ble_eq_true rfl) rfl ?_
  refine r_iconst (v := 0) hg d_Model_foldsOf_2 (by decide) ?_
  refine r_istore (l' := [(4, .int 0), (3, .int 0), (0, .ref 125), (1, .int v1), (2, .int v2)]) hg d_Model_foldsOf_3 (Nat.le_of_ble_eq_true rfl) rfl ?_
  refine r_sub [2, 3, 4, 1, 0] rfl ?_
  exact t_Model_foldsOf_L5 hg hA h_fuel v1 v2 0 0 μ
theorem t_Model_foldsOf (v1 : Int32) (v2 : Int32) (μ : HMem) : HSpec y_Model_foldsOf b_Model_foldsOf 5 (some .int) 4 h_eI [.ref 125, .int v1, .int v2] μ (f_Model_foldsOf v1 v2 μ) :=
  HSpec.of (by decide +kernel) (v_Model_foldsOf.1 _ (by simp)) (Nat.le_of_ble_eq_true rfl) (fun cx hA hg => t_Model_foldsOf_0 hg hA v1 v2 μ)
theorem t_Model_folds_J27 {cx : HCx} (hg : HGood cx R_Model b_Model_folds 3 5 (some .int)) (hA : h_own cx)   (s0 : Int32) (μ : HMem) : HX cx (HQ cx h_eI) (f_Model_folds_J27   s0 μ) 0 0 27 [] [.int s0] μ := by
  unfold f_Model_folds_J27
  exact r_iret hg hA rfl d_Model_folds_27 rfl
theorem t_Model_folds_0 {cx : HCx} (hg : HGood cx R_Model b_Model_folds 3 5 (some .int)) (hA : h_own cx) (v1 : Int32) (v2 : Int32) (μ : HMem) : HX cx (HQ cx h_eI) (f_Model_folds v1 v2 μ) 0 0 0 [(0, .ref 125), (1, .int v1), (2, .int v2)] [] μ := by
  unfold f_Model_folds
  refine r_aload_n hg 0 d_Model_folds_0 rfl rfl ?_
  refine r_iload_n hg 1 d_Model_folds_1 rfl rfl ?_
  refine r_iload_n hg 2 d_Model_folds_2 rfl rfl ?_
  refine r_callV (As := [.int v1, .int v2]) hg (t_Model_isVertex v1 v2 μ) v_Model_isVertex c_Model rfl (by decide) rfl wm_Model_103 d_Model_folds_3 rfl ⟨by decide, by decide⟩ (Nat.le_of_ble_eq_true rfl) rfl (fun r3 μ_3 _ => ?_)
  refine r_if_eq (tgt := 22) hg d_Model_folds_6 (by decide) ?_ ?_
  · refine r_aload_n hg 0 d_Model_folds_22 rfl rfl ?_
    refine r_iconst (v := 1) hg d_Model_folds_23 (by decide) ?_
    refine r_callV (As := [.int 1]) hg (t_Model_fails 1 μ_3) v_Model_fails c_Model rfl (by decide) rfl wm_Model_93 d_Model_folds_24 rfl ⟨by decide, by decide⟩ (Nat.le_of_ble_eq_true rfl) rfl (fun r24 μ_24 _ => ?_)
    refine r_sub [] rfl ?_
    exact t_Model_folds_J27 hg hA r24 μ_24
  · refine r_aload_n hg 0 d_Model_folds_9 rfl rfl ?_
    refine r_aload_n hg 0 d_Model_folds_10 rfl rfl ?_
    refine r_iload_n hg 1 d_Model_folds_11 rfl rfl ?_
    refine r_iload_n hg 2 d_Model_folds_12 rfl rfl ?_
    refine r_callV (As := [.int v1, .int v2]) hg (t_Model_foldsOf v1 v2 μ_3) v_Model_foldsOf c_Model rfl (by decide) rfl wm_Model_274 d_Model_folds_13 rfl ⟨by decide, by decide⟩ (Nat.le_of_ble_eq_true rfl) rfl (fun r13 μ_13 _ => ?_)
    refine r_callV (As := [.int r13]) hg (t_Model_tells r13 μ_13) v_Model_tells c_Model rfl (by decide) rfl wm_Model_171 d_Model_folds_16 rfl ⟨by decide, by decide⟩ (Nat.le_of_ble_eq_true rfl) rfl (fun r16 μ_16 _ => ?_)
    refine r_goto (tgt := 27) hg d_Model_folds_19 (by decide) ?_
    refine r_sub [] rfl ?_
    exact t_Model_folds_J27 hg hA r16 μ_16
theorem t_Model_folds (v1 : Int32) (v2 : Int32) (μ : HMem) : HSpec y_Model_folds b_Model_folds 3 (some .int) 5 h_eI [.ref 125, .int v1, .int v2] μ (f_Model_folds v1 v2 μ) :=
  HSpec.of (by decide +kernel) (v_Model_folds.1 _ (by simp)) (Nat.le_of_ble_eq_true rfl) (fun cx hA hg => t_Model_folds_0 hg hA v1 v2 μ)
theorem t_Model_lowestFolded_J28 {cx : HCx} (hg : HGood cx R_Model b_Model_lowestFolded 4 5 (some .int)) (hA : h_own cx)  (rec_ : Int32 → Int32 → Int32 → HMem → Option (Int32 × HMem)) (hrec_ : p_Model_lowestFolded_10 cx rec_) (v1 : Int32) (v3 : Int32) (s0 : Int32) (μ : HMem) : HX cx (HQ cx h_eI) (f_Model_lowestFolded_J28  rec_ v1 v3 s0 μ) 0 0 28 [(0, .ref 125), (1, .int v1), (3, .int v3)] [.int s0] μ := by
  unfold f_Model_lowestFolded_J28
  refine r_istore_n (l' := [(2, .int s0), (0, .ref 125), (1, .int v1), (3, .int v3)]) hg d_Model_lowestFolded_28 rfl (Nat.le_of_ble_eq_true rfl) rfl ?_
  refine r_letE (fun v3_29 he_29 => ?_)
  refine r_iinc (v := v3_29) (l' := [(3, .int v3_29), (2, .int s0), (0, .ref 125), (1, .int v1)]) hg 3 d_Model_lowestFolded_29 rfl he_29 (Nat.le_of_ble_eq_true rfl) rfl ?_
  refine r_goto (tgt := 10) hg d_Model_lowestFolded_32 (by decide) ?_
  refine r_sub [2, 3, 1, 0] rfl ?_
  exact hrec_ v1 s0 v3_29 μ
theorem t_Model_lowestFolded_L10_b {cx : HCx} (hg : HGood cx R_Model b_Model_lowestFolded 4 5 (some .int)) (hA : h_own cx)  (rec_ : Int32 → Int32 → Int32 → HMem → Option (Int32 × HMem)) (hrec_ : p_Model_lowestFolded_10 cx rec_) (v1 : Int32) (v2 : Int32) (v3 : Int32) (μ : HMem) : HX cx (HQ cx h_eI) (f_Model_lowestFolded_L10_b  rec_ v1 v2 v3 μ) 0 0 10 [(0, .ref 125), (1, .int v1), (2, .int v2), (3, .int v3)] [] μ := by
  unfold f_Model_lowestFolded_L10_b
  refine r_iload_n hg 3 d_Model_lowestFolded_10 rfl rfl ?_
  refine r_if_lt (tgt := 35) hg d_Model_lowestFolded_11 (by decide) ?_ ?_
  · refine r_iload_n hg 2 d_Model_lowestFolded_35 rfl rfl ?_
    exact r_iret hg hA rfl d_Model_lowestFolded_36 rfl
  · refine r_aload_n hg 0 d_Model_lowestFolded_14 rfl rfl ?_
    refine r_iload_n hg 1 d_Model_lowestFolded_15 rfl rfl ?_
    refine r_iload_n hg 3 d_Model_lowestFolded_16 rfl rfl ?_
    refine r_callV (As := [.int v1, .int v3]) hg (t_Model_foldsOf v1 v3 μ) v_Model_foldsOf c_Model rfl (by decide) rfl wm_Model_274 d_Model_lowestFolded_17 rfl ⟨by decide, by decide⟩ (Nat.le_of_ble_eq_true rfl) rfl (fun r17 μ_17 _ => ?_)
    refine r_if_eq (tgt := 27) hg d_Model_lowestFolded_20 (by decide) ?_ ?_
    · refine r_iload_n hg 2 d_Model_lowestFolded_27 rfl rfl ?_
      refine r_sub [0, 1, 3] rfl ?_
      exact t_Model_lowestFolded_J28 hg hA rec_ hrec_ v1 v3 v2 μ_17
    · refine r_iload_n hg 3 d_Model_lowestFolded_23 rfl rfl ?_
      refine r_goto (tgt := 28) hg d_Model_lowestFolded_24 (by decide) ?_
      refine r_sub [0, 1, 3] rfl ?_
      exact t_Model_lowestFolded_J28 hg hA rec_ hrec_ v1 v3 v3 μ_17
theorem t_Model_lowestFolded_L10 {cx : HCx} (hg : HGood cx R_Model b_Model_lowestFolded 4 5 (some .int)) (hA : h_own cx)  : ∀ (fuel : Nat) (v1 : Int32) (v2 : Int32) (v3 : Int32) (μ : HMem), HX cx (HQ cx h_eI) (f_Model_lowestFolded_L10  fuel v1 v2 v3 μ) 0 0 10 [(0, .ref 125), (1, .int v1), (2, .int v2), (3, .int v3)] [] μ
  | 0, _, _, _, _ => by unfold f_Model_lowestFolded_L10; exact HX.none
  | fuel + 1, v1, v2, v3, μ => by
    rw [f_Model_lowestFolded_L10]
    exact t_Model_lowestFolded_L10_b hg hA   (f_Model_lowestFolded_L10  fuel) (t_Model_lowestFolded_L10 hg hA   fuel) v1 v2 v3 μ
theorem t_Model_lowestFolded_0 {cx : HCx} (hg : HGood cx R_Model b_Model_lowestFolded 4 5 (some .int)) (hA : h_own cx) (v1 : Int32) (μ : HMem) : HX cx (HQ cx h_eI) (f_Model_lowestFolded v1 μ) 0 0 0 [(0, .ref 125), (1, .int v1)] [] μ := by
  unfold f_Model_lowestFolded
  refine r_iconst (v := -1) hg d_Model_lowestFolded_0 (by decide) ?_
  refine r_istore_n (l' := [(2, .int (-1)), (0, .ref 125), (1, .int v1)]) hg d_Model_lowestFolded_1 rfl (Nat.le_of_ble_eq_true rfl) rfl ?_
  refine r_aload_n hg 1 d_Model_lowestFolded_2 rfl rfl ?_
  refine r_iload_n hg 2 d_Model_lowestFolded_3 rfl rfl ?_
  refine r_callV (As := [.int v1]) hg (t_Model_size v1 μ) v_Model_size c_Model rfl (by decide) rfl wm_Model_75 d_Model_lowestFolded_4 rfl ⟨by decide, by decide⟩ (Nat.le_of_ble_eq_true rfl) rfl (fun r4 μ_4 _ => ?_)
  refine r_iconst (v := 1) hg d_Model_lowestFolded_7 (by decide) ?_
  refine r_isub hg d_Model_lowestFolded_8 ?_
  refine r_letI (fun v3_9 => ?_)
  refine r_istore_n (l' := [(3, .int v3_9), (2, .int (-1)), (0, .ref 125), (1, .int v1)]) hg d_Model_lowestFolded_9 rfl (Nat.le_of_ble_eq_true rfl) rfl ?_
  refine r_sub [2, 3, 1, 0] rfl ?_
  exact t_Model_lowestFolded_L10 hg hA h_fuel v1 (-1) v3_9 μ_4
theorem t_Model_lowestFolded (v1 : Int32) (μ : HMem) : HSpec y_Model_lowestFolded b_Model_lowestFolded 4 (some .int) 5 h_eI [.ref 125, .int v1] μ (f_Model_lowestFolded v1 μ) :=
  HSpec.of (by decide +kernel) (v_Model_lowestFolded.1 _ (by simp)) (Nat.le_of_ble_eq_true rfl) (fun cx hA hg => t_Model_lowestFolded_0 hg hA v1 μ)
theorem t_Model_dismantle_L27_b {cx : HCx} (hg : HGood cx R_Model b_Model_dismantle 4 6 (some .int)) (hA : h_own cx) (K50 : Int32 → Int32 → HMem → Option (Int32 × HMem)) (hK50 : p_Model_dismantle_50 cx K50) (rec_ : Int32 → Int32 → Int32 → HMem → Option (Int32 × HMem)) (hrec_ : p_Model_dismantle_27 cx rec_) (v1 : Int32) (v2 : Int32) (v3 : Int32) (μ : HMem) : HX cx (HQ cx h_eI) (f_Model_dismantle_L27_b K50 rec_ v1 v2 v3 μ) 0 0 27 [(0, .ref 125), (1, .int v1), (2, .int v2), (3, .int v3)] [] μ := by
  unfold f_Model_dismantle_L27_b
  refine r_iload_n hg 3 d_Model_dismantle_27 rfl rfl ?_
  refine r_iconst (v := -1) hg d_Model_dismantle_28 (by decide) ?_
  refine r_icmp_eq (tgt := 50) hg d_Model_dismantle_29 (by decide) ?_ ?_
  · refine r_sub [0, 1, 2] rfl ?_
    exact hK50 v1 v2 μ
  · refine r_aload_n hg 0 d_Model_dismantle_32 rfl rfl ?_
    refine r_iconst (v := 4) hg d_Model_dismantle_33 (by decide) ?_
    refine r_iload_n hg 3 d_Model_dismantle_34 rfl rfl ?_
    refine r_callV (As := [.int 4, .int v3]) hg (t_Model_drops 4 v3 μ) v_Model_drops c_Model rfl (by decide) rfl wm_Model_280 d_Model_dismantle_35 rfl ⟨by decide, by decide⟩ (Nat.le_of_ble_eq_true rfl) rfl (fun r35 μ_35 _ => ?_)
    refine r_letE (fun v2_38 he_38 => ?_)
    refine r_iinc (v := v2_38) (l' := [(2, .int v2_38), (0, .ref 125), (1, .int v1), (3, .int v3)]) hg 2 d_Model_dismantle_38 rfl he_38 (Nat.le_of_ble_eq_true rfl) rfl ?_
    refine r_aload_n hg 1 d_Model_dismantle_41 rfl rfl ?_
    refine r_iconst (v := 4) hg d_Model_dismantle_42 (by decide) ?_
    refine r_callV (As := [.int 4]) hg (t_Model_lowestFolded 4 μ_35) v_Model_lowestFolded c_Model rfl (by decide) rfl wm_Model_277 d_Model_dismantle_43 rfl ⟨by decide, by decide⟩ (Nat.le_of_ble_eq_true rfl) rfl (fun r43 μ_43 _ => ?_)
    refine r_istore_n (l' := [(3, .int r43), (2, .int v2_38), (0, .ref 125), (1, .int v1)]) hg d_Model_dismantle_46 rfl (Nat.le_of_ble_eq_true rfl) rfl ?_
    refine r_goto (tgt := 27) hg d_Model_dismantle_47 (by decide) ?_
    refine r_sub [2, 3, 1, 0] rfl ?_
    exact hrec_ v1 v2_38 r43 μ_43
theorem t_Model_dismantle_L27 {cx : HCx} (hg : HGood cx R_Model b_Model_dismantle 4 6 (some .int)) (hA : h_own cx) (K50 : Int32 → Int32 → HMem → Option (Int32 × HMem)) (hK50 : p_Model_dismantle_50 cx K50) : ∀ (fuel : Nat) (v1 : Int32) (v2 : Int32) (v3 : Int32) (μ : HMem), HX cx (HQ cx h_eI) (f_Model_dismantle_L27 K50 fuel v1 v2 v3 μ) 0 0 27 [(0, .ref 125), (1, .int v1), (2, .int v2), (3, .int v3)] [] μ
  | 0, _, _, _, _ => by unfold f_Model_dismantle_L27; exact HX.none
  | fuel + 1, v1, v2, v3, μ => by
    rw [f_Model_dismantle_L27]
    exact t_Model_dismantle_L27_b hg hA  K50 hK50 (f_Model_dismantle_L27 K50 fuel) (t_Model_dismantle_L27 hg hA  K50 hK50 fuel) v1 v2 v3 μ
theorem t_Model_dismantle_J50 {cx : HCx} (hg : HGood cx R_Model b_Model_dismantle 4 6 (some .int)) (hA : h_own cx)   (v1 : Int32) (v2 : Int32) (μ : HMem) : HX cx (HQ cx h_eI) (f_Model_dismantle_J50   v1 v2 μ) 0 0 50 [(0, .ref 125), (1, .int v1), (2, .int v2)] [] μ := by
  unfold f_Model_dismantle_J50
  refine r_aload_n hg 0 d_Model_dismantle_50 rfl rfl ?_
  refine r_iload_n hg 1 d_Model_dismantle_51 rfl rfl ?_
  refine r_callV (As := [.int v1]) hg (t_Model_keeps v1 μ) v_Model_keeps c_Model rfl (by decide) rfl wm_Model_99 d_Model_dismantle_52 rfl ⟨by decide, by decide⟩ (Nat.le_of_ble_eq_true rfl) rfl (fun r52 μ_52 _ => ?_)
  refine r_iload_n hg 2 d_Model_dismantle_55 rfl rfl ?_
  exact r_iret hg hA rfl d_Model_dismantle_56 rfl
theorem t_Model_dismantle_0 {cx : HCx} (hg : HGood cx R_Model b_Model_dismantle 4 6 (some .int)) (hA : h_own cx) (v1 : Int32) (μ : HMem) : HX cx (HQ cx h_eI) (f_Model_dismantle v1 μ) 0 0 0 [(0, .ref 125), (1, .int v1)] [] μ := by
  unfold f_Model_dismantle
  refine r_iload_n hg 1 d_Model_dismantle_0 rfl rfl ?_
  refine r_callS (As := [.int v1]) hg (t_Model_isGraph v1 μ) v_Model_isGraph wm_Model_71 d_Model_dismantle_1 rfl ⟨by decide, by decide⟩ (Nat.le_of_ble_eq_true rfl) rfl (fun r1 μ_1 _ => ?_)
  refine r_if_ne (tgt := 13) hg d_Model_dismantle_4 (by decide) ?_ ?_
  · refine r_aload_n hg 0 d_Model_dismantle_13 rfl rfl ?_
    refine r_iload_n hg 1 d_Model_dismantle_14 rfl rfl ?_
    refine r_iconst (v := 4) hg d_Model_dismantle_15 (by decide) ?_
    refine r_callV (As := [.int v1, .int 4]) hg (t_Model_copies v1 4 μ_1) v_Model_copies c_Model rfl (by decide) rfl wm_Model_89 d_Model_dismantle_16 rfl ⟨by decide, by decide⟩ (Nat.le_of_ble_eq_true rfl) rfl (fun r16 μ_16 _ => ?_)
    refine r_iconst (v := 0) hg d_Model_dismantle_19 (by decide) ?_
    refine r_istore_n (l' := [(2, .int 0), (0, .ref 125), (1, .int v1)]) hg d_Model_dismantle_20 rfl (Nat.le_of_ble_eq_true rfl) rfl ?_
    refine r_aload_n hg 1 d_Model_dismantle_21 rfl rfl ?_
    refine r_iconst (v := 4) hg d_Model_dismantle_22 (by decide) ?_
    refine r_callV (As := [.int 4]) hg (t_Model_lowestFolded 4 μ_16) v_Model_lowestFolded c_Model rfl (by decide) rfl wm_Model_277 d_Model_dismantle_23 rfl ⟨by decide, by decide⟩ (Nat.le_of_ble_eq_true rfl) rfl (fun r23 μ_23 _ => ?_)
    refine r_istore_n (l' := [(3, .int r23), (2, .int 0), (0, .ref 125), (1, .int v1)]) hg d_Model_dismantle_26 rfl (Nat.le_of_ble_eq_true rfl) rfl ?_
    refine r_sub [2, 3, 1, 0] rfl ?_
    exact t_Model_dismantle_L27 hg hA f_Model_dismantle_J50 (t_Model_dismantle_J50 hg hA) h_fuel v1 0 r23 μ_23
  · refine r_aload_n hg 0 d_Model_dismantle_7 rfl rfl ?_
    refine r_iconst (v := 1) hg d_Model_dismantle_8 (by decide) ?_
    refine r_callV (As := [.int 1]) hg (t_Model_fails 1 μ_1) v_Model_fails c_Model rfl (by decide) rfl wm_Model_93 d_Model_dismantle_9 rfl ⟨by decide, by decide⟩ (Nat.le_of_ble_eq_true rfl) rfl (fun r9 μ_9 _ => ?_)
    exact r_iret hg hA rfl d_Model_dismantle_12 rfl
theorem t_Model_dismantle (v1 : Int32) (μ : HMem) : HSpec y_Model_dismantle b_Model_dismantle 4 (some .int) 6 h_eI [.ref 125, .int v1] μ (f_Model_dismantle v1 μ) :=
  HSpec.of (by decide +kernel) (v_Model_dismantle.1 _ (by simp)) (Nat.le_of_ble_eq_true rfl) (fun cx hA hg => t_Model_dismantle_0 hg hA v1 μ)
theorem t_Model_isCore_J37 {cx : HCx} (hg : HGood cx R_Model b_Model_isCore 2 8 (some .boolean)) (hA : h_own cx)   (s0 : Int32) (μ : HMem) : HX cx (HQ cx h_eI) (f_Model_isCore_J37   s0 μ) 0 0 37 [] [.int s0] μ := by
  unfold f_Model_isCore_J37
  exact r_zretB hg hA rfl d_Model_isCore_37 rfl
theorem t_Model_isCore_J36 {cx : HCx} (hg : HGood cx R_Model b_Model_isCore 2 8 (some .boolean)) (hA : h_own cx)    (μ : HMem) : HX cx (HQ cx h_eI) (f_Model_isCore_J36   μ) 0 0 36 [] [] μ := by
  unfold f_Model_isCore_J36
  refine r_iconst (v := 0) hg d_Model_isCore_36 (by decide) ?_
  exact t_Model_isCore_J37 hg hA 0 μ
theorem t_Model_isCore_J13 {cx : HCx} (hg : HGood cx R_Model b_Model_isCore 2 8 (some .boolean)) (hA : h_own cx)   (v1 : Int32) (s0 : Int32) (μ : HMem) : HX cx (HQ cx h_eI) (f_Model_isCore_J13   v1 s0 μ) 0 0 13 [(0, .ref 125), (1, .int v1)] [.int s0, .ref 125] μ := by
  unfold f_Model_isCore_J13
  refine r_put hg c_Model t_Model_ok n_Model (by decide) rfl (Nat.le_of_ble_eq_true rfl) rfl rfl (by decide +kernel) wf_Model_63 d_Model_isCore_13 ?_
  refine r_letM (fun μ_13 => ?_)
  refine r_aload_n hg 0 d_Model_isCore_16 rfl rfl ?_
  refine r_get (v := .int (μ_13.1 125 5)) hg c_Model (by decide) rfl (Nat.le_of_ble_eq_true rfl) rfl wf_Model_63 d_Model_isCore_17 rfl ?_
  refine r_if_ne (tgt := 36) hg d_Model_isCore_20 (by decide) ?_ ?_
  · refine r_sub [] rfl ?_
    exact t_Model_isCore_J36 hg hA μ_13
  · refine r_aload_n hg 0 d_Model_isCore_23 rfl rfl ?_
    refine r_iload_n hg 1 d_Model_isCore_24 rfl rfl ?_
    refine r_callV (As := [.int v1]) hg (t_Model_lowestSpared v1 μ_13) v_Model_lowestSpared c_Model rfl (by decide) rfl wm_Model_283 d_Model_isCore_25 rfl ⟨by decide, by decide⟩ (Nat.le_of_ble_eq_true rfl) rfl (fun r25 μ_25 _ => ?_)
    refine r_iconst (v := -1) hg d_Model_isCore_28 (by decide) ?_
    refine r_icmp_ne (tgt := 36) hg d_Model_isCore_29 (by decide) ?_ ?_
    · refine r_sub [] rfl ?_
      exact t_Model_isCore_J36 hg hA μ_25
    · refine r_iconst (v := 1) hg d_Model_isCore_32 (by decide) ?_
      refine r_goto (tgt := 37) hg d_Model_isCore_33 (by decide) ?_
      refine r_sub [] rfl ?_
      exact t_Model_isCore_J37 hg hA 1 μ_25
theorem t_Model_isCore_0 {cx : HCx} (hg : HGood cx R_Model b_Model_isCore 2 8 (some .boolean)) (hA : h_own cx) (v1 : Int32) (μ : HMem) : HX cx (HQ cx h_eI) (f_Model_isCore v1 μ) 0 0 0 [(0, .ref 125), (1, .int v1)] [] μ := by
  unfold f_Model_isCore
  refine r_aload_n hg 0 d_Model_isCore_0 rfl rfl ?_
  refine r_iload_n hg 1 d_Model_isCore_1 rfl rfl ?_
  refine r_callS (As := [.int v1]) hg (t_Model_isGraph v1 μ) v_Model_isGraph wm_Model_71 d_Model_isCore_2 rfl ⟨by decide, by decide⟩ (Nat.le_of_ble_eq_true rfl) rfl (fun r2 μ_2 _ => ?_)
  refine r_if_eq (tgt := 12) hg d_Model_isCore_5 (by decide) ?_ ?_
  · refine r_iconst (v := 1) hg d_Model_isCore_12 (by decide) ?_
    exact t_Model_isCore_J13 hg hA v1 1 μ_2
  · refine r_iconst (v := 0) hg d_Model_isCore_8 (by decide) ?_
    refine r_goto (tgt := 13) hg d_Model_isCore_9 (by decide) ?_
    exact t_Model_isCore_J13 hg hA v1 0 μ_2
theorem t_Model_isCore (v1 : Int32) (μ : HMem) : HSpec y_Model_isCore b_Model_isCore 2 (some .boolean) 8 h_eI [.ref 125, .int v1] μ (f_Model_isCore v1 μ) :=
  HSpec.of (by decide +kernel) (v_Model_isCore.1 _ (by simp)) (Nat.le_of_ble_eq_true rfl) (fun cx hA hg => t_Model_isCore_0 hg hA v1 μ)
theorem t_Model_coreOf_0 {cx : HCx} (hg : HGood cx R_Model b_Model_coreOf 2 9 (some .int)) (hA : h_own cx) (v1 : Int32) (μ : HMem) : HX cx (HQ cx h_eI) (f_Model_coreOf v1 μ) 0 0 0 [(0, .ref 125), (1, .int v1)] [] μ := by
  unfold f_Model_coreOf
  refine r_aload_n hg 0 d_Model_coreOf_0 rfl rfl ?_
  refine r_iload_n hg 1 d_Model_coreOf_1 rfl rfl ?_
  refine r_iconst (v := 4) hg d_Model_coreOf_2 (by decide) ?_
  refine r_callV (As := [.int v1, .int 4]) hg (t_Model_copies v1 4 μ) v_Model_copies c_Model rfl (by decide) rfl wm_Model_89 d_Model_coreOf_3 rfl ⟨by decide, by decide⟩ (Nat.le_of_ble_eq_true rfl) rfl (fun r3 μ_3 _ => ?_)
  refine r_aload_n hg 0 d_Model_coreOf_6 rfl rfl ?_
  refine r_callV (As := []) hg (t_Model_shrinks  μ_3) v_Model_shrinks c_Model rfl (by decide) rfl wm_Model_154 d_Model_coreOf_7 rfl ⟨by decide, by decide⟩ (Nat.le_of_ble_eq_true rfl) rfl (fun r7 μ_7 _ => ?_)
  exact r_iret hg hA rfl d_Model_coreOf_10 rfl
theorem t_Model_coreOf (v1 : Int32) (μ : HMem) : HSpec y_Model_coreOf b_Model_coreOf 2 (some .int) 9 h_eI [.ref 125, .int v1] μ (f_Model_coreOf v1 μ) :=
  HSpec.of (by decide +kernel) (v_Model_coreOf.1 _ (by simp)) (Nat.le_of_ble_eq_true rfl) (fun cx hA hg => t_Model_coreOf_0 hg hA v1 μ)
theorem t_Model_coreSize_J24 {cx : HCx} (hg : HGood cx R_Model b_Model_coreSize 2 10 (some .int)) (hA : h_own cx)   (s0 : Int32) (μ : HMem) : HX cx (HQ cx h_eI) (f_Model_coreSize_J24   s0 μ) 0 0 24 [] [.int s0] μ := by
  unfold f_Model_coreSize_J24
  exact r_iret hg hA rfl d_Model_coreSize_24 rfl
theorem t_Model_coreSize_0 {cx : HCx} (hg : HGood cx R_Model b_Model_coreSize 2 10 (some .int)) (hA : h_own cx) (v1 : Int32) (μ : HMem) : HX cx (HQ cx h_eI) (f_Model_coreSize v1 μ) 0 0 0 [(0, .ref 125), (1, .int v1)] [] μ := by
  unfold f_Model_coreSize
  refine r_iload_n hg 1 d_Model_coreSize_0 rfl rfl ?_
  refine r_callS (As := [.int v1]) hg (t_Model_isGraph v1 μ) v_Model_isGraph wm_Model_71 d_Model_coreSize_1 rfl ⟨by decide, by decide⟩ (Nat.le_of_ble_eq_true rfl) rfl (fun r1 μ_1 _ => ?_)
  refine r_if_eq (tgt := 19) hg d_Model_coreSize_4 (by decide) ?_ ?_
  · refine r_aload_n hg 0 d_Model_coreSize_19 rfl rfl ?_
    refine r_iconst (v := 1) hg d_Model_coreSize_20 (by decide) ?_
    refine r_callV (As := [.int 1]) hg (t_Model_fails 1 μ_1) v_Model_fails c_Model rfl (by decide) rfl wm_Model_93 d_Model_coreSize_21 rfl ⟨by decide, by decide⟩ (Nat.le_of_ble_eq_true rfl) rfl (fun r21 μ_21 _ => ?_)
    refine r_sub [] rfl ?_
    exact t_Model_coreSize_J24 hg hA r21 μ_21
  · refine r_aload_n hg 0 d_Model_coreSize_7 rfl rfl ?_
    refine r_aload_n hg 0 d_Model_coreSize_8 rfl rfl ?_
    refine r_iload_n hg 1 d_Model_coreSize_9 rfl rfl ?_
    refine r_callV (As := [.int v1]) hg (t_Model_coreOf v1 μ_1) v_Model_coreOf c_Model rfl (by decide) rfl wm_Model_286 d_Model_coreSize_10 rfl ⟨by decide, by decide⟩ (Nat.le_of_ble_eq_true rfl) rfl (fun r10 μ_10 _ => ?_)
    refine r_callV (As := [.int r10]) hg (t_Model_tells r10 μ_10) v_Model_tells c_Model rfl (by decide) rfl wm_Model_171 d_Model_coreSize_13 rfl ⟨by decide, by decide⟩ (Nat.le_of_ble_eq_true rfl) rfl (fun r13 μ_13 _ => ?_)
    refine r_goto (tgt := 24) hg d_Model_coreSize_16 (by decide) ?_
    refine r_sub [] rfl ?_
    exact t_Model_coreSize_J24 hg hA r13 μ_13
theorem t_Model_coreSize (v1 : Int32) (μ : HMem) : HSpec y_Model_coreSize b_Model_coreSize 2 (some .int) 10 h_eI [.ref 125, .int v1] μ (f_Model_coreSize v1 μ) :=
  HSpec.of (by decide +kernel) (v_Model_coreSize.1 _ (by simp)) (Nat.le_of_ble_eq_true rfl) (fun cx hA hg => t_Model_coreSize_0 hg hA v1 μ)
theorem t_Model_append_0 {cx : HCx} (hg : HGood cx R_Model b_Model_append 2 2 (some .int)) (hA : h_own cx) (v1 : Int32) (μ : HMem) : HX cx (HQ cx h_eI) (f_Model_append v1 μ) 0 0 0 [(0, .ref 125), (1, .int v1)] [] μ := by
  unfold f_Model_append
  refine r_iload_n hg 1 d_Model_append_0 rfl rfl ?_
  refine r_iconst (v := 0) hg d_Model_append_1 (by decide) ?_
  refine r_bipush (v := 127) hg d_Model_append_2 (by decide) ?_
  refine r_callS (As := [.int v1, .int 0, .int 127]) hg (t_Model_in v1 0 127 μ) v_Model_in wm_Model_67 d_Model_append_4 rfl ⟨by decide, by decide⟩ (Nat.le_of_ble_eq_true rfl) rfl (fun r4 μ_4 _ => ?_)
  refine r_if_ne (tgt := 16) hg d_Model_append_7 (by decide) ?_ ?_
  · refine r_aload_n hg 0 d_Model_append_16 rfl rfl ?_
    refine r_get (v := .int (μ_4.1 125 4)) hg c_Model (by decide) rfl (Nat.le_of_ble_eq_true rfl) rfl wf_Model_289 d_Model_append_17 rfl ?_
    refine r_bipush (v := 120) hg d_Model_append_20 (by decide) ?_
    refine r_icmp_ne (tgt := 31) hg d_Model_append_22 (by decide) ?_ ?_
    · refine r_aload_n hg 0 d_Model_append_31 rfl rfl ?_
      refine r_get (v := .ref 128) hg c_Model (by decide) rfl (Nat.le_of_ble_eq_true rfl) rfl wf_Model_16 d_Model_append_32 rfl ?_
      refine r_aload_n hg 0 d_Model_append_35 rfl rfl ?_
      refine r_get (v := .int (μ_4.1 125 4)) hg c_Model (by decide) rfl (Nat.le_of_ble_eq_true rfl) rfl wf_Model_289 d_Model_append_36 rfl ?_
      refine r_iload_n hg 1 d_Model_append_39 rfl rfl ?_
      refine r_iast hg (by decide) rfl d_Model_append_40 ?_
      refine r_letM (fun μ_40 => ?_)
      refine r_aload_n hg 0 d_Model_append_41 rfl rfl ?_
      refine r_dup hg d_Model_append_42 rfl ?_
      refine r_get (v := .int (μ_40.1 125 4)) hg c_Model (by decide) rfl (Nat.le_of_ble_eq_true rfl) rfl wf_Model_289 d_Model_append_43 rfl ?_
      refine r_iconst (v := 1) hg d_Model_append_46 (by decide) ?_
      refine r_iadd hg d_Model_append_47 ?_
      refine r_put hg c_Model t_Model_ok n_Model (by decide) rfl (Nat.le_of_ble_eq_true rfl) rfl rfl (by decide +kernel) wf_Model_289 d_Model_append_48 ?_
      refine r_letM (fun μ_48 => ?_)
      refine r_aload_n hg 0 d_Model_append_51 rfl rfl ?_
      refine r_aload_n hg 0 d_Model_append_52 rfl rfl ?_
      refine r_get (v := .int (μ_48.1 125 4)) hg c_Model (by decide) rfl (Nat.le_of_ble_eq_true rfl) rfl wf_Model_289 d_Model_append_53 rfl ?_
      refine r_callV (As := [.int (μ_48.1 125 4)]) hg (t_Model_tells (μ_48.1 125 4) μ_48) v_Model_tells c_Model rfl (by decide) rfl wm_Model_171 d_Model_append_56 rfl ⟨by decide, by decide⟩ (Nat.le_of_ble_eq_true rfl) rfl (fun r56 μ_56 _ => ?_)
      exact r_iret hg hA rfl d_Model_append_59 rfl
    · refine r_aload_n hg 0 d_Model_append_25 rfl rfl ?_
      refine r_iconst (v := 2) hg d_Model_append_26 (by decide) ?_
      refine r_callV (As := [.int 2]) hg (t_Model_fails 2 μ_4) v_Model_fails c_Model rfl (by decide) rfl wm_Model_93 d_Model_append_27 rfl ⟨by decide, by decide⟩ (Nat.le_of_ble_eq_true rfl) rfl (fun r27 μ_27 _ => ?_)
      exact r_iret hg hA rfl d_Model_append_30 rfl
  · refine r_aload_n hg 0 d_Model_append_10 rfl rfl ?_
    refine r_iconst (v := 1) hg d_Model_append_11 (by decide) ?_
    refine r_callV (As := [.int 1]) hg (t_Model_fails 1 μ_4) v_Model_fails c_Model rfl (by decide) rfl wm_Model_93 d_Model_append_12 rfl ⟨by decide, by decide⟩ (Nat.le_of_ble_eq_true rfl) rfl (fun r12 μ_12 _ => ?_)
    exact r_iret hg hA rfl d_Model_append_15 rfl
theorem t_Model_append (v1 : Int32) (μ : HMem) : HSpec y_Model_append b_Model_append 2 (some .int) 2 h_eI [.ref 125, .int v1] μ (f_Model_append v1 μ) :=
  HSpec.of (by decide +kernel) (v_Model_append.1 _ (by simp)) (Nat.le_of_ble_eq_true rfl) (fun cx hA hg => t_Model_append_0 hg hA v1 μ)
