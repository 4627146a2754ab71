/-! pure programs and their proofs: model2 (written by gen.py) -/
def y_Model_drops : MethodName := ⟨R_Model, "drops", "(II)V"⟩
abbrev b_Model_drops : ByteArray := prog_12_method_29_code
theorem v_Model_drops : HVirt y_Model_drops b_Model_drops 3 none 2 := ⟨List.forall_mem_cons.mpr ⟨h_inI 1362 (by decide +kernel) rfl, List.forall_mem_cons.mpr ⟨h_inI 58 (by decide +kernel) rfl, List.forall_mem_cons.mpr ⟨h_inI 110 (by decide +kernel) rfl, List.forall_mem_cons.mpr ⟨h_inI 1363 (by decide +kernel) rfl, fun _ h => absurd h List.not_mem_nil⟩⟩⟩⟩, by decide, by decide, by decide +kernel⟩
def y_Model_complements : MethodName := ⟨R_Model, "complements", "(I)V"⟩
abbrev b_Model_complements : ByteArray := prog_12_method_30_code
theorem v_Model_complements : HVirt y_Model_complements b_Model_complements 4 none 1 := ⟨List.forall_mem_cons.mpr ⟨h_inI 1311 (by decide +kernel) rfl, List.forall_mem_cons.mpr ⟨h_inI 46 (by decide +kernel) rfl, List.forall_mem_cons.mpr ⟨h_inI 110 (by decide +kernel) rfl, List.forall_mem_cons.mpr ⟨h_inI 1312 (by decide +kernel) rfl, fun _ h => absurd h List.not_mem_nil⟩⟩⟩⟩, by decide, by decide, by decide +kernel⟩
def y_Model_frees : MethodName := ⟨R_Model, "frees", "()V"⟩
abbrev b_Model_frees : ByteArray := prog_12_method_52_code
theorem v_Model_frees : HVirt y_Model_frees b_Model_frees 2 none 0 := ⟨List.forall_mem_cons.mpr ⟨h_inI 1335 (by decide +kernel) rfl, List.forall_mem_cons.mpr ⟨h_inI 52 (by decide +kernel) rfl, List.forall_mem_cons.mpr ⟨h_inI 110 (by decide +kernel) rfl, List.forall_mem_cons.mpr ⟨h_inI 1336 (by decide +kernel) rfl, fun _ h => absurd h List.not_mem_nil⟩⟩⟩⟩, by decide, by decide, by decide +kernel⟩
def y_Model_near : MethodName := ⟨R_Model, "near", "(II)I"⟩
abbrev b_Model_near : ByteArray := prog_12_method_32_code
theorem v_Model_near : HVirt y_Model_near b_Model_near 5 (some .int) 2 := ⟨List.forall_mem_cons.mpr ⟨h_inI 1347 (by decide +kernel) rfl, List.forall_mem_cons.mpr ⟨h_inI 55 (by decide +kernel) rfl, List.forall_mem_cons.mpr ⟨h_inI 110 (by decide +kernel) rfl, List.forall_mem_cons.mpr ⟨h_inI 1348 (by decide +kernel) rfl, fun _ h => absurd h List.not_mem_nil⟩⟩⟩⟩, by decide, by decide, by decide +kernel⟩
def y_Model_lowestOut : MethodName := ⟨R_Model, "lowestOut", "(I)I"⟩
abbrev b_Model_lowestOut : ByteArray := prog_12_method_54_code
theorem v_Model_lowestOut : HStat y_Model_lowestOut b_Model_lowestOut 2 (some .int) 1 := ⟨List.forall_mem_cons.mpr ⟨h_inI 1350 (by decide +kernel) rfl, List.forall_mem_cons.mpr ⟨h_inI 110 (by decide +kernel) rfl, List.forall_mem_cons.mpr ⟨h_inI 1351 (by decide +kernel) rfl, fun _ h => absurd h List.not_mem_nil⟩⟩⟩, by decide, by decide, by decide +kernel⟩
def y_Model_turns : MethodName := ⟨R_Model, "turns", "(I)I"⟩
abbrev b_Model_turns : ByteArray := prog_12_method_53_code
theorem v_Model_turns : HVirt y_Model_turns b_Model_turns 7 (some .int) 1 := ⟨List.forall_mem_cons.mpr ⟨h_inI 1343 (by decide +kernel) rfl, List.forall_mem_cons.mpr ⟨h_inI 54 (by decide +kernel) rfl, List.forall_mem_cons.mpr ⟨h_inI 110 (by decide +kernel) rfl, List.forall_mem_cons.mpr ⟨h_inI 1344 (by decide +kernel) rfl, fun _ h => absurd h List.not_mem_nil⟩⟩⟩⟩, by decide, by decide, by decide +kernel⟩
def y_Model_goes : MethodName := ⟨R_Model, "goes", "(IIIII)Z"⟩
abbrev b_Model_goes : ByteArray := prog_12_method_55_code
theorem v_Model_goes : HVirt y_Model_goes b_Model_goes 9 (some .boolean) 5 := ⟨List.forall_mem_cons.mpr ⟨h_inI 1358 (by decide +kernel) rfl, List.forall_mem_cons.mpr ⟨h_inI 57 (by decide +kernel) rfl, List.forall_mem_cons.mpr ⟨h_inI 110 (by decide +kernel) rfl, List.forall_mem_cons.mpr ⟨h_inI 1359 (by decide +kernel) rfl, fun _ h => absurd h List.not_mem_nil⟩⟩⟩⟩, by decide, by decide, by decide +kernel⟩
def y_Model_isPart : MethodName := ⟨R_Model, "isPart", "(IIIII)Z"⟩
abbrev b_Model_isPart : ByteArray := prog_12_method_56_code
theorem v_Model_isPart : HVirt y_Model_isPart b_Model_isPart 8 (some .boolean) 5 := ⟨List.forall_mem_cons.mpr ⟨h_inI 1354 (by decide +kernel) rfl, List.forall_mem_cons.mpr ⟨h_inI 56 (by decide +kernel) rfl, List.forall_mem_cons.mpr ⟨h_inI 110 (by decide +kernel) rfl, List.forall_mem_cons.mpr ⟨h_inI 1355 (by decide +kernel) rfl, fun _ h => absurd h List.not_mem_nil⟩⟩⟩⟩, by decide, by decide, by decide +kernel⟩
def y_Model_isThere : MethodName := ⟨R_Model, "isThere", "(III)Z"⟩
abbrev b_Model_isThere : ByteArray := prog_12_method_57_code
theorem v_Model_isThere : HVirt y_Model_isThere b_Model_isThere 7 (some .boolean) 3 := ⟨List.forall_mem_cons.mpr ⟨h_inI 1339 (by decide +kernel) rfl, List.forall_mem_cons.mpr ⟨h_inI 53 (by decide +kernel) rfl, List.forall_mem_cons.mpr ⟨h_inI 110 (by decide +kernel) rfl, List.forall_mem_cons.mpr ⟨h_inI 1340 (by decide +kernel) rfl, fun _ h => absurd h List.not_mem_nil⟩⟩⟩⟩, by decide, by decide, by decide +kernel⟩
def y_Model_isFree : MethodName := ⟨R_Model, "isFree", "(III)Z"⟩
abbrev b_Model_isFree : ByteArray := prog_12_method_58_code
theorem v_Model_isFree : HVirt y_Model_isFree b_Model_isFree 4 (some .boolean) 3 := ⟨List.forall_mem_cons.mpr ⟨h_inI 1331 (by decide +kernel) rfl, List.forall_mem_cons.mpr ⟨h_inI 51 (by decide +kernel) rfl, List.forall_mem_cons.mpr ⟨h_inI 110 (by decide +kernel) rfl, List.forall_mem_cons.mpr ⟨h_inI 1332 (by decide +kernel) rfl, fun _ h => absurd h List.not_mem_nil⟩⟩⟩⟩, by decide, by decide, by decide +kernel⟩
def y_Model_lowestSpared : MethodName := ⟨R_Model, "lowestSpared", "(I)I"⟩
abbrev b_Model_lowestSpared : ByteArray := prog_12_method_87_code
theorem v_Model_lowestSpared : HVirt y_Model_lowestSpared b_Model_lowestSpared 4 (some .int) 1 := ⟨List.forall_mem_cons.mpr ⟨h_inI 1327 (by decide +kernel) rfl, List.forall_mem_cons.mpr ⟨h_inI 50 (by decide +kernel) rfl, List.forall_mem_cons.mpr ⟨h_inI 110 (by decide +kernel) rfl, List.forall_mem_cons.mpr ⟨h_inI 1328 (by decide +kernel) rfl, fun _ h => absurd h List.not_mem_nil⟩⟩⟩⟩, by decide, by decide, by decide +kernel⟩
def y_Model_shrinks : MethodName := ⟨R_Model, "shrinks", "()I"⟩
abbrev b_Model_shrinks : ByteArray := prog_12_method_88_code
theorem v_Model_shrinks : HVirt y_Model_shrinks b_Model_shrinks 2 (some .int) 0 := ⟨List.forall_mem_cons.mpr ⟨h_inI 1323 (by decide +kernel) rfl, List.forall_mem_cons.mpr ⟨h_inI 49 (by decide +kernel) rfl, List.forall_mem_cons.mpr ⟨h_inI 110 (by decide +kernel) rfl, List.forall_mem_cons.mpr ⟨h_inI 1324 (by decide +kernel) rfl, fun _ h => absurd h List.not_mem_nil⟩⟩⟩⟩, by decide, by decide, by decide +kernel⟩
def y_Model_derive : MethodName := ⟨R_Model, "derive", "(IIII)I"⟩
abbrev b_Model_derive : ByteArray := prog_12_method_31_code
theorem v_Model_derive : HVirt y_Model_derive b_Model_derive 6 (some .int) 4 := ⟨List.forall_mem_cons.mpr ⟨h_inI 1306 (by decide +kernel) rfl, List.forall_mem_cons.mpr ⟨h_inI 1307 (by decide +kernel) rfl, List.forall_mem_cons.mpr ⟨h_inI 110 (by decide +kernel) rfl, List.forall_mem_cons.mpr ⟨h_inI 1308 (by decide +kernel) rfl, fun _ h => absurd h List.not_mem_nil⟩⟩⟩⟩, by decide, by decide, by decide +kernel⟩
def y_Model_bits : MethodName := ⟨R_Model, "bits", "(I)I"⟩
abbrev b_Model_bits : ByteArray := prog_12_method_33_code
theorem v_Model_bits : HStat y_Model_bits b_Model_bits 3 (some .int) 1 := ⟨List.forall_mem_cons.mpr ⟨h_inI 1389 (by decide +kernel) rfl, List.forall_mem_cons.mpr ⟨h_inI 110 (by decide +kernel) rfl, List.forall_mem_cons.mpr ⟨h_inI 1390 (by decide +kernel) rfl, fun _ h => absurd h List.not_mem_nil⟩⟩⟩, by decide, by decide, by decide +kernel⟩
def y_Model_edges : MethodName := ⟨R_Model, "edges", "(IZ)I"⟩
abbrev b_Model_edges : ByteArray := prog_12_method_34_code
theorem v_Model_edges : HVirt y_Model_edges b_Model_edges 6 (some .int) 2 := ⟨List.forall_mem_cons.mpr ⟨h_inI 1378 (by decide +kernel) rfl, List.forall_mem_cons.mpr ⟨h_inI 61 (by decide +kernel) rfl, List.forall_mem_cons.mpr ⟨h_inI 110 (by decide +kernel) rfl, List.forall_mem_cons.mpr ⟨h_inI 1379 (by decide +kernel) rfl, fun _ h => absurd h List.not_mem_nil⟩⟩⟩⟩, by decide, by decide, by decide +kernel⟩
def y_Model_reached : MethodName := ⟨R_Model, "reached", "(II)I"⟩
abbrev b_Model_reached : ByteArray := prog_12_method_36_code
theorem v_Model_reached : HVirt y_Model_reached b_Model_reached 6 (some .int) 2 := ⟨List.forall_mem_cons.mpr ⟨h_inI 1374 (by decide +kernel) rfl, List.forall_mem_cons.mpr ⟨h_inI 60 (by decide +kernel) rfl, List.forall_mem_cons.mpr ⟨h_inI 110 (by decide +kernel) rfl, List.forall_mem_cons.mpr ⟨h_inI 1375 (by decide +kernel) rfl, fun _ h => absurd h List.not_mem_nil⟩⟩⟩⟩, by decide, by decide, by decide +kernel⟩
def y_Model_components : MethodName := ⟨R_Model, "components", "(I)I"⟩
abbrev b_Model_components : ByteArray := prog_12_method_35_code
theorem v_Model_components : HVirt y_Model_components b_Model_components 5 (some .int) 1 := ⟨List.forall_mem_cons.mpr ⟨h_inI 1370 (by decide +kernel) rfl, List.forall_mem_cons.mpr ⟨h_inI 59 (by decide +kernel) rfl, List.forall_mem_cons.mpr ⟨h_inI 110 (by decide +kernel) rfl, List.forall_mem_cons.mpr ⟨h_inI 1371 (by decide +kernel) rfl, fun _ h => absurd h List.not_mem_nil⟩⟩⟩⟩, by decide, by decide, by decide +kernel⟩
def y_Model_graph : MethodName := ⟨R_Model, "graph", "(II)I"⟩
abbrev b_Model_graph : ByteArray := prog_12_method_37_code
theorem v_Model_graph : HVirt y_Model_graph b_Model_graph 3 (some .int) 2 := ⟨List.forall_mem_cons.mpr ⟨h_inI 1365 (by decide +kernel) rfl, List.forall_mem_cons.mpr ⟨h_inI 1366 (by decide +kernel) rfl, List.forall_mem_cons.mpr ⟨h_inI 110 (by decide +kernel) rfl, List.forall_mem_cons.mpr ⟨h_inI 1367 (by decide +kernel) rfl, fun _ h => absurd h List.not_mem_nil⟩⟩⟩⟩, by decide, by decide, by decide +kernel⟩
def y_Model_vertex : MethodName := ⟨R_Model, "vertex", "(III)I"⟩
abbrev b_Model_vertex : ByteArray := prog_12_method_38_code
theorem v_Model_vertex : HVirt y_Model_vertex b_Model_vertex 4 (some .int) 3 := ⟨List.forall_mem_cons.mpr ⟨h_inI 1385 (by decide +kernel) rfl, List.forall_mem_cons.mpr ⟨h_inI 1386 (by decide +kernel) rfl, List.forall_mem_cons.mpr ⟨h_inI 110 (by decide +kernel) rfl, List.forall_mem_cons.mpr ⟨h_inI 1387 (by decide +kernel) rfl, fun _ h => absurd h List.not_mem_nil⟩⟩⟩⟩, by decide, by decide, by decide +kernel⟩
def y_Model_edge : MethodName := ⟨R_Model, "edge", "(III)I"⟩
abbrev b_Model_edge : ByteArray := prog_12_method_39_code
theorem v_Model_edge : HVirt y_Model_edge b_Model_edge 4 (some .int) 3 := ⟨List.forall_mem_cons.mpr ⟨h_inI 1392 (by decide +kernel) rfl, List.forall_mem_cons.mpr ⟨h_inI 1393 (by decide +kernel) rfl, List.forall_mem_cons.mpr ⟨h_inI 110 (by decide +kernel) rfl, List.forall_mem_cons.mpr ⟨h_inI 1394 (by decide +kernel) rfl, fun _ h => absurd h List.not_mem_nil⟩⟩⟩⟩, by decide, by decide, by decide +kernel⟩
def y_Model_fewest : MethodName := ⟨R_Model, "fewest", "(I)I"⟩
abbrev b_Model_fewest : ByteArray := prog_12_method_40_code
theorem v_Model_fewest : HVirt y_Model_fewest b_Model_fewest 6 (some .int) 1 := ⟨List.forall_mem_cons.mpr ⟨h_inI 1405 (by decide +kernel) rfl, List.forall_mem_cons.mpr ⟨h_inI 64 (by decide +kernel) rfl, List.forall_mem_cons.mpr ⟨h_inI 110 (by decide +kernel) rfl, List.forall_mem_cons.mpr ⟨h_inI 1406 (by decide +kernel) rfl, fun _ h => absurd h List.not_mem_nil⟩⟩⟩⟩, by decide, by decide, by decide +kernel⟩
def y_Model_joins : MethodName := ⟨R_Model, "joins", "(I)V"⟩
abbrev b_Model_joins : ByteArray := prog_12_method_42_code
theorem v_Model_joins : HVirt y_Model_joins b_Model_joins 4 none 1 := ⟨List.forall_mem_cons.mpr ⟨h_inI 1409 (by decide +kernel) rfl, List.forall_mem_cons.mpr ⟨h_inI 65 (by decide +kernel) rfl, List.forall_mem_cons.mpr ⟨h_inI 110 (by decide +kernel) rfl, List.forall_mem_cons.mpr ⟨h_inI 1410 (by decide +kernel) rfl, fun _ h => absurd h List.not_mem_nil⟩⟩⟩⟩, by decide, by decide, by decide +kernel⟩
def y_Model_eliminates : MethodName := ⟨R_Model, "eliminates", "(IZ)V"⟩
abbrev b_Model_eliminates : ByteArray := prog_12_method_41_code
theorem v_Model_eliminates : HVirt y_Model_eliminates b_Model_eliminates 8 none 2 := ⟨List.forall_mem_cons.mpr ⟨h_inI 1401 (by decide +kernel) rfl, List.forall_mem_cons.mpr ⟨h_inI 63 (by decide +kernel) rfl, List.forall_mem_cons.mpr ⟨h_inI 110 (by decide +kernel) rfl, List.forall_mem_cons.mpr ⟨h_inI 1402 (by decide +kernel) rfl, fun _ h => absurd h List.not_mem_nil⟩⟩⟩⟩, by decide, by decide, by decide +kernel⟩
theorem wm_Model_144 : Cond.methodLink R_Model 144 y_Model_induces ∈ h_tb := h_inI 1317 (by decide +kernel) rfl
theorem wm_Model_148 : Cond.methodLink R_Model 148 y_Model_isNear ∈ h_tb := h_inI 1313 (by decide +kernel) rfl
theorem wf_Model_37 : Cond.fieldLink R_Model 37 (F_Model 14).1 (F_Model 14).2.1 (F_Model 14).2.2.1 ∈ h_tb := h_inI 1141 (by decide +kernel) rfl
theorem wf_Model_34 : Cond.fieldLink R_Model 34 (F_Model 13).1 (F_Model 13).2.1 (F_Model 13).2.2.1 ∈ h_tb := h_inI 1140 (by decide +kernel) rfl
theorem wf_Model_40 : Cond.fieldLink R_Model 40 (F_Model 15).1 (F_Model 15).2.1 (F_Model 15).2.2.1 ∈ h_tb := h_inI 1142 (by decide +kernel) rfl
theorem wm_Model_161 : Cond.methodLink R_Model 161 y_Model_near ∈ h_tb := h_inI 1345 (by decide +kernel) rfl
theorem wm_Model_205 : Cond.methodLink R_Model 205 y_Model_lowestOut ∈ h_tb := h_inI 1349 (by decide +kernel) rfl
theorem wf_Model_31 : Cond.fieldLink R_Model 31 (F_Model 12).1 (F_Model 12).2.1 (F_Model 12).2.2.1 ∈ h_tb := h_inI 1139 (by decide +kernel) rfl
theorem wm_Model_208 : Cond.methodLink R_Model 208 y_Model_goes ∈ h_tb := h_inI 1356 (by decide +kernel) rfl
theorem wm_Model_212 : Cond.methodLink R_Model 212 y_Model_turns ∈ h_tb := h_inI 1341 (by decide +kernel) rfl
theorem wm_Model_215 : Cond.methodLink R_Model 215 y_Model_isPart ∈ h_tb := h_inI 1352 (by decide +kernel) rfl
theorem wm_Model_218 : Cond.methodLink R_Model 218 y_Model_frees ∈ h_tb := h_inI 1333 (by decide +kernel) rfl
theorem wm_Model_221 : Cond.methodLink R_Model 221 y_Model_isThere ∈ h_tb := h_inI 1337 (by decide +kernel) rfl
theorem wm_Model_224 : Cond.methodLink R_Model 224 y_Model_isFree ∈ h_tb := h_inI 1329 (by decide +kernel) rfl
theorem wm_Model_280 : Cond.methodLink R_Model 280 y_Model_drops ∈ h_tb := h_inI 1360 (by decide +kernel) rfl
theorem wm_Model_283 : Cond.methodLink R_Model 283 y_Model_lowestSpared ∈ h_tb := h_inI 1325 (by decide +kernel) rfl
theorem wm_Model_151 : Cond.methodLink R_Model 151 y_Model_complements ∈ h_tb := h_inI 1309 (by decide +kernel) rfl
theorem wm_Model_154 : Cond.methodLink R_Model 154 y_Model_shrinks ∈ h_tb := h_inI 1321 (by decide +kernel) rfl
theorem wm_Model_158 : Cond.methodLink R_Model 158 y_Model_reached ∈ h_tb := h_inI 1372 (by decide +kernel) rfl
theorem wm_Model_164 : Cond.methodLink R_Model 164 y_Model_components ∈ h_tb := h_inI 1368 (by decide +kernel) rfl
theorem wm_Model_167 : Cond.methodLink R_Model 167 y_Model_edges ∈ h_tb := h_inI 1376 (by decide +kernel) rfl
theorem wm_Model_171 : Cond.methodLink R_Model 171 y_Model_tells ∈ h_tb := h_inI 1380 (by decide +kernel) rfl
theorem wm_Model_174 : Cond.methodLink R_Model 174 y_Model_bits ∈ h_tb := h_inI 1388 (by decide +kernel) rfl
theorem wf_Model_19 : Cond.fieldLink R_Model 19 (F_Model 6).1 (F_Model 6).2.1 (F_Model 6).2.2.1 ∈ h_tb := h_inI 1133 (by decide +kernel) rfl
theorem wf_Model_180 : Cond.fieldLink R_Model 180 (F_Model 10).1 (F_Model 10).2.1 (F_Model 10).2.2.1 ∈ h_tb := h_inI 1137 (by decide +kernel) rfl
theorem wf_Model_177 : Cond.fieldLink R_Model 177 (F_Model 9).1 (F_Model 9).2.1 (F_Model 9).2.2.1 ∈ h_tb := h_inI 1136 (by decide +kernel) rfl
theorem wf_Model_22 : Cond.fieldLink R_Model 22 (F_Model 7).1 (F_Model 7).2.1 (F_Model 7).2.2.1 ∈ h_tb := h_inI 1134 (by decide +kernel) rfl
theorem wf_Model_25 : Cond.fieldLink R_Model 25 (F_Model 8).1 (F_Model 8).2.1 (F_Model 8).2.2.1 ∈ h_tb := h_inI 1135 (by decide +kernel) rfl
theorem wm_Model_183 : Cond.methodLink R_Model 183 y_Model_fewest ∈ h_tb := h_inI 1403 (by decide +kernel) rfl
theorem wm_Model_186 : Cond.methodLink R_Model 186 y_Model_joins ∈ h_tb := h_inI 1407 (by decide +kernel) rfl
theorem d_Model_drops_0 : decode b_Model_drops 0 = .ok (.aload_n 0, 1) := by decide +kernel
theorem d_Model_drops_1 : decode b_Model_drops 1 = .ok (.iload_n 1, 1) := by decide +kernel
theorem d_Model_drops_2 : decode b_Model_drops 2 = .ok (.iload_n 1, 1) := by decide +kernel
theorem d_Model_drops_3 : decode b_Model_drops 3 = .ok (.iconst 1, 1) := by decide +kernel
theorem d_Model_drops_4 : decode b_Model_drops 4 = .ok (.aload_n 0, 1) := by decide +kernel
theorem d_Model_drops_5 : decode b_Model_drops 5 = .ok (.iload_n 1, 1) := by decide +kernel
theorem d_Model_drops_6 : decode b_Model_drops 6 = .ok (.invokevirtual 75, 3) := by decide +kernel
theorem d_Model_drops_9 : decode b_Model_drops 9 = .ok (.ishl, 1) := by decide +kernel
theorem d_Model_drops_10 : decode b_Model_drops 10 = .ok (.iconst 1, 1) := by decide +kernel
theorem d_Model_drops_11 : decode b_Model_drops 11 = .ok (.isub, 1) := by decide +kernel
theorem d_Model_drops_12 : decode b_Model_drops 12 = .ok (.iconst 1, 1) := by decide +kernel
theorem d_Model_drops_13 : decode b_Model_drops 13 = .ok (.iload_n 2, 1) := by decide +kernel
theorem d_Model_drops_14 : decode b_Model_drops 14 = .ok (.ishl, 1) := by decide +kernel
theorem d_Model_drops_15 : decode b_Model_drops 15 = .ok (.iconst (-1), 1) := by decide +kernel
theorem d_Model_drops_16 : decode b_Model_drops 16 = .ok (.ixor, 1) := by decide +kernel
theorem d_Model_drops_17 : decode b_Model_drops 17 = .ok (.iand, 1) := by decide +kernel
theorem d_Model_drops_18 : decode b_Model_drops 18 = .ok (.invokevirtual 144, 3) := by decide +kernel
theorem d_Model_drops_21 : decode b_Model_drops 21 = .ok (.return_, 1) := by decide +kernel
theorem d_Model_complements_0 : decode b_Model_complements 0 = .ok (.aload_n 0, 1) := by decide +kernel
theorem d_Model_complements_1 : decode b_Model_complements 1 = .ok (.iload_n 1, 1) := by decide +kernel
theorem d_Model_complements_2 : decode b_Model_complements 2 = .ok (.iconst 4, 1) := by decide +kernel
theorem d_Model_complements_3 : decode b_Model_complements 3 = .ok (.invokevirtual 89, 3) := by decide +kernel
theorem d_Model_complements_6 : decode b_Model_complements 6 = .ok (.iconst 0, 1) := by decide +kernel
theorem d_Model_complements_7 : decode b_Model_complements 7 = .ok (.istore_n 2, 1) := by decide +kernel
theorem d_Model_complements_8 : decode b_Model_complements 8 = .ok (.iload_n 2, 1) := by decide +kernel
theorem d_Model_complements_9 : decode b_Model_complements 9 = .ok (.aload_n 0, 1) := by decide +kernel
theorem d_Model_complements_10 : decode b_Model_complements 10 = .ok (.iload_n 1, 1) := by decide +kernel
theorem d_Model_complements_11 : decode b_Model_complements 11 = .ok (.invokevirtual 75, 3) := by decide +kernel
theorem d_Model_complements_14 : decode b_Model_complements 14 = .ok (.if_icmp .ge 53, 3) := by decide +kernel
theorem d_Model_complements_17 : decode b_Model_complements 17 = .ok (.iload_n 2, 1) := by decide +kernel
theorem d_Model_complements_18 : decode b_Model_complements 18 = .ok (.istore_n 3, 1) := by decide +kernel
theorem d_Model_complements_19 : decode b_Model_complements 19 = .ok (.iload_n 3, 1) := by decide +kernel
theorem d_Model_complements_20 : decode b_Model_complements 20 = .ok (.aload_n 0, 1) := by decide +kernel
theorem d_Model_complements_21 : decode b_Model_complements 21 = .ok (.iload_n 1, 1) := by decide +kernel
theorem d_Model_complements_22 : decode b_Model_complements 22 = .ok (.invokevirtual 75, 3) := by decide +kernel
theorem d_Model_complements_25 : decode b_Model_complements 25 = .ok (.if_icmp .ge 36, 3) := by decide +kernel
theorem d_Model_complements_28 : decode b_Model_complements 28 = .ok (.aload_n 0, 1) := by decide +kernel
theorem d_Model_complements_29 : decode b_Model_complements 29 = .ok (.iconst 4, 1) := by decide +kernel
theorem d_Model_complements_30 : decode b_Model_complements 30 = .ok (.iload_n 2, 1) := by decide +kernel
theorem d_Model_complements_31 : decode b_Model_complements 31 = .ok (.iload_n 3, 1) := by decide +kernel
theorem d_Model_complements_32 : decode b_Model_complements 32 = .ok (.iload_n 2, 1) := by decide +kernel
theorem d_Model_complements_33 : decode b_Model_complements 33 = .ok (.iload_n 3, 1) := by decide +kernel
theorem d_Model_complements_34 : decode b_Model_complements 34 = .ok (.if_icmp .eq 17, 3) := by decide +kernel
theorem d_Model_complements_37 : decode b_Model_complements 37 = .ok (.aload_n 0, 1) := by decide +kernel
theorem d_Model_complements_38 : decode b_Model_complements 38 = .ok (.iload_n 1, 1) := by decide +kernel
theorem d_Model_complements_39 : decode b_Model_complements 39 = .ok (.iload_n 2, 1) := by decide +kernel
theorem d_Model_complements_40 : decode b_Model_complements 40 = .ok (.iload_n 3, 1) := by decide +kernel
theorem d_Model_complements_41 : decode b_Model_complements 41 = .ok (.invokevirtual 148, 3) := by decide +kernel
theorem d_Model_complements_44 : decode b_Model_complements 44 = .ok (.ifCond .ne 7, 3) := by decide +kernel
theorem d_Model_complements_47 : decode b_Model_complements 47 = .ok (.iconst 1, 1) := by decide +kernel
theorem d_Model_complements_48 : decode b_Model_complements 48 = .ok (.goto 4, 3) := by decide +kernel
theorem d_Model_complements_51 : decode b_Model_complements 51 = .ok (.iconst 0, 1) := by decide +kernel
theorem d_Model_complements_52 : decode b_Model_complements 52 = .ok (.invokevirtual 111, 3) := by decide +kernel
theorem d_Model_complements_55 : decode b_Model_complements 55 = .ok (.iinc 3 1, 3) := by decide +kernel
theorem d_Model_complements_58 : decode b_Model_complements 58 = .ok (.goto (-39), 3) := by decide +kernel
theorem d_Model_complements_61 : decode b_Model_complements 61 = .ok (.iinc 2 1, 3) := by decide +kernel
theorem d_Model_complements_64 : decode b_Model_complements 64 = .ok (.goto (-56), 3) := by decide +kernel
theorem d_Model_complements_67 : decode b_Model_complements 67 = .ok (.return_, 1) := by decide +kernel
theorem d_Model_frees_0 : decode b_Model_frees 0 = .ok (.iconst 0, 1) := by decide +kernel
theorem d_Model_frees_1 : decode b_Model_frees 1 = .ok (.istore_n 1, 1) := by decide +kernel
theorem d_Model_frees_2 : decode b_Model_frees 2 = .ok (.iload_n 1, 1) := by decide +kernel
theorem d_Model_frees_3 : decode b_Model_frees 3 = .ok (.bipush 8, 2) := by decide +kernel
theorem d_Model_frees_5 : decode b_Model_frees 5 = .ok (.if_icmp .ge 16, 3) := by decide +kernel
theorem d_Model_frees_8 : decode b_Model_frees 8 = .ok (.aload_n 0, 1) := by decide +kernel
theorem d_Model_frees_9 : decode b_Model_frees 9 = .ok (.getfield 37, 3) := by decide +kernel
theorem d_Model_frees_12 : decode b_Model_frees 12 = .ok (.iload_n 1, 1) := by decide +kernel
theorem d_Model_frees_13 : decode b_Model_frees 13 = .ok (.iconst (-1), 1) := by decide +kernel
theorem d_Model_frees_14 : decode b_Model_frees 14 = .ok (.iastore, 1) := by decide +kernel
theorem d_Model_frees_15 : decode b_Model_frees 15 = .ok (.iinc 1 1, 3) := by decide +kernel
theorem d_Model_frees_18 : decode b_Model_frees 18 = .ok (.goto (-16), 3) := by decide +kernel
theorem d_Model_frees_21 : decode b_Model_frees 21 = .ok (.return_, 1) := by decide +kernel
theorem d_Model_near_0 : decode b_Model_near 0 = .ok (.iconst 0, 1) := by decide +kernel
theorem d_Model_near_1 : decode b_Model_near 1 = .ok (.istore_n 3, 1) := by decide +kernel
theorem d_Model_near_2 : decode b_Model_near 2 = .ok (.iconst 0, 1) := by decide +kernel
theorem d_Model_near_3 : decode b_Model_near 3 = .ok (.istore 4, 2) := by decide +kernel
theorem d_Model_near_5 : decode b_Model_near 5 = .ok (.iload 4, 2) := by decide +kernel
theorem d_Model_near_7 : decode b_Model_near 7 = .ok (.aload_n 0, 1) := by decide +kernel
theorem d_Model_near_8 : decode b_Model_near 8 = .ok (.iload_n 1, 1) := by decide +kernel
theorem d_Model_near_9 : decode b_Model_near 9 = .ok (.invokevirtual 75, 3) := by decide +kernel
theorem d_Model_near_12 : decode b_Model_near 12 = .ok (.if_icmp .ge 31, 3) := by decide +kernel
theorem d_Model_near_15 : decode b_Model_near 15 = .ok (.iload_n 3, 1) := by decide +kernel
theorem d_Model_near_16 : decode b_Model_near 16 = .ok (.aload_n 0, 1) := by decide +kernel
theorem d_Model_near_17 : decode b_Model_near 17 = .ok (.iload_n 1, 1) := by decide +kernel
theorem d_Model_near_18 : decode b_Model_near 18 = .ok (.iload 4, 2) := by decide +kernel
theorem d_Model_near_20 : decode b_Model_near 20 = .ok (.iload_n 2, 1) := by decide +kernel
theorem d_Model_near_21 : decode b_Model_near 21 = .ok (.invokevirtual 148, 3) := by decide +kernel
theorem d_Model_near_24 : decode b_Model_near 24 = .ok (.ifCond .eq 10, 3) := by decide +kernel
theorem d_Model_near_27 : decode b_Model_near 27 = .ok (.iconst 1, 1) := by decide +kernel
theorem d_Model_near_28 : decode b_Model_near 28 = .ok (.iload 4, 2) := by decide +kernel
theorem d_Model_near_30 : decode b_Model_near 30 = .ok (.ishl, 1) := by decide +kernel
theorem d_Model_near_31 : decode b_Model_near 31 = .ok (.goto 4, 3) := by decide +kernel
theorem d_Model_near_34 : decode b_Model_near 34 = .ok (.iconst 0, 1) := by decide +kernel
theorem d_Model_near_35 : decode b_Model_near 35 = .ok (.ior, 1) := by decide +kernel
theorem d_Model_near_36 : decode b_Model_near 36 = .ok (.istore_n 3, 1) := by decide +kernel
theorem d_Model_near_37 : decode b_Model_near 37 = .ok (.iinc 4 1, 3) := by decide +kernel
theorem d_Model_near_40 : decode b_Model_near 40 = .ok (.goto (-35), 3) := by decide +kernel
theorem d_Model_near_43 : decode b_Model_near 43 = .ok (.iload_n 3, 1) := by decide +kernel
theorem d_Model_near_44 : decode b_Model_near 44 = .ok (.ireturn, 1) := by decide +kernel
theorem d_Model_lowestOut_0 : decode b_Model_lowestOut 0 = .ok (.iconst 0, 1) := by decide +kernel
theorem d_Model_lowestOut_1 : decode b_Model_lowestOut 1 = .ok (.istore_n 1, 1) := by decide +kernel
theorem d_Model_lowestOut_2 : decode b_Model_lowestOut 2 = .ok (.iload_n 0, 1) := by decide +kernel
theorem d_Model_lowestOut_3 : decode b_Model_lowestOut 3 = .ok (.iload_n 1, 1) := by decide +kernel
theorem d_Model_lowestOut_4 : decode b_Model_lowestOut 4 = .ok (.ishr, 1) := by decide +kernel
theorem d_Model_lowestOut_5 : decode b_Model_lowestOut 5 = .ok (.iconst 1, 1) := by decide +kernel
theorem d_Model_lowestOut_6 : decode b_Model_lowestOut 6 = .ok (.iand, 1) := by decide +kernel
theorem d_Model_lowestOut_7 : decode b_Model_lowestOut 7 = .ok (.iconst 1, 1) := by decide +kernel
theorem d_Model_lowestOut_8 : decode b_Model_lowestOut 8 = .ok (.if_icmp .ne 9, 3) := by decide +kernel
theorem d_Model_lowestOut_11 : decode b_Model_lowestOut 11 = .ok (.iinc 1 1, 3) := by decide +kernel
theorem d_Model_lowestOut_14 : decode b_Model_lowestOut 14 = .ok (.goto (-12), 3) := by decide +kernel
theorem d_Model_lowestOut_17 : decode b_Model_lowestOut 17 = .ok (.iload_n 1, 1) := by decide +kernel
theorem d_Model_lowestOut_18 : decode b_Model_lowestOut 18 = .ok (.ireturn, 1) := by decide +kernel
theorem d_Model_turns_0 : decode b_Model_turns 0 = .ok (.iconst 0, 1) := by decide +kernel
theorem d_Model_turns_1 : decode b_Model_turns 1 = .ok (.istore_n 2, 1) := by decide +kernel
theorem d_Model_turns_2 : decode b_Model_turns 2 = .ok (.iconst 0, 1) := by decide +kernel
theorem d_Model_turns_3 : decode b_Model_turns 3 = .ok (.istore_n 3, 1) := by decide +kernel
theorem d_Model_turns_4 : decode b_Model_turns 4 = .ok (.iconst 0, 1) := by decide +kernel
theorem d_Model_turns_5 : decode b_Model_turns 5 = .ok (.istore 4, 2) := by decide +kernel
theorem d_Model_turns_7 : decode b_Model_turns 7 = .ok (.iload_n 2, 1) := by decide +kernel
theorem d_Model_turns_8 : decode b_Model_turns 8 = .ok (.aload_n 0, 1) := by decide +kernel
theorem d_Model_turns_9 : decode b_Model_turns 9 = .ok (.iload_n 1, 1) := by decide +kernel
theorem d_Model_turns_10 : decode b_Model_turns 10 = .ok (.invokevirtual 75, 3) := by decide +kernel
theorem d_Model_turns_13 : decode b_Model_turns 13 = .ok (.if_icmp .ge 104, 3) := by decide +kernel
theorem d_Model_turns_16 : decode b_Model_turns 16 = .ok (.iconst (-1), 1) := by decide +kernel
theorem d_Model_turns_17 : decode b_Model_turns 17 = .ok (.istore 5, 2) := by decide +kernel
theorem d_Model_turns_19 : decode b_Model_turns 19 = .ok (.aload_n 0, 1) := by decide +kernel
theorem d_Model_turns_20 : decode b_Model_turns 20 = .ok (.iload_n 1, 1) := by decide +kernel
theorem d_Model_turns_21 : decode b_Model_turns 21 = .ok (.invokevirtual 75, 3) := by decide +kernel
theorem d_Model_turns_24 : decode b_Model_turns 24 = .ok (.iconst 1, 1) := by decide +kernel
theorem d_Model_turns_25 : decode b_Model_turns 25 = .ok (.isub, 1) := by decide +kernel
theorem d_Model_turns_26 : decode b_Model_turns 26 = .ok (.istore 6, 2) := by decide +kernel
theorem d_Model_turns_28 : decode b_Model_turns 28 = .ok (.iload 6, 2) := by decide +kernel
theorem d_Model_turns_30 : decode b_Model_turns 30 = .ok (.ifCond .lt 41, 3) := by decide +kernel
theorem d_Model_turns_33 : decode b_Model_turns 33 = .ok (.iload 4, 2) := by decide +kernel
theorem d_Model_turns_35 : decode b_Model_turns 35 = .ok (.iload 6, 2) := by decide +kernel
theorem d_Model_turns_37 : decode b_Model_turns 37 = .ok (.ishr, 1) := by decide +kernel
theorem d_Model_turns_38 : decode b_Model_turns 38 = .ok (.iconst 1, 1) := by decide +kernel
theorem d_Model_turns_39 : decode b_Model_turns 39 = .ok (.iand, 1) := by decide +kernel
theorem d_Model_turns_40 : decode b_Model_turns 40 = .ok (.ifCond .ne 21, 3) := by decide +kernel
theorem d_Model_turns_43 : decode b_Model_turns 43 = .ok (.aload_n 0, 1) := by decide +kernel
theorem d_Model_turns_44 : decode b_Model_turns 44 = .ok (.iload_n 1, 1) := by decide +kernel
theorem d_Model_turns_45 : decode b_Model_turns 45 = .ok (.iload 6, 2) := by decide +kernel
theorem d_Model_turns_47 : decode b_Model_turns 47 = .ok (.invokevirtual 161, 3) := by decide +kernel
theorem d_Model_turns_50 : decode b_Model_turns 50 = .ok (.iload 4, 2) := by decide +kernel
theorem d_Model_turns_52 : decode b_Model_turns 52 = .ok (.iand, 1) := by decide +kernel
theorem d_Model_turns_53 : decode b_Model_turns 53 = .ok (.ifCond .eq 8, 3) := by decide +kernel
theorem d_Model_turns_56 : decode b_Model_turns 56 = .ok (.iload 6, 2) := by decide +kernel
theorem d_Model_turns_58 : decode b_Model_turns 58 = .ok (.goto 5, 3) := by decide +kernel
theorem d_Model_turns_61 : decode b_Model_turns 61 = .ok (.iload 5, 2) := by decide +kernel
theorem d_Model_turns_63 : decode b_Model_turns 63 = .ok (.istore 5, 2) := by decide +kernel
theorem d_Model_turns_65 : decode b_Model_turns 65 = .ok (.iinc 6 (-1), 3) := by decide +kernel
theorem d_Model_turns_68 : decode b_Model_turns 68 = .ok (.goto (-40), 3) := by decide +kernel
theorem d_Model_turns_71 : decode b_Model_turns 71 = .ok (.iload 5, 2) := by decide +kernel
theorem d_Model_turns_73 : decode b_Model_turns 73 = .ok (.iconst (-1), 1) := by decide +kernel
theorem d_Model_turns_74 : decode b_Model_turns 74 = .ok (.if_icmp .ne 20, 3) := by decide +kernel
theorem d_Model_turns_77 : decode b_Model_turns 77 = .ok (.iload 4, 2) := by decide +kernel
theorem d_Model_turns_79 : decode b_Model_turns 79 = .ok (.invokestatic 205, 3) := by decide +kernel
theorem d_Model_turns_82 : decode b_Model_turns 82 = .ok (.istore 5, 2) := by decide +kernel
theorem d_Model_turns_84 : decode b_Model_turns 84 = .ok (.aload_n 0, 1) := by decide +kernel
theorem d_Model_turns_85 : decode b_Model_turns 85 = .ok (.getfield 40, 3) := by decide +kernel
theorem d_Model_turns_88 : decode b_Model_turns 88 = .ok (.iload_n 3, 1) := by decide +kernel
theorem d_Model_turns_89 : decode b_Model_turns 89 = .ok (.iload_n 2, 1) := by decide +kernel
theorem d_Model_turns_90 : decode b_Model_turns 90 = .ok (.iastore, 1) := by decide +kernel
theorem d_Model_turns_91 : decode b_Model_turns 91 = .ok (.iinc 3 1, 3) := by decide +kernel
theorem d_Model_turns_94 : decode b_Model_turns 94 = .ok (.aload_n 0, 1) := by decide +kernel
theorem d_Model_turns_95 : decode b_Model_turns 95 = .ok (.getfield 34, 3) := by decide +kernel
theorem d_Model_turns_98 : decode b_Model_turns 98 = .ok (.iload_n 2, 1) := by decide +kernel
theorem d_Model_turns_99 : decode b_Model_turns 99 = .ok (.iload 5, 2) := by decide +kernel
theorem d_Model_turns_101 : decode b_Model_turns 101 = .ok (.iastore, 1) := by decide +kernel
theorem d_Model_turns_102 : decode b_Model_turns 102 = .ok (.iload 4, 2) := by decide +kernel
theorem d_Model_turns_104 : decode b_Model_turns 104 = .ok (.iconst 1, 1) := by decide +kernel
theorem d_Model_turns_105 : decode b_Model_turns 105 = .ok (.iload 5, 2) := by decide +kernel
theorem d_Model_turns_107 : decode b_Model_turns 107 = .ok (.ishl, 1) := by decide +kernel
theorem d_Model_turns_108 : decode b_Model_turns 108 = .ok (.ior, 1) := by decide +kernel
theorem d_Model_turns_109 : decode b_Model_turns 109 = .ok (.istore 4, 2) := by decide +kernel
theorem d_Model_turns_111 : decode b_Model_turns 111 = .ok (.iinc 2 1, 3) := by decide +kernel
theorem d_Model_turns_114 : decode b_Model_turns 114 = .ok (.goto (-107), 3) := by decide +kernel
theorem d_Model_turns_117 : decode b_Model_turns 117 = .ok (.aload_n 0, 1) := by decide +kernel
theorem d_Model_turns_118 : decode b_Model_turns 118 = .ok (.getfield 40, 3) := by decide +kernel
theorem d_Model_turns_121 : decode b_Model_turns 121 = .ok (.iload_n 3, 1) := by decide +kernel
theorem d_Model_turns_122 : decode b_Model_turns 122 = .ok (.iload_n 2, 1) := by decide +kernel
theorem d_Model_turns_123 : decode b_Model_turns 123 = .ok (.iastore, 1) := by decide +kernel
theorem d_Model_turns_124 : decode b_Model_turns 124 = .ok (.iload_n 3, 1) := by decide +kernel
theorem d_Model_turns_125 : decode b_Model_turns 125 = .ok (.ireturn, 1) := by decide +kernel
theorem d_Model_goes_0 : decode b_Model_goes 0 = .ok (.aload_n 0, 1) := by decide +kernel
theorem d_Model_goes_1 : decode b_Model_goes 1 = .ok (.getfield 34, 3) := by decide +kernel
theorem d_Model_goes_4 : decode b_Model_goes 4 = .ok (.iload 4, 2) := by decide +kernel
theorem d_Model_goes_6 : decode b_Model_goes 6 = .ok (.iaload, 1) := by decide +kernel
theorem d_Model_goes_7 : decode b_Model_goes 7 = .ok (.istore 6, 2) := by decide +kernel
theorem d_Model_goes_9 : decode b_Model_goes 9 = .ok (.aload_n 0, 1) := by decide +kernel
theorem d_Model_goes_10 : decode b_Model_goes 10 = .ok (.getfield 31, 3) := by decide +kernel
theorem d_Model_goes_13 : decode b_Model_goes 13 = .ok (.iload 6, 2) := by decide +kernel
theorem d_Model_goes_15 : decode b_Model_goes 15 = .ok (.iaload, 1) := by decide +kernel
theorem d_Model_goes_16 : decode b_Model_goes 16 = .ok (.iload 5, 2) := by decide +kernel
theorem d_Model_goes_18 : decode b_Model_goes 18 = .ok (.if_icmp .eq 34, 3) := by decide +kernel
theorem d_Model_goes_21 : decode b_Model_goes 21 = .ok (.aload_n 0, 1) := by decide +kernel
theorem d_Model_goes_22 : decode b_Model_goes 22 = .ok (.getfield 37, 3) := by decide +kernel
theorem d_Model_goes_25 : decode b_Model_goes 25 = .ok (.iload 6, 2) := by decide +kernel
theorem d_Model_goes_27 : decode b_Model_goes 27 = .ok (.iaload, 1) := by decide +kernel
theorem d_Model_goes_28 : decode b_Model_goes 28 = .ok (.ifCond .lt 20, 3) := by decide +kernel
theorem d_Model_goes_31 : decode b_Model_goes 31 = .ok (.aload_n 0, 1) := by decide +kernel
theorem d_Model_goes_32 : decode b_Model_goes 32 = .ok (.getfield 37, 3) := by decide +kernel
theorem d_Model_goes_35 : decode b_Model_goes 35 = .ok (.iload 6, 2) := by decide +kernel
theorem d_Model_goes_37 : decode b_Model_goes 37 = .ok (.iaload, 1) := by decide +kernel
theorem d_Model_goes_38 : decode b_Model_goes 38 = .ok (.aload_n 0, 1) := by decide +kernel
theorem d_Model_goes_39 : decode b_Model_goes 39 = .ok (.getfield 31, 3) := by decide +kernel
theorem d_Model_goes_42 : decode b_Model_goes 42 = .ok (.iload 6, 2) := by decide +kernel
theorem d_Model_goes_44 : decode b_Model_goes 44 = .ok (.iaload, 1) := by decide +kernel
theorem d_Model_goes_45 : decode b_Model_goes 45 = .ok (.if_icmp .ne 7, 3) := by decide +kernel
theorem d_Model_goes_48 : decode b_Model_goes 48 = .ok (.iconst 1, 1) := by decide +kernel
theorem d_Model_goes_49 : decode b_Model_goes 49 = .ok (.goto 4, 3) := by decide +kernel
theorem d_Model_goes_52 : decode b_Model_goes 52 = .ok (.iconst 0, 1) := by decide +kernel
theorem d_Model_goes_53 : decode b_Model_goes 53 = .ok (.istore 7, 2) := by decide +kernel
theorem d_Model_goes_55 : decode b_Model_goes 55 = .ok (.iload_n 3, 1) := by decide +kernel
theorem d_Model_goes_56 : decode b_Model_goes 56 = .ok (.istore 8, 2) := by decide +kernel
theorem d_Model_goes_58 : decode b_Model_goes 58 = .ok (.iload 8, 2) := by decide +kernel
theorem d_Model_goes_60 : decode b_Model_goes 60 = .ok (.iload 4, 2) := by decide +kernel
theorem d_Model_goes_62 : decode b_Model_goes 62 = .ok (.if_icmp .gt 65, 3) := by decide +kernel
theorem d_Model_goes_65 : decode b_Model_goes 65 = .ok (.iload 7, 2) := by decide +kernel
theorem d_Model_goes_67 : decode b_Model_goes 67 = .ok (.ifCond .eq 60, 3) := by decide +kernel
theorem d_Model_goes_70 : decode b_Model_goes 70 = .ok (.aload_n 0, 1) := by decide +kernel
theorem d_Model_goes_71 : decode b_Model_goes 71 = .ok (.iload_n 1, 1) := by decide +kernel
theorem d_Model_goes_72 : decode b_Model_goes 72 = .ok (.iload 6, 2) := by decide +kernel
theorem d_Model_goes_74 : decode b_Model_goes 74 = .ok (.aload_n 0, 1) := by decide +kernel
theorem d_Model_goes_75 : decode b_Model_goes 75 = .ok (.getfield 34, 3) := by decide +kernel
theorem d_Model_goes_78 : decode b_Model_goes 78 = .ok (.iload 8, 2) := by decide +kernel
theorem d_Model_goes_80 : decode b_Model_goes 80 = .ok (.iaload, 1) := by decide +kernel
theorem d_Model_goes_81 : decode b_Model_goes 81 = .ok (.invokevirtual 148, 3) := by decide +kernel
theorem d_Model_goes_84 : decode b_Model_goes 84 = .ok (.ifCond .eq 30, 3) := by decide +kernel
theorem d_Model_goes_87 : decode b_Model_goes 87 = .ok (.aload_n 0, 1) := by decide +kernel
theorem d_Model_goes_88 : decode b_Model_goes 88 = .ok (.iload_n 2, 1) := by decide +kernel
theorem d_Model_goes_89 : decode b_Model_goes 89 = .ok (.aload_n 0, 1) := by decide +kernel
theorem d_Model_goes_90 : decode b_Model_goes 90 = .ok (.getfield 31, 3) := by decide +kernel
theorem d_Model_goes_93 : decode b_Model_goes 93 = .ok (.iload 6, 2) := by decide +kernel
theorem d_Model_goes_95 : decode b_Model_goes 95 = .ok (.iaload, 1) := by decide +kernel
theorem d_Model_goes_96 : decode b_Model_goes 96 = .ok (.aload_n 0, 1) := by decide +kernel
theorem d_Model_goes_97 : decode b_Model_goes 97 = .ok (.getfield 31, 3) := by decide +kernel
theorem d_Model_goes_100 : decode b_Model_goes 100 = .ok (.aload_n 0, 1) := by decide +kernel
theorem d_Model_goes_101 : decode b_Model_goes 101 = .ok (.getfield 34, 3) := by decide +kernel
theorem d_Model_goes_104 : decode b_Model_goes 104 = .ok (.iload 8, 2) := by decide +kernel
theorem d_Model_goes_106 : decode b_Model_goes 106 = .ok (.iaload, 1) := by decide +kernel
theorem d_Model_goes_107 : decode b_Model_goes 107 = .ok (.iaload, 1) := by decide +kernel
theorem d_Model_goes_108 : decode b_Model_goes 108 = .ok (.invokevirtual 148, 3) := by decide +kernel
theorem d_Model_goes_111 : decode b_Model_goes 111 = .ok (.ifCond .eq 7, 3) := by decide +kernel
theorem d_Model_goes_114 : decode b_Model_goes 114 = .ok (.iconst 1, 1) := by decide +kernel
theorem d_Model_goes_115 : decode b_Model_goes 115 = .ok (.goto 4, 3) := by decide +kernel
theorem d_Model_goes_118 : decode b_Model_goes 118 = .ok (.iconst 0, 1) := by decide +kernel
theorem d_Model_goes_119 : decode b_Model_goes 119 = .ok (.istore 7, 2) := by decide +kernel
theorem d_Model_goes_121 : decode b_Model_goes 121 = .ok (.iinc 8 1, 3) := by decide +kernel
theorem d_Model_goes_124 : decode b_Model_goes 124 = .ok (.goto (-66), 3) := by decide +kernel
theorem d_Model_goes_127 : decode b_Model_goes 127 = .ok (.iload 7, 2) := by decide +kernel
theorem d_Model_goes_129 : decode b_Model_goes 129 = .ok (.ireturn, 1) := by decide +kernel
theorem d_Model_isPart_0 : decode b_Model_isPart 0 = .ok (.iload_n 3, 1) := by decide +kernel
theorem d_Model_isPart_1 : decode b_Model_isPart 1 = .ok (.istore 6, 2) := by decide +kernel
theorem d_Model_isPart_3 : decode b_Model_isPart 3 = .ok (.aload_n 0, 1) := by decide +kernel
theorem d_Model_isPart_4 : decode b_Model_isPart 4 = .ok (.getfield 31, 3) := by decide +kernel
theorem d_Model_isPart_7 : decode b_Model_isPart 7 = .ok (.aload_n 0, 1) := by decide +kernel
theorem d_Model_isPart_8 : decode b_Model_isPart 8 = .ok (.getfield 34, 3) := by decide +kernel
theorem d_Model_isPart_11 : decode b_Model_isPart 11 = .ok (.iload_n 3, 1) := by decide +kernel
theorem d_Model_isPart_12 : decode b_Model_isPart 12 = .ok (.iaload, 1) := by decide +kernel
theorem d_Model_isPart_13 : decode b_Model_isPart 13 = .ok (.iconst (-1), 1) := by decide +kernel
theorem d_Model_isPart_14 : decode b_Model_isPart 14 = .ok (.iastore, 1) := by decide +kernel
theorem d_Model_isPart_15 : decode b_Model_isPart 15 = .ok (.iload 6, 2) := by decide +kernel
theorem d_Model_isPart_17 : decode b_Model_isPart 17 = .ok (.iload_n 3, 1) := by decide +kernel
theorem d_Model_isPart_18 : decode b_Model_isPart 18 = .ok (.if_icmp .lt 120, 3) := by decide +kernel
theorem d_Model_isPart_21 : decode b_Model_isPart 21 = .ok (.iload 6, 2) := by decide +kernel
theorem d_Model_isPart_23 : decode b_Model_isPart 23 = .ok (.iload 4, 2) := by decide +kernel
theorem d_Model_isPart_25 : decode b_Model_isPart 25 = .ok (.if_icmp .ge 113, 3) := by decide +kernel
theorem d_Model_isPart_28 : decode b_Model_isPart 28 = .ok (.aload_n 0, 1) := by decide +kernel
theorem d_Model_isPart_29 : decode b_Model_isPart 29 = .ok (.getfield 34, 3) := by decide +kernel
theorem d_Model_isPart_32 : decode b_Model_isPart 32 = .ok (.iload 6, 2) := by decide +kernel
theorem d_Model_isPart_34 : decode b_Model_isPart 34 = .ok (.iaload, 1) := by decide +kernel
theorem d_Model_isPart_35 : decode b_Model_isPart 35 = .ok (.istore 7, 2) := by decide +kernel
theorem d_Model_isPart_37 : decode b_Model_isPart 37 = .ok (.aload_n 0, 1) := by decide +kernel
theorem d_Model_isPart_38 : decode b_Model_isPart 38 = .ok (.getfield 31, 3) := by decide +kernel
theorem d_Model_isPart_41 : decode b_Model_isPart 41 = .ok (.iload 7, 2) := by decide +kernel
theorem d_Model_isPart_43 : decode b_Model_isPart 43 = .ok (.dup2, 1) := by decide +kernel
theorem d_Model_isPart_44 : decode b_Model_isPart 44 = .ok (.iaload, 1) := by decide +kernel
theorem d_Model_isPart_45 : decode b_Model_isPart 45 = .ok (.iconst 1, 1) := by decide +kernel
theorem d_Model_isPart_46 : decode b_Model_isPart 46 = .ok (.iadd, 1) := by decide +kernel
theorem d_Model_isPart_47 : decode b_Model_isPart 47 = .ok (.iastore, 1) := by decide +kernel
theorem d_Model_isPart_48 : decode b_Model_isPart 48 = .ok (.aload_n 0, 1) := by decide +kernel
theorem d_Model_isPart_49 : decode b_Model_isPart 49 = .ok (.getfield 31, 3) := by decide +kernel
theorem d_Model_isPart_52 : decode b_Model_isPart 52 = .ok (.iload 7, 2) := by decide +kernel
theorem d_Model_isPart_54 : decode b_Model_isPart 54 = .ok (.iaload, 1) := by decide +kernel
theorem d_Model_isPart_55 : decode b_Model_isPart 55 = .ok (.aload_n 0, 1) := by decide +kernel
theorem d_Model_isPart_56 : decode b_Model_isPart 56 = .ok (.iload_n 2, 1) := by decide +kernel
theorem d_Model_isPart_57 : decode b_Model_isPart 57 = .ok (.invokevirtual 75, 3) := by decide +kernel
theorem d_Model_isPart_60 : decode b_Model_isPart 60 = .ok (.if_icmp .ge 31, 3) := by decide +kernel
theorem d_Model_isPart_63 : decode b_Model_isPart 63 = .ok (.aload_n 0, 1) := by decide +kernel
theorem d_Model_isPart_64 : decode b_Model_isPart 64 = .ok (.iload_n 1, 1) := by decide +kernel
theorem d_Model_isPart_65 : decode b_Model_isPart 65 = .ok (.iload_n 2, 1) := by decide +kernel
theorem d_Model_isPart_66 : decode b_Model_isPart 66 = .ok (.iload_n 3, 1) := by decide +kernel
theorem d_Model_isPart_67 : decode b_Model_isPart 67 = .ok (.iload 6, 2) := by decide +kernel
theorem d_Model_isPart_69 : decode b_Model_isPart 69 = .ok (.iload 5, 2) := by decide +kernel
theorem d_Model_isPart_71 : decode b_Model_isPart 71 = .ok (.invokevirtual 208, 3) := by decide +kernel
theorem d_Model_isPart_74 : decode b_Model_isPart 74 = .ok (.ifCond .ne 17, 3) := by decide +kernel
theorem d_Model_isPart_77 : decode b_Model_isPart 77 = .ok (.aload_n 0, 1) := by decide +kernel
theorem d_Model_isPart_78 : decode b_Model_isPart 78 = .ok (.getfield 31, 3) := by decide +kernel
theorem d_Model_isPart_81 : decode b_Model_isPart 81 = .ok (.iload 7, 2) := by decide +kernel
theorem d_Model_isPart_83 : decode b_Model_isPart 83 = .ok (.dup2, 1) := by decide +kernel
theorem d_Model_isPart_84 : decode b_Model_isPart 84 = .ok (.iaload, 1) := by decide +kernel
theorem d_Model_isPart_85 : decode b_Model_isPart 85 = .ok (.iconst 1, 1) := by decide +kernel
theorem d_Model_isPart_86 : decode b_Model_isPart 86 = .ok (.iadd, 1) := by decide +kernel
theorem d_Model_isPart_87 : decode b_Model_isPart 87 = .ok (.iastore, 1) := by decide +kernel
theorem d_Model_isPart_88 : decode b_Model_isPart 88 = .ok (.goto (-40), 3) := by decide +kernel
theorem d_Model_isPart_91 : decode b_Model_isPart 91 = .ok (.aload_n 0, 1) := by decide +kernel
theorem d_Model_isPart_92 : decode b_Model_isPart 92 = .ok (.getfield 31, 3) := by decide +kernel
theorem d_Model_isPart_95 : decode b_Model_isPart 95 = .ok (.iload 7, 2) := by decide +kernel
theorem d_Model_isPart_97 : decode b_Model_isPart 97 = .ok (.iaload, 1) := by decide +kernel
theorem d_Model_isPart_98 : decode b_Model_isPart 98 = .ok (.aload_n 0, 1) := by decide +kernel
theorem d_Model_isPart_99 : decode b_Model_isPart 99 = .ok (.iload_n 2, 1) := by decide +kernel
theorem d_Model_isPart_100 : decode b_Model_isPart 100 = .ok (.invokevirtual 75, 3) := by decide +kernel
theorem d_Model_isPart_103 : decode b_Model_isPart 103 = .ok (.if_icmp .ge 29, 3) := by decide +kernel
theorem d_Model_isPart_106 : decode b_Model_isPart 106 = .ok (.iinc 6 1, 3) := by decide +kernel
theorem d_Model_isPart_109 : decode b_Model_isPart 109 = .ok (.iload 6, 2) := by decide +kernel
theorem d_Model_isPart_111 : decode b_Model_isPart 111 = .ok (.iload 4, 2) := by decide +kernel
theorem d_Model_isPart_113 : decode b_Model_isPart 113 = .ok (.if_icmp .ge 22, 3) := by decide +kernel
theorem d_Model_isPart_116 : decode b_Model_isPart 116 = .ok (.aload_n 0, 1) := by decide +kernel
theorem d_Model_isPart_117 : decode b_Model_isPart 117 = .ok (.getfield 31, 3) := by decide +kernel
theorem d_Model_isPart_120 : decode b_Model_isPart 120 = .ok (.aload_n 0, 1) := by decide +kernel
theorem d_Model_isPart_121 : decode b_Model_isPart 121 = .ok (.getfield 34, 3) := by decide +kernel
theorem d_Model_isPart_124 : decode b_Model_isPart 124 = .ok (.iload 6, 2) := by decide +kernel
theorem d_Model_isPart_126 : decode b_Model_isPart 126 = .ok (.iaload, 1) := by decide +kernel
theorem d_Model_isPart_127 : decode b_Model_isPart 127 = .ok (.iconst (-1), 1) := by decide +kernel
theorem d_Model_isPart_128 : decode b_Model_isPart 128 = .ok (.iastore, 1) := by decide +kernel
theorem d_Model_isPart_129 : decode b_Model_isPart 129 = .ok (.goto 6, 3) := by decide +kernel
theorem d_Model_isPart_132 : decode b_Model_isPart 132 = .ok (.iinc 6 (-1), 3) := by decide +kernel
theorem d_Model_isPart_135 : decode b_Model_isPart 135 = .ok (.goto (-120), 3) := by decide +kernel
theorem d_Model_isPart_138 : decode b_Model_isPart 138 = .ok (.iload 6, 2) := by decide +kernel
theorem d_Model_isPart_140 : decode b_Model_isPart 140 = .ok (.iload 4, 2) := by decide +kernel
theorem d_Model_isPart_142 : decode b_Model_isPart 142 = .ok (.if_icmp .ne 7, 3) := by decide +kernel
theorem d_Model_isPart_145 : decode b_Model_isPart 145 = .ok (.iconst 1, 1) := by decide +kernel
theorem d_Model_isPart_146 : decode b_Model_isPart 146 = .ok (.goto 4, 3) := by decide +kernel
theorem d_Model_isPart_149 : decode b_Model_isPart 149 = .ok (.iconst 0, 1) := by decide +kernel
theorem d_Model_isPart_150 : decode b_Model_isPart 150 = .ok (.ireturn, 1) := by decide +kernel
theorem d_Model_isThere_0 : decode b_Model_isThere 0 = .ok (.aload_n 0, 1) := by decide +kernel
theorem d_Model_isThere_1 : decode b_Model_isThere 1 = .ok (.iload_n 1, 1) := by decide +kernel
theorem d_Model_isThere_2 : decode b_Model_isThere 2 = .ok (.invokevirtual 212, 3) := by decide +kernel
theorem d_Model_isThere_5 : decode b_Model_isThere 5 = .ok (.istore 4, 2) := by decide +kernel
theorem d_Model_isThere_7 : decode b_Model_isThere 7 = .ok (.iconst 1, 1) := by decide +kernel
theorem d_Model_isThere_8 : decode b_Model_isThere 8 = .ok (.istore 5, 2) := by decide +kernel
theorem d_Model_isThere_10 : decode b_Model_isThere 10 = .ok (.iconst 0, 1) := by decide +kernel
theorem d_Model_isThere_11 : decode b_Model_isThere 11 = .ok (.istore 6, 2) := by decide +kernel
theorem d_Model_isThere_13 : decode b_Model_isThere 13 = .ok (.iload 6, 2) := by decide +kernel
theorem d_Model_isThere_15 : decode b_Model_isThere 15 = .ok (.iload 4, 2) := by decide +kernel
theorem d_Model_isThere_17 : decode b_Model_isThere 17 = .ok (.if_icmp .ge 39, 3) := by decide +kernel
theorem d_Model_isThere_20 : decode b_Model_isThere 20 = .ok (.iload 5, 2) := by decide +kernel
theorem d_Model_isThere_22 : decode b_Model_isThere 22 = .ok (.ifCond .eq 34, 3) := by decide +kernel
theorem d_Model_isThere_25 : decode b_Model_isThere 25 = .ok (.aload_n 0, 1) := by decide +kernel
theorem d_Model_isThere_26 : decode b_Model_isThere 26 = .ok (.iload_n 1, 1) := by decide +kernel
theorem d_Model_isThere_27 : decode b_Model_isThere 27 = .ok (.iload_n 2, 1) := by decide +kernel
theorem d_Model_isThere_28 : decode b_Model_isThere 28 = .ok (.aload_n 0, 1) := by decide +kernel
theorem d_Model_isThere_29 : decode b_Model_isThere 29 = .ok (.getfield 40, 3) := by decide +kernel
theorem d_Model_isThere_32 : decode b_Model_isThere 32 = .ok (.iload 6, 2) := by decide +kernel
theorem d_Model_isThere_34 : decode b_Model_isThere 34 = .ok (.iaload, 1) := by decide +kernel
theorem d_Model_isThere_35 : decode b_Model_isThere 35 = .ok (.aload_n 0, 1) := by decide +kernel
theorem d_Model_isThere_36 : decode b_Model_isThere 36 = .ok (.getfield 40, 3) := by decide +kernel
theorem d_Model_isThere_39 : decode b_Model_isThere 39 = .ok (.iload 6, 2) := by decide +kernel
theorem d_Model_isThere_41 : decode b_Model_isThere 41 = .ok (.iconst 1, 1) := by decide +kernel
theorem d_Model_isThere_42 : decode b_Model_isThere 42 = .ok (.iadd, 1) := by decide +kernel
theorem d_Model_isThere_43 : decode b_Model_isThere 43 = .ok (.iaload, 1) := by decide +kernel
theorem d_Model_isThere_44 : decode b_Model_isThere 44 = .ok (.iload_n 3, 1) := by decide +kernel
theorem d_Model_isThere_45 : decode b_Model_isThere 45 = .ok (.invokevirtual 215, 3) := by decide +kernel
theorem d_Model_isThere_48 : decode b_Model_isThere 48 = .ok (.istore 5, 2) := by decide +kernel
theorem d_Model_isThere_50 : decode b_Model_isThere 50 = .ok (.iinc 6 1, 3) := by decide +kernel
theorem d_Model_isThere_53 : decode b_Model_isThere 53 = .ok (.goto (-40), 3) := by decide +kernel
theorem d_Model_isThere_56 : decode b_Model_isThere 56 = .ok (.iload 5, 2) := by decide +kernel
theorem d_Model_isThere_58 : decode b_Model_isThere 58 = .ok (.ireturn, 1) := by decide +kernel
theorem d_Model_isFree_0 : decode b_Model_isFree 0 = .ok (.aload_n 0, 1) := by decide +kernel
theorem d_Model_isFree_1 : decode b_Model_isFree 1 = .ok (.invokevirtual 218, 3) := by decide +kernel
theorem d_Model_isFree_4 : decode b_Model_isFree 4 = .ok (.aload_n 0, 1) := by decide +kernel
theorem d_Model_isFree_5 : decode b_Model_isFree 5 = .ok (.iload_n 1, 1) := by decide +kernel
theorem d_Model_isFree_6 : decode b_Model_isFree 6 = .ok (.iload_n 2, 1) := by decide +kernel
theorem d_Model_isFree_7 : decode b_Model_isFree 7 = .ok (.iload_n 3, 1) := by decide +kernel
theorem d_Model_isFree_8 : decode b_Model_isFree 8 = .ok (.invokevirtual 221, 3) := by decide +kernel
theorem d_Model_isFree_11 : decode b_Model_isFree 11 = .ok (.ireturn, 1) := by decide +kernel
theorem d_Model_lowestSpared_0 : decode b_Model_lowestSpared 0 = .ok (.iconst (-1), 1) := by decide +kernel
theorem d_Model_lowestSpared_1 : decode b_Model_lowestSpared 1 = .ok (.istore_n 2, 1) := by decide +kernel
theorem d_Model_lowestSpared_2 : decode b_Model_lowestSpared 2 = .ok (.iconst 0, 1) := by decide +kernel
theorem d_Model_lowestSpared_3 : decode b_Model_lowestSpared 3 = .ok (.istore_n 3, 1) := by decide +kernel
theorem d_Model_lowestSpared_4 : decode b_Model_lowestSpared 4 = .ok (.iload_n 3, 1) := by decide +kernel
theorem d_Model_lowestSpared_5 : decode b_Model_lowestSpared 5 = .ok (.aload_n 0, 1) := by decide +kernel
theorem d_Model_lowestSpared_6 : decode b_Model_lowestSpared 6 = .ok (.iload_n 1, 1) := by decide +kernel
theorem d_Model_lowestSpared_7 : decode b_Model_lowestSpared 7 = .ok (.invokevirtual 75, 3) := by decide +kernel
theorem d_Model_lowestSpared_10 : decode b_Model_lowestSpared 10 = .ok (.if_icmp .ge 30, 3) := by decide +kernel
theorem d_Model_lowestSpared_13 : decode b_Model_lowestSpared 13 = .ok (.iload_n 2, 1) := by decide +kernel
theorem d_Model_lowestSpared_14 : decode b_Model_lowestSpared 14 = .ok (.iconst (-1), 1) := by decide +kernel
theorem d_Model_lowestSpared_15 : decode b_Model_lowestSpared 15 = .ok (.if_icmp .ne 25, 3) := by decide +kernel
theorem d_Model_lowestSpared_18 : decode b_Model_lowestSpared 18 = .ok (.aload_n 0, 1) := by decide +kernel
theorem d_Model_lowestSpared_19 : decode b_Model_lowestSpared 19 = .ok (.iload_n 1, 1) := by decide +kernel
theorem d_Model_lowestSpared_20 : decode b_Model_lowestSpared 20 = .ok (.iload_n 1, 1) := by decide +kernel
theorem d_Model_lowestSpared_21 : decode b_Model_lowestSpared 21 = .ok (.iload_n 3, 1) := by decide +kernel
theorem d_Model_lowestSpared_22 : decode b_Model_lowestSpared 22 = .ok (.invokevirtual 224, 3) := by decide +kernel
theorem d_Model_lowestSpared_25 : decode b_Model_lowestSpared 25 = .ok (.ifCond .eq 7, 3) := by decide +kernel
theorem d_Model_lowestSpared_28 : decode b_Model_lowestSpared 28 = .ok (.iload_n 3, 1) := by decide +kernel
theorem d_Model_lowestSpared_29 : decode b_Model_lowestSpared 29 = .ok (.goto 4, 3) := by decide +kernel
theorem d_Model_lowestSpared_32 : decode b_Model_lowestSpared 32 = .ok (.iconst (-1), 1) := by decide +kernel
theorem d_Model_lowestSpared_33 : decode b_Model_lowestSpared 33 = .ok (.istore_n 2, 1) := by decide +kernel
theorem d_Model_lowestSpared_34 : decode b_Model_lowestSpared 34 = .ok (.iinc 3 1, 3) := by decide +kernel
theorem d_Model_lowestSpared_37 : decode b_Model_lowestSpared 37 = .ok (.goto (-33), 3) := by decide +kernel
theorem d_Model_lowestSpared_40 : decode b_Model_lowestSpared 40 = .ok (.iload_n 2, 1) := by decide +kernel
theorem d_Model_lowestSpared_41 : decode b_Model_lowestSpared 41 = .ok (.ireturn, 1) := by decide +kernel
theorem d_Model_shrinks_0 : decode b_Model_shrinks 0 = .ok (.aload_n 0, 1) := by decide +kernel
theorem d_Model_shrinks_1 : decode b_Model_shrinks 1 = .ok (.iconst 4, 1) := by decide +kernel
theorem d_Model_shrinks_2 : decode b_Model_shrinks 2 = .ok (.invokevirtual 283, 3) := by decide +kernel
theorem d_Model_shrinks_5 : decode b_Model_shrinks 5 = .ok (.istore_n 1, 1) := by decide +kernel
theorem d_Model_shrinks_6 : decode b_Model_shrinks 6 = .ok (.iload_n 1, 1) := by decide +kernel
theorem d_Model_shrinks_7 : decode b_Model_shrinks 7 = .ok (.iconst (-1), 1) := by decide +kernel
theorem d_Model_shrinks_8 : decode b_Model_shrinks 8 = .ok (.if_icmp .eq 18, 3) := by decide +kernel
theorem d_Model_shrinks_11 : decode b_Model_shrinks 11 = .ok (.aload_n 0, 1) := by decide +kernel
theorem d_Model_shrinks_12 : decode b_Model_shrinks 12 = .ok (.iconst 4, 1) := by decide +kernel
theorem d_Model_shrinks_13 : decode b_Model_shrinks 13 = .ok (.iload_n 1, 1) := by decide +kernel
theorem d_Model_shrinks_14 : decode b_Model_shrinks 14 = .ok (.invokevirtual 280, 3) := by decide +kernel
theorem d_Model_shrinks_17 : decode b_Model_shrinks 17 = .ok (.aload_n 0, 1) := by decide +kernel
theorem d_Model_shrinks_18 : decode b_Model_shrinks 18 = .ok (.iconst 4, 1) := by decide +kernel
theorem d_Model_shrinks_19 : decode b_Model_shrinks 19 = .ok (.invokevirtual 283, 3) := by decide +kernel
theorem d_Model_shrinks_22 : decode b_Model_shrinks 22 = .ok (.istore_n 1, 1) := by decide +kernel
theorem d_Model_shrinks_23 : decode b_Model_shrinks 23 = .ok (.goto (-17), 3) := by decide +kernel
theorem d_Model_shrinks_26 : decode b_Model_shrinks 26 = .ok (.aload_n 0, 1) := by decide +kernel
theorem d_Model_shrinks_27 : decode b_Model_shrinks 27 = .ok (.iconst 4, 1) := by decide +kernel
theorem d_Model_shrinks_28 : decode b_Model_shrinks 28 = .ok (.invokevirtual 75, 3) := by decide +kernel
theorem d_Model_shrinks_31 : decode b_Model_shrinks 31 = .ok (.ireturn, 1) := by decide +kernel
theorem d_Model_derive_0 : decode b_Model_derive 0 = .ok (.iload_n 1, 1) := by decide +kernel
theorem d_Model_derive_1 : decode b_Model_derive 1 = .ok (.invokestatic 71, 3) := by decide +kernel
theorem d_Model_derive_4 : decode b_Model_derive 4 = .ok (.ifCond .eq 10, 3) := by decide +kernel
theorem d_Model_derive_7 : decode b_Model_derive 7 = .ok (.iload_n 2, 1) := by decide +kernel
theorem d_Model_derive_8 : decode b_Model_derive 8 = .ok (.invokestatic 71, 3) := by decide +kernel
theorem d_Model_derive_11 : decode b_Model_derive 11 = .ok (.ifCond .ne 9, 3) := by decide +kernel
theorem d_Model_derive_14 : decode b_Model_derive 14 = .ok (.aload_n 0, 1) := by decide +kernel
theorem d_Model_derive_15 : decode b_Model_derive 15 = .ok (.iconst 1, 1) := by decide +kernel
theorem d_Model_derive_16 : decode b_Model_derive 16 = .ok (.invokevirtual 93, 3) := by decide +kernel
theorem d_Model_derive_19 : decode b_Model_derive 19 = .ok (.ireturn, 1) := by decide +kernel
theorem d_Model_derive_20 : decode b_Model_derive 20 = .ok (.iload_n 3, 1) := by decide +kernel
theorem d_Model_derive_21 : decode b_Model_derive 21 = .ok (.iconst 0, 1) := by decide +kernel
theorem d_Model_derive_22 : decode b_Model_derive 22 = .ok (.iconst 3, 1) := by decide +kernel
theorem d_Model_derive_23 : decode b_Model_derive 23 = .ok (.invokestatic 67, 3) := by decide +kernel
theorem d_Model_derive_26 : decode b_Model_derive 26 = .ok (.ifCond .eq 30, 3) := by decide +kernel
theorem d_Model_derive_29 : decode b_Model_derive 29 = .ok (.iload 4, 2) := by decide +kernel
theorem d_Model_derive_31 : decode b_Model_derive 31 = .ok (.iconst 0, 1) := by decide +kernel
theorem d_Model_derive_32 : decode b_Model_derive 32 = .ok (.iload_n 3, 1) := by decide +kernel
theorem d_Model_derive_33 : decode b_Model_derive 33 = .ok (.iconst 2, 1) := by decide +kernel
theorem d_Model_derive_34 : decode b_Model_derive 34 = .ok (.if_icmp .ne 15, 3) := by decide +kernel
theorem d_Model_derive_37 : decode b_Model_derive 37 = .ok (.iconst 1, 1) := by decide +kernel
theorem d_Model_derive_38 : decode b_Model_derive 38 = .ok (.aload_n 0, 1) := by decide +kernel
theorem d_Model_derive_39 : decode b_Model_derive 39 = .ok (.iload_n 2, 1) := by decide +kernel
theorem d_Model_derive_40 : decode b_Model_derive 40 = .ok (.invokevirtual 75, 3) := by decide +kernel
theorem d_Model_derive_43 : decode b_Model_derive 43 = .ok (.ishl, 1) := by decide +kernel
theorem d_Model_derive_44 : decode b_Model_derive 44 = .ok (.iconst 1, 1) := by decide +kernel
theorem d_Model_derive_45 : decode b_Model_derive 45 = .ok (.isub, 1) := by decide +kernel
theorem d_Model_derive_46 : decode b_Model_derive 46 = .ok (.goto 4, 3) := by decide +kernel
theorem d_Model_derive_49 : decode b_Model_derive 49 = .ok (.iconst 0, 1) := by decide +kernel
theorem d_Model_derive_50 : decode b_Model_derive 50 = .ok (.invokestatic 67, 3) := by decide +kernel
theorem d_Model_derive_53 : decode b_Model_derive 53 = .ok (.ifCond .ne 9, 3) := by decide +kernel
theorem d_Model_derive_56 : decode b_Model_derive 56 = .ok (.aload_n 0, 1) := by decide +kernel
theorem d_Model_derive_57 : decode b_Model_derive 57 = .ok (.iconst 2, 1) := by decide +kernel
theorem d_Model_derive_58 : decode b_Model_derive 58 = .ok (.invokevirtual 93, 3) := by decide +kernel
theorem d_Model_derive_61 : decode b_Model_derive 61 = .ok (.ireturn, 1) := by decide +kernel
theorem d_Model_derive_62 : decode b_Model_derive 62 = .ok (.iload_n 3, 1) := by decide +kernel
theorem d_Model_derive_63 : decode b_Model_derive 63 = .ok (.iconst 1, 1) := by decide +kernel
theorem d_Model_derive_64 : decode b_Model_derive 64 = .ok (.if_icmp .ne 11, 3) := by decide +kernel
theorem d_Model_derive_67 : decode b_Model_derive 67 = .ok (.aload_n 0, 1) := by decide +kernel
theorem d_Model_derive_68 : decode b_Model_derive 68 = .ok (.iload_n 2, 1) := by decide +kernel
theorem d_Model_derive_69 : decode b_Model_derive 69 = .ok (.invokevirtual 151, 3) := by decide +kernel
theorem d_Model_derive_72 : decode b_Model_derive 72 = .ok (.goto 40, 3) := by decide +kernel
theorem d_Model_derive_75 : decode b_Model_derive 75 = .ok (.iload_n 3, 1) := by decide +kernel
theorem d_Model_derive_76 : decode b_Model_derive 76 = .ok (.iconst 2, 1) := by decide +kernel
theorem d_Model_derive_77 : decode b_Model_derive 77 = .ok (.if_icmp .ne 14, 3) := by decide +kernel
theorem d_Model_derive_80 : decode b_Model_derive 80 = .ok (.aload_n 0, 1) := by decide +kernel
theorem d_Model_derive_81 : decode b_Model_derive 81 = .ok (.iload_n 2, 1) := by decide +kernel
theorem d_Model_derive_82 : decode b_Model_derive 82 = .ok (.iconst 4, 1) := by decide +kernel
theorem d_Model_derive_83 : decode b_Model_derive 83 = .ok (.iload 4, 2) := by decide +kernel
theorem d_Model_derive_85 : decode b_Model_derive 85 = .ok (.invokevirtual 144, 3) := by decide +kernel
theorem d_Model_derive_88 : decode b_Model_derive 88 = .ok (.goto 24, 3) := by decide +kernel
theorem d_Model_derive_91 : decode b_Model_derive 91 = .ok (.aload_n 0, 1) := by decide +kernel
theorem d_Model_derive_92 : decode b_Model_derive 92 = .ok (.iload_n 2, 1) := by decide +kernel
theorem d_Model_derive_93 : decode b_Model_derive 93 = .ok (.iconst 4, 1) := by decide +kernel
theorem d_Model_derive_94 : decode b_Model_derive 94 = .ok (.invokevirtual 89, 3) := by decide +kernel
theorem d_Model_derive_97 : decode b_Model_derive 97 = .ok (.iload_n 3, 1) := by decide +kernel
theorem d_Model_derive_98 : decode b_Model_derive 98 = .ok (.iconst 3, 1) := by decide +kernel
theorem d_Model_derive_99 : decode b_Model_derive 99 = .ok (.if_icmp .ne 10, 3) := by decide +kernel
theorem d_Model_derive_102 : decode b_Model_derive 102 = .ok (.aload_n 0, 1) := by decide +kernel
theorem d_Model_derive_103 : decode b_Model_derive 103 = .ok (.invokevirtual 154, 3) := by decide +kernel
theorem d_Model_derive_106 : decode b_Model_derive 106 = .ok (.goto 4, 3) := by decide +kernel
theorem d_Model_derive_109 : decode b_Model_derive 109 = .ok (.iconst 0, 1) := by decide +kernel
theorem d_Model_derive_110 : decode b_Model_derive 110 = .ok (.istore 5, 2) := by decide +kernel
theorem d_Model_derive_112 : decode b_Model_derive 112 = .ok (.aload_n 0, 1) := by decide +kernel
theorem d_Model_derive_113 : decode b_Model_derive 113 = .ok (.iload_n 1, 1) := by decide +kernel
theorem d_Model_derive_114 : decode b_Model_derive 114 = .ok (.invokevirtual 99, 3) := by decide +kernel
theorem d_Model_derive_117 : decode b_Model_derive 117 = .ok (.aload_n 0, 1) := by decide +kernel
theorem d_Model_derive_118 : decode b_Model_derive 118 = .ok (.iload_n 1, 1) := by decide +kernel
theorem d_Model_derive_119 : decode b_Model_derive 119 = .ok (.invokevirtual 75, 3) := by decide +kernel
theorem d_Model_derive_122 : decode b_Model_derive 122 = .ok (.ireturn, 1) := by decide +kernel
theorem d_Model_bits_0 : decode b_Model_bits 0 = .ok (.iconst 0, 1) := by decide +kernel
theorem d_Model_bits_1 : decode b_Model_bits 1 = .ok (.istore_n 1, 1) := by decide +kernel
theorem d_Model_bits_2 : decode b_Model_bits 2 = .ok (.iload_n 0, 1) := by decide +kernel
theorem d_Model_bits_3 : decode b_Model_bits 3 = .ok (.istore_n 2, 1) := by decide +kernel
theorem d_Model_bits_4 : decode b_Model_bits 4 = .ok (.iload_n 2, 1) := by decide +kernel
theorem d_Model_bits_5 : decode b_Model_bits 5 = .ok (.ifCond .eq 15, 3) := by decide +kernel
theorem d_Model_bits_8 : decode b_Model_bits 8 = .ok (.iinc 1 1, 3) := by decide +kernel
theorem d_Model_bits_11 : decode b_Model_bits 11 = .ok (.iload_n 2, 1) := by decide +kernel
theorem d_Model_bits_12 : decode b_Model_bits 12 = .ok (.iload_n 2, 1) := by decide +kernel
theorem d_Model_bits_13 : decode b_Model_bits 13 = .ok (.iconst 1, 1) := by decide +kernel
theorem d_Model_bits_14 : decode b_Model_bits 14 = .ok (.isub, 1) := by decide +kernel
theorem d_Model_bits_15 : decode b_Model_bits 15 = .ok (.iand, 1) := by decide +kernel
theorem d_Model_bits_16 : decode b_Model_bits 16 = .ok (.istore_n 2, 1) := by decide +kernel
theorem d_Model_bits_17 : decode b_Model_bits 17 = .ok (.goto (-13), 3) := by decide +kernel
theorem d_Model_bits_20 : decode b_Model_bits 20 = .ok (.iload_n 1, 1) := by decide +kernel
theorem d_Model_bits_21 : decode b_Model_bits 21 = .ok (.ireturn, 1) := by decide +kernel
theorem d_Model_edges_0 : decode b_Model_edges 0 = .ok (.iconst 0, 1) := by decide +kernel
theorem d_Model_edges_1 : decode b_Model_edges 1 = .ok (.istore_n 3, 1) := by decide +kernel
theorem d_Model_edges_2 : decode b_Model_edges 2 = .ok (.iconst 0, 1) := by decide +kernel
theorem d_Model_edges_3 : decode b_Model_edges 3 = .ok (.istore 4, 2) := by decide +kernel
theorem d_Model_edges_5 : decode b_Model_edges 5 = .ok (.iload 4, 2) := by decide +kernel
theorem d_Model_edges_7 : decode b_Model_edges 7 = .ok (.aload_n 0, 1) := by decide +kernel
theorem d_Model_edges_8 : decode b_Model_edges 8 = .ok (.iload_n 1, 1) := by decide +kernel
theorem d_Model_edges_9 : decode b_Model_edges 9 = .ok (.invokevirtual 75, 3) := by decide +kernel
theorem d_Model_edges_12 : decode b_Model_edges 12 = .ok (.if_icmp .ge 65, 3) := by decide +kernel
theorem d_Model_edges_15 : decode b_Model_edges 15 = .ok (.iload 4, 2) := by decide +kernel
theorem d_Model_edges_17 : decode b_Model_edges 17 = .ok (.istore 5, 2) := by decide +kernel
theorem d_Model_edges_19 : decode b_Model_edges 19 = .ok (.iload 5, 2) := by decide +kernel
theorem d_Model_edges_21 : decode b_Model_edges 21 = .ok (.aload_n 0, 1) := by decide +kernel
theorem d_Model_edges_22 : decode b_Model_edges 22 = .ok (.iload_n 1, 1) := by decide +kernel
theorem d_Model_edges_23 : decode b_Model_edges 23 = .ok (.invokevirtual 75, 3) := by decide +kernel
theorem d_Model_edges_26 : decode b_Model_edges 26 = .ok (.if_icmp .ge 45, 3) := by decide +kernel
theorem d_Model_edges_29 : decode b_Model_edges 29 = .ok (.iload_n 3, 1) := by decide +kernel
theorem d_Model_edges_30 : decode b_Model_edges 30 = .ok (.aload_n 0, 1) := by decide +kernel
theorem d_Model_edges_31 : decode b_Model_edges 31 = .ok (.iload_n 1, 1) := by decide +kernel
theorem d_Model_edges_32 : decode b_Model_edges 32 = .ok (.iload 4, 2) := by decide +kernel
theorem d_Model_edges_34 : decode b_Model_edges 34 = .ok (.iload 5, 2) := by decide +kernel
theorem d_Model_edges_36 : decode b_Model_edges 36 = .ok (.invokevirtual 148, 3) := by decide +kernel
theorem d_Model_edges_39 : decode b_Model_edges 39 = .ok (.ifCond .eq 23, 3) := by decide +kernel
theorem d_Model_edges_42 : decode b_Model_edges 42 = .ok (.iload_n 2, 1) := by decide +kernel
theorem d_Model_edges_43 : decode b_Model_edges 43 = .ok (.iload 4, 2) := by decide +kernel
theorem d_Model_edges_45 : decode b_Model_edges 45 = .ok (.iload 5, 2) := by decide +kernel
theorem d_Model_edges_47 : decode b_Model_edges 47 = .ok (.if_icmp .ne 7, 3) := by decide +kernel
theorem d_Model_edges_50 : decode b_Model_edges 50 = .ok (.iconst 1, 1) := by decide +kernel
theorem d_Model_edges_51 : decode b_Model_edges 51 = .ok (.goto 4, 3) := by decide +kernel
theorem d_Model_edges_54 : decode b_Model_edges 54 = .ok (.iconst 0, 1) := by decide +kernel
theorem d_Model_edges_55 : decode b_Model_edges 55 = .ok (.if_icmp .ne 7, 3) := by decide +kernel
theorem d_Model_edges_58 : decode b_Model_edges 58 = .ok (.iconst 1, 1) := by decide +kernel
theorem d_Model_edges_59 : decode b_Model_edges 59 = .ok (.goto 4, 3) := by decide +kernel
theorem d_Model_edges_62 : decode b_Model_edges 62 = .ok (.iconst 0, 1) := by decide +kernel
theorem d_Model_edges_63 : decode b_Model_edges 63 = .ok (.iadd, 1) := by decide +kernel
theorem d_Model_edges_64 : decode b_Model_edges 64 = .ok (.istore_n 3, 1) := by decide +kernel
theorem d_Model_edges_65 : decode b_Model_edges 65 = .ok (.iinc 5 1, 3) := by decide +kernel
theorem d_Model_edges_68 : decode b_Model_edges 68 = .ok (.goto (-49), 3) := by decide +kernel
theorem d_Model_edges_71 : decode b_Model_edges 71 = .ok (.iinc 4 1, 3) := by decide +kernel
theorem d_Model_edges_74 : decode b_Model_edges 74 = .ok (.goto (-69), 3) := by decide +kernel
theorem d_Model_edges_77 : decode b_Model_edges 77 = .ok (.iload_n 3, 1) := by decide +kernel
theorem d_Model_edges_78 : decode b_Model_edges 78 = .ok (.ireturn, 1) := by decide +kernel
theorem d_Model_reached_0 : decode b_Model_reached 0 = .ok (.iload_n 2, 1) := by decide +kernel
theorem d_Model_reached_1 : decode b_Model_reached 1 = .ok (.istore_n 3, 1) := by decide +kernel
theorem d_Model_reached_2 : decode b_Model_reached 2 = .ok (.iconst 0, 1) := by decide +kernel
theorem d_Model_reached_3 : decode b_Model_reached 3 = .ok (.istore 4, 2) := by decide +kernel
theorem d_Model_reached_5 : decode b_Model_reached 5 = .ok (.iload 4, 2) := by decide +kernel
theorem d_Model_reached_7 : decode b_Model_reached 7 = .ok (.bipush 8, 2) := by decide +kernel
theorem d_Model_reached_9 : decode b_Model_reached 9 = .ok (.if_icmp .ge 52, 3) := by decide +kernel
theorem d_Model_reached_12 : decode b_Model_reached 12 = .ok (.iconst 0, 1) := by decide +kernel
theorem d_Model_reached_13 : decode b_Model_reached 13 = .ok (.istore 5, 2) := by decide +kernel
theorem d_Model_reached_15 : decode b_Model_reached 15 = .ok (.iload 5, 2) := by decide +kernel
theorem d_Model_reached_17 : decode b_Model_reached 17 = .ok (.aload_n 0, 1) := by decide +kernel
theorem d_Model_reached_18 : decode b_Model_reached 18 = .ok (.iload_n 1, 1) := by decide +kernel
theorem d_Model_reached_19 : decode b_Model_reached 19 = .ok (.invokevirtual 75, 3) := by decide +kernel
theorem d_Model_reached_22 : decode b_Model_reached 22 = .ok (.if_icmp .ge 33, 3) := by decide +kernel
theorem d_Model_reached_25 : decode b_Model_reached 25 = .ok (.iload_n 3, 1) := by decide +kernel
theorem d_Model_reached_26 : decode b_Model_reached 26 = .ok (.iload_n 3, 1) := by decide +kernel
theorem d_Model_reached_27 : decode b_Model_reached 27 = .ok (.iload 5, 2) := by decide +kernel
theorem d_Model_reached_29 : decode b_Model_reached 29 = .ok (.ishr, 1) := by decide +kernel
theorem d_Model_reached_30 : decode b_Model_reached 30 = .ok (.iconst 1, 1) := by decide +kernel
theorem d_Model_reached_31 : decode b_Model_reached 31 = .ok (.iand, 1) := by decide +kernel
theorem d_Model_reached_32 : decode b_Model_reached 32 = .ok (.iconst 1, 1) := by decide +kernel
theorem d_Model_reached_33 : decode b_Model_reached 33 = .ok (.if_icmp .ne 13, 3) := by decide +kernel
theorem d_Model_reached_36 : decode b_Model_reached 36 = .ok (.aload_n 0, 1) := by decide +kernel
theorem d_Model_reached_37 : decode b_Model_reached 37 = .ok (.iload_n 1, 1) := by decide +kernel
theorem d_Model_reached_38 : decode b_Model_reached 38 = .ok (.iload 5, 2) := by decide +kernel
theorem d_Model_reached_40 : decode b_Model_reached 40 = .ok (.invokevirtual 161, 3) := by decide +kernel
theorem d_Model_reached_43 : decode b_Model_reached 43 = .ok (.goto 4, 3) := by decide +kernel
theorem d_Model_reached_46 : decode b_Model_reached 46 = .ok (.iconst 0, 1) := by decide +kernel
theorem d_Model_reached_47 : decode b_Model_reached 47 = .ok (.ior, 1) := by decide +kernel
theorem d_Model_reached_48 : decode b_Model_reached 48 = .ok (.istore_n 3, 1) := by decide +kernel
theorem d_Model_reached_49 : decode b_Model_reached 49 = .ok (.iinc 5 1, 3) := by decide +kernel
theorem d_Model_reached_52 : decode b_Model_reached 52 = .ok (.goto (-37), 3) := by decide +kernel
theorem d_Model_reached_55 : decode b_Model_reached 55 = .ok (.iinc 4 1, 3) := by decide +kernel
theorem d_Model_reached_58 : decode b_Model_reached 58 = .ok (.goto (-53), 3) := by decide +kernel
theorem d_Model_reached_61 : decode b_Model_reached 61 = .ok (.iload_n 3, 1) := by decide +kernel
theorem d_Model_reached_62 : decode b_Model_reached 62 = .ok (.ireturn, 1) := by decide +kernel
theorem d_Model_components_0 : decode b_Model_components 0 = .ok (.iconst 0, 1) := by decide +kernel
theorem d_Model_components_1 : decode b_Model_components 1 = .ok (.istore_n 2, 1) := by decide +kernel
theorem d_Model_components_2 : decode b_Model_components 2 = .ok (.iconst 0, 1) := by decide +kernel
theorem d_Model_components_3 : decode b_Model_components 3 = .ok (.istore_n 3, 1) := by decide +kernel
theorem d_Model_components_4 : decode b_Model_components 4 = .ok (.iconst 0, 1) := by decide +kernel
theorem d_Model_components_5 : decode b_Model_components 5 = .ok (.istore 4, 2) := by decide +kernel
theorem d_Model_components_7 : decode b_Model_components 7 = .ok (.iload 4, 2) := by decide +kernel
theorem d_Model_components_9 : decode b_Model_components 9 = .ok (.aload_n 0, 1) := by decide +kernel
theorem d_Model_components_10 : decode b_Model_components 10 = .ok (.iload_n 1, 1) := by decide +kernel
theorem d_Model_components_11 : decode b_Model_components 11 = .ok (.invokevirtual 75, 3) := by decide +kernel
theorem d_Model_components_14 : decode b_Model_components 14 = .ok (.if_icmp .ge 33, 3) := by decide +kernel
theorem d_Model_components_17 : decode b_Model_components 17 = .ok (.iload_n 3, 1) := by decide +kernel
theorem d_Model_components_18 : decode b_Model_components 18 = .ok (.iload 4, 2) := by decide +kernel
theorem d_Model_components_20 : decode b_Model_components 20 = .ok (.ishr, 1) := by decide +kernel
theorem d_Model_components_21 : decode b_Model_components 21 = .ok (.iconst 1, 1) := by decide +kernel
theorem d_Model_components_22 : decode b_Model_components 22 = .ok (.iand, 1) := by decide +kernel
theorem d_Model_components_23 : decode b_Model_components 23 = .ok (.ifCond .ne 18, 3) := by decide +kernel
theorem d_Model_components_26 : decode b_Model_components 26 = .ok (.iinc 2 1, 3) := by decide +kernel
theorem d_Model_components_29 : decode b_Model_components 29 = .ok (.iload_n 3, 1) := by decide +kernel
theorem d_Model_components_30 : decode b_Model_components 30 = .ok (.aload_n 0, 1) := by decide +kernel
theorem d_Model_components_31 : decode b_Model_components 31 = .ok (.iload_n 1, 1) := by decide +kernel
theorem d_Model_components_32 : decode b_Model_components 32 = .ok (.iconst 1, 1) := by decide +kernel
theorem d_Model_components_33 : decode b_Model_components 33 = .ok (.iload 4, 2) := by decide +kernel
theorem d_Model_components_35 : decode b_Model_components 35 = .ok (.ishl, 1) := by decide +kernel
theorem d_Model_components_36 : decode b_Model_components 36 = .ok (.invokevirtual 158, 3) := by decide +kernel
theorem d_Model_components_39 : decode b_Model_components 39 = .ok (.ior, 1) := by decide +kernel
theorem d_Model_components_40 : decode b_Model_components 40 = .ok (.istore_n 3, 1) := by decide +kernel
theorem d_Model_components_41 : decode b_Model_components 41 = .ok (.iinc 4 1, 3) := by decide +kernel
theorem d_Model_components_44 : decode b_Model_components 44 = .ok (.goto (-37), 3) := by decide +kernel
theorem d_Model_components_47 : decode b_Model_components 47 = .ok (.iload_n 2, 1) := by decide +kernel
theorem d_Model_components_48 : decode b_Model_components 48 = .ok (.ireturn, 1) := by decide +kernel
theorem d_Model_graph_0 : decode b_Model_graph 0 = .ok (.iload_n 1, 1) := by decide +kernel
theorem d_Model_graph_1 : decode b_Model_graph 1 = .ok (.invokestatic 71, 3) := by decide +kernel
theorem d_Model_graph_4 : decode b_Model_graph 4 = .ok (.ifCond .ne 9, 3) := by decide +kernel
theorem d_Model_graph_7 : decode b_Model_graph 7 = .ok (.aload_n 0, 1) := by decide +kernel
theorem d_Model_graph_8 : decode b_Model_graph 8 = .ok (.iconst 1, 1) := by decide +kernel
theorem d_Model_graph_9 : decode b_Model_graph 9 = .ok (.invokevirtual 93, 3) := by decide +kernel
theorem d_Model_graph_12 : decode b_Model_graph 12 = .ok (.ireturn, 1) := by decide +kernel
theorem d_Model_graph_13 : decode b_Model_graph 13 = .ok (.iload_n 2, 1) := by decide +kernel
theorem d_Model_graph_14 : decode b_Model_graph 14 = .ok (.iconst 0, 1) := by decide +kernel
theorem d_Model_graph_15 : decode b_Model_graph 15 = .ok (.iconst 3, 1) := by decide +kernel
theorem d_Model_graph_16 : decode b_Model_graph 16 = .ok (.invokestatic 67, 3) := by decide +kernel
theorem d_Model_graph_19 : decode b_Model_graph 19 = .ok (.ifCond .ne 9, 3) := by decide +kernel
theorem d_Model_graph_22 : decode b_Model_graph 22 = .ok (.aload_n 0, 1) := by decide +kernel
theorem d_Model_graph_23 : decode b_Model_graph 23 = .ok (.iconst 2, 1) := by decide +kernel
theorem d_Model_graph_24 : decode b_Model_graph 24 = .ok (.invokevirtual 93, 3) := by decide +kernel
theorem d_Model_graph_27 : decode b_Model_graph 27 = .ok (.ireturn, 1) := by decide +kernel
theorem d_Model_graph_28 : decode b_Model_graph 28 = .ok (.aload_n 0, 1) := by decide +kernel
theorem d_Model_graph_29 : decode b_Model_graph 29 = .ok (.iload_n 2, 1) := by decide +kernel
theorem d_Model_graph_30 : decode b_Model_graph 30 = .ok (.ifCond .ne 11, 3) := by decide +kernel
theorem d_Model_graph_33 : decode b_Model_graph 33 = .ok (.aload_n 0, 1) := by decide +kernel
theorem d_Model_graph_34 : decode b_Model_graph 34 = .ok (.iload_n 1, 1) := by decide +kernel
theorem d_Model_graph_35 : decode b_Model_graph 35 = .ok (.invokevirtual 75, 3) := by decide +kernel
theorem d_Model_graph_38 : decode b_Model_graph 38 = .ok (.goto 31, 3) := by decide +kernel
theorem d_Model_graph_41 : decode b_Model_graph 41 = .ok (.iload_n 2, 1) := by decide +kernel
theorem d_Model_graph_42 : decode b_Model_graph 42 = .ok (.iconst 3, 1) := by decide +kernel
theorem d_Model_graph_43 : decode b_Model_graph 43 = .ok (.if_icmp .ne 11, 3) := by decide +kernel
theorem d_Model_graph_46 : decode b_Model_graph 46 = .ok (.aload_n 0, 1) := by decide +kernel
theorem d_Model_graph_47 : decode b_Model_graph 47 = .ok (.iload_n 1, 1) := by decide +kernel
theorem d_Model_graph_48 : decode b_Model_graph 48 = .ok (.invokevirtual 164, 3) := by decide +kernel
theorem d_Model_graph_51 : decode b_Model_graph 51 = .ok (.goto 18, 3) := by decide +kernel
theorem d_Model_graph_54 : decode b_Model_graph 54 = .ok (.aload_n 0, 1) := by decide +kernel
theorem d_Model_graph_55 : decode b_Model_graph 55 = .ok (.iload_n 1, 1) := by decide +kernel
theorem d_Model_graph_56 : decode b_Model_graph 56 = .ok (.iload_n 2, 1) := by decide +kernel
theorem d_Model_graph_57 : decode b_Model_graph 57 = .ok (.iconst 2, 1) := by decide +kernel
theorem d_Model_graph_58 : decode b_Model_graph 58 = .ok (.if_icmp .ne 7, 3) := by decide +kernel
theorem d_Model_graph_61 : decode b_Model_graph 61 = .ok (.iconst 1, 1) := by decide +kernel
theorem d_Model_graph_62 : decode b_Model_graph 62 = .ok (.goto 4, 3) := by decide +kernel
theorem d_Model_graph_65 : decode b_Model_graph 65 = .ok (.iconst 0, 1) := by decide +kernel
theorem d_Model_graph_66 : decode b_Model_graph 66 = .ok (.invokevirtual 167, 3) := by decide +kernel
theorem d_Model_graph_69 : decode b_Model_graph 69 = .ok (.invokevirtual 171, 3) := by decide +kernel
theorem d_Model_graph_72 : decode b_Model_graph 72 = .ok (.ireturn, 1) := by decide +kernel
theorem d_Model_vertex_0 : decode b_Model_vertex 0 = .ok (.aload_n 0, 1) := by decide +kernel
theorem d_Model_vertex_1 : decode b_Model_vertex 1 = .ok (.iload_n 1, 1) := by decide +kernel
theorem d_Model_vertex_2 : decode b_Model_vertex 2 = .ok (.iload_n 2, 1) := by decide +kernel
theorem d_Model_vertex_3 : decode b_Model_vertex 3 = .ok (.invokevirtual 103, 3) := by decide +kernel
theorem d_Model_vertex_6 : decode b_Model_vertex 6 = .ok (.ifCond .ne 9, 3) := by decide +kernel
theorem d_Model_vertex_9 : decode b_Model_vertex 9 = .ok (.aload_n 0, 1) := by decide +kernel
theorem d_Model_vertex_10 : decode b_Model_vertex 10 = .ok (.iconst 1, 1) := by decide +kernel
theorem d_Model_vertex_11 : decode b_Model_vertex 11 = .ok (.invokevirtual 93, 3) := by decide +kernel
theorem d_Model_vertex_14 : decode b_Model_vertex 14 = .ok (.ireturn, 1) := by decide +kernel
theorem d_Model_vertex_15 : decode b_Model_vertex 15 = .ok (.iload_n 3, 1) := by decide +kernel
theorem d_Model_vertex_16 : decode b_Model_vertex 16 = .ok (.iconst 0, 1) := by decide +kernel
theorem d_Model_vertex_17 : decode b_Model_vertex 17 = .ok (.iconst 2, 1) := by decide +kernel
theorem d_Model_vertex_18 : decode b_Model_vertex 18 = .ok (.invokestatic 67, 3) := by decide +kernel
theorem d_Model_vertex_21 : decode b_Model_vertex 21 = .ok (.ifCond .ne 9, 3) := by decide +kernel
theorem d_Model_vertex_24 : decode b_Model_vertex 24 = .ok (.aload_n 0, 1) := by decide +kernel
theorem d_Model_vertex_25 : decode b_Model_vertex 25 = .ok (.iconst 2, 1) := by decide +kernel
theorem d_Model_vertex_26 : decode b_Model_vertex 26 = .ok (.invokevirtual 93, 3) := by decide +kernel
theorem d_Model_vertex_29 : decode b_Model_vertex 29 = .ok (.ireturn, 1) := by decide +kernel
theorem d_Model_vertex_30 : decode b_Model_vertex 30 = .ok (.aload_n 0, 1) := by decide +kernel
theorem d_Model_vertex_31 : decode b_Model_vertex 31 = .ok (.iload_n 3, 1) := by decide +kernel
theorem d_Model_vertex_32 : decode b_Model_vertex 32 = .ok (.ifCond .ne 12, 3) := by decide +kernel
theorem d_Model_vertex_35 : decode b_Model_vertex 35 = .ok (.aload_n 0, 1) := by decide +kernel
theorem d_Model_vertex_36 : decode b_Model_vertex 36 = .ok (.iload_n 1, 1) := by decide +kernel
theorem d_Model_vertex_37 : decode b_Model_vertex 37 = .ok (.iload_n 2, 1) := by decide +kernel
theorem d_Model_vertex_38 : decode b_Model_vertex 38 = .ok (.invokevirtual 107, 3) := by decide +kernel
theorem d_Model_vertex_41 : decode b_Model_vertex 41 = .ok (.goto 26, 3) := by decide +kernel
theorem d_Model_vertex_44 : decode b_Model_vertex 44 = .ok (.iload_n 3, 1) := by decide +kernel
theorem d_Model_vertex_45 : decode b_Model_vertex 45 = .ok (.iconst 1, 1) := by decide +kernel
theorem d_Model_vertex_46 : decode b_Model_vertex 46 = .ok (.if_icmp .ne 15, 3) := by decide +kernel
theorem d_Model_vertex_49 : decode b_Model_vertex 49 = .ok (.aload_n 0, 1) := by decide +kernel
theorem d_Model_vertex_50 : decode b_Model_vertex 50 = .ok (.iload_n 1, 1) := by decide +kernel
theorem d_Model_vertex_51 : decode b_Model_vertex 51 = .ok (.iload_n 2, 1) := by decide +kernel
theorem d_Model_vertex_52 : decode b_Model_vertex 52 = .ok (.invokevirtual 161, 3) := by decide +kernel
theorem d_Model_vertex_55 : decode b_Model_vertex 55 = .ok (.invokestatic 174, 3) := by decide +kernel
theorem d_Model_vertex_58 : decode b_Model_vertex 58 = .ok (.goto 9, 3) := by decide +kernel
theorem d_Model_vertex_61 : decode b_Model_vertex 61 = .ok (.aload_n 0, 1) := by decide +kernel
theorem d_Model_vertex_62 : decode b_Model_vertex 62 = .ok (.iload_n 1, 1) := by decide +kernel
theorem d_Model_vertex_63 : decode b_Model_vertex 63 = .ok (.iload_n 2, 1) := by decide +kernel
theorem d_Model_vertex_64 : decode b_Model_vertex 64 = .ok (.invokevirtual 161, 3) := by decide +kernel
theorem d_Model_vertex_67 : decode b_Model_vertex 67 = .ok (.invokevirtual 171, 3) := by decide +kernel
theorem d_Model_vertex_70 : decode b_Model_vertex 70 = .ok (.ireturn, 1) := by decide +kernel
theorem d_Model_edge_0 : decode b_Model_edge 0 = .ok (.aload_n 0, 1) := by decide +kernel
theorem d_Model_edge_1 : decode b_Model_edge 1 = .ok (.iload_n 1, 1) := by decide +kernel
theorem d_Model_edge_2 : decode b_Model_edge 2 = .ok (.iload_n 2, 1) := by decide +kernel
theorem d_Model_edge_3 : decode b_Model_edge 3 = .ok (.invokevirtual 103, 3) := by decide +kernel
theorem d_Model_edge_6 : decode b_Model_edge 6 = .ok (.ifCond .eq 26, 3) := by decide +kernel
theorem d_Model_edge_9 : decode b_Model_edge 9 = .ok (.aload_n 0, 1) := by decide +kernel
theorem d_Model_edge_10 : decode b_Model_edge 10 = .ok (.iload_n 1, 1) := by decide +kernel
theorem d_Model_edge_11 : decode b_Model_edge 11 = .ok (.iload_n 3, 1) := by decide +kernel
theorem d_Model_edge_12 : decode b_Model_edge 12 = .ok (.invokevirtual 103, 3) := by decide +kernel
theorem d_Model_edge_15 : decode b_Model_edge 15 = .ok (.ifCond .eq 17, 3) := by decide +kernel
theorem d_Model_edge_18 : decode b_Model_edge 18 = .ok (.aload_n 0, 1) := by decide +kernel
theorem d_Model_edge_19 : decode b_Model_edge 19 = .ok (.aload_n 0, 1) := by decide +kernel
theorem d_Model_edge_20 : decode b_Model_edge 20 = .ok (.iload_n 1, 1) := by decide +kernel
theorem d_Model_edge_21 : decode b_Model_edge 21 = .ok (.iload_n 2, 1) := by decide +kernel
theorem d_Model_edge_22 : decode b_Model_edge 22 = .ok (.iload_n 3, 1) := by decide +kernel
theorem d_Model_edge_23 : decode b_Model_edge 23 = .ok (.invokevirtual 79, 3) := by decide +kernel
theorem d_Model_edge_26 : decode b_Model_edge 26 = .ok (.invokevirtual 171, 3) := by decide +kernel
theorem d_Model_edge_29 : decode b_Model_edge 29 = .ok (.goto 8, 3) := by decide +kernel
theorem d_Model_edge_32 : decode b_Model_edge 32 = .ok (.aload_n 0, 1) := by decide +kernel
theorem d_Model_edge_33 : decode b_Model_edge 33 = .ok (.iconst 1, 1) := by decide +kernel
theorem d_Model_edge_34 : decode b_Model_edge 34 = .ok (.invokevirtual 93, 3) := by decide +kernel
theorem d_Model_edge_37 : decode b_Model_edge 37 = .ok (.ireturn, 1) := by decide +kernel
theorem d_Model_fewest_0 : decode b_Model_fewest 0 = .ok (.iconst (-1), 1) := by decide +kernel
theorem d_Model_fewest_1 : decode b_Model_fewest 1 = .ok (.istore_n 2, 1) := by decide +kernel
theorem d_Model_fewest_2 : decode b_Model_fewest 2 = .ok (.bipush 9, 2) := by decide +kernel
theorem d_Model_fewest_4 : decode b_Model_fewest 4 = .ok (.istore_n 3, 1) := by decide +kernel
theorem d_Model_fewest_5 : decode b_Model_fewest 5 = .ok (.iconst 0, 1) := by decide +kernel
theorem d_Model_fewest_6 : decode b_Model_fewest 6 = .ok (.istore 4, 2) := by decide +kernel
theorem d_Model_fewest_8 : decode b_Model_fewest 8 = .ok (.iload 4, 2) := by decide +kernel
theorem d_Model_fewest_10 : decode b_Model_fewest 10 = .ok (.bipush 8, 2) := by decide +kernel
theorem d_Model_fewest_12 : decode b_Model_fewest 12 = .ok (.if_icmp .ge 45, 3) := by decide +kernel
theorem d_Model_fewest_15 : decode b_Model_fewest 15 = .ok (.aload_n 0, 1) := by decide +kernel
theorem d_Model_fewest_16 : decode b_Model_fewest 16 = .ok (.getfield 19, 3) := by decide +kernel
theorem d_Model_fewest_19 : decode b_Model_fewest 19 = .ok (.iload 4, 2) := by decide +kernel
theorem d_Model_fewest_21 : decode b_Model_fewest 21 = .ok (.iaload, 1) := by decide +kernel
theorem d_Model_fewest_22 : decode b_Model_fewest 22 = .ok (.iload_n 1, 1) := by decide +kernel
theorem d_Model_fewest_23 : decode b_Model_fewest 23 = .ok (.iand, 1) := by decide +kernel
theorem d_Model_fewest_24 : decode b_Model_fewest 24 = .ok (.invokestatic 174, 3) := by decide +kernel
theorem d_Model_fewest_27 : decode b_Model_fewest 27 = .ok (.istore 5, 2) := by decide +kernel
theorem d_Model_fewest_29 : decode b_Model_fewest 29 = .ok (.iload_n 1, 1) := by decide +kernel
theorem d_Model_fewest_30 : decode b_Model_fewest 30 = .ok (.iload 4, 2) := by decide +kernel
theorem d_Model_fewest_32 : decode b_Model_fewest 32 = .ok (.ishr, 1) := by decide +kernel
theorem d_Model_fewest_33 : decode b_Model_fewest 33 = .ok (.iconst 1, 1) := by decide +kernel
theorem d_Model_fewest_34 : decode b_Model_fewest 34 = .ok (.iand, 1) := by decide +kernel
theorem d_Model_fewest_35 : decode b_Model_fewest 35 = .ok (.iconst 1, 1) := by decide +kernel
theorem d_Model_fewest_36 : decode b_Model_fewest 36 = .ok (.if_icmp .ne 15, 3) := by decide +kernel
theorem d_Model_fewest_39 : decode b_Model_fewest 39 = .ok (.iload 5, 2) := by decide +kernel
theorem d_Model_fewest_41 : decode b_Model_fewest 41 = .ok (.iload_n 3, 1) := by decide +kernel
theorem d_Model_fewest_42 : decode b_Model_fewest 42 = .ok (.if_icmp .ge 9, 3) := by decide +kernel
theorem d_Model_fewest_45 : decode b_Model_fewest 45 = .ok (.iload 4, 2) := by decide +kernel
theorem d_Model_fewest_47 : decode b_Model_fewest 47 = .ok (.istore_n 2, 1) := by decide +kernel
theorem d_Model_fewest_48 : decode b_Model_fewest 48 = .ok (.iload 5, 2) := by decide +kernel
theorem d_Model_fewest_50 : decode b_Model_fewest 50 = .ok (.istore_n 3, 1) := by decide +kernel
theorem d_Model_fewest_51 : decode b_Model_fewest 51 = .ok (.iinc 4 1, 3) := by decide +kernel
theorem d_Model_fewest_54 : decode b_Model_fewest 54 = .ok (.goto (-46), 3) := by decide +kernel
theorem d_Model_fewest_57 : decode b_Model_fewest 57 = .ok (.iload_n 2, 1) := by decide +kernel
theorem d_Model_fewest_58 : decode b_Model_fewest 58 = .ok (.ireturn, 1) := by decide +kernel
theorem d_Model_joins_0 : decode b_Model_joins 0 = .ok (.iconst 0, 1) := by decide +kernel
theorem d_Model_joins_1 : decode b_Model_joins 1 = .ok (.istore_n 2, 1) := by decide +kernel
theorem d_Model_joins_2 : decode b_Model_joins 2 = .ok (.iload_n 2, 1) := by decide +kernel
theorem d_Model_joins_3 : decode b_Model_joins 3 = .ok (.bipush 8, 2) := by decide +kernel
theorem d_Model_joins_5 : decode b_Model_joins 5 = .ok (.if_icmp .ge 64, 3) := by decide +kernel
theorem d_Model_joins_8 : decode b_Model_joins 8 = .ok (.iload_n 1, 1) := by decide +kernel
theorem d_Model_joins_9 : decode b_Model_joins 9 = .ok (.iload_n 2, 1) := by decide +kernel
theorem d_Model_joins_10 : decode b_Model_joins 10 = .ok (.ishr, 1) := by decide +kernel
theorem d_Model_joins_11 : decode b_Model_joins 11 = .ok (.iconst 1, 1) := by decide +kernel
theorem d_Model_joins_12 : decode b_Model_joins 12 = .ok (.iand, 1) := by decide +kernel
theorem d_Model_joins_13 : decode b_Model_joins 13 = .ok (.iconst 1, 1) := by decide +kernel
theorem d_Model_joins_14 : decode b_Model_joins 14 = .ok (.if_icmp .ne 49, 3) := by decide +kernel
theorem d_Model_joins_17 : decode b_Model_joins 17 = .ok (.iload_n 1, 1) := by decide +kernel
theorem d_Model_joins_18 : decode b_Model_joins 18 = .ok (.iconst 1, 1) := by decide +kernel
theorem d_Model_joins_19 : decode b_Model_joins 19 = .ok (.iload_n 2, 1) := by decide +kernel
theorem d_Model_joins_20 : decode b_Model_joins 20 = .ok (.ishl, 1) := by decide +kernel
theorem d_Model_joins_21 : decode b_Model_joins 21 = .ok (.iconst (-1), 1) := by decide +kernel
theorem d_Model_joins_22 : decode b_Model_joins 22 = .ok (.ixor, 1) := by decide +kernel
theorem d_Model_joins_23 : decode b_Model_joins 23 = .ok (.iand, 1) := by decide +kernel
theorem d_Model_joins_24 : decode b_Model_joins 24 = .ok (.aload_n 0, 1) := by decide +kernel
theorem d_Model_joins_25 : decode b_Model_joins 25 = .ok (.getfield 19, 3) := by decide +kernel
theorem d_Model_joins_28 : decode b_Model_joins 28 = .ok (.iload_n 2, 1) := by decide +kernel
theorem d_Model_joins_29 : decode b_Model_joins 29 = .ok (.iaload, 1) := by decide +kernel
theorem d_Model_joins_30 : decode b_Model_joins 30 = .ok (.iconst (-1), 1) := by decide +kernel
theorem d_Model_joins_31 : decode b_Model_joins 31 = .ok (.ixor, 1) := by decide +kernel
theorem d_Model_joins_32 : decode b_Model_joins 32 = .ok (.iand, 1) := by decide +kernel
theorem d_Model_joins_33 : decode b_Model_joins 33 = .ok (.istore_n 3, 1) := by decide +kernel
theorem d_Model_joins_34 : decode b_Model_joins 34 = .ok (.aload_n 0, 1) := by decide +kernel
theorem d_Model_joins_35 : decode b_Model_joins 35 = .ok (.dup, 1) := by decide +kernel
theorem d_Model_joins_36 : decode b_Model_joins 36 = .ok (.getfield 180, 3) := by decide +kernel
theorem d_Model_joins_39 : decode b_Model_joins 39 = .ok (.iload_n 3, 1) := by decide +kernel
theorem d_Model_joins_40 : decode b_Model_joins 40 = .ok (.iconst 1, 1) := by decide +kernel
theorem d_Model_joins_41 : decode b_Model_joins 41 = .ok (.iload_n 2, 1) := by decide +kernel
theorem d_Model_joins_42 : decode b_Model_joins 42 = .ok (.ishl, 1) := by decide +kernel
theorem d_Model_joins_43 : decode b_Model_joins 43 = .ok (.iconst 1, 1) := by decide +kernel
theorem d_Model_joins_44 : decode b_Model_joins 44 = .ok (.isub, 1) := by decide +kernel
theorem d_Model_joins_45 : decode b_Model_joins 45 = .ok (.iand, 1) := by decide +kernel
theorem d_Model_joins_46 : decode b_Model_joins 46 = .ok (.invokestatic 174, 3) := by decide +kernel
theorem d_Model_joins_49 : decode b_Model_joins 49 = .ok (.iadd, 1) := by decide +kernel
theorem d_Model_joins_50 : decode b_Model_joins 50 = .ok (.putfield 180, 3) := by decide +kernel
theorem d_Model_joins_53 : decode b_Model_joins 53 = .ok (.aload_n 0, 1) := by decide +kernel
theorem d_Model_joins_54 : decode b_Model_joins 54 = .ok (.getfield 19, 3) := by decide +kernel
theorem d_Model_joins_57 : decode b_Model_joins 57 = .ok (.iload_n 2, 1) := by decide +kernel
theorem d_Model_joins_58 : decode b_Model_joins 58 = .ok (.dup2, 1) := by decide +kernel
theorem d_Model_joins_59 : decode b_Model_joins 59 = .ok (.iaload, 1) := by decide +kernel
theorem d_Model_joins_60 : decode b_Model_joins 60 = .ok (.iload_n 3, 1) := by decide +kernel
theorem d_Model_joins_61 : decode b_Model_joins 61 = .ok (.ior, 1) := by decide +kernel
theorem d_Model_joins_62 : decode b_Model_joins 62 = .ok (.iastore, 1) := by decide +kernel
theorem d_Model_joins_63 : decode b_Model_joins 63 = .ok (.iinc 2 1, 3) := by decide +kernel
theorem d_Model_joins_66 : decode b_Model_joins 66 = .ok (.goto (-64), 3) := by decide +kernel
theorem d_Model_joins_69 : decode b_Model_joins 69 = .ok (.return_, 1) := by decide +kernel
theorem d_Model_eliminates_0 : decode b_Model_eliminates 0 = .ok (.aload_n 0, 1) := by decide +kernel
theorem d_Model_eliminates_1 : decode b_Model_eliminates 1 = .ok (.iload_n 1, 1) := by decide +kernel
theorem d_Model_eliminates_2 : decode b_Model_eliminates 2 = .ok (.invokevirtual 75, 3) := by decide +kernel
theorem d_Model_eliminates_5 : decode b_Model_eliminates 5 = .ok (.istore_n 3, 1) := by decide +kernel
theorem d_Model_eliminates_6 : decode b_Model_eliminates 6 = .ok (.iconst 0, 1) := by decide +kernel
theorem d_Model_eliminates_7 : decode b_Model_eliminates 7 = .ok (.istore 4, 2) := by decide +kernel
theorem d_Model_eliminates_9 : decode b_Model_eliminates 9 = .ok (.iload 4, 2) := by decide +kernel
theorem d_Model_eliminates_11 : decode b_Model_eliminates 11 = .ok (.iload_n 3, 1) := by decide +kernel
theorem d_Model_eliminates_12 : decode b_Model_eliminates 12 = .ok (.if_icmp .ge 30, 3) := by decide +kernel
theorem d_Model_eliminates_15 : decode b_Model_eliminates 15 = .ok (.aload_n 0, 1) := by decide +kernel
theorem d_Model_eliminates_16 : decode b_Model_eliminates 16 = .ok (.getfield 19, 3) := by decide +kernel
theorem d_Model_eliminates_19 : decode b_Model_eliminates 19 = .ok (.iload 4, 2) := by decide +kernel
theorem d_Model_eliminates_21 : decode b_Model_eliminates 21 = .ok (.aload_n 0, 1) := by decide +kernel
theorem d_Model_eliminates_22 : decode b_Model_eliminates 22 = .ok (.iload_n 1, 1) := by decide +kernel
theorem d_Model_eliminates_23 : decode b_Model_eliminates 23 = .ok (.iload 4, 2) := by decide +kernel
theorem d_Model_eliminates_25 : decode b_Model_eliminates 25 = .ok (.invokevirtual 161, 3) := by decide +kernel
theorem d_Model_eliminates_28 : decode b_Model_eliminates 28 = .ok (.iconst 1, 1) := by decide +kernel
theorem d_Model_eliminates_29 : decode b_Model_eliminates 29 = .ok (.iload 4, 2) := by decide +kernel
theorem d_Model_eliminates_31 : decode b_Model_eliminates 31 = .ok (.ishl, 1) := by decide +kernel
theorem d_Model_eliminates_32 : decode b_Model_eliminates 32 = .ok (.iconst (-1), 1) := by decide +kernel
theorem d_Model_eliminates_33 : decode b_Model_eliminates 33 = .ok (.ixor, 1) := by decide +kernel
theorem d_Model_eliminates_34 : decode b_Model_eliminates 34 = .ok (.iand, 1) := by decide +kernel
theorem d_Model_eliminates_35 : decode b_Model_eliminates 35 = .ok (.iastore, 1) := by decide +kernel
theorem d_Model_eliminates_36 : decode b_Model_eliminates 36 = .ok (.iinc 4 1, 3) := by decide +kernel
theorem d_Model_eliminates_39 : decode b_Model_eliminates 39 = .ok (.goto (-30), 3) := by decide +kernel
theorem d_Model_eliminates_42 : decode b_Model_eliminates 42 = .ok (.aload_n 0, 1) := by decide +kernel
theorem d_Model_eliminates_43 : decode b_Model_eliminates 43 = .ok (.iconst (-1), 1) := by decide +kernel
theorem d_Model_eliminates_44 : decode b_Model_eliminates 44 = .ok (.putfield 177, 3) := by decide +kernel
theorem d_Model_eliminates_47 : decode b_Model_eliminates 47 = .ok (.aload_n 0, 1) := by decide +kernel
theorem d_Model_eliminates_48 : decode b_Model_eliminates 48 = .ok (.iconst 0, 1) := by decide +kernel
theorem d_Model_eliminates_49 : decode b_Model_eliminates 49 = .ok (.putfield 180, 3) := by decide +kernel
theorem d_Model_eliminates_52 : decode b_Model_eliminates 52 = .ok (.iconst 1, 1) := by decide +kernel
theorem d_Model_eliminates_53 : decode b_Model_eliminates 53 = .ok (.iload_n 3, 1) := by decide +kernel
theorem d_Model_eliminates_54 : decode b_Model_eliminates 54 = .ok (.ishl, 1) := by decide +kernel
theorem d_Model_eliminates_55 : decode b_Model_eliminates 55 = .ok (.iconst 1, 1) := by decide +kernel
theorem d_Model_eliminates_56 : decode b_Model_eliminates 56 = .ok (.isub, 1) := by decide +kernel
theorem d_Model_eliminates_57 : decode b_Model_eliminates 57 = .ok (.istore 4, 2) := by decide +kernel
theorem d_Model_eliminates_59 : decode b_Model_eliminates 59 = .ok (.iconst 0, 1) := by decide +kernel
theorem d_Model_eliminates_60 : decode b_Model_eliminates 60 = .ok (.istore 5, 2) := by decide +kernel
theorem d_Model_eliminates_62 : decode b_Model_eliminates 62 = .ok (.iload 5, 2) := by decide +kernel
theorem d_Model_eliminates_64 : decode b_Model_eliminates 64 = .ok (.iload_n 3, 1) := by decide +kernel
theorem d_Model_eliminates_65 : decode b_Model_eliminates 65 = .ok (.if_icmp .ge 116, 3) := by decide +kernel
theorem d_Model_eliminates_68 : decode b_Model_eliminates 68 = .ok (.aload_n 0, 1) := by decide +kernel
theorem d_Model_eliminates_69 : decode b_Model_eliminates 69 = .ok (.getfield 22, 3) := by decide +kernel
theorem d_Model_eliminates_72 : decode b_Model_eliminates 72 = .ok (.iload 5, 2) := by decide +kernel
theorem d_Model_eliminates_74 : decode b_Model_eliminates 74 = .ok (.iload_n 2, 1) := by decide +kernel
theorem d_Model_eliminates_75 : decode b_Model_eliminates 75 = .ok (.ifCond .eq 12, 3) := by decide +kernel
theorem d_Model_eliminates_78 : decode b_Model_eliminates 78 = .ok (.aload_n 0, 1) := by decide +kernel
theorem d_Model_eliminates_79 : decode b_Model_eliminates 79 = .ok (.iload 4, 2) := by decide +kernel
theorem d_Model_eliminates_81 : decode b_Model_eliminates 81 = .ok (.invokevirtual 183, 3) := by decide +kernel
theorem d_Model_eliminates_84 : decode b_Model_eliminates 84 = .ok (.goto 10, 3) := by decide +kernel
theorem d_Model_eliminates_87 : decode b_Model_eliminates 87 = .ok (.aload_n 0, 1) := by decide +kernel
theorem d_Model_eliminates_88 : decode b_Model_eliminates 88 = .ok (.getfield 22, 3) := by decide +kernel
theorem d_Model_eliminates_91 : decode b_Model_eliminates 91 = .ok (.iload 5, 2) := by decide +kernel
theorem d_Model_eliminates_93 : decode b_Model_eliminates 93 = .ok (.iaload, 1) := by decide +kernel
theorem d_Model_eliminates_94 : decode b_Model_eliminates 94 = .ok (.iastore, 1) := by decide +kernel
theorem d_Model_eliminates_95 : decode b_Model_eliminates 95 = .ok (.aload_n 0, 1) := by decide +kernel
theorem d_Model_eliminates_96 : decode b_Model_eliminates 96 = .ok (.getfield 22, 3) := by decide +kernel
theorem d_Model_eliminates_99 : decode b_Model_eliminates 99 = .ok (.iload 5, 2) := by decide +kernel
theorem d_Model_eliminates_101 : decode b_Model_eliminates 101 = .ok (.iaload, 1) := by decide +kernel
theorem d_Model_eliminates_102 : decode b_Model_eliminates 102 = .ok (.istore 6, 2) := by decide +kernel
theorem d_Model_eliminates_104 : decode b_Model_eliminates 104 = .ok (.aload_n 0, 1) := by decide +kernel
theorem d_Model_eliminates_105 : decode b_Model_eliminates 105 = .ok (.getfield 19, 3) := by decide +kernel
theorem d_Model_eliminates_108 : decode b_Model_eliminates 108 = .ok (.iload 6, 2) := by decide +kernel
theorem d_Model_eliminates_110 : decode b_Model_eliminates 110 = .ok (.iaload, 1) := by decide +kernel
theorem d_Model_eliminates_111 : decode b_Model_eliminates 111 = .ok (.iload 4, 2) := by decide +kernel
theorem d_Model_eliminates_113 : decode b_Model_eliminates 113 = .ok (.iand, 1) := by decide +kernel
theorem d_Model_eliminates_114 : decode b_Model_eliminates 114 = .ok (.istore 7, 2) := by decide +kernel
theorem d_Model_eliminates_116 : decode b_Model_eliminates 116 = .ok (.aload_n 0, 1) := by decide +kernel
theorem d_Model_eliminates_117 : decode b_Model_eliminates 117 = .ok (.getfield 25, 3) := by decide +kernel
theorem d_Model_eliminates_120 : decode b_Model_eliminates 120 = .ok (.iload 6, 2) := by decide +kernel
theorem d_Model_eliminates_122 : decode b_Model_eliminates 122 = .ok (.iload 7, 2) := by decide +kernel
theorem d_Model_eliminates_124 : decode b_Model_eliminates 124 = .ok (.iconst 1, 1) := by decide +kernel
theorem d_Model_eliminates_125 : decode b_Model_eliminates 125 = .ok (.iload 6, 2) := by decide +kernel
theorem d_Model_eliminates_127 : decode b_Model_eliminates 127 = .ok (.ishl, 1) := by decide +kernel
theorem d_Model_eliminates_128 : decode b_Model_eliminates 128 = .ok (.ior, 1) := by decide +kernel
theorem d_Model_eliminates_129 : decode b_Model_eliminates 129 = .ok (.iastore, 1) := by decide +kernel
theorem d_Model_eliminates_130 : decode b_Model_eliminates 130 = .ok (.aload_n 0, 1) := by decide +kernel
theorem d_Model_eliminates_131 : decode b_Model_eliminates 131 = .ok (.iload 7, 2) := by decide +kernel
theorem d_Model_eliminates_133 : decode b_Model_eliminates 133 = .ok (.invokestatic 174, 3) := by decide +kernel
theorem d_Model_eliminates_136 : decode b_Model_eliminates 136 = .ok (.aload_n 0, 1) := by decide +kernel
theorem d_Model_eliminates_137 : decode b_Model_eliminates 137 = .ok (.getfield 177, 3) := by decide +kernel
theorem d_Model_eliminates_140 : decode b_Model_eliminates 140 = .ok (.if_icmp .le 11, 3) := by decide +kernel
theorem d_Model_eliminates_143 : decode b_Model_eliminates 143 = .ok (.iload 7, 2) := by decide +kernel
theorem d_Model_eliminates_145 : decode b_Model_eliminates 145 = .ok (.invokestatic 174, 3) := by decide +kernel
theorem d_Model_eliminates_148 : decode b_Model_eliminates 148 = .ok (.goto 7, 3) := by decide +kernel
theorem d_Model_eliminates_151 : decode b_Model_eliminates 151 = .ok (.aload_n 0, 1) := by decide +kernel
theorem d_Model_eliminates_152 : decode b_Model_eliminates 152 = .ok (.getfield 177, 3) := by decide +kernel
theorem d_Model_eliminates_155 : decode b_Model_eliminates 155 = .ok (.putfield 177, 3) := by decide +kernel
theorem d_Model_eliminates_158 : decode b_Model_eliminates 158 = .ok (.aload_n 0, 1) := by decide +kernel
theorem d_Model_eliminates_159 : decode b_Model_eliminates 159 = .ok (.iload 7, 2) := by decide +kernel
theorem d_Model_eliminates_161 : decode b_Model_eliminates 161 = .ok (.invokevirtual 186, 3) := by decide +kernel
theorem d_Model_eliminates_164 : decode b_Model_eliminates 164 = .ok (.iload 4, 2) := by decide +kernel
theorem d_Model_eliminates_166 : decode b_Model_eliminates 166 = .ok (.iconst 1, 1) := by decide +kernel
theorem d_Model_eliminates_167 : decode b_Model_eliminates 167 = .ok (.iload 6, 2) := by decide +kernel
theorem d_Model_eliminates_169 : decode b_Model_eliminates 169 = .ok (.ishl, 1) := by decide +kernel
theorem d_Model_eliminates_170 : decode b_Model_eliminates 170 = .ok (.iconst (-1), 1) := by decide +kernel
theorem d_Model_eliminates_171 : decode b_Model_eliminates 171 = .ok (.ixor, 1) := by decide +kernel
theorem d_Model_eliminates_172 : decode b_Model_eliminates 172 = .ok (.iand, 1) := by decide +kernel
theorem d_Model_eliminates_173 : decode b_Model_eliminates 173 = .ok (.istore 4, 2) := by decide +kernel
theorem d_Model_eliminates_175 : decode b_Model_eliminates 175 = .ok (.iinc 5 1, 3) := by decide +kernel
theorem d_Model_eliminates_178 : decode b_Model_eliminates 178 = .ok (.goto (-116), 3) := by decide +kernel
theorem d_Model_eliminates_181 : decode b_Model_eliminates 181 = .ok (.return_, 1) := by decide +kernel
def f_Model_drops (v1 : Int32) (v2 : Int32) (μ : HMem) : Option (Unit × HMem) :=
  h_bd (f_Model_size v1 μ) (fun r6 μ_6 =>
  h_bd (f_Model_induces v1 v1 (((h_ishl 1 r6) - 1) &&& ((h_ishl 1 v2) ^^^ (-1))) μ_6) (fun _ μ_18 =>
  some ((), μ_18)))
def f_Model_complements_J52  (rec_ : Int32 → Int32 → Int32 → HMem → Option (Unit × HMem)) (v1 : Int32) (v2 : Int32) (v3 : Int32) (s0 : Int32) (s1 : Int32) (s2 : Int32) (s3 : Int32) (μ : HMem) : Option (Unit × HMem) :=
h_bd (f_Model_puts s3 s2 s1 s0 μ) (fun _ μ_52 =>
h_let (v3 + 1) (fun v3_55 =>
rec_ v1 v2 v3_55 μ_52))
def f_Model_complements_J51  (rec_ : Int32 → Int32 → Int32 → HMem → Option (Unit × HMem)) (v1 : Int32) (v2 : Int32) (v3 : Int32) (s0 : Int32) (s1 : Int32) (s2 : Int32) (μ : HMem) : Option (Unit × HMem) :=
f_Model_complements_J52 rec_ v1 v2 v3 0 s0 s1 s2 μ
def f_Model_complements_L19_b (K61 : Int32 → Int32 → HMem → Option (Unit × HMem)) (rec_ : Int32 → Int32 → Int32 → HMem → Option (Unit × HMem)) (v1 : Int32) (v2 : Int32) (v3 : Int32) (μ : HMem) : Option (Unit × HMem) :=
h_bd (f_Model_size v1 μ) (fun r22 μ_22 =>
if r22 ≤ v3 then
  K61 v1 v2 μ_22
else
  if v2 = v3 then
    f_Model_complements_J51 rec_ v1 v2 v3 v3 v2 4 μ_22
  else
    h_bd (f_Model_isNear v1 v2 v3 μ_22) (fun r41 μ_41 =>
    if ¬ r41 = 0 then
      f_Model_complements_J51 rec_ v1 v2 v3 v3 v2 4 μ_41
    else
      f_Model_complements_J52 rec_ v1 v2 v3 1 v3 v2 4 μ_41))
def f_Model_complements_L19 (K61 : Int32 → Int32 → HMem → Option (Unit × HMem)) : Nat → Int32 → Int32 → Int32 → HMem → Option (Unit × HMem)
  | 0, _, _, _, _ => none
  | fuel + 1, v1, v2, v3, μ => f_Model_complements_L19_b K61 (f_Model_complements_L19 K61 fuel) v1 v2 v3 μ
def f_Model_complements_J61  (rec_ : Int32 → Int32 → HMem → Option (Unit × HMem)) (v1 : Int32) (v2 : Int32) (μ : HMem) : Option (Unit × HMem) :=
h_let (v2 + 1) (fun v2_61 =>
rec_ v1 v2_61 μ)
def f_Model_complements_L8_b  (rec_ : Int32 → Int32 → HMem → Option (Unit × HMem)) (v1 : Int32) (v2 : Int32) (μ : HMem) : Option (Unit × HMem) :=
h_bd (f_Model_size v1 μ) (fun r11 μ_11 =>
if r11 ≤ v2 then
  some ((), μ_11)
else
  f_Model_complements_L19 (f_Model_complements_J61 rec_) h_fuel v1 v2 v2 μ_11)
def f_Model_complements_L8  : Nat → Int32 → Int32 → HMem → Option (Unit × HMem)
  | 0, _, _, _ => none
  | fuel + 1, v1, v2, μ => f_Model_complements_L8_b  (f_Model_complements_L8  fuel) v1 v2 μ
def f_Model_complements (v1 : Int32) (μ : HMem) : Option (Unit × HMem) :=
  h_bd (f_Model_copies v1 4 μ) (fun _ μ_3 =>
  f_Model_complements_L8 h_fuel v1 0 μ_3)
def f_Model_frees_L2_b  (rec_ : Int32 → HMem → Option (Unit × HMem)) (v1 : Int32) (μ : HMem) : Option (Unit × HMem) :=
if (8 : Int32) ≤ v1 then
  some ((), μ)
else
  h_chk v1 (h_len 135) (h_let (h_wi μ 135 (Int32.toNatClampNeg (v1)) (-1)) (fun μ_14 =>
  h_let (v1 + 1) (fun v1_15 =>
  rec_ v1_15 μ_14)))
def f_Model_frees_L2  : Nat → Int32 → HMem → Option (Unit × HMem)
  | 0, _, _ => none
  | fuel + 1, v1, μ => f_Model_frees_L2_b  (f_Model_frees_L2  fuel) v1 μ
def f_Model_frees  (μ : HMem) : Option (Unit × HMem) :=
  f_Model_frees_L2 h_fuel 0 μ
def f_Model_near_J35  (rec_ : Int32 → Int32 → Int32 → Int32 → HMem → Option (Int32 × HMem)) (v1 : Int32) (v2 : Int32) (v4 : Int32) (s0 : Int32) (s1 : Int32) (μ : HMem) : Option (Int32 × HMem) :=
h_let (s1 ||| s0) (fun v3_36 =>
h_let (v4 + 1) (fun v4_37 =>
rec_ v1 v2 v3_36 v4_37 μ))
def f_Model_near_L5_b  (rec_ : Int32 → Int32 → Int32 → Int32 → HMem → Option (Int32 × HMem)) (v1 : Int32) (v2 : Int32) (v3 : Int32) (v4 : Int32) (μ : HMem) : Option (Int32 × HMem) :=
h_bd (f_Model_size v1 μ) (fun r9 μ_9 =>
if r9 ≤ v4 then
  some (v3, μ_9)
else
  h_bd (f_Model_isNear v1 v4 v2 μ_9) (fun r21 μ_21 =>
  if r21 = 0 then
    f_Model_near_J35 rec_ v1 v2 v4 0 v3 μ_21
  else
    f_Model_near_J35 rec_ v1 v2 v4 (h_ishl 1 v4) v3 μ_21))
def f_Model_near_L5  : Nat → Int32 → Int32 → Int32 → Int32 → HMem → Option (Int32 × HMem)
  | 0, _, _, _, _, _ => none
  | fuel + 1, v1, v2, v3, v4, μ => f_Model_near_L5_b  (f_Model_near_L5  fuel) v1 v2 v3 v4 μ
def f_Model_near (v1 : Int32) (v2 : Int32) (μ : HMem) : Option (Int32 × HMem) :=
  f_Model_near_L5 h_fuel v1 v2 0 0 μ
def f_Model_lowestOut_L2_b  (rec_ : Int32 → Int32 → HMem → Option (Int32 × HMem)) (v0 : Int32) (v1 : Int32) (μ : HMem) : Option (Int32 × HMem) :=
if ¬ ((h_ishr v0 v1) &&& 1) = (1 : Int32) then
  some (v1, μ)
else
  h_let (v1 + 1) (fun v1_11 =>
  rec_ v0 v1_11 μ)
def f_Model_lowestOut_L2  : Nat → Int32 → Int32 → HMem → Option (Int32 × HMem)
  | 0, _, _, _ => none
  | fuel + 1, v0, v1, μ => f_Model_lowestOut_L2_b  (f_Model_lowestOut_L2  fuel) v0 v1 μ
def f_Model_lowestOut (v0 : Int32) (μ : HMem) : Option (Int32 × HMem) :=
  f_Model_lowestOut_L2 h_fuel v0 0 μ
def f_Model_turns_J63  (rec_ : Int32 → Int32 → Int32 → Int32 → Int32 → Int32 → HMem → Option (Int32 × HMem)) (v1 : Int32) (v2 : Int32) (v3 : Int32) (v4 : Int32) (v6 : Int32) (s0 : Int32) (μ : HMem) : Option (Int32 × HMem) :=
h_let (v6 + (-1)) (fun v6_65 =>
rec_ v1 v2 v3 v4 s0 v6_65 μ)
def f_Model_turns_J61  (rec_ : Int32 → Int32 → Int32 → Int32 → Int32 → Int32 → HMem → Option (Int32 × HMem)) (v1 : Int32) (v2 : Int32) (v3 : Int32) (v4 : Int32) (v5 : Int32) (v6 : Int32) (μ : HMem) : Option (Int32 × HMem) :=
f_Model_turns_J63 rec_ v1 v2 v3 v4 v6 v5 μ
def f_Model_turns_L28_b (K71 : Int32 → Int32 → Int32 → Int32 → Int32 → HMem → Option (Int32 × HMem)) (rec_ : Int32 → Int32 → Int32 → Int32 → Int32 → Int32 → HMem → Option (Int32 × HMem)) (v1 : Int32) (v2 : Int32) (v3 : Int32) (v4 : Int32) (v5 : Int32) (v6 : Int32) (μ : HMem) : Option (Int32 × HMem) :=
if v6 < 0 then
  K71 v1 v2 v3 v4 v5 μ
else
  if ¬ ((h_ishr v4 v6) &&& 1) = 0 then
    f_Model_turns_J61 rec_ v1 v2 v3 v4 v5 v6 μ
  else
    h_bd (f_Model_near v1 v6 μ) (fun r47 μ_47 =>
    if (r47 &&& v4) = 0 then
      f_Model_turns_J61 rec_ v1 v2 v3 v4 v5 v6 μ_47
    else
      f_Model_turns_J63 rec_ v1 v2 v3 v4 v6 v6 μ_47)
def f_Model_turns_L28 (K71 : Int32 → Int32 → Int32 → Int32 → Int32 → HMem → Option (Int32 × HMem)) : Nat → Int32 → Int32 → Int32 → Int32 → Int32 → Int32 → HMem → Option (Int32 × HMem)
  | 0, _, _, _, _, _, _, _ => none
  | fuel + 1, v1, v2, v3, v4, v5, v6, μ => f_Model_turns_L28_b K71 (f_Model_turns_L28 K71 fuel) v1 v2 v3 v4 v5 v6 μ
def f_Model_turns_J94  (rec_ : Int32 → Int32 → Int32 → Int32 → HMem → Option (Int32 × HMem)) (v1 : Int32) (v2 : Int32) (v3 : Int32) (v4 : Int32) (v5 : Int32) (μ : HMem) : Option (Int32 × HMem) :=
h_chk v2 (h_len 134) (h_let (h_wi μ 134 (Int32.toNatClampNeg (v2)) v5) (fun μ_101 =>
h_let (v4 ||| (h_ishl 1 v5)) (fun v4_109 =>
h_let (v2 + 1) (fun v2_111 =>
rec_ v1 v2_111 v3 v4_109 μ_101))))
def f_Model_turns_J71  (rec_ : Int32 → Int32 → Int32 → Int32 → HMem → Option (Int32 × HMem)) (v1 : Int32) (v2 : Int32) (v3 : Int32) (v4 : Int32) (v5 : Int32) (μ : HMem) : Option (Int32 × HMem) :=
if ¬ v5 = (-1 : Int32) then
  f_Model_turns_J94 rec_ v1 v2 v3 v4 v5 μ
else
  h_bd (f_Model_lowestOut v4 μ) (fun r79 μ_79 =>
  h_chk v3 (h_len 136) (h_let (h_wi μ_79 136 (Int32.toNatClampNeg (v3)) v2) (fun μ_90 =>
  h_let (v3 + 1) (fun v3_91 =>
  f_Model_turns_J94 rec_ v1 v2 v3_91 v4 r79 μ_90))))
def f_Model_turns_L7_b (K117 : Int32 → Int32 → HMem → Option (Int32 × HMem)) (rec_ : Int32 → Int32 → Int32 → Int32 → HMem → Option (Int32 × HMem)) (v1 : Int32) (v2 : Int32) (v3 : Int32) (v4 : Int32) (μ : HMem) : Option (Int32 × HMem) :=
h_bd (f_Model_size v1 μ) (fun r10 μ_10 =>
if r10 ≤ v2 then
  K117 v2 v3 μ_10
else
  h_bd (f_Model_size v1 μ_10) (fun r21 μ_21 =>
  h_let (r21 - 1) (fun v6_26 =>
  f_Model_turns_L28 (f_Model_turns_J71 rec_) h_fuel v1 v2 v3 v4 (-1) v6_26 μ_21)))
def f_Model_turns_L7 (K117 : Int32 → Int32 → HMem → Option (Int32 × HMem)) : Nat → Int32 → Int32 → Int32 → Int32 → HMem → Option (Int32 × HMem)
  | 0, _, _, _, _, _ => none
  | fuel + 1, v1, v2, v3, v4, μ => f_Model_turns_L7_b K117 (f_Model_turns_L7 K117 fuel) v1 v2 v3 v4 μ
def f_Model_turns_J117   (v2 : Int32) (v3 : Int32) (μ : HMem) : Option (Int32 × HMem) :=
h_chk v3 (h_len 136) (h_let (h_wi μ 136 (Int32.toNatClampNeg (v3)) v2) (fun μ_123 =>
some (v3, μ_123)))
def f_Model_turns (v1 : Int32) (μ : HMem) : Option (Int32 × HMem) :=
  f_Model_turns_L7 f_Model_turns_J117 h_fuel v1 0 0 0 μ
def f_Model_goes_J119  (rec_ : Int32 → Int32 → Int32 → Int32 → Int32 → Int32 → HMem → Option (Int32 × HMem)) (v1 : Int32) (v2 : Int32) (v4 : Int32) (v6 : Int32) (v8 : Int32) (s0 : Int32) (μ : HMem) : Option (Int32 × HMem) :=
h_let (v8 + 1) (fun v8_121 =>
rec_ v1 v2 v4 v6 s0 v8_121 μ)
def f_Model_goes_J114  (rec_ : Int32 → Int32 → Int32 → Int32 → Int32 → Int32 → HMem → Option (Int32 × HMem)) (v1 : Int32) (v2 : Int32) (v4 : Int32) (v6 : Int32) (v8 : Int32) (μ : HMem) : Option (Int32 × HMem) :=
f_Model_goes_J119 rec_ v1 v2 v4 v6 v8 1 μ
def f_Model_goes_L58_b (K127 : Int32 → HMem → Option (Int32 × HMem)) (rec_ : Int32 → Int32 → Int32 → Int32 → Int32 → Int32 → HMem → Option (Int32 × HMem)) (v1 : Int32) (v2 : Int32) (v4 : Int32) (v6 : Int32) (v7 : Int32) (v8 : Int32) (μ : HMem) : Option (Int32 × HMem) :=
if v4 < v8 then
  K127 v7 μ
else
  if v7 = 0 then
    K127 v7 μ
  else
    h_chk v8 (h_len 134) (
    h_bd (f_Model_isNear v1 v6 (μ.1 134 (Int32.toNatClampNeg (v8))) μ) (fun r81 μ_81 =>
    if r81 = 0 then
      f_Model_goes_J114 rec_ v1 v2 v4 v6 v8 μ_81
    else
      h_chk v6 (h_len 133) (
      h_chk v8 (h_len 134) (
      h_chk (μ_81.1 134 (Int32.toNatClampNeg (v8))) (h_len 133) (
      h_bd (f_Model_isNear v2 (μ_81.1 133 (Int32.toNatClampNeg (v6))) (μ_81.1 133 (Int32.toNatClampNeg (μ_81.1 134 (Int32.toNatClampNeg (v8))))) μ_81) (fun r108 μ_108 =>
      if r108 = 0 then
        f_Model_goes_J119 rec_ v1 v2 v4 v6 v8 0 μ_108
      else
        f_Model_goes_J114 rec_ v1 v2 v4 v6 v8 μ_108))))))
def f_Model_goes_L58 (K127 : Int32 → HMem → Option (Int32 × HMem)) : Nat → Int32 → Int32 → Int32 → Int32 → Int32 → Int32 → HMem → Option (Int32 × HMem)
  | 0, _, _, _, _, _, _, _ => none
  | fuel + 1, v1, v2, v4, v6, v7, v8, μ => f_Model_goes_L58_b K127 (f_Model_goes_L58 K127 fuel) v1 v2 v4 v6 v7 v8 μ
def f_Model_goes_J127   (v7 : Int32) (μ : HMem) : Option (Int32 × HMem) :=
if v7 &&& 1 = v7 then some (v7, μ) else none
def f_Model_goes_J53   (v1 : Int32) (v2 : Int32) (v3 : Int32) (v4 : Int32) (v6 : Int32) (s0 : Int32) (μ : HMem) : Option (Int32 × HMem) :=
f_Model_goes_L58 f_Model_goes_J127 h_fuel v1 v2 v4 v6 s0 v3 μ
def f_Model_goes_J52   (v1 : Int32) (v2 : Int32) (v3 : Int32) (v4 : Int32) (v6 : Int32) (μ : HMem) : Option (Int32 × HMem) :=
f_Model_goes_J53 v1 v2 v3 v4 v6 0 μ
def f_Model_goes_J48   (v1 : Int32) (v2 : Int32) (v3 : Int32) (v4 : Int32) (v6 : Int32) (μ : HMem) : Option (Int32 × HMem) :=
f_Model_goes_J53 v1 v2 v3 v4 v6 1 μ
def f_Model_goes (v1 : Int32) (v2 : Int32) (v3 : Int32) (v4 : Int32) (v5 : Int32) (μ : HMem) : Option (Int32 × HMem) :=
  h_chk v4 (h_len 134) (
  h_let (μ.1 134 (Int32.toNatClampNeg (v4))) (fun v6_7 =>
  h_chk v6_7 (h_len 133) (
  if (μ.1 133 (Int32.toNatClampNeg (v6_7))) = v5 then
    f_Model_goes_J52 v1 v2 v3 v4 v6_7 μ
  else
    h_chk v6_7 (h_len 135) (
    if (μ.1 135 (Int32.toNatClampNeg (v6_7))) < 0 then
      f_Model_goes_J48 v1 v2 v3 v4 v6_7 μ
    else
      h_chk v6_7 (h_len 135) (
      h_chk v6_7 (h_len 133) (
      if ¬ (μ.1 135 (Int32.toNatClampNeg (v6_7))) = (μ.1 133 (Int32.toNatClampNeg (v6_7))) then
        f_Model_goes_J52 v1 v2 v3 v4 v6_7 μ
      else
        f_Model_goes_J48 v1 v2 v3 v4 v6_7 μ))))))
def f_Model_isPart_L48_b (K91 : Int32 → Int32 → Int32 → Int32 → Int32 → Int32 → Int32 → HMem → Option (Int32 × HMem)) (rec_ : Int32 → Int32 → Int32 → Int32 → Int32 → Int32 → Int32 → HMem → Option (Int32 × HMem)) (v1 : Int32) (v2 : Int32) (v3 : Int32) (v4 : Int32) (v5 : Int32) (v6 : Int32) (v7 : Int32) (μ : HMem) : Option (Int32 × HMem) :=
h_chk v7 (h_len 133) (
h_bd (f_Model_size v2 μ) (fun r57 μ_57 =>
if r57 ≤ (μ.1 133 (Int32.toNatClampNeg (v7))) then
  K91 v1 v2 v3 v4 v5 v6 v7 μ_57
else
  h_bd (f_Model_goes v1 v2 v3 v6 v5 μ_57) (fun r71 μ_71 =>
  if ¬ r71 = 0 then
    K91 v1 v2 v3 v4 v5 v6 v7 μ_71
  else
    h_chk v7 (h_len 133) (
    h_chk v7 (h_len 133) (h_let (h_wi μ_71 133 (Int32.toNatClampNeg (v7)) ((μ_71.1 133 (Int32.toNatClampNeg (v7))) + 1)) (fun μ_87 =>
    rec_ v1 v2 v3 v4 v5 v6 v7 μ_87))))))
def f_Model_isPart_L48 (K91 : Int32 → Int32 → Int32 → Int32 → Int32 → Int32 → Int32 → HMem → Option (Int32 × HMem)) : Nat → Int32 → Int32 → Int32 → Int32 → Int32 → Int32 → Int32 → HMem → Option (Int32 × HMem)
  | 0, _, _, _, _, _, _, _, _ => none
  | fuel + 1, v1, v2, v3, v4, v5, v6, v7, μ => f_Model_isPart_L48_b K91 (f_Model_isPart_L48 K91 fuel) v1 v2 v3 v4 v5 v6 v7 μ
def f_Model_isPart_J135  (rec_ : Int32 → Int32 → Int32 → Int32 → Int32 → Int32 → HMem → Option (Int32 × HMem)) (v1 : Int32) (v2 : Int32) (v3 : Int32) (v4 : Int32) (v5 : Int32) (v6 : Int32) (μ : HMem) : Option (Int32 × HMem) :=
rec_ v1 v2 v3 v4 v5 v6 μ
def f_Model_isPart_J91  (rec_ : Int32 → Int32 → Int32 → Int32 → Int32 → Int32 → HMem → Option (Int32 × HMem)) (v1 : Int32) (v2 : Int32) (v3 : Int32) (v4 : Int32) (v5 : Int32) (v6 : Int32) (v7 : Int32) (μ : HMem) : Option (Int32 × HMem) :=
h_chk v7 (h_len 133) (
h_bd (f_Model_size v2 μ) (fun r100 μ_100 =>
if r100 ≤ (μ.1 133 (Int32.toNatClampNeg (v7))) then
  h_let (v6 + (-1)) (fun v6_132 =>
  f_Model_isPart_J135 rec_ v1 v2 v3 v4 v5 v6_132 μ_100)
else
  h_let (v6 + 1) (fun v6_106 =>
  if v4 ≤ v6_106 then
    f_Model_isPart_J135 rec_ v1 v2 v3 v4 v5 v6_106 μ_100
  else
    h_chk v6_106 (h_len 134) (
    h_chk (μ_100.1 134 (Int32.toNatClampNeg (v6_106))) (h_len 133) (h_let (h_wi μ_100 133 (Int32.toNatClampNeg (μ_100.1 134 (Int32.toNatClampNeg (v6_106)))) (-1)) (fun μ_128 =>
    f_Model_isPart_J135 rec_ v1 v2 v3 v4 v5 v6_106 μ_128))))))
def f_Model_isPart_L15_b (K138 : Int32 → Int32 → HMem → Option (Int32 × HMem)) (rec_ : Int32 → Int32 → Int32 → Int32 → Int32 → Int32 → HMem → Option (Int32 × HMem)) (v1 : Int32) (v2 : Int32) (v3 : Int32) (v4 : Int32) (v5 : Int32) (v6 : Int32) (μ : HMem) : Option (Int32 × HMem) :=
if v6 < v3 then
  K138 v4 v6 μ
else
  if v4 ≤ v6 then
    K138 v4 v6 μ
  else
    h_chk v6 (h_len 134) (
    h_let (μ.1 134 (Int32.toNatClampNeg (v6))) (fun v7_35 =>
    h_chk v7_35 (h_len 133) (
    h_chk v7_35 (h_len 133) (h_let (h_wi μ 133 (Int32.toNatClampNeg (v7_35)) ((μ.1 133 (Int32.toNatClampNeg (v7_35))) + 1)) (fun μ_47 =>
    f_Model_isPart_L48 (f_Model_isPart_J91 rec_) h_fuel v1 v2 v3 v4 v5 v6 v7_35 μ_47)))))
def f_Model_isPart_L15 (K138 : Int32 → Int32 → HMem → Option (Int32 × HMem)) : Nat → Int32 → Int32 → Int32 → Int32 → Int32 → Int32 → HMem → Option (Int32 × HMem)
  | 0, _, _, _, _, _, _, _ => none
  | fuel + 1, v1, v2, v3, v4, v5, v6, μ => f_Model_isPart_L15_b K138 (f_Model_isPart_L15 K138 fuel) v1 v2 v3 v4 v5 v6 μ
def f_Model_isPart_J150   (s0 : Int32) (μ : HMem) : Option (Int32 × HMem) :=
if s0 &&& 1 = s0 then some (s0, μ) else none
def f_Model_isPart_J138   (v4 : Int32) (v6 : Int32) (μ : HMem) : Option (Int32 × HMem) :=
if ¬ v6 = v4 then
  f_Model_isPart_J150 0 μ
else
  f_Model_isPart_J150 1 μ
def f_Model_isPart (v1 : Int32) (v2 : Int32) (v3 : Int32) (v4 : Int32) (v5 : Int32) (μ : HMem) : Option (Int32 × HMem) :=
  h_chk v3 (h_len 134) (
  h_chk (μ.1 134 (Int32.toNatClampNeg (v3))) (h_len 133) (h_let (h_wi μ 133 (Int32.toNatClampNeg (μ.1 134 (Int32.toNatClampNeg (v3)))) (-1)) (fun μ_14 =>
  f_Model_isPart_L15 f_Model_isPart_J138 h_fuel v1 v2 v3 v4 v5 v3 μ_14)))
def f_Model_isThere_L13_b (K56 : Int32 → HMem → Option (Int32 × HMem)) (rec_ : Int32 → Int32 → Int32 → Int32 → Int32 → Int32 → HMem → Option (Int32 × HMem)) (v1 : Int32) (v2 : Int32) (v3 : Int32) (v4 : Int32) (v5 : Int32) (v6 : Int32) (μ : HMem) : Option (Int32 × HMem) :=
if v4 ≤ v6 then
  K56 v5 μ
else
  if v5 = 0 then
    K56 v5 μ
  else
    h_chk v6 (h_len 136) (
    h_chk (v6 + 1) (h_len 136) (
    h_bd (f_Model_isPart v1 v2 (μ.1 136 (Int32.toNatClampNeg (v6))) (μ.1 136 (Int32.toNatClampNeg (v6 + 1))) v3 μ) (fun r45 μ_45 =>
    h_let (v6 + 1) (fun v6_50 =>
    rec_ v1 v2 v3 v4 r45 v6_50 μ_45))))
def f_Model_isThere_L13 (K56 : Int32 → HMem → Option (Int32 × HMem)) : Nat → Int32 → Int32 → Int32 → Int32 → Int32 → Int32 → HMem → Option (Int32 × HMem)
  | 0, _, _, _, _, _, _, _ => none
  | fuel + 1, v1, v2, v3, v4, v5, v6, μ => f_Model_isThere_L13_b K56 (f_Model_isThere_L13 K56 fuel) v1 v2 v3 v4 v5 v6 μ
def f_Model_isThere_J56   (v5 : Int32) (μ : HMem) : Option (Int32 × HMem) :=
if v5 &&& 1 = v5 then some (v5, μ) else none
def f_Model_isThere (v1 : Int32) (v2 : Int32) (v3 : Int32) (μ : HMem) : Option (Int32 × HMem) :=
  h_bd (f_Model_turns v1 μ) (fun r2 μ_2 =>
  f_Model_isThere_L13 f_Model_isThere_J56 h_fuel v1 v2 v3 r2 1 0 μ_2)
def f_Model_isFree (v1 : Int32) (v2 : Int32) (v3 : Int32) (μ : HMem) : Option (Int32 × HMem) :=
  h_bd (f_Model_frees  μ) (fun _ μ_1 =>
  h_bd (f_Model_isThere v1 v2 v3 μ_1) (fun r8 μ_8 =>
  if r8 &&& 1 = r8 then some (r8, μ_8) else none))
def f_Model_lowestSpared_J33  (rec_ : Int32 → Int32 → Int32 → HMem → Option (Int32 × HMem)) (v1 : Int32) (v3 : Int32) (s0 : Int32) (μ : HMem) : Option (Int32 × HMem) :=
h_let (v3 + 1) (fun v3_34 =>
rec_ v1 s0 v3_34 μ)
def f_Model_lowestSpared_L4_b (K40 : Int32 → HMem → Option (Int32 × HMem)) (rec_ : Int32 → Int32 → Int32 → HMem → Option (Int32 × HMem)) (v1 : Int32) (v2 : Int32) (v3 : Int32) (μ : HMem) : Option (Int32 × HMem) :=
h_bd (f_Model_size v1 μ) (fun r7 μ_7 =>
if r7 ≤ v3 then
  K40 v2 μ_7
else
  if ¬ v2 = (-1 : Int32) then
    K40 v2 μ_7
  else
    h_bd (f_Model_isFree v1 v1 v3 μ_7) (fun r22 μ_22 =>
    if r22 = 0 then
      f_Model_lowestSpared_J33 rec_ v1 v3 (-1) μ_22
    else
      f_Model_lowestSpared_J33 rec_ v1 v3 v3 μ_22))
def f_Model_lowestSpared_L4 (K40 : Int32 → HMem → Option (Int32 × HMem)) : Nat → Int32 → Int32 → Int32 → HMem → Option (Int32 × HMem)
  | 0, _, _, _, _ => none
  | fuel + 1, v1, v2, v3, μ => f_Model_lowestSpared_L4_b K40 (f_Model_lowestSpared_L4 K40 fuel) v1 v2 v3 μ
def f_Model_lowestSpared_J40   (v2 : Int32) (μ : HMem) : Option (Int32 × HMem) :=
some (v2, μ)
def f_Model_lowestSpared (v1 : Int32) (μ : HMem) : Option (Int32 × HMem) :=
  f_Model_lowestSpared_L4 f_Model_lowestSpared_J40 h_fuel v1 (-1) 0 μ
def f_Model_shrinks_L6_b (K26 : HMem → Option (Int32 × HMem)) (rec_ : Int32 → HMem → Option (Int32 × HMem)) (v1 : Int32) (μ : HMem) : Option (Int32 × HMem) :=
if v1 = (-1 : Int32) then
  K26 μ
else
  h_bd (f_Model_drops 4 v1 μ) (fun _ μ_14 =>
  h_bd (f_Model_lowestSpared 4 μ_14) (fun r19 μ_19 =>
  rec_ r19 μ_19))
def f_Model_shrinks_L6 (K26 : HMem → Option (Int32 × HMem)) : Nat → Int32 → HMem → Option (Int32 × HMem)
  | 0, _, _ => none
  | fuel + 1, v1, μ => f_Model_shrinks_L6_b K26 (f_Model_shrinks_L6 K26 fuel) v1 μ
def f_Model_shrinks_J26    (μ : HMem) : Option (Int32 × HMem) :=
h_bd (f_Model_size 4 μ) (fun r28 μ_28 =>
some (r28, μ_28))
def f_Model_shrinks  (μ : HMem) : Option (Int32 × HMem) :=
  h_bd (f_Model_lowestSpared 4 μ) (fun r2 μ_2 =>
  f_Model_shrinks_L6 f_Model_shrinks_J26 h_fuel r2 μ_2)
def f_Model_derive_J14    (μ : HMem) : Option (Int32 × HMem) :=
h_bd (f_Model_fails 1 μ) (fun r16 μ_16 =>
some (r16, μ_16))
def f_Model_derive_J56    (μ : HMem) : Option (Int32 × HMem) :=
h_bd (f_Model_fails 2 μ) (fun r58 μ_58 =>
some (r58, μ_58))
def f_Model_derive_J112   (v1 : Int32) (μ : HMem) : Option (Int32 × HMem) :=
h_bd (f_Model_keeps v1 μ) (fun _ μ_114 =>
h_bd (f_Model_size v1 μ_114) (fun r119 μ_119 =>
some (r119, μ_119)))
def f_Model_derive_J110   (v1 : Int32) (s0 : Int32) (μ : HMem) : Option (Int32 × HMem) :=
f_Model_derive_J112 v1 μ
def f_Model_derive_J50   (v1 : Int32) (v2 : Int32) (v3 : Int32) (v4 : Int32) (s0 : Int32) (s1 : Int32) (s2 : Int32) (μ : HMem) : Option (Int32 × HMem) :=
h_bd (f_Model_in s2 s1 s0 μ) (fun r50 μ_50 =>
if ¬ r50 = 0 then
  if ¬ v3 = (1 : Int32) then
    if ¬ v3 = (2 : Int32) then
      h_bd (f_Model_copies v2 4 μ_50) (fun _ μ_94 =>
      if ¬ v3 = (3 : Int32) then
        f_Model_derive_J110 v1 0 μ_94
      else
        h_bd (f_Model_shrinks  μ_94) (fun r103 μ_103 =>
        f_Model_derive_J110 v1 r103 μ_103))
    else
      h_bd (f_Model_induces v2 4 v4 μ_50) (fun _ μ_85 =>
      f_Model_derive_J112 v1 μ_85)
  else
    h_bd (f_Model_complements v2 μ_50) (fun _ μ_69 =>
    f_Model_derive_J112 v1 μ_69)
else
  f_Model_derive_J56 μ_50)
def f_Model_derive (v1 : Int32) (v2 : Int32) (v3 : Int32) (v4 : Int32) (μ : HMem) : Option (Int32 × HMem) :=
  h_bd (f_Model_isGraph v1 μ) (fun r1 μ_1 =>
  if r1 = 0 then
    f_Model_derive_J14 μ_1
  else
    h_bd (f_Model_isGraph v2 μ_1) (fun r8 μ_8 =>
    if ¬ r8 = 0 then
      h_bd (f_Model_in v3 0 3 μ_8) (fun r23 μ_23 =>
      if r23 = 0 then
        f_Model_derive_J56 μ_23
      else
        if ¬ v3 = (2 : Int32) then
          f_Model_derive_J50 v1 v2 v3 v4 0 0 v4 μ_23
        else
          h_bd (f_Model_size v2 μ_23) (fun r40 μ_40 =>
          f_Model_derive_J50 v1 v2 v3 v4 ((h_ishl 1 r40) - 1) 0 v4 μ_40))
    else
      f_Model_derive_J14 μ_8))
def f_Model_bits_L4_b  (rec_ : Int32 → Int32 → HMem → Option (Int32 × HMem)) (v1 : Int32) (v2 : Int32) (μ : HMem) : Option (Int32 × HMem) :=
if v2 = 0 then
  some (v1, μ)
else
  h_let (v1 + 1) (fun v1_8 =>
  h_let (v2 &&& (v2 - 1)) (fun v2_16 =>
  rec_ v1_8 v2_16 μ))
def f_Model_bits_L4  : Nat → Int32 → Int32 → HMem → Option (Int32 × HMem)
  | 0, _, _, _ => none
  | fuel + 1, v1, v2, μ => f_Model_bits_L4_b  (f_Model_bits_L4  fuel) v1 v2 μ
def f_Model_bits (v0 : Int32) (μ : HMem) : Option (Int32 × HMem) :=
  f_Model_bits_L4 h_fuel 0 v0 μ
def f_Model_edges_J63  (rec_ : Int32 → Int32 → Int32 → Int32 → Int32 → HMem → Option (Int32 × HMem)) (v1 : Int32) (v2 : Int32) (v4 : Int32) (v5 : Int32) (s0 : Int32) (s1 : Int32) (μ : HMem) : Option (Int32 × HMem) :=
h_let (s1 + s0) (fun v3_64 =>
h_let (v5 + 1) (fun v5_65 =>
rec_ v1 v2 v3_64 v4 v5_65 μ))
def f_Model_edges_J62  (rec_ : Int32 → Int32 → Int32 → Int32 → Int32 → HMem → Option (Int32 × HMem)) (v1 : Int32) (v2 : Int32) (v4 : Int32) (v5 : Int32) (s0 : Int32) (μ : HMem) : Option (Int32 × HMem) :=
f_Model_edges_J63 rec_ v1 v2 v4 v5 0 s0 μ
def f_Model_edges_J55  (rec_ : Int32 → Int32 → Int32 → Int32 → Int32 → HMem → Option (Int32 × HMem)) (v1 : Int32) (v2 : Int32) (v4 : Int32) (v5 : Int32) (s0 : Int32) (s1 : Int32) (s2 : Int32) (μ : HMem) : Option (Int32 × HMem) :=
if ¬ s1 = s0 then
  f_Model_edges_J62 rec_ v1 v2 v4 v5 s2 μ
else
  f_Model_edges_J63 rec_ v1 v2 v4 v5 1 s2 μ
def f_Model_edges_L19_b (K71 : Int32 → Int32 → Int32 → Int32 → HMem → Option (Int32 × HMem)) (rec_ : Int32 → Int32 → Int32 → Int32 → Int32 → HMem → Option (Int32 × HMem)) (v1 : Int32) (v2 : Int32) (v3 : Int32) (v4 : Int32) (v5 : Int32) (μ : HMem) : Option (Int32 × HMem) :=
h_bd (f_Model_size v1 μ) (fun r23 μ_23 =>
if r23 ≤ v5 then
  K71 v1 v2 v3 v4 μ_23
else
  h_bd (f_Model_isNear v1 v4 v5 μ_23) (fun r36 μ_36 =>
  if r36 = 0 then
    f_Model_edges_J62 rec_ v1 v2 v4 v5 v3 μ_36
  else
    if ¬ v4 = v5 then
      f_Model_edges_J55 rec_ v1 v2 v4 v5 0 v2 v3 μ_36
    else
      f_Model_edges_J55 rec_ v1 v2 v4 v5 1 v2 v3 μ_36))
def f_Model_edges_L19 (K71 : Int32 → Int32 → Int32 → Int32 → HMem → Option (Int32 × HMem)) : Nat → Int32 → Int32 → Int32 → Int32 → Int32 → HMem → Option (Int32 × HMem)
  | 0, _, _, _, _, _, _ => none
  | fuel + 1, v1, v2, v3, v4, v5, μ => f_Model_edges_L19_b K71 (f_Model_edges_L19 K71 fuel) v1 v2 v3 v4 v5 μ
def f_Model_edges_J71  (rec_ : Int32 → Int32 → Int32 → Int32 → HMem → Option (Int32 × HMem)) (v1 : Int32) (v2 : Int32) (v3 : Int32) (v4 : Int32) (μ : HMem) : Option (Int32 × HMem) :=
h_let (v4 + 1) (fun v4_71 =>
rec_ v1 v2 v3 v4_71 μ)
def f_Model_edges_L5_b  (rec_ : Int32 → Int32 → Int32 → Int32 → HMem → Option (Int32 × HMem)) (v1 : Int32) (v2 : Int32) (v3 : Int32) (v4 : Int32) (μ : HMem) : Option (Int32 × HMem) :=
h_bd (f_Model_size v1 μ) (fun r9 μ_9 =>
if r9 ≤ v4 then
  some (v3, μ_9)
else
  f_Model_edges_L19 (f_Model_edges_J71 rec_) h_fuel v1 v2 v3 v4 v4 μ_9)
def f_Model_edges_L5  : Nat → Int32 → Int32 → Int32 → Int32 → HMem → Option (Int32 × HMem)
  | 0, _, _, _, _, _ => none
  | fuel + 1, v1, v2, v3, v4, μ => f_Model_edges_L5_b  (f_Model_edges_L5  fuel) v1 v2 v3 v4 μ
def f_Model_edges (v1 : Int32) (v2 : Int32) (μ : HMem) : Option (Int32 × HMem) :=
  f_Model_edges_L5 h_fuel v1 v2 0 0 μ
def f_Model_reached_J47  (rec_ : Int32 → Int32 → Int32 → Int32 → HMem → Option (Int32 × HMem)) (v1 : Int32) (v4 : Int32) (v5 : Int32) (s0 : Int32) (s1 : Int32) (μ : HMem) : Option (Int32 × HMem) :=
h_let (s1 ||| s0) (fun v3_48 =>
h_let (v5 + 1) (fun v5_49 =>
rec_ v1 v3_48 v4 v5_49 μ))
def f_Model_reached_L15_b (K55 : Int32 → Int32 → Int32 → HMem → Option (Int32 × HMem)) (rec_ : Int32 → Int32 → Int32 → Int32 → HMem → Option (Int32 × HMem)) (v1 : Int32) (v3 : Int32) (v4 : Int32) (v5 : Int32) (μ : HMem) : Option (Int32 × HMem) :=
h_bd (f_Model_size v1 μ) (fun r19 μ_19 =>
if r19 ≤ v5 then
  K55 v1 v3 v4 μ_19
else
  if ¬ ((h_ishr v3 v5) &&& 1) = (1 : Int32) then
    f_Model_reached_J47 rec_ v1 v4 v5 0 v3 μ_19
  else
    h_bd (f_Model_near v1 v5 μ_19) (fun r40 μ_40 =>
    f_Model_reached_J47 rec_ v1 v4 v5 r40 v3 μ_40))
def f_Model_reached_L15 (K55 : Int32 → Int32 → Int32 → HMem → Option (Int32 × HMem)) : Nat → Int32 → Int32 → Int32 → Int32 → HMem → Option (Int32 × HMem)
  | 0, _, _, _, _, _ => none
  | fuel + 1, v1, v3, v4, v5, μ => f_Model_reached_L15_b K55 (f_Model_reached_L15 K55 fuel) v1 v3 v4 v5 μ
def f_Model_reached_J55  (rec_ : Int32 → Int32 → Int32 → HMem → Option (Int32 × HMem)) (v1 : Int32) (v3 : Int32) (v4 : Int32) (μ : HMem) : Option (Int32 × HMem) :=
h_let (v4 + 1) (fun v4_55 =>
rec_ v1 v3 v4_55 μ)
def f_Model_reached_L5_b  (rec_ : Int32 → Int32 → Int32 → HMem → Option (Int32 × HMem)) (v1 : Int32) (v3 : Int32) (v4 : Int32) (μ : HMem) : Option (Int32 × HMem) :=
if (8 : Int32) ≤ v4 then
  some (v3, μ)
else
  f_Model_reached_L15 (f_Model_reached_J55 rec_) h_fuel v1 v3 v4 0 μ
def f_Model_reached_L5  : Nat → Int32 → Int32 → Int32 → HMem → Option (Int32 × HMem)
  | 0, _, _, _, _ => none
  | fuel + 1, v1, v3, v4, μ => f_Model_reached_L5_b  (f_Model_reached_L5  fuel) v1 v3 v4 μ
def f_Model_reached (v1 : Int32) (v2 : Int32) (μ : HMem) : Option (Int32 × HMem) :=
  f_Model_reached_L5 h_fuel v1 v2 0 μ
def f_Model_components_J41  (rec_ : Int32 → Int32 → Int32 → Int32 → HMem → Option (Int32 × HMem)) (v1 : Int32) (v2 : Int32) (v3 : Int32) (v4 : Int32) (μ : HMem) : Option (Int32 × HMem) :=
h_let (v4 + 1) (fun v4_41 =>
rec_ v1 v2 v3 v4_41 μ)
def f_Model_components_L7_b  (rec_ : Int32 → Int32 → Int32 → Int32 → HMem → Option (Int32 × HMem)) (v1 : Int32) (v2 : Int32) (v3 : Int32) (v4 : Int32) (μ : HMem) : Option (Int32 × HMem) :=
h_bd (f_Model_size v1 μ) (fun r11 μ_11 =>
if r11 ≤ v4 then
  some (v2, μ_11)
else
  if ¬ ((h_ishr v3 v4) &&& 1) = 0 then
    f_Model_components_J41 rec_ v1 v2 v3 v4 μ_11
  else
    h_let (v2 + 1) (fun v2_26 =>
    h_bd (f_Model_reached v1 (h_ishl 1 v4) μ_11) (fun r36 μ_36 =>
    h_let (v3 ||| r36) (fun v3_40 =>
    f_Model_components_J41 rec_ v1 v2_26 v3_40 v4 μ_36))))
def f_Model_components_L7  : Nat → Int32 → Int32 → Int32 → Int32 → HMem → Option (Int32 × HMem)
  | 0, _, _, _, _, _ => none
  | fuel + 1, v1, v2, v3, v4, μ => f_Model_components_L7_b  (f_Model_components_L7  fuel) v1 v2 v3 v4 μ
def f_Model_components (v1 : Int32) (μ : HMem) : Option (Int32 × HMem) :=
  f_Model_components_L7 h_fuel v1 0 0 0 μ
def f_Model_graph_J69   (s0 : Int32) (μ : HMem) : Option (Int32 × HMem) :=
h_bd (f_Model_tells s0 μ) (fun r69 μ_69 =>
some (r69, μ_69))
def f_Model_graph_J66   (s0 : Int32) (s1 : Int32) (μ : HMem) : Option (Int32 × HMem) :=
h_bd (f_Model_edges s1 s0 μ) (fun r66 μ_66 =>
f_Model_graph_J69 r66 μ_66)
def f_Model_graph (v1 : Int32) (v2 : Int32) (μ : HMem) : Option (Int32 × HMem) :=
  h_bd (f_Model_isGraph v1 μ) (fun r1 μ_1 =>
  if ¬ r1 = 0 then
    h_bd (f_Model_in v2 0 3 μ_1) (fun r16 μ_16 =>
    if ¬ r16 = 0 then
      if ¬ v2 = 0 then
        if ¬ v2 = (3 : Int32) then
          if ¬ v2 = (2 : Int32) then
            f_Model_graph_J66 0 v1 μ_16
          else
            f_Model_graph_J66 1 v1 μ_16
        else
          h_bd (f_Model_components v1 μ_16) (fun r48 μ_48 =>
          f_Model_graph_J69 r48 μ_48)
      else
        h_bd (f_Model_size v1 μ_16) (fun r35 μ_35 =>
        f_Model_graph_J69 r35 μ_35)
    else
      h_bd (f_Model_fails 2 μ_16) (fun r24 μ_24 =>
      some (r24, μ_24)))
  else
    h_bd (f_Model_fails 1 μ_1) (fun r9 μ_9 =>
    some (r9, μ_9)))
def f_Model_vertex_J67   (s0 : Int32) (μ : HMem) : Option (Int32 × HMem) :=
h_bd (f_Model_tells s0 μ) (fun r67 μ_67 =>
some (r67, μ_67))
def f_Model_vertex (v1 : Int32) (v2 : Int32) (v3 : Int32) (μ : HMem) : Option (Int32 × HMem) :=
  h_bd (f_Model_isVertex v1 v2 μ) (fun r3 μ_3 =>
  if ¬ r3 = 0 then
    h_bd (f_Model_in v3 0 2 μ_3) (fun r18 μ_18 =>
    if ¬ r18 = 0 then
      if ¬ v3 = 0 then
        if ¬ v3 = (1 : Int32) then
          h_bd (f_Model_near v1 v2 μ_18) (fun r64 μ_64 =>
          f_Model_vertex_J67 r64 μ_64)
        else
          h_bd (f_Model_near v1 v2 μ_18) (fun r52 μ_52 =>
          h_bd (f_Model_bits r52 μ_52) (fun r55 μ_55 =>
          f_Model_vertex_J67 r55 μ_55))
      else
        h_bd (f_Model_weight v1 v2 μ_18) (fun r38 μ_38 =>
        f_Model_vertex_J67 r38 μ_38)
    else
      h_bd (f_Model_fails 2 μ_18) (fun r26 μ_26 =>
      some (r26, μ_26)))
  else
    h_bd (f_Model_fails 1 μ_3) (fun r11 μ_11 =>
    some (r11, μ_11)))
def f_Model_edge_J37   (s0 : Int32) (μ : HMem) : Option (Int32 × HMem) :=
some (s0, μ)
def f_Model_edge_J32    (μ : HMem) : Option (Int32 × HMem) :=
h_bd (f_Model_fails 1 μ) (fun r34 μ_34 =>
f_Model_edge_J37 r34 μ_34)
def f_Model_edge (v1 : Int32) (v2 : Int32) (v3 : Int32) (μ : HMem) : Option (Int32 × HMem) :=
  h_bd (f_Model_isVertex v1 v2 μ) (fun r3 μ_3 =>
  if r3 = 0 then
    f_Model_edge_J32 μ_3
  else
    h_bd (f_Model_isVertex v1 v3 μ_3) (fun r12 μ_12 =>
    if r12 = 0 then
      f_Model_edge_J32 μ_12
    else
      h_bd (f_Model_between v1 v2 v3 μ_12) (fun r23 μ_23 =>
      h_bd (f_Model_tells r23 μ_23) (fun r26 μ_26 =>
      f_Model_edge_J37 r26 μ_26))))
def f_Model_fewest_J51  (rec_ : Int32 → Int32 → Int32 → Int32 → HMem → Option (Int32 × HMem)) (v1 : Int32) (v2 : Int32) (v3 : Int32) (v4 : Int32) (μ : HMem) : Option (Int32 × HMem) :=
h_let (v4 + 1) (fun v4_51 =>
rec_ v1 v2 v3 v4_51 μ)
def f_Model_fewest_L8_b  (rec_ : Int32 → Int32 → Int32 → Int32 → HMem → Option (Int32 × HMem)) (v1 : Int32) (v2 : Int32) (v3 : Int32) (v4 : Int32) (μ : HMem) : Option (Int32 × HMem) :=
if (8 : Int32) ≤ v4 then
  some (v2, μ)
else
  h_chk v4 (h_len 129) (
  h_bd (f_Model_bits ((μ.1 129 (Int32.toNatClampNeg (v4))) &&& v1) μ) (fun r24 μ_24 =>
  if ¬ ((h_ishr v1 v4) &&& 1) = (1 : Int32) then
    f_Model_fewest_J51 rec_ v1 v2 v3 v4 μ_24
  else
    if v3 ≤ r24 then
      f_Model_fewest_J51 rec_ v1 v2 v3 v4 μ_24
    else
      f_Model_fewest_J51 rec_ v1 v4 r24 v4 μ_24))
def f_Model_fewest_L8  : Nat → Int32 → Int32 → Int32 → Int32 → HMem → Option (Int32 × HMem)
  | 0, _, _, _, _, _ => none
  | fuel + 1, v1, v2, v3, v4, μ => f_Model_fewest_L8_b  (f_Model_fewest_L8  fuel) v1 v2 v3 v4 μ
def f_Model_fewest (v1 : Int32) (μ : HMem) : Option (Int32 × HMem) :=
  f_Model_fewest_L8 h_fuel v1 (-1) 9 0 μ
def f_Model_joins_J63  (rec_ : Int32 → Int32 → HMem → Option (Unit × HMem)) (v1 : Int32) (v2 : Int32) (μ : HMem) : Option (Unit × HMem) :=
h_let (v2 + 1) (fun v2_63 =>
rec_ v1 v2_63 μ)
def f_Model_joins_L2_b  (rec_ : Int32 → Int32 → HMem → Option (Unit × HMem)) (v1 : Int32) (v2 : Int32) (μ : HMem) : Option (Unit × HMem) :=
if (8 : Int32) ≤ v2 then
  some ((), μ)
else
  if ¬ ((h_ishr v1 v2) &&& 1) = (1 : Int32) then
    f_Model_joins_J63 rec_ v1 v2 μ
  else
    h_chk v2 (h_len 129) (
    h_let ((v1 &&& ((h_ishl 1 v2) ^^^ (-1))) &&& ((μ.1 129 (Int32.toNatClampNeg (v2))) ^^^ (-1))) (fun v3_33 =>
    h_bd (f_Model_bits (v3_33 &&& ((h_ishl 1 v2) - 1)) μ) (fun r46 μ_46 =>
    h_let (h_wi μ_46 125 10 ((μ.1 125 10) + r46)) (fun μ_50 =>
    h_chk v2 (h_len 129) (
    h_chk v2 (h_len 129) (h_let (h_wi μ_50 129 (Int32.toNatClampNeg (v2)) ((μ_50.1 129 (Int32.toNatClampNeg (v2))) ||| v3_33)) (fun μ_62 =>
    f_Model_joins_J63 rec_ v1 v2 μ_62)))))))
def f_Model_joins_L2  : Nat → Int32 → Int32 → HMem → Option (Unit × HMem)
  | 0, _, _, _ => none
  | fuel + 1, v1, v2, μ => f_Model_joins_L2_b  (f_Model_joins_L2  fuel) v1 v2 μ
def f_Model_joins (v1 : Int32) (μ : HMem) : Option (Unit × HMem) :=
  f_Model_joins_L2 h_fuel v1 0 μ
def f_Model_eliminates_L9_b (K42 : Int32 → Int32 → HMem → Option (Unit × HMem)) (rec_ : Int32 → Int32 → Int32 → Int32 → HMem → Option (Unit × HMem)) (v1 : Int32) (v2 : Int32) (v3 : Int32) (v4 : Int32) (μ : HMem) : Option (Unit × HMem) :=
if v3 ≤ v4 then
  K42 v2 v3 μ
else
  h_bd (f_Model_near v1 v4 μ) (fun r25 μ_25 =>
  h_chk v4 (h_len 129) (h_let (h_wi μ_25 129 (Int32.toNatClampNeg (v4)) (r25 &&& ((h_ishl 1 v4) ^^^ (-1)))) (fun μ_35 =>
  h_let (v4 + 1) (fun v4_36 =>
  rec_ v1 v2 v3 v4_36 μ_35))))
def f_Model_eliminates_L9 (K42 : Int32 → Int32 → HMem → Option (Unit × HMem)) : Nat → Int32 → Int32 → Int32 → Int32 → HMem → Option (Unit × HMem)
  | 0, _, _, _, _, _ => none
  | fuel + 1, v1, v2, v3, v4, μ => f_Model_eliminates_L9_b K42 (f_Model_eliminates_L9 K42 fuel) v1 v2 v3 v4 μ
def f_Model_eliminates_J155  (rec_ : Int32 → Int32 → Int32 → Int32 → HMem → Option (Unit × HMem)) (v2 : Int32) (v3 : Int32) (v4 : Int32) (v5 : Int32) (v6 : Int32) (v7 : Int32) (s0 : Int32) (μ : HMem) : Option (Unit × HMem) :=
h_let (h_wi μ 125 9 s0) (fun μ_155 =>
h_bd (f_Model_joins v7 μ_155) (fun _ μ_161 =>
h_let (v4 &&& ((h_ishl 1 v6) ^^^ (-1))) (fun v4_173 =>
h_let (v5 + 1) (fun v5_175 =>
rec_ v2 v3 v4_173 v5_175 μ_161))))
def f_Model_eliminates_J94  (rec_ : Int32 → Int32 → Int32 → Int32 → HMem → Option (Unit × HMem)) (v2 : Int32) (v3 : Int32) (v4 : Int32) (v5 : Int32) (s0 : Int32) (s1 : Int32) (μ : HMem) : Option (Unit × HMem) :=
h_chk s1 (h_len 130) (h_let (h_wi μ 130 (Int32.toNatClampNeg (s1)) s0) (fun μ_94 =>
h_chk v5 (h_len 130) (
h_let (μ_94.1 130 (Int32.toNatClampNeg (v5))) (fun v6_102 =>
h_chk v6_102 (h_len 129) (
h_let ((μ_94.1 129 (Int32.toNatClampNeg (v6_102))) &&& v4) (fun v7_114 =>
h_chk v6_102 (h_len 131) (h_let (h_wi μ_94 131 (Int32.toNatClampNeg (v6_102)) (v7_114 ||| (h_ishl 1 v6_102))) (fun μ_129 =>
h_bd (f_Model_bits v7_114 μ_129) (fun r133 μ_133 =>
if r133 ≤ (μ_133.1 125 9) then
  f_Model_eliminates_J155 rec_ v2 v3 v4 v5 v6_102 v7_114 (μ_133.1 125 9) μ_133
else
  h_bd (f_Model_bits v7_114 μ_133) (fun r145 μ_145 =>
  f_Model_eliminates_J155 rec_ v2 v3 v4 v5 v6_102 v7_114 r145 μ_145))))))))))
def f_Model_eliminates_L62_b  (rec_ : Int32 → Int32 → Int32 → Int32 → HMem → Option (Unit × HMem)) (v2 : Int32) (v3 : Int32) (v4 : Int32) (v5 : Int32) (μ : HMem) : Option (Unit × HMem) :=
if v3 ≤ v5 then
  some ((), μ)
else
  if v2 = 0 then
    h_chk v5 (h_len 130) (
    f_Model_eliminates_J94 rec_ v2 v3 v4 v5 (μ.1 130 (Int32.toNatClampNeg (v5))) v5 μ)
  else
    h_bd (f_Model_fewest v4 μ) (fun r81 μ_81 =>
    f_Model_eliminates_J94 rec_ v2 v3 v4 v5 r81 v5 μ_81)
def f_Model_eliminates_L62  : Nat → Int32 → Int32 → Int32 → Int32 → HMem → Option (Unit × HMem)
  | 0, _, _, _, _, _ => none
  | fuel + 1, v2, v3, v4, v5, μ => f_Model_eliminates_L62_b  (f_Model_eliminates_L62  fuel) v2 v3 v4 v5 μ
def f_Model_eliminates_J42   (v2 : Int32) (v3 : Int32) (μ : HMem) : Option (Unit × HMem) :=
h_let (h_wi μ 125 9 (-1)) (fun μ_44 =>
h_let (h_wi μ_44 125 10 0) (fun μ_49 =>
h_let ((h_ishl 1 v3) - 1) (fun v4_57 =>
f_Model_eliminates_L62 h_fuel v2 v3 v4_57 0 μ_49)))
def f_Model_eliminates (v1 : Int32) (v2 : Int32) (μ : HMem) : Option (Unit × HMem) :=
  h_bd (f_Model_size v1 μ) (fun r2 μ_2 =>
  f_Model_eliminates_L9 f_Model_eliminates_J42 h_fuel v1 v2 r2 0 μ_2)
def p_Model_complements_19 (cx : HCx) (F_ : Int32 → Int32 → Int32 → HMem → Option (Unit × HMem)) : Prop := ∀ (v1 : Int32) (v2 : Int32) (v3 : Int32) (μ : HMem), HX cx (HQ cx h_eV) (F_ v1 v2 v3 μ) 0 0 19 [(0, .ref 125), (1, .int v1), (2, .int v2), (3, .int v3)] [] μ
def p_Model_complements_61 (cx : HCx) (F_ : Int32 → Int32 → HMem → Option (Unit × HMem)) : Prop := ∀ (v1 : Int32) (v2 : Int32) (μ : HMem), HX cx (HQ cx h_eV) (F_ v1 v2 μ) 0 0 61 [(0, .ref 125), (1, .int v1), (2, .int v2)] [] μ
def p_Model_complements_8 (cx : HCx) (F_ : Int32 → Int32 → HMem → Option (Unit × HMem)) : Prop := ∀ (v1 : Int32) (v2 : Int32) (μ : HMem), HX cx (HQ cx h_eV) (F_ v1 v2 μ) 0 0 8 [(0, .ref 125), (1, .int v1), (2, .int v2)] [] μ
def p_Model_frees_2 (cx : HCx) (F_ : Int32 → HMem → Option (Unit × HMem)) : Prop := ∀ (v1 : Int32) (μ : HMem), HX cx (HQ cx h_eV) (F_ v1 μ) 0 0 2 [(0, .ref 125), (1, .int v1)] [] μ
def p_Model_near_5 (cx : HCx) (F_ : Int32 → Int32 → Int32 → Int32 → HMem → Option (Int32 × HMem)) : Prop := ∀ (v1 : Int32) (v2 : Int32) (v3 : Int32) (v4 : Int32) (μ : HMem), HX cx (HQ cx h_eI) (F_ v1 v2 v3 v4 μ) 0 0 5 [(0, .ref 125), (1, .int v1), (2, .int v2), (3, .int v3), (4, .int v4)] [] μ
def p_Model_lowestOut_2 (cx : HCx) (F_ : Int32 → Int32 → HMem → Option (Int32 × HMem)) : Prop := ∀ (v0 : Int32) (v1 : Int32) (μ : HMem), HX cx (HQ cx h_eI) (F_ v0 v1 μ) 0 0 2 [(0, .int v0), (1, .int v1)] [] μ
def p_Model_turns_28 (cx : HCx) (F_ : Int32 → Int32 → Int32 → Int32 → Int32 → Int32 → HMem → Option (Int32 × HMem)) : Prop := ∀ (v1 : Int32) (v2 : Int32) (v3 : Int32) (v4 : Int32) (v5 : Int32) (v6 : Int32) (μ : HMem), HX cx (HQ cx h_eI) (F_ v1 v2 v3 v4 v5 v6 μ) 0 0 28 [(0, .ref 125), (1, .int v1), (2, .int v2), (3, .int v3), (4, .int v4), (5, .int v5), (6, .int v6)] [] μ
def p_Model_turns_71 (cx : HCx) (F_ : Int32 → Int32 → Int32 → Int32 → Int32 → HMem → Option (Int32 × HMem)) : Prop := ∀ (v1 : Int32) (v2 : Int32) (v3 : Int32) (v4 : Int32) (v5 : Int32) (μ : HMem), HX cx (HQ cx h_eI) (F_ v1 v2 v3 v4 v5 μ) 0 0 71 [(0, .ref 125), (1, .int v1), (2, .int v2), (3, .int v3), (4, .int v4), (5, .int v5)] [] μ
def p_Model_turns_7 (cx : HCx) (F_ : Int32 → Int32 → Int32 → Int32 → HMem → Option (Int32 × HMem)) : Prop := ∀ (v1 : Int32) (v2 : Int32) (v3 : Int32) (v4 : Int32) (μ : HMem), HX cx (HQ cx h_eI) (F_ v1 v2 v3 v4 μ) 0 0 7 [(0, .ref 125), (1, .int v1), (2, .int v2), (3, .int v3), (4, .int v4)] [] μ
def p_Model_turns_117 (cx : HCx) (F_ : Int32 → Int32 → HMem → Option (Int32 × HMem)) : Prop := ∀ (v2 : Int32) (v3 : Int32) (μ : HMem), HX cx (HQ cx h_eI) (F_ v2 v3 μ) 0 0 117 [(0, .ref 125), (2, .int v2), (3, .int v3)] [] μ
def p_Model_goes_58 (cx : HCx) (F_ : Int32 → Int32 → Int32 → Int32 → Int32 → Int32 → HMem → Option (Int32 × HMem)) : Prop := ∀ (v1 : Int32) (v2 : Int32) (v4 : Int32) (v6 : Int32) (v7 : Int32) (v8 : Int32) (μ : HMem), HX cx (HQ cx h_eI) (F_ v1 v2 v4 v6 v7 v8 μ) 0 0 58 [(0, .ref 125), (1, .int v1), (2, .int v2), (4, .int v4), (6, .int v6), (7, .int v7), (8, .int v8)] [] μ
def p_Model_goes_127 (cx : HCx) (F_ : Int32 → HMem → Option (Int32 × HMem)) : Prop := ∀ (v7 : Int32) (μ : HMem), HX cx (HQ cx h_eI) (F_ v7 μ) 0 0 127 [(7, .int v7)] [] μ
def p_Model_isPart_91 (cx : HCx) (F_ : Int32 → Int32 → Int32 → Int32 → Int32 → Int32 → Int32 → HMem → Option (Int32 × HMem)) : Prop := ∀ (v1 : Int32) (v2 : Int32) (v3 : Int32) (v4 : Int32) (v5 : Int32) (v6 : Int32) (v7 : Int32) (μ : HMem), HX cx (HQ cx h_eI) (F_ v1 v2 v3 v4 v5 v6 v7 μ) 0 0 91 [(0, .ref 125), (1, .int v1), (2, .int v2), (3, .int v3), (4, .int v4), (5, .int v5), (6, .int v6), (7, .int v7)] [] μ
def p_Model_isPart_48 (cx : HCx) (F_ : Int32 → Int32 → Int32 → Int32 → Int32 → Int32 → Int32 → HMem → Option (Int32 × HMem)) : Prop := ∀ (v1 : Int32) (v2 : Int32) (v3 : Int32) (v4 : Int32) (v5 : Int32) (v6 : Int32) (v7 : Int32) (μ : HMem), HX cx (HQ cx h_eI) (F_ v1 v2 v3 v4 v5 v6 v7 μ) 0 0 48 [(0, .ref 125), (1, .int v1), (2, .int v2), (3, .int v3), (4, .int v4), (5, .int v5), (6, .int v6), (7, .int v7)] [] μ
def p_Model_isPart_15 (cx : HCx) (F_ : Int32 → Int32 → Int32 → Int32 → Int32 → Int32 → HMem → Option (Int32 × HMem)) : Prop := ∀ (v1 : Int32) (v2 : Int32) (v3 : Int32) (v4 : Int32) (v5 : Int32) (v6 : Int32) (μ : HMem), HX cx (HQ cx h_eI) (F_ v1 v2 v3 v4 v5 v6 μ) 0 0 15 [(0, .ref 125), (1, .int v1), (2, .int v2), (3, .int v3), (4, .int v4), (5, .int v5), (6, .int v6)] [] μ
def p_Model_isPart_138 (cx : HCx) (F_ : Int32 → Int32 → HMem → Option (Int32 × HMem)) : Prop := ∀ (v4 : Int32) (v6 : Int32) (μ : HMem), HX cx (HQ cx h_eI) (F_ v4 v6 μ) 0 0 138 [(4, .int v4), (6, .int v6)] [] μ
def p_Model_isThere_56 (cx : HCx) (F_ : Int32 → HMem → Option (Int32 × HMem)) : Prop := ∀ (v5 : Int32) (μ : HMem), HX cx (HQ cx h_eI) (F_ v5 μ) 0 0 56 [(5, .int v5)] [] μ
def p_Model_isThere_13 (cx : HCx) (F_ : Int32 → Int32 → Int32 → Int32 → Int32 → Int32 → HMem → Option (Int32 × HMem)) : Prop := ∀ (v1 : Int32) (v2 : Int32) (v3 : Int32) (v4 : Int32) (v5 : Int32) (v6 : Int32) (μ : HMem), HX cx (HQ cx h_eI) (F_ v1 v2 v3 v4 v5 v6 μ) 0 0 13 [(0, .ref 125), (1, .int v1), (2, .int v2), (3, .int v3), (4, .int v4), (5, .int v5), (6, .int v6)] [] μ
def p_Model_lowestSpared_4 (cx : HCx) (F_ : Int32 → Int32 → Int32 → HMem → Option (Int32 × HMem)) : Prop := ∀ (v1 : Int32) (v2 : Int32) (v3 : Int32) (μ : HMem), HX cx (HQ cx h_eI) (F_ v1 v2 v3 μ) 0 0 4 [(0, .ref 125), (1, .int v1), (2, .int v2), (3, .int v3)] [] μ
def p_Model_lowestSpared_40 (cx : HCx) (F_ : Int32 → HMem → Option (Int32 × HMem)) : Prop := ∀ (v2 : Int32) (μ : HMem), HX cx (HQ cx h_eI) (F_ v2 μ) 0 0 40 [(2, .int v2)] [] μ
def p_Model_shrinks_26 (cx : HCx) (F_ : HMem → Option (Int32 × HMem)) : Prop := ∀  (μ : HMem), HX cx (HQ cx h_eI) (F_ μ) 0 0 26 [(0, .ref 125)] [] μ
def p_Model_shrinks_6 (cx : HCx) (F_ : Int32 → HMem → Option (Int32 × HMem)) : Prop := ∀ (v1 : Int32) (μ : HMem), HX cx (HQ cx h_eI) (F_ v1 μ) 0 0 6 [(0, .ref 125), (1, .int v1)] [] μ
def p_Model_bits_4 (cx : HCx) (F_ : Int32 → Int32 → HMem → Option (Int32 × HMem)) : Prop := ∀ (v1 : Int32) (v2 : Int32) (μ : HMem), HX cx (HQ cx h_eI) (F_ v1 v2 μ) 0 0 4 [(1, .int v1), (2, .int v2)] [] μ
def p_Model_edges_19 (cx : HCx) (F_ : Int32 → Int32 → Int32 → Int32 → Int32 → HMem → Option (Int32 × HMem)) : Prop := ∀ (v1 : Int32) (v2 : Int32) (v3 : Int32) (v4 : Int32) (v5 : Int32) (μ : HMem), HX cx (HQ cx h_eI) (F_ v1 v2 v3 v4 v5 μ) 0 0 19 [(0, .ref 125), (1, .int v1), (2, .int v2), (3, .int v3), (4, .int v4), (5, .int v5)] [] μ
def p_Model_edges_71 (cx : HCx) (F_ : Int32 → Int32 → Int32 → Int32 → HMem → Option (Int32 × HMem)) : Prop := ∀ (v1 : Int32) (v2 : Int32) (v3 : Int32) (v4 : Int32) (μ : HMem), HX cx (HQ cx h_eI) (F_ v1 v2 v3 v4 μ) 0 0 71 [(0, .ref 125), (1, .int v1), (2, .int v2), (3, .int v3), (4, .int v4)] [] μ
def p_Model_edges_5 (cx : HCx) (F_ : Int32 → Int32 → Int32 → Int32 → HMem → Option (Int32 × HMem)) : Prop := ∀ (v1 : Int32) (v2 : Int32) (v3 : Int32) (v4 : Int32) (μ : HMem), HX cx (HQ cx h_eI) (F_ v1 v2 v3 v4 μ) 0 0 5 [(0, .ref 125), (1, .int v1), (2, .int v2), (3, .int v3), (4, .int v4)] [] μ
def p_Model_reached_15 (cx : HCx) (F_ : Int32 → Int32 → Int32 → Int32 → HMem → Option (Int32 × HMem)) : Prop := ∀ (v1 : Int32) (v3 : Int32) (v4 : Int32) (v5 : Int32) (μ : HMem), HX cx (HQ cx h_eI) (F_ v1 v3 v4 v5 μ) 0 0 15 [(0, .ref 125), (1, .int v1), (3, .int v3), (4, .int v4), (5, .int v5)] [] μ
def p_Model_reached_55 (cx : HCx) (F_ : Int32 → Int32 → Int32 → HMem → Option (Int32 × HMem)) : Prop := ∀ (v1 : Int32) (v3 : Int32) (v4 : Int32) (μ : HMem), HX cx (HQ cx h_eI) (F_ v1 v3 v4 μ) 0 0 55 [(0, .ref 125), (1, .int v1), (3, .int v3), (4, .int v4)] [] μ
def p_Model_reached_5 (cx : HCx) (F_ : Int32 → Int32 → Int32 → HMem → Option (Int32 × HMem)) : Prop := ∀ (v1 : Int32) (v3 : Int32) (v4 : Int32) (μ : HMem), HX cx (HQ cx h_eI) (F_ v1 v3 v4 μ) 0 0 5 [(0, .ref 125), (1, .int v1), (3, .int v3), (4, .int v4)] [] μ
def p_Model_components_7 (cx : HCx) (F_ : Int32 → Int32 → Int32 → Int32 → HMem → Option (Int32 × HMem)) : Prop := ∀ (v1 : Int32) (v2 : Int32) (v3 : Int32) (v4 : Int32) (μ : HMem), HX cx (HQ cx h_eI) (F_ v1 v2 v3 v4 μ) 0 0 7 [(0, .ref 125), (1, .int v1), (2, .int v2), (3, .int v3), (4, .int v4)] [] μ
def p_Model_fewest_8 (cx : HCx) (F_ : Int32 → Int32 → Int32 → Int32 → HMem → Option (Int32 × HMem)) : Prop := ∀ (v1 : Int32) (v2 : Int32) (v3 : Int32) (v4 : Int32) (μ : HMem), HX cx (HQ cx h_eI) (F_ v1 v2 v3 v4 μ) 0 0 8 [(0, .ref 125), (1, .int v1), (2, .int v2), (3, .int v3), (4, .int v4)] [] μ
def p_Model_joins_2 (cx : HCx) (F_ : Int32 → Int32 → HMem → Option (Unit × HMem)) : Prop := ∀ (v1 : Int32) (v2 : Int32) (μ : HMem), HX cx (HQ cx h_eV) (F_ v1 v2 μ) 0 0 2 [(0, .ref 125), (1, .int v1), (2, .int v2)] [] μ
def p_Model_eliminates_42 (cx : HCx) (F_ : Int32 → Int32 → HMem → Option (Unit × HMem)) : Prop := ∀ (v2 : Int32) (v3 : Int32) (μ : HMem), HX cx (HQ cx h_eV) (F_ v2 v3 μ) 0 0 42 [(0, .ref 125), (2, .int v2), (3, .int v3)] [] μ
def p_Model_eliminates_9 (cx : HCx) (F_ : Int32 → Int32 → Int32 → Int32 → HMem → Option (Unit × HMem)) : Prop := ∀ (v1 : Int32) (v2 : Int32) (v3 : Int32) (v4 : Int32) (μ : HMem), HX cx (HQ cx h_eV) (F_ v1 v2 v3 v4 μ) 0 0 9 [(0, .ref 125), (1, .int v1), (2, .int v2), (3, .int v3), (4, .int v4)] [] μ
def p_Model_eliminates_62 (cx : HCx) (F_ : Int32 → Int32 → Int32 → Int32 → HMem → Option (Unit × HMem)) : Prop := ∀ (v2 : Int32) (v3 : Int32) (v4 : Int32) (v5 : Int32) (μ : HMem), HX cx (HQ cx h_eV) (F_ v2 v3 v4 v5 μ) 0 0 62 [(0, .ref 125), (2, .int v2), (3, .int v3), (4, .int v4), (5, .int v5)] [] μ
theorem t_Model_drops_0 {cx : HCx} (hg : HGood cx R_Model b_Model_drops 3 3 none) (hA : h_own cx) (v1 : Int32) (v2 : Int32) (μ : HMem) : HX cx (HQ cx h_eV) (f_Model_drops v1 v2 μ) 0 0 0 [(0, .ref 125), (1, .int v1), (2, .int v2)] [] μ := by
  unfold f_Model_drops
  refine r_aload_n hg 0 d_Model_drops_0 rfl rfl ?_
  refine r_iload_n hg 1 d_Model_drops_1 rfl rfl ?_
  refine r_iload_n hg 1 d_Model_drops_2 rfl rfl ?_
  refine r_iconst (v := 1) hg d_Model_drops_3 (by decide) ?_
  refine r_aload_n hg 0 d_Model_drops_4 rfl rfl ?_
  refine r_iload_n hg 1 d_Model_drops_5 rfl rfl ?_
  refine r_callV (As := [.int v1]) hg (t_Model_size v1 μ) v_Model_size c_Model rfl (by decide) rfl wm_Model_75 d_Model_drops_6 rfl ⟨by decide, by decide⟩ (Nat.le_of_ble_eq_true rfl) rfl (fun r6 μ_6 _ => ?_)
  refine r_ishl hg d_Model_drops_9 ?_
  refine r_iconst (v := 1) hg d_Model_drops_10 (by decide) ?_
  refine r_isub hg d_Model_drops_11 ?_
  refine r_iconst (v := 1) hg d_Model_drops_12 (by decide) ?_
  refine r_iload_n hg 2 d_Model_drops_13 rfl rfl ?_
  refine r_ishl hg d_Model_drops_14 ?_
  refine r_iconst (v := -1) hg d_Model_drops_15 (by decide) ?_
  refine r_ixor hg d_Model_drops_16 ?_
  refine r_iand hg d_Model_drops_17 ?_
  refine r_callV (As := [.int v1, .int v1, .int (((h_ishl 1 r6) - 1) &&& ((h_ishl 1 v2) ^^^ (-1)))]) hg (t_Model_induces v1 v1 (((h_ishl 1 r6) - 1) &&& ((h_ishl 1 v2) ^^^ (-1))) μ_6) v_Model_induces c_Model rfl (by decide) rfl wm_Model_144 d_Model_drops_18 rfl ⟨by decide, by decide⟩ (Nat.le_of_ble_eq_true rfl) rfl (fun r18 μ_18 _ => ?_)
  exact r_vret hg hA rfl d_Model_drops_21 rfl
theorem t_Model_drops (v1 : Int32) (v2 : Int32) (μ : HMem) : HSpec y_Model_drops b_Model_drops 3 none 3 h_eV [.ref 125, .int v1, .int v2] μ (f_Model_drops v1 v2 μ) :=
  HSpec.of (by decide +kernel) (v_Model_drops.1 _ (by simp)) (Nat.le_of_ble_eq_true rfl) (fun cx hA hg => t_Model_drops_0 hg hA v1 v2 μ)
theorem t_Model_complements_J52 {cx : HCx} (hg : HGood cx R_Model b_Model_complements 4 3 none) (hA : h_own cx)  (rec_ : Int32 → Int32 → Int32 → HMem → Option (Unit × HMem)) (hrec_ : p_Model_complements_19 cx rec_) (v1 : Int32) (v2 : Int32) (v3 : Int32) (s0 : Int32) (s1 : Int32) (s2 : Int32) (s3 : Int32) (μ : HMem) : HX cx (HQ cx h_eV) (f_Model_complements_J52  rec_ v1 v2 v3 s0 s1 s2 s3 μ) 0 0 52 [(0, .ref 125), (1, .int v1), (2, .int v2), (3, .int v3)] [.int s0, .int s1, .int s2, .int s3, .ref 125] μ := by
  unfold f_Model_complements_J52
  refine r_callV (As := [.int s3, .int s2, .int s1, .int s0]) hg (t_Model_puts s3 s2 s1 s0 μ) v_Model_puts c_Model rfl (by decide) rfl wm_Model_111 d_Model_complements_52 rfl ⟨by decide, by decide⟩ (Nat.le_of_ble_eq_true rfl) rfl (fun r52 μ_52 _ => ?_)
  refine r_letE (fun v3_55 he_55 => ?_)
  refine r_iinc (v := v3_55) (l' := [(3, .int v3_55), (0, .ref 125), (1, .int v1), (2, .int v2)]) hg 3 d_Model_complements_55 rfl he_55 (Nat.le_of_ble_eq_true rfl) rfl ?_
  refine r_goto (tgt := 19) hg d_Model_complements_58 (by decide) ?_
  refine r_sub [1, 2, 3, 0] rfl ?_
  exact hrec_ v1 v2 v3_55 μ_52
theorem t_Model_complements_J51 {cx : HCx} (hg : HGood cx R_Model b_Model_complements 4 3 none) (hA : h_own cx)  (rec_ : Int32 → Int32 → Int32 → HMem → Option (Unit × HMem)) (hrec_ : p_Model_complements_19 cx rec_) (v1 : Int32) (v2 : Int32) (v3 : Int32) (s0 : Int32) (s1 : Int32) (s2 : Int32) (μ : HMem) : HX cx (HQ cx h_eV) (f_Model_complements_J51  rec_ v1 v2 v3 s0 s1 s2 μ) 0 0 51 [(0, .ref 125), (1, .int v1), (2, .int v2), (3, .int v3)] [.int s0, .int s1, .int s2, .ref 125] μ := by
  unfold f_Model_complements_J51
  refine r_iconst (v := 0) hg d_Model_complements_51 (by decide) ?_
  exact t_Model_complements_J52 hg hA rec_ hrec_ v1 v2 v3 0 s0 s1 s2 μ
theorem t_Model_complements_L19_b {cx : HCx} (hg : HGood cx R_Model b_Model_complements 4 3 none) (hA : h_own cx) (K61 : Int32 → Int32 → HMem → Option (Unit × HMem)) (hK61 : p_Model_complements_61 cx K61) (rec_ : Int32 → Int32 → Int32 → HMem → Option (Unit × HMem)) (hrec_ : p_Model_complements_19 cx rec_) (v1 : Int32) (v2 : Int32) (v3 : Int32) (μ : HMem) : HX cx (HQ cx h_eV) (f_Model_complements_L19_b K61 rec_ v1 v2 v3 μ) 0 0 19 [(0, .ref 125), (1, .int v1), (2, .int v2), (3, .int v3)] [] μ := by
  unfold f_Model_complements_L19_b
  refine r_iload_n hg 3 d_Model_complements_19 rfl rfl ?_
  refine r_aload_n hg 0 d_Model_complements_20 rfl rfl ?_
  refine r_iload_n hg 1 d_Model_complements_21 rfl rfl ?_
  refine r_callV (As := [.int v1]) hg (t_Model_size v1 μ) v_Model_size c_Model rfl (by decide) rfl wm_Model_75 d_Model_complements_22 rfl ⟨by decide, by decide⟩ (Nat.le_of_ble_eq_true rfl) rfl (fun r22 μ_22 _ => ?_)
  refine r_icmp_ge (tgt := 61) hg d_Model_complements_25 (by decide) ?_ ?_
  · refine r_sub [0, 1, 2] rfl ?_
    exact hK61 v1 v2 μ_22
  · refine r_aload_n hg 0 d_Model_complements_28 rfl rfl ?_
    refine r_iconst (v := 4) hg d_Model_complements_29 (by decide) ?_
    refine r_iload_n hg 2 d_Model_complements_30 rfl rfl ?_
    refine r_iload_n hg 3 d_Model_complements_31 rfl rfl ?_
    refine r_iload_n hg 2 d_Model_complements_32 rfl rfl ?_
    refine r_iload_n hg 3 d_Model_complements_33 rfl rfl ?_
    refine r_icmp_eq (tgt := 51) hg d_Model_complements_34 (by decide) ?_ ?_
    · exact t_Model_complements_J51 hg hA rec_ hrec_ v1 v2 v3 v3 v2 4 μ_22
    · refine r_aload_n hg 0 d_Model_complements_37 rfl rfl ?_
      refine r_iload_n hg 1 d_Model_complements_38 rfl rfl ?_
      refine r_iload_n hg 2 d_Model_complements_39 rfl rfl ?_
      refine r_iload_n hg 3 d_Model_complements_40 rfl rfl ?_
      refine r_callV (As := [.int v1, .int v2, .int v3]) hg (t_Model_isNear v1 v2 v3 μ_22) v_Model_isNear c_Model rfl (by decide) rfl wm_Model_148 d_Model_complements_41 rfl ⟨by decide, by decide⟩ (Nat.le_of_ble_eq_true rfl) rfl (fun r41 μ_41 _ => ?_)
      refine r_if_ne (tgt := 51) hg d_Model_complements_44 (by decide) ?_ ?_
      · exact t_Model_complements_J51 hg hA rec_ hrec_ v1 v2 v3 v3 v2 4 μ_41
      · refine r_iconst (v := 1) hg d_Model_complements_47 (by decide) ?_
        refine r_goto (tgt := 52) hg d_Model_complements_48 (by decide) ?_
        exact t_Model_complements_J52 hg hA rec_ hrec_ v1 v2 v3 1 v3 v2 4 μ_41
theorem t_Model_complements_L19 {cx : HCx} (hg : HGood cx R_Model b_Model_complements 4 3 none) (hA : h_own cx) (K61 : Int32 → Int32 → HMem → Option (Unit × HMem)) (hK61 : p_Model_complements_61 cx K61) : ∀ (fuel : Nat) (v1 : Int32) (v2 : Int32) (v3 : Int32) (μ : HMem), HX cx (HQ cx h_eV) (f_Model_complements_L19 K61 fuel v1 v2 v3 μ) 0 0 19 [(0, .ref 125), (1, .int v1), (2, .int v2), (3, .int v3)] [] μ
  | 0, _, _, _, _ => by unfold f_Model_complements_L19; exact HX.none
  | fuel + 1, v1, v2, v3, μ => by
    rw [f_Model_complements_L19]
    exact t_Model_complements_L19_b hg hA  K61 hK61 (f_Model_complements_L19 K61 fuel) (t_Model_complements_L19 hg hA  K61 hK61 fuel) v1 v2 v3 μ
theorem t_Model_complements_J61 {cx : HCx} (hg : HGood cx R_Model b_Model_complements 4 3 none) (hA : h_own cx)  (rec_ : Int32 → Int32 → HMem → Option (Unit × HMem)) (hrec_ : p_Model_complements_8 cx rec_) (v1 : Int32) (v2 : Int32) (μ : HMem) : HX cx (HQ cx h_eV) (f_Model_complements_J61  rec_ v1 v2 μ) 0 0 61 [(0, .ref 125), (1, .int v1), (2, .int v2)] [] μ := by
  unfold f_Model_complements_J61
  refine r_letE (fun v2_61 he_61 => ?_)
  refine r_iinc (v := v2_61) (l' := [(2, .int v2_61), (0, .ref 125), (1, .int v1)]) hg 2 d_Model_complements_61 rfl he_61 (Nat.le_of_ble_eq_true rfl) rfl ?_
  refine r_goto (tgt := 8) hg d_Model_complements_64 (by decide) ?_
  refine r_sub [1, 2, 0] rfl ?_
  exact hrec_ v1 v2_61 μ
theorem t_Model_complements_L8_b {cx : HCx} (hg : HGood cx R_Model b_Model_complements 4 3 none) (hA : h_own cx)  (rec_ : Int32 → Int32 → HMem → Option (Unit × HMem)) (hrec_ : p_Model_complements_8 cx rec_) (v1 : Int32) (v2 : Int32) (μ : HMem) : HX cx (HQ cx h_eV) (f_Model_complements_L8_b  rec_ v1 v2 μ) 0 0 8 [(0, .ref 125), (1, .int v1), (2, .int v2)] [] μ := by
  unfold f_Model_complements_L8_b
  refine r_iload_n hg 2 d_Model_complements_8 rfl rfl ?_
  refine r_aload_n hg 0 d_Model_complements_9 rfl rfl ?_
  refine r_iload_n hg 1 d_Model_complements_10 rfl rfl ?_
  refine r_callV (As := [.int v1]) hg (t_Model_size v1 μ) v_Model_size c_Model rfl (by decide) rfl wm_Model_75 d_Model_complements_11 rfl ⟨by decide, by decide⟩ (Nat.le_of_ble_eq_true rfl) rfl (fun r11 μ_11 _ => ?_)
  refine r_icmp_ge (tgt := 67) hg d_Model_complements_14 (by decide) ?_ ?_
  · exact r_vret hg hA rfl d_Model_complements_67 rfl
  · refine r_iload_n hg 2 d_Model_complements_17 rfl rfl ?_
    refine r_istore_n (l' := [(3, .int v2), (0, .ref 125), (1, .int v1), (2, .int v2)]) hg d_Model_complements_18 rfl (Nat.le_of_ble_eq_true rfl) rfl ?_
    refine r_sub [1, 2, 3, 0] rfl ?_
    exact t_Model_complements_L19 hg hA (f_Model_complements_J61 rec_) (t_Model_complements_J61 hg hA rec_ hrec_) h_fuel v1 v2 v2 μ_11
theorem t_Model_complements_L8 {cx : HCx} (hg : HGood cx R_Model b_Model_complements 4 3 none) (hA : h_own cx)  : ∀ (fuel : Nat) (v1 : Int32) (v2 : Int32) (μ : HMem), HX cx (HQ cx h_eV) (f_Model_complements_L8  fuel v1 v2 μ) 0 0 8 [(0, .ref 125), (1, .int v1), (2, .int v2)] [] μ
  | 0, _, _, _ => by unfold f_Model_complements_L8; exact HX.none
  | fuel + 1, v1, v2, μ => by
    rw [f_Model_complements_L8]
    exact t_Model_complements_L8_b hg hA   (f_Model_complements_L8  fuel) (t_Model_complements_L8 hg hA   fuel) v1 v2 μ
theorem t_Model_complements_0 {cx : HCx} (hg : HGood cx R_Model b_Model_complements 4 3 none) (hA : h_own cx) (v1 : Int32) (μ : HMem) : HX cx (HQ cx h_eV) (f_Model_complements v1 μ) 0 0 0 [(0, .ref 125), (1, .int v1)] [] μ := by
  unfold f_Model_complements
  refine r_aload_n hg 0 d_Model_complements_0 rfl rfl ?_
  refine r_iload_n hg 1 d_Model_complements_1 rfl rfl ?_
  refine r_iconst (v := 4) hg d_Model_complements_2 (by decide) ?_
  refine r_callV (As := [.int v1, .int 4]) hg (t_Model_copies v1 4 μ) v_Model_copies c_Model rfl (by decide) rfl wm_Model_89 d_Model_complements_3 rfl ⟨by decide, by decide⟩ (Nat.le_of_ble_eq_true rfl) rfl (fun r3 μ_3 _ => ?_)
  refine r_iconst (v := 0) hg d_Model_complements_6 (by decide) ?_
  refine r_istore_n (l' := [(2, .int 0), (0, .ref 125), (1, .int v1)]) hg d_Model_complements_7 rfl (Nat.le_of_ble_eq_true rfl) rfl ?_
  refine r_sub [1, 2, 0] rfl ?_
  exact t_Model_complements_L8 hg hA h_fuel v1 0 μ_3
theorem t_Model_complements (v1 : Int32) (μ : HMem) : HSpec y_Model_complements b_Model_complements 4 none 3 h_eV [.ref 125, .int v1] μ (f_Model_complements v1 μ) :=
  HSpec.of (by decide +kernel) (v_Model_complements.1 _ (by simp)) (Nat.le_of_ble_eq_true rfl) (fun cx hA hg => t_Model_complements_0 hg hA v1 μ)
theorem t_Model_frees_L2_b {cx : HCx} (hg : HGood cx R_Model b_Model_frees 2 1 none) (hA : h_own cx)  (rec_ : Int32 → HMem → Option (Unit × HMem)) (hrec_ : p_Model_frees_2 cx rec_) (v1 : Int32) (μ : HMem) : HX cx (HQ cx h_eV) (f_Model_frees_L2_b  rec_ v1 μ) 0 0 2 [(0, .ref 125), (1, .int v1)] [] μ := by
  unfold f_Model_frees_L2_b
  refine r_iload_n hg 1 d_Model_frees_2 rfl rfl ?_
  refine r_bipush (v := 8) hg d_Model_frees_3 (by decide) ?_
  refine r_icmp_ge (tgt := 21) hg d_Model_frees_5 (by decide) ?_ ?_
  · exact r_vret hg hA rfl d_Model_frees_21 rfl
  · refine r_aload_n hg 0 d_Model_frees_8 rfl rfl ?_
    refine r_get (v := .ref 135) hg c_Model (by decide) rfl (Nat.le_of_ble_eq_true rfl) rfl wf_Model_37 d_Model_frees_9 rfl ?_
    refine r_iload_n hg 1 d_Model_frees_12 rfl rfl ?_
    refine r_iconst (v := -1) hg d_Model_frees_13 (by decide) ?_
    refine r_iast hg (by decide) rfl d_Model_frees_14 ?_
    refine r_letM (fun μ_14 => ?_)
    refine r_letE (fun v1_15 he_15 => ?_)
    refine r_iinc (v := v1_15) (l' := [(1, .int v1_15), (0, .ref 125)]) hg 1 d_Model_frees_15 rfl he_15 (Nat.le_of_ble_eq_true rfl) rfl ?_
    refine r_goto (tgt := 2) hg d_Model_frees_18 (by decide) ?_
    refine r_sub [1, 0] rfl ?_
    exact hrec_ v1_15 μ_14
theorem t_Model_frees_L2 {cx : HCx} (hg : HGood cx R_Model b_Model_frees 2 1 none) (hA : h_own cx)  : ∀ (fuel : Nat) (v1 : Int32) (μ : HMem), HX cx (HQ cx h_eV) (f_Model_frees_L2  fuel v1 μ) 0 0 2 [(0, .ref 125), (1, .int v1)] [] μ
  | 0, _, _ => by unfold f_Model_frees_L2; exact HX.none
  | fuel + 1, v1, μ => by
    rw [f_Model_frees_L2]
    exact t_Model_frees_L2_b hg hA   (f_Model_frees_L2  fuel) (t_Model_frees_L2 hg hA   fuel) v1 μ
theorem t_Model_frees_0 {cx : HCx} (hg : HGood cx R_Model b_Model_frees 2 1 none) (hA : h_own cx)  (μ : HMem) : HX cx (HQ cx h_eV) (f_Model_frees μ) 0 0 0 [(0, .ref 125)] [] μ := by
  unfold f_Model_frees
  refine r_iconst (v := 0) hg d_Model_frees_0 (by decide) ?_
  refine r_istore_n (l' := [(1, .int 0), (0, .ref 125)]) hg d_Model_frees_1 rfl (Nat.le_of_ble_eq_true rfl) rfl ?_
  refine r_sub [1, 0] rfl ?_
  exact t_Model_frees_L2 hg hA h_fuel 0 μ
theorem t_Model_frees  (μ : HMem) : HSpec y_Model_frees b_Model_frees 2 none 1 h_eV [.ref 125] μ (f_Model_frees μ) :=
  HSpec.of (by decide +kernel) (v_Model_frees.1 _ (by simp)) (Nat.le_of_ble_eq_true rfl) (fun cx hA hg => t_Model_frees_0 hg hA  μ)
theorem t_Model_near_J35 {cx : HCx} (hg : HGood cx R_Model b_Model_near 5 3 (some .int)) (hA : h_own cx)  (rec_ : Int32 → Int32 → Int32 → Int32 → HMem → Option (Int32 × HMem)) (hrec_ : p_Model_near_5 cx rec_) (v1 : Int32) (v2 : Int32) (v4 : Int32) (s0 : Int32) (s1 : Int32) (μ : HMem) : HX cx (HQ cx h_eI) (f_Model_near_J35  rec_ v1 v2 v4 s0 s1 μ) 0 0 35 [(0, .ref 125), (1, .int v1), (2, .int v2), (4, .int v4)] [.int s0, .int s1] μ := by
  unfold f_Model_near_J35
  refine r_ior hg d_Model_near_35 ?_
  refine r_letI (fun v3_36 => ?_)
  refine r_istore_n (l' := [(3, .int v3_36), (0, .ref 125), (1, .int v1), (2, .int v2), (4, .int v4)]) hg d_Model_near_36 rfl (Nat.le_of_ble_eq_true rfl) rfl ?_
  refine r_letE (fun v4_37 he_37 => ?_)
  refine r_iinc (v := v4_37) (l' := [(4, .int v4_37), (3, .int v3_36), (0, .ref 125), (1, .int v1), (2, .int v2)]) hg 4 d_Model_near_37 rfl he_37 (Nat.le_of_ble_eq_true rfl) rfl ?_
  refine r_goto (tgt := 5) hg d_Model_near_40 (by decide) ?_
  refine r_sub [2, 3, 4, 1, 0] rfl ?_
  exact hrec_ v1 v2 v3_36 v4_37 μ
theorem t_Model_near_L5_b {cx : HCx} (hg : HGood cx R_Model b_Model_near 5 3 (some .int)) (hA : h_own cx)  (rec_ : Int32 → Int32 → Int32 → Int32 → HMem → Option (Int32 × HMem)) (hrec_ : p_Model_near_5 cx rec_) (v1 : Int32) (v2 : Int32) (v3 : Int32) (v4 : Int32) (μ : HMem) : HX cx (HQ cx h_eI) (f_Model_near_L5_b  rec_ v1 v2 v3 v4 μ) 0 0 5 [(0, .ref 125), (1, .int v1), (2, .int v2), (3, .int v3), (4, .int v4)] [] μ := by
  unfold f_Model_near_L5_b
  refine r_iload hg 4 d_Model_near_5 rfl ?_
  refine r_aload_n hg 0 d_Model_near_7 rfl rfl ?_
  refine r_iload_n hg 1 d_Model_near_8 rfl rfl ?_
  refine r_callV (As := [.int v1]) hg (t_Model_size v1 μ) v_Model_size c_Model rfl (by decide) rfl wm_Model_75 d_Model_near_9 rfl ⟨by decide, by decide⟩ (Nat.le_of_ble_eq_true rfl) rfl (fun r9 μ_9 _ => ?_)
  refine r_icmp_ge (tgt := 43) hg d_Model_near_12 (by decide) ?_ ?_
  · refine r_iload_n hg 3 d_Model_near_43 rfl rfl ?_
    exact r_iret hg hA rfl d_Model_near_44 rfl
  · refine r_iload_n hg 3 d_Model_near_15 rfl rfl ?_
    refine r_aload_n hg 0 d_Model_near_16 rfl rfl ?_
    refine r_iload_n hg 1 d_Model_near_17 rfl rfl ?_
    refine r_iload hg 4 d_Model_near_18 rfl ?_
    refine r_iload_n hg 2 d_Model_near_20 rfl rfl ?_
    refine r_callV (As := [.int v1, .int v4, .int v2]) hg (t_Model_isNear v1 v4 v2 μ_9) v_Model_isNear c_Model rfl (by decide) rfl wm_Model_148 d_Model_near_21 rfl ⟨by decide, by decide⟩ (Nat.le_of_ble_eq_true rfl) rfl (fun r21 μ_21 _ => ?_)
    refine r_if_eq (tgt := 34) hg d_Model_near_24 (by decide) ?_ ?_
    · refine r_iconst (v := 0) hg d_Model_near_34 (by decide) ?_
      refine r_sub [0, 1, 2, 4] rfl ?_
      exact t_Model_near_J35 hg hA rec_ hrec_ v1 v2 v4 0 v3 μ_21
    · refine r_iconst (v := 1) hg d_Model_near_27 (by decide) ?_
      refine r_iload hg 4 d_Model_near_28 rfl ?_
      refine r_ishl hg d_Model_near_30 ?_
      refine r_goto (tgt := 35) hg d_Model_near_31 (by decide) ?_
      refine r_sub [0, 1, 2, 4] rfl ?_
      exact t_Model_near_J35 hg hA rec_ hrec_ v1 v2 v4 (h_ishl 1 v4) v3 μ_21
theorem t_Model_near_L5 {cx : HCx} (hg : HGood cx R_Model b_Model_near 5 3 (some .int)) (hA : h_own cx)  : ∀ (fuel : Nat) (v1 : Int32) (v2 : Int32) (v3 : Int32) (v4 : Int32) (μ : HMem), HX cx (HQ cx h_eI) (f_Model_near_L5  fuel v1 v2 v3 v4 μ) 0 0 5 [(0, .ref 125), (1, .int v1), (2, .int v2), (3, .int v3), (4, .int v4)] [] μ
  | 0, _, _, _, _, _ => by unfold f_Model_near_L5; exact HX.none
  | fuel + 1, v1, v2, v3, v4, μ => by
    rw [f_Model_near_L5]
    exact t_Model_near_L5_b hg hA   (f_Model_near_L5  fuel) (t_Model_near_L5 hg hA   fuel) v1 v2 v3 v4 μ
theorem t_Model_near_0 {cx : HCx} (hg : HGood cx R_Model b_Model_near 5 3 (some .int)) (hA : h_own cx) (v1 : Int32) (v2 : Int32) (μ : HMem) : HX cx (HQ cx h_eI) (f_Model_near v1 v2 μ) 0 0 0 [(0, .ref 125), (1, .int v1), (2, .int v2)] [] μ := by
  unfold f_Model_near
  refine r_iconst (v := 0) hg d_Model_near_0 (by decide) ?_
  refine r_istore_n (l' := [(3, .int 0), (0, .ref 125), (1, .int v1), (2, .int v2)]) hg d_Model_near_1 rfl (Nat.le_of_ble_eq_true rfl) rfl ?_
  refine r_iconst (v := 0) hg d_Model_near_2 (by decide) ?_
  refine r_istore (l' := [(4, .int 0), (3, .int 0), (0, .ref 125), (1, .int v1), (2, .int v2)]) hg d_Model_near_3 (Nat.le_of_ble_eq_true rfl) rfl ?_
  refine r_sub [2, 3, 4, 1, 0] rfl ?_
  exact t_Model_near_L5 hg hA h_fuel v1 v2 0 0 μ
theorem t_Model_near (v1 : Int32) (v2 : Int32) (μ : HMem) : HSpec y_Model_near b_Model_near 5 (some .int) 3 h_eI [.ref 125, .int v1, .int v2] μ (f_Model_near v1 v2 μ) :=
  HSpec.of (by decide +kernel) (v_Model_near.1 _ (by simp)) (Nat.le_of_ble_eq_true rfl) (fun cx hA hg => t_Model_near_0 hg hA v1 v2 μ)
theorem t_Model_lowestOut_L2_b {cx : HCx} (hg : HGood cx R_Model b_Model_lowestOut 2 1 (some .int)) (hA : h_own cx)  (rec_ : Int32 → Int32 → HMem → Option (Int32 × HMem)) (hrec_ : p_Model_lowestOut_2 cx rec_) (v0 : Int32) (v1 : Int32) (μ : HMem) : HX cx (HQ cx h_eI) (f_Model_lowestOut_L2_b  rec_ v0 v1 μ) 0 0 2 [(0, .int v0), (1, .int v1)] [] μ := by
  unfold f_Model_lowestOut_L2_b
  refine r_iload_n hg 0 d_Model_lowestOut_2 rfl rfl ?_
  refine r_iload_n hg 1 d_Model_lowestOut_3 rfl rfl ?_
  refine r_ishr hg d_Model_lowestOut_4 ?_
  refine r_iconst (v := 1) hg d_Model_lowestOut_5 (by decide) ?_
  refine r_iand hg d_Model_lowestOut_6 ?_
  refine r_iconst (v := 1) hg d_Model_lowestOut_7 (by decide) ?_
  refine r_icmp_ne (tgt := 17) hg d_Model_lowestOut_8 (by decide) ?_ ?_
  · refine r_iload_n hg 1 d_Model_lowestOut_17 rfl rfl ?_
    exact r_iret hg hA rfl d_Model_lowestOut_18 rfl
  · refine r_letE (fun v1_11 he_11 => ?_)
    refine r_iinc (v := v1_11) (l' := [(1, .int v1_11), (0, .int v0)]) hg 1 d_Model_lowestOut_11 rfl he_11 (Nat.le_of_ble_eq_true rfl) rfl ?_
    refine r_goto (tgt := 2) hg d_Model_lowestOut_14 (by decide) ?_
    refine r_sub [1, 0] rfl ?_
    exact hrec_ v0 v1_11 μ
theorem t_Model_lowestOut_L2 {cx : HCx} (hg : HGood cx R_Model b_Model_lowestOut 2 1 (some .int)) (hA : h_own cx)  : ∀ (fuel : Nat) (v0 : Int32) (v1 : Int32) (μ : HMem), HX cx (HQ cx h_eI) (f_Model_lowestOut_L2  fuel v0 v1 μ) 0 0 2 [(0, .int v0), (1, .int v1)] [] μ
  | 0, _, _, _ => by unfold f_Model_lowestOut_L2; exact HX.none
  | fuel + 1, v0, v1, μ => by
    rw [f_Model_lowestOut_L2]
    exact t_Model_lowestOut_L2_b hg hA   (f_Model_lowestOut_L2  fuel) (t_Model_lowestOut_L2 hg hA   fuel) v0 v1 μ
theorem t_Model_lowestOut_0 {cx : HCx} (hg : HGood cx R_Model b_Model_lowestOut 2 1 (some .int)) (hA : h_own cx) (v0 : Int32) (μ : HMem) : HX cx (HQ cx h_eI) (f_Model_lowestOut v0 μ) 0 0 0 [(0, .int v0)] [] μ := by
  unfold f_Model_lowestOut
  refine r_iconst (v := 0) hg d_Model_lowestOut_0 (by decide) ?_
  refine r_istore_n (l' := [(1, .int 0), (0, .int v0)]) hg d_Model_lowestOut_1 rfl (Nat.le_of_ble_eq_true rfl) rfl ?_
  refine r_sub [1, 0] rfl ?_
  exact t_Model_lowestOut_L2 hg hA h_fuel v0 0 μ
theorem t_Model_lowestOut (v0 : Int32) (μ : HMem) : HSpec y_Model_lowestOut b_Model_lowestOut 2 (some .int) 1 h_eI [.int v0] μ (f_Model_lowestOut v0 μ) :=
  HSpec.of (by decide +kernel) (v_Model_lowestOut.1 _ (by simp)) (Nat.le_of_ble_eq_true rfl) (fun cx hA hg => t_Model_lowestOut_0 hg hA v0 μ)
theorem t_Model_turns_J63 {cx : HCx} (hg : HGood cx R_Model b_Model_turns 7 4 (some .int)) (hA : h_own cx)  (rec_ : Int32 → Int32 → Int32 → Int32 → Int32 → Int32 → HMem → Option (Int32 × HMem)) (hrec_ : p_Model_turns_28 cx rec_) (v1 : Int32) (v2 : Int32) (v3 : Int32) (v4 : Int32) (v6 : Int32) (s0 : Int32) (μ : HMem) : HX cx (HQ cx h_eI) (f_Model_turns_J63  rec_ v1 v2 v3 v4 v6 s0 μ) 0 0 63 [(0, .ref 125), (1, .int v1), (2, .int v2), (3, .int v3), (4, .int v4), (6, .int v6)] [.int s0] μ := by
  unfold f_Model_turns_J63
  refine r_istore (l' := [(5, .int s0), (0, .ref 125), (1, .int v1), (2, .int v2), (3, .int v3), (4, .int v4), (6, .int v6)]) hg d_Model_turns_63 (Nat.le_of_ble_eq_true rfl) rfl ?_
  refine r_letE (fun v6_65 he_65 => ?_)
  refine r_iinc (v := v6_65) (l' := [(6, .int v6_65), (5, .int s0), (0, .ref 125), (1, .int v1), (2, .int v2), (3, .int v3), (4, .int v4)]) hg 6 d_Model_turns_65 rfl he_65 (Nat.le_of_ble_eq_true rfl) rfl ?_
  refine r_goto (tgt := 28) hg d_Model_turns_68 (by decide) ?_
  refine r_sub [2, 3, 4, 5, 6, 1, 0] rfl ?_
  exact hrec_ v1 v2 v3 v4 s0 v6_65 μ
theorem t_Model_turns_J61 {cx : HCx} (hg : HGood cx R_Model b_Model_turns 7 4 (some .int)) (hA : h_own cx)  (rec_ : Int32 → Int32 → Int32 → Int32 → Int32 → Int32 → HMem → Option (Int32 × HMem)) (hrec_ : p_Model_turns_28 cx rec_) (v1 : Int32) (v2 : Int32) (v3 : Int32) (v4 : Int32) (v5 : Int32) (v6 : Int32) (μ : HMem) : HX cx (HQ cx h_eI) (f_Model_turns_J61  rec_ v1 v2 v3 v4 v5 v6 μ) 0 0 61 [(0, .ref 125), (1, .int v1), (2, .int v2), (3, .int v3), (4, .int v4), (5, .int v5), (6, .int v6)] [] μ := by
  unfold f_Model_turns_J61
  refine r_iload hg 5 d_Model_turns_61 rfl ?_
  refine r_sub [0, 1, 2, 3, 4, 6] rfl ?_
  exact t_Model_turns_J63 hg hA rec_ hrec_ v1 v2 v3 v4 v6 v5 μ
theorem t_Model_turns_L28_b {cx : HCx} (hg : HGood cx R_Model b_Model_turns 7 4 (some .int)) (hA : h_own cx) (K71 : Int32 → Int32 → Int32 → Int32 → Int32 → HMem → Option (Int32 × HMem)) (hK71 : p_Model_turns_71 cx K71) (rec_ : Int32 → Int32 → Int32 → Int32 → Int32 → Int32 → HMem → Option (Int32 × HMem)) (hrec_ : p_Model_turns_28 cx rec_) (v1 : Int32) (v2 : Int32) (v3 : Int32) (v4 : Int32) (v5 : Int32) (v6 : Int32) (μ : HMem) : HX cx (HQ cx h_eI) (f_Model_turns_L28_b K71 rec_ v1 v2 v3 v4 v5 v6 μ) 0 0 28 [(0, .ref 125), (1, .int v1), (2, .int v2), (3, .int v3), (4, .int v4), (5, .int v5), (6, .int v6)] [] μ := by
  unfold f_Model_turns_L28_b
  refine r_iload hg 6 d_Model_turns_28 rfl ?_
  refine r_if_lt (tgt := 71) hg d_Model_turns_30 (by decide) ?_ ?_
  · refine r_sub [0, 1, 2, 3, 4, 5] rfl ?_
    exact hK71 v1 v2 v3 v4 v5 μ
  · refine r_iload hg 4 d_Model_turns_33 rfl ?_
    refine r_iload hg 6 d_Model_turns_35 rfl ?_
    refine r_ishr hg d_Model_turns_37 ?_
    refine r_iconst (v := 1) hg d_Model_turns_38 (by decide) ?_
    refine r_iand hg d_Model_turns_39 ?_
    refine r_if_ne (tgt := 61) hg d_Model_turns_40 (by decide) ?_ ?_
    · exact t_Model_turns_J61 hg hA rec_ hrec_ v1 v2 v3 v4 v5 v6 μ
    · refine r_aload_n hg 0 d_Model_turns_43 rfl rfl ?_
      refine r_iload_n hg 1 d_Model_turns_44 rfl rfl ?_
      refine r_iload hg 6 d_Model_turns_45 rfl ?_
      refine r_callV (As := [.int v1, .int v6]) hg (t_Model_near v1 v6 μ) v_Model_near c_Model rfl (by decide) rfl wm_Model_161 d_Model_turns_47 rfl ⟨by decide, by decide⟩ (Nat.le_of_ble_eq_true rfl) rfl (fun r47 μ_47 _ => ?_)
      refine r_iload hg 4 d_Model_turns_50 rfl ?_
      refine r_iand hg d_Model_turns_52 ?_
      refine r_if_eq (tgt := 61) hg d_Model_turns_53 (by decide) ?_ ?_
      · exact t_Model_turns_J61 hg hA rec_ hrec_ v1 v2 v3 v4 v5 v6 μ_47
      · refine r_iload hg 6 d_Model_turns_56 rfl ?_
        refine r_goto (tgt := 63) hg d_Model_turns_58 (by decide) ?_
        refine r_sub [0, 1, 2, 3, 4, 6] rfl ?_
        exact t_Model_turns_J63 hg hA rec_ hrec_ v1 v2 v3 v4 v6 v6 μ_47
theorem t_Model_turns_L28 {cx : HCx} (hg : HGood cx R_Model b_Model_turns 7 4 (some .int)) (hA : h_own cx) (K71 : Int32 → Int32 → Int32 → Int32 → Int32 → HMem → Option (Int32 × HMem)) (hK71 : p_Model_turns_71 cx K71) : ∀ (fuel : Nat) (v1 : Int32) (v2 : Int32) (v3 : Int32) (v4 : Int32) (v5 : Int32) (v6 : Int32) (μ : HMem), HX cx (HQ cx h_eI) (f_Model_turns_L28 K71 fuel v1 v2 v3 v4 v5 v6 μ) 0 0 28 [(0, .ref 125), (1, .int v1), (2, .int v2), (3, .int v3), (4, .int v4), (5, .int v5), (6, .int v6)] [] μ
  | 0, _, _, _, _, _, _, _ => by unfold f_Model_turns_L28; exact HX.none
  | fuel + 1, v1, v2, v3, v4, v5, v6, μ => by
    rw [f_Model_turns_L28]
    exact t_Model_turns_L28_b hg hA  K71 hK71 (f_Model_turns_L28 K71 fuel) (t_Model_turns_L28 hg hA  K71 hK71 fuel) v1 v2 v3 v4 v5 v6 μ
theorem t_Model_turns_J94 {cx : HCx} (hg : HGood cx R_Model b_Model_turns 7 4 (some .int)) (hA : h_own cx)  (rec_ : Int32 → Int32 → Int32 → Int32 → HMem → Option (Int32 × HMem)) (hrec_ : p_Model_turns_7 cx rec_) (v1 : Int32) (v2 : Int32) (v3 : Int32) (v4 : Int32) (v5 : Int32) (μ : HMem) : HX cx (HQ cx h_eI) (f_Model_turns_J94  rec_ v1 v2 v3 v4 v5 μ) 0 0 94 [(0, .ref 125), (1, .int v1), (2, .int v2), (3, .int v3), (4, .int v4), (5, .int v5)] [] μ := by
  unfold f_Model_turns_J94
  refine r_aload_n hg 0 d_Model_turns_94 rfl rfl ?_
  refine r_get (v := .ref 134) hg c_Model (by decide) rfl (Nat.le_of_ble_eq_true rfl) rfl wf_Model_34 d_Model_turns_95 rfl ?_
  refine r_iload_n hg 2 d_Model_turns_98 rfl rfl ?_
  refine r_iload hg 5 d_Model_turns_99 rfl ?_
  refine r_iast hg (by decide) rfl d_Model_turns_101 ?_
  refine r_letM (fun μ_101 => ?_)
  refine r_iload hg 4 d_Model_turns_102 rfl ?_
  refine r_iconst (v := 1) hg d_Model_turns_104 (by decide) ?_
  refine r_iload hg 5 d_Model_turns_105 rfl ?_
  refine r_ishl hg d_Model_turns_107 ?_
  refine r_ior hg d_Model_turns_108 ?_
  refine r_letI (fun v4_109 => ?_)
  refine r_istore (l' := [(4, .int v4_109), (0, .ref 125), (1, .int v1), (2, .int v2), (3, .int v3), (5, .int v5)]) hg d_Model_turns_109 (Nat.le_of_ble_eq_true rfl) rfl ?_
  refine r_letE (fun v2_111 he_111 => ?_)
  refine r_iinc (v := v2_111) (l' := [(2, .int v2_111), (4, .int v4_109), (0, .ref 125), (1, .int v1), (3, .int v3), (5, .int v5)]) hg 3 d_Model_turns_111 rfl he_111 (Nat.le_of_ble_eq_true rfl) rfl ?_
  refine r_goto (tgt := 7) hg d_Model_turns_114 (by decide) ?_
  refine r_sub [2, 3, 0, 4, 1] rfl ?_
  exact hrec_ v1 v2_111 v3 v4_109 μ_101
theorem t_Model_turns_J71 {cx : HCx} (hg : HGood cx R_Model b_Model_turns 7 4 (some .int)) (hA : h_own cx)  (rec_ : Int32 → Int32 → Int32 → Int32 → HMem → Option (Int32 × HMem)) (hrec_ : p_Model_turns_7 cx rec_) (v1 : Int32) (v2 : Int32) (v3 : Int32) (v4 : Int32) (v5 : Int32) (μ : HMem) : HX cx (HQ cx h_eI) (f_Model_turns_J71  rec_ v1 v2 v3 v4 v5 μ) 0 0 71 [(0, .ref 125), (1, .int v1), (2, .int v2), (3, .int v3), (4, .int v4), (5, .int v5)] [] μ := by
  unfold f_Model_turns_J71
  refine r_iload hg 5 d_Model_turns_71 rfl ?_
  refine r_iconst (v := -1) hg d_Model_turns_73 (by decide) ?_
  refine r_icmp_ne (tgt := 94) hg d_Model_turns_74 (by decide) ?_ ?_
  · exact t_Model_turns_J94 hg hA rec_ hrec_ v1 v2 v3 v4 v5 μ
  · refine r_iload hg 4 d_Model_turns_77 rfl ?_
    refine r_callS (As := [.int v4]) hg (t_Model_lowestOut v4 μ) v_Model_lowestOut wm_Model_205 d_Model_turns_79 rfl ⟨by decide, by decide⟩ (Nat.le_of_ble_eq_true rfl) rfl (fun r79 μ_79 _ => ?_)
    refine r_istore (l' := [(5, .int r79), (0, .ref 125), (1, .int v1), (2, .int v2), (3, .int v3), (4, .int v4)]) hg d_Model_turns_82 (Nat.le_of_ble_eq_true rfl) rfl ?_
    refine r_aload_n hg 1 d_Model_turns_84 rfl rfl ?_
    refine r_get (v := .ref 136) hg c_Model (by decide) rfl (Nat.le_of_ble_eq_true rfl) rfl wf_Model_40 d_Model_turns_85 rfl ?_
    refine r_iload_n hg 4 d_Model_turns_88 rfl rfl ?_
    refine r_iload_n hg 3 d_Model_turns_89 rfl rfl ?_
    refine r_iast hg (by decide) rfl d_Model_turns_90 ?_
    refine r_letM (fun μ_90 => ?_)
    refine r_letE (fun v3_91 he_91 => ?_)
    refine r_iinc (v := v3_91) (l' := [(3, .int v3_91), (5, .int r79), (0, .ref 125), (1, .int v1), (2, .int v2), (4, .int v4)]) hg 4 d_Model_turns_91 rfl he_91 (Nat.le_of_ble_eq_true rfl) rfl ?_
    refine r_sub [2, 3, 4, 0, 5, 1] rfl ?_
    exact t_Model_turns_J94 hg hA rec_ hrec_ v1 v2 v3_91 v4 r79 μ_90
theorem t_Model_turns_L7_b {cx : HCx} (hg : HGood cx R_Model b_Model_turns 7 4 (some .int)) (hA : h_own cx) (K117 : Int32 → Int32 → HMem → Option (Int32 × HMem)) (hK117 : p_Model_turns_117 cx K117) (rec_ : Int32 → Int32 → Int32 → Int32 → HMem → Option (Int32 × HMem)) (hrec_ : p_Model_turns_7 cx rec_) (v1 : Int32) (v2 : Int32) (v3 : Int32) (v4 : Int32) (μ : HMem) : HX cx (HQ cx h_eI) (f_Model_turns_L7_b K117 rec_ v1 v2 v3 v4 μ) 0 0 7 [(0, .ref 125), (1, .int v1), (2, .int v2), (3, .int v3), (4, .int v4)] [] μ := by
  unfold f_Model_turns_L7_b
  refine r_iload_n hg 2 d_Model_turns_7 rfl rfl ?_
  refine r_aload_n hg 0 d_Model_turns_8 rfl rfl ?_
  refine r_iload_n hg 1 d_Model_turns_9 rfl rfl ?_
  refine r_callV (As := [.int v1]) hg (t_Model_size v1 μ) v_Model_size c_Model rfl (by decide) rfl wm_Model_75 d_Model_turns_10 rfl ⟨by decide, by decide⟩ (Nat.le_of_ble_eq_true rfl) rfl (fun r10 μ_10 _ => ?_)
  refine r_icmp_ge (tgt := 117) hg d_Model_turns_13 (by decide) ?_ ?_
  · refine r_sub [0, 2, 3] rfl ?_
    exact hK117 v2 v3 μ_10
  · refine r_iconst (v := -1) hg d_Model_turns_16 (by decide) ?_
    refine r_istore (l' := [(5, .int (-1)), (0, .ref 125), (1, .int v1), (2, .int v2), (3, .int v3), (4, .int v4)]) hg d_Model_turns_17 (Nat.le_of_ble_eq_true rfl) rfl ?_
    refine r_aload_n hg 1 d_Model_turns_19 rfl rfl ?_
    refine r_iload_n hg 2 d_Model_turns_20 rfl rfl ?_
    refine r_callV (As := [.int v1]) hg (t_Model_size v1 μ_10) v_Model_size c_Model rfl (by decide) rfl wm_Model_75 d_Model_turns_21 rfl ⟨by decide, by decide⟩ (Nat.le_of_ble_eq_true rfl) rfl (fun r21 μ_21 _ => ?_)
    refine r_iconst (v := 1) hg d_Model_turns_24 (by decide) ?_
    refine r_isub hg d_Model_turns_25 ?_
    refine r_letI (fun v6_26 => ?_)
    refine r_istore (l' := [(6, .int v6_26), (5, .int (-1)), (0, .ref 125), (1, .int v1), (2, .int v2), (3, .int v3), (4, .int v4)]) hg d_Model_turns_26 (Nat.le_of_ble_eq_true rfl) rfl ?_
    refine r_sub [2, 3, 4, 5, 6, 1, 0] rfl ?_
    exact t_Model_turns_L28 hg hA (f_Model_turns_J71 rec_) (t_Model_turns_J71 hg hA rec_ hrec_) h_fuel v1 v2 v3 v4 (-1) v6_26 μ_21
theorem t_Model_turns_L7 {cx : HCx} (hg : HGood cx R_Model b_Model_turns 7 4 (some .int)) (hA : h_own cx) (K117 : Int32 → Int32 → HMem → Option (Int32 × HMem)) (hK117 : p_Model_turns_117 cx K117) : ∀ (fuel : Nat) (v1 : Int32) (v2 : Int32) (v3 : Int32) (v4 : Int32) (μ : HMem), HX cx (HQ cx h_eI) (f_Model_turns_L7 K117 fuel v1 v2 v3 v4 μ) 0 0 7 [(0, .ref 125), (1, .int v1), (2, .int v2), (3, .int v3), (4, .int v4)] [] μ
  | 0, _, _, _, _, _ => by unfold f_Model_turns_L7; exact HX.none
  | fuel + 1, v1, v2, v3, v4, μ => by
    rw [f_Model_turns_L7]
    exact t_Model_turns_L7_b hg hA  K117 hK117 (f_Model_turns_L7 K117 fuel) (t_Model_turns_L7 hg hA  K117 hK117 fuel) v1 v2 v3 v4 μ
theorem t_Model_turns_J117 {cx : HCx} (hg : HGood cx R_Model b_Model_turns 7 4 (some .int)) (hA : h_own cx)   (v2 : Int32) (v3 : Int32) (μ : HMem) : HX cx (HQ cx h_eI) (f_Model_turns_J117   v2 v3 μ) 0 0 117 [(0, .ref 125), (2, .int v2), (3, .int v3)] [] μ := by
  unfold f_Model_turns_J117
  refine r_aload_n hg 0 d_Model_turns_117 rfl rfl ?_
  refine r_get (v := .ref 136) hg c_Model (by decide) rfl (Nat.le_of_ble_eq_true rfl) rfl wf_Model_40 d_Model_turns_118 rfl ?_
  refine r_iload_n hg 2 d_Model_turns_121 rfl rfl ?_
  refine r_iload_n hg 1 d_Model_turns_122 rfl rfl ?_
  refine r_iast hg (by decide) rfl d_Model_turns_123 ?_
  refine r_letM (fun μ_123 => ?_)
  refine r_iload_n hg 2 d_Model_turns_124 rfl rfl ?_
  exact r_iret hg hA rfl d_Model_turns_125 rfl
theorem t_Model_turns_0 {cx : HCx} (hg : HGood cx R_Model b_Model_turns 7 4 (some .int)) (hA : h_own cx) (v1 : Int32) (μ : HMem) : HX cx (HQ cx h_eI) (f_Model_turns v1 μ) 0 0 0 [(0, .ref 125), (1, .int v1)] [] μ := by
  unfold f_Model_turns
  refine r_iconst (v := 0) hg d_Model_turns_0 (by decide) ?_
  refine r_istore_n (l' := [(2, .int 0), (0, .ref 125), (1, .int v1)]) hg d_Model_turns_1 rfl (Nat.le_of_ble_eq_true rfl) rfl ?_
  refine r_iconst (v := 0) hg d_Model_turns_2 (by decide) ?_
  refine r_istore_n (l' := [(3, .int 0), (2, .int 0), (0, .ref 125), (1, .int v1)]) hg d_Model_turns_3 rfl (Nat.le_of_ble_eq_true rfl) rfl ?_
  refine r_iconst (v := 0) hg d_Model_turns_4 (by decide) ?_
  refine r_istore (l' := [(4, .int 0), (3, .int 0), (2, .int 0), (0, .ref 125), (1, .int v1)]) hg d_Model_turns_5 (Nat.le_of_ble_eq_true rfl) rfl ?_
  refine r_sub [3, 4, 2, 1, 0] rfl ?_
  exact t_Model_turns_L7 hg hA f_Model_turns_J117 (t_Model_turns_J117 hg hA) h_fuel v1 0 0 0 μ
theorem t_Model_turns (v1 : Int32) (μ : HMem) : HSpec y_Model_turns b_Model_turns 7 (some .int) 4 h_eI [.ref 125, .int v1] μ (f_Model_turns v1 μ) :=
  HSpec.of (by decide +kernel) (v_Model_turns.1 _ (by simp)) (Nat.le_of_ble_eq_true rfl) (fun cx hA hg => t_Model_turns_0 hg hA v1 μ)
theorem t_Model_goes_J119 {cx : HCx} (hg : HGood cx R_Model b_Model_goes 9 3 (some .boolean)) (hA : h_own cx)  (rec_ : Int32 → Int32 → Int32 → Int32 → Int32 → Int32 → HMem → Option (Int32 × HMem)) (hrec_ : p_Model_goes_58 cx rec_) (v1 : Int32) (v2 : Int32) (v4 : Int32) (v6 : Int32) (v8 : Int32) (s0 : Int32) (μ : HMem) : HX cx (HQ cx h_eI) (f_Model_goes_J119  rec_ v1 v2 v4 v6 v8 s0 μ) 0 0 119 [(0, .ref 125), (1, .int v1), (2, .int v2), (4, .int v4), (6, .int v6), (8, .int v8)] [.int s0] μ := by
  unfold f_Model_goes_J119
  refine r_istore (l' := [(7, .int s0), (0, .ref 125), (1, .int v1), (2, .int v2), (4, .int v4), (6, .int v6), (8, .int v8)]) hg d_Model_goes_119 (Nat.le_of_ble_eq_true rfl) rfl ?_
  refine r_letE (fun v8_121 he_121 => ?_)
  refine r_iinc (v := v8_121) (l' := [(8, .int v8_121), (7, .int s0), (0, .ref 125), (1, .int v1), (2, .int v2), (4, .int v4), (6, .int v6)]) hg 6 d_Model_goes_121 rfl he_121 (Nat.le_of_ble_eq_true rfl) rfl ?_
  refine r_goto (tgt := 58) hg d_Model_goes_124 (by decide) ?_
  refine r_sub [2, 3, 4, 5, 6, 1, 0] rfl ?_
  exact hrec_ v1 v2 v4 v6 s0 v8_121 μ
theorem t_Model_goes_J114 {cx : HCx} (hg : HGood cx R_Model b_Model_goes 9 3 (some .boolean)) (hA : h_own cx)  (rec_ : Int32 → Int32 → Int32 → Int32 → Int32 → Int32 → HMem → Option (Int32 × HMem)) (hrec_ : p_Model_goes_58 cx rec_) (v1 : Int32) (v2 : Int32) (v4 : Int32) (v6 : Int32) (v8 : Int32) (μ : HMem) : HX cx (HQ cx h_eI) (f_Model_goes_J114  rec_ v1 v2 v4 v6 v8 μ) 0 0 114 [(0, .ref 125), (1, .int v1), (2, .int v2), (4, .int v4), (6, .int v6), (8, .int v8)] [] μ := by
  unfold f_Model_goes_J114
  refine r_iconst (v := 1) hg d_Model_goes_114 (by decide) ?_
  refine r_goto (tgt := 119) hg d_Model_goes_115 (by decide) ?_
  exact t_Model_goes_J119 hg hA rec_ hrec_ v1 v2 v4 v6 v8 1 μ
theorem t_Model_goes_L58_b {cx : HCx} (hg : HGood cx R_Model b_Model_goes 9 3 (some .boolean)) (hA : h_own cx) (K127 : Int32 → HMem → Option (Int32 × HMem)) (hK127 : p_Model_goes_127 cx K127) (rec_ : Int32 → Int32 → Int32 → Int32 → Int32 → Int32 → HMem → Option (Int32 × HMem)) (hrec_ : p_Model_goes_58 cx rec_) (v1 : Int32) (v2 : Int32) (v4 : Int32) (v6 : Int32) (v7 : Int32) (v8 : Int32) (μ : HMem) : HX cx (HQ cx h_eI) (f_Model_goes_L58_b K127 rec_ v1 v2 v4 v6 v7 v8 μ) 0 0 58 [(0, .ref 125), (1, .int v1), (2, .int v2), (4, .int v4), (6, .int v6), (7, .int v7), (8, .int v8)] [] μ := by
  unfold f_Model_goes_L58_b
  refine r_iload hg 6 d_Model_goes_58 rfl ?_
  refine r_iload hg 3 d_Model_goes_60 rfl ?_
  refine r_icmp_gt (tgt := 127) hg d_Model_goes_62 (by decide) ?_ ?_
  · refine r_sub [5] rfl ?_
    exact hK127 v7 μ
  · refine r_iload hg 5 d_Model_goes_65 rfl ?_
    refine r_if_eq (tgt := 127) hg d_Model_goes_67 (by decide) ?_ ?_
    · refine r_sub [5] rfl ?_
      exact hK127 v7 μ
    · refine r_aload_n hg 0 d_Model_goes_70 rfl rfl ?_
      refine r_iload_n hg 1 d_Model_goes_71 rfl rfl ?_
      refine r_iload hg 4 d_Model_goes_72 rfl ?_
      refine r_aload_n hg 0 d_Model_goes_74 rfl rfl ?_
      refine r_get (v := .ref 134) hg c_Model (by decide) rfl (Nat.le_of_ble_eq_true rfl) rfl wf_Model_34 d_Model_goes_75 rfl ?_
      refine r_iload hg 6 d_Model_goes_78 rfl ?_
      refine r_iald hg (by decide) rfl d_Model_goes_80 ?_
      refine r_callV (As := [.int v1, .int v6, .int (μ.1 134 (Int32.toNatClampNeg (v8)))]) hg (t_Model_isNear v1 v6 (μ.1 134 (Int32.toNatClampNeg (v8))) μ) v_Model_isNear c_Model rfl (by decide) rfl wm_Model_148 d_Model_goes_81 rfl ⟨by decide, by decide⟩ (Nat.le_of_ble_eq_true rfl) rfl (fun r81 μ_81 _ => ?_)
      refine r_if_eq (tgt := 114) hg d_Model_goes_84 (by decide) ?_ ?_
      · refine r_sub [0, 1, 2, 3, 4, 6] rfl ?_
        exact t_Model_goes_J114 hg hA rec_ hrec_ v1 v2 v4 v6 v8 μ_81
      · refine r_aload_n hg 0 d_Model_goes_87 rfl rfl ?_
        refine r_iload_n hg 2 d_Model_goes_88 rfl rfl ?_
        refine r_aload_n hg 0 d_Model_goes_89 rfl rfl ?_
        refine r_get (v := .ref 133) hg c_Model (by decide) rfl (Nat.le_of_ble_eq_true rfl) rfl wf_Model_31 d_Model_goes_90 rfl ?_
        refine r_iload hg 4 d_Model_goes_93 rfl ?_
        refine r_iald hg (by decide) rfl d_Model_goes_95 ?_
        refine r_aload_n hg 0 d_Model_goes_96 rfl rfl ?_
        refine r_get (v := .ref 133) hg c_Model (by decide) rfl (Nat.le_of_ble_eq_true rfl) rfl wf_Model_31 d_Model_goes_97 rfl ?_
        refine r_aload_n hg 0 d_Model_goes_100 rfl rfl ?_
        refine r_get (v := .ref 134) hg c_Model (by decide) rfl (Nat.le_of_ble_eq_true rfl) rfl wf_Model_34 d_Model_goes_101 rfl ?_
        refine r_iload hg 6 d_Model_goes_104 rfl ?_
        refine r_iald hg (by decide) rfl d_Model_goes_106 ?_
        refine r_iald hg (by decide) rfl d_Model_goes_107 ?_
        refine r_callV (As := [.int v2, .int (μ_81.1 133 (Int32.toNatClampNeg (v6))), .int (μ_81.1 133 (Int32.toNatClampNeg (μ_81.1 134 (Int32.toNatClampNeg (v8)))))]) hg (t_Model_isNear v2 (μ_81.1 133 (Int32.toNatClampNeg (v6))) (μ_81.1 133 (Int32.toNatClampNeg (μ_81.1 134 (Int32.toNatClampNeg (v8))))) μ_81) v_Model_isNear c_Model rfl (by decide) rfl wm_Model_148 d_Model_goes_108 rfl ⟨by decide, by decide⟩ (Nat.le_of_ble_eq_true rfl) rfl (fun r108 μ_108 _ => ?_)
        refine r_if_eq (tgt := 118) hg d_Model_goes_111 (by decide) ?_ ?_
        · refine r_iconst (v := 0) hg d_Model_goes_118 (by decide) ?_
          refine r_sub [0, 1, 2, 3, 4, 6] rfl ?_
          exact t_Model_goes_J119 hg hA rec_ hrec_ v1 v2 v4 v6 v8 0 μ_108
        · refine r_sub [0, 1, 2, 3, 4, 6] rfl ?_
          exact t_Model_goes_J114 hg hA rec_ hrec_ v1 v2 v4 v6 v8 μ_108
theorem t_Model_goes_L58 {cx : HCx} (hg : HGood cx R_Model b_Model_goes 9 3 (some .boolean)) (hA : h_own cx) (K127 : Int32 → HMem → Option (Int32 × HMem)) (hK127 : p_Model_goes_127 cx K127) : ∀ (fuel : Nat) (v1 : Int32) (v2 : Int32) (v4 : Int32) (v6 : Int32) (v7 : Int32) (v8 : Int32) (μ : HMem), HX cx (HQ cx h_eI) (f_Model_goes_L58 K127 fuel v1 v2 v4 v6 v7 v8 μ) 0 0 58 [(0, .ref 125), (1, .int v1), (2, .int v2), (4, .int v4), (6, .int v6), (7, .int v7), (8, .int v8)] [] μ
  | 0, _, _, _, _, _, _, _ => by unfold f_Model_goes_L58; exact HX.none
  | fuel + 1, v1, v2, v4, v6, v7, v8, μ => by
    rw [f_Model_goes_L58]
    exact t_Model_goes_L58_b hg hA  K127 hK127 (f_Model_goes_L58 K127 fuel) (t_Model_goes_L58 hg hA  K127 hK127 fuel) v1 v2 v4 v6 v7 v8 μ
theorem t_Model_goes_J127 {cx : HCx} (hg : HGood cx R_Model b_Model_goes 9 3 (some .boolean)) (hA : h_own cx)   (v7 : Int32) (μ : HMem) : HX cx (HQ cx h_eI) (f_Model_goes_J127   v7 μ) 0 0 127 [(7, .int v7)] [] μ := by
  unfold f_Model_goes_J127
  refine r_iload hg 0 d_Model_goes_127 rfl ?_
  exact r_zretB hg hA rfl d_Model_goes_129 rfl
theorem t_Model_goes_J53 {cx : HCx} (hg : HGood cx R_Model b_Model_goes 9 3 (some .boolean)) (hA : h_own cx)   (v1 : Int32) (v2 : Int32) (v3 : Int32) (v4 : Int32) (v6 : Int32) (s0 : Int32) (μ : HMem) : HX cx (HQ cx h_eI) (f_Model_goes_J53   v1 v2 v3 v4 v6 s0 μ) 0 0 53 [(0, .ref 125), (1, .int v1), (2, .int v2), (3, .int v3), (4, .int v4), (6, .int v6)] [.int s0] μ := by
  unfold f_Model_goes_J53
  refine r_istore (l' := [(7, .int s0), (0, .ref 125), (1, .int v1), (2, .int v2), (3, .int v3), (4, .int v4), (6, .int v6)]) hg d_Model_goes_53 (Nat.le_of_ble_eq_true rfl) rfl ?_
  refine r_iload_n hg 4 d_Model_goes_55 rfl rfl ?_
  refine r_istore (l' := [(8, .int v3), (7, .int s0), (0, .ref 125), (1, .int v1), (2, .int v2), (3, .int v3), (4, .int v4), (6, .int v6)]) hg d_Model_goes_56 (Nat.le_of_ble_eq_true rfl) rfl ?_
  refine r_sub [2, 3, 4, 6, 7, 1, 0] rfl ?_
  exact t_Model_goes_L58 hg hA f_Model_goes_J127 (t_Model_goes_J127 hg hA) h_fuel v1 v2 v4 v6 s0 v3 μ
theorem t_Model_goes_J52 {cx : HCx} (hg : HGood cx R_Model b_Model_goes 9 3 (some .boolean)) (hA : h_own cx)   (v1 : Int32) (v2 : Int32) (v3 : Int32) (v4 : Int32) (v6 : Int32) (μ : HMem) : HX cx (HQ cx h_eI) (f_Model_goes_J52   v1 v2 v3 v4 v6 μ) 0 0 52 [(0, .ref 125), (1, .int v1), (2, .int v2), (3, .int v3), (4, .int v4), (6, .int v6)] [] μ := by
  unfold f_Model_goes_J52
  refine r_iconst (v := 0) hg d_Model_goes_52 (by decide) ?_
  exact t_Model_goes_J53 hg hA v1 v2 v3 v4 v6 0 μ
theorem t_Model_goes_J48 {cx : HCx} (hg : HGood cx R_Model b_Model_goes 9 3 (some .boolean)) (hA : h_own cx)   (v1 : Int32) (v2 : Int32) (v3 : Int32) (v4 : Int32) (v6 : Int32) (μ : HMem) : HX cx (HQ cx h_eI) (f_Model_goes_J48   v1 v2 v3 v4 v6 μ) 0 0 48 [(0, .ref 125), (1, .int v1), (2, .int v2), (3, .int v3), (4, .int v4), (6, .int v6)] [] μ := by
  unfold f_Model_goes_J48
  refine r_iconst (v := 1) hg d_Model_goes_48 (by decide) ?_
  refine r_goto (tgt := 53) hg d_Model_goes_49 (by decide) ?_
  exact t_Model_goes_J53 hg hA v1 v2 v3 v4 v6 1 μ
theorem t_Model_goes_0 {cx : HCx} (hg : HGood cx R_Model b_Model_goes 9 3 (some .boolean)) (hA : h_own cx) (v1 : Int32) (v2 : Int32) (v3 : Int32) (v4 : Int32) (v5 : Int32) (μ : HMem) : HX cx (HQ cx h_eI) (f_Model_goes v1 v2 v3 v4 v5 μ) 0 0 0 [(0, .ref 125), (1, .int v1), (2, .int v2), (3, .int v3), (4, .int v4), (5, .int v5)] [] μ := by
  unfold f_Model_goes
  refine r_aload_n hg 0 d_Model_goes_0 rfl rfl ?_
  refine r_get (v := .ref 134) hg c_Model (by decide) rfl (Nat.le_of_ble_eq_true rfl) rfl wf_Model_34 d_Model_goes_1 rfl ?_
  refine r_iload hg 4 d_Model_goes_4 rfl ?_
  refine r_iald hg (by decide) rfl d_Model_goes_6 ?_
  refine r_letI (fun v6_7 => ?_)
  refine r_istore (l' := [(6, .int v6_7), (0, .ref 125), (1, .int v1), (2, .int v2), (3, .int v3), (4, .int v4), (5, .int v5)]) hg d_Model_goes_7 (Nat.le_of_ble_eq_true rfl) rfl ?_
  refine r_aload_n hg 1 d_Model_goes_9 rfl rfl ?_
  refine r_get (v := .ref 133) hg c_Model (by decide) rfl (Nat.le_of_ble_eq_true rfl) rfl wf_Model_31 d_Model_goes_10 rfl ?_
  refine r_iload hg 0 d_Model_goes_13 rfl ?_
  refine r_iald hg (by decide) rfl d_Model_goes_15 ?_
  refine r_iload hg 6 d_Model_goes_16 rfl ?_
  refine r_icmp_eq (tgt := 52) hg d_Model_goes_18 (by decide) ?_ ?_
  · refine r_sub [1, 2, 3, 4, 5, 0] rfl ?_
    exact t_Model_goes_J52 hg hA v1 v2 v3 v4 v6_7 μ
  · refine r_aload_n hg 1 d_Model_goes_21 rfl rfl ?_
    refine r_get (v := .ref 135) hg c_Model (by decide) rfl (Nat.le_of_ble_eq_true rfl) rfl wf_Model_37 d_Model_goes_22 rfl ?_
    refine r_iload hg 0 d_Model_goes_25 rfl ?_
    refine r_iald hg (by decide) rfl d_Model_goes_27 ?_
    refine r_if_lt (tgt := 48) hg d_Model_goes_28 (by decide) ?_ ?_
    · refine r_sub [1, 2, 3, 4, 5, 0] rfl ?_
      exact t_Model_goes_J48 hg hA v1 v2 v3 v4 v6_7 μ
    · refine r_aload_n hg 1 d_Model_goes_31 rfl rfl ?_
      refine r_get (v := .ref 135) hg c_Model (by decide) rfl (Nat.le_of_ble_eq_true rfl) rfl wf_Model_37 d_Model_goes_32 rfl ?_
      refine r_iload hg 0 d_Model_goes_35 rfl ?_
      refine r_iald hg (by decide) rfl d_Model_goes_37 ?_
      refine r_aload_n hg 1 d_Model_goes_38 rfl rfl ?_
      refine r_get (v := .ref 133) hg c_Model (by decide) rfl (Nat.le_of_ble_eq_true rfl) rfl wf_Model_31 d_Model_goes_39 rfl ?_
      refine r_iload hg 0 d_Model_goes_42 rfl ?_
      refine r_iald hg (by decide) rfl d_Model_goes_44 ?_
      refine r_icmp_ne (tgt := 52) hg d_Model_goes_45 (by decide) ?_ ?_
      · refine r_sub [1, 2, 3, 4, 5, 0] rfl ?_
        exact t_Model_goes_J52 hg hA v1 v2 v3 v4 v6_7 μ
      · refine r_sub [1, 2, 3, 4, 5, 0] rfl ?_
        exact t_Model_goes_J48 hg hA v1 v2 v3 v4 v6_7 μ
theorem t_Model_goes (v1 : Int32) (v2 : Int32) (v3 : Int32) (v4 : Int32) (v5 : Int32) (μ : HMem) : HSpec y_Model_goes b_Model_goes 9 (some .boolean) 3 h_eI [.ref 125, .int v1, .int v2, .int v3, .int v4, .int v5] μ (f_Model_goes v1 v2 v3 v4 v5 μ) :=
  HSpec.of (by decide +kernel) (v_Model_goes.1 _ (by simp)) (Nat.le_of_ble_eq_true rfl) (fun cx hA hg => t_Model_goes_0 hg hA v1 v2 v3 v4 v5 μ)
theorem t_Model_isPart_L48_b {cx : HCx} (hg : HGood cx R_Model b_Model_isPart 8 4 (some .boolean)) (hA : h_own cx) (K91 : Int32 → Int32 → Int32 → Int32 → Int32 → Int32 → Int32 → HMem → Option (Int32 × HMem)) (hK91 : p_Model_isPart_91 cx K91) (rec_ : Int32 → Int32 → Int32 → Int32 → Int32 → Int32 → Int32 → HMem → Option (Int32 × HMem)) (hrec_ : p_Model_isPart_48 cx rec_) (v1 : Int32) (v2 : Int32) (v3 : Int32) (v4 : Int32) (v5 : Int32) (v6 : Int32) (v7 : Int32) (μ : HMem) : HX cx (HQ cx h_eI) (f_Model_isPart_L48_b K91 rec_ v1 v2 v3 v4 v5 v6 v7 μ) 0 0 48 [(0, .ref 125), (1, .int v1), (2, .int v2), (3, .int v3), (4, .int v4), (5, .int v5), (6, .int v6), (7, .int v7)] [] μ := by
  unfold f_Model_isPart_L48_b
  refine r_aload_n hg 0 d_Model_isPart_48 rfl rfl ?_
  refine r_get (v := .ref 133) hg c_Model (by decide) rfl (Nat.le_of_ble_eq_true rfl) rfl wf_Model_31 d_Model_isPart_49 rfl ?_
  refine r_iload hg 7 d_Model_isPart_52 rfl ?_
  refine r_iald hg (by decide) rfl d_Model_isPart_54 ?_
  refine r_aload_n hg 0 d_Model_isPart_55 rfl rfl ?_
  refine r_iload_n hg 2 d_Model_isPart_56 rfl rfl ?_
  refine r_callV (As := [.int v2]) hg (t_Model_size v2 μ) v_Model_size c_Model rfl (by decide) rfl wm_Model_75 d_Model_isPart_57 rfl ⟨by decide, by decide⟩ (Nat.le_of_ble_eq_true rfl) rfl (fun r57 μ_57 _ => ?_)
  refine r_icmp_ge (tgt := 91) hg d_Model_isPart_60 (by decide) ?_ ?_
  · exact hK91 v1 v2 v3 v4 v5 v6 v7 μ_57
  · refine r_aload_n hg 0 d_Model_isPart_63 rfl rfl ?_
    refine r_iload_n hg 1 d_Model_isPart_64 rfl rfl ?_
    refine r_iload_n hg 2 d_Model_isPart_65 rfl rfl ?_
    refine r_iload_n hg 3 d_Model_isPart_66 rfl rfl ?_
    refine r_iload hg 6 d_Model_isPart_67 rfl ?_
    refine r_iload hg 5 d_Model_isPart_69 rfl ?_
    refine r_callV (As := [.int v1, .int v2, .int v3, .int v6, .int v5]) hg (t_Model_goes v1 v2 v3 v6 v5 μ_57) v_Model_goes c_Model rfl (by decide) rfl wm_Model_208 d_Model_isPart_71 rfl ⟨by decide, by decide⟩ (Nat.le_of_ble_eq_true rfl) rfl (fun r71 μ_71 _ => ?_)
    refine r_if_ne (tgt := 91) hg d_Model_isPart_74 (by decide) ?_ ?_
    · exact hK91 v1 v2 v3 v4 v5 v6 v7 μ_71
    · refine r_aload_n hg 0 d_Model_isPart_77 rfl rfl ?_
      refine r_get (v := .ref 133) hg c_Model (by decide) rfl (Nat.le_of_ble_eq_true rfl) rfl wf_Model_31 d_Model_isPart_78 rfl ?_
      refine r_iload hg 7 d_Model_isPart_81 rfl ?_
      refine r_dup2 hg d_Model_isPart_83 rfl rfl ?_
      refine r_iald hg (by decide) rfl d_Model_isPart_84 ?_
      refine r_iconst (v := 1) hg d_Model_isPart_85 (by decide) ?_
      refine r_iadd hg d_Model_isPart_86 ?_
      refine r_iast hg (by decide) rfl d_Model_isPart_87 ?_
      refine r_letM (fun μ_87 => ?_)
      refine r_goto (tgt := 48) hg d_Model_isPart_88 (by decide) ?_
      exact hrec_ v1 v2 v3 v4 v5 v6 v7 μ_87
theorem t_Model_isPart_L48 {cx : HCx} (hg : HGood cx R_Model b_Model_isPart 8 4 (some .boolean)) (hA : h_own cx) (K91 : Int32 → Int32 → Int32 → Int32 → Int32 → Int32 → Int32 → HMem → Option (Int32 × HMem)) (hK91 : p_Model_isPart_91 cx K91) : ∀ (fuel : Nat) (v1 : Int32) (v2 : Int32) (v3 : Int32) (v4 : Int32) (v5 : Int32) (v6 : Int32) (v7 : Int32) (μ : HMem), HX cx (HQ cx h_eI) (f_Model_isPart_L48 K91 fuel v1 v2 v3 v4 v5 v6 v7 μ) 0 0 48 [(0, .ref 125), (1, .int v1), (2, .int v2), (3, .int v3), (4, .int v4), (5, .int v5), (6, .int v6), (7, .int v7)] [] μ
  | 0, _, _, _, _, _, _, _, _ => by unfold f_Model_isPart_L48; exact HX.none
  | fuel + 1, v1, v2, v3, v4, v5, v6, v7, μ => by
    rw [f_Model_isPart_L48]
    exact t_Model_isPart_L48_b hg hA  K91 hK91 (f_Model_isPart_L48 K91 fuel) (t_Model_isPart_L48 hg hA  K91 hK91 fuel) v1 v2 v3 v4 v5 v6 v7 μ
theorem t_Model_isPart_J135 {cx : HCx} (hg : HGood cx R_Model b_Model_isPart 8 4 (some .boolean)) (hA : h_own cx)  (rec_ : Int32 → Int32 → Int32 → Int32 → Int32 → Int32 → HMem → Option (Int32 × HMem)) (hrec_ : p_Model_isPart_15 cx rec_) (v1 : Int32) (v2 : Int32) (v3 : Int32) (v4 : Int32) (v5 : Int32) (v6 : Int32) (μ : HMem) : HX cx (HQ cx h_eI) (f_Model_isPart_J135  rec_ v1 v2 v3 v4 v5 v6 μ) 0 0 135 [(0, .ref 125), (1, .int v1), (2, .int v2), (3, .int v3), (4, .int v4), (5, .int v5), (6, .int v6)] [] μ := by
  unfold f_Model_isPart_J135
  refine r_goto (tgt := 15) hg d_Model_isPart_135 (by decide) ?_
  exact hrec_ v1 v2 v3 v4 v5 v6 μ
theorem t_Model_isPart_J91 {cx : HCx} (hg : HGood cx R_Model b_Model_isPart 8 4 (some .boolean)) (hA : h_own cx)  (rec_ : Int32 → Int32 → Int32 → Int32 → Int32 → Int32 → HMem → Option (Int32 × HMem)) (hrec_ : p_Model_isPart_15 cx rec_) (v1 : Int32) (v2 : Int32) (v3 : Int32) (v4 : Int32) (v5 : Int32) (v6 : Int32) (v7 : Int32) (μ : HMem) : HX cx (HQ cx h_eI) (f_Model_isPart_J91  rec_ v1 v2 v3 v4 v5 v6 v7 μ) 0 0 91 [(0, .ref 125), (1, .int v1), (2, .int v2), (3, .int v3), (4, .int v4), (5, .int v5), (6, .int v6), (7, .int v7)] [] μ := by
  unfold f_Model_isPart_J91
  refine r_aload_n hg 0 d_Model_isPart_91 rfl rfl ?_
  refine r_get (v := .ref 133) hg c_Model (by decide) rfl (Nat.le_of_ble_eq_true rfl) rfl wf_Model_31 d_Model_isPart_92 rfl ?_
  refine r_iload hg 7 d_Model_isPart_95 rfl ?_
  refine r_iald hg (by decide) rfl d_Model_isPart_97 ?_
  refine r_aload_n hg 0 d_Model_isPart_98 rfl rfl ?_
  refine r_iload_n hg 2 d_Model_isPart_99 rfl rfl ?_
  refine r_callV (As := [.int v2]) hg (t_Model_size v2 μ) v_Model_size c_Model rfl (by decide) rfl wm_Model_75 d_Model_isPart_100 rfl ⟨by decide, by decide⟩ (Nat.le_of_ble_eq_true rfl) rfl (fun r100 μ_100 _ => ?_)
  refine r_icmp_ge (tgt := 132) hg d_Model_isPart_103 (by decide) ?_ ?_
  · refine r_letE (fun v6_132 he_132 => ?_)
    refine r_iinc (v := v6_132) (l' := [(6, .int v6_132), (0, .ref 125), (1, .int v1), (2, .int v2), (3, .int v3), (4, .int v4), (5, .int v5), (7, .int v7)]) hg 6 d_Model_isPart_132 rfl he_132 (Nat.le_of_ble_eq_true rfl) rfl ?_
    refine r_sub [1, 2, 3, 4, 5, 6, 0] rfl ?_
    exact t_Model_isPart_J135 hg hA rec_ hrec_ v1 v2 v3 v4 v5 v6_132 μ_100
  · refine r_letE (fun v6_106 he_106 => ?_)
    refine r_iinc (v := v6_106) (l' := [(6, .int v6_106), (0, .ref 125), (1, .int v1), (2, .int v2), (3, .int v3), (4, .int v4), (5, .int v5), (7, .int v7)]) hg 6 d_Model_isPart_106 rfl he_106 (Nat.le_of_ble_eq_true rfl) rfl ?_
    refine r_iload hg 0 d_Model_isPart_109 rfl ?_
    refine r_iload hg 5 d_Model_isPart_111 rfl ?_
    refine r_icmp_ge (tgt := 135) hg d_Model_isPart_113 (by decide) ?_ ?_
    · refine r_sub [1, 2, 3, 4, 5, 6, 0] rfl ?_
      exact t_Model_isPart_J135 hg hA rec_ hrec_ v1 v2 v3 v4 v5 v6_106 μ_100
    · refine r_aload_n hg 1 d_Model_isPart_116 rfl rfl ?_
      refine r_get (v := .ref 133) hg c_Model (by decide) rfl (Nat.le_of_ble_eq_true rfl) rfl wf_Model_31 d_Model_isPart_117 rfl ?_
      refine r_aload_n hg 1 d_Model_isPart_120 rfl rfl ?_
      refine r_get (v := .ref 134) hg c_Model (by decide) rfl (Nat.le_of_ble_eq_true rfl) rfl wf_Model_34 d_Model_isPart_121 rfl ?_
      refine r_iload hg 0 d_Model_isPart_124 rfl ?_
      refine r_iald hg (by decide) rfl d_Model_isPart_126 ?_
      refine r_iconst (v := -1) hg d_Model_isPart_127 (by decide) ?_
      refine r_iast hg (by decide) rfl d_Model_isPart_128 ?_
      refine r_letM (fun μ_128 => ?_)
      refine r_goto (tgt := 135) hg d_Model_isPart_129 (by decide) ?_
      refine r_sub [1, 2, 3, 4, 5, 6, 0] rfl ?_
      exact t_Model_isPart_J135 hg hA rec_ hrec_ v1 v2 v3 v4 v5 v6_106 μ_128
theorem t_Model_isPart_L15_b {cx : HCx} (hg : HGood cx R_Model b_Model_isPart 8 4 (some .boolean)) (hA : h_own cx) (K138 : Int32 → Int32 → HMem → Option (Int32 × HMem)) (hK138 : p_Model_isPart_138 cx K138) (rec_ : Int32 → Int32 → Int32 → Int32 → Int32 → Int32 → HMem → Option (Int32 × HMem)) (hrec_ : p_Model_isPart_15 cx rec_) (v1 : Int32) (v2 : Int32) (v3 : Int32) (v4 : Int32) (v5 : Int32) (v6 : Int32) (μ : HMem) : HX cx (HQ cx h_eI) (f_Model_isPart_L15_b K138 rec_ v1 v2 v3 v4 v5 v6 μ) 0 0 15 [(0, .ref 125), (1, .int v1), (2, .int v2), (3, .int v3), (4, .int v4), (5, .int v5), (6, .int v6)] [] μ := by
  unfold f_Model_isPart_L15_b
  refine r_iload hg 6 d_Model_isPart_15 rfl ?_
  refine r_iload_n hg 3 d_Model_isPart_17 rfl rfl ?_
  refine r_icmp_lt (tgt := 138) hg d_Model_isPart_18 (by decide) ?_ ?_
  · refine r_sub [4, 6] rfl ?_
    exact hK138 v4 v6 μ
  · refine r_iload hg 6 d_Model_isPart_21 rfl ?_
    refine r_iload hg 4 d_Model_isPart_23 rfl ?_
    refine r_icmp_ge (tgt := 138) hg d_Model_isPart_25 (by decide) ?_ ?_
    · refine r_sub [4, 6] rfl ?_
      exact hK138 v4 v6 μ
    · refine r_aload_n hg 0 d_Model_isPart_28 rfl rfl ?_
      refine r_get (v := .ref 134) hg c_Model (by decide) rfl (Nat.le_of_ble_eq_true rfl) rfl wf_Model_34 d_Model_isPart_29 rfl ?_
      refine r_iload hg 6 d_Model_isPart_32 rfl ?_
      refine r_iald hg (by decide) rfl d_Model_isPart_34 ?_
      refine r_letI (fun v7_35 => ?_)
      refine r_istore (l' := [(7, .int v7_35), (0, .ref 125), (1, .int v1), (2, .int v2), (3, .int v3), (4, .int v4), (5, .int v5), (6, .int v6)]) hg d_Model_isPart_35 (Nat.le_of_ble_eq_true rfl) rfl ?_
      refine r_aload_n hg 1 d_Model_isPart_37 rfl rfl ?_
      refine r_get (v := .ref 133) hg c_Model (by decide) rfl (Nat.le_of_ble_eq_true rfl) rfl wf_Model_31 d_Model_isPart_38 rfl ?_
      refine r_iload hg 0 d_Model_isPart_41 rfl ?_
      refine r_dup2 hg d_Model_isPart_43 rfl rfl ?_
      refine r_iald hg (by decide) rfl d_Model_isPart_44 ?_
      refine r_iconst (v := 1) hg d_Model_isPart_45 (by decide) ?_
      refine r_iadd hg d_Model_isPart_46 ?_
      refine r_iast hg (by decide) rfl d_Model_isPart_47 ?_
      refine r_letM (fun μ_47 => ?_)
      refine r_sub [1, 2, 3, 4, 5, 6, 7, 0] rfl ?_
      exact t_Model_isPart_L48 hg hA (f_Model_isPart_J91 rec_) (t_Model_isPart_J91 hg hA rec_ hrec_) h_fuel v1 v2 v3 v4 v5 v6 v7_35 μ_47
theorem t_Model_isPart_L15 {cx : HCx} (hg : HGood cx R_Model b_Model_isPart 8 4 (some .boolean)) (hA : h_own cx) (K138 : Int32 → Int32 → HMem → Option (Int32 × HMem)) (hK138 : p_Model_isPart_138 cx K138) : ∀ (fuel : Nat) (v1 : Int32) (v2 : Int32) (v3 : Int32) (v4 : Int32) (v5 : Int32) (v6 : Int32) (μ : HMem), HX cx (HQ cx h_eI) (f_Model_isPart_L15 K138 fuel v1 v2 v3 v4 v5 v6 μ) 0 0 15 [(0, .ref 125), (1, .int v1), (2, .int v2), (3, .int v3), (4, .int v4), (5, .int v5), (6, .int v6)] [] μ
  | 0, _, _, _, _, _, _, _ => by unfold f_Model_isPart_L15; exact HX.none
  | fuel + 1, v1, v2, v3, v4, v5, v6, μ => by
    rw [f_Model_isPart_L15]
    exact t_Model_isPart_L15_b hg hA  K138 hK138 (f_Model_isPart_L15 K138 fuel) (t_Model_isPart_L15 hg hA  K138 hK138 fuel) v1 v2 v3 v4 v5 v6 μ
theorem t_Model_isPart_J150 {cx : HCx} (hg : HGood cx R_Model b_Model_isPart 8 4 (some .boolean)) (hA : h_own cx)   (s0 : Int32) (μ : HMem) : HX cx (HQ cx h_eI) (f_Model_isPart_J150   s0 μ) 0 0 150 [] [.int s0] μ := by
  unfold f_Model_isPart_J150
  exact r_zretB hg hA rfl d_Model_isPart_150 rfl
theorem t_Model_isPart_J138 {cx : HCx} (hg : HGood cx R_Model b_Model_isPart 8 4 (some .boolean)) (hA : h_own cx)   (v4 : Int32) (v6 : Int32) (μ : HMem) : HX cx (HQ cx h_eI) (f_Model_isPart_J138   v4 v6 μ) 0 0 138 [(4, .int v4), (6, .int v6)] [] μ := by
  unfold f_Model_isPart_J138
  refine r_iload hg 1 d_Model_isPart_138 rfl ?_
  refine r_iload hg 0 d_Model_isPart_140 rfl ?_
  refine r_icmp_ne (tgt := 149) hg d_Model_isPart_142 (by decide) ?_ ?_
  · refine r_iconst (v := 0) hg d_Model_isPart_149 (by decide) ?_
    refine r_sub [] rfl ?_
    exact t_Model_isPart_J150 hg hA 0 μ
  · refine r_iconst (v := 1) hg d_Model_isPart_145 (by decide) ?_
    refine r_goto (tgt := 150) hg d_Model_isPart_146 (by decide) ?_
    refine r_sub [] rfl ?_
    exact t_Model_isPart_J150 hg hA 1 μ
theorem t_Model_isPart_0 {cx : HCx} (hg : HGood cx R_Model b_Model_isPart 8 4 (some .boolean)) (hA : h_own cx) (v1 : Int32) (v2 : Int32) (v3 : Int32) (v4 : Int32) (v5 : Int32) (μ : HMem) : HX cx (HQ cx h_eI) (f_Model_isPart v1 v2 v3 v4 v5 μ) 0 0 0 [(0, .ref 125), (1, .int v1), (2, .int v2), (3, .int v3), (4, .int v4), (5, .int v5)] [] μ := by
  unfold f_Model_isPart
  refine r_iload_n hg 3 d_Model_isPart_0 rfl rfl ?_
  refine r_istore (l' := [(6, .int v3), (0, .ref 125), (1, .int v1), (2, .int v2), (3, .int v3), (4, .int v4), (5, .int v5)]) hg d_Model_isPart_1 (Nat.le_of_ble_eq_true rfl) rfl ?_
  refine r_aload_n hg 1 d_Model_isPart_3 rfl rfl ?_
  refine r_get (v := .ref 133) hg c_Model (by decide) rfl (Nat.le_of_ble_eq_true rfl) rfl wf_Model_31 d_Model_isPart_4 rfl ?_
  refine r_aload_n hg 1 d_Model_isPart_7 rfl rfl ?_
  refine r_get (v := .ref 134) hg c_Model (by decide) rfl (Nat.le_of_ble_eq_true rfl) rfl wf_Model_34 d_Model_isPart_8 rfl ?_
  refine r_iload_n hg 4 d_Model_isPart_11 rfl rfl ?_
  refine r_iald hg (by decide) rfl d_Model_isPart_12 ?_
  refine r_iconst (v := -1) hg d_Model_isPart_13 (by decide) ?_
  refine r_iast hg (by decide) rfl d_Model_isPart_14 ?_
  refine r_letM (fun μ_14 => ?_)
  refine r_sub [1, 2, 3, 4, 5, 6, 0] rfl ?_
  exact t_Model_isPart_L15 hg hA f_Model_isPart_J138 (t_Model_isPart_J138 hg hA) h_fuel v1 v2 v3 v4 v5 v3 μ_14
theorem t_Model_isPart (v1 : Int32) (v2 : Int32) (v3 : Int32) (v4 : Int32) (v5 : Int32) (μ : HMem) : HSpec y_Model_isPart b_Model_isPart 8 (some .boolean) 4 h_eI [.ref 125, .int v1, .int v2, .int v3, .int v4, .int v5] μ (f_Model_isPart v1 v2 v3 v4 v5 μ) :=
  HSpec.of (by decide +kernel) (v_Model_isPart.1 _ (by simp)) (Nat.le_of_ble_eq_true rfl) (fun cx hA hg => t_Model_isPart_0 hg hA v1 v2 v3 v4 v5 μ)
theorem t_Model_isThere_L13_b {cx : HCx} (hg : HGood cx R_Model b_Model_isThere 7 5 (some .boolean)) (hA : h_own cx) (K56 : Int32 → HMem → Option (Int32 × HMem)) (hK56 : p_Model_isThere_56 cx K56) (rec_ : Int32 → Int32 → Int32 → Int32 → Int32 → Int32 → HMem → Option (Int32 × HMem)) (hrec_ : p_Model_isThere_13 cx rec_) (v1 : Int32) (v2 : Int32) (v3 : Int32) (v4 : Int32) (v5 : Int32) (v6 : Int32) (μ : HMem) : HX cx (HQ cx h_eI) (f_Model_isThere_L13_b K56 rec_ v1 v2 v3 v4 v5 v6 μ) 0 0 13 [(0, .ref 125), (1, .int v1), (2, .int v2), (3, .int v3), (4, .int v4), (5, .int v5), (6, .int v6)] [] μ := by
  unfold f_Model_isThere_L13_b
  refine r_iload hg 6 d_Model_isThere_13 rfl ?_
  refine r_iload hg 4 d_Model_isThere_15 rfl ?_
  refine r_icmp_ge (tgt := 56) hg d_Model_isThere_17 (by decide) ?_ ?_
  · refine r_sub [5] rfl ?_
    exact hK56 v5 μ
  · refine r_iload hg 5 d_Model_isThere_20 rfl ?_
    refine r_if_eq (tgt := 56) hg d_Model_isThere_22 (by decide) ?_ ?_
    · refine r_sub [5] rfl ?_
      exact hK56 v5 μ
    · refine r_aload_n hg 0 d_Model_isThere_25 rfl rfl ?_
      refine r_iload_n hg 1 d_Model_isThere_26 rfl rfl ?_
      refine r_iload_n hg 2 d_Model_isThere_27 rfl rfl ?_
      refine r_aload_n hg 0 d_Model_isThere_28 rfl rfl ?_
      refine r_get (v := .ref 136) hg c_Model (by decide) rfl (Nat.le_of_ble_eq_true rfl) rfl wf_Model_40 d_Model_isThere_29 rfl ?_
      refine r_iload hg 6 d_Model_isThere_32 rfl ?_
      refine r_iald hg (by decide) rfl d_Model_isThere_34 ?_
      refine r_aload_n hg 0 d_Model_isThere_35 rfl rfl ?_
      refine r_get (v := .ref 136) hg c_Model (by decide) rfl (Nat.le_of_ble_eq_true rfl) rfl wf_Model_40 d_Model_isThere_36 rfl ?_
      refine r_iload hg 6 d_Model_isThere_39 rfl ?_
      refine r_iconst (v := 1) hg d_Model_isThere_41 (by decide) ?_
      refine r_iadd hg d_Model_isThere_42 ?_
      refine r_iald hg (by decide) rfl d_Model_isThere_43 ?_
      refine r_iload_n hg 3 d_Model_isThere_44 rfl rfl ?_
      refine r_callV (As := [.int v1, .int v2, .int (μ.1 136 (Int32.toNatClampNeg (v6))), .int (μ.1 136 (Int32.toNatClampNeg (v6 + 1))), .int v3]) hg (t_Model_isPart v1 v2 (μ.1 136 (Int32.toNatClampNeg (v6))) (μ.1 136 (Int32.toNatClampNeg (v6 + 1))) v3 μ) v_Model_isPart c_Model rfl (by decide) rfl wm_Model_215 d_Model_isThere_45 rfl ⟨by decide, by decide⟩ (Nat.le_of_ble_eq_true rfl) rfl (fun r45 μ_45 _ => ?_)
      refine r_istore (l' := [(5, .int r45), (0, .ref 125), (1, .int v1), (2, .int v2), (3, .int v3), (4, .int v4), (6, .int v6)]) hg d_Model_isThere_48 (Nat.le_of_ble_eq_true rfl) rfl ?_
      refine r_letE (fun v6_50 he_50 => ?_)
      refine r_iinc (v := v6_50) (l' := [(6, .int v6_50), (5, .int r45), (0, .ref 125), (1, .int v1), (2, .int v2), (3, .int v3), (4, .int v4)]) hg 6 d_Model_isThere_50 rfl he_50 (Nat.le_of_ble_eq_true rfl) rfl ?_
      refine r_goto (tgt := 13) hg d_Model_isThere_53 (by decide) ?_
      refine r_sub [2, 3, 4, 5, 6, 1, 0] rfl ?_
      exact hrec_ v1 v2 v3 v4 r45 v6_50 μ_45
theorem t_Model_isThere_L13 {cx : HCx} (hg : HGood cx R_Model b_Model_isThere 7 5 (some .boolean)) (hA : h_own cx) (K56 : Int32 → HMem → Option (Int32 × HMem)) (hK56 : p_Model_isThere_56 cx K56) : ∀ (fuel : Nat) (v1 : Int32) (v2 : Int32) (v3 : Int32) (v4 : Int32) (v5 : Int32) (v6 : Int32) (μ : HMem), HX cx (HQ cx h_eI) (f_Model_isThere_L13 K56 fuel v1 v2 v3 v4 v5 v6 μ) 0 0 13 [(0, .ref 125), (1, .int v1), (2, .int v2), (3, .int v3), (4, .int v4), (5, .int v5), (6, .int v6)] [] μ
  | 0, _, _, _, _, _, _, _ => by unfold f_Model_isThere_L13; exact HX.none
  | fuel + 1, v1, v2, v3, v4, v5, v6, μ => by
    rw [f_Model_isThere_L13]
    exact t_Model_isThere_L13_b hg hA  K56 hK56 (f_Model_isThere_L13 K56 fuel) (t_Model_isThere_L13 hg hA  K56 hK56 fuel) v1 v2 v3 v4 v5 v6 μ
theorem t_Model_isThere_J56 {cx : HCx} (hg : HGood cx R_Model b_Model_isThere 7 5 (some .boolean)) (hA : h_own cx)   (v5 : Int32) (μ : HMem) : HX cx (HQ cx h_eI) (f_Model_isThere_J56   v5 μ) 0 0 56 [(5, .int v5)] [] μ := by
  unfold f_Model_isThere_J56
  refine r_iload hg 0 d_Model_isThere_56 rfl ?_
  exact r_zretB hg hA rfl d_Model_isThere_58 rfl
theorem t_Model_isThere_0 {cx : HCx} (hg : HGood cx R_Model b_Model_isThere 7 5 (some .boolean)) (hA : h_own cx) (v1 : Int32) (v2 : Int32) (v3 : Int32) (μ : HMem) : HX cx (HQ cx h_eI) (f_Model_isThere v1 v2 v3 μ) 0 0 0 [(0, .ref 125), (1, .int v1), (2, .int v2), (3, .int v3)] [] μ := by
  unfold f_Model_isThere
  refine r_aload_n hg 0 d_Model_isThere_0 rfl rfl ?_
  refine r_iload_n hg 1 d_Model_isThere_1 rfl rfl ?_
  refine r_callV (As := [.int v1]) hg (t_Model_turns v1 μ) v_Model_turns c_Model rfl (by decide) rfl wm_Model_212 d_Model_isThere_2 rfl ⟨by decide, by decide⟩ (Nat.le_of_ble_eq_true rfl) rfl (fun r2 μ_2 _ => ?_)
  refine r_istore (l' := [(4, .int r2), (0, .ref 125), (1, .int v1), (2, .int v2), (3, .int v3)]) hg d_Model_isThere_5 (Nat.le_of_ble_eq_true rfl) rfl ?_
  refine r_iconst (v := 1) hg d_Model_isThere_7 (by decide) ?_
  refine r_istore (l' := [(5, .int 1), (4, .int r2), (0, .ref 125), (1, .int v1), (2, .int v2), (3, .int v3)]) hg d_Model_isThere_8 (Nat.le_of_ble_eq_true rfl) rfl ?_
  refine r_iconst (v := 0) hg d_Model_isThere_10 (by decide) ?_
  refine r_istore (l' := [(6, .int 0), (5, .int 1), (4, .int r2), (0, .ref 125), (1, .int v1), (2, .int v2), (3, .int v3)]) hg d_Model_isThere_11 (Nat.le_of_ble_eq_true rfl) rfl ?_
  refine r_sub [3, 4, 5, 6, 2, 1, 0] rfl ?_
  exact t_Model_isThere_L13 hg hA f_Model_isThere_J56 (t_Model_isThere_J56 hg hA) h_fuel v1 v2 v3 r2 1 0 μ_2
theorem t_Model_isThere (v1 : Int32) (v2 : Int32) (v3 : Int32) (μ : HMem) : HSpec y_Model_isThere b_Model_isThere 7 (some .boolean) 5 h_eI [.ref 125, .int v1, .int v2, .int v3] μ (f_Model_isThere v1 v2 v3 μ) :=
  HSpec.of (by decide +kernel) (v_Model_isThere.1 _ (by simp)) (Nat.le_of_ble_eq_true rfl) (fun cx hA hg => t_Model_isThere_0 hg hA v1 v2 v3 μ)
theorem t_Model_isFree_0 {cx : HCx} (hg : HGood cx R_Model b_Model_isFree 4 6 (some .boolean)) (hA : h_own cx) (v1 : Int32) (v2 : Int32) (v3 : Int32) (μ : HMem) : HX cx (HQ cx h_eI) (f_Model_isFree v1 v2 v3 μ) 0 0 0 [(0, .ref 125), (1, .int v1), (2, .int v2), (3, .int v3)] [] μ := by
  unfold f_Model_isFree
  refine r_aload_n hg 0 d_Model_isFree_0 rfl rfl ?_
  refine r_callV (As := []) hg (t_Model_frees  μ) v_Model_frees c_Model rfl (by decide) rfl wm_Model_218 d_Model_isFree_1 rfl ⟨by decide, by decide⟩ (Nat.le_of_ble_eq_true rfl) rfl (fun r1 μ_1 _ => ?_)
  refine r_aload_n hg 0 d_Model_isFree_4 rfl rfl ?_
  refine r_iload_n hg 1 d_Model_isFree_5 rfl rfl ?_
  refine r_iload_n hg 2 d_Model_isFree_6 rfl rfl ?_
  refine r_iload_n hg 3 d_Model_isFree_7 rfl rfl ?_
  refine r_callV (As := [.int v1, .int v2, .int v3]) hg (t_Model_isThere v1 v2 v3 μ_1) v_Model_isThere c_Model rfl (by decide) rfl wm_Model_221 d_Model_isFree_8 rfl ⟨by decide, by decide⟩ (Nat.le_of_ble_eq_true rfl) rfl (fun r8 μ_8 _ => ?_)
  exact r_zretB hg hA rfl d_Model_isFree_11 rfl
theorem t_Model_isFree (v1 : Int32) (v2 : Int32) (v3 : Int32) (μ : HMem) : HSpec y_Model_isFree b_Model_isFree 4 (some .boolean) 6 h_eI [.ref 125, .int v1, .int v2, .int v3] μ (f_Model_isFree v1 v2 v3 μ) :=
  HSpec.of (by decide +kernel) (v_Model_isFree.1 _ (by simp)) (Nat.le_of_ble_eq_true rfl) (fun cx hA hg => t_Model_isFree_0 hg hA v1 v2 v3 μ)
theorem t_Model_lowestSpared_J33 {cx : HCx} (hg : HGood cx R_Model b_Model_lowestSpared 4 7 (some .int)) (hA : h_own cx)  (rec_ : Int32 → Int32 → Int32 → HMem → Option (Int32 × HMem)) (hrec_ : p_Model_lowestSpared_4 cx rec_) (v1 : Int32) (v3 : Int32) (s0 : Int32) (μ : HMem) : HX cx (HQ cx h_eI) (f_Model_lowestSpared_J33  rec_ v1 v3 s0 μ) 0 0 33 [(0, .ref 125), (1, .int v1), (3, .int v3)] [.int s0] μ := by
  unfold f_Model_lowestSpared_J33
  refine r_istore_n (l' := [(2, .int s0), (0, .ref 125), (1, .int v1), (3, .int v3)]) hg d_Model_lowestSpared_33 rfl (Nat.le_of_ble_eq_true rfl) rfl ?_
  refine r_letE (fun v3_34 he_34 => ?_)
  refine r_iinc (v := v3_34) (l' := [(3, .int v3_34), (2, .int s0), (0, .ref 125), (1, .int v1)]) hg 3 d_Model_lowestSpared_34 rfl he_34 (Nat.le_of_ble_eq_true rfl) rfl ?_
  refine r_goto (tgt := 4) hg d_Model_lowestSpared_37 (by decide) ?_
  refine r_sub [2, 3, 1, 0] rfl ?_
  exact hrec_ v1 s0 v3_34 μ
theorem t_Model_lowestSpared_L4_b {cx : HCx} (hg : HGood cx R_Model b_Model_lowestSpared 4 7 (some .int)) (hA : h_own cx) (K40 : Int32 → HMem → Option (Int32 × HMem)) (hK40 : p_Model_lowestSpared_40 cx K40) (rec_ : Int32 → Int32 → Int32 → HMem → Option (Int32 × HMem)) (hrec_ : p_Model_lowestSpared_4 cx rec_) (v1 : Int32) (v2 : Int32) (v3 : Int32) (μ : HMem) : HX cx (HQ cx h_eI) (f_Model_lowestSpared_L4_b K40 rec_ v1 v2 v3 μ) 0 0 4 [(0, .ref 125), (1, .int v1), (2, .int v2), (3, .int v3)] [] μ := by
  unfold f_Model_lowestSpared_L4_b
  refine r_iload_n hg 3 d_Model_lowestSpared_4 rfl rfl ?_
  refine r_aload_n hg 0 d_Model_lowestSpared_5 rfl rfl ?_
  refine r_iload_n hg 1 d_Model_lowestSpared_6 rfl rfl ?_
  refine r_callV (As := [.int v1]) hg (t_Model_size v1 μ) v_Model_size c_Model rfl (by decide) rfl wm_Model_75 d_Model_lowestSpared_7 rfl ⟨by decide, by decide⟩ (Nat.le_of_ble_eq_true rfl) rfl (fun r7 μ_7 _ => ?_)
  refine r_icmp_ge (tgt := 40) hg d_Model_lowestSpared_10 (by decide) ?_ ?_
  · refine r_sub [2] rfl ?_
    exact hK40 v2 μ_7
  · refine r_iload_n hg 2 d_Model_lowestSpared_13 rfl rfl ?_
    refine r_iconst (v := -1) hg d_Model_lowestSpared_14 (by decide) ?_
    refine r_icmp_ne (tgt := 40) hg d_Model_lowestSpared_15 (by decide) ?_ ?_
    · refine r_sub [2] rfl ?_
      exact hK40 v2 μ_7
    · refine r_aload_n hg 0 d_Model_lowestSpared_18 rfl rfl ?_
      refine r_iload_n hg 1 d_Model_lowestSpared_19 rfl rfl ?_
      refine r_iload_n hg 1 d_Model_lowestSpared_20 rfl rfl ?_
      refine r_iload_n hg 3 d_Model_lowestSpared_21 rfl rfl ?_
      refine r_callV (As := [.int v1, .int v1, .int v3]) hg (t_Model_isFree v1 v1 v3 μ_7) v_Model_isFree c_Model rfl (by decide) rfl wm_Model_224 d_Model_lowestSpared_22 rfl ⟨by decide, by decide⟩ (Nat.le_of_ble_eq_true rfl) rfl (fun r22 μ_22 _ => ?_)
      refine r_if_eq (tgt := 32) hg d_Model_lowestSpared_25 (by decide) ?_ ?_
      · refine r_iconst (v := -1) hg d_Model_lowestSpared_32 (by decide) ?_
        refine r_sub [0, 1, 3] rfl ?_
        exact t_Model_lowestSpared_J33 hg hA rec_ hrec_ v1 v3 (-1) μ_22
      · refine r_iload_n hg 3 d_Model_lowestSpared_28 rfl rfl ?_
        refine r_goto (tgt := 33) hg d_Model_lowestSpared_29 (by decide) ?_
        refine r_sub [0, 1, 3] rfl ?_
        exact t_Model_lowestSpared_J33 hg hA rec_ hrec_ v1 v3 v3 μ_22
theorem t_Model_lowestSpared_L4 {cx : HCx} (hg : HGood cx R_Model b_Model_lowestSpared 4 7 (some .int)) (hA : h_own cx) (K40 : Int32 → HMem → Option (Int32 × HMem)) (hK40 : p_Model_lowestSpared_40 cx K40) : ∀ (fuel : Nat) (v1 : Int32) (v2 : Int32) (v3 : Int32) (μ : HMem), HX cx (HQ cx h_eI) (f_Model_lowestSpared_L4 K40 fuel v1 v2 v3 μ) 0 0 4 [(0, .ref 125), (1, .int v1), (2, .int v2), (3, .int v3)] [] μ
  | 0, _, _, _, _ => by unfold f_Model_lowestSpared_L4; exact HX.none
  | fuel + 1, v1, v2, v3, μ => by
    rw [f_Model_lowestSpared_L4]
    exact t_Model_lowestSpared_L4_b hg hA  K40 hK40 (f_Model_lowestSpared_L4 K40 fuel) (t_Model_lowestSpared_L4 hg hA  K40 hK40 fuel) v1 v2 v3 μ
theorem t_Model_lowestSpared_J40 {cx : HCx} (hg : HGood cx R_Model b_Model_lowestSpared 4 7 (some .int)) (hA : h_own cx)   (v2 : Int32) (μ : HMem) : HX cx (HQ cx h_eI) (f_Model_lowestSpared_J40   v2 μ) 0 0 40 [(2, .int v2)] [] μ := by
  unfold f_Model_lowestSpared_J40
  refine r_iload_n hg 0 d_Model_lowestSpared_40 rfl rfl ?_
  exact r_iret hg hA rfl d_Model_lowestSpared_41 rfl
theorem t_Model_lowestSpared_0 {cx : HCx} (hg : HGood cx R_Model b_Model_lowestSpared 4 7 (some .int)) (hA : h_own cx) (v1 : Int32) (μ : HMem) : HX cx (HQ cx h_eI) (f_Model_lowestSpared v1 μ) 0 0 0 [(0, .ref 125), (1, .int v1)] [] μ := by
  unfold f_Model_lowestSpared
  refine r_iconst (v := -1) hg d_Model_lowestSpared_0 (by decide) ?_
  refine r_istore_n (l' := [(2, .int (-1)), (0, .ref 125), (1, .int v1)]) hg d_Model_lowestSpared_1 rfl (Nat.le_of_ble_eq_true rfl) rfl ?_
  refine r_iconst (v := 0) hg d_Model_lowestSpared_2 (by decide) ?_
  refine r_istore_n (l' := [(3, .int 0), (2, .int (-1)), (0, .ref 125), (1, .int v1)]) hg d_Model_lowestSpared_3 rfl (Nat.le_of_ble_eq_true rfl) rfl ?_
  refine r_sub [2, 3, 1, 0] rfl ?_
  exact t_Model_lowestSpared_L4 hg hA f_Model_lowestSpared_J40 (t_Model_lowestSpared_J40 hg hA) h_fuel v1 (-1) 0 μ
theorem t_Model_lowestSpared (v1 : Int32) (μ : HMem) : HSpec y_Model_lowestSpared b_Model_lowestSpared 4 (some .int) 7 h_eI [.ref 125, .int v1] μ (f_Model_lowestSpared v1 μ) :=
  HSpec.of (by decide +kernel) (v_Model_lowestSpared.1 _ (by simp)) (Nat.le_of_ble_eq_true rfl) (fun cx hA hg => t_Model_lowestSpared_0 hg hA v1 μ)
theorem t_Model_shrinks_L6_b {cx : HCx} (hg : HGood cx R_Model b_Model_shrinks 2 8 (some .int)) (hA : h_own cx) (K26 : HMem → Option (Int32 × HMem)) (hK26 : p_Model_shrinks_26 cx K26) (rec_ : Int32 → HMem → Option (Int32 × HMem)) (hrec_ : p_Model_shrinks_6 cx rec_) (v1 : Int32) (μ : HMem) : HX cx (HQ cx h_eI) (f_Model_shrinks_L6_b K26 rec_ v1 μ) 0 0 6 [(0, .ref 125), (1, .int v1)] [] μ := by
  unfold f_Model_shrinks_L6_b
  refine r_iload_n hg 1 d_Model_shrinks_6 rfl rfl ?_
  refine r_iconst (v := -1) hg d_Model_shrinks_7 (by decide) ?_
  refine r_icmp_eq (tgt := 26) hg d_Model_shrinks_8 (by decide) ?_ ?_
  · refine r_sub [0] rfl ?_
    exact hK26 μ
  · refine r_aload_n hg 0 d_Model_shrinks_11 rfl rfl ?_
    refine r_iconst (v := 4) hg d_Model_shrinks_12 (by decide) ?_
    refine r_iload_n hg 1 d_Model_shrinks_13 rfl rfl ?_
    refine r_callV (As := [.int 4, .int v1]) hg (t_Model_drops 4 v1 μ) v_Model_drops c_Model rfl (by decide) rfl wm_Model_280 d_Model_shrinks_14 rfl ⟨by decide, by decide⟩ (Nat.le_of_ble_eq_true rfl) rfl (fun r14 μ_14 _ => ?_)
    refine r_aload_n hg 0 d_Model_shrinks_17 rfl rfl ?_
    refine r_iconst (v := 4) hg d_Model_shrinks_18 (by decide) ?_
    refine r_callV (As := [.int 4]) hg (t_Model_lowestSpared 4 μ_14) v_Model_lowestSpared c_Model rfl (by decide) rfl wm_Model_283 d_Model_shrinks_19 rfl ⟨by decide, by decide⟩ (Nat.le_of_ble_eq_true rfl) rfl (fun r19 μ_19 _ => ?_)
    refine r_istore_n (l' := [(1, .int r19), (0, .ref 125)]) hg d_Model_shrinks_22 rfl (Nat.le_of_ble_eq_true rfl) rfl ?_
    refine r_goto (tgt := 6) hg d_Model_shrinks_23 (by decide) ?_
    refine r_sub [1, 0] rfl ?_
    exact hrec_ r19 μ_19
theorem t_Model_shrinks_L6 {cx : HCx} (hg : HGood cx R_Model b_Model_shrinks 2 8 (some .int)) (hA : h_own cx) (K26 : HMem → Option (Int32 × HMem)) (hK26 : p_Model_shrinks_26 cx K26) : ∀ (fuel : Nat) (v1 : Int32) (μ : HMem), HX cx (HQ cx h_eI) (f_Model_shrinks_L6 K26 fuel v1 μ) 0 0 6 [(0, .ref 125), (1, .int v1)] [] μ
  | 0, _, _ => by unfold f_Model_shrinks_L6; exact HX.none
  | fuel + 1, v1, μ => by
    rw [f_Model_shrinks_L6]
    exact t_Model_shrinks_L6_b hg hA  K26 hK26 (f_Model_shrinks_L6 K26 fuel) (t_Model_shrinks_L6 hg hA  K26 hK26 fuel) v1 μ
theorem t_Model_shrinks_J26 {cx : HCx} (hg : HGood cx R_Model b_Model_shrinks 2 8 (some .int)) (hA : h_own cx)    (μ : HMem) : HX cx (HQ cx h_eI) (f_Model_shrinks_J26   μ) 0 0 26 [(0, .ref 125)] [] μ := by
  unfold f_Model_shrinks_J26
  refine r_aload_n hg 0 d_Model_shrinks_26 rfl rfl ?_
  refine r_iconst (v := 4) hg d_Model_shrinks_27 (by decide) ?_
  refine r_callV (As := [.int 4]) hg (t_Model_size 4 μ) v_Model_size c_Model rfl (by decide) rfl wm_Model_75 d_Model_shrinks_28 rfl ⟨by decide, by decide⟩ (Nat.le_of_ble_eq_true rfl) rfl (fun r28 μ_28 _ => ?_)
  exact r_iret hg hA rfl d_Model_shrinks_31 rfl
theorem t_Model_shrinks_0 {cx : HCx} (hg : HGood cx R_Model b_Model_shrinks 2 8 (some .int)) (hA : h_own cx)  (μ : HMem) : HX cx (HQ cx h_eI) (f_Model_shrinks μ) 0 0 0 [(0, .ref 125)] [] μ := by
  unfold f_Model_shrinks
  refine r_aload_n hg 0 d_Model_shrinks_0 rfl rfl ?_
  refine r_iconst (v := 4) hg d_Model_shrinks_1 (by decide) ?_
  refine r_callV (As := [.int 4]) hg (t_Model_lowestSpared 4 μ) v_Model_lowestSpared c_Model rfl (by decide) rfl wm_Model_283 d_Model_shrinks_2 rfl ⟨by decide, by decide⟩ (Nat.le_of_ble_eq_true rfl) rfl (fun r2 μ_2 _ => ?_)
  refine r_istore_n (l' := [(1, .int r2), (0, .ref 125)]) hg d_Model_shrinks_5 rfl (Nat.le_of_ble_eq_true rfl) rfl ?_
  refine r_sub [1, 0] rfl ?_
  exact t_Model_shrinks_L6 hg hA f_Model_shrinks_J26 (t_Model_shrinks_J26 hg hA) h_fuel r2 μ_2
theorem t_Model_shrinks  (μ : HMem) : HSpec y_Model_shrinks b_Model_shrinks 2 (some .int) 8 h_eI [.ref 125] μ (f_Model_shrinks μ) :=
  HSpec.of (by decide +kernel) (v_Model_shrinks.1 _ (by simp)) (Nat.le_of_ble_eq_true rfl) (fun cx hA hg => t_Model_shrinks_0 hg hA  μ)
theorem t_Model_derive_J14 {cx : HCx} (hg : HGood cx R_Model b_Model_derive 6 9 (some .int)) (hA : h_own cx)    (μ : HMem) : HX cx (HQ cx h_eI) (f_Model_derive_J14   μ) 0 0 14 [(0, .ref 125)] [] μ := by
  unfold f_Model_derive_J14
  refine r_aload_n hg 0 d_Model_derive_14 rfl rfl ?_
  refine r_iconst (v := 1) hg d_Model_derive_15 (by decide) ?_
  refine r_callV (As := [.int 1]) hg (t_Model_fails 1 μ) v_Model_fails c_Model rfl (by decide) rfl wm_Model_93 d_Model_derive_16 rfl ⟨by decide, by decide⟩ (Nat.le_of_ble_eq_true rfl) rfl (fun r16 μ_16 _ => ?_)
  exact r_iret hg hA rfl d_Model_derive_19 rfl
theorem t_Model_derive_J56 {cx : HCx} (hg : HGood cx R_Model b_Model_derive 6 9 (some .int)) (hA : h_own cx)    (μ : HMem) : HX cx (HQ cx h_eI) (f_Model_derive_J56   μ) 0 0 56 [(0, .ref 125)] [] μ := by
  unfold f_Model_derive_J56
  refine r_aload_n hg 0 d_Model_derive_56 rfl rfl ?_
  refine r_iconst (v := 2) hg d_Model_derive_57 (by decide) ?_
  refine r_callV (As := [.int 2]) hg (t_Model_fails 2 μ) v_Model_fails c_Model rfl (by decide) rfl wm_Model_93 d_Model_derive_58 rfl ⟨by decide, by decide⟩ (Nat.le_of_ble_eq_true rfl) rfl (fun r58 μ_58 _ => ?_)
  exact r_iret hg hA rfl d_Model_derive_61 rfl
theorem t_Model_derive_J112 {cx : HCx} (hg : HGood cx R_Model b_Model_derive 6 9 (some .int)) (hA : h_own cx)   (v1 : Int32) (μ : HMem) : HX cx (HQ cx h_eI) (f_Model_derive_J112   v1 μ) 0 0 112 [(0, .ref 125), (1, .int v1)] [] μ := by
  unfold f_Model_derive_J112
  refine r_aload_n hg 0 d_Model_derive_112 rfl rfl ?_
  refine r_iload_n hg 1 d_Model_derive_113 rfl rfl ?_
  refine r_callV (As := [.int v1]) hg (t_Model_keeps v1 μ) v_Model_keeps c_Model rfl (by decide) rfl wm_Model_99 d_Model_derive_114 rfl ⟨by decide, by decide⟩ (Nat.le_of_ble_eq_true rfl) rfl (fun r114 μ_114 _ => ?_)
  refine r_aload_n hg 0 d_Model_derive_117 rfl rfl ?_
  refine r_iload_n hg 1 d_Model_derive_118 rfl rfl ?_
  refine r_callV (As := [.int v1]) hg (t_Model_size v1 μ_114) v_Model_size c_Model rfl (by decide) rfl wm_Model_75 d_Model_derive_119 rfl ⟨by decide, by decide⟩ (Nat.le_of_ble_eq_true rfl) rfl (fun r119 μ_119 _ => ?_)
  exact r_iret hg hA rfl d_Model_derive_122 rfl
theorem t_Model_derive_J110 {cx : HCx} (hg : HGood cx R_Model b_Model_derive 6 9 (some .int)) (hA : h_own cx)   (v1 : Int32) (s0 : Int32) (μ : HMem) : HX cx (HQ cx h_eI) (f_Model_derive_J110   v1 s0 μ) 0 0 110 [(0, .ref 125), (1, .int v1)] [.int s0] μ := by
  unfold f_Model_derive_J110
  refine r_istore (l' := [(5, .int s0), (0, .ref 125), (1, .int v1)]) hg d_Model_derive_110 (Nat.le_of_ble_eq_true rfl) rfl ?_
  refine r_sub [1, 2] rfl ?_
  exact t_Model_derive_J112 hg hA v1 μ
theorem t_Model_derive_J50 {cx : HCx} (hg : HGood cx R_Model b_Model_derive 6 9 (some .int)) (hA : h_own cx)   (v1 : Int32) (v2 : Int32) (v3 : Int32) (v4 : Int32) (s0 : Int32) (s1 : Int32) (s2 : Int32) (μ : HMem) : HX cx (HQ cx h_eI) (f_Model_derive_J50   v1 v2 v3 v4 s0 s1 s2 μ) 0 0 50 [(0, .ref 125), (1, .int v1), (2, .int v2), (3, .int v3), (4, .int v4)] [.int s0, .int s1, .int s2] μ := by
  unfold f_Model_derive_J50
  refine r_callS (As := [.int s2, .int s1, .int s0]) hg (t_Model_in s2 s1 s0 μ) v_Model_in wm_Model_67 d_Model_derive_50 rfl ⟨by decide, by decide⟩ (Nat.le_of_ble_eq_true rfl) rfl (fun r50 μ_50 _ => ?_)
  refine r_if_ne (tgt := 62) hg d_Model_derive_53 (by decide) ?_ ?_
  · refine r_iload_n hg 3 d_Model_derive_62 rfl rfl ?_
    refine r_iconst (v := 1) hg d_Model_derive_63 (by decide) ?_
    refine r_icmp_ne (tgt := 75) hg d_Model_derive_64 (by decide) ?_ ?_
    · refine r_iload_n hg 3 d_Model_derive_75 rfl rfl ?_
      refine r_iconst (v := 2) hg d_Model_derive_76 (by decide) ?_
      refine r_icmp_ne (tgt := 91) hg d_Model_derive_77 (by decide) ?_ ?_
      · refine r_aload_n hg 0 d_Model_derive_91 rfl rfl ?_
        refine r_iload_n hg 2 d_Model_derive_92 rfl rfl ?_
        refine r_iconst (v := 4) hg d_Model_derive_93 (by decide) ?_
        refine r_callV (As := [.int v2, .int 4]) hg (t_Model_copies v2 4 μ_50) v_Model_copies c_Model rfl (by decide) rfl wm_Model_89 d_Model_derive_94 rfl ⟨by decide, by decide⟩ (Nat.le_of_ble_eq_true rfl) rfl (fun r94 μ_94 _ => ?_)
        refine r_iload_n hg 3 d_Model_derive_97 rfl rfl ?_
        refine r_iconst (v := 3) hg d_Model_derive_98 (by decide) ?_
        refine r_icmp_ne (tgt := 109) hg d_Model_derive_99 (by decide) ?_ ?_
        · refine r_iconst (v := 0) hg d_Model_derive_109 (by decide) ?_
          refine r_sub [0, 1] rfl ?_
          exact t_Model_derive_J110 hg hA v1 0 μ_94
        · refine r_aload_n hg 0 d_Model_derive_102 rfl rfl ?_
          refine r_callV (As := []) hg (t_Model_shrinks  μ_94) v_Model_shrinks c_Model rfl (by decide) rfl wm_Model_154 d_Model_derive_103 rfl ⟨by decide, by decide⟩ (Nat.le_of_ble_eq_true rfl) rfl (fun r103 μ_103 _ => ?_)
          refine r_goto (tgt := 110) hg d_Model_derive_106 (by decide) ?_
          refine r_sub [0, 1] rfl ?_
          exact t_Model_derive_J110 hg hA v1 r103 μ_103
      · refine r_aload_n hg 0 d_Model_derive_80 rfl rfl ?_
        refine r_iload_n hg 2 d_Model_derive_81 rfl rfl ?_
        refine r_iconst (v := 4) hg d_Model_derive_82 (by decide) ?_
        refine r_iload hg 4 d_Model_derive_83 rfl ?_
        refine r_callV (As := [.int v2, .int 4, .int v4]) hg (t_Model_induces v2 4 v4 μ_50) v_Model_induces c_Model rfl (by decide) rfl wm_Model_144 d_Model_derive_85 rfl ⟨by decide, by decide⟩ (Nat.le_of_ble_eq_true rfl) rfl (fun r85 μ_85 _ => ?_)
        refine r_goto (tgt := 112) hg d_Model_derive_88 (by decide) ?_
        refine r_sub [0, 1] rfl ?_
        exact t_Model_derive_J112 hg hA v1 μ_85
    · refine r_aload_n hg 0 d_Model_derive_67 rfl rfl ?_
      refine r_iload_n hg 2 d_Model_derive_68 rfl rfl ?_
      refine r_callV (As := [.int v2]) hg (t_Model_complements v2 μ_50) v_Model_complements c_Model rfl (by decide) rfl wm_Model_151 d_Model_derive_69 rfl ⟨by decide, by decide⟩ (Nat.le_of_ble_eq_true rfl) rfl (fun r69 μ_69 _ => ?_)
      refine r_goto (tgt := 112) hg d_Model_derive_72 (by decide) ?_
      refine r_sub [0, 1] rfl ?_
      exact t_Model_derive_J112 hg hA v1 μ_69
  · refine r_sub [0] rfl ?_
    exact t_Model_derive_J56 hg hA μ_50
theorem t_Model_derive_0 {cx : HCx} (hg : HGood cx R_Model b_Model_derive 6 9 (some .int)) (hA : h_own cx) (v1 : Int32) (v2 : Int32) (v3 : Int32) (v4 : Int32) (μ : HMem) : HX cx (HQ cx h_eI) (f_Model_derive v1 v2 v3 v4 μ) 0 0 0 [(0, .ref 125), (1, .int v1), (2, .int v2), (3, .int v3), (4, .int v4)] [] μ := by
  unfold f_Model_derive
  refine r_iload_n hg 1 d_Model_derive_0 rfl rfl ?_
  refine r_callS (As := [.int v1]) hg (t_Model_isGraph v1 μ) v_Model_isGraph wm_Model_71 d_Model_derive_1 rfl ⟨by decide, by decide⟩ (Nat.le_of_ble_eq_true rfl) rfl (fun r1 μ_1 _ => ?_)
  refine r_if_eq (tgt := 14) hg d_Model_derive_4 (by decide) ?_ ?_
  · refine r_sub [0] rfl ?_
    exact t_Model_derive_J14 hg hA μ_1
  · refine r_iload_n hg 2 d_Model_derive_7 rfl rfl ?_
    refine r_callS (As := [.int v2]) hg (t_Model_isGraph v2 μ_1) v_Model_isGraph wm_Model_71 d_Model_derive_8 rfl ⟨by decide, by decide⟩ (Nat.le_of_ble_eq_true rfl) rfl (fun r8 μ_8 _ => ?_)
    refine r_if_ne (tgt := 20) hg d_Model_derive_11 (by decide) ?_ ?_
    · refine r_iload_n hg 3 d_Model_derive_20 rfl rfl ?_
      refine r_iconst (v := 0) hg d_Model_derive_21 (by decide) ?_
      refine r_iconst (v := 3) hg d_Model_derive_22 (by decide) ?_
      refine r_callS (As := [.int v3, .int 0, .int 3]) hg (t_Model_in v3 0 3 μ_8) v_Model_in wm_Model_67 d_Model_derive_23 rfl ⟨by decide, by decide⟩ (Nat.le_of_ble_eq_true rfl) rfl (fun r23 μ_23 _ => ?_)
      refine r_if_eq (tgt := 56) hg d_Model_derive_26 (by decide) ?_ ?_
      · refine r_sub [0] rfl ?_
        exact t_Model_derive_J56 hg hA μ_23
      · refine r_iload hg 4 d_Model_derive_29 rfl ?_
        refine r_iconst (v := 0) hg d_Model_derive_31 (by decide) ?_
        refine r_iload_n hg 3 d_Model_derive_32 rfl rfl ?_
        refine r_iconst (v := 2) hg d_Model_derive_33 (by decide) ?_
        refine r_icmp_ne (tgt := 49) hg d_Model_derive_34 (by decide) ?_ ?_
        · refine r_iconst (v := 0) hg d_Model_derive_49 (by decide) ?_
          exact t_Model_derive_J50 hg hA v1 v2 v3 v4 0 0 v4 μ_23
        · refine r_iconst (v := 1) hg d_Model_derive_37 (by decide) ?_
          refine r_aload_n hg 0 d_Model_derive_38 rfl rfl ?_
          refine r_iload_n hg 2 d_Model_derive_39 rfl rfl ?_
          refine r_callV (As := [.int v2]) hg (t_Model_size v2 μ_23) v_Model_size c_Model rfl (by decide) rfl wm_Model_75 d_Model_derive_40 rfl ⟨by decide, by decide⟩ (Nat.le_of_ble_eq_true rfl) rfl (fun r40 μ_40 _ => ?_)
          refine r_ishl hg d_Model_derive_43 ?_
          refine r_iconst (v := 1) hg d_Model_derive_44 (by decide) ?_
          refine r_isub hg d_Model_derive_45 ?_
          refine r_goto (tgt := 50) hg d_Model_derive_46 (by decide) ?_
          exact t_Model_derive_J50 hg hA v1 v2 v3 v4 ((h_ishl 1 r40) - 1) 0 v4 μ_40
    · refine r_sub [0] rfl ?_
      exact t_Model_derive_J14 hg hA μ_8
theorem t_Model_derive (v1 : Int32) (v2 : Int32) (v3 : Int32) (v4 : Int32) (μ : HMem) : HSpec y_Model_derive b_Model_derive 6 (some .int) 9 h_eI [.ref 125, .int v1, .int v2, .int v3, .int v4] μ (f_Model_derive v1 v2 v3 v4 μ) :=
  HSpec.of (by decide +kernel) (v_Model_derive.1 _ (by simp)) (Nat.le_of_ble_eq_true rfl) (fun cx hA hg => t_Model_derive_0 hg hA v1 v2 v3 v4 μ)
theorem t_Model_bits_L4_b {cx : HCx} (hg : HGood cx R_Model b_Model_bits 3 1 (some .int)) (hA : h_own cx)  (rec_ : Int32 → Int32 → HMem → Option (Int32 × HMem)) (hrec_ : p_Model_bits_4 cx rec_) (v1 : Int32) (v2 : Int32) (μ : HMem) : HX cx (HQ cx h_eI) (f_Model_bits_L4_b  rec_ v1 v2 μ) 0 0 4 [(1, .int v1), (2, .int v2)] [] μ := by
  unfold f_Model_bits_L4_b
  refine r_iload_n hg 1 d_Model_bits_4 rfl rfl ?_
  refine r_if_eq (tgt := 20) hg d_Model_bits_5 (by decide) ?_ ?_
  · refine r_iload_n hg 0 d_Model_bits_20 rfl rfl ?_
    exact r_iret hg hA rfl d_Model_bits_21 rfl
  · refine r_letE (fun v1_8 he_8 => ?_)
    refine r_iinc (v := v1_8) (l' := [(1, .int v1_8), (2, .int v2)]) hg 0 d_Model_bits_8 rfl he_8 (Nat.le_of_ble_eq_true rfl) rfl ?_
    refine r_iload_n hg 1 d_Model_bits_11 rfl rfl ?_
    refine r_iload_n hg 1 d_Model_bits_12 rfl rfl ?_
    refine r_iconst (v := 1) hg d_Model_bits_13 (by decide) ?_
    refine r_isub hg d_Model_bits_14 ?_
    refine r_iand hg d_Model_bits_15 ?_
    refine r_letI (fun v2_16 => ?_)
    refine r_istore_n (l' := [(2, .int v2_16), (1, .int v1_8)]) hg d_Model_bits_16 rfl (Nat.le_of_ble_eq_true rfl) rfl ?_
    refine r_goto (tgt := 4) hg d_Model_bits_17 (by decide) ?_
    refine r_sub [1, 0] rfl ?_
    exact hrec_ v1_8 v2_16 μ
theorem t_Model_bits_L4 {cx : HCx} (hg : HGood cx R_Model b_Model_bits 3 1 (some .int)) (hA : h_own cx)  : ∀ (fuel : Nat) (v1 : Int32) (v2 : Int32) (μ : HMem), HX cx (HQ cx h_eI) (f_Model_bits_L4  fuel v1 v2 μ) 0 0 4 [(1, .int v1), (2, .int v2)] [] μ
  | 0, _, _, _ => by unfold f_Model_bits_L4; exact HX.none
  | fuel + 1, v1, v2, μ => by
    rw [f_Model_bits_L4]
    exact t_Model_bits_L4_b hg hA   (f_Model_bits_L4  fuel) (t_Model_bits_L4 hg hA   fuel) v1 v2 μ
theorem t_Model_bits_0 {cx : HCx} (hg : HGood cx R_Model b_Model_bits 3 1 (some .int)) (hA : h_own cx) (v0 : Int32) (μ : HMem) : HX cx (HQ cx h_eI) (f_Model_bits v0 μ) 0 0 0 [(0, .int v0)] [] μ := by
  unfold f_Model_bits
  refine r_iconst (v := 0) hg d_Model_bits_0 (by decide) ?_
  refine r_istore_n (l' := [(1, .int 0), (0, .int v0)]) hg d_Model_bits_1 rfl (Nat.le_of_ble_eq_true rfl) rfl ?_
  refine r_iload_n hg 1 d_Model_bits_2 rfl rfl ?_
  refine r_istore_n (l' := [(2, .int v0), (1, .int 0), (0, .int v0)]) hg d_Model_bits_3 rfl (Nat.le_of_ble_eq_true rfl) rfl ?_
  refine r_sub [1, 0] rfl ?_
  exact t_Model_bits_L4 hg hA h_fuel 0 v0 μ
theorem t_Model_bits (v0 : Int32) (μ : HMem) : HSpec y_Model_bits b_Model_bits 3 (some .int) 1 h_eI [.int v0] μ (f_Model_bits v0 μ) :=
  HSpec.of (by decide +kernel) (v_Model_bits.1 _ (by simp)) (Nat.le_of_ble_eq_true rfl) (fun cx hA hg => t_Model_bits_0 hg hA v0 μ)
theorem t_Model_edges_J63 {cx : HCx} (hg : HGood cx R_Model b_Model_edges 6 3 (some .int)) (hA : h_own cx)  (rec_ : Int32 → Int32 → Int32 → Int32 → Int32 → HMem → Option (Int32 × HMem)) (hrec_ : p_Model_edges_19 cx rec_) (v1 : Int32) (v2 : Int32) (v4 : Int32) (v5 : Int32) (s0 : Int32) (s1 : Int32) (μ : HMem) : HX cx (HQ cx h_eI) (f_Model_edges_J63  rec_ v1 v2 v4 v5 s0 s1 μ) 0 0 63 [(0, .ref 125), (1, .int v1), (2, .int v2), (4, .int v4), (5, .int v5)] [.int s0, .int s1] μ := by
  unfold f_Model_edges_J63
  refine r_iadd hg d_Model_edges_63 ?_
  refine r_letI (fun v3_64 => ?_)
  refine r_istore_n (l' := [(3, .int v3_64), (0, .ref 125), (1, .int v1), (2, .int v2), (4, .int v4), (5, .int v5)]) hg d_Model_edges_64 rfl (Nat.le_of_ble_eq_true rfl) rfl ?_
  refine r_letE (fun v5_65 he_65 => ?_)
  refine r_iinc (v := v5_65) (l' := [(5, .int v5_65), (3, .int v3_64), (0, .ref 125), (1, .int v1), (2, .int v2), (4, .int v4)]) hg 5 d_Model_edges_65 rfl he_65 (Nat.le_of_ble_eq_true rfl) rfl ?_
  refine r_goto (tgt := 19) hg d_Model_edges_68 (by decide) ?_
  refine r_sub [2, 3, 4, 1, 5, 0] rfl ?_
  exact hrec_ v1 v2 v3_64 v4 v5_65 μ
theorem t_Model_edges_J62 {cx : HCx} (hg : HGood cx R_Model b_Model_edges 6 3 (some .int)) (hA : h_own cx)  (rec_ : Int32 → Int32 → Int32 → Int32 → Int32 → HMem → Option (Int32 × HMem)) (hrec_ : p_Model_edges_19 cx rec_) (v1 : Int32) (v2 : Int32) (v4 : Int32) (v5 : Int32) (s0 : Int32) (μ : HMem) : HX cx (HQ cx h_eI) (f_Model_edges_J62  rec_ v1 v2 v4 v5 s0 μ) 0 0 62 [(0, .ref 125), (1, .int v1), (2, .int v2), (4, .int v4), (5, .int v5)] [.int s0] μ := by
  unfold f_Model_edges_J62
  refine r_iconst (v := 0) hg d_Model_edges_62 (by decide) ?_
  exact t_Model_edges_J63 hg hA rec_ hrec_ v1 v2 v4 v5 0 s0 μ
theorem t_Model_edges_J55 {cx : HCx} (hg : HGood cx R_Model b_Model_edges 6 3 (some .int)) (hA : h_own cx)  (rec_ : Int32 → Int32 → Int32 → Int32 → Int32 → HMem → Option (Int32 × HMem)) (hrec_ : p_Model_edges_19 cx rec_) (v1 : Int32) (v2 : Int32) (v4 : Int32) (v5 : Int32) (s0 : Int32) (s1 : Int32) (s2 : Int32) (μ : HMem) : HX cx (HQ cx h_eI) (f_Model_edges_J55  rec_ v1 v2 v4 v5 s0 s1 s2 μ) 0 0 55 [(0, .ref 125), (1, .int v1), (2, .int v2), (4, .int v4), (5, .int v5)] [.int s0, .int s1, .int s2] μ := by
  unfold f_Model_edges_J55
  refine r_icmp_ne (tgt := 62) hg d_Model_edges_55 (by decide) ?_ ?_
  · exact t_Model_edges_J62 hg hA rec_ hrec_ v1 v2 v4 v5 s2 μ
  · refine r_iconst (v := 1) hg d_Model_edges_58 (by decide) ?_
    refine r_goto (tgt := 63) hg d_Model_edges_59 (by decide) ?_
    exact t_Model_edges_J63 hg hA rec_ hrec_ v1 v2 v4 v5 1 s2 μ
theorem t_Model_edges_L19_b {cx : HCx} (hg : HGood cx R_Model b_Model_edges 6 3 (some .int)) (hA : h_own cx) (K71 : Int32 → Int32 → Int32 → Int32 → HMem → Option (Int32 × HMem)) (hK71 : p_Model_edges_71 cx K71) (rec_ : Int32 → Int32 → Int32 → Int32 → Int32 → HMem → Option (Int32 × HMem)) (hrec_ : p_Model_edges_19 cx rec_) (v1 : Int32) (v2 : Int32) (v3 : Int32) (v4 : Int32) (v5 : Int32) (μ : HMem) : HX cx (HQ cx h_eI) (f_Model_edges_L19_b K71 rec_ v1 v2 v3 v4 v5 μ) 0 0 19 [(0, .ref 125), (1, .int v1), (2, .int v2), (3, .int v3), (4, .int v4), (5, .int v5)] [] μ := by
  unfold f_Model_edges_L19_b
  refine r_iload hg 5 d_Model_edges_19 rfl ?_
  refine r_aload_n hg 0 d_Model_edges_21 rfl rfl ?_
  refine r_iload_n hg 1 d_Model_edges_22 rfl rfl ?_
  refine r_callV (As := [.int v1]) hg (t_Model_size v1 μ) v_Model_size c_Model rfl (by decide) rfl wm_Model_75 d_Model_edges_23 rfl ⟨by decide, by decide⟩ (Nat.le_of_ble_eq_true rfl) rfl (fun r23 μ_23 _ => ?_)
  refine r_icmp_ge (tgt := 71) hg d_Model_edges_26 (by decide) ?_ ?_
  · refine r_sub [0, 1, 2, 3, 4] rfl ?_
    exact hK71 v1 v2 v3 v4 μ_23
  · refine r_iload_n hg 3 d_Model_edges_29 rfl rfl ?_
    refine r_aload_n hg 0 d_Model_edges_30 rfl rfl ?_
    refine r_iload_n hg 1 d_Model_edges_31 rfl rfl ?_
    refine r_iload hg 4 d_Model_edges_32 rfl ?_
    refine r_iload hg 5 d_Model_edges_34 rfl ?_
    refine r_callV (As := [.int v1, .int v4, .int v5]) hg (t_Model_isNear v1 v4 v5 μ_23) v_Model_isNear c_Model rfl (by decide) rfl wm_Model_148 d_Model_edges_36 rfl ⟨by decide, by decide⟩ (Nat.le_of_ble_eq_true rfl) rfl (fun r36 μ_36 _ => ?_)
    refine r_if_eq (tgt := 62) hg d_Model_edges_39 (by decide) ?_ ?_
    · refine r_sub [0, 1, 2, 4, 5] rfl ?_
      exact t_Model_edges_J62 hg hA rec_ hrec_ v1 v2 v4 v5 v3 μ_36
    · refine r_iload_n hg 2 d_Model_edges_42 rfl rfl ?_
      refine r_iload hg 4 d_Model_edges_43 rfl ?_
      refine r_iload hg 5 d_Model_edges_45 rfl ?_
      refine r_icmp_ne (tgt := 54) hg d_Model_edges_47 (by decide) ?_ ?_
      · refine r_iconst (v := 0) hg d_Model_edges_54 (by decide) ?_
        refine r_sub [0, 1, 2, 4, 5] rfl ?_
        exact t_Model_edges_J55 hg hA rec_ hrec_ v1 v2 v4 v5 0 v2 v3 μ_36
      · refine r_iconst (v := 1) hg d_Model_edges_50 (by decide) ?_
        refine r_goto (tgt := 55) hg d_Model_edges_51 (by decide) ?_
        refine r_sub [0, 1, 2, 4, 5] rfl ?_
        exact t_Model_edges_J55 hg hA rec_ hrec_ v1 v2 v4 v5 1 v2 v3 μ_36
theorem t_Model_edges_L19 {cx : HCx} (hg : HGood cx R_Model b_Model_edges 6 3 (some .int)) (hA : h_own cx) (K71 : Int32 → Int32 → Int32 → Int32 → HMem → Option (Int32 × HMem)) (hK71 : p_Model_edges_71 cx K71) : ∀ (fuel : Nat) (v1 : Int32) (v2 : Int32) (v3 : Int32) (v4 : Int32) (v5 : Int32) (μ : HMem), HX cx (HQ cx h_eI) (f_Model_edges_L19 K71 fuel v1 v2 v3 v4 v5 μ) 0 0 19 [(0, .ref 125), (1, .int v1), (2, .int v2), (3, .int v3), (4, .int v4), (5, .int v5)] [] μ
  | 0, _, _, _, _, _, _ => by unfold f_Model_edges_L19; exact HX.none
  | fuel + 1, v1, v2, v3, v4, v5, μ => by
    rw [f_Model_edges_L19]
    exact t_Model_edges_L19_b hg hA  K71 hK71 (f_Model_edges_L19 K71 fuel) (t_Model_edges_L19 hg hA  K71 hK71 fuel) v1 v2 v3 v4 v5 μ
theorem t_Model_edges_J71 {cx : HCx} (hg : HGood cx R_Model b_Model_edges 6 3 (some .int)) (hA : h_own cx)  (rec_ : Int32 → Int32 → Int32 → Int32 → HMem → Option (Int32 × HMem)) (hrec_ : p_Model_edges_5 cx rec_) (v1 : Int32) (v2 : Int32) (v3 : Int32) (v4 : Int32) (μ : HMem) : HX cx (HQ cx h_eI) (f_Model_edges_J71  rec_ v1 v2 v3 v4 μ) 0 0 71 [(0, .ref 125), (1, .int v1), (2, .int v2), (3, .int v3), (4, .int v4)] [] μ := by
  unfold f_Model_edges_J71
  refine r_letE (fun v4_71 he_71 => ?_)
  refine r_iinc (v := v4_71) (l' := [(4, .int v4_71), (0, .ref 125), (1, .int v1), (2, .int v2), (3, .int v3)]) hg 4 d_Model_edges_71 rfl he_71 (Nat.le_of_ble_eq_true rfl) rfl ?_
  refine r_goto (tgt := 5) hg d_Model_edges_74 (by decide) ?_
  refine r_sub [1, 2, 3, 4, 0] rfl ?_
  exact hrec_ v1 v2 v3 v4_71 μ
theorem t_Model_edges_L5_b {cx : HCx} (hg : HGood cx R_Model b_Model_edges 6 3 (some .int)) (hA : h_own cx)  (rec_ : Int32 → Int32 → Int32 → Int32 → HMem → Option (Int32 × HMem)) (hrec_ : p_Model_edges_5 cx rec_) (v1 : Int32) (v2 : Int32) (v3 : Int32) (v4 : Int32) (μ : HMem) : HX cx (HQ cx h_eI) (f_Model_edges_L5_b  rec_ v1 v2 v3 v4 μ) 0 0 5 [(0, .ref 125), (1, .int v1), (2, .int v2), (3, .int v3), (4, .int v4)] [] μ := by
  unfold f_Model_edges_L5_b
  refine r_iload hg 4 d_Model_edges_5 rfl ?_
  refine r_aload_n hg 0 d_Model_edges_7 rfl rfl ?_
  refine r_iload_n hg 1 d_Model_edges_8 rfl rfl ?_
  refine r_callV (As := [.int v1]) hg (t_Model_size v1 μ) v_Model_size c_Model rfl (by decide) rfl wm_Model_75 d_Model_edges_9 rfl ⟨by decide, by decide⟩ (Nat.le_of_ble_eq_true rfl) rfl (fun r9 μ_9 _ => ?_)
  refine r_icmp_ge (tgt := 77) hg d_Model_edges_12 (by decide) ?_ ?_
  · refine r_iload_n hg 3 d_Model_edges_77 rfl rfl ?_
    exact r_iret hg hA rfl d_Model_edges_78 rfl
  · refine r_iload hg 4 d_Model_edges_15 rfl ?_
    refine r_istore (l' := [(5, .int v4), (0, .ref 125), (1, .int v1), (2, .int v2), (3, .int v3), (4, .int v4)]) hg d_Model_edges_17 (Nat.le_of_ble_eq_true rfl) rfl ?_
    refine r_sub [1, 2, 3, 4, 5, 0] rfl ?_
    exact t_Model_edges_L19 hg hA (f_Model_edges_J71 rec_) (t_Model_edges_J71 hg hA rec_ hrec_) h_fuel v1 v2 v3 v4 v4 μ_9
theorem t_Model_edges_L5 {cx : HCx} (hg : HGood cx R_Model b_Model_edges 6 3 (some .int)) (hA : h_own cx)  : ∀ (fuel : Nat) (v1 : Int32) (v2 : Int32) (v3 : Int32) (v4 : Int32) (μ : HMem), HX cx (HQ cx h_eI) (f_Model_edges_L5  fuel v1 v2 v3 v4 μ) 0 0 5 [(0, .ref 125), (1, .int v1), (2, .int v2), (3, .int v3), (4, .int v4)] [] μ
  | 0, _, _, _, _, _ => by unfold f_Model_edges_L5; exact HX.none
  | fuel + 1, v1, v2, v3, v4, μ => by
    rw [f_Model_edges_L5]
    exact t_Model_edges_L5_b hg hA   (f_Model_edges_L5  fuel) (t_Model_edges_L5 hg hA   fuel) v1 v2 v3 v4 μ
theorem t_Model_edges_0 {cx : HCx} (hg : HGood cx R_Model b_Model_edges 6 3 (some .int)) (hA : h_own cx) (v1 : Int32) (v2 : Int32) (μ : HMem) : HX cx (HQ cx h_eI) (f_Model_edges v1 v2 μ) 0 0 0 [(0, .ref 125), (1, .int v1), (2, .int v2)] [] μ := by
  unfold f_Model_edges
  refine r_iconst (v := 0) hg d_Model_edges_0 (by decide) ?_
  refine r_istore_n (l' := [(3, .int 0), (0, .ref 125), (1, .int v1), (2, .int v2)]) hg d_Model_edges_1 rfl (Nat.le_of_ble_eq_true rfl) rfl ?_
  refine r_iconst (v := 0) hg d_Model_edges_2 (by decide) ?_
  refine r_istore (l' := [(4, .int 0), (3, .int 0), (0, .ref 125), (1, .int v1), (2, .int v2)]) hg d_Model_edges_3 (Nat.le_of_ble_eq_true rfl) rfl ?_
  refine r_sub [2, 3, 4, 1, 0] rfl ?_
  exact t_Model_edges_L5 hg hA h_fuel v1 v2 0 0 μ
theorem t_Model_edges (v1 : Int32) (v2 : Int32) (μ : HMem) : HSpec y_Model_edges b_Model_edges 6 (some .int) 3 h_eI [.ref 125, .int v1, .int v2] μ (f_Model_edges v1 v2 μ) :=
  HSpec.of (by decide +kernel) (v_Model_edges.1 _ (by simp)) (Nat.le_of_ble_eq_true rfl) (fun cx hA hg => t_Model_edges_0 hg hA v1 v2 μ)
theorem t_Model_reached_J47 {cx : HCx} (hg : HGood cx R_Model b_Model_reached 6 4 (some .int)) (hA : h_own cx)  (rec_ : Int32 → Int32 → Int32 → Int32 → HMem → Option (Int32 × HMem)) (hrec_ : p_Model_reached_15 cx rec_) (v1 : Int32) (v4 : Int32) (v5 : Int32) (s0 : Int32) (s1 : Int32) (μ : HMem) : HX cx (HQ cx h_eI) (f_Model_reached_J47  rec_ v1 v4 v5 s0 s1 μ) 0 0 47 [(0, .ref 125), (1, .int v1), (4, .int v4), (5, .int v5)] [.int s0, .int s1] μ := by
  unfold f_Model_reached_J47
  refine r_ior hg d_Model_reached_47 ?_
  refine r_letI (fun v3_48 => ?_)
  refine r_istore_n (l' := [(3, .int v3_48), (0, .ref 125), (1, .int v1), (4, .int v4), (5, .int v5)]) hg d_Model_reached_48 rfl (Nat.le_of_ble_eq_true rfl) rfl ?_
  refine r_letE (fun v5_49 he_49 => ?_)
  refine r_iinc (v := v5_49) (l' := [(5, .int v5_49), (3, .int v3_48), (0, .ref 125), (1, .int v1), (4, .int v4)]) hg 4 d_Model_reached_49 rfl he_49 (Nat.le_of_ble_eq_true rfl) rfl ?_
  refine r_goto (tgt := 15) hg d_Model_reached_52 (by decide) ?_
  refine r_sub [2, 3, 1, 4, 0] rfl ?_
  exact hrec_ v1 v3_48 v4 v5_49 μ
theorem t_Model_reached_L15_b {cx : HCx} (hg : HGood cx R_Model b_Model_reached 6 4 (some .int)) (hA : h_own cx) (K55 : Int32 → Int32 → Int32 → HMem → Option (Int32 × HMem)) (hK55 : p_Model_reached_55 cx K55) (rec_ : Int32 → Int32 → Int32 → Int32 → HMem → Option (Int32 × HMem)) (hrec_ : p_Model_reached_15 cx rec_) (v1 : Int32) (v3 : Int32) (v4 : Int32) (v5 : Int32) (μ : HMem) : HX cx (HQ cx h_eI) (f_Model_reached_L15_b K55 rec_ v1 v3 v4 v5 μ) 0 0 15 [(0, .ref 125), (1, .int v1), (3, .int v3), (4, .int v4), (5, .int v5)] [] μ := by
  unfold f_Model_reached_L15_b
  refine r_iload hg 4 d_Model_reached_15 rfl ?_
  refine r_aload_n hg 0 d_Model_reached_17 rfl rfl ?_
  refine r_iload_n hg 1 d_Model_reached_18 rfl rfl ?_
  refine r_callV (As := [.int v1]) hg (t_Model_size v1 μ) v_Model_size c_Model rfl (by decide) rfl wm_Model_75 d_Model_reached_19 rfl ⟨by decide, by decide⟩ (Nat.le_of_ble_eq_true rfl) rfl (fun r19 μ_19 _ => ?_)
  refine r_icmp_ge (tgt := 55) hg d_Model_reached_22 (by decide) ?_ ?_
  · refine r_sub [0, 1, 2, 3] rfl ?_
    exact hK55 v1 v3 v4 μ_19
  · refine r_iload_n hg 2 d_Model_reached_25 rfl rfl ?_
    refine r_iload_n hg 2 d_Model_reached_26 rfl rfl ?_
    refine r_iload hg 4 d_Model_reached_27 rfl ?_
    refine r_ishr hg d_Model_reached_29 ?_
    refine r_iconst (v := 1) hg d_Model_reached_30 (by decide) ?_
    refine r_iand hg d_Model_reached_31 ?_
    refine r_iconst (v := 1) hg d_Model_reached_32 (by decide) ?_
    refine r_icmp_ne (tgt := 46) hg d_Model_reached_33 (by decide) ?_ ?_
    · refine r_iconst (v := 0) hg d_Model_reached_46 (by decide) ?_
      refine r_sub [0, 1, 3, 4] rfl ?_
      exact t_Model_reached_J47 hg hA rec_ hrec_ v1 v4 v5 0 v3 μ_19
    · refine r_aload_n hg 0 d_Model_reached_36 rfl rfl ?_
      refine r_iload_n hg 1 d_Model_reached_37 rfl rfl ?_
      refine r_iload hg 4 d_Model_reached_38 rfl ?_
      refine r_callV (As := [.int v1, .int v5]) hg (t_Model_near v1 v5 μ_19) v_Model_near c_Model rfl (by decide) rfl wm_Model_161 d_Model_reached_40 rfl ⟨by decide, by decide⟩ (Nat.le_of_ble_eq_true rfl) rfl (fun r40 μ_40 _ => ?_)
      refine r_goto (tgt := 47) hg d_Model_reached_43 (by decide) ?_
      refine r_sub [0, 1, 3, 4] rfl ?_
      exact t_Model_reached_J47 hg hA rec_ hrec_ v1 v4 v5 r40 v3 μ_40
theorem t_Model_reached_L15 {cx : HCx} (hg : HGood cx R_Model b_Model_reached 6 4 (some .int)) (hA : h_own cx) (K55 : Int32 → Int32 → Int32 → HMem → Option (Int32 × HMem)) (hK55 : p_Model_reached_55 cx K55) : ∀ (fuel : Nat) (v1 : Int32) (v3 : Int32) (v4 : Int32) (v5 : Int32) (μ : HMem), HX cx (HQ cx h_eI) (f_Model_reached_L15 K55 fuel v1 v3 v4 v5 μ) 0 0 15 [(0, .ref 125), (1, .int v1), (3, .int v3), (4, .int v4), (5, .int v5)] [] μ
  | 0, _, _, _, _, _ => by unfold f_Model_reached_L15; exact HX.none
  | fuel + 1, v1, v3, v4, v5, μ => by
    rw [f_Model_reached_L15]
    exact t_Model_reached_L15_b hg hA  K55 hK55 (f_Model_reached_L15 K55 fuel) (t_Model_reached_L15 hg hA  K55 hK55 fuel) v1 v3 v4 v5 μ
theorem t_Model_reached_J55 {cx : HCx} (hg : HGood cx R_Model b_Model_reached 6 4 (some .int)) (hA : h_own cx)  (rec_ : Int32 → Int32 → Int32 → HMem → Option (Int32 × HMem)) (hrec_ : p_Model_reached_5 cx rec_) (v1 : Int32) (v3 : Int32) (v4 : Int32) (μ : HMem) : HX cx (HQ cx h_eI) (f_Model_reached_J55  rec_ v1 v3 v4 μ) 0 0 55 [(0, .ref 125), (1, .int v1), (3, .int v3), (4, .int v4)] [] μ := by
  unfold f_Model_reached_J55
  refine r_letE (fun v4_55 he_55 => ?_)
  refine r_iinc (v := v4_55) (l' := [(4, .int v4_55), (0, .ref 125), (1, .int v1), (3, .int v3)]) hg 3 d_Model_reached_55 rfl he_55 (Nat.le_of_ble_eq_true rfl) rfl ?_
  refine r_goto (tgt := 5) hg d_Model_reached_58 (by decide) ?_
  refine r_sub [1, 2, 3, 0] rfl ?_
  exact hrec_ v1 v3 v4_55 μ
theorem t_Model_reached_L5_b {cx : HCx} (hg : HGood cx R_Model b_Model_reached 6 4 (some .int)) (hA : h_own cx)  (rec_ : Int32 → Int32 → Int32 → HMem → Option (Int32 × HMem)) (hrec_ : p_Model_reached_5 cx rec_) (v1 : Int32) (v3 : Int32) (v4 : Int32) (μ : HMem) : HX cx (HQ cx h_eI) (f_Model_reached_L5_b  rec_ v1 v3 v4 μ) 0 0 5 [(0, .ref 125), (1, .int v1), (3, .int v3), (4, .int v4)] [] μ := by
  unfold f_Model_reached_L5_b
  refine r_iload hg 3 d_Model_reached_5 rfl ?_
  refine r_bipush (v := 8) hg d_Model_reached_7 (by decide) ?_
  refine r_icmp_ge (tgt := 61) hg d_Model_reached_9 (by decide) ?_ ?_
  · refine r_iload_n hg 2 d_Model_reached_61 rfl rfl ?_
    exact r_iret hg hA rfl d_Model_reached_62 rfl
  · refine r_iconst (v := 0) hg d_Model_reached_12 (by decide) ?_
    refine r_istore (l' := [(5, .int 0), (0, .ref 125), (1, .int v1), (3, .int v3), (4, .int v4)]) hg d_Model_reached_13 (Nat.le_of_ble_eq_true rfl) rfl ?_
    refine r_sub [1, 2, 3, 4, 0] rfl ?_
    exact t_Model_reached_L15 hg hA (f_Model_reached_J55 rec_) (t_Model_reached_J55 hg hA rec_ hrec_) h_fuel v1 v3 v4 0 μ
theorem t_Model_reached_L5 {cx : HCx} (hg : HGood cx R_Model b_Model_reached 6 4 (some .int)) (hA : h_own cx)  : ∀ (fuel : Nat) (v1 : Int32) (v3 : Int32) (v4 : Int32) (μ : HMem), HX cx (HQ cx h_eI) (f_Model_reached_L5  fuel v1 v3 v4 μ) 0 0 5 [(0, .ref 125), (1, .int v1), (3, .int v3), (4, .int v4)] [] μ
  | 0, _, _, _, _ => by unfold f_Model_reached_L5; exact HX.none
  | fuel + 1, v1, v3, v4, μ => by
    rw [f_Model_reached_L5]
    exact t_Model_reached_L5_b hg hA   (f_Model_reached_L5  fuel) (t_Model_reached_L5 hg hA   fuel) v1 v3 v4 μ
theorem t_Model_reached_0 {cx : HCx} (hg : HGood cx R_Model b_Model_reached 6 4 (some .int)) (hA : h_own cx) (v1 : Int32) (v2 : Int32) (μ : HMem) : HX cx (HQ cx h_eI) (f_Model_reached v1 v2 μ) 0 0 0 [(0, .ref 125), (1, .int v1), (2, .int v2)] [] μ := by
  unfold f_Model_reached
  refine r_iload_n hg 2 d_Model_reached_0 rfl rfl ?_
  refine r_istore_n (l' := [(3, .int v2), (0, .ref 125), (1, .int v1), (2, .int v2)]) hg d_Model_reached_1 rfl (Nat.le_of_ble_eq_true rfl) rfl ?_
  refine r_iconst (v := 0) hg d_Model_reached_2 (by decide) ?_
  refine r_istore (l' := [(4, .int 0), (3, .int v2), (0, .ref 125), (1, .int v1), (2, .int v2)]) hg d_Model_reached_3 (Nat.le_of_ble_eq_true rfl) rfl ?_
  refine r_sub [2, 3, 1, 0] rfl ?_
  exact t_Model_reached_L5 hg hA h_fuel v1 v2 0 μ
theorem t_Model_reached (v1 : Int32) (v2 : Int32) (μ : HMem) : HSpec y_Model_reached b_Model_reached 6 (some .int) 4 h_eI [.ref 125, .int v1, .int v2] μ (f_Model_reached v1 v2 μ) :=
  HSpec.of (by decide +kernel) (v_Model_reached.1 _ (by simp)) (Nat.le_of_ble_eq_true rfl) (fun cx hA hg => t_Model_reached_0 hg hA v1 v2 μ)
theorem t_Model_components_J41 {cx : HCx} (hg : HGood cx R_Model b_Model_components 5 5 (some .int)) (hA : h_own cx)  (rec_ : Int32 → Int32 → Int32 → Int32 → HMem → Option (Int32 × HMem)) (hrec_ : p_Model_components_7 cx rec_) (v1 : Int32) (v2 : Int32) (v3 : Int32) (v4 : Int32) (μ : HMem) : HX cx (HQ cx h_eI) (f_Model_components_J41  rec_ v1 v2 v3 v4 μ) 0 0 41 [(0, .ref 125), (1, .int v1), (2, .int v2), (3, .int v3), (4, .int v4)] [] μ := by
  unfold f_Model_components_J41
  refine r_letE (fun v4_41 he_41 => ?_)
  refine r_iinc (v := v4_41) (l' := [(4, .int v4_41), (0, .ref 125), (1, .int v1), (2, .int v2), (3, .int v3)]) hg 4 d_Model_components_41 rfl he_41 (Nat.le_of_ble_eq_true rfl) rfl ?_
  refine r_goto (tgt := 7) hg d_Model_components_44 (by decide) ?_
  refine r_sub [1, 2, 3, 4, 0] rfl ?_
  exact hrec_ v1 v2 v3 v4_41 μ
theorem t_Model_components_L7_b {cx : HCx} (hg : HGood cx R_Model b_Model_components 5 5 (some .int)) (hA : h_own cx)  (rec_ : Int32 → Int32 → Int32 → Int32 → HMem → Option (Int32 × HMem)) (hrec_ : p_Model_components_7 cx rec_) (v1 : Int32) (v2 : Int32) (v3 : Int32) (v4 : Int32) (μ : HMem) : HX cx (HQ cx h_eI) (f_Model_components_L7_b  rec_ v1 v2 v3 v4 μ) 0 0 7 [(0, .ref 125), (1, .int v1), (2, .int v2), (3, .int v3), (4, .int v4)] [] μ := by
  unfold f_Model_components_L7_b
  refine r_iload hg 4 d_Model_components_7 rfl ?_
  refine r_aload_n hg 0 d_Model_components_9 rfl rfl ?_
  refine r_iload_n hg 1 d_Model_components_10 rfl rfl ?_
  refine r_callV (As := [.int v1]) hg (t_Model_size v1 μ) v_Model_size c_Model rfl (by decide) rfl wm_Model_75 d_Model_components_11 rfl ⟨by decide, by decide⟩ (Nat.le_of_ble_eq_true rfl) rfl (fun r11 μ_11 _ => ?_)
  refine r_icmp_ge (tgt := 47) hg d_Model_components_14 (by decide) ?_ ?_
  · refine r_iload_n hg 2 d_Model_components_47 rfl rfl ?_
    exact r_iret hg hA rfl d_Model_components_48 rfl
  · refine r_iload_n hg 3 d_Model_components_17 rfl rfl ?_
    refine r_iload hg 4 d_Model_components_18 rfl ?_
    refine r_ishr hg d_Model_components_20 ?_
    refine r_iconst (v := 1) hg d_Model_components_21 (by decide) ?_
    refine r_iand hg d_Model_components_22 ?_
    refine r_if_ne (tgt := 41) hg d_Model_components_23 (by decide) ?_ ?_
    · exact t_Model_components_J41 hg hA rec_ hrec_ v1 v2 v3 v4 μ_11
    · refine r_letE (fun v2_26 he_26 => ?_)
      refine r_iinc (v := v2_26) (l' := [(2, .int v2_26), (0, .ref 125), (1, .int v1), (3, .int v3), (4, .int v4)]) hg 2 d_Model_components_26 rfl he_26 (Nat.le_of_ble_eq_true rfl) rfl ?_
      refine r_iload_n hg 3 d_Model_components_29 rfl rfl ?_
      refine r_aload_n hg 1 d_Model_components_30 rfl rfl ?_
      refine r_iload_n hg 2 d_Model_components_31 rfl rfl ?_
      refine r_iconst (v := 1) hg d_Model_components_32 (by decide) ?_
      refine r_iload hg 4 d_Model_components_33 rfl ?_
      refine r_ishl hg d_Model_components_35 ?_
      refine r_callV (As := [.int v1, .int (h_ishl 1 v4)]) hg (t_Model_reached v1 (h_ishl 1 v4) μ_11) v_Model_reached c_Model rfl (by decide) rfl wm_Model_158 d_Model_components_36 rfl ⟨by decide, by decide⟩ (Nat.le_of_ble_eq_true rfl) rfl (fun r36 μ_36 _ => ?_)
      refine r_ior hg d_Model_components_39 ?_
      refine r_letI (fun v3_40 => ?_)
      refine r_istore_n (l' := [(3, .int v3_40), (2, .int v2_26), (0, .ref 125), (1, .int v1), (4, .int v4)]) hg d_Model_components_40 rfl (Nat.le_of_ble_eq_true rfl) rfl ?_
      refine r_sub [2, 3, 1, 0, 4] rfl ?_
      exact t_Model_components_J41 hg hA rec_ hrec_ v1 v2_26 v3_40 v4 μ_36
theorem t_Model_components_L7 {cx : HCx} (hg : HGood cx R_Model b_Model_components 5 5 (some .int)) (hA : h_own cx)  : ∀ (fuel : Nat) (v1 : Int32) (v2 : Int32) (v3 : Int32) (v4 : Int32) (μ : HMem), HX cx (HQ cx h_eI) (f_Model_components_L7  fuel v1 v2 v3 v4 μ) 0 0 7 [(0, .ref 125), (1, .int v1), (2, .int v2), (3, .int v3), (4, .int v4)] [] μ
  | 0, _, _, _, _, _ => by unfold f_Model_components_L7; exact HX.none
  | fuel + 1, v1, v2, v3, v4, μ => by
    rw [f_Model_components_L7]
    exact t_Model_components_L7_b hg hA   (f_Model_components_L7  fuel) (t_Model_components_L7 hg hA   fuel) v1 v2 v3 v4 μ
theorem t_Model_components_0 {cx : HCx} (hg : HGood cx R_Model b_Model_components 5 5 (some .int)) (hA : h_own cx) (v1 : Int32) (μ : HMem) : HX cx (HQ cx h_eI) (f_Model_components v1 μ) 0 0 0 [(0, .ref 125), (1, .int v1)] [] μ := by
  unfold f_Model_components
  refine r_iconst (v := 0) hg d_Model_components_0 (by decide) ?_
  refine r_istore_n (l' := [(2, .int 0), (0, .ref 125), (1, .int v1)]) hg d_Model_components_1 rfl (Nat.le_of_ble_eq_true rfl) rfl ?_
  refine r_iconst (v := 0) hg d_Model_components_2 (by decide) ?_
  refine r_istore_n (l' := [(3, .int 0), (2, .int 0), (0, .ref 125), (1, .int v1)]) hg d_Model_components_3 rfl (Nat.le_of_ble_eq_true rfl) rfl ?_
  refine r_iconst (v := 0) hg d_Model_components_4 (by decide) ?_
  refine r_istore (l' := [(4, .int 0), (3, .int 0), (2, .int 0), (0, .ref 125), (1, .int v1)]) hg d_Model_components_5 (Nat.le_of_ble_eq_true rfl) rfl ?_
  refine r_sub [3, 4, 2, 1, 0] rfl ?_
  exact t_Model_components_L7 hg hA h_fuel v1 0 0 0 μ
theorem t_Model_components (v1 : Int32) (μ : HMem) : HSpec y_Model_components b_Model_components 5 (some .int) 5 h_eI [.ref 125, .int v1] μ (f_Model_components v1 μ) :=
  HSpec.of (by decide +kernel) (v_Model_components.1 _ (by simp)) (Nat.le_of_ble_eq_true rfl) (fun cx hA hg => t_Model_components_0 hg hA v1 μ)
theorem t_Model_graph_J69 {cx : HCx} (hg : HGood cx R_Model b_Model_graph 3 6 (some .int)) (hA : h_own cx)   (s0 : Int32) (μ : HMem) : HX cx (HQ cx h_eI) (f_Model_graph_J69   s0 μ) 0 0 69 [] [.int s0, .ref 125] μ := by
  unfold f_Model_graph_J69
  refine r_callV (As := [.int s0]) hg (t_Model_tells s0 μ) v_Model_tells c_Model rfl (by decide) rfl wm_Model_171 d_Model_graph_69 rfl ⟨by decide, by decide⟩ (Nat.le_of_ble_eq_true rfl) rfl (fun r69 μ_69 _ => ?_)
  exact r_iret hg hA rfl d_Model_graph_72 rfl
theorem t_Model_graph_J66 {cx : HCx} (hg : HGood cx R_Model b_Model_graph 3 6 (some .int)) (hA : h_own cx)   (s0 : Int32) (s1 : Int32) (μ : HMem) : HX cx (HQ cx h_eI) (f_Model_graph_J66   s0 s1 μ) 0 0 66 [] [.int s0, .int s1, .ref 125, .ref 125] μ := by
  unfold f_Model_graph_J66
  refine r_callV (As := [.int s1, .int s0]) hg (t_Model_edges s1 s0 μ) v_Model_edges c_Model rfl (by decide) rfl wm_Model_167 d_Model_graph_66 rfl ⟨by decide, by decide⟩ (Nat.le_of_ble_eq_true rfl) rfl (fun r66 μ_66 _ => ?_)
  exact t_Model_graph_J69 hg hA r66 μ_66
theorem t_Model_graph_0 {cx : HCx} (hg : HGood cx R_Model b_Model_graph 3 6 (some .int)) (hA : h_own cx) (v1 : Int32) (v2 : Int32) (μ : HMem) : HX cx (HQ cx h_eI) (f_Model_graph v1 v2 μ) 0 0 0 [(0, .ref 125), (1, .int v1), (2, .int v2)] [] μ := by
  unfold f_Model_graph
  refine r_iload_n hg 1 d_Model_graph_0 rfl rfl ?_
  refine r_callS (As := [.int v1]) hg (t_Model_isGraph v1 μ) v_Model_isGraph wm_Model_71 d_Model_graph_1 rfl ⟨by decide, by decide⟩ (Nat.le_of_ble_eq_true rfl) rfl (fun r1 μ_1 _ => ?_)
  refine r_if_ne (tgt := 13) hg d_Model_graph_4 (by decide) ?_ ?_
  · refine r_iload_n hg 2 d_Model_graph_13 rfl rfl ?_
    refine r_iconst (v := 0) hg d_Model_graph_14 (by decide) ?_
    refine r_iconst (v := 3) hg d_Model_graph_15 (by decide) ?_
    refine r_callS (As := [.int v2, .int 0, .int 3]) hg (t_Model_in v2 0 3 μ_1) v_Model_in wm_Model_67 d_Model_graph_16 rfl ⟨by decide, by decide⟩ (Nat.le_of_ble_eq_true rfl) rfl (fun r16 μ_16 _ => ?_)
    refine r_if_ne (tgt := 28) hg d_Model_graph_19 (by decide) ?_ ?_
    · refine r_aload_n hg 0 d_Model_graph_28 rfl rfl ?_
      refine r_iload_n hg 2 d_Model_graph_29 rfl rfl ?_
      refine r_if_ne (tgt := 41) hg d_Model_graph_30 (by decide) ?_ ?_
      · refine r_iload_n hg 2 d_Model_graph_41 rfl rfl ?_
        refine r_iconst (v := 3) hg d_Model_graph_42 (by decide) ?_
        refine r_icmp_ne (tgt := 54) hg d_Model_graph_43 (by decide) ?_ ?_
        · refine r_aload_n hg 0 d_Model_graph_54 rfl rfl ?_
          refine r_iload_n hg 1 d_Model_graph_55 rfl rfl ?_
          refine r_iload_n hg 2 d_Model_graph_56 rfl rfl ?_
          refine r_iconst (v := 2) hg d_Model_graph_57 (by decide) ?_
          refine r_icmp_ne (tgt := 65) hg d_Model_graph_58 (by decide) ?_ ?_
          · refine r_iconst (v := 0) hg d_Model_graph_65 (by decide) ?_
            refine r_sub [] rfl ?_
            exact t_Model_graph_J66 hg hA 0 v1 μ_16
          · refine r_iconst (v := 1) hg d_Model_graph_61 (by decide) ?_
            refine r_goto (tgt := 66) hg d_Model_graph_62 (by decide) ?_
            refine r_sub [] rfl ?_
            exact t_Model_graph_J66 hg hA 1 v1 μ_16
        · refine r_aload_n hg 0 d_Model_graph_46 rfl rfl ?_
          refine r_iload_n hg 1 d_Model_graph_47 rfl rfl ?_
          refine r_callV (As := [.int v1]) hg (t_Model_components v1 μ_16) v_Model_components c_Model rfl (by decide) rfl wm_Model_164 d_Model_graph_48 rfl ⟨by decide, by decide⟩ (Nat.le_of_ble_eq_true rfl) rfl (fun r48 μ_48 _ => ?_)
          refine r_goto (tgt := 69) hg d_Model_graph_51 (by decide) ?_
          refine r_sub [] rfl ?_
          exact t_Model_graph_J69 hg hA r48 μ_48
      · refine r_aload_n hg 0 d_Model_graph_33 rfl rfl ?_
        refine r_iload_n hg 1 d_Model_graph_34 rfl rfl ?_
        refine r_callV (As := [.int v1]) hg (t_Model_size v1 μ_16) v_Model_size c_Model rfl (by decide) rfl wm_Model_75 d_Model_graph_35 rfl ⟨by decide, by decide⟩ (Nat.le_of_ble_eq_true rfl) rfl (fun r35 μ_35 _ => ?_)
        refine r_goto (tgt := 69) hg d_Model_graph_38 (by decide) ?_
        refine r_sub [] rfl ?_
        exact t_Model_graph_J69 hg hA r35 μ_35
    · refine r_aload_n hg 0 d_Model_graph_22 rfl rfl ?_
      refine r_iconst (v := 2) hg d_Model_graph_23 (by decide) ?_
      refine r_callV (As := [.int 2]) hg (t_Model_fails 2 μ_16) v_Model_fails c_Model rfl (by decide) rfl wm_Model_93 d_Model_graph_24 rfl ⟨by decide, by decide⟩ (Nat.le_of_ble_eq_true rfl) rfl (fun r24 μ_24 _ => ?_)
      exact r_iret hg hA rfl d_Model_graph_27 rfl
  · refine r_aload_n hg 0 d_Model_graph_7 rfl rfl ?_
    refine r_iconst (v := 1) hg d_Model_graph_8 (by decide) ?_
    refine r_callV (As := [.int 1]) hg (t_Model_fails 1 μ_1) v_Model_fails c_Model rfl (by decide) rfl wm_Model_93 d_Model_graph_9 rfl ⟨by decide, by decide⟩ (Nat.le_of_ble_eq_true rfl) rfl (fun r9 μ_9 _ => ?_)
    exact r_iret hg hA rfl d_Model_graph_12 rfl
theorem t_Model_graph (v1 : Int32) (v2 : Int32) (μ : HMem) : HSpec y_Model_graph b_Model_graph 3 (some .int) 6 h_eI [.ref 125, .int v1, .int v2] μ (f_Model_graph v1 v2 μ) :=
  HSpec.of (by decide +kernel) (v_Model_graph.1 _ (by simp)) (Nat.le_of_ble_eq_true rfl) (fun cx hA hg => t_Model_graph_0 hg hA v1 v2 μ)
theorem t_Model_vertex_J67 {cx : HCx} (hg : HGood cx R_Model b_Model_vertex 4 4 (some .int)) (hA : h_own cx)   (s0 : Int32) (μ : HMem) : HX cx (HQ cx h_eI) (f_Model_vertex_J67   s0 μ) 0 0 67 [] [.int s0, .ref 125] μ := by
  unfold f_Model_vertex_J67
  refine r_callV (As := [.int s0]) hg (t_Model_tells s0 μ) v_Model_tells c_Model rfl (by decide) rfl wm_Model_171 d_Model_vertex_67 rfl ⟨by decide, by decide⟩ (Nat.le_of_ble_eq_true rfl) rfl (fun r67 μ_67 _ => ?_)
  exact r_iret hg hA rfl d_Model_vertex_70 rfl
theorem t_Model_vertex_0 {cx : HCx} (hg : HGood cx R_Model b_Model_vertex 4 4 (some .int)) (hA : h_own cx) (v1 : Int32) (v2 : Int32) (v3 : Int32) (μ : HMem) : HX cx (HQ cx h_eI) (f_Model_vertex v1 v2 v3 μ) 0 0 0 [(0, .ref 125), (1, .int v1), (2, .int v2), (3, .int v3)] [] μ := by
  unfold f_Model_vertex
  refine r_aload_n hg 0 d_Model_vertex_0 rfl rfl ?_
  refine r_iload_n hg 1 d_Model_vertex_1 rfl rfl ?_
  refine r_iload_n hg 2 d_Model_vertex_2 rfl rfl ?_
  refine r_callV (As := [.int v1, .int v2]) hg (t_Model_isVertex v1 v2 μ) v_Model_isVertex c_Model rfl (by decide) rfl wm_Model_103 d_Model_vertex_3 rfl ⟨by decide, by decide⟩ (Nat.le_of_ble_eq_true rfl) rfl (fun r3 μ_3 _ => ?_)
  refine r_if_ne (tgt := 15) hg d_Model_vertex_6 (by decide) ?_ ?_
  · refine r_iload_n hg 3 d_Model_vertex_15 rfl rfl ?_
    refine r_iconst (v := 0) hg d_Model_vertex_16 (by decide) ?_
    refine r_iconst (v := 2) hg d_Model_vertex_17 (by decide) ?_
    refine r_callS (As := [.int v3, .int 0, .int 2]) hg (t_Model_in v3 0 2 μ_3) v_Model_in wm_Model_67 d_Model_vertex_18 rfl ⟨by decide, by decide⟩ (Nat.le_of_ble_eq_true rfl) rfl (fun r18 μ_18 _ => ?_)
    refine r_if_ne (tgt := 30) hg d_Model_vertex_21 (by decide) ?_ ?_
    · refine r_aload_n hg 0 d_Model_vertex_30 rfl rfl ?_
      refine r_iload_n hg 3 d_Model_vertex_31 rfl rfl ?_
      refine r_if_ne (tgt := 44) hg d_Model_vertex_32 (by decide) ?_ ?_
      · refine r_iload_n hg 3 d_Model_vertex_44 rfl rfl ?_
        refine r_iconst (v := 1) hg d_Model_vertex_45 (by decide) ?_
        refine r_icmp_ne (tgt := 61) hg d_Model_vertex_46 (by decide) ?_ ?_
        · refine r_aload_n hg 0 d_Model_vertex_61 rfl rfl ?_
          refine r_iload_n hg 1 d_Model_vertex_62 rfl rfl ?_
          refine r_iload_n hg 2 d_Model_vertex_63 rfl rfl ?_
          refine r_callV (As := [.int v1, .int v2]) hg (t_Model_near v1 v2 μ_18) v_Model_near c_Model rfl (by decide) rfl wm_Model_161 d_Model_vertex_64 rfl ⟨by decide, by decide⟩ (Nat.le_of_ble_eq_true rfl) rfl (fun r64 μ_64 _ => ?_)
          refine r_sub [] rfl ?_
          exact t_Model_vertex_J67 hg hA r64 μ_64
        · refine r_aload_n hg 0 d_Model_vertex_49 rfl rfl ?_
          refine r_iload_n hg 1 d_Model_vertex_50 rfl rfl ?_
          refine r_iload_n hg 2 d_Model_vertex_51 rfl rfl ?_
          refine r_callV (As := [.int v1, .int v2]) hg (t_Model_near v1 v2 μ_18) v_Model_near c_Model rfl (by decide) rfl wm_Model_161 d_Model_vertex_52 rfl ⟨by decide, by decide⟩ (Nat.le_of_ble_eq_true rfl) rfl (fun r52 μ_52 _ => ?_)
          refine r_callS (As := [.int r52]) hg (t_Model_bits r52 μ_52) v_Model_bits wm_Model_174 d_Model_vertex_55 rfl ⟨by decide, by decide⟩ (Nat.le_of_ble_eq_true rfl) rfl (fun r55 μ_55 _ => ?_)
          refine r_goto (tgt := 67) hg d_Model_vertex_58 (by decide) ?_
          refine r_sub [] rfl ?_
          exact t_Model_vertex_J67 hg hA r55 μ_55
      · refine r_aload_n hg 0 d_Model_vertex_35 rfl rfl ?_
        refine r_iload_n hg 1 d_Model_vertex_36 rfl rfl ?_
        refine r_iload_n hg 2 d_Model_vertex_37 rfl rfl ?_
        refine r_callV (As := [.int v1, .int v2]) hg (t_Model_weight v1 v2 μ_18) v_Model_weight c_Model rfl (by decide) rfl wm_Model_107 d_Model_vertex_38 rfl ⟨by decide, by decide⟩ (Nat.le_of_ble_eq_true rfl) rfl (fun r38 μ_38 _ => ?_)
        refine r_goto (tgt := 67) hg d_Model_vertex_41 (by decide) ?_
        refine r_sub [] rfl ?_
        exact t_Model_vertex_J67 hg hA r38 μ_38
    · refine r_aload_n hg 0 d_Model_vertex_24 rfl rfl ?_
      refine r_iconst (v := 2) hg d_Model_vertex_25 (by decide) ?_
      refine r_callV (As := [.int 2]) hg (t_Model_fails 2 μ_18) v_Model_fails c_Model rfl (by decide) rfl wm_Model_93 d_Model_vertex_26 rfl ⟨by decide, by decide⟩ (Nat.le_of_ble_eq_true rfl) rfl (fun r26 μ_26 _ => ?_)
      exact r_iret hg hA rfl d_Model_vertex_29 rfl
  · refine r_aload_n hg 0 d_Model_vertex_9 rfl rfl ?_
    refine r_iconst (v := 1) hg d_Model_vertex_10 (by decide) ?_
    refine r_callV (As := [.int 1]) hg (t_Model_fails 1 μ_3) v_Model_fails c_Model rfl (by decide) rfl wm_Model_93 d_Model_vertex_11 rfl ⟨by decide, by decide⟩ (Nat.le_of_ble_eq_true rfl) rfl (fun r11 μ_11 _ => ?_)
    exact r_iret hg hA rfl d_Model_vertex_14 rfl
theorem t_Model_vertex (v1 : Int32) (v2 : Int32) (v3 : Int32) (μ : HMem) : HSpec y_Model_vertex b_Model_vertex 4 (some .int) 4 h_eI [.ref 125, .int v1, .int v2, .int v3] μ (f_Model_vertex v1 v2 v3 μ) :=
  HSpec.of (by decide +kernel) (v_Model_vertex.1 _ (by simp)) (Nat.le_of_ble_eq_true rfl) (fun cx hA hg => t_Model_vertex_0 hg hA v1 v2 v3 μ)
theorem t_Model_edge_J37 {cx : HCx} (hg : HGood cx R_Model b_Model_edge 4 4 (some .int)) (hA : h_own cx)   (s0 : Int32) (μ : HMem) : HX cx (HQ cx h_eI) (f_Model_edge_J37   s0 μ) 0 0 37 [] [.int s0] μ := by
  unfold f_Model_edge_J37
  exact r_iret hg hA rfl d_Model_edge_37 rfl
theorem t_Model_edge_J32 {cx : HCx} (hg : HGood cx R_Model b_Model_edge 4 4 (some .int)) (hA : h_own cx)    (μ : HMem) : HX cx (HQ cx h_eI) (f_Model_edge_J32   μ) 0 0 32 [(0, .ref 125)] [] μ := by
  unfold f_Model_edge_J32
  refine r_aload_n hg 0 d_Model_edge_32 rfl rfl ?_
  refine r_iconst (v := 1) hg d_Model_edge_33 (by decide) ?_
  refine r_callV (As := [.int 1]) hg (t_Model_fails 1 μ) v_Model_fails c_Model rfl (by decide) rfl wm_Model_93 d_Model_edge_34 rfl ⟨by decide, by decide⟩ (Nat.le_of_ble_eq_true rfl) rfl (fun r34 μ_34 _ => ?_)
  refine r_sub [] rfl ?_
  exact t_Model_edge_J37 hg hA r34 μ_34
theorem t_Model_edge_0 {cx : HCx} (hg : HGood cx R_Model b_Model_edge 4 4 (some .int)) (hA : h_own cx) (v1 : Int32) (v2 : Int32) (v3 : Int32) (μ : HMem) : HX cx (HQ cx h_eI) (f_Model_edge v1 v2 v3 μ) 0 0 0 [(0, .ref 125), (1, .int v1), (2, .int v2), (3, .int v3)] [] μ := by
  unfold f_Model_edge
  refine r_aload_n hg 0 d_Model_edge_0 rfl rfl ?_
  refine r_iload_n hg 1 d_Model_edge_1 rfl rfl ?_
  refine r_iload_n hg 2 d_Model_edge_2 rfl rfl ?_
  refine r_callV (As := [.int v1, .int v2]) hg (t_Model_isVertex v1 v2 μ) v_Model_isVertex c_Model rfl (by decide) rfl wm_Model_103 d_Model_edge_3 rfl ⟨by decide, by decide⟩ (Nat.le_of_ble_eq_true rfl) rfl (fun r3 μ_3 _ => ?_)
  refine r_if_eq (tgt := 32) hg d_Model_edge_6 (by decide) ?_ ?_
  · refine r_sub [0] rfl ?_
    exact t_Model_edge_J32 hg hA μ_3
  · refine r_aload_n hg 0 d_Model_edge_9 rfl rfl ?_
    refine r_iload_n hg 1 d_Model_edge_10 rfl rfl ?_
    refine r_iload_n hg 3 d_Model_edge_11 rfl rfl ?_
    refine r_callV (As := [.int v1, .int v3]) hg (t_Model_isVertex v1 v3 μ_3) v_Model_isVertex c_Model rfl (by decide) rfl wm_Model_103 d_Model_edge_12 rfl ⟨by decide, by decide⟩ (Nat.le_of_ble_eq_true rfl) rfl (fun r12 μ_12 _ => ?_)
    refine r_if_eq (tgt := 32) hg d_Model_edge_15 (by decide) ?_ ?_
    · refine r_sub [0] rfl ?_
      exact t_Model_edge_J32 hg hA μ_12
    · refine r_aload_n hg 0 d_Model_edge_18 rfl rfl ?_
      refine r_aload_n hg 0 d_Model_edge_19 rfl rfl ?_
      refine r_iload_n hg 1 d_Model_edge_20 rfl rfl ?_
      refine r_iload_n hg 2 d_Model_edge_21 rfl rfl ?_
      refine r_iload_n hg 3 d_Model_edge_22 rfl rfl ?_
      refine r_callV (As := [.int v1, .int v2, .int v3]) hg (t_Model_between v1 v2 v3 μ_12) v_Model_between c_Model rfl (by decide) rfl wm_Model_79 d_Model_edge_23 rfl ⟨by decide, by decide⟩ (Nat.le_of_ble_eq_true rfl) rfl (fun r23 μ_23 _ => ?_)
      refine r_callV (As := [.int r23]) hg (t_Model_tells r23 μ_23) v_Model_tells c_Model rfl (by decide) rfl wm_Model_171 d_Model_edge_26 rfl ⟨by decide, by decide⟩ (Nat.le_of_ble_eq_true rfl) rfl (fun r26 μ_26 _ => ?_)
      refine r_goto (tgt := 37) hg d_Model_edge_29 (by decide) ?_
      refine r_sub [] rfl ?_
      exact t_Model_edge_J37 hg hA r26 μ_26
theorem t_Model_edge (v1 : Int32) (v2 : Int32) (v3 : Int32) (μ : HMem) : HSpec y_Model_edge b_Model_edge 4 (some .int) 4 h_eI [.ref 125, .int v1, .int v2, .int v3] μ (f_Model_edge v1 v2 v3 μ) :=
  HSpec.of (by decide +kernel) (v_Model_edge.1 _ (by simp)) (Nat.le_of_ble_eq_true rfl) (fun cx hA hg => t_Model_edge_0 hg hA v1 v2 v3 μ)
theorem t_Model_fewest_J51 {cx : HCx} (hg : HGood cx R_Model b_Model_fewest 6 2 (some .int)) (hA : h_own cx)  (rec_ : Int32 → Int32 → Int32 → Int32 → HMem → Option (Int32 × HMem)) (hrec_ : p_Model_fewest_8 cx rec_) (v1 : Int32) (v2 : Int32) (v3 : Int32) (v4 : Int32) (μ : HMem) : HX cx (HQ cx h_eI) (f_Model_fewest_J51  rec_ v1 v2 v3 v4 μ) 0 0 51 [(0, .ref 125), (1, .int v1), (2, .int v2), (3, .int v3), (4, .int v4)] [] μ := by
  unfold f_Model_fewest_J51
  refine r_letE (fun v4_51 he_51 => ?_)
  refine r_iinc (v := v4_51) (l' := [(4, .int v4_51), (0, .ref 125), (1, .int v1), (2, .int v2), (3, .int v3)]) hg 4 d_Model_fewest_51 rfl he_51 (Nat.le_of_ble_eq_true rfl) rfl ?_
  refine r_goto (tgt := 8) hg d_Model_fewest_54 (by decide) ?_
  refine r_sub [1, 2, 3, 4, 0] rfl ?_
  exact hrec_ v1 v2 v3 v4_51 μ
theorem t_Model_fewest_L8_b {cx : HCx} (hg : HGood cx R_Model b_Model_fewest 6 2 (some .int)) (hA : h_own cx)  (rec_ : Int32 → Int32 → Int32 → Int32 → HMem → Option (Int32 × HMem)) (hrec_ : p_Model_fewest_8 cx rec_) (v1 : Int32) (v2 : Int32) (v3 : Int32) (v4 : Int32) (μ : HMem) : HX cx (HQ cx h_eI) (f_Model_fewest_L8_b  rec_ v1 v2 v3 v4 μ) 0 0 8 [(0, .ref 125), (1, .int v1), (2, .int v2), (3, .int v3), (4, .int v4)] [] μ := by
  unfold f_Model_fewest_L8_b
  refine r_iload hg 4 d_Model_fewest_8 rfl ?_
  refine r_bipush (v := 8) hg d_Model_fewest_10 (by decide) ?_
  refine r_icmp_ge (tgt := 57) hg d_Model_fewest_12 (by decide) ?_ ?_
  · refine r_iload_n hg 2 d_Model_fewest_57 rfl rfl ?_
    exact r_iret hg hA rfl d_Model_fewest_58 rfl
  · refine r_aload_n hg 0 d_Model_fewest_15 rfl rfl ?_
    refine r_get (v := .ref 129) hg c_Model (by decide) rfl (Nat.le_of_ble_eq_true rfl) rfl wf_Model_19 d_Model_fewest_16 rfl ?_
    refine r_iload hg 4 d_Model_fewest_19 rfl ?_
    refine r_iald hg (by decide) rfl d_Model_fewest_21 ?_
    refine r_iload_n hg 1 d_Model_fewest_22 rfl rfl ?_
    refine r_iand hg d_Model_fewest_23 ?_
    refine r_callS (As := [.int ((μ.1 129 (Int32.toNatClampNeg (v4))) &&& v1)]) hg (t_Model_bits ((μ.1 129 (Int32.toNatClampNeg (v4))) &&& v1) μ) v_Model_bits wm_Model_174 d_Model_fewest_24 rfl ⟨by decide, by decide⟩ (Nat.le_of_ble_eq_true rfl) rfl (fun r24 μ_24 _ => ?_)
    refine r_istore (l' := [(5, .int r24), (0, .ref 125), (1, .int v1), (2, .int v2), (3, .int v3), (4, .int v4)]) hg d_Model_fewest_27 (Nat.le_of_ble_eq_true rfl) rfl ?_
    refine r_iload_n hg 2 d_Model_fewest_29 rfl rfl ?_
    refine r_iload hg 5 d_Model_fewest_30 rfl ?_
    refine r_ishr hg d_Model_fewest_32 ?_
    refine r_iconst (v := 1) hg d_Model_fewest_33 (by decide) ?_
    refine r_iand hg d_Model_fewest_34 ?_
    refine r_iconst (v := 1) hg d_Model_fewest_35 (by decide) ?_
    refine r_icmp_ne (tgt := 51) hg d_Model_fewest_36 (by decide) ?_ ?_
    · refine r_sub [1, 2, 3, 4, 5] rfl ?_
      exact t_Model_fewest_J51 hg hA rec_ hrec_ v1 v2 v3 v4 μ_24
    · refine r_iload hg 0 d_Model_fewest_39 rfl ?_
      refine r_iload_n hg 4 d_Model_fewest_41 rfl rfl ?_
      refine r_icmp_ge (tgt := 51) hg d_Model_fewest_42 (by decide) ?_ ?_
      · refine r_sub [1, 2, 3, 4, 5] rfl ?_
        exact t_Model_fewest_J51 hg hA rec_ hrec_ v1 v2 v3 v4 μ_24
      · refine r_iload hg 5 d_Model_fewest_45 rfl ?_
        refine r_istore_n (l' := [(2, .int v4), (5, .int r24), (0, .ref 125), (1, .int v1), (3, .int v3), (4, .int v4)]) hg d_Model_fewest_47 rfl (Nat.le_of_ble_eq_true rfl) rfl ?_
        refine r_iload hg 1 d_Model_fewest_48 rfl ?_
        refine r_istore_n (l' := [(3, .int r24), (2, .int v4), (5, .int r24), (0, .ref 125), (1, .int v1), (4, .int v4)]) hg d_Model_fewest_50 rfl (Nat.le_of_ble_eq_true rfl) rfl ?_
        refine r_sub [3, 4, 1, 0, 5] rfl ?_
        exact t_Model_fewest_J51 hg hA rec_ hrec_ v1 v4 r24 v4 μ_24
theorem t_Model_fewest_L8 {cx : HCx} (hg : HGood cx R_Model b_Model_fewest 6 2 (some .int)) (hA : h_own cx)  : ∀ (fuel : Nat) (v1 : Int32) (v2 : Int32) (v3 : Int32) (v4 : Int32) (μ : HMem), HX cx (HQ cx h_eI) (f_Model_fewest_L8  fuel v1 v2 v3 v4 μ) 0 0 8 [(0, .ref 125), (1, .int v1), (2, .int v2), (3, .int v3), (4, .int v4)] [] μ
  | 0, _, _, _, _, _ => by unfold f_Model_fewest_L8; exact HX.none
  | fuel + 1, v1, v2, v3, v4, μ => by
    rw [f_Model_fewest_L8]
    exact t_Model_fewest_L8_b hg hA   (f_Model_fewest_L8  fuel) (t_Model_fewest_L8 hg hA   fuel) v1 v2 v3 v4 μ
theorem t_Model_fewest_0 {cx : HCx} (hg : HGood cx R_Model b_Model_fewest 6 2 (some .int)) (hA : h_own cx) (v1 : Int32) (μ : HMem) : HX cx (HQ cx h_eI) (f_Model_fewest v1 μ) 0 0 0 [(0, .ref 125), (1, .int v1)] [] μ := by
  unfold f_Model_fewest
  refine r_iconst (v := -1) hg d_Model_fewest_0 (by decide) ?_
  refine r_istore_n (l' := [(2, .int (-1)), (0, .ref 125), (1, .int v1)]) hg d_Model_fewest_1 rfl (Nat.le_of_ble_eq_true rfl) rfl ?_
  refine r_bipush (v := 9) hg d_Model_fewest_2 (by decide) ?_
  refine r_istore_n (l' := [(3, .int 9), (2, .int (-1)), (0, .ref 125), (1, .int v1)]) hg d_Model_fewest_4 rfl (Nat.le_of_ble_eq_true rfl) rfl ?_
  refine r_iconst (v := 0) hg d_Model_fewest_5 (by decide) ?_
  refine r_istore (l' := [(4, .int 0), (3, .int 9), (2, .int (-1)), (0, .ref 125), (1, .int v1)]) hg d_Model_fewest_6 (Nat.le_of_ble_eq_true rfl) rfl ?_
  refine r_sub [3, 4, 2, 1, 0] rfl ?_
  exact t_Model_fewest_L8 hg hA h_fuel v1 (-1) 9 0 μ
theorem t_Model_fewest (v1 : Int32) (μ : HMem) : HSpec y_Model_fewest b_Model_fewest 6 (some .int) 2 h_eI [.ref 125, .int v1] μ (f_Model_fewest v1 μ) :=
  HSpec.of (by decide +kernel) (v_Model_fewest.1 _ (by simp)) (Nat.le_of_ble_eq_true rfl) (fun cx hA hg => t_Model_fewest_0 hg hA v1 μ)
theorem t_Model_joins_J63 {cx : HCx} (hg : HGood cx R_Model b_Model_joins 4 2 none) (hA : h_own cx)  (rec_ : Int32 → Int32 → HMem → Option (Unit × HMem)) (hrec_ : p_Model_joins_2 cx rec_) (v1 : Int32) (v2 : Int32) (μ : HMem) : HX cx (HQ cx h_eV) (f_Model_joins_J63  rec_ v1 v2 μ) 0 0 63 [(0, .ref 125), (1, .int v1), (2, .int v2)] [] μ := by
  unfold f_Model_joins_J63
  refine r_letE (fun v2_63 he_63 => ?_)
  refine r_iinc (v := v2_63) (l' := [(2, .int v2_63), (0, .ref 125), (1, .int v1)]) hg 2 d_Model_joins_63 rfl he_63 (Nat.le_of_ble_eq_true rfl) rfl ?_
  refine r_goto (tgt := 2) hg d_Model_joins_66 (by decide) ?_
  refine r_sub [1, 2, 0] rfl ?_
  exact hrec_ v1 v2_63 μ
theorem t_Model_joins_L2_b {cx : HCx} (hg : HGood cx R_Model b_Model_joins 4 2 none) (hA : h_own cx)  (rec_ : Int32 → Int32 → HMem → Option (Unit × HMem)) (hrec_ : p_Model_joins_2 cx rec_) (v1 : Int32) (v2 : Int32) (μ : HMem) : HX cx (HQ cx h_eV) (f_Model_joins_L2_b  rec_ v1 v2 μ) 0 0 2 [(0, .ref 125), (1, .int v1), (2, .int v2)] [] μ := by
  unfold f_Model_joins_L2_b
  refine r_iload_n hg 2 d_Model_joins_2 rfl rfl ?_
  refine r_bipush (v := 8) hg d_Model_joins_3 (by decide) ?_
  refine r_icmp_ge (tgt := 69) hg d_Model_joins_5 (by decide) ?_ ?_
  · exact r_vret hg hA rfl d_Model_joins_69 rfl
  · refine r_iload_n hg 1 d_Model_joins_8 rfl rfl ?_
    refine r_iload_n hg 2 d_Model_joins_9 rfl rfl ?_
    refine r_ishr hg d_Model_joins_10 ?_
    refine r_iconst (v := 1) hg d_Model_joins_11 (by decide) ?_
    refine r_iand hg d_Model_joins_12 ?_
    refine r_iconst (v := 1) hg d_Model_joins_13 (by decide) ?_
    refine r_icmp_ne (tgt := 63) hg d_Model_joins_14 (by decide) ?_ ?_
    · exact t_Model_joins_J63 hg hA rec_ hrec_ v1 v2 μ
    · refine r_iload_n hg 1 d_Model_joins_17 rfl rfl ?_
      refine r_iconst (v := 1) hg d_Model_joins_18 (by decide) ?_
      refine r_iload_n hg 2 d_Model_joins_19 rfl rfl ?_
      refine r_ishl hg d_Model_joins_20 ?_
      refine r_iconst (v := -1) hg d_Model_joins_21 (by decide) ?_
      refine r_ixor hg d_Model_joins_22 ?_
      refine r_iand hg d_Model_joins_23 ?_
      refine r_aload_n hg 0 d_Model_joins_24 rfl rfl ?_
      refine r_get (v := .ref 129) hg c_Model (by decide) rfl (Nat.le_of_ble_eq_true rfl) rfl wf_Model_19 d_Model_joins_25 rfl ?_
      refine r_iload_n hg 2 d_Model_joins_28 rfl rfl ?_
      refine r_iald hg (by decide) rfl d_Model_joins_29 ?_
      refine r_iconst (v := -1) hg d_Model_joins_30 (by decide) ?_
      refine r_ixor hg d_Model_joins_31 ?_
      refine r_iand hg d_Model_joins_32 ?_
      refine r_letI (fun v3_33 => ?_)
      refine r_istore_n (l' := [(3, .int v3_33), (0, .ref 125), (1, .int v1), (2, .int v2)]) hg d_Model_joins_33 rfl (Nat.le_of_ble_eq_true rfl) rfl ?_
      refine r_aload_n hg 1 d_Model_joins_34 rfl rfl ?_
      refine r_dup hg d_Model_joins_35 rfl ?_
      refine r_get (v := .int (μ.1 125 10)) hg c_Model (by decide) rfl (Nat.le_of_ble_eq_true rfl) rfl wf_Model_180 d_Model_joins_36 rfl ?_
      refine r_iload_n hg 0 d_Model_joins_39 rfl rfl ?_
      refine r_iconst (v := 1) hg d_Model_joins_40 (by decide) ?_
      refine r_iload_n hg 3 d_Model_joins_41 rfl rfl ?_
      refine r_ishl hg d_Model_joins_42 ?_
      refine r_iconst (v := 1) hg d_Model_joins_43 (by decide) ?_
      refine r_isub hg d_Model_joins_44 ?_
      refine r_iand hg d_Model_joins_45 ?_
      refine r_callS (As := [.int (v3_33 &&& ((h_ishl 1 v2) - 1))]) hg (t_Model_bits (v3_33 &&& ((h_ishl 1 v2) - 1)) μ) v_Model_bits wm_Model_174 d_Model_joins_46 rfl ⟨by decide, by decide⟩ (Nat.le_of_ble_eq_true rfl) rfl (fun r46 μ_46 _ => ?_)
      refine r_iadd hg d_Model_joins_49 ?_
      refine r_put hg c_Model t_Model_ok n_Model (by decide) rfl (Nat.le_of_ble_eq_true rfl) rfl rfl (by decide +kernel) wf_Model_180 d_Model_joins_50 ?_
      refine r_letM (fun μ_50 => ?_)
      refine r_aload_n hg 1 d_Model_joins_53 rfl rfl ?_
      refine r_get (v := .ref 129) hg c_Model (by decide) rfl (Nat.le_of_ble_eq_true rfl) rfl wf_Model_19 d_Model_joins_54 rfl ?_
      refine r_iload_n hg 3 d_Model_joins_57 rfl rfl ?_
      refine r_dup2 hg d_Model_joins_58 rfl rfl ?_
      refine r_iald hg (by decide) rfl d_Model_joins_59 ?_
      refine r_iload_n hg 0 d_Model_joins_60 rfl rfl ?_
      refine r_ior hg d_Model_joins_61 ?_
      refine r_iast hg (by decide) rfl d_Model_joins_62 ?_
      refine r_letM (fun μ_62 => ?_)
      refine r_sub [1, 2, 3] rfl ?_
      exact t_Model_joins_J63 hg hA rec_ hrec_ v1 v2 μ_62
theorem t_Model_joins_L2 {cx : HCx} (hg : HGood cx R_Model b_Model_joins 4 2 none) (hA : h_own cx)  : ∀ (fuel : Nat) (v1 : Int32) (v2 : Int32) (μ : HMem), HX cx (HQ cx h_eV) (f_Model_joins_L2  fuel v1 v2 μ) 0 0 2 [(0, .ref 125), (1, .int v1), (2, .int v2)] [] μ
  | 0, _, _, _ => by unfold f_Model_joins_L2; exact HX.none
  | fuel + 1, v1, v2, μ => by
    rw [f_Model_joins_L2]
    exact t_Model_joins_L2_b hg hA   (f_Model_joins_L2  fuel) (t_Model_joins_L2 hg hA   fuel) v1 v2 μ
theorem t_Model_joins_0 {cx : HCx} (hg : HGood cx R_Model b_Model_joins 4 2 none) (hA : h_own cx) (v1 : Int32) (μ : HMem) : HX cx (HQ cx h_eV) (f_Model_joins v1 μ) 0 0 0 [(0, .ref 125), (1, .int v1)] [] μ := by
  unfold f_Model_joins
  refine r_iconst (v := 0) hg d_Model_joins_0 (by decide) ?_
  refine r_istore_n (l' := [(2, .int 0), (0, .ref 125), (1, .int v1)]) hg d_Model_joins_1 rfl (Nat.le_of_ble_eq_true rfl) rfl ?_
  refine r_sub [1, 2, 0] rfl ?_
  exact t_Model_joins_L2 hg hA h_fuel v1 0 μ
theorem t_Model_joins (v1 : Int32) (μ : HMem) : HSpec y_Model_joins b_Model_joins 4 none 2 h_eV [.ref 125, .int v1] μ (f_Model_joins v1 μ) :=
  HSpec.of (by decide +kernel) (v_Model_joins.1 _ (by simp)) (Nat.le_of_ble_eq_true rfl) (fun cx hA hg => t_Model_joins_0 hg hA v1 μ)
theorem t_Model_eliminates_L9_b {cx : HCx} (hg : HGood cx R_Model b_Model_eliminates 8 4 none) (hA : h_own cx) (K42 : Int32 → Int32 → HMem → Option (Unit × HMem)) (hK42 : p_Model_eliminates_42 cx K42) (rec_ : Int32 → Int32 → Int32 → Int32 → HMem → Option (Unit × HMem)) (hrec_ : p_Model_eliminates_9 cx rec_) (v1 : Int32) (v2 : Int32) (v3 : Int32) (v4 : Int32) (μ : HMem) : HX cx (HQ cx h_eV) (f_Model_eliminates_L9_b K42 rec_ v1 v2 v3 v4 μ) 0 0 9 [(0, .ref 125), (1, .int v1), (2, .int v2), (3, .int v3), (4, .int v4)] [] μ := by
  unfold f_Model_eliminates_L9_b
  refine r_iload hg 4 d_Model_eliminates_9 rfl ?_
  refine r_iload_n hg 3 d_Model_eliminates_11 rfl rfl ?_
  refine r_icmp_ge (tgt := 42) hg d_Model_eliminates_12 (by decide) ?_ ?_
  · refine r_sub [0, 2, 3] rfl ?_
    exact hK42 v2 v3 μ
  · refine r_aload_n hg 0 d_Model_eliminates_15 rfl rfl ?_
    refine r_get (v := .ref 129) hg c_Model (by decide) rfl (Nat.le_of_ble_eq_true rfl) rfl wf_Model_19 d_Model_eliminates_16 rfl ?_
    refine r_iload hg 4 d_Model_eliminates_19 rfl ?_
    refine r_aload_n hg 0 d_Model_eliminates_21 rfl rfl ?_
    refine r_iload_n hg 1 d_Model_eliminates_22 rfl rfl ?_
    refine r_iload hg 4 d_Model_eliminates_23 rfl ?_
    refine r_callV (As := [.int v1, .int v4]) hg (t_Model_near v1 v4 μ) v_Model_near c_Model rfl (by decide) rfl wm_Model_161 d_Model_eliminates_25 rfl ⟨by decide, by decide⟩ (Nat.le_of_ble_eq_true rfl) rfl (fun r25 μ_25 _ => ?_)
    refine r_iconst (v := 1) hg d_Model_eliminates_28 (by decide) ?_
    refine r_iload hg 4 d_Model_eliminates_29 rfl ?_
    refine r_ishl hg d_Model_eliminates_31 ?_
    refine r_iconst (v := -1) hg d_Model_eliminates_32 (by decide) ?_
    refine r_ixor hg d_Model_eliminates_33 ?_
    refine r_iand hg d_Model_eliminates_34 ?_
    refine r_iast hg (by decide) rfl d_Model_eliminates_35 ?_
    refine r_letM (fun μ_35 => ?_)
    refine r_letE (fun v4_36 he_36 => ?_)
    refine r_iinc (v := v4_36) (l' := [(4, .int v4_36), (0, .ref 125), (1, .int v1), (2, .int v2), (3, .int v3)]) hg 4 d_Model_eliminates_36 rfl he_36 (Nat.le_of_ble_eq_true rfl) rfl ?_
    refine r_goto (tgt := 9) hg d_Model_eliminates_39 (by decide) ?_
    refine r_sub [1, 2, 3, 4, 0] rfl ?_
    exact hrec_ v1 v2 v3 v4_36 μ_35
theorem t_Model_eliminates_L9 {cx : HCx} (hg : HGood cx R_Model b_Model_eliminates 8 4 none) (hA : h_own cx) (K42 : Int32 → Int32 → HMem → Option (Unit × HMem)) (hK42 : p_Model_eliminates_42 cx K42) : ∀ (fuel : Nat) (v1 : Int32) (v2 : Int32) (v3 : Int32) (v4 : Int32) (μ : HMem), HX cx (HQ cx h_eV) (f_Model_eliminates_L9 K42 fuel v1 v2 v3 v4 μ) 0 0 9 [(0, .ref 125), (1, .int v1), (2, .int v2), (3, .int v3), (4, .int v4)] [] μ
  | 0, _, _, _, _, _ => by unfold f_Model_eliminates_L9; exact HX.none
  | fuel + 1, v1, v2, v3, v4, μ => by
    rw [f_Model_eliminates_L9]
    exact t_Model_eliminates_L9_b hg hA  K42 hK42 (f_Model_eliminates_L9 K42 fuel) (t_Model_eliminates_L9 hg hA  K42 hK42 fuel) v1 v2 v3 v4 μ
theorem t_Model_eliminates_J155 {cx : HCx} (hg : HGood cx R_Model b_Model_eliminates 8 4 none) (hA : h_own cx)  (rec_ : Int32 → Int32 → Int32 → Int32 → HMem → Option (Unit × HMem)) (hrec_ : p_Model_eliminates_62 cx rec_) (v2 : Int32) (v3 : Int32) (v4 : Int32) (v5 : Int32) (v6 : Int32) (v7 : Int32) (s0 : Int32) (μ : HMem) : HX cx (HQ cx h_eV) (f_Model_eliminates_J155  rec_ v2 v3 v4 v5 v6 v7 s0 μ) 0 0 155 [(0, .ref 125), (2, .int v2), (3, .int v3), (4, .int v4), (5, .int v5), (6, .int v6), (7, .int v7)] [.int s0, .ref 125] μ := by
  unfold f_Model_eliminates_J155
  refine r_put hg c_Model t_Model_ok n_Model (by decide) rfl (Nat.le_of_ble_eq_true rfl) rfl rfl (by decide +kernel) wf_Model_177 d_Model_eliminates_155 ?_
  refine r_letM (fun μ_155 => ?_)
  refine r_aload_n hg 0 d_Model_eliminates_158 rfl rfl ?_
  refine r_iload hg 6 d_Model_eliminates_159 rfl ?_
  refine r_callV (As := [.int v7]) hg (t_Model_joins v7 μ_155) v_Model_joins c_Model rfl (by decide) rfl wm_Model_186 d_Model_eliminates_161 rfl ⟨by decide, by decide⟩ (Nat.le_of_ble_eq_true rfl) rfl (fun r161 μ_161 _ => ?_)
  refine r_iload hg 3 d_Model_eliminates_164 rfl ?_
  refine r_iconst (v := 1) hg d_Model_eliminates_166 (by decide) ?_
  refine r_iload hg 5 d_Model_eliminates_167 rfl ?_
  refine r_ishl hg d_Model_eliminates_169 ?_
  refine r_iconst (v := -1) hg d_Model_eliminates_170 (by decide) ?_
  refine r_ixor hg d_Model_eliminates_171 ?_
  refine r_iand hg d_Model_eliminates_172 ?_
  refine r_letI (fun v4_173 => ?_)
  refine r_istore (l' := [(4, .int v4_173), (0, .ref 125), (2, .int v2), (3, .int v3), (5, .int v5), (6, .int v6), (7, .int v7)]) hg d_Model_eliminates_173 (Nat.le_of_ble_eq_true rfl) rfl ?_
  refine r_letE (fun v5_175 he_175 => ?_)
  refine r_iinc (v := v5_175) (l' := [(5, .int v5_175), (4, .int v4_173), (0, .ref 125), (2, .int v2), (3, .int v3), (6, .int v6), (7, .int v7)]) hg 4 d_Model_eliminates_175 rfl he_175 (Nat.le_of_ble_eq_true rfl) rfl ?_
  refine r_goto (tgt := 62) hg d_Model_eliminates_178 (by decide) ?_
  refine r_sub [2, 3, 4, 1, 0] rfl ?_
  exact hrec_ v2 v3 v4_173 v5_175 μ_161
theorem t_Model_eliminates_J94 {cx : HCx} (hg : HGood cx R_Model b_Model_eliminates 8 4 none) (hA : h_own cx)  (rec_ : Int32 → Int32 → Int32 → Int32 → HMem → Option (Unit × HMem)) (hrec_ : p_Model_eliminates_62 cx rec_) (v2 : Int32) (v3 : Int32) (v4 : Int32) (v5 : Int32) (s0 : Int32) (s1 : Int32) (μ : HMem) : HX cx (HQ cx h_eV) (f_Model_eliminates_J94  rec_ v2 v3 v4 v5 s0 s1 μ) 0 0 94 [(0, .ref 125), (2, .int v2), (3, .int v3), (4, .int v4), (5, .int v5)] [.int s0, .int s1, .ref 130] μ := by
  unfold f_Model_eliminates_J94
  refine r_iast hg (by decide) rfl d_Model_eliminates_94 ?_
  refine r_letM (fun μ_94 => ?_)
  refine r_aload_n hg 0 d_Model_eliminates_95 rfl rfl ?_
  refine r_get (v := .ref 130) hg c_Model (by decide) rfl (Nat.le_of_ble_eq_true rfl) rfl wf_Model_22 d_Model_eliminates_96 rfl ?_
  refine r_iload hg 4 d_Model_eliminates_99 rfl ?_
  refine r_iald hg (by decide) rfl d_Model_eliminates_101 ?_
  refine r_letI (fun v6_102 => ?_)
  refine r_istore (l' := [(6, .int v6_102), (0, .ref 125), (2, .int v2), (3, .int v3), (4, .int v4), (5, .int v5)]) hg d_Model_eliminates_102 (Nat.le_of_ble_eq_true rfl) rfl ?_
  refine r_aload_n hg 1 d_Model_eliminates_104 rfl rfl ?_
  refine r_get (v := .ref 129) hg c_Model (by decide) rfl (Nat.le_of_ble_eq_true rfl) rfl wf_Model_19 d_Model_eliminates_105 rfl ?_
  refine r_iload hg 0 d_Model_eliminates_108 rfl ?_
  refine r_iald hg (by decide) rfl d_Model_eliminates_110 ?_
  refine r_iload hg 4 d_Model_eliminates_111 rfl ?_
  refine r_iand hg d_Model_eliminates_113 ?_
  refine r_letI (fun v7_114 => ?_)
  refine r_istore (l' := [(7, .int v7_114), (6, .int v6_102), (0, .ref 125), (2, .int v2), (3, .int v3), (4, .int v4), (5, .int v5)]) hg d_Model_eliminates_114 (Nat.le_of_ble_eq_true rfl) rfl ?_
  refine r_aload_n hg 2 d_Model_eliminates_116 rfl rfl ?_
  refine r_get (v := .ref 131) hg c_Model (by decide) rfl (Nat.le_of_ble_eq_true rfl) rfl wf_Model_25 d_Model_eliminates_117 rfl ?_
  refine r_iload hg 1 d_Model_eliminates_120 rfl ?_
  refine r_iload hg 0 d_Model_eliminates_122 rfl ?_
  refine r_iconst (v := 1) hg d_Model_eliminates_124 (by decide) ?_
  refine r_iload hg 1 d_Model_eliminates_125 rfl ?_
  refine r_ishl hg d_Model_eliminates_127 ?_
  refine r_ior hg d_Model_eliminates_128 ?_
  refine r_iast hg (by decide) rfl d_Model_eliminates_129 ?_
  refine r_letM (fun μ_129 => ?_)
  refine r_aload_n hg 2 d_Model_eliminates_130 rfl rfl ?_
  refine r_iload hg 0 d_Model_eliminates_131 rfl ?_
  refine r_callS (As := [.int v7_114]) hg (t_Model_bits v7_114 μ_129) v_Model_bits wm_Model_174 d_Model_eliminates_133 rfl ⟨by decide, by decide⟩ (Nat.le_of_ble_eq_true rfl) rfl (fun r133 μ_133 _ => ?_)
  refine r_aload_n hg 2 d_Model_eliminates_136 rfl rfl ?_
  refine r_get (v := .int (μ_133.1 125 9)) hg c_Model (by decide) rfl (Nat.le_of_ble_eq_true rfl) rfl wf_Model_177 d_Model_eliminates_137 rfl ?_
  refine r_icmp_le (tgt := 151) hg d_Model_eliminates_140 (by decide) ?_ ?_
  · refine r_aload_n hg 2 d_Model_eliminates_151 rfl rfl ?_
    refine r_get (v := .int (μ_133.1 125 9)) hg c_Model (by decide) rfl (Nat.le_of_ble_eq_true rfl) rfl wf_Model_177 d_Model_eliminates_152 rfl ?_
    refine r_sub [2, 3, 4, 5, 6, 1, 0] rfl ?_
    exact t_Model_eliminates_J155 hg hA rec_ hrec_ v2 v3 v4 v5 v6_102 v7_114 (μ_133.1 125 9) μ_133
  · refine r_iload hg 0 d_Model_eliminates_143 rfl ?_
    refine r_callS (As := [.int v7_114]) hg (t_Model_bits v7_114 μ_133) v_Model_bits wm_Model_174 d_Model_eliminates_145 rfl ⟨by decide, by decide⟩ (Nat.le_of_ble_eq_true rfl) rfl (fun r145 μ_145 _ => ?_)
    refine r_goto (tgt := 155) hg d_Model_eliminates_148 (by decide) ?_
    refine r_sub [2, 3, 4, 5, 6, 1, 0] rfl ?_
    exact t_Model_eliminates_J155 hg hA rec_ hrec_ v2 v3 v4 v5 v6_102 v7_114 r145 μ_145
theorem t_Model_eliminates_L62_b {cx : HCx} (hg : HGood cx R_Model b_Model_eliminates 8 4 none) (hA : h_own cx)  (rec_ : Int32 → Int32 → Int32 → Int32 → HMem → Option (Unit × HMem)) (hrec_ : p_Model_eliminates_62 cx rec_) (v2 : Int32) (v3 : Int32) (v4 : Int32) (v5 : Int32) (μ : HMem) : HX cx (HQ cx h_eV) (f_Model_eliminates_L62_b  rec_ v2 v3 v4 v5 μ) 0 0 62 [(0, .ref 125), (2, .int v2), (3, .int v3), (4, .int v4), (5, .int v5)] [] μ := by
  unfold f_Model_eliminates_L62_b
  refine r_iload hg 4 d_Model_eliminates_62 rfl ?_
  refine r_iload_n hg 2 d_Model_eliminates_64 rfl rfl ?_
  refine r_icmp_ge (tgt := 181) hg d_Model_eliminates_65 (by decide) ?_ ?_
  · exact r_vret hg hA rfl d_Model_eliminates_181 rfl
  · refine r_aload_n hg 0 d_Model_eliminates_68 rfl rfl ?_
    refine r_get (v := .ref 130) hg c_Model (by decide) rfl (Nat.le_of_ble_eq_true rfl) rfl wf_Model_22 d_Model_eliminates_69 rfl ?_
    refine r_iload hg 4 d_Model_eliminates_72 rfl ?_
    refine r_iload_n hg 1 d_Model_eliminates_74 rfl rfl ?_
    refine r_if_eq (tgt := 87) hg d_Model_eliminates_75 (by decide) ?_ ?_
    · refine r_aload_n hg 0 d_Model_eliminates_87 rfl rfl ?_
      refine r_get (v := .ref 130) hg c_Model (by decide) rfl (Nat.le_of_ble_eq_true rfl) rfl wf_Model_22 d_Model_eliminates_88 rfl ?_
      refine r_iload hg 4 d_Model_eliminates_91 rfl ?_
      refine r_iald hg (by decide) rfl d_Model_eliminates_93 ?_
      exact t_Model_eliminates_J94 hg hA rec_ hrec_ v2 v3 v4 v5 (μ.1 130 (Int32.toNatClampNeg (v5))) v5 μ
    · refine r_aload_n hg 0 d_Model_eliminates_78 rfl rfl ?_
      refine r_iload hg 3 d_Model_eliminates_79 rfl ?_
      refine r_callV (As := [.int v4]) hg (t_Model_fewest v4 μ) v_Model_fewest c_Model rfl (by decide) rfl wm_Model_183 d_Model_eliminates_81 rfl ⟨by decide, by decide⟩ (Nat.le_of_ble_eq_true rfl) rfl (fun r81 μ_81 _ => ?_)
      refine r_goto (tgt := 94) hg d_Model_eliminates_84 (by decide) ?_
      exact t_Model_eliminates_J94 hg hA rec_ hrec_ v2 v3 v4 v5 r81 v5 μ_81
theorem t_Model_eliminates_L62 {cx : HCx} (hg : HGood cx R_Model b_Model_eliminates 8 4 none) (hA : h_own cx)  : ∀ (fuel : Nat) (v2 : Int32) (v3 : Int32) (v4 : Int32) (v5 : Int32) (μ : HMem), HX cx (HQ cx h_eV) (f_Model_eliminates_L62  fuel v2 v3 v4 v5 μ) 0 0 62 [(0, .ref 125), (2, .int v2), (3, .int v3), (4, .int v4), (5, .int v5)] [] μ
  | 0, _, _, _, _, _ => by unfold f_Model_eliminates_L62; exact HX.none
  | fuel + 1, v2, v3, v4, v5, μ => by
    rw [f_Model_eliminates_L62]
    exact t_Model_eliminates_L62_b hg hA   (f_Model_eliminates_L62  fuel) (t_Model_eliminates_L62 hg hA   fuel) v2 v3 v4 v5 μ
theorem t_Model_eliminates_J42 {cx : HCx} (hg : HGood cx R_Model b_Model_eliminates 8 4 none) (hA : h_own cx)   (v2 : Int32) (v3 : Int32) (μ : HMem) : HX cx (HQ cx h_eV) (f_Model_eliminates_J42   v2 v3 μ) 0 0 42 [(0, .ref 125), (2, .int v2), (3, .int v3)] [] μ := by
  unfold f_Model_eliminates_J42
  refine r_aload_n hg 0 d_Model_eliminates_42 rfl rfl ?_
  refine r_iconst (v := -1) hg d_Model_eliminates_43 (by decide) ?_
  refine r_put hg c_Model t_Model_ok n_Model (by decide) rfl (Nat.le_of_ble_eq_true rfl) rfl rfl (by decide +kernel) wf_Model_177 d_Model_eliminates_44 ?_
  refine r_letM (fun μ_44 => ?_)
  refine r_aload_n hg 0 d_Model_eliminates_47 rfl rfl ?_
  refine r_iconst (v := 0) hg d_Model_eliminates_48 (by decide) ?_
  refine r_put hg c_Model t_Model_ok n_Model (by decide) rfl (Nat.le_of_ble_eq_true rfl) rfl rfl (by decide +kernel) wf_Model_180 d_Model_eliminates_49 ?_
  refine r_letM (fun μ_49 => ?_)
  refine r_iconst (v := 1) hg d_Model_eliminates_52 (by decide) ?_
  refine r_iload_n hg 2 d_Model_eliminates_53 rfl rfl ?_
  refine r_ishl hg d_Model_eliminates_54 ?_
  refine r_iconst (v := 1) hg d_Model_eliminates_55 (by decide) ?_
  refine r_isub hg d_Model_eliminates_56 ?_
  refine r_letI (fun v4_57 => ?_)
  refine r_istore (l' := [(4, .int v4_57), (0, .ref 125), (2, .int v2), (3, .int v3)]) hg d_Model_eliminates_57 (Nat.le_of_ble_eq_true rfl) rfl ?_
  refine r_iconst (v := 0) hg d_Model_eliminates_59 (by decide) ?_
  refine r_istore (l' := [(5, .int 0), (4, .int v4_57), (0, .ref 125), (2, .int v2), (3, .int v3)]) hg d_Model_eliminates_60 (Nat.le_of_ble_eq_true rfl) rfl ?_
  refine r_sub [2, 3, 4, 1, 0] rfl ?_
  exact t_Model_eliminates_L62 hg hA h_fuel v2 v3 v4_57 0 μ_49
theorem t_Model_eliminates_0 {cx : HCx} (hg : HGood cx R_Model b_Model_eliminates 8 4 none) (hA : h_own cx) (v1 : Int32) (v2 : Int32) (μ : HMem) : HX cx (HQ cx h_eV) (f_Model_eliminates v1 v2 μ) 0 0 0 [(0, .ref 125), (1, .int v1), (2, .int v2)] [] μ := by
  unfold f_Model_eliminates
  refine r_aload_n hg 0 d_Model_eliminates_0 rfl rfl ?_
  refine r_iload_n hg 1 d_Model_eliminates_1 rfl rfl ?_
  refine r_callV (As := [.int v1]) hg (t_Model_size v1 μ) v_Model_size c_Model rfl (by decide) rfl wm_Model_75 d_Model_eliminates_2 rfl ⟨by decide, by decide⟩ (Nat.le_of_ble_eq_true rfl) rfl (fun r2 μ_2 _ => ?_)
  refine r_istore_n (l' := [(3, .int r2), (0, .ref 125), (1, .int v1), (2, .int v2)]) hg d_Model_eliminates_5 rfl (Nat.le_of_ble_eq_true rfl) rfl ?_
  refine r_iconst (v := 0) hg d_Model_eliminates_6 (by decide) ?_
  refine r_istore (l' := [(4, .int 0), (3, .int r2), (0, .ref 125), (1, .int v1), (2, .int v2)]) hg d_Model_eliminates_7 (Nat.le_of_ble_eq_true rfl) rfl ?_
  refine r_sub [2, 3, 4, 1, 0] rfl ?_
  exact t_Model_eliminates_L9 hg hA f_Model_eliminates_J42 (t_Model_eliminates_J42 hg hA) h_fuel v1 v2 r2 0 μ_2
theorem t_Model_eliminates (v1 : Int32) (v2 : Int32) (μ : HMem) : HSpec y_Model_eliminates b_Model_eliminates 8 none 4 h_eV [.ref 125, .int v1, .int v2] μ (f_Model_eliminates v1 v2 μ) :=
  HSpec.of (by decide +kernel) (v_Model_eliminates.1 _ (by simp)) (Nat.le_of_ble_eq_true rfl) (fun cx hA hg => t_Model_eliminates_0 hg hA v1 v2 μ)
